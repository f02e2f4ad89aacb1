def wX1_letterOf_b19 (Q : Int32 → ST → Prop) (x0 : Int32) (u : ST) : Prop :=
  ((x0 < 48 → Q 0 u) ∧ (¬ x0 < 48 → ((57 < x0 → Q 0 u) ∧ (¬ 57 < x0 → Q ((x0 - 48) + 27) u))))
set_option maxHeartbeats 4000000 in
set_option maxRecDepth 100000 in
theorem kX1_letterOf_b19 {p : Program} {l : Launch} {e : Env} {s : State} {m : MethodId} {args : Array Value} {below : List Frame} {meth : Method} {c : Code} {D : va_G} {cy : CY} {A : Nat → Prop} {ad : Nat → Nat} {Q : Int32 → ST → Prop} (C : kC p m c cX1_letterOf 1 s args RX1 D cy A) (hr : meth.sig.returnType = some .int) (hlk : meth.locks = false) : ∀ (x0 : Int32) (u : ST) (H : Heap) (locs : List Loc) (ls : Array Slot), wX1_letterOf_b19 Q x0 u → kH D (cW cy ad) A s u H locs → lv_has ls 1 [(0, .int x0)] → W p l e (kRm 0) s m args below meth c H locs 0 0 (MQ below (kQi D (cW cy ad) cy A Q) args s 0 0 A) (F0 m 19 ls []) := by
  intro x0 u H locs ls hw h hl
  obtain ⟨⟨hx, hb, hml, hown, hts⟩, hK, hA⟩ := id C
  unfold wX1_letterOf_b19 at hw
  refine lv_iload_n hx hb dX1_letterOf_19 rfl (lv_at hl 0 rfl) ?_
  refine lv_bipush (v := 48) hx hb dX1_letterOf_20 (by decide) ?_
  refine lv_icmp_lt (tgt := 41) hx hb dX1_letterOf_22 (by decide) (fun c_22 => ?_) (fun c_22 => ?_)
  · have hw := hw.1 c_22
    refine lv_iconst (v := 0) hx hb dX1_letterOf_41 (by decide) ?_
    exact kretI C hr hlk h hw dX1_letterOf_42
  · have hw := hw.2 c_22
    refine lv_iload_n hx hb dX1_letterOf_25 rfl (lv_at hl 0 rfl) ?_
    refine lv_bipush (v := 57) hx hb dX1_letterOf_26 (by decide) ?_
    refine lv_icmp_gt (tgt := 41) hx hb dX1_letterOf_28 (by decide) (fun c_28 => ?_) (fun c_28 => ?_)
    · have hw := hw.1 c_28
      refine lv_iconst (v := 0) hx hb dX1_letterOf_41 (by decide) ?_
      exact kretI C hr hlk h hw dX1_letterOf_42
    · have hw := hw.2 c_28
      refine lv_iload_n hx hb dX1_letterOf_31 rfl (lv_at hl 0 rfl) ?_
      refine lv_bipush (v := 48) hx hb dX1_letterOf_32 (by decide) ?_
      refine lv_isub hx hb dX1_letterOf_34 ?_
      refine lv_bipush (v := 27) hx hb dX1_letterOf_35 (by decide) ?_
      refine lv_iadd hx hb dX1_letterOf_37 ?_
      refine lv_goto (tgt := 42) hx hb dX1_letterOf_38 (by decide) ?_
      exact kretI C hr hlk h hw dX1_letterOf_42
def wX1_letterOf (x0 : Int32) (u : ST) (Q : Int32 → ST → Prop) : Prop :=
  ((x0 < 97 → wX1_letterOf_b19 Q x0 u) ∧ (¬ x0 < 97 → ((122 < x0 → wX1_letterOf_b19 Q x0 u) ∧ (¬ 122 < x0 → Q ((x0 - 97) + 1) u))))
set_option maxHeartbeats 4000000 in
set_option maxRecDepth 100000 in
theorem mX1_letterOf (l : Launch) (D : va_G) (cy : CY) (ad : Nat → Nat) (x0 : Int32) (u : ST) (sz : Nat) {Q : Int32 → ST → Prop} (hw : wX1_letterOf x0 u Q) : Met l yX1_letterOf (wM yX1_letterOf cX1_letterOf 1 (some .int)) (kRm 0) (kPc D (cW cy ad) cy u sz [.int x0]) (kQi D (cW cy ad) cy (va_A (cW cy ad u) sz) Q) 0 0 (va_A (cW cy ad u) sz) := by
  refine kMet pn_X1_letterOf (Nat.le_of_ble_eq_true rfl) (fun p e s m below meth c ls hsz C hr hlk hex h hl => ?_)
  have hl : lv_has ls 1 [(0, .int x0)] := hl
  obtain ⟨⟨hx, hb, hml, hown, hts⟩, hK, hA⟩ := id C
  unfold wX1_letterOf at hw
  have h : kH D (cW cy ad) (va_A (cW cy ad u) sz) s u s.heap [] := h
  refine lv_iload_n hx hb dX1_letterOf_0 rfl (lv_at hl 0 rfl) ?_
  refine lv_bipush (v := 97) hx hb dX1_letterOf_1 (by decide) ?_
  refine lv_icmp_lt (tgt := 19) hx hb dX1_letterOf_3 (by decide) (fun c_3 => ?_) (fun c_3 => ?_)
  · have hw := hw.1 c_3
    exact kX1_letterOf_b19 C hr hlk x0 _ _ _ _ hw h (lv_sub hl [0] rfl)
  · have hw := hw.2 c_3
    refine lv_iload_n hx hb dX1_letterOf_6 rfl (lv_at hl 0 rfl) ?_
    refine lv_bipush (v := 122) hx hb dX1_letterOf_7 (by decide) ?_
    refine lv_icmp_gt (tgt := 19) hx hb dX1_letterOf_9 (by decide) (fun c_9 => ?_) (fun c_9 => ?_)
    · have hw := hw.1 c_9
      exact kX1_letterOf_b19 C hr hlk x0 _ _ _ _ hw h (lv_sub hl [0] rfl)
    · have hw := hw.2 c_9
      refine lv_iload_n hx hb dX1_letterOf_12 rfl (lv_at hl 0 rfl) ?_
      refine lv_bipush (v := 97) hx hb dX1_letterOf_13 (by decide) ?_
      refine lv_isub hx hb dX1_letterOf_15 ?_
      refine lv_iconst (v := 1) hx hb dX1_letterOf_16 (by decide) ?_
      refine lv_iadd hx hb dX1_letterOf_17 ?_
      exact kretI C hr hlk h hw dX1_letterOf_18

def wX1_find_B2 (K2 : Nat → Int64 → Int32 → ST → Prop) (Q : Int32 → ST → Prop) (t0 : Nat) (y1 : Int64) (x3 : Int32) (u : ST) : Prop :=
  (((gI u (12 + t0)) ≤ x3 → Q (-1) u) ∧ (¬ (gI u (12 + t0)) ≤ x3 → (vp_in x3 (lenL (1 + t0)) ∧ ((¬ (lg_cmp (gB u (1 + t0) x3.toNatClampNeg) y1) = 0 → K2 t0 y1 (x3 + 1) u) ∧ ((lg_cmp (gB u (1 + t0) x3.toNatClampNeg) y1) = 0 → Q x3 u)))))
set_option maxHeartbeats 4000000 in
set_option maxRecDepth 100000 in
theorem kX1_find_B2 {p : Program} {l : Launch} {e : Env} {s : State} {m : MethodId} {args : Array Value} {below : List Frame} {meth : Method} {c : Code} {D : va_G} {cy : CY} {A : Nat → Prop} {ad : Nat → Nat} {K2 : Nat → Int64 → Int32 → ST → Prop} {Q : Int32 → ST → Prop} (C : kC p m c cX1_find 4 s args RX1 D cy A) (hr : meth.sig.returnType = some .int) (hlk : meth.locks = false) (g2 : ∀ (t0 : Nat) (y1 : Int64) (x3 : Int32) (u : ST) (H : Heap) (locs : List Loc) (ls : Array Slot), K2 t0 y1 x3 u → t0 < 4 → kH D (cW cy ad) A s u H locs → lv_has ls 4 [(0, .ref (aN ad t0)), (1, .long y1), (3, .int x3)] → W p l e (kRm 0) s m args below meth c H locs 0 0 (MQ below (kQi D (cW cy ad) cy A Q) args s 0 0 A) (F0 m 2 ls [])) : ∀ (t0 : Nat) (y1 : Int64) (x3 : Int32) (u : ST) (H : Heap) (locs : List Loc) (ls : Array Slot), wX1_find_B2 K2 Q t0 y1 x3 u → t0 < 4 → kH D (cW cy ad) A s u H locs → lv_has ls 4 [(0, .ref (aN ad t0)), (1, .long y1), (3, .int x3)] → W p l e (kRm 0) s m args below meth c H locs 0 0 (MQ below (kQi D (cW cy ad) cy A Q) args s 0 0 A) (F0 m 2 ls []) := by
  intro t0 y1 x3 u H locs ls hw f_t0 h hl
  obtain ⟨⟨hx, hb, hml, hown, hts⟩, hK, hA⟩ := id C
  unfold wX1_find_B2 at hw
  refine lv_iload_n hx hb dX1_find_2 rfl (lv_at hl 2 rfl) ?_
  refine lv_aload_n hx hb dX1_find_3 rfl (lv_at hl 0 rfl) ?_
  refine kget C h (4 + t0) (cW_N cy ad u t0 (by omega)) rfl inBX1 1 (Nat.le_of_ble_eq_true rfl) wi_fl_X1_15 rfl dX1_find_4 ?_
  refine lv_icmp_ge (tgt := 29) hx hb dX1_find_7 (by decide) (fun c_7 => ?_) (fun c_7 => ?_)
  · have hw := hw.1 c_7
    refine lv_iconst (v := (-1)) hx hb dX1_find_29 (by decide) ?_
    exact kretI C hr hlk h hw dX1_find_30
  · have hw := hw.2 c_7
    refine lv_aload_n hx hb dX1_find_10 rfl (lv_at hl 0 rfl) ?_
    refine kget C h (4 + t0) (cW_N cy ad u t0 (by omega)) rfl inBX1 0 (Nat.le_of_ble_eq_true rfl) wi_fl_X1_9 rfl dX1_find_11 ?_
    refine lv_iload_n hx hb dX1_find_14 rfl (lv_at hl 2 rfl) ?_
    obtain ⟨i_15, hw⟩ := hw
    refine klald C h (11 + (1 + t0)) (cW_L cy ad u (1 + t0) (by omega)) i_15 dX1_find_15 ?_
    refine lv_lload_n hx hb dX1_find_16 rfl (lv_at hl 1 rfl) ?_
    refine W.lcmp hx hb dX1_find_17 ?_
    refine lv_if_ne (tgt := 23) hx hb dX1_find_18 (by decide) (fun c_18 => ?_) (fun c_18 => ?_)
    · have hw := hw.1 c_18
      refine lv_iinc (v := x3 + 1) (lv' := [(3, .int (x3 + 1)), (0, .ref (aN ad t0)), (1, .long y1)]) hx hb dX1_find_23 hl (k := 2) rfl rfl (by decide) rfl (fun ls hl => ?_)
      refine lv_goto (tgt := 2) hx hb dX1_find_26 (by decide) ?_
      exact g2 t0 y1 (x3 + 1) _ _ _ _ hw (by omega) h (lv_sub hl [1, 2, 0] rfl)
    · have hw := hw.2 c_18
      refine lv_iload_n hx hb dX1_find_21 rfl (lv_at hl 2 rfl) ?_
      exact kretI C hr hlk h hw dX1_find_22
def wX1_find_L2 (Q : Int32 → ST → Prop) : Nat → Nat → Int64 → Int32 → ST → Prop
  | 0, _, _, _, _ => False
  | n + 1, t0, y1, x3, u => wX1_find_B2 (wX1_find_L2 Q n) Q t0 y1 x3 u
set_option maxHeartbeats 4000000 in
theorem kX1_find_L2 {p : Program} {l : Launch} {e : Env} {s : State} {m : MethodId} {args : Array Value} {below : List Frame} {meth : Method} {c : Code} {D : va_G} {cy : CY} {A : Nat → Prop} {ad : Nat → Nat} {Q : Int32 → ST → Prop} (C : kC p m c cX1_find 4 s args RX1 D cy A) (hr : meth.sig.returnType = some .int) (hlk : meth.locks = false) : ∀ n : Nat, ∀ (t0 : Nat) (y1 : Int64) (x3 : Int32) (u : ST) (H : Heap) (locs : List Loc) (ls : Array Slot), wX1_find_L2 Q n t0 y1 x3 u → t0 < 4 → kH D (cW cy ad) A s u H locs → lv_has ls 4 [(0, .ref (aN ad t0)), (1, .long y1), (3, .int x3)] → W p l e (kRm 0) s m args below meth c H locs 0 0 (MQ below (kQi D (cW cy ad) cy A Q) args s 0 0 A) (F0 m 2 ls []) := by
  intro n
  induction n with
  | zero => intro t0 y1 x3 u H locs ls hw; exact False.elim hw
  | succ n ih => exact kX1_find_B2 C hr hlk ih
def wX1_find (t0 : Nat) (y1 : Int64) (u : ST) (Q : Int32 → ST → Prop) : Prop :=
  (∃ n : Nat, wX1_find_L2 Q n t0 y1 0 u)
set_option maxHeartbeats 4000000 in
set_option maxRecDepth 100000 in
theorem mX1_find (l : Launch) (D : va_G) (cy : CY) (ad : Nat → Nat) (t0 : Nat) (y1 : Int64) (u : ST) (sz : Nat) {Q : Int32 → ST → Prop} (f_t0 : t0 < 4) (hw : wX1_find t0 y1 u Q) : Met l yX1_find (wM yX1_find cX1_find 4 (some .int)) (kRm 0) (kPc D (cW cy ad) cy u sz [.ref (aN ad t0), .long y1]) (kQi D (cW cy ad) cy (va_A (cW cy ad u) sz) Q) 0 0 (va_A (cW cy ad u) sz) := by
  refine kMet pn_X1_find (Nat.le_of_ble_eq_true rfl) (fun p e s m below meth c ls hsz C hr hlk hex h hl => ?_)
  have hl : lv_has ls 4 [(0, .ref (aN ad t0)), (1, .long y1)] := hl
  obtain ⟨⟨hx, hb, hml, hown, hts⟩, hK, hA⟩ := id C
  unfold wX1_find at hw
  have h : kH D (cW cy ad) (va_A (cW cy ad u) sz) s u s.heap [] := h
  refine lv_iconst (v := 0) hx hb dX1_find_0 (by decide) ?_
  refine lv_istore_n (lv' := [(3, .int 0), (0, .ref (aN ad t0)), (1, .long y1)]) hx hb dX1_find_1 rfl hl (by decide) rfl (fun ls hl => ?_)
  obtain ⟨n, hw⟩ := hw
  exact kX1_find_L2 C hr hlk n t0 y1 0 _ _ _ _ hw (by omega) h (lv_sub hl [1, 2, 0] rfl)

def wX1_add (t0 : Nat) (y1 : Int64) (u : ST) (Q : Int32 → ST → Prop) : Prop :=
  (((gI u (12 + t0)) < (nI (lenL (1 + t0))) → (vp_in (gI u (12 + t0)) (lenL (1 + t0)) ∧ Q 1 (sI (sB u (1 + t0) (gI u (12 + t0)).toNatClampNeg y1) (12 + t0) ((gI (sB u (1 + t0) (gI u (12 + t0)).toNatClampNeg y1) (12 + t0)) + 1)))) ∧ (¬ (gI u (12 + t0)) < (nI (lenL (1 + t0))) → Q 0 u))
set_option maxHeartbeats 4000000 in
set_option maxRecDepth 100000 in
theorem mX1_add (l : Launch) (D : va_G) (cy : CY) (ad : Nat → Nat) (t0 : Nat) (y1 : Int64) (u : ST) (sz : Nat) {Q : Int32 → ST → Prop} (f_t0 : t0 < 4) (hw : wX1_add t0 y1 u Q) : Met l yX1_add (wM yX1_add cX1_add 3 (some .boolean)) (kRm 0) (kPc D (cW cy ad) cy u sz [.ref (aN ad t0), .long y1]) (kQi D (cW cy ad) cy (va_A (cW cy ad u) sz) Q) 0 0 (va_A (cW cy ad u) sz) := by
  refine kMet pn_X1_add (Nat.le_of_ble_eq_true rfl) (fun p e s m below meth c ls hsz C hr hlk hex h hl => ?_)
  have hl : lv_has ls 3 [(0, .ref (aN ad t0)), (1, .long y1)] := hl
  obtain ⟨⟨hx, hb, hml, hown, hts⟩, hK, hA⟩ := id C
  unfold wX1_add at hw
  have h : kH D (cW cy ad) (va_A (cW cy ad u) sz) s u s.heap [] := h
  refine lv_aload_n hx hb dX1_add_0 rfl (lv_at hl 0 rfl) ?_
  refine kget C h (4 + t0) (cW_N cy ad u t0 (by omega)) rfl inBX1 1 (Nat.le_of_ble_eq_true rfl) wi_fl_X1_15 rfl dX1_add_1 ?_
  refine lv_aload_n hx hb dX1_add_4 rfl (lv_at hl 0 rfl) ?_
  refine kget C h (4 + t0) (cW_N cy ad u t0 (by omega)) rfl inBX1 0 (Nat.le_of_ble_eq_true rfl) wi_fl_X1_9 rfl dX1_add_5 ?_
  refine kalenL C h (11 + (1 + t0)) (cW_L cy ad u (1 + t0) (by omega)) dX1_add_8 ?_
  refine lv_icmp_lt (tgt := 14) hx hb dX1_add_9 (by decide) (fun c_9 => ?_) (fun c_9 => ?_)
  · have hw := hw.1 c_9
    refine lv_aload_n hx hb dX1_add_14 rfl (lv_at hl 0 rfl) ?_
    refine kget C h (4 + t0) (cW_N cy ad u t0 (by omega)) rfl inBX1 0 (Nat.le_of_ble_eq_true rfl) wi_fl_X1_9 rfl dX1_add_15 ?_
    refine lv_aload_n hx hb dX1_add_18 rfl (lv_at hl 0 rfl) ?_
    refine kget C h (4 + t0) (cW_N cy ad u t0 (by omega)) rfl inBX1 1 (Nat.le_of_ble_eq_true rfl) wi_fl_X1_15 rfl dX1_add_19 ?_
    refine lv_lload_n hx hb dX1_add_22 rfl (lv_at hl 1 rfl) ?_
    obtain ⟨i_23, hw⟩ := hw
    refine klast C h (11 + (1 + t0)) (cW_L cy ad u (1 + t0) (by omega)) i_23 (cS_L cy ad u (gI u (12 + t0)).toNatClampNeg y1 (1 + t0) (by omega)) dX1_add_23 (fun H locs h => ?_)
    refine lv_aload_n hx hb dX1_add_24 rfl (lv_at hl 0 rfl) ?_
    refine lv_dup hx hb dX1_add_25 rfl ?_
    refine kget C h (4 + t0) (cW_N cy ad (sB u (1 + t0) (gI u (12 + t0)).toNatClampNeg y1) t0 (by omega)) rfl inBX1 1 (Nat.le_of_ble_eq_true rfl) wi_fl_X1_15 rfl dX1_add_26 ?_
    refine lv_iconst (v := 1) hx hb dX1_add_29 (by decide) ?_
    refine lv_iadd hx hb dX1_add_30 ?_
    refine kput C h (4 + t0) (cW_N cy ad (sB u (1 + t0) (gI u (12 + t0)).toNatClampNeg y1) t0 (by omega)) rfl inBX1 tyX1_ok nmX1 1 (Nat.le_of_ble_eq_true rfl) wi_fl_X1_15 rfl rfl rfl (Nat.le_of_ble_eq_true rfl) (cS_NM_1 cy ad (sB u (1 + t0) (gI u (12 + t0)).toNatClampNeg y1) ((gI (sB u (1 + t0) (gI u (12 + t0)).toNatClampNeg y1) (12 + t0)) + 1) t0 (by omega)) dX1_add_31 (fun H locs h => ?_)
    refine lv_iconst (v := 1) hx hb dX1_add_34 (by decide) ?_
    exact kretZ C hr hlk h (Or.inr rfl) hw dX1_add_35
  · have hw := hw.2 c_9
    refine lv_iconst (v := 0) hx hb dX1_add_12 (by decide) ?_
    exact kretZ C hr hlk h (Or.inl rfl) hw dX1_add_13

def wX1_letterAt (t0 : Nat) (x1 : Int32) (x2 : Int32) (u : ST) (Q : Int32 → ST → Prop) : Prop :=
  (vp_in x1 (lenL (1 + t0)) ∧ Q (((((gB u (1 + t0) x1.toNatClampNeg : Int64).toUInt64 >>> ((6 * x2 : Int32).toInt64.toUInt64 &&& Int64.toUInt64 63)).toInt64 : Int64).toInt32) &&& 63) u)
set_option maxHeartbeats 4000000 in
set_option maxRecDepth 100000 in
theorem mX1_letterAt (l : Launch) (D : va_G) (cy : CY) (ad : Nat → Nat) (t0 : Nat) (x1 : Int32) (x2 : Int32) (u : ST) (sz : Nat) {Q : Int32 → ST → Prop} (f_t0 : t0 < 4) (hw : wX1_letterAt t0 x1 x2 u Q) : Met l yX1_letterAt (wM yX1_letterAt cX1_letterAt 3 (some .int)) (kRm 0) (kPc D (cW cy ad) cy u sz [.ref (aN ad t0), .int x1, .int x2]) (kQi D (cW cy ad) cy (va_A (cW cy ad u) sz) Q) 0 0 (va_A (cW cy ad u) sz) := by
  refine kMet pn_X1_letterAt (Nat.le_of_ble_eq_true rfl) (fun p e s m below meth c ls hsz C hr hlk hex h hl => ?_)
  have hl : lv_has ls 3 [(0, .ref (aN ad t0)), (1, .int x1), (2, .int x2)] := hl
  obtain ⟨⟨hx, hb, hml, hown, hts⟩, hK, hA⟩ := id C
  unfold wX1_letterAt at hw
  have h : kH D (cW cy ad) (va_A (cW cy ad u) sz) s u s.heap [] := h
  refine lv_aload_n hx hb dX1_letterAt_0 rfl (lv_at hl 0 rfl) ?_
  refine kget C h (4 + t0) (cW_N cy ad u t0 (by omega)) rfl inBX1 0 (Nat.le_of_ble_eq_true rfl) wi_fl_X1_9 rfl dX1_letterAt_1 ?_
  refine lv_iload_n hx hb dX1_letterAt_4 rfl (lv_at hl 1 rfl) ?_
  obtain ⟨i_5, hw⟩ := hw
  refine klald C h (11 + (1 + t0)) (cW_L cy ad u (1 + t0) (by omega)) i_5 dX1_letterAt_5 ?_
  refine lv_bipush (v := 6) hx hb dX1_letterAt_6 (by decide) ?_
  refine lv_iload_n hx hb dX1_letterAt_8 rfl (lv_at hl 2 rfl) ?_
  refine lv_imul hx hb dX1_letterAt_9 ?_
  refine lv_lushr hx hb dX1_letterAt_10 rfl ?_
  refine lv_l2i hx hb dX1_letterAt_11 rfl ?_
  refine lv_bipush (v := 63) hx hb dX1_letterAt_12 (by decide) ?_
  refine lv_iand hx hb dX1_letterAt_14 ?_
  exact kretI C hr hlk h hw dX1_letterAt_15

def wX1_lengthOf_B2 (K2 : Nat → Int32 → Int32 → ST → Prop) (Q : Int32 → ST → Prop) (t0 : Nat) (x1 : Int32) (x2 : Int32) (u : ST) : Prop :=
  ((10 ≤ x2 → Q x2 u) ∧ (¬ 10 ≤ x2 → wX1_letterAt t0 x1 x2 u (fun r_1 u_2 => ((r_1 = 0 → Q x2 u_2) ∧ (¬ r_1 = 0 → K2 t0 x1 (x2 + 1) u_2)))))
set_option maxHeartbeats 4000000 in
set_option maxRecDepth 100000 in
theorem kX1_lengthOf_B2 {p : Program} {l : Launch} {e : Env} {s : State} {m : MethodId} {args : Array Value} {below : List Frame} {meth : Method} {c : Code} {D : va_G} {cy : CY} {A : Nat → Prop} {ad : Nat → Nat} {K2 : Nat → Int32 → Int32 → ST → Prop} {Q : Int32 → ST → Prop} (C : kC p m c cX1_lengthOf 3 s args RX1 D cy A) (hr : meth.sig.returnType = some .int) (hlk : meth.locks = false) (g2 : ∀ (t0 : Nat) (x1 : Int32) (x2 : Int32) (u : ST) (H : Heap) (locs : List Loc) (ls : Array Slot), K2 t0 x1 x2 u → t0 < 4 → kH D (cW cy ad) A s u H locs → lv_has ls 3 [(0, .ref (aN ad t0)), (1, .int x1), (2, .int x2)] → W p l e (kRm 1) s m args below meth c H locs 0 0 (MQ below (kQi D (cW cy ad) cy A Q) args s 0 0 A) (F0 m 2 ls [])) : ∀ (t0 : Nat) (x1 : Int32) (x2 : Int32) (u : ST) (H : Heap) (locs : List Loc) (ls : Array Slot), wX1_lengthOf_B2 K2 Q t0 x1 x2 u → t0 < 4 → kH D (cW cy ad) A s u H locs → lv_has ls 3 [(0, .ref (aN ad t0)), (1, .int x1), (2, .int x2)] → W p l e (kRm 1) s m args below meth c H locs 0 0 (MQ below (kQi D (cW cy ad) cy A Q) args s 0 0 A) (F0 m 2 ls []) := by
  intro t0 x1 x2 u H locs ls hw f_t0 h hl
  obtain ⟨⟨hx, hb, hml, hown, hts⟩, hK, hA⟩ := id C
  unfold wX1_lengthOf_B2 at hw
  refine lv_iload_n hx hb dX1_lengthOf_2 rfl (lv_at hl 2 rfl) ?_
  refine lv_bipush (v := 10) hx hb dX1_lengthOf_3 (by decide) ?_
  refine lv_icmp_ge (tgt := 23) hx hb dX1_lengthOf_5 (by decide) (fun c_5 => ?_) (fun c_5 => ?_)
  · have hw := hw.1 c_5
    refine lv_iload_n hx hb dX1_lengthOf_23 rfl (lv_at hl 2 rfl) ?_
    exact kretI C hr hlk h hw dX1_lengthOf_24
  · have hw := hw.2 c_5
    refine lv_aload_n hx hb dX1_lengthOf_8 rfl (lv_at hl 0 rfl) ?_
    refine lv_iload_n hx hb dX1_lengthOf_9 rfl (lv_at hl 1 rfl) ?_
    refine lv_iload_n hx hb dX1_lengthOf_10 rfl (lv_at hl 2 rfl) ?_
    refine kVi (As := [.int x1, .int x2]) (rest := []) C h (cwV 2 hts (gd_V wi_ml_X1_19 wi_im_X1_letterAt wi_se_X1_letterAt wi_in_X1 wi_co_X1_letterAt) rfl rfl rfl hd_X1_letterAt ⟨Nat.le_of_ble_eq_true rfl, Nat.le_of_ble_eq_true rfl⟩) (4 + t0) (cW_N cy ad u t0 (by omega)) rfl rfl (mX1_letterAt l D cy ad t0 x1 x2 _ _ (by omega) hw) rfl hl.1 rfl (Nat.le_of_ble_eq_true rfl) ⟨Nat.zero_le _, Nat.zero_le _⟩ dX1_lengthOf_11 (fun r_1 u_2 H locs hw h => ?_)
    refine lv_if_eq (tgt := 23) hx hb dX1_lengthOf_14 (by decide) (fun c_14 => ?_) (fun c_14 => ?_)
    · have hw := hw.1 c_14
      refine lv_iload_n hx hb dX1_lengthOf_23 rfl (lv_at hl 2 rfl) ?_
      exact kretI C hr hlk h hw dX1_lengthOf_24
    · have hw := hw.2 c_14
      refine lv_iinc (v := x2 + 1) (lv' := [(2, .int (x2 + 1)), (0, .ref (aN ad t0)), (1, .int x1)]) hx hb dX1_lengthOf_17 hl (k := 2) rfl rfl (by decide) rfl (fun ls hl => ?_)
      refine lv_goto (tgt := 2) hx hb dX1_lengthOf_20 (by decide) ?_
      exact g2 t0 x1 (x2 + 1) _ _ _ _ hw (by omega) h (lv_sub hl [1, 2, 0] rfl)
def wX1_lengthOf_L2 (Q : Int32 → ST → Prop) : Nat → Nat → Int32 → Int32 → ST → Prop
  | 0, _, _, _, _ => False
  | n + 1, t0, x1, x2, u => wX1_lengthOf_B2 (wX1_lengthOf_L2 Q n) Q t0 x1 x2 u
set_option maxHeartbeats 4000000 in
theorem kX1_lengthOf_L2 {p : Program} {l : Launch} {e : Env} {s : State} {m : MethodId} {args : Array Value} {below : List Frame} {meth : Method} {c : Code} {D : va_G} {cy : CY} {A : Nat → Prop} {ad : Nat → Nat} {Q : Int32 → ST → Prop} (C : kC p m c cX1_lengthOf 3 s args RX1 D cy A) (hr : meth.sig.returnType = some .int) (hlk : meth.locks = false) : ∀ n : Nat, ∀ (t0 : Nat) (x1 : Int32) (x2 : Int32) (u : ST) (H : Heap) (locs : List Loc) (ls : Array Slot), wX1_lengthOf_L2 Q n t0 x1 x2 u → t0 < 4 → kH D (cW cy ad) A s u H locs → lv_has ls 3 [(0, .ref (aN ad t0)), (1, .int x1), (2, .int x2)] → W p l e (kRm 1) s m args below meth c H locs 0 0 (MQ below (kQi D (cW cy ad) cy A Q) args s 0 0 A) (F0 m 2 ls []) := by
  intro n
  induction n with
  | zero => intro t0 x1 x2 u H locs ls hw; exact False.elim hw
  | succ n ih => exact kX1_lengthOf_B2 C hr hlk ih
def wX1_lengthOf (t0 : Nat) (x1 : Int32) (u : ST) (Q : Int32 → ST → Prop) : Prop :=
  (∃ n : Nat, wX1_lengthOf_L2 Q n t0 x1 0 u)
set_option maxHeartbeats 4000000 in
set_option maxRecDepth 100000 in
theorem mX1_lengthOf (l : Launch) (D : va_G) (cy : CY) (ad : Nat → Nat) (t0 : Nat) (x1 : Int32) (u : ST) (sz : Nat) {Q : Int32 → ST → Prop} (f_t0 : t0 < 4) (hw : wX1_lengthOf t0 x1 u Q) : Met l yX1_lengthOf (wM yX1_lengthOf cX1_lengthOf 3 (some .int)) (kRm 1) (kPc D (cW cy ad) cy u sz [.ref (aN ad t0), .int x1]) (kQi D (cW cy ad) cy (va_A (cW cy ad u) sz) Q) 0 0 (va_A (cW cy ad u) sz) := by
  refine kMet pn_X1_lengthOf (Nat.le_of_ble_eq_true rfl) (fun p e s m below meth c ls hsz C hr hlk hex h hl => ?_)
  have hl : lv_has ls 3 [(0, .ref (aN ad t0)), (1, .int x1)] := hl
  obtain ⟨⟨hx, hb, hml, hown, hts⟩, hK, hA⟩ := id C
  unfold wX1_lengthOf at hw
  have h : kH D (cW cy ad) (va_A (cW cy ad u) sz) s u s.heap [] := h
  refine lv_iconst (v := 0) hx hb dX1_lengthOf_0 (by decide) ?_
  refine lv_istore_n (lv' := [(2, .int 0), (0, .ref (aN ad t0)), (1, .int x1)]) hx hb dX1_lengthOf_1 rfl hl (by decide) rfl (fun ls hl => ?_)
  obtain ⟨n, hw⟩ := hw
  exact kX1_lengthOf_L2 C hr hlk n t0 x1 0 _ _ _ _ hw (by omega) h (lv_sub hl [1, 2, 0] rfl)

def wX1_byteOf (t0 : Nat) (x1 : Int32) (x2 : Int32) (u : ST) (Q : Int32 → ST → Prop) : Prop :=
  wX1_letterAt t0 x1 x2 u (fun r_1 u_2 => ((26 < r_1 → Q ((48 + r_1) - 27) u_2) ∧ (¬ 26 < r_1 → Q ((97 + r_1) - 1) u_2)))
set_option maxHeartbeats 4000000 in
set_option maxRecDepth 100000 in
theorem mX1_byteOf (l : Launch) (D : va_G) (cy : CY) (ad : Nat → Nat) (t0 : Nat) (x1 : Int32) (x2 : Int32) (u : ST) (sz : Nat) {Q : Int32 → ST → Prop} (f_t0 : t0 < 4) (hw : wX1_byteOf t0 x1 x2 u Q) : Met l yX1_byteOf (wM yX1_byteOf cX1_byteOf 4 (some .int)) (kRm 1) (kPc D (cW cy ad) cy u sz [.ref (aN ad t0), .int x1, .int x2]) (kQi D (cW cy ad) cy (va_A (cW cy ad u) sz) Q) 0 0 (va_A (cW cy ad u) sz) := by
  refine kMet pn_X1_byteOf (Nat.le_of_ble_eq_true rfl) (fun p e s m below meth c ls hsz C hr hlk hex h hl => ?_)
  have hl : lv_has ls 4 [(0, .ref (aN ad t0)), (1, .int x1), (2, .int x2)] := hl
  obtain ⟨⟨hx, hb, hml, hown, hts⟩, hK, hA⟩ := id C
  unfold wX1_byteOf at hw
  have h : kH D (cW cy ad) (va_A (cW cy ad u) sz) s u s.heap [] := h
  refine lv_aload_n hx hb dX1_byteOf_0 rfl (lv_at hl 0 rfl) ?_
  refine lv_iload_n hx hb dX1_byteOf_1 rfl (lv_at hl 1 rfl) ?_
  refine lv_iload_n hx hb dX1_byteOf_2 rfl (lv_at hl 2 rfl) ?_
  refine kVi (As := [.int x1, .int x2]) (rest := []) C h (cwV 2 hts (gd_V wi_ml_X1_19 wi_im_X1_letterAt wi_se_X1_letterAt wi_in_X1 wi_co_X1_letterAt) rfl rfl rfl hd_X1_letterAt ⟨Nat.le_of_ble_eq_true rfl, Nat.le_of_ble_eq_true rfl⟩) (4 + t0) (cW_N cy ad u t0 (by omega)) rfl rfl (mX1_letterAt l D cy ad t0 x1 x2 _ _ (by omega) hw) rfl hl.1 rfl (Nat.le_of_ble_eq_true rfl) ⟨Nat.zero_le _, Nat.zero_le _⟩ dX1_byteOf_3 (fun r_1 u_2 H locs hw h => ?_)
  refine lv_istore_n (lv' := [(3, .int r_1), (0, .ref (aN ad t0)), (1, .int x1), (2, .int x2)]) hx hb dX1_byteOf_6 rfl hl (by decide) rfl (fun ls hl => ?_)
  refine lv_iload_n hx hb dX1_byteOf_7 rfl (lv_at hl 0 rfl) ?_
  refine lv_bipush (v := 26) hx hb dX1_byteOf_8 (by decide) ?_
  refine lv_icmp_gt (tgt := 22) hx hb dX1_byteOf_10 (by decide) (fun c_10 => ?_) (fun c_10 => ?_)
  · have hw := hw.1 c_10
    refine lv_bipush (v := 48) hx hb dX1_byteOf_22 (by decide) ?_
    refine lv_iload_n hx hb dX1_byteOf_24 rfl (lv_at hl 0 rfl) ?_
    refine lv_iadd hx hb dX1_byteOf_25 ?_
    refine lv_bipush (v := 27) hx hb dX1_byteOf_26 (by decide) ?_
    refine lv_isub hx hb dX1_byteOf_28 ?_
    exact kretI C hr hlk h hw dX1_byteOf_29
  · have hw := hw.2 c_10
    refine lv_bipush (v := 97) hx hb dX1_byteOf_13 (by decide) ?_
    refine lv_iload_n hx hb dX1_byteOf_15 rfl (lv_at hl 0 rfl) ?_
    refine lv_iadd hx hb dX1_byteOf_16 ?_
    refine lv_iconst (v := 1) hx hb dX1_byteOf_17 (by decide) ?_
    refine lv_isub hx hb dX1_byteOf_18 ?_
    refine lv_goto (tgt := 29) hx hb dX1_byteOf_19 (by decide) ?_
    exact kretI C hr hlk h hw dX1_byteOf_29
