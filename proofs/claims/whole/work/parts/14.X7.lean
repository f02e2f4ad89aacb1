def wX7_thrown (u : ST) (Q : Int32 → ST → Prop) : Prop :=
  Q (gI u 0) u
set_option maxHeartbeats 4000000 in
set_option maxRecDepth 100000 in
theorem mX7_thrown (l : Launch) (D : va_G) (cy : CY) (am : Nat → Nat) (u : ST) (sz : Nat) {Q : Int32 → ST → Prop} (hw : wX7_thrown  u Q) : Met l yX7_thrown (wM yX7_thrown cX7_thrown 1 (some .int)) (kRm 0) (kPc D (mW cy am) cy u sz [.ref (am 0)]) (kQi D (mW cy am) cy (va_A (mW cy am u) sz) Q) 0 0 (va_A (mW cy am u) sz) := by
  refine kMet pn_X7_thrown (Nat.le_of_ble_eq_true rfl) (fun p e s m below meth c ls hsz C hr hlk hex h hl => ?_)
  have hl : lv_has ls 1 [(0, .ref (am 0))] := hl
  obtain ⟨⟨hx, hb, hml, hown, hts⟩, hK, hA⟩ := id C
  unfold wX7_thrown at hw
  have h : kH D (mW cy am) (va_A (mW cy am u) sz) s u s.heap [] := h
  refine lv_aload_n hx hb dX7_thrown_0 rfl (lv_at hl 0 rfl) ?_
  refine kget C h 0 rfl rfl inBX7 0 (Nat.le_of_ble_eq_true rfl) wi_fl_X7_62 rfl dX7_thrown_1 ?_
  exact kretI C hr hlk h hw dX7_thrown_4

def wX7_type_B50 (K50 : Int64 → Int32 → ST → Prop) (Q : Int32 → ST → Prop) (y1 : Int64) (x4 : Int32) (u : ST) : Prop :=
  ((x4 < 0 → Q (gI u 2) u) ∧ (¬ x4 < 0 → (vp_in (gI u 2) 8000 ∧ K50 y1 (x4 + (-1)) (sI (sR u 1 (gI u 2).toNatClampNeg (((((y1 : Int64) >>> ((8 * x4 : Int32).toInt64 &&& 63) : Int64).toInt32 : Int32).toInt8.toInt32 : Int32).toInt8.toInt32)) 2 ((gI (sR u 1 (gI u 2).toNatClampNeg (((((y1 : Int64) >>> ((8 * x4 : Int32).toInt64 &&& 63) : Int64).toInt32 : Int32).toInt8.toInt32 : Int32).toInt8.toInt32)) 2) + 1)))))
set_option maxHeartbeats 4000000 in
set_option maxRecDepth 100000 in
theorem kX7_type_B50 {p : Program} {l : Launch} {e : Env} {s : State} {m : MethodId} {args : Array Value} {below : List Frame} {meth : Method} {c : Code} {D : va_G} {cy : CY} {A : Nat → Prop} {am : Nat → Nat} {K50 : Int64 → Int32 → ST → Prop} {Q : Int32 → ST → Prop} (C : kC p m c cX7_type 5 s args RX7 D cy A) (hr : meth.sig.returnType = some .int) (hlk : meth.locks = false) (g50 : ∀ (y1 : Int64) (x4 : Int32) (u : ST) (H : Heap) (locs : List Loc) (ls : Array Slot), K50 y1 x4 u → kH D (mW cy am) A s u H locs → lv_has ls 5 [(0, .ref (am 0)), (1, .long y1), (4, .int x4)] → W p l e (kRm 0) s m args below meth c H locs 0 0 (MQ below (kQi D (mW cy am) cy A Q) args s 0 0 A) (F0 m 50 ls [])) : ∀ (y1 : Int64) (x4 : Int32) (u : ST) (H : Heap) (locs : List Loc) (ls : Array Slot), wX7_type_B50 K50 Q y1 x4 u → kH D (mW cy am) A s u H locs → lv_has ls 5 [(0, .ref (am 0)), (1, .long y1), (4, .int x4)] → W p l e (kRm 0) s m args below meth c H locs 0 0 (MQ below (kQi D (mW cy am) cy A Q) args s 0 0 A) (F0 m 50 ls []) := by
  intro y1 x4 u H locs ls hw h hl
  obtain ⟨⟨hx, hb, hml, hown, hts⟩, hK, hA⟩ := id C
  unfold wX7_type_B50 at hw
  refine lv_iload hx hb dX7_type_50 (lv_at hl 2 rfl) ?_
  refine lv_if_lt (tgt := 89) hx hb dX7_type_52 (by decide) (fun c_52 => ?_) (fun c_52 => ?_)
  · have hw := hw.1 c_52
    refine lv_aload_n hx hb dX7_type_89 rfl (lv_at hl 0 rfl) ?_
    refine kget C h 0 rfl rfl inBX7 2 (Nat.le_of_ble_eq_true rfl) wi_fl_X7_66 rfl dX7_type_90 ?_
    exact kretI C hr hlk h hw dX7_type_93
  · have hw := hw.2 c_52
    refine lv_aload_n hx hb dX7_type_55 rfl (lv_at hl 0 rfl) ?_
    refine kget C h 0 rfl rfl inBX7 1 (Nat.le_of_ble_eq_true rfl) wi_fl_X7_7 rfl dX7_type_56 ?_
    refine lv_aload_n hx hb dX7_type_59 rfl (lv_at hl 0 rfl) ?_
    refine kget C h 0 rfl rfl inBX7 2 (Nat.le_of_ble_eq_true rfl) wi_fl_X7_66 rfl dX7_type_60 ?_
    refine lv_lload_n hx hb dX7_type_63 rfl (lv_at hl 1 rfl) ?_
    refine lv_bipush (v := 8) hx hb dX7_type_64 (by decide) ?_
    refine lv_iload hx hb dX7_type_66 (lv_at hl 2 rfl) ?_
    refine lv_imul hx hb dX7_type_68 ?_
    refine lv_lshr hx hb dX7_type_69 rfl ?_
    refine lv_l2i hx hb dX7_type_70 rfl ?_
    refine lv_i2b hx hb dX7_type_71 rfl ?_
    obtain ⟨i_72, hw⟩ := hw
    refine kbast C h 1 rfl i_72 (mR_1 cy am u (gI u 2).toNatClampNeg (((((y1 : Int64) >>> ((8 * x4 : Int32).toInt64 &&& 63) : Int64).toInt32 : Int32).toInt8.toInt32 : Int32).toInt8.toInt32)) dX7_type_72 (fun H locs h => ?_)
    refine lv_aload_n hx hb dX7_type_73 rfl (lv_at hl 0 rfl) ?_
    refine lv_dup hx hb dX7_type_74 rfl ?_
    refine kget C h 0 rfl rfl inBX7 2 (Nat.le_of_ble_eq_true rfl) wi_fl_X7_66 rfl dX7_type_75 ?_
    refine lv_iconst (v := 1) hx hb dX7_type_78 (by decide) ?_
    refine lv_iadd hx hb dX7_type_79 ?_
    refine kput C h 0 rfl rfl inBX7 tyX7_ok nmX7 2 (Nat.le_of_ble_eq_true rfl) wi_fl_X7_66 rfl rfl rfl (Nat.le_of_ble_eq_true rfl) (mS_2 cy am (sR u 1 (gI u 2).toNatClampNeg (((((y1 : Int64) >>> ((8 * x4 : Int32).toInt64 &&& 63) : Int64).toInt32 : Int32).toInt8.toInt32 : Int32).toInt8.toInt32)) ((gI (sR u 1 (gI u 2).toNatClampNeg (((((y1 : Int64) >>> ((8 * x4 : Int32).toInt64 &&& 63) : Int64).toInt32 : Int32).toInt8.toInt32 : Int32).toInt8.toInt32)) 2) + 1)) dX7_type_80 (fun H locs h => ?_)
    refine lv_iinc (v := x4 + (-1)) (lv' := [(4, .int (x4 + (-1))), (0, .ref (am 0)), (1, .long y1)]) hx hb dX7_type_83 hl (k := 2) rfl rfl (by decide) rfl (fun ls hl => ?_)
    refine lv_goto (tgt := 50) hx hb dX7_type_86 (by decide) ?_
    exact g50 y1 (x4 + (-1)) _ _ _ _ hw h (lv_sub hl [1, 2, 0] rfl)
def wX7_type_L50 (Q : Int32 → ST → Prop) : Nat → Int64 → Int32 → ST → Prop
  | 0, _, _, _ => False
  | n + 1, y1, x4, u => wX7_type_B50 (wX7_type_L50 Q n) Q y1 x4 u
set_option maxHeartbeats 4000000 in
theorem kX7_type_L50 {p : Program} {l : Launch} {e : Env} {s : State} {m : MethodId} {args : Array Value} {below : List Frame} {meth : Method} {c : Code} {D : va_G} {cy : CY} {A : Nat → Prop} {am : Nat → Nat} {Q : Int32 → ST → Prop} (C : kC p m c cX7_type 5 s args RX7 D cy A) (hr : meth.sig.returnType = some .int) (hlk : meth.locks = false) : ∀ n : Nat, ∀ (y1 : Int64) (x4 : Int32) (u : ST) (H : Heap) (locs : List Loc) (ls : Array Slot), wX7_type_L50 Q n y1 x4 u → kH D (mW cy am) A s u H locs → lv_has ls 5 [(0, .ref (am 0)), (1, .long y1), (4, .int x4)] → W p l e (kRm 0) s m args below meth c H locs 0 0 (MQ below (kQi D (mW cy am) cy A Q) args s 0 0 A) (F0 m 50 ls []) := by
  intro n
  induction n with
  | zero => intro y1 x4 u H locs ls hw; exact False.elim hw
  | succ n ih => exact kX7_type_B50 C hr hlk ih
def wX7_type_b33 (Q : Int32 → ST → Prop) (y1 : Int64) (x3 : Int32) (xs1 : Int32) (u : ST) : Prop :=
  (((gI (sI u 0 xs1) 0) ≤ 0 → (∃ n : Nat, wX7_type_L50 Q n y1 (x3 - 1) (sI u 0 xs1))) ∧ (¬ (gI (sI u 0 xs1) 0) ≤ 0 → Q 0 (sI u 0 xs1)))
set_option maxHeartbeats 4000000 in
set_option maxRecDepth 100000 in
theorem kX7_type_b33 {p : Program} {l : Launch} {e : Env} {s : State} {m : MethodId} {args : Array Value} {below : List Frame} {meth : Method} {c : Code} {D : va_G} {cy : CY} {A : Nat → Prop} {am : Nat → Nat} {Q : Int32 → ST → Prop} (C : kC p m c cX7_type 5 s args RX7 D cy A) (hr : meth.sig.returnType = some .int) (hlk : meth.locks = false) : ∀ (y1 : Int64) (x3 : Int32) (xs1 : Int32) (u : ST) (H : Heap) (locs : List Loc) (ls : Array Slot), wX7_type_b33 Q y1 x3 xs1 u → kH D (mW cy am) A s u H locs → lv_has ls 5 [(0, .ref (am 0)), (1, .long y1), (3, .int x3)] → W p l e (kRm 0) s m args below meth c H locs 0 0 (MQ below (kQi D (mW cy am) cy A Q) args s 0 0 A) (F0 m 33 ls [.int xs1, .ref (am 0)]) := by
  intro y1 x3 xs1 u H locs ls hw h hl
  obtain ⟨⟨hx, hb, hml, hown, hts⟩, hK, hA⟩ := id C
  unfold wX7_type_b33 at hw
  refine kput C h 0 rfl rfl inBX7 tyX7_ok nmX7 0 (Nat.le_of_ble_eq_true rfl) wi_fl_X7_62 rfl rfl rfl (Nat.le_of_ble_eq_true rfl) (mS_0 cy am u xs1) dX7_type_33 (fun H locs h => ?_)
  refine lv_aload_n hx hb dX7_type_36 rfl (lv_at hl 0 rfl) ?_
  refine kget C h 0 rfl rfl inBX7 0 (Nat.le_of_ble_eq_true rfl) wi_fl_X7_62 rfl dX7_type_37 ?_
  refine lv_if_le (tgt := 45) hx hb dX7_type_40 (by decide) (fun c_40 => ?_) (fun c_40 => ?_)
  · have hw := hw.1 c_40
    refine lv_iload_n hx hb dX7_type_45 rfl (lv_at hl 2 rfl) ?_
    refine lv_iconst (v := 1) hx hb dX7_type_46 (by decide) ?_
    refine lv_isub hx hb dX7_type_47 ?_
    refine lv_istore (lv' := [(4, .int (x3 - 1)), (0, .ref (am 0)), (1, .long y1), (3, .int x3)]) hx hb dX7_type_48 hl (by decide) rfl (fun ls hl => ?_)
    obtain ⟨n, hw⟩ := hw
    exact kX7_type_L50 C hr hlk n y1 (x3 - 1) _ _ _ _ hw h (lv_sub hl [1, 2, 0] rfl)
  · have hw := hw.2 c_40
    refine lv_iconst (v := 0) hx hb dX7_type_43 (by decide) ?_
    exact kretI C hr hlk h hw dX7_type_44
def wX7_type_b12 (Q : Int32 → ST → Prop) (y1 : Int64) (x3 : Int32) (u : ST) : Prop :=
  wX7_type_b33 Q y1 x3 1 u
set_option maxHeartbeats 4000000 in
set_option maxRecDepth 100000 in
theorem kX7_type_b12 {p : Program} {l : Launch} {e : Env} {s : State} {m : MethodId} {args : Array Value} {below : List Frame} {meth : Method} {c : Code} {D : va_G} {cy : CY} {A : Nat → Prop} {am : Nat → Nat} {Q : Int32 → ST → Prop} (C : kC p m c cX7_type 5 s args RX7 D cy A) (hr : meth.sig.returnType = some .int) (hlk : meth.locks = false) : ∀ (y1 : Int64) (x3 : Int32) (u : ST) (H : Heap) (locs : List Loc) (ls : Array Slot), wX7_type_b12 Q y1 x3 u → kH D (mW cy am) A s u H locs → lv_has ls 5 [(0, .ref (am 0)), (1, .long y1), (3, .int x3)] → W p l e (kRm 0) s m args below meth c H locs 0 0 (MQ below (kQi D (mW cy am) cy A Q) args s 0 0 A) (F0 m 12 ls [.ref (am 0)]) := by
  intro y1 x3 u H locs ls hw h hl
  obtain ⟨⟨hx, hb, hml, hown, hts⟩, hK, hA⟩ := id C
  unfold wX7_type_b12 at hw
  refine lv_iconst (v := 1) hx hb dX7_type_12 (by decide) ?_
  refine lv_goto (tgt := 33) hx hb dX7_type_13 (by decide) ?_
  exact kX7_type_b33 C hr hlk y1 x3 1 _ _ _ _ hw h (lv_sub hl [0, 1, 2] rfl)
def wX7_type (y1 : Int64) (x3 : Int32) (u : ST) (Q : Int32 → ST → Prop) : Prop :=
  ((x3 < 1 → wX7_type_b12 Q y1 x3 u) ∧ (¬ x3 < 1 → ((x3 ≤ 8 → ((((gI u 2) + x3) ≤ 8000 → wX7_type_b33 Q y1 x3 0 u) ∧ (¬ ((gI u 2) + x3) ≤ 8000 → wX7_type_b33 Q y1 x3 2 u))) ∧ (¬ x3 ≤ 8 → wX7_type_b12 Q y1 x3 u))))
set_option maxHeartbeats 4000000 in
set_option maxRecDepth 100000 in
theorem mX7_type (l : Launch) (D : va_G) (cy : CY) (am : Nat → Nat) (y1 : Int64) (x3 : Int32) (u : ST) (sz : Nat) {Q : Int32 → ST → Prop} (hw : wX7_type y1 x3 u Q) : Met l yX7_type (wM yX7_type cX7_type 5 (some .int)) (kRm 0) (kPc D (mW cy am) cy u sz [.ref (am 0), .long y1, .int x3]) (kQi D (mW cy am) cy (va_A (mW cy am u) sz) Q) 0 0 (va_A (mW cy am u) sz) := by
  refine kMet pn_X7_type (Nat.le_of_ble_eq_true rfl) (fun p e s m below meth c ls hsz C hr hlk hex h hl => ?_)
  have hl : lv_has ls 5 [(0, .ref (am 0)), (1, .long y1), (3, .int x3)] := hl
  obtain ⟨⟨hx, hb, hml, hown, hts⟩, hK, hA⟩ := id C
  unfold wX7_type at hw
  have h : kH D (mW cy am) (va_A (mW cy am u) sz) s u s.heap [] := h
  refine lv_aload_n hx hb dX7_type_0 rfl (lv_at hl 0 rfl) ?_
  refine lv_iload_n hx hb dX7_type_1 rfl (lv_at hl 2 rfl) ?_
  refine lv_iconst (v := 1) hx hb dX7_type_2 (by decide) ?_
  refine lv_icmp_lt (tgt := 12) hx hb dX7_type_3 (by decide) (fun c_3 => ?_) (fun c_3 => ?_)
  · have hw := hw.1 c_3
    exact kX7_type_b12 C hr hlk y1 x3 _ _ _ _ hw h (lv_sub hl [0, 1, 2] rfl)
  · have hw := hw.2 c_3
    refine lv_iload_n hx hb dX7_type_6 rfl (lv_at hl 2 rfl) ?_
    refine lv_bipush (v := 8) hx hb dX7_type_7 (by decide) ?_
    refine lv_icmp_le (tgt := 16) hx hb dX7_type_9 (by decide) (fun c_9 => ?_) (fun c_9 => ?_)
    · have hw := hw.1 c_9
      refine lv_aload_n hx hb dX7_type_16 rfl (lv_at hl 0 rfl) ?_
      refine kget C h 0 rfl rfl inBX7 2 (Nat.le_of_ble_eq_true rfl) wi_fl_X7_66 rfl dX7_type_17 ?_
      refine lv_iload_n hx hb dX7_type_20 rfl (lv_at hl 2 rfl) ?_
      refine lv_iadd hx hb dX7_type_21 ?_
      refine lv_sipush (v := 8000) hx hb dX7_type_22 (by decide) ?_
      refine lv_icmp_le (tgt := 32) hx hb dX7_type_25 (by decide) (fun c_25 => ?_) (fun c_25 => ?_)
      · have hw := hw.1 c_25
        refine lv_iconst (v := 0) hx hb dX7_type_32 (by decide) ?_
        exact kX7_type_b33 C hr hlk y1 x3 0 _ _ _ _ hw h (lv_sub hl [0, 1, 2] rfl)
      · have hw := hw.2 c_25
        refine lv_iconst (v := 2) hx hb dX7_type_28 (by decide) ?_
        refine lv_goto (tgt := 33) hx hb dX7_type_29 (by decide) ?_
        exact kX7_type_b33 C hr hlk y1 x3 2 _ _ _ _ hw h (lv_sub hl [0, 1, 2] rfl)
    · have hw := hw.2 c_9
      exact kX7_type_b12 C hr hlk y1 x3 _ _ _ _ hw h (lv_sub hl [0, 1, 2] rfl)

def wX7_keep_b37 (Q : ST → Prop) (xs1 : Int32) (u : ST) : Prop :=
  Q (sI u 2 xs1)
set_option maxHeartbeats 4000000 in
set_option maxRecDepth 100000 in
theorem kX7_keep_b37 {p : Program} {l : Launch} {e : Env} {s : State} {m : MethodId} {args : Array Value} {below : List Frame} {meth : Method} {c : Code} {D : va_G} {cy : CY} {A : Nat → Prop} {am : Nat → Nat} {Q : ST → Prop} (C : kC p m c cX7_keep 2 s args RX7 D cy A) (hr : meth.sig.returnType = none) (hlk : meth.locks = false) : ∀ (xs1 : Int32) (u : ST) (H : Heap) (locs : List Loc) (ls : Array Slot), wX7_keep_b37 Q xs1 u → kH D (mW cy am) A s u H locs → lv_has ls 2 [] → W p l e (kRm 0) s m args below meth c H locs 0 0 (MQ below (kQv D (mW cy am) cy A Q) args s 0 0 A) (F0 m 37 ls [.int xs1, .ref (am 0)]) := by
  intro xs1 u H locs ls hw h hl
  obtain ⟨⟨hx, hb, hml, hown, hts⟩, hK, hA⟩ := id C
  unfold wX7_keep_b37 at hw
  refine kput C h 0 rfl rfl inBX7 tyX7_ok nmX7 2 (Nat.le_of_ble_eq_true rfl) wi_fl_X7_66 rfl rfl rfl (Nat.le_of_ble_eq_true rfl) (mS_2 cy am u xs1) dX7_keep_37 (fun H locs h => ?_)
  exact kretV C hr hlk h hw dX7_keep_40
def wX7_keep_b18 (Q : ST → Prop) (x1 : Int32) (xs1 : Int32) (u : ST) : Prop :=
  (((gI (sI u 0 xs1) 0) ≤ 0 → wX7_keep_b37 Q x1 (sI u 0 xs1)) ∧ (¬ (gI (sI u 0 xs1) 0) ≤ 0 → wX7_keep_b37 Q (gI (sI u 0 xs1) 2) (sI u 0 xs1)))
set_option maxHeartbeats 4000000 in
set_option maxRecDepth 100000 in
theorem kX7_keep_b18 {p : Program} {l : Launch} {e : Env} {s : State} {m : MethodId} {args : Array Value} {below : List Frame} {meth : Method} {c : Code} {D : va_G} {cy : CY} {A : Nat → Prop} {am : Nat → Nat} {Q : ST → Prop} (C : kC p m c cX7_keep 2 s args RX7 D cy A) (hr : meth.sig.returnType = none) (hlk : meth.locks = false) : ∀ (x1 : Int32) (xs1 : Int32) (u : ST) (H : Heap) (locs : List Loc) (ls : Array Slot), wX7_keep_b18 Q x1 xs1 u → kH D (mW cy am) A s u H locs → lv_has ls 2 [(0, .ref (am 0)), (1, .int x1)] → W p l e (kRm 0) s m args below meth c H locs 0 0 (MQ below (kQv D (mW cy am) cy A Q) args s 0 0 A) (F0 m 18 ls [.int xs1, .ref (am 0)]) := by
  intro x1 xs1 u H locs ls hw h hl
  obtain ⟨⟨hx, hb, hml, hown, hts⟩, hK, hA⟩ := id C
  unfold wX7_keep_b18 at hw
  refine kput C h 0 rfl rfl inBX7 tyX7_ok nmX7 0 (Nat.le_of_ble_eq_true rfl) wi_fl_X7_62 rfl rfl rfl (Nat.le_of_ble_eq_true rfl) (mS_0 cy am u xs1) dX7_keep_18 (fun H locs h => ?_)
  refine lv_aload_n hx hb dX7_keep_21 rfl (lv_at hl 0 rfl) ?_
  refine lv_aload_n hx hb dX7_keep_22 rfl (lv_at hl 0 rfl) ?_
  refine kget C h 0 rfl rfl inBX7 0 (Nat.le_of_ble_eq_true rfl) wi_fl_X7_62 rfl dX7_keep_23 ?_
  refine lv_if_le (tgt := 36) hx hb dX7_keep_26 (by decide) (fun c_26 => ?_) (fun c_26 => ?_)
  · have hw := hw.1 c_26
    refine lv_iload_n hx hb dX7_keep_36 rfl (lv_at hl 1 rfl) ?_
    exact kX7_keep_b37 C hr hlk x1 _ _ _ _ hw h (lv_sub hl [] rfl)
  · have hw := hw.2 c_26
    refine lv_aload_n hx hb dX7_keep_29 rfl (lv_at hl 0 rfl) ?_
    refine kget C h 0 rfl rfl inBX7 2 (Nat.le_of_ble_eq_true rfl) wi_fl_X7_66 rfl dX7_keep_30 ?_
    refine lv_goto (tgt := 37) hx hb dX7_keep_33 (by decide) ?_
    exact kX7_keep_b37 C hr hlk (gI (sI u 0 xs1) 2) _ _ _ _ hw h (lv_sub hl [] rfl)
def wX7_keep_b13 (Q : ST → Prop) (x1 : Int32) (u : ST) : Prop :=
  wX7_keep_b18 Q x1 1 u
set_option maxHeartbeats 4000000 in
set_option maxRecDepth 100000 in
theorem kX7_keep_b13 {p : Program} {l : Launch} {e : Env} {s : State} {m : MethodId} {args : Array Value} {below : List Frame} {meth : Method} {c : Code} {D : va_G} {cy : CY} {A : Nat → Prop} {am : Nat → Nat} {Q : ST → Prop} (C : kC p m c cX7_keep 2 s args RX7 D cy A) (hr : meth.sig.returnType = none) (hlk : meth.locks = false) : ∀ (x1 : Int32) (u : ST) (H : Heap) (locs : List Loc) (ls : Array Slot), wX7_keep_b13 Q x1 u → kH D (mW cy am) A s u H locs → lv_has ls 2 [(0, .ref (am 0)), (1, .int x1)] → W p l e (kRm 0) s m args below meth c H locs 0 0 (MQ below (kQv D (mW cy am) cy A Q) args s 0 0 A) (F0 m 13 ls [.ref (am 0)]) := by
  intro x1 u H locs ls hw h hl
  obtain ⟨⟨hx, hb, hml, hown, hts⟩, hK, hA⟩ := id C
  unfold wX7_keep_b13 at hw
  refine lv_iconst (v := 1) hx hb dX7_keep_13 (by decide) ?_
  refine lv_goto (tgt := 18) hx hb dX7_keep_14 (by decide) ?_
  exact kX7_keep_b18 C hr hlk x1 1 _ _ _ _ hw h (lv_sub hl [0, 1] rfl)
def wX7_keep (x1 : Int32) (u : ST) (Q : ST → Prop) : Prop :=
  ((x1 < 0 → wX7_keep_b13 Q x1 u) ∧ (¬ x1 < 0 → ((x1 ≤ (gI u 2) → wX7_keep_b18 Q x1 0 u) ∧ (¬ x1 ≤ (gI u 2) → wX7_keep_b13 Q x1 u))))
set_option maxHeartbeats 4000000 in
set_option maxRecDepth 100000 in
theorem mX7_keep (l : Launch) (D : va_G) (cy : CY) (am : Nat → Nat) (x1 : Int32) (u : ST) (sz : Nat) {Q : ST → Prop} (hw : wX7_keep x1 u Q) : Met l yX7_keep (wM yX7_keep cX7_keep 2 none) (kRm 0) (kPc D (mW cy am) cy u sz [.ref (am 0), .int x1]) (kQv D (mW cy am) cy (va_A (mW cy am u) sz) Q) 0 0 (va_A (mW cy am u) sz) := by
  refine kMet pn_X7_keep (Nat.le_of_ble_eq_true rfl) (fun p e s m below meth c ls hsz C hr hlk hex h hl => ?_)
  have hl : lv_has ls 2 [(0, .ref (am 0)), (1, .int x1)] := hl
  obtain ⟨⟨hx, hb, hml, hown, hts⟩, hK, hA⟩ := id C
  unfold wX7_keep at hw
  have h : kH D (mW cy am) (va_A (mW cy am u) sz) s u s.heap [] := h
  refine lv_aload_n hx hb dX7_keep_0 rfl (lv_at hl 0 rfl) ?_
  refine lv_iload_n hx hb dX7_keep_1 rfl (lv_at hl 1 rfl) ?_
  refine lv_if_lt (tgt := 13) hx hb dX7_keep_2 (by decide) (fun c_2 => ?_) (fun c_2 => ?_)
  · have hw := hw.1 c_2
    exact kX7_keep_b13 C hr hlk x1 _ _ _ _ hw h (lv_sub hl [0, 1] rfl)
  · have hw := hw.2 c_2
    refine lv_iload_n hx hb dX7_keep_5 rfl (lv_at hl 1 rfl) ?_
    refine lv_aload_n hx hb dX7_keep_6 rfl (lv_at hl 0 rfl) ?_
    refine kget C h 0 rfl rfl inBX7 2 (Nat.le_of_ble_eq_true rfl) wi_fl_X7_66 rfl dX7_keep_7 ?_
    refine lv_icmp_le (tgt := 17) hx hb dX7_keep_10 (by decide) (fun c_10 => ?_) (fun c_10 => ?_)
    · have hw := hw.1 c_10
      refine lv_iconst (v := 0) hx hb dX7_keep_17 (by decide) ?_
      exact kX7_keep_b18 C hr hlk x1 0 _ _ _ _ hw h (lv_sub hl [0, 1] rfl)
    · have hw := hw.2 c_10
      exact kX7_keep_b13 C hr hlk x1 _ _ _ _ hw h (lv_sub hl [0, 1] rfl)

def wX7_look_b67 (K0 : ST → Prop) (Q : Int32 → ST → Prop) (u : ST) : Prop :=
  K0  (sI u 3 ((gI u 3) + 1))
set_option maxHeartbeats 4000000 in
set_option maxRecDepth 100000 in
theorem kX7_look_b67 {p : Program} {l : Launch} {e : Env} {s : State} {m : MethodId} {args : Array Value} {below : List Frame} {meth : Method} {c : Code} {D : va_G} {cy : CY} {A : Nat → Prop} {am : Nat → Nat} {K0 : ST → Prop} {Q : Int32 → ST → Prop} (C : kC p m c cX7_look 1 s args RX7 D cy A) (hr : meth.sig.returnType = some .int) (hlk : meth.locks = false) (g0 : ∀ (u : ST) (H : Heap) (locs : List Loc) (ls : Array Slot), K0  u → kH D (mW cy am) A s u H locs → lv_has ls 1 [(0, .ref (am 0))] → W p l e (kRm 0) s m args below meth c H locs 0 0 (MQ below (kQi D (mW cy am) cy A Q) args s 0 0 A) (F0 m 0 ls [])) : ∀ (u : ST) (H : Heap) (locs : List Loc) (ls : Array Slot), wX7_look_b67 K0 Q  u → kH D (mW cy am) A s u H locs → lv_has ls 1 [(0, .ref (am 0))] → W p l e (kRm 0) s m args below meth c H locs 0 0 (MQ below (kQi D (mW cy am) cy A Q) args s 0 0 A) (F0 m 67 ls []) := by
  intro  u H locs ls hw h hl
  obtain ⟨⟨hx, hb, hml, hown, hts⟩, hK, hA⟩ := id C
  unfold wX7_look_b67 at hw
  refine lv_aload_n hx hb dX7_look_67 rfl (lv_at hl 0 rfl) ?_
  refine lv_dup hx hb dX7_look_68 rfl ?_
  refine kget C h 0 rfl rfl inBX7 3 (Nat.le_of_ble_eq_true rfl) wi_fl_X7_69 rfl dX7_look_69 ?_
  refine lv_iconst (v := 1) hx hb dX7_look_72 (by decide) ?_
  refine lv_iadd hx hb dX7_look_73 ?_
  refine kput C h 0 rfl rfl inBX7 tyX7_ok nmX7 3 (Nat.le_of_ble_eq_true rfl) wi_fl_X7_69 rfl rfl rfl (Nat.le_of_ble_eq_true rfl) (mS_3 cy am u ((gI u 3) + 1)) dX7_look_74 (fun H locs h => ?_)
  refine lv_goto (tgt := 0) hx hb dX7_look_77 (by decide) ?_
  exact g0  _ _ _ _ hw h (lv_sub hl [0] rfl)
def wX7_look_b80 (Q : Int32 → ST → Prop) (u : ST) : Prop :=
  (((gI u 2) ≤ (gI u 3) → Q (-1) u) ∧ (¬ (gI u 2) ≤ (gI u 3) → (vp_in (gI u 3) 8000 ∧ Q ((gR u 1 (gI u 3).toNatClampNeg) &&& 255) u)))
set_option maxHeartbeats 4000000 in
set_option maxRecDepth 100000 in
theorem kX7_look_b80 {p : Program} {l : Launch} {e : Env} {s : State} {m : MethodId} {args : Array Value} {below : List Frame} {meth : Method} {c : Code} {D : va_G} {cy : CY} {A : Nat → Prop} {am : Nat → Nat} {Q : Int32 → ST → Prop} (C : kC p m c cX7_look 1 s args RX7 D cy A) (hr : meth.sig.returnType = some .int) (hlk : meth.locks = false) : ∀ (u : ST) (H : Heap) (locs : List Loc) (ls : Array Slot), wX7_look_b80 Q  u → kH D (mW cy am) A s u H locs → lv_has ls 1 [(0, .ref (am 0))] → W p l e (kRm 0) s m args below meth c H locs 0 0 (MQ below (kQi D (mW cy am) cy A Q) args s 0 0 A) (F0 m 80 ls []) := by
  intro  u H locs ls hw h hl
  obtain ⟨⟨hx, hb, hml, hown, hts⟩, hK, hA⟩ := id C
  unfold wX7_look_b80 at hw
  refine lv_aload_n hx hb dX7_look_80 rfl (lv_at hl 0 rfl) ?_
  refine kget C h 0 rfl rfl inBX7 3 (Nat.le_of_ble_eq_true rfl) wi_fl_X7_69 rfl dX7_look_81 ?_
  refine lv_aload_n hx hb dX7_look_84 rfl (lv_at hl 0 rfl) ?_
  refine kget C h 0 rfl rfl inBX7 2 (Nat.le_of_ble_eq_true rfl) wi_fl_X7_66 rfl dX7_look_85 ?_
  refine lv_icmp_ge (tgt := 107) hx hb dX7_look_88 (by decide) (fun c_88 => ?_) (fun c_88 => ?_)
  · have hw := hw.1 c_88
    refine lv_iconst (v := (-1)) hx hb dX7_look_107 (by decide) ?_
    exact kretI C hr hlk h hw dX7_look_108
  · have hw := hw.2 c_88
    refine lv_aload_n hx hb dX7_look_91 rfl (lv_at hl 0 rfl) ?_
    refine kget C h 0 rfl rfl inBX7 1 (Nat.le_of_ble_eq_true rfl) wi_fl_X7_7 rfl dX7_look_92 ?_
    refine lv_aload_n hx hb dX7_look_95 rfl (lv_at hl 0 rfl) ?_
    refine kget C h 0 rfl rfl inBX7 3 (Nat.le_of_ble_eq_true rfl) wi_fl_X7_69 rfl dX7_look_96 ?_
    obtain ⟨i_99, hw⟩ := hw
    refine kbald C h 1 rfl i_99 dX7_look_99 ?_
    refine lv_sipush (v := 255) hx hb dX7_look_100 (by decide) ?_
    refine lv_iand hx hb dX7_look_103 ?_
    refine lv_goto (tgt := 108) hx hb dX7_look_104 (by decide) ?_
    exact kretI C hr hlk h hw dX7_look_108
def wX7_look_B0 (K0 : ST → Prop) (Q : Int32 → ST → Prop) (u : ST) : Prop :=
  (((gI u 2) ≤ (gI u 3) → wX7_look_b80 Q  u) ∧ (¬ (gI u 2) ≤ (gI u 3) → (vp_in (gI u 3) 8000 ∧ (((gR u 1 (gI u 3).toNatClampNeg) = 9 → wX7_look_b67 K0 Q  u) ∧ (¬ (gR u 1 (gI u 3).toNatClampNeg) = 9 → (vp_in (gI u 3) 8000 ∧ (((gR u 1 (gI u 3).toNatClampNeg) = 10 → wX7_look_b67 K0 Q  u) ∧ (¬ (gR u 1 (gI u 3).toNatClampNeg) = 10 → (vp_in (gI u 3) 8000 ∧ (((gR u 1 (gI u 3).toNatClampNeg) = 13 → wX7_look_b67 K0 Q  u) ∧ (¬ (gR u 1 (gI u 3).toNatClampNeg) = 13 → (vp_in (gI u 3) 8000 ∧ ((¬ (gR u 1 (gI u 3).toNatClampNeg) = 32 → wX7_look_b80 Q  u) ∧ ((gR u 1 (gI u 3).toNatClampNeg) = 32 → wX7_look_b67 K0 Q  u))))))))))))))
set_option maxHeartbeats 4000000 in
set_option maxRecDepth 100000 in
theorem kX7_look_B0 {p : Program} {l : Launch} {e : Env} {s : State} {m : MethodId} {args : Array Value} {below : List Frame} {meth : Method} {c : Code} {D : va_G} {cy : CY} {A : Nat → Prop} {am : Nat → Nat} {K0 : ST → Prop} {Q : Int32 → ST → Prop} (C : kC p m c cX7_look 1 s args RX7 D cy A) (hr : meth.sig.returnType = some .int) (hlk : meth.locks = false) (g0 : ∀ (u : ST) (H : Heap) (locs : List Loc) (ls : Array Slot), K0  u → kH D (mW cy am) A s u H locs → lv_has ls 1 [(0, .ref (am 0))] → W p l e (kRm 0) s m args below meth c H locs 0 0 (MQ below (kQi D (mW cy am) cy A Q) args s 0 0 A) (F0 m 0 ls [])) : ∀ (u : ST) (H : Heap) (locs : List Loc) (ls : Array Slot), wX7_look_B0 K0 Q  u → kH D (mW cy am) A s u H locs → lv_has ls 1 [(0, .ref (am 0))] → W p l e (kRm 0) s m args below meth c H locs 0 0 (MQ below (kQi D (mW cy am) cy A Q) args s 0 0 A) (F0 m 0 ls []) := by
  intro  u H locs ls hw h hl
  obtain ⟨⟨hx, hb, hml, hown, hts⟩, hK, hA⟩ := id C
  unfold wX7_look_B0 at hw
  refine lv_aload_n hx hb dX7_look_0 rfl (lv_at hl 0 rfl) ?_
  refine kget C h 0 rfl rfl inBX7 3 (Nat.le_of_ble_eq_true rfl) wi_fl_X7_69 rfl dX7_look_1 ?_
  refine lv_aload_n hx hb dX7_look_4 rfl (lv_at hl 0 rfl) ?_
  refine kget C h 0 rfl rfl inBX7 2 (Nat.le_of_ble_eq_true rfl) wi_fl_X7_66 rfl dX7_look_5 ?_
  refine lv_icmp_ge (tgt := 80) hx hb dX7_look_8 (by decide) (fun c_8 => ?_) (fun c_8 => ?_)
  · have hw := hw.1 c_8
    exact kX7_look_b80 C hr hlk  _ _ _ _ hw h (lv_sub hl [0] rfl)
  · have hw := hw.2 c_8
    refine lv_aload_n hx hb dX7_look_11 rfl (lv_at hl 0 rfl) ?_
    refine kget C h 0 rfl rfl inBX7 1 (Nat.le_of_ble_eq_true rfl) wi_fl_X7_7 rfl dX7_look_12 ?_
    refine lv_aload_n hx hb dX7_look_15 rfl (lv_at hl 0 rfl) ?_
    refine kget C h 0 rfl rfl inBX7 3 (Nat.le_of_ble_eq_true rfl) wi_fl_X7_69 rfl dX7_look_16 ?_
    obtain ⟨i_19, hw⟩ := hw
    refine kbald C h 1 rfl i_19 dX7_look_19 ?_
    refine lv_bipush (v := 9) hx hb dX7_look_20 (by decide) ?_
    refine lv_icmp_eq (tgt := 67) hx hb dX7_look_22 (by decide) (fun c_22 => ?_) (fun c_22 => ?_)
    · have hw := hw.1 c_22
      exact kX7_look_b67 C hr hlk g0  _ _ _ _ hw h (lv_sub hl [0] rfl)
    · have hw := hw.2 c_22
      refine lv_aload_n hx hb dX7_look_25 rfl (lv_at hl 0 rfl) ?_
      refine kget C h 0 rfl rfl inBX7 1 (Nat.le_of_ble_eq_true rfl) wi_fl_X7_7 rfl dX7_look_26 ?_
      refine lv_aload_n hx hb dX7_look_29 rfl (lv_at hl 0 rfl) ?_
      refine kget C h 0 rfl rfl inBX7 3 (Nat.le_of_ble_eq_true rfl) wi_fl_X7_69 rfl dX7_look_30 ?_
      obtain ⟨i_33, hw⟩ := hw
      refine kbald C h 1 rfl i_33 dX7_look_33 ?_
      refine lv_bipush (v := 10) hx hb dX7_look_34 (by decide) ?_
      refine lv_icmp_eq (tgt := 67) hx hb dX7_look_36 (by decide) (fun c_36 => ?_) (fun c_36 => ?_)
      · have hw := hw.1 c_36
        exact kX7_look_b67 C hr hlk g0  _ _ _ _ hw h (lv_sub hl [0] rfl)
      · have hw := hw.2 c_36
        refine lv_aload_n hx hb dX7_look_39 rfl (lv_at hl 0 rfl) ?_
        refine kget C h 0 rfl rfl inBX7 1 (Nat.le_of_ble_eq_true rfl) wi_fl_X7_7 rfl dX7_look_40 ?_
        refine lv_aload_n hx hb dX7_look_43 rfl (lv_at hl 0 rfl) ?_
        refine kget C h 0 rfl rfl inBX7 3 (Nat.le_of_ble_eq_true rfl) wi_fl_X7_69 rfl dX7_look_44 ?_
        obtain ⟨i_47, hw⟩ := hw
        refine kbald C h 1 rfl i_47 dX7_look_47 ?_
        refine lv_bipush (v := 13) hx hb dX7_look_48 (by decide) ?_
        refine lv_icmp_eq (tgt := 67) hx hb dX7_look_50 (by decide) (fun c_50 => ?_) (fun c_50 => ?_)
        · have hw := hw.1 c_50
          exact kX7_look_b67 C hr hlk g0  _ _ _ _ hw h (lv_sub hl [0] rfl)
        · have hw := hw.2 c_50
          refine lv_aload_n hx hb dX7_look_53 rfl (lv_at hl 0 rfl) ?_
          refine kget C h 0 rfl rfl inBX7 1 (Nat.le_of_ble_eq_true rfl) wi_fl_X7_7 rfl dX7_look_54 ?_
          refine lv_aload_n hx hb dX7_look_57 rfl (lv_at hl 0 rfl) ?_
          refine kget C h 0 rfl rfl inBX7 3 (Nat.le_of_ble_eq_true rfl) wi_fl_X7_69 rfl dX7_look_58 ?_
          obtain ⟨i_61, hw⟩ := hw
          refine kbald C h 1 rfl i_61 dX7_look_61 ?_
          refine lv_bipush (v := 32) hx hb dX7_look_62 (by decide) ?_
          refine lv_icmp_ne (tgt := 80) hx hb dX7_look_64 (by decide) (fun c_64 => ?_) (fun c_64 => ?_)
          · have hw := hw.1 c_64
            exact kX7_look_b80 C hr hlk  _ _ _ _ hw h (lv_sub hl [0] rfl)
          · have hw := hw.2 c_64
            exact kX7_look_b67 C hr hlk g0  _ _ _ _ hw h (lv_sub hl [0] rfl)
def wX7_look_L0 (Q : Int32 → ST → Prop) : Nat → ST → Prop
  | 0, _ => False
  | n + 1, u => wX7_look_B0 (wX7_look_L0 Q n) Q  u
set_option maxHeartbeats 4000000 in
theorem kX7_look_L0 {p : Program} {l : Launch} {e : Env} {s : State} {m : MethodId} {args : Array Value} {below : List Frame} {meth : Method} {c : Code} {D : va_G} {cy : CY} {A : Nat → Prop} {am : Nat → Nat} {Q : Int32 → ST → Prop} (C : kC p m c cX7_look 1 s args RX7 D cy A) (hr : meth.sig.returnType = some .int) (hlk : meth.locks = false) : ∀ n : Nat, ∀ (u : ST) (H : Heap) (locs : List Loc) (ls : Array Slot), wX7_look_L0 Q n  u → kH D (mW cy am) A s u H locs → lv_has ls 1 [(0, .ref (am 0))] → W p l e (kRm 0) s m args below meth c H locs 0 0 (MQ below (kQi D (mW cy am) cy A Q) args s 0 0 A) (F0 m 0 ls []) := by
  intro n
  induction n with
  | zero => intro  u H locs ls hw; exact False.elim hw
  | succ n ih => exact kX7_look_B0 C hr hlk ih
def wX7_look (u : ST) (Q : Int32 → ST → Prop) : Prop :=
  (∃ n : Nat, wX7_look_L0 Q n  u)
set_option maxHeartbeats 4000000 in
set_option maxRecDepth 100000 in
theorem mX7_look (l : Launch) (D : va_G) (cy : CY) (am : Nat → Nat) (u : ST) (sz : Nat) {Q : Int32 → ST → Prop} (hw : wX7_look  u Q) : Met l yX7_look (wM yX7_look cX7_look 1 (some .int)) (kRm 0) (kPc D (mW cy am) cy u sz [.ref (am 0)]) (kQi D (mW cy am) cy (va_A (mW cy am u) sz) Q) 0 0 (va_A (mW cy am u) sz) := by
  refine kMet pn_X7_look (Nat.le_of_ble_eq_true rfl) (fun p e s m below meth c ls hsz C hr hlk hex h hl => ?_)
  have hl : lv_has ls 1 [(0, .ref (am 0))] := hl
  obtain ⟨⟨hx, hb, hml, hown, hts⟩, hK, hA⟩ := id C
  unfold wX7_look at hw
  have h : kH D (mW cy am) (va_A (mW cy am u) sz) s u s.heap [] := h
  obtain ⟨n, hw⟩ := hw
  exact kX7_look_L0 C hr hlk n  _ _ _ _ hw h (lv_sub hl [0] rfl)

def wX7_bad (x1 : Int32) (x2 : Int32) (u : ST) (Q : ST → Prop) : Prop :=
  ((¬ (gI u 4) = 0 → Q u) ∧ ((gI u 4) = 0 → Q (sI (sI u 4 x1) 3 x2)))
set_option maxHeartbeats 4000000 in
set_option maxRecDepth 100000 in
theorem mX7_bad (l : Launch) (D : va_G) (cy : CY) (am : Nat → Nat) (x1 : Int32) (x2 : Int32) (u : ST) (sz : Nat) {Q : ST → Prop} (hw : wX7_bad x1 x2 u Q) : Met l yX7_bad (wM yX7_bad cX7_bad 3 none) (kRm 0) (kPc D (mW cy am) cy u sz [.ref (am 0), .int x1, .int x2]) (kQv D (mW cy am) cy (va_A (mW cy am u) sz) Q) 0 0 (va_A (mW cy am u) sz) := by
  refine kMet pn_X7_bad (Nat.le_of_ble_eq_true rfl) (fun p e s m below meth c ls hsz C hr hlk hex h hl => ?_)
  have hl : lv_has ls 3 [(0, .ref (am 0)), (1, .int x1), (2, .int x2)] := hl
  obtain ⟨⟨hx, hb, hml, hown, hts⟩, hK, hA⟩ := id C
  unfold wX7_bad at hw
  have h : kH D (mW cy am) (va_A (mW cy am u) sz) s u s.heap [] := h
  refine lv_aload_n hx hb dX7_bad_0 rfl (lv_at hl 0 rfl) ?_
  refine kget C h 0 rfl rfl inBX7 4 (Nat.le_of_ble_eq_true rfl) wi_fl_X7_72 rfl dX7_bad_1 ?_
  refine lv_if_ne (tgt := 17) hx hb dX7_bad_4 (by decide) (fun c_4 => ?_) (fun c_4 => ?_)
  · have hw := hw.1 c_4
    exact kretV C hr hlk h hw dX7_bad_17
  · have hw := hw.2 c_4
    refine lv_aload_n hx hb dX7_bad_7 rfl (lv_at hl 0 rfl) ?_
    refine lv_iload_n hx hb dX7_bad_8 rfl (lv_at hl 1 rfl) ?_
    refine kput C h 0 rfl rfl inBX7 tyX7_ok nmX7 4 (Nat.le_of_ble_eq_true rfl) wi_fl_X7_72 rfl rfl rfl (Nat.le_of_ble_eq_true rfl) (mS_4 cy am u x1) dX7_bad_9 (fun H locs h => ?_)
    refine lv_aload_n hx hb dX7_bad_12 rfl (lv_at hl 0 rfl) ?_
    refine lv_iload_n hx hb dX7_bad_13 rfl (lv_at hl 2 rfl) ?_
    refine kput C h 0 rfl rfl inBX7 tyX7_ok nmX7 3 (Nat.le_of_ble_eq_true rfl) wi_fl_X7_69 rfl rfl rfl (Nat.le_of_ble_eq_true rfl) (mS_3 cy am (sI u 4 x1) x2) dX7_bad_14 (fun H locs h => ?_)
    exact kretV C hr hlk h hw dX7_bad_17

def wX7_isLetter (x0 : Int32) (u : ST) (Q : Int32 → ST → Prop) : Prop :=
  ((x0 < 97 → Q 0 u) ∧ (¬ x0 < 97 → ((122 < x0 → Q 0 u) ∧ (¬ 122 < x0 → Q 1 u))))
set_option maxHeartbeats 4000000 in
set_option maxRecDepth 100000 in
theorem mX7_isLetter (l : Launch) (D : va_G) (cy : CY) (am : Nat → Nat) (x0 : Int32) (u : ST) (sz : Nat) {Q : Int32 → ST → Prop} (hw : wX7_isLetter x0 u Q) : Met l yX7_isLetter (wM yX7_isLetter cX7_isLetter 1 (some .boolean)) (kRm 0) (kPc D (mW cy am) cy u sz [.int x0]) (kQi D (mW cy am) cy (va_A (mW cy am u) sz) Q) 0 0 (va_A (mW cy am u) sz) := by
  refine kMet pn_X7_isLetter (Nat.le_of_ble_eq_true rfl) (fun p e s m below meth c ls hsz C hr hlk hex h hl => ?_)
  have hl : lv_has ls 1 [(0, .int x0)] := hl
  obtain ⟨⟨hx, hb, hml, hown, hts⟩, hK, hA⟩ := id C
  unfold wX7_isLetter at hw
  have h : kH D (mW cy am) (va_A (mW cy am u) sz) s u s.heap [] := h
  refine lv_iload_n hx hb dX7_isLetter_0 rfl (lv_at hl 0 rfl) ?_
  refine lv_bipush (v := 97) hx hb dX7_isLetter_1 (by decide) ?_
  refine lv_icmp_lt (tgt := 16) hx hb dX7_isLetter_3 (by decide) (fun c_3 => ?_) (fun c_3 => ?_)
  · have hw := hw.1 c_3
    refine lv_iconst (v := 0) hx hb dX7_isLetter_16 (by decide) ?_
    exact kretZ C hr hlk h (Or.inl rfl) hw dX7_isLetter_17
  · have hw := hw.2 c_3
    refine lv_iload_n hx hb dX7_isLetter_6 rfl (lv_at hl 0 rfl) ?_
    refine lv_bipush (v := 122) hx hb dX7_isLetter_7 (by decide) ?_
    refine lv_icmp_gt (tgt := 16) hx hb dX7_isLetter_9 (by decide) (fun c_9 => ?_) (fun c_9 => ?_)
    · have hw := hw.1 c_9
      refine lv_iconst (v := 0) hx hb dX7_isLetter_16 (by decide) ?_
      exact kretZ C hr hlk h (Or.inl rfl) hw dX7_isLetter_17
    · have hw := hw.2 c_9
      refine lv_iconst (v := 1) hx hb dX7_isLetter_12 (by decide) ?_
      refine lv_goto (tgt := 17) hx hb dX7_isLetter_13 (by decide) ?_
      exact kretZ C hr hlk h (Or.inr rfl) hw dX7_isLetter_17

def wX7_isDigit (x0 : Int32) (u : ST) (Q : Int32 → ST → Prop) : Prop :=
  ((x0 < 48 → Q 0 u) ∧ (¬ x0 < 48 → ((57 < x0 → Q 0 u) ∧ (¬ 57 < x0 → Q 1 u))))
set_option maxHeartbeats 4000000 in
set_option maxRecDepth 100000 in
theorem mX7_isDigit (l : Launch) (D : va_G) (cy : CY) (am : Nat → Nat) (x0 : Int32) (u : ST) (sz : Nat) {Q : Int32 → ST → Prop} (hw : wX7_isDigit x0 u Q) : Met l yX7_isDigit (wM yX7_isDigit cX7_isDigit 1 (some .boolean)) (kRm 0) (kPc D (mW cy am) cy u sz [.int x0]) (kQi D (mW cy am) cy (va_A (mW cy am u) sz) Q) 0 0 (va_A (mW cy am u) sz) := by
  refine kMet pn_X7_isDigit (Nat.le_of_ble_eq_true rfl) (fun p e s m below meth c ls hsz C hr hlk hex h hl => ?_)
  have hl : lv_has ls 1 [(0, .int x0)] := hl
  obtain ⟨⟨hx, hb, hml, hown, hts⟩, hK, hA⟩ := id C
  unfold wX7_isDigit at hw
  have h : kH D (mW cy am) (va_A (mW cy am u) sz) s u s.heap [] := h
  refine lv_iload_n hx hb dX7_isDigit_0 rfl (lv_at hl 0 rfl) ?_
  refine lv_bipush (v := 48) hx hb dX7_isDigit_1 (by decide) ?_
  refine lv_icmp_lt (tgt := 16) hx hb dX7_isDigit_3 (by decide) (fun c_3 => ?_) (fun c_3 => ?_)
  · have hw := hw.1 c_3
    refine lv_iconst (v := 0) hx hb dX7_isDigit_16 (by decide) ?_
    exact kretZ C hr hlk h (Or.inl rfl) hw dX7_isDigit_17
  · have hw := hw.2 c_3
    refine lv_iload_n hx hb dX7_isDigit_6 rfl (lv_at hl 0 rfl) ?_
    refine lv_bipush (v := 57) hx hb dX7_isDigit_7 (by decide) ?_
    refine lv_icmp_gt (tgt := 16) hx hb dX7_isDigit_9 (by decide) (fun c_9 => ?_) (fun c_9 => ?_)
    · have hw := hw.1 c_9
      refine lv_iconst (v := 0) hx hb dX7_isDigit_16 (by decide) ?_
      exact kretZ C hr hlk h (Or.inl rfl) hw dX7_isDigit_17
    · have hw := hw.2 c_9
      refine lv_iconst (v := 1) hx hb dX7_isDigit_12 (by decide) ?_
      refine lv_goto (tgt := 17) hx hb dX7_isDigit_13 (by decide) ?_
      exact kretZ C hr hlk h (Or.inr rfl) hw dX7_isDigit_17

def wX7_nameEnd_b68 (K36 : Int32 → Int32 → ST → Prop) (Q : Int32 → ST → Prop) (x1 : Int32) (x2 : Int32) (u : ST) : Prop :=
  K36 x1 (x2 + 1) u
set_option maxHeartbeats 4000000 in
set_option maxRecDepth 100000 in
theorem kX7_nameEnd_b68 {p : Program} {l : Launch} {e : Env} {s : State} {m : MethodId} {args : Array Value} {below : List Frame} {meth : Method} {c : Code} {D : va_G} {cy : CY} {A : Nat → Prop} {am : Nat → Nat} {K36 : Int32 → Int32 → ST → Prop} {Q : Int32 → ST → Prop} (C : kC p m c cX7_nameEnd 3 s args RX7 D cy A) (hr : meth.sig.returnType = some .int) (hlk : meth.locks = false) (g36 : ∀ (x1 : Int32) (x2 : Int32) (u : ST) (H : Heap) (locs : List Loc) (ls : Array Slot), K36 x1 x2 u → kH D (mW cy am) A s u H locs → lv_has ls 3 [(0, .ref (am 0)), (1, .int x1), (2, .int x2)] → W p l e (kRm 1) s m args below meth c H locs 0 0 (MQ below (kQi D (mW cy am) cy A Q) args s 0 0 A) (F0 m 36 ls [])) : ∀ (x1 : Int32) (x2 : Int32) (u : ST) (H : Heap) (locs : List Loc) (ls : Array Slot), wX7_nameEnd_b68 K36 Q x1 x2 u → kH D (mW cy am) A s u H locs → lv_has ls 3 [(0, .ref (am 0)), (1, .int x1), (2, .int x2)] → W p l e (kRm 1) s m args below meth c H locs 0 0 (MQ below (kQi D (mW cy am) cy A Q) args s 0 0 A) (F0 m 68 ls []) := by
  intro x1 x2 u H locs ls hw h hl
  obtain ⟨⟨hx, hb, hml, hown, hts⟩, hK, hA⟩ := id C
  unfold wX7_nameEnd_b68 at hw
  refine lv_iinc (v := x2 + 1) (lv' := [(2, .int (x2 + 1)), (0, .ref (am 0)), (1, .int x1)]) hx hb dX7_nameEnd_68 hl (k := 2) rfl rfl (by decide) rfl (fun ls hl => ?_)
  refine lv_goto (tgt := 36) hx hb dX7_nameEnd_71 (by decide) ?_
  exact g36 x1 (x2 + 1) _ _ _ _ hw h (lv_sub hl [1, 2, 0] rfl)
def wX7_nameEnd_b74 (Q : Int32 → ST → Prop) (x1 : Int32) (x2 : Int32) (u : ST) : Prop :=
  (((x2 - x1) ≤ 10 → Q x2 u) ∧ (¬ (x2 - x1) ≤ 10 → wX7_bad 1 x1 u (fun u_2 => Q x2 u_2)))
set_option maxHeartbeats 4000000 in
set_option maxRecDepth 100000 in
theorem kX7_nameEnd_b74 {p : Program} {l : Launch} {e : Env} {s : State} {m : MethodId} {args : Array Value} {below : List Frame} {meth : Method} {c : Code} {D : va_G} {cy : CY} {A : Nat → Prop} {am : Nat → Nat} {Q : Int32 → ST → Prop} (C : kC p m c cX7_nameEnd 3 s args RX7 D cy A) (hr : meth.sig.returnType = some .int) (hlk : meth.locks = false) : ∀ (x1 : Int32) (x2 : Int32) (u : ST) (H : Heap) (locs : List Loc) (ls : Array Slot), wX7_nameEnd_b74 Q x1 x2 u → kH D (mW cy am) A s u H locs → lv_has ls 3 [(0, .ref (am 0)), (1, .int x1), (2, .int x2)] → W p l e (kRm 1) s m args below meth c H locs 0 0 (MQ below (kQi D (mW cy am) cy A Q) args s 0 0 A) (F0 m 74 ls []) := by
  intro x1 x2 u H locs ls hw h hl
  obtain ⟨⟨hx, hb, hml, hown, hts⟩, hK, hA⟩ := id C
  unfold wX7_nameEnd_b74 at hw
  refine lv_iload_n hx hb dX7_nameEnd_74 rfl (lv_at hl 2 rfl) ?_
  refine lv_iload_n hx hb dX7_nameEnd_75 rfl (lv_at hl 1 rfl) ?_
  refine lv_isub hx hb dX7_nameEnd_76 ?_
  refine lv_bipush (v := 10) hx hb dX7_nameEnd_77 (by decide) ?_
  refine lv_icmp_le (tgt := 88) hx hb dX7_nameEnd_79 (by decide) (fun c_79 => ?_) (fun c_79 => ?_)
  · have hw := hw.1 c_79
    refine lv_iload_n hx hb dX7_nameEnd_88 rfl (lv_at hl 2 rfl) ?_
    exact kretI C hr hlk h hw dX7_nameEnd_89
  · have hw := hw.2 c_79
    refine lv_aload_n hx hb dX7_nameEnd_82 rfl (lv_at hl 0 rfl) ?_
    refine lv_iconst (v := 1) hx hb dX7_nameEnd_83 (by decide) ?_
    refine lv_iload_n hx hb dX7_nameEnd_84 rfl (lv_at hl 1 rfl) ?_
    refine kVv (As := [.int 1, .int x1]) (rest := []) C h (cwV 2 hts (gd_V wi_ml_X7_83 wi_im_X7_bad wi_se_X7_bad wi_in_X7 wi_co_X7_bad) rfl rfl rfl hd_X7_bad ⟨Nat.le_of_ble_eq_true rfl, Nat.le_of_ble_eq_true rfl⟩) 0 rfl rfl rfl (mX7_bad l D cy am 1 x1 _ _ hw) rfl hl.1 rfl (Nat.le_of_ble_eq_true rfl) ⟨Nat.zero_le _, Nat.zero_le _⟩ dX7_nameEnd_85 (fun u_2 H locs hw h => ?_)
    refine lv_iload_n hx hb dX7_nameEnd_88 rfl (lv_at hl 2 rfl) ?_
    exact kretI C hr hlk h hw dX7_nameEnd_89
def wX7_nameEnd_B36 (K36 : Int32 → Int32 → ST → Prop) (Q : Int32 → ST → Prop) (x1 : Int32) (x2 : Int32) (u : ST) : Prop :=
  (((gI u 2) ≤ x2 → wX7_nameEnd_b74 Q x1 x2 u) ∧ (¬ (gI u 2) ≤ x2 → (vp_in x2 8000 ∧ wX7_isLetter (gR u 1 x2.toNatClampNeg) u (fun r_1 u_2 => ((¬ r_1 = 0 → wX7_nameEnd_b68 K36 Q x1 x2 u_2) ∧ (r_1 = 0 → (vp_in x2 8000 ∧ wX7_isDigit (gR u_2 1 x2.toNatClampNeg) u_2 (fun r_3 u_4 => ((r_3 = 0 → wX7_nameEnd_b74 Q x1 x2 u_4) ∧ (¬ r_3 = 0 → wX7_nameEnd_b68 K36 Q x1 x2 u_4))))))))))
set_option maxHeartbeats 4000000 in
set_option maxRecDepth 100000 in
theorem kX7_nameEnd_B36 {p : Program} {l : Launch} {e : Env} {s : State} {m : MethodId} {args : Array Value} {below : List Frame} {meth : Method} {c : Code} {D : va_G} {cy : CY} {A : Nat → Prop} {am : Nat → Nat} {K36 : Int32 → Int32 → ST → Prop} {Q : Int32 → ST → Prop} (C : kC p m c cX7_nameEnd 3 s args RX7 D cy A) (hr : meth.sig.returnType = some .int) (hlk : meth.locks = false) (g36 : ∀ (x1 : Int32) (x2 : Int32) (u : ST) (H : Heap) (locs : List Loc) (ls : Array Slot), K36 x1 x2 u → kH D (mW cy am) A s u H locs → lv_has ls 3 [(0, .ref (am 0)), (1, .int x1), (2, .int x2)] → W p l e (kRm 1) s m args below meth c H locs 0 0 (MQ below (kQi D (mW cy am) cy A Q) args s 0 0 A) (F0 m 36 ls [])) : ∀ (x1 : Int32) (x2 : Int32) (u : ST) (H : Heap) (locs : List Loc) (ls : Array Slot), wX7_nameEnd_B36 K36 Q x1 x2 u → kH D (mW cy am) A s u H locs → lv_has ls 3 [(0, .ref (am 0)), (1, .int x1), (2, .int x2)] → W p l e (kRm 1) s m args below meth c H locs 0 0 (MQ below (kQi D (mW cy am) cy A Q) args s 0 0 A) (F0 m 36 ls []) := by
  intro x1 x2 u H locs ls hw h hl
  obtain ⟨⟨hx, hb, hml, hown, hts⟩, hK, hA⟩ := id C
  unfold wX7_nameEnd_B36 at hw
  refine lv_iload_n hx hb dX7_nameEnd_36 rfl (lv_at hl 2 rfl) ?_
  refine lv_aload_n hx hb dX7_nameEnd_37 rfl (lv_at hl 0 rfl) ?_
  refine kget C h 0 rfl rfl inBX7 2 (Nat.le_of_ble_eq_true rfl) wi_fl_X7_66 rfl dX7_nameEnd_38 ?_
  refine lv_icmp_ge (tgt := 74) hx hb dX7_nameEnd_41 (by decide) (fun c_41 => ?_) (fun c_41 => ?_)
  · have hw := hw.1 c_41
    exact kX7_nameEnd_b74 C hr hlk x1 x2 _ _ _ _ hw h (lv_sub hl [0, 1, 2] rfl)
  · have hw := hw.2 c_41
    refine lv_aload_n hx hb dX7_nameEnd_44 rfl (lv_at hl 0 rfl) ?_
    refine kget C h 0 rfl rfl inBX7 1 (Nat.le_of_ble_eq_true rfl) wi_fl_X7_7 rfl dX7_nameEnd_45 ?_
    refine lv_iload_n hx hb dX7_nameEnd_48 rfl (lv_at hl 2 rfl) ?_
    obtain ⟨i_49, hw⟩ := hw
    refine kbald C h 1 rfl i_49 dX7_nameEnd_49 ?_
    refine kSi (As := [.int (gR u 1 x2.toNatClampNeg)]) (rest := []) C h (va_cwS 1 hts (gd_S wi_ml_X7_79 wi_st_X7_isLetter wi_in_X7 wi_co_X7_isLetter) rfl rfl rfl hd_X7_isLetter.2 ⟨Nat.le_of_ble_eq_true rfl, Nat.le_of_ble_eq_true rfl⟩) (mX7_isLetter l D cy am (gR u 1 x2.toNatClampNeg) _ _ hw) rfl hl.1 rfl (Nat.le_of_ble_eq_true rfl) ⟨Nat.zero_le _, Nat.zero_le _⟩ dX7_nameEnd_50 (fun r_1 u_2 H locs hw h => ?_)
    refine lv_if_ne (tgt := 68) hx hb dX7_nameEnd_53 (by decide) (fun c_53 => ?_) (fun c_53 => ?_)
    · have hw := hw.1 c_53
      exact kX7_nameEnd_b68 C hr hlk g36 x1 x2 _ _ _ _ hw h (lv_sub hl [0, 1, 2] rfl)
    · have hw := hw.2 c_53
      refine lv_aload_n hx hb dX7_nameEnd_56 rfl (lv_at hl 0 rfl) ?_
      refine kget C h 0 rfl rfl inBX7 1 (Nat.le_of_ble_eq_true rfl) wi_fl_X7_7 rfl dX7_nameEnd_57 ?_
      refine lv_iload_n hx hb dX7_nameEnd_60 rfl (lv_at hl 2 rfl) ?_
      obtain ⟨i_61, hw⟩ := hw
      refine kbald C h 1 rfl i_61 dX7_nameEnd_61 ?_
      refine kSi (As := [.int (gR u_2 1 x2.toNatClampNeg)]) (rest := []) C h (va_cwS 1 hts (gd_S wi_ml_X7_87 wi_st_X7_isDigit wi_in_X7 wi_co_X7_isDigit) rfl rfl rfl hd_X7_isDigit.2 ⟨Nat.le_of_ble_eq_true rfl, Nat.le_of_ble_eq_true rfl⟩) (mX7_isDigit l D cy am (gR u_2 1 x2.toNatClampNeg) _ _ hw) rfl hl.1 rfl (Nat.le_of_ble_eq_true rfl) ⟨Nat.zero_le _, Nat.zero_le _⟩ dX7_nameEnd_62 (fun r_3 u_4 H locs hw h => ?_)
      refine lv_if_eq (tgt := 74) hx hb dX7_nameEnd_65 (by decide) (fun c_65 => ?_) (fun c_65 => ?_)
      · have hw := hw.1 c_65
        exact kX7_nameEnd_b74 C hr hlk x1 x2 _ _ _ _ hw h (lv_sub hl [0, 1, 2] rfl)
      · have hw := hw.2 c_65
        exact kX7_nameEnd_b68 C hr hlk g36 x1 x2 _ _ _ _ hw h (lv_sub hl [0, 1, 2] rfl)
def wX7_nameEnd_L36 (Q : Int32 → ST → Prop) : Nat → Int32 → Int32 → ST → Prop
  | 0, _, _, _ => False
  | n + 1, x1, x2, u => wX7_nameEnd_B36 (wX7_nameEnd_L36 Q n) Q x1 x2 u
set_option maxHeartbeats 4000000 in
theorem kX7_nameEnd_L36 {p : Program} {l : Launch} {e : Env} {s : State} {m : MethodId} {args : Array Value} {below : List Frame} {meth : Method} {c : Code} {D : va_G} {cy : CY} {A : Nat → Prop} {am : Nat → Nat} {Q : Int32 → ST → Prop} (C : kC p m c cX7_nameEnd 3 s args RX7 D cy A) (hr : meth.sig.returnType = some .int) (hlk : meth.locks = false) : ∀ n : Nat, ∀ (x1 : Int32) (x2 : Int32) (u : ST) (H : Heap) (locs : List Loc) (ls : Array Slot), wX7_nameEnd_L36 Q n x1 x2 u → kH D (mW cy am) A s u H locs → lv_has ls 3 [(0, .ref (am 0)), (1, .int x1), (2, .int x2)] → W p l e (kRm 1) s m args below meth c H locs 0 0 (MQ below (kQi D (mW cy am) cy A Q) args s 0 0 A) (F0 m 36 ls []) := by
  intro n
  induction n with
  | zero => intro x1 x2 u H locs ls hw; exact False.elim hw
  | succ n ih => exact kX7_nameEnd_B36 C hr hlk ih
def wX7_nameEnd (u : ST) (Q : Int32 → ST → Prop) : Prop :=
  wX7_look  u (fun r_1 u_2 => wX7_isLetter r_1 u_2 (fun r_3 u_4 => ((¬ r_3 = 0 → (∃ n : Nat, wX7_nameEnd_L36 Q n (gI u_4 3) (gI u_4 3) u_4)) ∧ (r_3 = 0 → wX7_bad 1 (gI u_4 3) u_4 (fun u_6 => Q (gI u_6 3) u_6)))))
set_option maxHeartbeats 4000000 in
set_option maxRecDepth 100000 in
theorem mX7_nameEnd (l : Launch) (D : va_G) (cy : CY) (am : Nat → Nat) (u : ST) (sz : Nat) {Q : Int32 → ST → Prop} (hw : wX7_nameEnd  u Q) : Met l yX7_nameEnd (wM yX7_nameEnd cX7_nameEnd 3 (some .int)) (kRm 1) (kPc D (mW cy am) cy u sz [.ref (am 0)]) (kQi D (mW cy am) cy (va_A (mW cy am u) sz) Q) 0 0 (va_A (mW cy am u) sz) := by
  refine kMet pn_X7_nameEnd (Nat.le_of_ble_eq_true rfl) (fun p e s m below meth c ls hsz C hr hlk hex h hl => ?_)
  have hl : lv_has ls 3 [(0, .ref (am 0))] := hl
  obtain ⟨⟨hx, hb, hml, hown, hts⟩, hK, hA⟩ := id C
  unfold wX7_nameEnd at hw
  have h : kH D (mW cy am) (va_A (mW cy am u) sz) s u s.heap [] := h
  refine lv_aload_n hx hb dX7_nameEnd_0 rfl (lv_at hl 0 rfl) ?_
  refine kget C h 0 rfl rfl inBX7 3 (Nat.le_of_ble_eq_true rfl) wi_fl_X7_69 rfl dX7_nameEnd_1 ?_
  refine lv_istore_n (lv' := [(1, .int (gI u 3)), (0, .ref (am 0))]) hx hb dX7_nameEnd_4 rfl hl (by decide) rfl (fun ls hl => ?_)
  refine lv_aload_n hx hb dX7_nameEnd_5 rfl (lv_at hl 1 rfl) ?_
  refine kVi (As := []) (rest := []) C h (cwV 0 hts (gd_V wi_ml_X7_75 wi_im_X7_look wi_se_X7_look wi_in_X7 wi_co_X7_look) rfl rfl rfl hd_X7_look ⟨Nat.le_of_ble_eq_true rfl, Nat.le_of_ble_eq_true rfl⟩) 0 rfl rfl rfl (mX7_look l D cy am  _ _ hw) rfl hl.1 rfl (Nat.le_of_ble_eq_true rfl) ⟨Nat.zero_le _, Nat.zero_le _⟩ dX7_nameEnd_6 (fun r_1 u_2 H locs hw h => ?_)
  refine kSi (As := [.int r_1]) (rest := []) C h (va_cwS 1 hts (gd_S wi_ml_X7_79 wi_st_X7_isLetter wi_in_X7 wi_co_X7_isLetter) rfl rfl rfl hd_X7_isLetter.2 ⟨Nat.le_of_ble_eq_true rfl, Nat.le_of_ble_eq_true rfl⟩) (mX7_isLetter l D cy am r_1 _ _ hw) rfl hl.1 rfl (Nat.le_of_ble_eq_true rfl) ⟨Nat.zero_le _, Nat.zero_le _⟩ dX7_nameEnd_9 (fun r_3 u_4 H locs hw h => ?_)
  refine lv_if_ne (tgt := 29) hx hb dX7_nameEnd_12 (by decide) (fun c_12 => ?_) (fun c_12 => ?_)
  · have hw := hw.1 c_12
    refine lv_aload_n hx hb dX7_nameEnd_29 rfl (lv_at hl 1 rfl) ?_
    refine kget C h 0 rfl rfl inBX7 3 (Nat.le_of_ble_eq_true rfl) wi_fl_X7_69 rfl dX7_nameEnd_30 ?_
    refine lv_istore_n (lv' := [(1, .int (gI u_4 3)), (0, .ref (am 0))]) hx hb dX7_nameEnd_33 rfl hl (by decide) rfl (fun ls hl => ?_)
    refine lv_iload_n hx hb dX7_nameEnd_34 rfl (lv_at hl 0 rfl) ?_
    refine lv_istore_n (lv' := [(2, .int (gI u_4 3)), (1, .int (gI u_4 3)), (0, .ref (am 0))]) hx hb dX7_nameEnd_35 rfl hl (by decide) rfl (fun ls hl => ?_)
    obtain ⟨n, hw⟩ := hw
    exact kX7_nameEnd_L36 C hr hlk n (gI u_4 3) (gI u_4 3) _ _ _ _ hw h (lv_sub hl [2, 1, 0] rfl)
  · have hw := hw.2 c_12
    refine lv_aload_n hx hb dX7_nameEnd_15 rfl (lv_at hl 1 rfl) ?_
    refine lv_iconst (v := 1) hx hb dX7_nameEnd_16 (by decide) ?_
    refine lv_aload_n hx hb dX7_nameEnd_17 rfl (lv_at hl 1 rfl) ?_
    refine kget C h 0 rfl rfl inBX7 3 (Nat.le_of_ble_eq_true rfl) wi_fl_X7_69 rfl dX7_nameEnd_18 ?_
    refine kVv (As := [.int 1, .int (gI u_4 3)]) (rest := []) C h (cwV 2 hts (gd_V wi_ml_X7_83 wi_im_X7_bad wi_se_X7_bad wi_in_X7 wi_co_X7_bad) rfl rfl rfl hd_X7_bad ⟨Nat.le_of_ble_eq_true rfl, Nat.le_of_ble_eq_true rfl⟩) 0 rfl rfl rfl (mX7_bad l D cy am 1 (gI u_4 3) _ _ hw) rfl hl.1 rfl (Nat.le_of_ble_eq_true rfl) ⟨Nat.zero_le _, Nat.zero_le _⟩ dX7_nameEnd_21 (fun u_6 H locs hw h => ?_)
    refine lv_aload_n hx hb dX7_nameEnd_24 rfl (lv_at hl 1 rfl) ?_
    refine kget C h 0 rfl rfl inBX7 3 (Nat.le_of_ble_eq_true rfl) wi_fl_X7_69 rfl dX7_nameEnd_25 ?_
    exact kretI C hr hlk h hw dX7_nameEnd_28

def wX7_word_b83 (Q : ST → Prop) (xs1 : Int32) (u : ST) : Prop :=
  Q (sI u 3 xs1)
set_option maxHeartbeats 4000000 in
set_option maxRecDepth 100000 in
theorem kX7_word_b83 {p : Program} {l : Launch} {e : Env} {s : State} {m : MethodId} {args : Array Value} {below : List Frame} {meth : Method} {c : Code} {D : va_G} {cy : CY} {A : Nat → Prop} {am : Nat → Nat} {Q : ST → Prop} (C : kC p m c cX7_word 4 s args RX7 D cy A) (hr : meth.sig.returnType = none) (hlk : meth.locks = false) : ∀ (xs1 : Int32) (u : ST) (H : Heap) (locs : List Loc) (ls : Array Slot), wX7_word_b83 Q xs1 u → kH D (mW cy am) A s u H locs → lv_has ls 4 [] → W p l e (kRm 2) s m args below meth c H locs 0 0 (MQ below (kQv D (mW cy am) cy A Q) args s 0 0 A) (F0 m 83 ls [.int xs1, .ref (am 0)]) := by
  intro xs1 u H locs ls hw h hl
  obtain ⟨⟨hx, hb, hml, hown, hts⟩, hK, hA⟩ := id C
  unfold wX7_word_b83 at hw
  refine kput C h 0 rfl rfl inBX7 tyX7_ok nmX7 3 (Nat.le_of_ble_eq_true rfl) wi_fl_X7_69 rfl rfl rfl (Nat.le_of_ble_eq_true rfl) (mS_3 cy am u xs1) dX7_word_83 (fun H locs h => ?_)
  exact kretV C hr hlk h hw dX7_word_86
def wX7_word_b67 (Q : ST → Prop) (x3 : Int32) (u : ST) : Prop :=
  ((¬ (gI u 4) = 0 → wX7_word_b83 Q (gI u 3) u) ∧ ((gI u 4) = 0 → wX7_word_b83 Q x3 u))
set_option maxHeartbeats 4000000 in
set_option maxRecDepth 100000 in
theorem kX7_word_b67 {p : Program} {l : Launch} {e : Env} {s : State} {m : MethodId} {args : Array Value} {below : List Frame} {meth : Method} {c : Code} {D : va_G} {cy : CY} {A : Nat → Prop} {am : Nat → Nat} {Q : ST → Prop} (C : kC p m c cX7_word 4 s args RX7 D cy A) (hr : meth.sig.returnType = none) (hlk : meth.locks = false) : ∀ (x3 : Int32) (u : ST) (H : Heap) (locs : List Loc) (ls : Array Slot), wX7_word_b67 Q x3 u → kH D (mW cy am) A s u H locs → lv_has ls 4 [(0, .ref (am 0)), (3, .int x3)] → W p l e (kRm 2) s m args below meth c H locs 0 0 (MQ below (kQv D (mW cy am) cy A Q) args s 0 0 A) (F0 m 67 ls []) := by
  intro x3 u H locs ls hw h hl
  obtain ⟨⟨hx, hb, hml, hown, hts⟩, hK, hA⟩ := id C
  unfold wX7_word_b67 at hw
  refine lv_aload_n hx hb dX7_word_67 rfl (lv_at hl 0 rfl) ?_
  refine lv_aload_n hx hb dX7_word_68 rfl (lv_at hl 0 rfl) ?_
  refine kget C h 0 rfl rfl inBX7 4 (Nat.le_of_ble_eq_true rfl) wi_fl_X7_72 rfl dX7_word_69 ?_
  refine lv_if_ne (tgt := 79) hx hb dX7_word_72 (by decide) (fun c_72 => ?_) (fun c_72 => ?_)
  · have hw := hw.1 c_72
    refine lv_aload_n hx hb dX7_word_79 rfl (lv_at hl 0 rfl) ?_
    refine kget C h 0 rfl rfl inBX7 3 (Nat.le_of_ble_eq_true rfl) wi_fl_X7_69 rfl dX7_word_80 ?_
    exact kX7_word_b83 C hr hlk (gI u 3) _ _ _ _ hw h (lv_sub hl [] rfl)
  · have hw := hw.2 c_72
    refine lv_iload_n hx hb dX7_word_75 rfl (lv_at hl 1 rfl) ?_
    refine lv_goto (tgt := 83) hx hb dX7_word_76 (by decide) ?_
    exact kX7_word_b83 C hr hlk x3 _ _ _ _ hw h (lv_sub hl [] rfl)
def wX7_word_b58 (Q : ST → Prop) (x3 : Int32) (u : ST) : Prop :=
  wX7_bad 1 (gI u 3) u (fun u_2 => wX7_word_b67 Q x3 u_2)
set_option maxHeartbeats 4000000 in
set_option maxRecDepth 100000 in
theorem kX7_word_b58 {p : Program} {l : Launch} {e : Env} {s : State} {m : MethodId} {args : Array Value} {below : List Frame} {meth : Method} {c : Code} {D : va_G} {cy : CY} {A : Nat → Prop} {am : Nat → Nat} {Q : ST → Prop} (C : kC p m c cX7_word 4 s args RX7 D cy A) (hr : meth.sig.returnType = none) (hlk : meth.locks = false) : ∀ (x3 : Int32) (u : ST) (H : Heap) (locs : List Loc) (ls : Array Slot), wX7_word_b58 Q x3 u → kH D (mW cy am) A s u H locs → lv_has ls 4 [(0, .ref (am 0)), (3, .int x3)] → W p l e (kRm 2) s m args below meth c H locs 0 0 (MQ below (kQv D (mW cy am) cy A Q) args s 0 0 A) (F0 m 58 ls []) := by
  intro x3 u H locs ls hw h hl
  obtain ⟨⟨hx, hb, hml, hown, hts⟩, hK, hA⟩ := id C
  unfold wX7_word_b58 at hw
  refine lv_aload_n hx hb dX7_word_58 rfl (lv_at hl 0 rfl) ?_
  refine lv_iconst (v := 1) hx hb dX7_word_59 (by decide) ?_
  refine lv_aload_n hx hb dX7_word_60 rfl (lv_at hl 0 rfl) ?_
  refine kget C h 0 rfl rfl inBX7 3 (Nat.le_of_ble_eq_true rfl) wi_fl_X7_69 rfl dX7_word_61 ?_
  refine kVv (As := [.int 1, .int (gI u 3)]) (rest := []) C h (cwV 2 hts (gd_V wi_ml_X7_83 wi_im_X7_bad wi_se_X7_bad wi_in_X7 wi_co_X7_bad) rfl rfl rfl hd_X7_bad ⟨Nat.le_of_ble_eq_true rfl, Nat.le_of_ble_eq_true rfl⟩) 0 rfl rfl rfl (mX7_bad l D cy am 1 (gI u 3) _ _ hw) rfl hl.1 rfl (Nat.le_of_ble_eq_true rfl) ⟨Nat.zero_le _, Nat.zero_le _⟩ dX7_word_64 (fun u_2 H locs hw h => ?_)
  exact kX7_word_b67 C hr hlk x3 _ _ _ _ hw h (lv_sub hl [0, 1] rfl)
def wX7_word (x1 : Int32) (x2 : Int32) (u : ST) (Q : ST → Prop) : Prop :=
  (((gI u 4) ≤ 0 → wX7_nameEnd  u (fun r_1 u_2 => ((¬ (gI u_2 4) = 0 → wX7_word_b67 Q r_1 u_2) ∧ ((gI u_2 4) = 0 → ((¬ (r_1 - (gI u_2 3)) = 2 → wX7_word_b58 Q r_1 u_2) ∧ ((r_1 - (gI u_2 3)) = 2 → (vp_in (gI u_2 3) 8000 ∧ ((¬ (gR u_2 1 (gI u_2 3).toNatClampNeg) = x1 → wX7_word_b58 Q r_1 u_2) ∧ ((gR u_2 1 (gI u_2 3).toNatClampNeg) = x1 → (vp_in ((gI u_2 3) + 1) 8000 ∧ (((gR u_2 1 ((gI u_2 3) + 1).toNatClampNeg) = x2 → wX7_word_b67 Q r_1 u_2) ∧ (¬ (gR u_2 1 ((gI u_2 3) + 1).toNatClampNeg) = x2 → wX7_word_b58 Q r_1 u_2)))))))))))) ∧ (¬ (gI u 4) ≤ 0 → Q u))
set_option maxHeartbeats 4000000 in
set_option maxRecDepth 100000 in
theorem mX7_word (l : Launch) (D : va_G) (cy : CY) (am : Nat → Nat) (x1 : Int32) (x2 : Int32) (u : ST) (sz : Nat) {Q : ST → Prop} (hw : wX7_word x1 x2 u Q) : Met l yX7_word (wM yX7_word cX7_word 4 none) (kRm 2) (kPc D (mW cy am) cy u sz [.ref (am 0), .int x1, .int x2]) (kQv D (mW cy am) cy (va_A (mW cy am u) sz) Q) 0 0 (va_A (mW cy am u) sz) := by
  refine kMet pn_X7_word (Nat.le_of_ble_eq_true rfl) (fun p e s m below meth c ls hsz C hr hlk hex h hl => ?_)
  have hl : lv_has ls 4 [(0, .ref (am 0)), (1, .int x1), (2, .int x2)] := hl
  obtain ⟨⟨hx, hb, hml, hown, hts⟩, hK, hA⟩ := id C
  unfold wX7_word at hw
  have h : kH D (mW cy am) (va_A (mW cy am u) sz) s u s.heap [] := h
  refine lv_aload_n hx hb dX7_word_0 rfl (lv_at hl 0 rfl) ?_
  refine kget C h 0 rfl rfl inBX7 4 (Nat.le_of_ble_eq_true rfl) wi_fl_X7_72 rfl dX7_word_1 ?_
  refine lv_if_le (tgt := 8) hx hb dX7_word_4 (by decide) (fun c_4 => ?_) (fun c_4 => ?_)
  · have hw := hw.1 c_4
    refine lv_aload_n hx hb dX7_word_8 rfl (lv_at hl 0 rfl) ?_
    refine kVi (As := []) (rest := []) C h (cwV 0 hts (gd_V wi_ml_X7_90 wi_im_X7_nameEnd wi_se_X7_nameEnd wi_in_X7 wi_co_X7_nameEnd) rfl rfl rfl hd_X7_nameEnd ⟨Nat.le_of_ble_eq_true rfl, Nat.le_of_ble_eq_true rfl⟩) 0 rfl rfl rfl (mX7_nameEnd l D cy am  _ _ hw) rfl hl.1 rfl (Nat.le_of_ble_eq_true rfl) ⟨Nat.zero_le _, Nat.zero_le _⟩ dX7_word_9 (fun r_1 u_2 H locs hw h => ?_)
    refine lv_istore_n (lv' := [(3, .int r_1), (0, .ref (am 0)), (1, .int x1), (2, .int x2)]) hx hb dX7_word_12 rfl hl (by decide) rfl (fun ls hl => ?_)
    refine lv_aload_n hx hb dX7_word_13 rfl (lv_at hl 1 rfl) ?_
    refine kget C h 0 rfl rfl inBX7 4 (Nat.le_of_ble_eq_true rfl) wi_fl_X7_72 rfl dX7_word_14 ?_
    refine lv_if_ne (tgt := 67) hx hb dX7_word_17 (by decide) (fun c_17 => ?_) (fun c_17 => ?_)
    · have hw := hw.1 c_17
      exact kX7_word_b67 C hr hlk r_1 _ _ _ _ hw h (lv_sub hl [1, 0] rfl)
    · have hw := hw.2 c_17
      refine lv_iload_n hx hb dX7_word_20 rfl (lv_at hl 0 rfl) ?_
      refine lv_aload_n hx hb dX7_word_21 rfl (lv_at hl 1 rfl) ?_
      refine kget C h 0 rfl rfl inBX7 3 (Nat.le_of_ble_eq_true rfl) wi_fl_X7_69 rfl dX7_word_22 ?_
      refine lv_isub hx hb dX7_word_25 ?_
      refine lv_iconst (v := 2) hx hb dX7_word_26 (by decide) ?_
      refine lv_icmp_ne (tgt := 58) hx hb dX7_word_27 (by decide) (fun c_27 => ?_) (fun c_27 => ?_)
      · have hw := hw.1 c_27
        exact kX7_word_b58 C hr hlk r_1 _ _ _ _ hw h (lv_sub hl [1, 0] rfl)
      · have hw := hw.2 c_27
        refine lv_aload_n hx hb dX7_word_30 rfl (lv_at hl 1 rfl) ?_
        refine kget C h 0 rfl rfl inBX7 1 (Nat.le_of_ble_eq_true rfl) wi_fl_X7_7 rfl dX7_word_31 ?_
        refine lv_aload_n hx hb dX7_word_34 rfl (lv_at hl 1 rfl) ?_
        refine kget C h 0 rfl rfl inBX7 3 (Nat.le_of_ble_eq_true rfl) wi_fl_X7_69 rfl dX7_word_35 ?_
        obtain ⟨i_38, hw⟩ := hw
        refine kbald C h 1 rfl i_38 dX7_word_38 ?_
        refine lv_iload_n hx hb dX7_word_39 rfl (lv_at hl 2 rfl) ?_
        refine lv_icmp_ne (tgt := 58) hx hb dX7_word_40 (by decide) (fun c_40 => ?_) (fun c_40 => ?_)
        · have hw := hw.1 c_40
          exact kX7_word_b58 C hr hlk r_1 _ _ _ _ hw h (lv_sub hl [1, 0] rfl)
        · have hw := hw.2 c_40
          refine lv_aload_n hx hb dX7_word_43 rfl (lv_at hl 1 rfl) ?_
          refine kget C h 0 rfl rfl inBX7 1 (Nat.le_of_ble_eq_true rfl) wi_fl_X7_7 rfl dX7_word_44 ?_
          refine lv_aload_n hx hb dX7_word_47 rfl (lv_at hl 1 rfl) ?_
          refine kget C h 0 rfl rfl inBX7 3 (Nat.le_of_ble_eq_true rfl) wi_fl_X7_69 rfl dX7_word_48 ?_
          refine lv_iconst (v := 1) hx hb dX7_word_51 (by decide) ?_
          refine lv_iadd hx hb dX7_word_52 ?_
          obtain ⟨i_53, hw⟩ := hw
          refine kbald C h 1 rfl i_53 dX7_word_53 ?_
          refine lv_iload_n hx hb dX7_word_54 rfl (lv_at hl 3 rfl) ?_
          refine lv_icmp_eq (tgt := 67) hx hb dX7_word_55 (by decide) (fun c_55 => ?_) (fun c_55 => ?_)
          · have hw := hw.1 c_55
            exact kX7_word_b67 C hr hlk r_1 _ _ _ _ hw h (lv_sub hl [1, 0] rfl)
          · have hw := hw.2 c_55
            exact kX7_word_b58 C hr hlk r_1 _ _ _ _ hw h (lv_sub hl [1, 0] rfl)
  · have hw := hw.2 c_4
    exact kretV C hr hlk h hw dX7_word_7

def wX7_sign_b41 (Q : ST → Prop) (xs1 : Int32) (xs2 : Int32) (u : ST) : Prop :=
  Q (sI u 3 (xs1 + xs2))
set_option maxHeartbeats 4000000 in
set_option maxRecDepth 100000 in
theorem kX7_sign_b41 {p : Program} {l : Launch} {e : Env} {s : State} {m : MethodId} {args : Array Value} {below : List Frame} {meth : Method} {c : Code} {D : va_G} {cy : CY} {A : Nat → Prop} {am : Nat → Nat} {Q : ST → Prop} (C : kC p m c cX7_sign 2 s args RX7 D cy A) (hr : meth.sig.returnType = none) (hlk : meth.locks = false) : ∀ (xs1 : Int32) (xs2 : Int32) (u : ST) (H : Heap) (locs : List Loc) (ls : Array Slot), wX7_sign_b41 Q xs1 xs2 u → kH D (mW cy am) A s u H locs → lv_has ls 2 [] → W p l e (kRm 1) s m args below meth c H locs 0 0 (MQ below (kQv D (mW cy am) cy A Q) args s 0 0 A) (F0 m 41 ls [.int xs2, .int xs1, .ref (am 0)]) := by
  intro xs1 xs2 u H locs ls hw h hl
  obtain ⟨⟨hx, hb, hml, hown, hts⟩, hK, hA⟩ := id C
  unfold wX7_sign_b41 at hw
  refine lv_iadd hx hb dX7_sign_41 ?_
  refine kput C h 0 rfl rfl inBX7 tyX7_ok nmX7 3 (Nat.le_of_ble_eq_true rfl) wi_fl_X7_69 rfl rfl rfl (Nat.le_of_ble_eq_true rfl) (mS_3 cy am u (xs1 + xs2)) dX7_sign_42 (fun H locs h => ?_)
  exact kretV C hr hlk h hw dX7_sign_45
def wX7_sign_b24 (Q : ST → Prop) (u : ST) : Prop :=
  ((¬ (gI u 4) = 0 → wX7_sign_b41 Q (gI u 3) 0 u) ∧ ((gI u 4) = 0 → wX7_sign_b41 Q (gI u 3) 1 u))
set_option maxHeartbeats 4000000 in
set_option maxRecDepth 100000 in
theorem kX7_sign_b24 {p : Program} {l : Launch} {e : Env} {s : State} {m : MethodId} {args : Array Value} {below : List Frame} {meth : Method} {c : Code} {D : va_G} {cy : CY} {A : Nat → Prop} {am : Nat → Nat} {Q : ST → Prop} (C : kC p m c cX7_sign 2 s args RX7 D cy A) (hr : meth.sig.returnType = none) (hlk : meth.locks = false) : ∀ (u : ST) (H : Heap) (locs : List Loc) (ls : Array Slot), wX7_sign_b24 Q  u → kH D (mW cy am) A s u H locs → lv_has ls 2 [(0, .ref (am 0))] → W p l e (kRm 1) s m args below meth c H locs 0 0 (MQ below (kQv D (mW cy am) cy A Q) args s 0 0 A) (F0 m 24 ls []) := by
  intro  u H locs ls hw h hl
  obtain ⟨⟨hx, hb, hml, hown, hts⟩, hK, hA⟩ := id C
  unfold wX7_sign_b24 at hw
  refine lv_aload_n hx hb dX7_sign_24 rfl (lv_at hl 0 rfl) ?_
  refine lv_dup hx hb dX7_sign_25 rfl ?_
  refine kget C h 0 rfl rfl inBX7 3 (Nat.le_of_ble_eq_true rfl) wi_fl_X7_69 rfl dX7_sign_26 ?_
  refine lv_aload_n hx hb dX7_sign_29 rfl (lv_at hl 0 rfl) ?_
  refine kget C h 0 rfl rfl inBX7 4 (Nat.le_of_ble_eq_true rfl) wi_fl_X7_72 rfl dX7_sign_30 ?_
  refine lv_if_ne (tgt := 40) hx hb dX7_sign_33 (by decide) (fun c_33 => ?_) (fun c_33 => ?_)
  · have hw := hw.1 c_33
    refine lv_iconst (v := 0) hx hb dX7_sign_40 (by decide) ?_
    exact kX7_sign_b41 C hr hlk (gI u 3) 0 _ _ _ _ hw h (lv_sub hl [] rfl)
  · have hw := hw.2 c_33
    refine lv_iconst (v := 1) hx hb dX7_sign_36 (by decide) ?_
    refine lv_goto (tgt := 41) hx hb dX7_sign_37 (by decide) ?_
    exact kX7_sign_b41 C hr hlk (gI u 3) 1 _ _ _ _ hw h (lv_sub hl [] rfl)
def wX7_sign (x1 : Int32) (u : ST) (Q : ST → Prop) : Prop :=
  ((¬ (gI u 4) = 0 → wX7_sign_b24 Q  u) ∧ ((gI u 4) = 0 → wX7_look  u (fun r_1 u_2 => ((r_1 = x1 → wX7_sign_b24 Q  u_2) ∧ (¬ r_1 = x1 → wX7_bad 1 (gI u_2 3) u_2 (fun u_4 => wX7_sign_b24 Q  u_4))))))
set_option maxHeartbeats 4000000 in
set_option maxRecDepth 100000 in
theorem mX7_sign (l : Launch) (D : va_G) (cy : CY) (am : Nat → Nat) (x1 : Int32) (u : ST) (sz : Nat) {Q : ST → Prop} (hw : wX7_sign x1 u Q) : Met l yX7_sign (wM yX7_sign cX7_sign 2 none) (kRm 1) (kPc D (mW cy am) cy u sz [.ref (am 0), .int x1]) (kQv D (mW cy am) cy (va_A (mW cy am u) sz) Q) 0 0 (va_A (mW cy am u) sz) := by
  refine kMet pn_X7_sign (Nat.le_of_ble_eq_true rfl) (fun p e s m below meth c ls hsz C hr hlk hex h hl => ?_)
  have hl : lv_has ls 2 [(0, .ref (am 0)), (1, .int x1)] := hl
  obtain ⟨⟨hx, hb, hml, hown, hts⟩, hK, hA⟩ := id C
  unfold wX7_sign at hw
  have h : kH D (mW cy am) (va_A (mW cy am u) sz) s u s.heap [] := h
  refine lv_aload_n hx hb dX7_sign_0 rfl (lv_at hl 0 rfl) ?_
  refine kget C h 0 rfl rfl inBX7 4 (Nat.le_of_ble_eq_true rfl) wi_fl_X7_72 rfl dX7_sign_1 ?_
  refine lv_if_ne (tgt := 24) hx hb dX7_sign_4 (by decide) (fun c_4 => ?_) (fun c_4 => ?_)
  · have hw := hw.1 c_4
    exact kX7_sign_b24 C hr hlk  _ _ _ _ hw h (lv_sub hl [0] rfl)
  · have hw := hw.2 c_4
    refine lv_aload_n hx hb dX7_sign_7 rfl (lv_at hl 0 rfl) ?_
    refine kVi (As := []) (rest := []) C h (cwV 0 hts (gd_V wi_ml_X7_75 wi_im_X7_look wi_se_X7_look wi_in_X7 wi_co_X7_look) rfl rfl rfl hd_X7_look ⟨Nat.le_of_ble_eq_true rfl, Nat.le_of_ble_eq_true rfl⟩) 0 rfl rfl rfl (mX7_look l D cy am  _ _ hw) rfl hl.1 rfl (Nat.le_of_ble_eq_true rfl) ⟨Nat.zero_le _, Nat.zero_le _⟩ dX7_sign_8 (fun r_1 u_2 H locs hw h => ?_)
    refine lv_iload_n hx hb dX7_sign_11 rfl (lv_at hl 1 rfl) ?_
    refine lv_icmp_eq (tgt := 24) hx hb dX7_sign_12 (by decide) (fun c_12 => ?_) (fun c_12 => ?_)
    · have hw := hw.1 c_12
      exact kX7_sign_b24 C hr hlk  _ _ _ _ hw h (lv_sub hl [0] rfl)
    · have hw := hw.2 c_12
      refine lv_aload_n hx hb dX7_sign_15 rfl (lv_at hl 0 rfl) ?_
      refine lv_iconst (v := 1) hx hb dX7_sign_16 (by decide) ?_
      refine lv_aload_n hx hb dX7_sign_17 rfl (lv_at hl 0 rfl) ?_
      refine kget C h 0 rfl rfl inBX7 3 (Nat.le_of_ble_eq_true rfl) wi_fl_X7_69 rfl dX7_sign_18 ?_
      refine kVv (As := [.int 1, .int (gI u_2 3)]) (rest := []) C h (cwV 2 hts (gd_V wi_ml_X7_83 wi_im_X7_bad wi_se_X7_bad wi_in_X7 wi_co_X7_bad) rfl rfl rfl hd_X7_bad ⟨Nat.le_of_ble_eq_true rfl, Nat.le_of_ble_eq_true rfl⟩) 0 rfl rfl rfl (mX7_bad l D cy am 1 (gI u_2 3) _ _ hw) rfl hl.1 rfl (Nat.le_of_ble_eq_true rfl) ⟨Nat.zero_le _, Nat.zero_le _⟩ dX7_sign_21 (fun u_4 H locs hw h => ?_)
      exact kX7_sign_b24 C hr hlk  _ _ _ _ hw h (lv_sub hl [0] rfl)

def wX7_find_b86 (K3 : Int32 → Int32 → Int32 → Int32 → ST → Prop) (K37 : Int32 → Int32 → Int32 → Int32 → Int32 → Int32 → ST → Prop) (Q : Int32 → ST → Prop) (x1 : Int32) (x2 : Int32) (x3 : Int32) (x4 : Int32) (x6 : Int32) (xs0 : Int32) (u : ST) : Prop :=
  K37 x1 x2 x3 x4 xs0 (x6 + 1) u
set_option maxHeartbeats 4000000 in
set_option maxRecDepth 100000 in
theorem kX7_find_b86 {p : Program} {l : Launch} {e : Env} {s : State} {m : MethodId} {args : Array Value} {below : List Frame} {meth : Method} {c : Code} {D : va_G} {cy : CY} {A : Nat → Prop} {am : Nat → Nat} {K3 : Int32 → Int32 → Int32 → Int32 → ST → Prop} {K37 : Int32 → Int32 → Int32 → Int32 → Int32 → Int32 → ST → Prop} {Q : Int32 → ST → Prop} (C : kC p m c cX7_find 7 s args RX7 D cy A) (hr : meth.sig.returnType = some .int) (hlk : meth.locks = false) (g3 : ∀ (x1 : Int32) (x2 : Int32) (x3 : Int32) (x4 : Int32) (u : ST) (H : Heap) (locs : List Loc) (ls : Array Slot), K3 x1 x2 x3 x4 u → kH D (mW cy am) A s u H locs → lv_has ls 7 [(0, .ref (am 0)), (1, .int x1), (2, .int x2), (3, .int x3), (4, .int x4)] → W p l e (kRm 0) s m args below meth c H locs 0 0 (MQ below (kQi D (mW cy am) cy A Q) args s 0 0 A) (F0 m 3 ls [])) (g37 : ∀ (x1 : Int32) (x2 : Int32) (x3 : Int32) (x4 : Int32) (x5 : Int32) (x6 : Int32) (u : ST) (H : Heap) (locs : List Loc) (ls : Array Slot), K37 x1 x2 x3 x4 x5 x6 u → kH D (mW cy am) A s u H locs → lv_has ls 7 [(0, .ref (am 0)), (1, .int x1), (2, .int x2), (3, .int x3), (4, .int x4), (5, .int x5), (6, .int x6)] → W p l e (kRm 0) s m args below meth c H locs 0 0 (MQ below (kQi D (mW cy am) cy A Q) args s 0 0 A) (F0 m 37 ls [])) : ∀ (x1 : Int32) (x2 : Int32) (x3 : Int32) (x4 : Int32) (x6 : Int32) (xs0 : Int32) (u : ST) (H : Heap) (locs : List Loc) (ls : Array Slot), wX7_find_b86 K3 K37 Q x1 x2 x3 x4 x6 xs0 u → kH D (mW cy am) A s u H locs → lv_has ls 7 [(0, .ref (am 0)), (1, .int x1), (2, .int x2), (3, .int x3), (4, .int x4), (6, .int x6)] → W p l e (kRm 0) s m args below meth c H locs 0 0 (MQ below (kQi D (mW cy am) cy A Q) args s 0 0 A) (F0 m 86 ls [.int xs0]) := by
  intro x1 x2 x3 x4 x6 xs0 u H locs ls hw h hl
  obtain ⟨⟨hx, hb, hml, hown, hts⟩, hK, hA⟩ := id C
  unfold wX7_find_b86 at hw
  refine lv_istore (lv' := [(5, .int xs0), (0, .ref (am 0)), (1, .int x1), (2, .int x2), (3, .int x3), (4, .int x4), (6, .int x6)]) hx hb dX7_find_86 hl (by decide) rfl (fun ls hl => ?_)
  refine lv_iinc (v := x6 + 1) (lv' := [(6, .int (x6 + 1)), (5, .int xs0), (0, .ref (am 0)), (1, .int x1), (2, .int x2), (3, .int x3), (4, .int x4)]) hx hb dX7_find_88 hl (k := 6) rfl rfl (by decide) rfl (fun ls hl => ?_)
  refine lv_goto (tgt := 37) hx hb dX7_find_91 (by decide) ?_
  exact g37 x1 x2 x3 x4 xs0 (x6 + 1) _ _ _ _ hw h (lv_sub hl [2, 3, 4, 5, 6, 1, 0] rfl)
def wX7_find_b94 (K3 : Int32 → Int32 → Int32 → Int32 → ST → Prop) (Q : Int32 → ST → Prop) (x1 : Int32) (x2 : Int32) (x3 : Int32) (x4 : Int32) (x5 : Int32) (u : ST) : Prop :=
  ((x5 = 0 → K3 x1 x2 x3 (x4 + 1) u) ∧ (¬ x5 = 0 → Q (x4 - x1) u))
set_option maxHeartbeats 4000000 in
set_option maxRecDepth 100000 in
theorem kX7_find_b94 {p : Program} {l : Launch} {e : Env} {s : State} {m : MethodId} {args : Array Value} {below : List Frame} {meth : Method} {c : Code} {D : va_G} {cy : CY} {A : Nat → Prop} {am : Nat → Nat} {K3 : Int32 → Int32 → Int32 → Int32 → ST → Prop} {Q : Int32 → ST → Prop} (C : kC p m c cX7_find 7 s args RX7 D cy A) (hr : meth.sig.returnType = some .int) (hlk : meth.locks = false) (g3 : ∀ (x1 : Int32) (x2 : Int32) (x3 : Int32) (x4 : Int32) (u : ST) (H : Heap) (locs : List Loc) (ls : Array Slot), K3 x1 x2 x3 x4 u → kH D (mW cy am) A s u H locs → lv_has ls 7 [(0, .ref (am 0)), (1, .int x1), (2, .int x2), (3, .int x3), (4, .int x4)] → W p l e (kRm 0) s m args below meth c H locs 0 0 (MQ below (kQi D (mW cy am) cy A Q) args s 0 0 A) (F0 m 3 ls [])) : ∀ (x1 : Int32) (x2 : Int32) (x3 : Int32) (x4 : Int32) (x5 : Int32) (u : ST) (H : Heap) (locs : List Loc) (ls : Array Slot), wX7_find_b94 K3 Q x1 x2 x3 x4 x5 u → kH D (mW cy am) A s u H locs → lv_has ls 7 [(0, .ref (am 0)), (1, .int x1), (2, .int x2), (3, .int x3), (4, .int x4), (5, .int x5)] → W p l e (kRm 0) s m args below meth c H locs 0 0 (MQ below (kQi D (mW cy am) cy A Q) args s 0 0 A) (F0 m 94 ls []) := by
  intro x1 x2 x3 x4 x5 u H locs ls hw h hl
  obtain ⟨⟨hx, hb, hml, hown, hts⟩, hK, hA⟩ := id C
  unfold wX7_find_b94 at hw
  refine lv_iload hx hb dX7_find_94 (lv_at hl 5 rfl) ?_
  refine lv_if_eq (tgt := 104) hx hb dX7_find_96 (by decide) (fun c_96 => ?_) (fun c_96 => ?_)
  · have hw := hw.1 c_96
    refine lv_iinc (v := x4 + 1) (lv' := [(4, .int (x4 + 1)), (0, .ref (am 0)), (1, .int x1), (2, .int x2), (3, .int x3), (5, .int x5)]) hx hb dX7_find_104 hl (k := 4) rfl rfl (by decide) rfl (fun ls hl => ?_)
    refine lv_goto (tgt := 3) hx hb dX7_find_107 (by decide) ?_
    exact g3 x1 x2 x3 (x4 + 1) _ _ _ _ hw h (lv_sub hl [1, 2, 3, 4, 0] rfl)
  · have hw := hw.2 c_96
    refine lv_iload hx hb dX7_find_99 (lv_at hl 4 rfl) ?_
    refine lv_iload_n hx hb dX7_find_101 rfl (lv_at hl 1 rfl) ?_
    refine lv_isub hx hb dX7_find_102 ?_
    exact kretI C hr hlk h hw dX7_find_103
def wX7_find_B37 (K3 : Int32 → Int32 → Int32 → Int32 → ST → Prop) (K37 : Int32 → Int32 → Int32 → Int32 → Int32 → Int32 → ST → Prop) (Q : Int32 → ST → Prop) (x1 : Int32) (x2 : Int32) (x3 : Int32) (x4 : Int32) (x5 : Int32) (x6 : Int32) (u : ST) : Prop :=
  (((x3 - (gI u 3)) ≤ x6 → wX7_find_b94 K3 Q x1 x2 x3 x4 x5 u) ∧ (¬ (x3 - (gI u 3)) ≤ x6 → ((x5 = 0 → wX7_find_b94 K3 Q x1 x2 x3 x4 x5 u) ∧ (¬ x5 = 0 → (vp_in ((10 * x4) + x6) 1600 ∧ (vp_in ((gI u 3) + x6) 8000 ∧ ((¬ (gR u 5 ((10 * x4) + x6).toNatClampNeg) = (gR u 1 ((gI u 3) + x6).toNatClampNeg) → wX7_find_b86 K3 K37 Q x1 x2 x3 x4 x6 0 u) ∧ ((gR u 5 ((10 * x4) + x6).toNatClampNeg) = (gR u 1 ((gI u 3) + x6).toNatClampNeg) → wX7_find_b86 K3 K37 Q x1 x2 x3 x4 x6 1 u))))))))
set_option maxHeartbeats 4000000 in
set_option maxRecDepth 100000 in
theorem kX7_find_B37 {p : Program} {l : Launch} {e : Env} {s : State} {m : MethodId} {args : Array Value} {below : List Frame} {meth : Method} {c : Code} {D : va_G} {cy : CY} {A : Nat → Prop} {am : Nat → Nat} {K3 : Int32 → Int32 → Int32 → Int32 → ST → Prop} {K37 : Int32 → Int32 → Int32 → Int32 → Int32 → Int32 → ST → Prop} {Q : Int32 → ST → Prop} (C : kC p m c cX7_find 7 s args RX7 D cy A) (hr : meth.sig.returnType = some .int) (hlk : meth.locks = false) (g3 : ∀ (x1 : Int32) (x2 : Int32) (x3 : Int32) (x4 : Int32) (u : ST) (H : Heap) (locs : List Loc) (ls : Array Slot), K3 x1 x2 x3 x4 u → kH D (mW cy am) A s u H locs → lv_has ls 7 [(0, .ref (am 0)), (1, .int x1), (2, .int x2), (3, .int x3), (4, .int x4)] → W p l e (kRm 0) s m args below meth c H locs 0 0 (MQ below (kQi D (mW cy am) cy A Q) args s 0 0 A) (F0 m 3 ls [])) (g37 : ∀ (x1 : Int32) (x2 : Int32) (x3 : Int32) (x4 : Int32) (x5 : Int32) (x6 : Int32) (u : ST) (H : Heap) (locs : List Loc) (ls : Array Slot), K37 x1 x2 x3 x4 x5 x6 u → kH D (mW cy am) A s u H locs → lv_has ls 7 [(0, .ref (am 0)), (1, .int x1), (2, .int x2), (3, .int x3), (4, .int x4), (5, .int x5), (6, .int x6)] → W p l e (kRm 0) s m args below meth c H locs 0 0 (MQ below (kQi D (mW cy am) cy A Q) args s 0 0 A) (F0 m 37 ls [])) : ∀ (x1 : Int32) (x2 : Int32) (x3 : Int32) (x4 : Int32) (x5 : Int32) (x6 : Int32) (u : ST) (H : Heap) (locs : List Loc) (ls : Array Slot), wX7_find_B37 K3 K37 Q x1 x2 x3 x4 x5 x6 u → kH D (mW cy am) A s u H locs → lv_has ls 7 [(0, .ref (am 0)), (1, .int x1), (2, .int x2), (3, .int x3), (4, .int x4), (5, .int x5), (6, .int x6)] → W p l e (kRm 0) s m args below meth c H locs 0 0 (MQ below (kQi D (mW cy am) cy A Q) args s 0 0 A) (F0 m 37 ls []) := by
  intro x1 x2 x3 x4 x5 x6 u H locs ls hw h hl
  obtain ⟨⟨hx, hb, hml, hown, hts⟩, hK, hA⟩ := id C
  unfold wX7_find_B37 at hw
  refine lv_iload hx hb dX7_find_37 (lv_at hl 6 rfl) ?_
  refine lv_iload_n hx hb dX7_find_39 rfl (lv_at hl 3 rfl) ?_
  refine lv_aload_n hx hb dX7_find_40 rfl (lv_at hl 0 rfl) ?_
  refine kget C h 0 rfl rfl inBX7 3 (Nat.le_of_ble_eq_true rfl) wi_fl_X7_69 rfl dX7_find_41 ?_
  refine lv_isub hx hb dX7_find_44 ?_
  refine lv_icmp_ge (tgt := 94) hx hb dX7_find_45 (by decide) (fun c_45 => ?_) (fun c_45 => ?_)
  · have hw := hw.1 c_45
    exact kX7_find_b94 C hr hlk g3 x1 x2 x3 x4 x5 _ _ _ _ hw h (lv_sub hl [0, 1, 2, 3, 4, 5] rfl)
  · have hw := hw.2 c_45
    refine lv_iload hx hb dX7_find_48 (lv_at hl 5 rfl) ?_
    refine lv_if_eq (tgt := 94) hx hb dX7_find_50 (by decide) (fun c_50 => ?_) (fun c_50 => ?_)
    · have hw := hw.1 c_50
      exact kX7_find_b94 C hr hlk g3 x1 x2 x3 x4 x5 _ _ _ _ hw h (lv_sub hl [0, 1, 2, 3, 4, 5] rfl)
    · have hw := hw.2 c_50
      refine lv_aload_n hx hb dX7_find_53 rfl (lv_at hl 0 rfl) ?_
      refine kget C h 0 rfl rfl inBX7 5 (Nat.le_of_ble_eq_true rfl) wi_fl_X7_13 rfl dX7_find_54 ?_
      refine lv_bipush (v := 10) hx hb dX7_find_57 (by decide) ?_
      refine lv_iload hx hb dX7_find_59 (lv_at hl 4 rfl) ?_
      refine lv_imul hx hb dX7_find_61 ?_
      refine lv_iload hx hb dX7_find_62 (lv_at hl 6 rfl) ?_
      refine lv_iadd hx hb dX7_find_64 ?_
      obtain ⟨i_65, hw⟩ := hw
      refine kbald C h 2 rfl i_65 dX7_find_65 ?_
      refine lv_aload_n hx hb dX7_find_66 rfl (lv_at hl 0 rfl) ?_
      refine kget C h 0 rfl rfl inBX7 1 (Nat.le_of_ble_eq_true rfl) wi_fl_X7_7 rfl dX7_find_67 ?_
      refine lv_aload_n hx hb dX7_find_70 rfl (lv_at hl 0 rfl) ?_
      refine kget C h 0 rfl rfl inBX7 3 (Nat.le_of_ble_eq_true rfl) wi_fl_X7_69 rfl dX7_find_71 ?_
      refine lv_iload hx hb dX7_find_74 (lv_at hl 6 rfl) ?_
      refine lv_iadd hx hb dX7_find_76 ?_
      obtain ⟨i_77, hw⟩ := hw
      refine kbald C h 1 rfl i_77 dX7_find_77 ?_
      refine lv_icmp_ne (tgt := 85) hx hb dX7_find_78 (by decide) (fun c_78 => ?_) (fun c_78 => ?_)
      · have hw := hw.1 c_78
        refine lv_iconst (v := 0) hx hb dX7_find_85 (by decide) ?_
        exact kX7_find_b86 C hr hlk g3 g37 x1 x2 x3 x4 x6 0 _ _ _ _ hw h (lv_sub hl [0, 1, 2, 3, 4, 6] rfl)
      · have hw := hw.2 c_78
        refine lv_iconst (v := 1) hx hb dX7_find_81 (by decide) ?_
        refine lv_goto (tgt := 86) hx hb dX7_find_82 (by decide) ?_
        exact kX7_find_b86 C hr hlk g3 g37 x1 x2 x3 x4 x6 1 _ _ _ _ hw h (lv_sub hl [0, 1, 2, 3, 4, 6] rfl)
def wX7_find_L37 (K3 : Int32 → Int32 → Int32 → Int32 → ST → Prop) (Q : Int32 → ST → Prop) : Nat → Int32 → Int32 → Int32 → Int32 → Int32 → Int32 → ST → Prop
  | 0, _, _, _, _, _, _, _ => False
  | n + 1, x1, x2, x3, x4, x5, x6, u => wX7_find_B37 K3 (wX7_find_L37 K3 Q n) Q x1 x2 x3 x4 x5 x6 u
set_option maxHeartbeats 4000000 in
theorem kX7_find_L37 {p : Program} {l : Launch} {e : Env} {s : State} {m : MethodId} {args : Array Value} {below : List Frame} {meth : Method} {c : Code} {D : va_G} {cy : CY} {A : Nat → Prop} {am : Nat → Nat} {K3 : Int32 → Int32 → Int32 → Int32 → ST → Prop} {Q : Int32 → ST → Prop} (C : kC p m c cX7_find 7 s args RX7 D cy A) (hr : meth.sig.returnType = some .int) (hlk : meth.locks = false) (g3 : ∀ (x1 : Int32) (x2 : Int32) (x3 : Int32) (x4 : Int32) (u : ST) (H : Heap) (locs : List Loc) (ls : Array Slot), K3 x1 x2 x3 x4 u → kH D (mW cy am) A s u H locs → lv_has ls 7 [(0, .ref (am 0)), (1, .int x1), (2, .int x2), (3, .int x3), (4, .int x4)] → W p l e (kRm 0) s m args below meth c H locs 0 0 (MQ below (kQi D (mW cy am) cy A Q) args s 0 0 A) (F0 m 3 ls [])) : ∀ n : Nat, ∀ (x1 : Int32) (x2 : Int32) (x3 : Int32) (x4 : Int32) (x5 : Int32) (x6 : Int32) (u : ST) (H : Heap) (locs : List Loc) (ls : Array Slot), wX7_find_L37 K3 Q n x1 x2 x3 x4 x5 x6 u → kH D (mW cy am) A s u H locs → lv_has ls 7 [(0, .ref (am 0)), (1, .int x1), (2, .int x2), (3, .int x3), (4, .int x4), (5, .int x5), (6, .int x6)] → W p l e (kRm 0) s m args below meth c H locs 0 0 (MQ below (kQi D (mW cy am) cy A Q) args s 0 0 A) (F0 m 37 ls []) := by
  intro n
  induction n with
  | zero => intro x1 x2 x3 x4 x5 x6 u H locs ls hw; exact False.elim hw
  | succ n ih => exact kX7_find_B37 C hr hlk g3 ih
def wX7_find_b32 (K3 : Int32 → Int32 → Int32 → Int32 → ST → Prop) (Q : Int32 → ST → Prop) (x1 : Int32) (x2 : Int32) (x3 : Int32) (x4 : Int32) (xs0 : Int32) (u : ST) : Prop :=
  (∃ n : Nat, wX7_find_L37 K3 Q n x1 x2 x3 x4 xs0 0 u)
set_option maxHeartbeats 4000000 in
set_option maxRecDepth 100000 in
theorem kX7_find_b32 {p : Program} {l : Launch} {e : Env} {s : State} {m : MethodId} {args : Array Value} {below : List Frame} {meth : Method} {c : Code} {D : va_G} {cy : CY} {A : Nat → Prop} {am : Nat → Nat} {K3 : Int32 → Int32 → Int32 → Int32 → ST → Prop} {Q : Int32 → ST → Prop} (C : kC p m c cX7_find 7 s args RX7 D cy A) (hr : meth.sig.returnType = some .int) (hlk : meth.locks = false) (g3 : ∀ (x1 : Int32) (x2 : Int32) (x3 : Int32) (x4 : Int32) (u : ST) (H : Heap) (locs : List Loc) (ls : Array Slot), K3 x1 x2 x3 x4 u → kH D (mW cy am) A s u H locs → lv_has ls 7 [(0, .ref (am 0)), (1, .int x1), (2, .int x2), (3, .int x3), (4, .int x4)] → W p l e (kRm 0) s m args below meth c H locs 0 0 (MQ below (kQi D (mW cy am) cy A Q) args s 0 0 A) (F0 m 3 ls [])) : ∀ (x1 : Int32) (x2 : Int32) (x3 : Int32) (x4 : Int32) (xs0 : Int32) (u : ST) (H : Heap) (locs : List Loc) (ls : Array Slot), wX7_find_b32 K3 Q x1 x2 x3 x4 xs0 u → kH D (mW cy am) A s u H locs → lv_has ls 7 [(0, .ref (am 0)), (1, .int x1), (2, .int x2), (3, .int x3), (4, .int x4)] → W p l e (kRm 0) s m args below meth c H locs 0 0 (MQ below (kQi D (mW cy am) cy A Q) args s 0 0 A) (F0 m 32 ls [.int xs0]) := by
  intro x1 x2 x3 x4 xs0 u H locs ls hw h hl
  obtain ⟨⟨hx, hb, hml, hown, hts⟩, hK, hA⟩ := id C
  unfold wX7_find_b32 at hw
  refine lv_istore (lv' := [(5, .int xs0), (0, .ref (am 0)), (1, .int x1), (2, .int x2), (3, .int x3), (4, .int x4)]) hx hb dX7_find_32 hl (by decide) rfl (fun ls hl => ?_)
  refine lv_iconst (v := 0) hx hb dX7_find_34 (by decide) ?_
  refine lv_istore (lv' := [(6, .int 0), (5, .int xs0), (0, .ref (am 0)), (1, .int x1), (2, .int x2), (3, .int x3), (4, .int x4)]) hx hb dX7_find_35 hl (by decide) rfl (fun ls hl => ?_)
  obtain ⟨n, hw⟩ := hw
  exact kX7_find_L37 C hr hlk g3 n x1 x2 x3 x4 xs0 0 _ _ _ _ hw h (lv_sub hl [2, 3, 4, 5, 6, 1, 0] rfl)
def wX7_find_B3 (K3 : Int32 → Int32 → Int32 → Int32 → ST → Prop) (Q : Int32 → ST → Prop) (x1 : Int32) (x2 : Int32) (x3 : Int32) (x4 : Int32) (u : ST) : Prop :=
  (((x1 + x2) ≤ x4 → Q (-1) u) ∧ (¬ (x1 + x2) ≤ x4 → (vp_in x4 160 ∧ ((¬ (gR u 6 x4.toNatClampNeg) = (x3 - (gI u 3)) → wX7_find_b32 K3 Q x1 x2 x3 x4 0 u) ∧ ((gR u 6 x4.toNatClampNeg) = (x3 - (gI u 3)) → wX7_find_b32 K3 Q x1 x2 x3 x4 1 u)))))
set_option maxHeartbeats 4000000 in
set_option maxRecDepth 100000 in
theorem kX7_find_B3 {p : Program} {l : Launch} {e : Env} {s : State} {m : MethodId} {args : Array Value} {below : List Frame} {meth : Method} {c : Code} {D : va_G} {cy : CY} {A : Nat → Prop} {am : Nat → Nat} {K3 : Int32 → Int32 → Int32 → Int32 → ST → Prop} {Q : Int32 → ST → Prop} (C : kC p m c cX7_find 7 s args RX7 D cy A) (hr : meth.sig.returnType = some .int) (hlk : meth.locks = false) (g3 : ∀ (x1 : Int32) (x2 : Int32) (x3 : Int32) (x4 : Int32) (u : ST) (H : Heap) (locs : List Loc) (ls : Array Slot), K3 x1 x2 x3 x4 u → kH D (mW cy am) A s u H locs → lv_has ls 7 [(0, .ref (am 0)), (1, .int x1), (2, .int x2), (3, .int x3), (4, .int x4)] → W p l e (kRm 0) s m args below meth c H locs 0 0 (MQ below (kQi D (mW cy am) cy A Q) args s 0 0 A) (F0 m 3 ls [])) : ∀ (x1 : Int32) (x2 : Int32) (x3 : Int32) (x4 : Int32) (u : ST) (H : Heap) (locs : List Loc) (ls : Array Slot), wX7_find_B3 K3 Q x1 x2 x3 x4 u → kH D (mW cy am) A s u H locs → lv_has ls 7 [(0, .ref (am 0)), (1, .int x1), (2, .int x2), (3, .int x3), (4, .int x4)] → W p l e (kRm 0) s m args below meth c H locs 0 0 (MQ below (kQi D (mW cy am) cy A Q) args s 0 0 A) (F0 m 3 ls []) := by
  intro x1 x2 x3 x4 u H locs ls hw h hl
  obtain ⟨⟨hx, hb, hml, hown, hts⟩, hK, hA⟩ := id C
  unfold wX7_find_B3 at hw
  refine lv_iload hx hb dX7_find_3 (lv_at hl 4 rfl) ?_
  refine lv_iload_n hx hb dX7_find_5 rfl (lv_at hl 1 rfl) ?_
  refine lv_iload_n hx hb dX7_find_6 rfl (lv_at hl 2 rfl) ?_
  refine lv_iadd hx hb dX7_find_7 ?_
  refine lv_icmp_ge (tgt := 110) hx hb dX7_find_8 (by decide) (fun c_8 => ?_) (fun c_8 => ?_)
  · have hw := hw.1 c_8
    refine lv_iconst (v := (-1)) hx hb dX7_find_110 (by decide) ?_
    exact kretI C hr hlk h hw dX7_find_111
  · have hw := hw.2 c_8
    refine lv_aload_n hx hb dX7_find_11 rfl (lv_at hl 0 rfl) ?_
    refine kget C h 0 rfl rfl inBX7 6 (Nat.le_of_ble_eq_true rfl) wi_fl_X7_16 rfl dX7_find_12 ?_
    refine lv_iload hx hb dX7_find_15 (lv_at hl 4 rfl) ?_
    obtain ⟨i_17, hw⟩ := hw
    refine kiald C h 3 rfl i_17 dX7_find_17 ?_
    refine lv_iload_n hx hb dX7_find_18 rfl (lv_at hl 3 rfl) ?_
    refine lv_aload_n hx hb dX7_find_19 rfl (lv_at hl 0 rfl) ?_
    refine kget C h 0 rfl rfl inBX7 3 (Nat.le_of_ble_eq_true rfl) wi_fl_X7_69 rfl dX7_find_20 ?_
    refine lv_isub hx hb dX7_find_23 ?_
    refine lv_icmp_ne (tgt := 31) hx hb dX7_find_24 (by decide) (fun c_24 => ?_) (fun c_24 => ?_)
    · have hw := hw.1 c_24
      refine lv_iconst (v := 0) hx hb dX7_find_31 (by decide) ?_
      exact kX7_find_b32 C hr hlk g3 x1 x2 x3 x4 0 _ _ _ _ hw h (lv_sub hl [0, 1, 2, 3, 4] rfl)
    · have hw := hw.2 c_24
      refine lv_iconst (v := 1) hx hb dX7_find_27 (by decide) ?_
      refine lv_goto (tgt := 32) hx hb dX7_find_28 (by decide) ?_
      exact kX7_find_b32 C hr hlk g3 x1 x2 x3 x4 1 _ _ _ _ hw h (lv_sub hl [0, 1, 2, 3, 4] rfl)
def wX7_find_L3 (Q : Int32 → ST → Prop) : Nat → Int32 → Int32 → Int32 → Int32 → ST → Prop
  | 0, _, _, _, _, _ => False
  | n + 1, x1, x2, x3, x4, u => wX7_find_B3 (wX7_find_L3 Q n) Q x1 x2 x3 x4 u
set_option maxHeartbeats 4000000 in
theorem kX7_find_L3 {p : Program} {l : Launch} {e : Env} {s : State} {m : MethodId} {args : Array Value} {below : List Frame} {meth : Method} {c : Code} {D : va_G} {cy : CY} {A : Nat → Prop} {am : Nat → Nat} {Q : Int32 → ST → Prop} (C : kC p m c cX7_find 7 s args RX7 D cy A) (hr : meth.sig.returnType = some .int) (hlk : meth.locks = false) : ∀ n : Nat, ∀ (x1 : Int32) (x2 : Int32) (x3 : Int32) (x4 : Int32) (u : ST) (H : Heap) (locs : List Loc) (ls : Array Slot), wX7_find_L3 Q n x1 x2 x3 x4 u → kH D (mW cy am) A s u H locs → lv_has ls 7 [(0, .ref (am 0)), (1, .int x1), (2, .int x2), (3, .int x3), (4, .int x4)] → W p l e (kRm 0) s m args below meth c H locs 0 0 (MQ below (kQi D (mW cy am) cy A Q) args s 0 0 A) (F0 m 3 ls []) := by
  intro n
  induction n with
  | zero => intro x1 x2 x3 x4 u H locs ls hw; exact False.elim hw
  | succ n ih => exact kX7_find_B3 C hr hlk ih
def wX7_find (x1 : Int32) (x2 : Int32) (x3 : Int32) (u : ST) (Q : Int32 → ST → Prop) : Prop :=
  (∃ n : Nat, wX7_find_L3 Q n x1 x2 x3 x1 u)
set_option maxHeartbeats 4000000 in
set_option maxRecDepth 100000 in
theorem mX7_find (l : Launch) (D : va_G) (cy : CY) (am : Nat → Nat) (x1 : Int32) (x2 : Int32) (x3 : Int32) (u : ST) (sz : Nat) {Q : Int32 → ST → Prop} (hw : wX7_find x1 x2 x3 u Q) : Met l yX7_find (wM yX7_find cX7_find 7 (some .int)) (kRm 0) (kPc D (mW cy am) cy u sz [.ref (am 0), .int x1, .int x2, .int x3]) (kQi D (mW cy am) cy (va_A (mW cy am u) sz) Q) 0 0 (va_A (mW cy am u) sz) := by
  refine kMet pn_X7_find (Nat.le_of_ble_eq_true rfl) (fun p e s m below meth c ls hsz C hr hlk hex h hl => ?_)
  have hl : lv_has ls 7 [(0, .ref (am 0)), (1, .int x1), (2, .int x2), (3, .int x3)] := hl
  obtain ⟨⟨hx, hb, hml, hown, hts⟩, hK, hA⟩ := id C
  unfold wX7_find at hw
  have h : kH D (mW cy am) (va_A (mW cy am u) sz) s u s.heap [] := h
  refine lv_iload_n hx hb dX7_find_0 rfl (lv_at hl 1 rfl) ?_
  refine lv_istore (lv' := [(4, .int x1), (0, .ref (am 0)), (1, .int x1), (2, .int x2), (3, .int x3)]) hx hb dX7_find_1 hl (by decide) rfl (fun ls hl => ?_)
  obtain ⟨n, hw⟩ := hw
  exact kX7_find_L3 C hr hlk n x1 x2 x3 x1 _ _ _ _ hw h (lv_sub hl [1, 2, 3, 4, 0] rfl)

def wX7_store_B14 (K14 : Int32 → Int32 → Int32 → ST → Prop) (Q : ST → Prop) (x1 : Int32) (x2 : Int32) (x3 : Int32) (u : ST) : Prop :=
  (((x2 - (gI u 3)) ≤ x3 → Q u) ∧ (¬ (x2 - (gI u 3)) ≤ x3 → (vp_in ((gI u 3) + x3) 8000 ∧ (vp_in ((10 * x1) + x3) 1600 ∧ K14 x1 x2 (x3 + 1) (sR u 5 ((10 * x1) + x3).toNatClampNeg ((gR u 1 ((gI u 3) + x3).toNatClampNeg : Int32).toInt8.toInt32))))))
set_option maxHeartbeats 4000000 in
set_option maxRecDepth 100000 in
theorem kX7_store_B14 {p : Program} {l : Launch} {e : Env} {s : State} {m : MethodId} {args : Array Value} {below : List Frame} {meth : Method} {c : Code} {D : va_G} {cy : CY} {A : Nat → Prop} {am : Nat → Nat} {K14 : Int32 → Int32 → Int32 → ST → Prop} {Q : ST → Prop} (C : kC p m c cX7_store 4 s args RX7 D cy A) (hr : meth.sig.returnType = none) (hlk : meth.locks = false) (g14 : ∀ (x1 : Int32) (x2 : Int32) (x3 : Int32) (u : ST) (H : Heap) (locs : List Loc) (ls : Array Slot), K14 x1 x2 x3 u → kH D (mW cy am) A s u H locs → lv_has ls 4 [(0, .ref (am 0)), (1, .int x1), (2, .int x2), (3, .int x3)] → W p l e (kRm 0) s m args below meth c H locs 0 0 (MQ below (kQv D (mW cy am) cy A Q) args s 0 0 A) (F0 m 14 ls [])) : ∀ (x1 : Int32) (x2 : Int32) (x3 : Int32) (u : ST) (H : Heap) (locs : List Loc) (ls : Array Slot), wX7_store_B14 K14 Q x1 x2 x3 u → kH D (mW cy am) A s u H locs → lv_has ls 4 [(0, .ref (am 0)), (1, .int x1), (2, .int x2), (3, .int x3)] → W p l e (kRm 0) s m args below meth c H locs 0 0 (MQ below (kQv D (mW cy am) cy A Q) args s 0 0 A) (F0 m 14 ls []) := by
  intro x1 x2 x3 u H locs ls hw h hl
  obtain ⟨⟨hx, hb, hml, hown, hts⟩, hK, hA⟩ := id C
  unfold wX7_store_B14 at hw
  refine lv_iload_n hx hb dX7_store_14 rfl (lv_at hl 3 rfl) ?_
  refine lv_iload_n hx hb dX7_store_15 rfl (lv_at hl 2 rfl) ?_
  refine lv_aload_n hx hb dX7_store_16 rfl (lv_at hl 0 rfl) ?_
  refine kget C h 0 rfl rfl inBX7 3 (Nat.le_of_ble_eq_true rfl) wi_fl_X7_69 rfl dX7_store_17 ?_
  refine lv_isub hx hb dX7_store_20 ?_
  refine lv_icmp_ge (tgt := 52) hx hb dX7_store_21 (by decide) (fun c_21 => ?_) (fun c_21 => ?_)
  · have hw := hw.1 c_21
    exact kretV C hr hlk h hw dX7_store_52
  · have hw := hw.2 c_21
    refine lv_aload_n hx hb dX7_store_24 rfl (lv_at hl 0 rfl) ?_
    refine kget C h 0 rfl rfl inBX7 5 (Nat.le_of_ble_eq_true rfl) wi_fl_X7_13 rfl dX7_store_25 ?_
    refine lv_bipush (v := 10) hx hb dX7_store_28 (by decide) ?_
    refine lv_iload_n hx hb dX7_store_30 rfl (lv_at hl 1 rfl) ?_
    refine lv_imul hx hb dX7_store_31 ?_
    refine lv_iload_n hx hb dX7_store_32 rfl (lv_at hl 3 rfl) ?_
    refine lv_iadd hx hb dX7_store_33 ?_
    refine lv_aload_n hx hb dX7_store_34 rfl (lv_at hl 0 rfl) ?_
    refine kget C h 0 rfl rfl inBX7 1 (Nat.le_of_ble_eq_true rfl) wi_fl_X7_7 rfl dX7_store_35 ?_
    refine lv_aload_n hx hb dX7_store_38 rfl (lv_at hl 0 rfl) ?_
    refine kget C h 0 rfl rfl inBX7 3 (Nat.le_of_ble_eq_true rfl) wi_fl_X7_69 rfl dX7_store_39 ?_
    refine lv_iload_n hx hb dX7_store_42 rfl (lv_at hl 3 rfl) ?_
    refine lv_iadd hx hb dX7_store_43 ?_
    obtain ⟨i_44, hw⟩ := hw
    refine kbald C h 1 rfl i_44 dX7_store_44 ?_
    obtain ⟨i_45, hw⟩ := hw
    refine kbast C h 2 rfl i_45 (mR_5 cy am u ((10 * x1) + x3).toNatClampNeg ((gR u 1 ((gI u 3) + x3).toNatClampNeg : Int32).toInt8.toInt32)) dX7_store_45 (fun H locs h => ?_)
    refine lv_iinc (v := x3 + 1) (lv' := [(3, .int (x3 + 1)), (0, .ref (am 0)), (1, .int x1), (2, .int x2)]) hx hb dX7_store_46 hl (k := 3) rfl rfl (by decide) rfl (fun ls hl => ?_)
    refine lv_goto (tgt := 14) hx hb dX7_store_49 (by decide) ?_
    exact g14 x1 x2 (x3 + 1) _ _ _ _ hw h (lv_sub hl [1, 2, 3, 0] rfl)
def wX7_store_L14 (Q : ST → Prop) : Nat → Int32 → Int32 → Int32 → ST → Prop
  | 0, _, _, _, _ => False
  | n + 1, x1, x2, x3, u => wX7_store_B14 (wX7_store_L14 Q n) Q x1 x2 x3 u
set_option maxHeartbeats 4000000 in
theorem kX7_store_L14 {p : Program} {l : Launch} {e : Env} {s : State} {m : MethodId} {args : Array Value} {below : List Frame} {meth : Method} {c : Code} {D : va_G} {cy : CY} {A : Nat → Prop} {am : Nat → Nat} {Q : ST → Prop} (C : kC p m c cX7_store 4 s args RX7 D cy A) (hr : meth.sig.returnType = none) (hlk : meth.locks = false) : ∀ n : Nat, ∀ (x1 : Int32) (x2 : Int32) (x3 : Int32) (u : ST) (H : Heap) (locs : List Loc) (ls : Array Slot), wX7_store_L14 Q n x1 x2 x3 u → kH D (mW cy am) A s u H locs → lv_has ls 4 [(0, .ref (am 0)), (1, .int x1), (2, .int x2), (3, .int x3)] → W p l e (kRm 0) s m args below meth c H locs 0 0 (MQ below (kQv D (mW cy am) cy A Q) args s 0 0 A) (F0 m 14 ls []) := by
  intro n
  induction n with
  | zero => intro x1 x2 x3 u H locs ls hw; exact False.elim hw
  | succ n ih => exact kX7_store_B14 C hr hlk ih
def wX7_store (x1 : Int32) (x2 : Int32) (u : ST) (Q : ST → Prop) : Prop :=
  (vp_in x1 160 ∧ (∃ n : Nat, wX7_store_L14 Q n x1 x2 0 (sR u 6 x1.toNatClampNeg (x2 - (gI u 3)))))
set_option maxHeartbeats 4000000 in
set_option maxRecDepth 100000 in
theorem mX7_store (l : Launch) (D : va_G) (cy : CY) (am : Nat → Nat) (x1 : Int32) (x2 : Int32) (u : ST) (sz : Nat) {Q : ST → Prop} (hw : wX7_store x1 x2 u Q) : Met l yX7_store (wM yX7_store cX7_store 4 none) (kRm 0) (kPc D (mW cy am) cy u sz [.ref (am 0), .int x1, .int x2]) (kQv D (mW cy am) cy (va_A (mW cy am u) sz) Q) 0 0 (va_A (mW cy am u) sz) := by
  refine kMet pn_X7_store (Nat.le_of_ble_eq_true rfl) (fun p e s m below meth c ls hsz C hr hlk hex h hl => ?_)
  have hl : lv_has ls 4 [(0, .ref (am 0)), (1, .int x1), (2, .int x2)] := hl
  obtain ⟨⟨hx, hb, hml, hown, hts⟩, hK, hA⟩ := id C
  unfold wX7_store at hw
  have h : kH D (mW cy am) (va_A (mW cy am u) sz) s u s.heap [] := h
  refine lv_aload_n hx hb dX7_store_0 rfl (lv_at hl 0 rfl) ?_
  refine kget C h 0 rfl rfl inBX7 6 (Nat.le_of_ble_eq_true rfl) wi_fl_X7_16 rfl dX7_store_1 ?_
  refine lv_iload_n hx hb dX7_store_4 rfl (lv_at hl 1 rfl) ?_
  refine lv_iload_n hx hb dX7_store_5 rfl (lv_at hl 2 rfl) ?_
  refine lv_aload_n hx hb dX7_store_6 rfl (lv_at hl 0 rfl) ?_
  refine kget C h 0 rfl rfl inBX7 3 (Nat.le_of_ble_eq_true rfl) wi_fl_X7_69 rfl dX7_store_7 ?_
  refine lv_isub hx hb dX7_store_10 ?_
  obtain ⟨i_11, hw⟩ := hw
  refine kiast C h 3 rfl i_11 (mR_6 cy am u x1.toNatClampNeg (x2 - (gI u 3))) dX7_store_11 (fun H locs h => ?_)
  refine lv_iconst (v := 0) hx hb dX7_store_12 (by decide) ?_
  refine lv_istore_n (lv' := [(3, .int 0), (0, .ref (am 0)), (1, .int x1), (2, .int x2)]) hx hb dX7_store_13 rfl hl (by decide) rfl (fun ls hl => ?_)
  obtain ⟨n, hw⟩ := hw
  exact kX7_store_L14 C hr hlk n x1 x2 0 _ _ _ _ hw h (lv_sub hl [1, 2, 3, 0] rfl)

def wX7_readCondition_b60 (Q : ST → Prop) (x1 : Int32) (u : ST) : Prop :=
  ((¬ (gI u 4) = 0 → Q u) ∧ ((gI u 4) = 0 → wX7_store (80 + (gI u 14)) x1 u (fun u_2 => Q (sI (sI u_2 14 ((gI u_2 14) + 1)) 3 x1))))
set_option maxHeartbeats 4000000 in
set_option maxRecDepth 100000 in
theorem kX7_readCondition_b60 {p : Program} {l : Launch} {e : Env} {s : State} {m : MethodId} {args : Array Value} {below : List Frame} {meth : Method} {c : Code} {D : va_G} {cy : CY} {A : Nat → Prop} {am : Nat → Nat} {Q : ST → Prop} (C : kC p m c cX7_readCondition 2 s args RX7 D cy A) (hr : meth.sig.returnType = none) (hlk : meth.locks = false) : ∀ (x1 : Int32) (u : ST) (H : Heap) (locs : List Loc) (ls : Array Slot), wX7_readCondition_b60 Q x1 u → kH D (mW cy am) A s u H locs → lv_has ls 2 [(0, .ref (am 0)), (1, .int x1)] → W p l e (kRm 2) s m args below meth c H locs 0 0 (MQ below (kQv D (mW cy am) cy A Q) args s 0 0 A) (F0 m 60 ls []) := by
  intro x1 u H locs ls hw h hl
  obtain ⟨⟨hx, hb, hml, hown, hts⟩, hK, hA⟩ := id C
  unfold wX7_readCondition_b60 at hw
  refine lv_aload_n hx hb dX7_readCondition_60 rfl (lv_at hl 0 rfl) ?_
  refine kget C h 0 rfl rfl inBX7 4 (Nat.le_of_ble_eq_true rfl) wi_fl_X7_72 rfl dX7_readCondition_61 ?_
  refine lv_if_ne (tgt := 94) hx hb dX7_readCondition_64 (by decide) (fun c_64 => ?_) (fun c_64 => ?_)
  · have hw := hw.1 c_64
    exact kretV C hr hlk h hw dX7_readCondition_94
  · have hw := hw.2 c_64
    refine lv_aload_n hx hb dX7_readCondition_67 rfl (lv_at hl 0 rfl) ?_
    refine lv_bipush (v := 80) hx hb dX7_readCondition_68 (by decide) ?_
    refine lv_aload_n hx hb dX7_readCondition_70 rfl (lv_at hl 0 rfl) ?_
    refine kget C h 0 rfl rfl inBX7 14 (Nat.le_of_ble_eq_true rfl) wi_fl_X7_93 rfl dX7_readCondition_71 ?_
    refine lv_iadd hx hb dX7_readCondition_74 ?_
    refine lv_iload_n hx hb dX7_readCondition_75 rfl (lv_at hl 1 rfl) ?_
    refine kVv (As := [.int (80 + (gI u 14)), .int x1]) (rest := []) C h (cwV 2 hts (gd_V wi_ml_X7_100 wi_im_X7_store wi_se_X7_store wi_in_X7 wi_co_X7_store) rfl rfl rfl hd_X7_store ⟨Nat.le_of_ble_eq_true rfl, Nat.le_of_ble_eq_true rfl⟩) 0 rfl rfl rfl (mX7_store l D cy am (80 + (gI u 14)) x1 _ _ hw) rfl hl.1 rfl (Nat.le_of_ble_eq_true rfl) ⟨Nat.zero_le _, Nat.zero_le _⟩ dX7_readCondition_76 (fun u_2 H locs hw h => ?_)
    refine lv_aload_n hx hb dX7_readCondition_79 rfl (lv_at hl 0 rfl) ?_
    refine lv_dup hx hb dX7_readCondition_80 rfl ?_
    refine kget C h 0 rfl rfl inBX7 14 (Nat.le_of_ble_eq_true rfl) wi_fl_X7_93 rfl dX7_readCondition_81 ?_
    refine lv_iconst (v := 1) hx hb dX7_readCondition_84 (by decide) ?_
    refine lv_iadd hx hb dX7_readCondition_85 ?_
    refine kput C h 0 rfl rfl inBX7 tyX7_ok nmX7 14 (Nat.le_of_ble_eq_true rfl) wi_fl_X7_93 rfl rfl rfl (Nat.le_of_ble_eq_true rfl) (mS_14 cy am u_2 ((gI u_2 14) + 1)) dX7_readCondition_86 (fun H locs h => ?_)
    refine lv_aload_n hx hb dX7_readCondition_89 rfl (lv_at hl 0 rfl) ?_
    refine lv_iload_n hx hb dX7_readCondition_90 rfl (lv_at hl 1 rfl) ?_
    refine kput C h 0 rfl rfl inBX7 tyX7_ok nmX7 3 (Nat.le_of_ble_eq_true rfl) wi_fl_X7_69 rfl rfl rfl (Nat.le_of_ble_eq_true rfl) (mS_3 cy am (sI u_2 14 ((gI u_2 14) + 1)) x1) dX7_readCondition_91 (fun H locs h => ?_)
    exact kretV C hr hlk h hw dX7_readCondition_94
def wX7_readCondition_b35 (Q : ST → Prop) (x1 : Int32) (u : ST) : Prop :=
  ((¬ (gI u 4) = 0 → wX7_readCondition_b60 Q x1 u) ∧ ((gI u 4) = 0 → ((¬ (gI u 14) = 16 → wX7_readCondition_b60 Q x1 u) ∧ ((gI u 14) = 16 → wX7_bad 3 (gI u 3) u (fun u_2 => wX7_readCondition_b60 Q x1 u_2)))))
set_option maxHeartbeats 4000000 in
set_option maxRecDepth 100000 in
theorem kX7_readCondition_b35 {p : Program} {l : Launch} {e : Env} {s : State} {m : MethodId} {args : Array Value} {below : List Frame} {meth : Method} {c : Code} {D : va_G} {cy : CY} {A : Nat → Prop} {am : Nat → Nat} {Q : ST → Prop} (C : kC p m c cX7_readCondition 2 s args RX7 D cy A) (hr : meth.sig.returnType = none) (hlk : meth.locks = false) : ∀ (x1 : Int32) (u : ST) (H : Heap) (locs : List Loc) (ls : Array Slot), wX7_readCondition_b35 Q x1 u → kH D (mW cy am) A s u H locs → lv_has ls 2 [(0, .ref (am 0)), (1, .int x1)] → W p l e (kRm 2) s m args below meth c H locs 0 0 (MQ below (kQv D (mW cy am) cy A Q) args s 0 0 A) (F0 m 35 ls []) := by
  intro x1 u H locs ls hw h hl
  obtain ⟨⟨hx, hb, hml, hown, hts⟩, hK, hA⟩ := id C
  unfold wX7_readCondition_b35 at hw
  refine lv_aload_n hx hb dX7_readCondition_35 rfl (lv_at hl 0 rfl) ?_
  refine kget C h 0 rfl rfl inBX7 4 (Nat.le_of_ble_eq_true rfl) wi_fl_X7_72 rfl dX7_readCondition_36 ?_
  refine lv_if_ne (tgt := 60) hx hb dX7_readCondition_39 (by decide) (fun c_39 => ?_) (fun c_39 => ?_)
  · have hw := hw.1 c_39
    exact kX7_readCondition_b60 C hr hlk x1 _ _ _ _ hw h (lv_sub hl [0, 1] rfl)
  · have hw := hw.2 c_39
    refine lv_aload_n hx hb dX7_readCondition_42 rfl (lv_at hl 0 rfl) ?_
    refine kget C h 0 rfl rfl inBX7 14 (Nat.le_of_ble_eq_true rfl) wi_fl_X7_93 rfl dX7_readCondition_43 ?_
    refine lv_bipush (v := 16) hx hb dX7_readCondition_46 (by decide) ?_
    refine lv_icmp_ne (tgt := 60) hx hb dX7_readCondition_48 (by decide) (fun c_48 => ?_) (fun c_48 => ?_)
    · have hw := hw.1 c_48
      exact kX7_readCondition_b60 C hr hlk x1 _ _ _ _ hw h (lv_sub hl [0, 1] rfl)
    · have hw := hw.2 c_48
      refine lv_aload_n hx hb dX7_readCondition_51 rfl (lv_at hl 0 rfl) ?_
      refine lv_iconst (v := 3) hx hb dX7_readCondition_52 (by decide) ?_
      refine lv_aload_n hx hb dX7_readCondition_53 rfl (lv_at hl 0 rfl) ?_
      refine kget C h 0 rfl rfl inBX7 3 (Nat.le_of_ble_eq_true rfl) wi_fl_X7_69 rfl dX7_readCondition_54 ?_
      refine kVv (As := [.int 3, .int (gI u 3)]) (rest := []) C h (cwV 2 hts (gd_V wi_ml_X7_83 wi_im_X7_bad wi_se_X7_bad wi_in_X7 wi_co_X7_bad) rfl rfl rfl hd_X7_bad ⟨Nat.le_of_ble_eq_true rfl, Nat.le_of_ble_eq_true rfl⟩) 0 rfl rfl rfl (mX7_bad l D cy am 3 (gI u 3) _ _ hw) rfl hl.1 rfl (Nat.le_of_ble_eq_true rfl) ⟨Nat.zero_le _, Nat.zero_le _⟩ dX7_readCondition_57 (fun u_2 H locs hw h => ?_)
      exact kX7_readCondition_b60 C hr hlk x1 _ _ _ _ hw h (lv_sub hl [0, 1] rfl)
def wX7_readCondition (u : ST) (Q : ST → Prop) : Prop :=
  wX7_nameEnd  u (fun r_1 u_2 => ((¬ (gI u_2 4) = 0 → wX7_readCondition_b35 Q r_1 u_2) ∧ ((gI u_2 4) = 0 → wX7_find 80 (gI u_2 14) r_1 u_2 (fun r_3 u_4 => ((r_3 < 0 → wX7_readCondition_b35 Q r_1 u_4) ∧ (¬ r_3 < 0 → wX7_bad 2 (gI u_4 3) u_4 (fun u_6 => wX7_readCondition_b35 Q r_1 u_6)))))))
set_option maxHeartbeats 4000000 in
set_option maxRecDepth 100000 in
theorem mX7_readCondition (l : Launch) (D : va_G) (cy : CY) (am : Nat → Nat) (u : ST) (sz : Nat) {Q : ST → Prop} (hw : wX7_readCondition  u Q) : Met l yX7_readCondition (wM yX7_readCondition cX7_readCondition 2 none) (kRm 2) (kPc D (mW cy am) cy u sz [.ref (am 0)]) (kQv D (mW cy am) cy (va_A (mW cy am u) sz) Q) 0 0 (va_A (mW cy am u) sz) := by
  refine kMet pn_X7_readCondition (Nat.le_of_ble_eq_true rfl) (fun p e s m below meth c ls hsz C hr hlk hex h hl => ?_)
  have hl : lv_has ls 2 [(0, .ref (am 0))] := hl
  obtain ⟨⟨hx, hb, hml, hown, hts⟩, hK, hA⟩ := id C
  unfold wX7_readCondition at hw
  have h : kH D (mW cy am) (va_A (mW cy am u) sz) s u s.heap [] := h
  refine lv_aload_n hx hb dX7_readCondition_0 rfl (lv_at hl 0 rfl) ?_
  refine kVi (As := []) (rest := []) C h (cwV 0 hts (gd_V wi_ml_X7_90 wi_im_X7_nameEnd wi_se_X7_nameEnd wi_in_X7 wi_co_X7_nameEnd) rfl rfl rfl hd_X7_nameEnd ⟨Nat.le_of_ble_eq_true rfl, Nat.le_of_ble_eq_true rfl⟩) 0 rfl rfl rfl (mX7_nameEnd l D cy am  _ _ hw) rfl hl.1 rfl (Nat.le_of_ble_eq_true rfl) ⟨Nat.zero_le _, Nat.zero_le _⟩ dX7_readCondition_1 (fun r_1 u_2 H locs hw h => ?_)
  refine lv_istore_n (lv' := [(1, .int r_1), (0, .ref (am 0))]) hx hb dX7_readCondition_4 rfl hl (by decide) rfl (fun ls hl => ?_)
  refine lv_aload_n hx hb dX7_readCondition_5 rfl (lv_at hl 1 rfl) ?_
  refine kget C h 0 rfl rfl inBX7 4 (Nat.le_of_ble_eq_true rfl) wi_fl_X7_72 rfl dX7_readCondition_6 ?_
  refine lv_if_ne (tgt := 35) hx hb dX7_readCondition_9 (by decide) (fun c_9 => ?_) (fun c_9 => ?_)
  · have hw := hw.1 c_9
    exact kX7_readCondition_b35 C hr hlk r_1 _ _ _ _ hw h (lv_sub hl [1, 0] rfl)
  · have hw := hw.2 c_9
    refine lv_aload_n hx hb dX7_readCondition_12 rfl (lv_at hl 1 rfl) ?_
    refine lv_bipush (v := 80) hx hb dX7_readCondition_13 (by decide) ?_
    refine lv_aload_n hx hb dX7_readCondition_15 rfl (lv_at hl 1 rfl) ?_
    refine kget C h 0 rfl rfl inBX7 14 (Nat.le_of_ble_eq_true rfl) wi_fl_X7_93 rfl dX7_readCondition_16 ?_
    refine lv_iload_n hx hb dX7_readCondition_19 rfl (lv_at hl 0 rfl) ?_
    refine kVi (As := [.int 80, .int (gI u_2 14), .int r_1]) (rest := []) C h (cwV 3 hts (gd_V wi_ml_X7_96 wi_im_X7_find wi_se_X7_find wi_in_X7 wi_co_X7_find) rfl rfl rfl hd_X7_find ⟨Nat.le_of_ble_eq_true rfl, Nat.le_of_ble_eq_true rfl⟩) 0 rfl rfl rfl (mX7_find l D cy am 80 (gI u_2 14) r_1 _ _ hw) rfl hl.1 rfl (Nat.le_of_ble_eq_true rfl) ⟨Nat.zero_le _, Nat.zero_le _⟩ dX7_readCondition_20 (fun r_3 u_4 H locs hw h => ?_)
    refine lv_if_lt (tgt := 35) hx hb dX7_readCondition_23 (by decide) (fun c_23 => ?_) (fun c_23 => ?_)
    · have hw := hw.1 c_23
      exact kX7_readCondition_b35 C hr hlk r_1 _ _ _ _ hw h (lv_sub hl [1, 0] rfl)
    · have hw := hw.2 c_23
      refine lv_aload_n hx hb dX7_readCondition_26 rfl (lv_at hl 1 rfl) ?_
      refine lv_iconst (v := 2) hx hb dX7_readCondition_27 (by decide) ?_
      refine lv_aload_n hx hb dX7_readCondition_28 rfl (lv_at hl 1 rfl) ?_
      refine kget C h 0 rfl rfl inBX7 3 (Nat.le_of_ble_eq_true rfl) wi_fl_X7_69 rfl dX7_readCondition_29 ?_
      refine kVv (As := [.int 2, .int (gI u_4 3)]) (rest := []) C h (cwV 2 hts (gd_V wi_ml_X7_83 wi_im_X7_bad wi_se_X7_bad wi_in_X7 wi_co_X7_bad) rfl rfl rfl hd_X7_bad ⟨Nat.le_of_ble_eq_true rfl, Nat.le_of_ble_eq_true rfl⟩) 0 rfl rfl rfl (mX7_bad l D cy am 2 (gI u_4 3) _ _ hw) rfl hl.1 rfl (Nat.le_of_ble_eq_true rfl) ⟨Nat.zero_le _, Nat.zero_le _⟩ dX7_readCondition_32 (fun u_6 H locs hw h => ?_)
      exact kX7_readCondition_b35 C hr hlk r_1 _ _ _ _ hw h (lv_sub hl [1, 0] rfl)

def wX7_readRule_b161 (K11 : Int32 → Int32 → ST → Prop) (Q : ST → Prop) (x1 : Int32) (x2 : Int32) (u : ST) : Prop :=
  K11 x1 (x2 + 1) u
set_option maxHeartbeats 4000000 in
set_option maxRecDepth 100000 in
theorem kX7_readRule_b161 {p : Program} {l : Launch} {e : Env} {s : State} {m : MethodId} {args : Array Value} {below : List Frame} {meth : Method} {c : Code} {D : va_G} {cy : CY} {A : Nat → Prop} {am : Nat → Nat} {K11 : Int32 → Int32 → ST → Prop} {Q : ST → Prop} (C : kC p m c cX7_readRule 4 s args RX7 D cy A) (hr : meth.sig.returnType = none) (hlk : meth.locks = false) (g11 : ∀ (x1 : Int32) (x2 : Int32) (u : ST) (H : Heap) (locs : List Loc) (ls : Array Slot), K11 x1 x2 u → kH D (mW cy am) A s u H locs → lv_has ls 4 [(0, .ref (am 0)), (1, .int x1), (2, .int x2)] → W p l e (kRm 3) s m args below meth c H locs 0 0 (MQ below (kQv D (mW cy am) cy A Q) args s 0 0 A) (F0 m 11 ls [])) : ∀ (x1 : Int32) (x2 : Int32) (u : ST) (H : Heap) (locs : List Loc) (ls : Array Slot), wX7_readRule_b161 K11 Q x1 x2 u → kH D (mW cy am) A s u H locs → lv_has ls 4 [(0, .ref (am 0)), (1, .int x1), (2, .int x2)] → W p l e (kRm 3) s m args below meth c H locs 0 0 (MQ below (kQv D (mW cy am) cy A Q) args s 0 0 A) (F0 m 161 ls []) := by
  intro x1 x2 u H locs ls hw h hl
  obtain ⟨⟨hx, hb, hml, hown, hts⟩, hK, hA⟩ := id C
  unfold wX7_readRule_b161 at hw
  refine lv_iinc (v := x2 + 1) (lv' := [(2, .int (x2 + 1)), (0, .ref (am 0)), (1, .int x1)]) hx hb dX7_readRule_161 hl (k := 2) rfl rfl (by decide) rfl (fun ls hl => ?_)
  refine lv_goto (tgt := 11) hx hb dX7_readRule_164 (by decide) ?_
  exact g11 x1 (x2 + 1) _ _ _ _ hw h (lv_sub hl [1, 2, 0] rfl)
def wX7_readRule_b149 (K11 : Int32 → Int32 → ST → Prop) (Q : ST → Prop) (x1 : Int32) (x2 : Int32) (xs1 : Int32) (xs2 : Int32) (xs3 : Int32) (u : ST) : Prop :=
  (vp_in xs1 512 ∧ wX7_readRule_b161 K11 Q x1 x2 (sI (sR u 8 xs1.toNatClampNeg (xs2 ||| xs3)) 3 ((gI (sR u 8 xs1.toNatClampNeg (xs2 ||| xs3)) 3) + 1)))
set_option maxHeartbeats 4000000 in
set_option maxRecDepth 100000 in
theorem kX7_readRule_b149 {p : Program} {l : Launch} {e : Env} {s : State} {m : MethodId} {args : Array Value} {below : List Frame} {meth : Method} {c : Code} {D : va_G} {cy : CY} {A : Nat → Prop} {am : Nat → Nat} {K11 : Int32 → Int32 → ST → Prop} {Q : ST → Prop} (C : kC p m c cX7_readRule 4 s args RX7 D cy A) (hr : meth.sig.returnType = none) (hlk : meth.locks = false) (g11 : ∀ (x1 : Int32) (x2 : Int32) (u : ST) (H : Heap) (locs : List Loc) (ls : Array Slot), K11 x1 x2 u → kH D (mW cy am) A s u H locs → lv_has ls 4 [(0, .ref (am 0)), (1, .int x1), (2, .int x2)] → W p l e (kRm 3) s m args below meth c H locs 0 0 (MQ below (kQv D (mW cy am) cy A Q) args s 0 0 A) (F0 m 11 ls [])) : ∀ (x1 : Int32) (x2 : Int32) (xs1 : Int32) (xs2 : Int32) (xs3 : Int32) (u : ST) (H : Heap) (locs : List Loc) (ls : Array Slot), wX7_readRule_b149 K11 Q x1 x2 xs1 xs2 xs3 u → kH D (mW cy am) A s u H locs → lv_has ls 4 [(0, .ref (am 0)), (1, .int x1), (2, .int x2)] → W p l e (kRm 3) s m args below meth c H locs 0 0 (MQ below (kQv D (mW cy am) cy A Q) args s 0 0 A) (F0 m 149 ls [.int xs3, .int xs2, .int xs1, .ref (am 8)]) := by
  intro x1 x2 xs1 xs2 xs3 u H locs ls hw h hl
  obtain ⟨⟨hx, hb, hml, hown, hts⟩, hK, hA⟩ := id C
  unfold wX7_readRule_b149 at hw
  refine lv_ior hx hb dX7_readRule_149 ?_
  obtain ⟨i_150, hw⟩ := hw
  refine kiast C h 5 rfl i_150 (mR_8 cy am u xs1.toNatClampNeg (xs2 ||| xs3)) dX7_readRule_150 (fun H locs h => ?_)
  refine lv_aload_n hx hb dX7_readRule_151 rfl (lv_at hl 0 rfl) ?_
  refine lv_dup hx hb dX7_readRule_152 rfl ?_
  refine kget C h 0 rfl rfl inBX7 3 (Nat.le_of_ble_eq_true rfl) wi_fl_X7_69 rfl dX7_readRule_153 ?_
  refine lv_iconst (v := 1) hx hb dX7_readRule_156 (by decide) ?_
  refine lv_iadd hx hb dX7_readRule_157 ?_
  refine kput C h 0 rfl rfl inBX7 tyX7_ok nmX7 3 (Nat.le_of_ble_eq_true rfl) wi_fl_X7_69 rfl rfl rfl (Nat.le_of_ble_eq_true rfl) (mS_3 cy am (sR u 8 xs1.toNatClampNeg (xs2 ||| xs3)) ((gI (sR u 8 xs1.toNatClampNeg (xs2 ||| xs3)) 3) + 1)) dX7_readRule_158 (fun H locs h => ?_)
  exact kX7_readRule_b161 C hr hlk g11 x1 x2 _ _ _ _ hw h (lv_sub hl [0, 1, 2] rfl)
def wX7_readRule_b136 (K11 : Int32 → Int32 → ST → Prop) (Q : ST → Prop) (x1 : Int32) (x2 : Int32) (x3 : Int32) (xs1 : Int32) (xs2 : Int32) (u : ST) : Prop :=
  ((¬ x3 = 78 → wX7_readRule_b149 K11 Q x1 x2 xs1 xs2 0 u) ∧ (x3 = 78 → wX7_readRule_b149 K11 Q x1 x2 xs1 xs2 (1 <<< (x2 &&& 31)) u))
set_option maxHeartbeats 4000000 in
set_option maxRecDepth 100000 in
theorem kX7_readRule_b136 {p : Program} {l : Launch} {e : Env} {s : State} {m : MethodId} {args : Array Value} {below : List Frame} {meth : Method} {c : Code} {D : va_G} {cy : CY} {A : Nat → Prop} {am : Nat → Nat} {K11 : Int32 → Int32 → ST → Prop} {Q : ST → Prop} (C : kC p m c cX7_readRule 4 s args RX7 D cy A) (hr : meth.sig.returnType = none) (hlk : meth.locks = false) (g11 : ∀ (x1 : Int32) (x2 : Int32) (u : ST) (H : Heap) (locs : List Loc) (ls : Array Slot), K11 x1 x2 u → kH D (mW cy am) A s u H locs → lv_has ls 4 [(0, .ref (am 0)), (1, .int x1), (2, .int x2)] → W p l e (kRm 3) s m args below meth c H locs 0 0 (MQ below (kQv D (mW cy am) cy A Q) args s 0 0 A) (F0 m 11 ls [])) : ∀ (x1 : Int32) (x2 : Int32) (x3 : Int32) (xs1 : Int32) (xs2 : Int32) (u : ST) (H : Heap) (locs : List Loc) (ls : Array Slot), wX7_readRule_b136 K11 Q x1 x2 x3 xs1 xs2 u → kH D (mW cy am) A s u H locs → lv_has ls 4 [(0, .ref (am 0)), (1, .int x1), (2, .int x2), (3, .int x3)] → W p l e (kRm 3) s m args below meth c H locs 0 0 (MQ below (kQv D (mW cy am) cy A Q) args s 0 0 A) (F0 m 136 ls [.int xs2, .int xs1, .ref (am 8)]) := by
  intro x1 x2 x3 xs1 xs2 u H locs ls hw h hl
  obtain ⟨⟨hx, hb, hml, hown, hts⟩, hK, hA⟩ := id C
  unfold wX7_readRule_b136 at hw
  refine lv_iload_n hx hb dX7_readRule_136 rfl (lv_at hl 3 rfl) ?_
  refine lv_bipush (v := 78) hx hb dX7_readRule_137 (by decide) ?_
  refine lv_icmp_ne (tgt := 148) hx hb dX7_readRule_139 (by decide) (fun c_139 => ?_) (fun c_139 => ?_)
  · have hw := hw.1 c_139
    refine lv_iconst (v := 0) hx hb dX7_readRule_148 (by decide) ?_
    exact kX7_readRule_b149 C hr hlk g11 x1 x2 xs1 xs2 0 _ _ _ _ hw h (lv_sub hl [0, 1, 2] rfl)
  · have hw := hw.2 c_139
    refine lv_iconst (v := 1) hx hb dX7_readRule_142 (by decide) ?_
    refine lv_iload_n hx hb dX7_readRule_143 rfl (lv_at hl 2 rfl) ?_
    refine lv_ishl hx hb dX7_readRule_144 ?_
    refine lv_goto (tgt := 149) hx hb dX7_readRule_145 (by decide) ?_
    exact kX7_readRule_b149 C hr hlk g11 x1 x2 xs1 xs2 (1 <<< (x2 &&& 31)) _ _ _ _ hw h (lv_sub hl [0, 1, 2] rfl)
def wX7_readRule_b115 (K11 : Int32 → Int32 → ST → Prop) (Q : ST → Prop) (x1 : Int32) (x2 : Int32) (x3 : Int32) (xs1 : Int32) (xs2 : Int32) (xs3 : Int32) (u : ST) : Prop :=
  (vp_in xs1 512 ∧ ((¬ x2 = 0 → (vp_in x1 512 ∧ wX7_readRule_b136 K11 Q x1 x2 x3 x1 (gR (sR u 7 xs1.toNatClampNeg (xs2 ||| xs3)) 8 x1.toNatClampNeg) (sR u 7 xs1.toNatClampNeg (xs2 ||| xs3)))) ∧ (x2 = 0 → wX7_readRule_b136 K11 Q x1 x2 x3 x1 0 (sR u 7 xs1.toNatClampNeg (xs2 ||| xs3)))))
set_option maxHeartbeats 4000000 in
set_option maxRecDepth 100000 in
theorem kX7_readRule_b115 {p : Program} {l : Launch} {e : Env} {s : State} {m : MethodId} {args : Array Value} {below : List Frame} {meth : Method} {c : Code} {D : va_G} {cy : CY} {A : Nat → Prop} {am : Nat → Nat} {K11 : Int32 → Int32 → ST → Prop} {Q : ST → Prop} (C : kC p m c cX7_readRule 4 s args RX7 D cy A) (hr : meth.sig.returnType = none) (hlk : meth.locks = false) (g11 : ∀ (x1 : Int32) (x2 : Int32) (u : ST) (H : Heap) (locs : List Loc) (ls : Array Slot), K11 x1 x2 u → kH D (mW cy am) A s u H locs → lv_has ls 4 [(0, .ref (am 0)), (1, .int x1), (2, .int x2)] → W p l e (kRm 3) s m args below meth c H locs 0 0 (MQ below (kQv D (mW cy am) cy A Q) args s 0 0 A) (F0 m 11 ls [])) : ∀ (x1 : Int32) (x2 : Int32) (x3 : Int32) (xs1 : Int32) (xs2 : Int32) (xs3 : Int32) (u : ST) (H : Heap) (locs : List Loc) (ls : Array Slot), wX7_readRule_b115 K11 Q x1 x2 x3 xs1 xs2 xs3 u → kH D (mW cy am) A s u H locs → lv_has ls 4 [(0, .ref (am 0)), (1, .int x1), (2, .int x2), (3, .int x3)] → W p l e (kRm 3) s m args below meth c H locs 0 0 (MQ below (kQv D (mW cy am) cy A Q) args s 0 0 A) (F0 m 115 ls [.int xs3, .int xs2, .int xs1, .ref (am 7)]) := by
  intro x1 x2 x3 xs1 xs2 xs3 u H locs ls hw h hl
  obtain ⟨⟨hx, hb, hml, hown, hts⟩, hK, hA⟩ := id C
  unfold wX7_readRule_b115 at hw
  refine lv_ior hx hb dX7_readRule_115 ?_
  obtain ⟨i_116, hw⟩ := hw
  refine kiast C h 4 rfl i_116 (mR_7 cy am u xs1.toNatClampNeg (xs2 ||| xs3)) dX7_readRule_116 (fun H locs h => ?_)
  refine lv_aload_n hx hb dX7_readRule_117 rfl (lv_at hl 0 rfl) ?_
  refine kget C h 0 rfl rfl inBX7 8 (Nat.le_of_ble_eq_true rfl) wi_fl_X7_23 rfl dX7_readRule_118 ?_
  refine lv_iload_n hx hb dX7_readRule_121 rfl (lv_at hl 1 rfl) ?_
  refine lv_iload_n hx hb dX7_readRule_122 rfl (lv_at hl 2 rfl) ?_
  refine lv_if_ne (tgt := 130) hx hb dX7_readRule_123 (by decide) (fun c_123 => ?_) (fun c_123 => ?_)
  · have hw := hw.1 c_123
    refine lv_aload_n hx hb dX7_readRule_130 rfl (lv_at hl 0 rfl) ?_
    refine kget C h 0 rfl rfl inBX7 8 (Nat.le_of_ble_eq_true rfl) wi_fl_X7_23 rfl dX7_readRule_131 ?_
    refine lv_iload_n hx hb dX7_readRule_134 rfl (lv_at hl 1 rfl) ?_
    obtain ⟨i_135, hw⟩ := hw
    refine kiald C h 5 rfl i_135 dX7_readRule_135 ?_
    exact kX7_readRule_b136 C hr hlk g11 x1 x2 x3 x1 (gR (sR u 7 xs1.toNatClampNeg (xs2 ||| xs3)) 8 x1.toNatClampNeg) _ _ _ _ hw h (lv_sub hl [0, 1, 2, 3] rfl)
  · have hw := hw.2 c_123
    refine lv_iconst (v := 0) hx hb dX7_readRule_126 (by decide) ?_
    refine lv_goto (tgt := 136) hx hb dX7_readRule_127 (by decide) ?_
    exact kX7_readRule_b136 C hr hlk g11 x1 x2 x3 x1 0 _ _ _ _ hw h (lv_sub hl [0, 1, 2, 3] rfl)
def wX7_readRule_b102 (K11 : Int32 → Int32 → ST → Prop) (Q : ST → Prop) (x1 : Int32) (x2 : Int32) (x3 : Int32) (xs1 : Int32) (xs2 : Int32) (u : ST) : Prop :=
  ((¬ x3 = 89 → wX7_readRule_b115 K11 Q x1 x2 x3 xs1 xs2 0 u) ∧ (x3 = 89 → wX7_readRule_b115 K11 Q x1 x2 x3 xs1 xs2 (1 <<< (x2 &&& 31)) u))
set_option maxHeartbeats 4000000 in
set_option maxRecDepth 100000 in
theorem kX7_readRule_b102 {p : Program} {l : Launch} {e : Env} {s : State} {m : MethodId} {args : Array Value} {below : List Frame} {meth : Method} {c : Code} {D : va_G} {cy : CY} {A : Nat → Prop} {am : Nat → Nat} {K11 : Int32 → Int32 → ST → Prop} {Q : ST → Prop} (C : kC p m c cX7_readRule 4 s args RX7 D cy A) (hr : meth.sig.returnType = none) (hlk : meth.locks = false) (g11 : ∀ (x1 : Int32) (x2 : Int32) (u : ST) (H : Heap) (locs : List Loc) (ls : Array Slot), K11 x1 x2 u → kH D (mW cy am) A s u H locs → lv_has ls 4 [(0, .ref (am 0)), (1, .int x1), (2, .int x2)] → W p l e (kRm 3) s m args below meth c H locs 0 0 (MQ below (kQv D (mW cy am) cy A Q) args s 0 0 A) (F0 m 11 ls [])) : ∀ (x1 : Int32) (x2 : Int32) (x3 : Int32) (xs1 : Int32) (xs2 : Int32) (u : ST) (H : Heap) (locs : List Loc) (ls : Array Slot), wX7_readRule_b102 K11 Q x1 x2 x3 xs1 xs2 u → kH D (mW cy am) A s u H locs → lv_has ls 4 [(0, .ref (am 0)), (1, .int x1), (2, .int x2), (3, .int x3)] → W p l e (kRm 3) s m args below meth c H locs 0 0 (MQ below (kQv D (mW cy am) cy A Q) args s 0 0 A) (F0 m 102 ls [.int xs2, .int xs1, .ref (am 7)]) := by
  intro x1 x2 x3 xs1 xs2 u H locs ls hw h hl
  obtain ⟨⟨hx, hb, hml, hown, hts⟩, hK, hA⟩ := id C
  unfold wX7_readRule_b102 at hw
  refine lv_iload_n hx hb dX7_readRule_102 rfl (lv_at hl 3 rfl) ?_
  refine lv_bipush (v := 89) hx hb dX7_readRule_103 (by decide) ?_
  refine lv_icmp_ne (tgt := 114) hx hb dX7_readRule_105 (by decide) (fun c_105 => ?_) (fun c_105 => ?_)
  · have hw := hw.1 c_105
    refine lv_iconst (v := 0) hx hb dX7_readRule_114 (by decide) ?_
    exact kX7_readRule_b115 C hr hlk g11 x1 x2 x3 xs1 xs2 0 _ _ _ _ hw h (lv_sub hl [0, 1, 2, 3] rfl)
  · have hw := hw.2 c_105
    refine lv_iconst (v := 1) hx hb dX7_readRule_108 (by decide) ?_
    refine lv_iload_n hx hb dX7_readRule_109 rfl (lv_at hl 2 rfl) ?_
    refine lv_ishl hx hb dX7_readRule_110 ?_
    refine lv_goto (tgt := 115) hx hb dX7_readRule_111 (by decide) ?_
    exact kX7_readRule_b115 C hr hlk g11 x1 x2 x3 xs1 xs2 (1 <<< (x2 &&& 31)) _ _ _ _ hw h (lv_sub hl [0, 1, 2, 3] rfl)
def wX7_readRule_b61 (K11 : Int32 → Int32 → ST → Prop) (Q : ST → Prop) (x1 : Int32) (x2 : Int32) (x3 : Int32) (u : ST) : Prop :=
  ((¬ (gI u 15) = 256 → ((¬ x2 = 0 → (vp_in x1 512 ∧ wX7_readRule_b102 K11 Q x1 x2 x3 x1 (gR u 7 x1.toNatClampNeg) u)) ∧ (x2 = 0 → wX7_readRule_b102 K11 Q x1 x2 x3 x1 0 u))) ∧ ((gI u 15) = 256 → wX7_bad 3 (gI u 3) u (fun u_2 => wX7_readRule_b161 K11 Q x1 x2 u_2)))
set_option maxHeartbeats 4000000 in
set_option maxRecDepth 100000 in
theorem kX7_readRule_b61 {p : Program} {l : Launch} {e : Env} {s : State} {m : MethodId} {args : Array Value} {below : List Frame} {meth : Method} {c : Code} {D : va_G} {cy : CY} {A : Nat → Prop} {am : Nat → Nat} {K11 : Int32 → Int32 → ST → Prop} {Q : ST → Prop} (C : kC p m c cX7_readRule 4 s args RX7 D cy A) (hr : meth.sig.returnType = none) (hlk : meth.locks = false) (g11 : ∀ (x1 : Int32) (x2 : Int32) (u : ST) (H : Heap) (locs : List Loc) (ls : Array Slot), K11 x1 x2 u → kH D (mW cy am) A s u H locs → lv_has ls 4 [(0, .ref (am 0)), (1, .int x1), (2, .int x2)] → W p l e (kRm 3) s m args below meth c H locs 0 0 (MQ below (kQv D (mW cy am) cy A Q) args s 0 0 A) (F0 m 11 ls [])) : ∀ (x1 : Int32) (x2 : Int32) (x3 : Int32) (u : ST) (H : Heap) (locs : List Loc) (ls : Array Slot), wX7_readRule_b61 K11 Q x1 x2 x3 u → kH D (mW cy am) A s u H locs → lv_has ls 4 [(0, .ref (am 0)), (1, .int x1), (2, .int x2), (3, .int x3)] → W p l e (kRm 3) s m args below meth c H locs 0 0 (MQ below (kQv D (mW cy am) cy A Q) args s 0 0 A) (F0 m 61 ls []) := by
  intro x1 x2 x3 u H locs ls hw h hl
  obtain ⟨⟨hx, hb, hml, hown, hts⟩, hK, hA⟩ := id C
  unfold wX7_readRule_b61 at hw
  refine lv_aload_n hx hb dX7_readRule_61 rfl (lv_at hl 0 rfl) ?_
  refine kget C h 0 rfl rfl inBX7 15 (Nat.le_of_ble_eq_true rfl) wi_fl_X7_103 rfl dX7_readRule_62 ?_
  refine lv_sipush (v := 256) hx hb dX7_readRule_65 (by decide) ?_
  refine lv_icmp_ne (tgt := 83) hx hb dX7_readRule_68 (by decide) (fun c_68 => ?_) (fun c_68 => ?_)
  · have hw := hw.1 c_68
    refine lv_aload_n hx hb dX7_readRule_83 rfl (lv_at hl 0 rfl) ?_
    refine kget C h 0 rfl rfl inBX7 7 (Nat.le_of_ble_eq_true rfl) wi_fl_X7_20 rfl dX7_readRule_84 ?_
    refine lv_iload_n hx hb dX7_readRule_87 rfl (lv_at hl 1 rfl) ?_
    refine lv_iload_n hx hb dX7_readRule_88 rfl (lv_at hl 2 rfl) ?_
    refine lv_if_ne (tgt := 96) hx hb dX7_readRule_89 (by decide) (fun c_89 => ?_) (fun c_89 => ?_)
    · have hw := hw.1 c_89
      refine lv_aload_n hx hb dX7_readRule_96 rfl (lv_at hl 0 rfl) ?_
      refine kget C h 0 rfl rfl inBX7 7 (Nat.le_of_ble_eq_true rfl) wi_fl_X7_20 rfl dX7_readRule_97 ?_
      refine lv_iload_n hx hb dX7_readRule_100 rfl (lv_at hl 1 rfl) ?_
      obtain ⟨i_101, hw⟩ := hw
      refine kiald C h 4 rfl i_101 dX7_readRule_101 ?_
      exact kX7_readRule_b102 C hr hlk g11 x1 x2 x3 x1 (gR u 7 x1.toNatClampNeg) _ _ _ _ hw h (lv_sub hl [0, 1, 2, 3] rfl)
    · have hw := hw.2 c_89
      refine lv_iconst (v := 0) hx hb dX7_readRule_92 (by decide) ?_
      refine lv_goto (tgt := 102) hx hb dX7_readRule_93 (by decide) ?_
      exact kX7_readRule_b102 C hr hlk g11 x1 x2 x3 x1 0 _ _ _ _ hw h (lv_sub hl [0, 1, 2, 3] rfl)
  · have hw := hw.2 c_68
    refine lv_aload_n hx hb dX7_readRule_71 rfl (lv_at hl 0 rfl) ?_
    refine lv_iconst (v := 3) hx hb dX7_readRule_72 (by decide) ?_
    refine lv_aload_n hx hb dX7_readRule_73 rfl (lv_at hl 0 rfl) ?_
    refine kget C h 0 rfl rfl inBX7 3 (Nat.le_of_ble_eq_true rfl) wi_fl_X7_69 rfl dX7_readRule_74 ?_
    refine kVv (As := [.int 3, .int (gI u 3)]) (rest := []) C h (cwV 2 hts (gd_V wi_ml_X7_83 wi_im_X7_bad wi_se_X7_bad wi_in_X7 wi_co_X7_bad) rfl rfl rfl hd_X7_bad ⟨Nat.le_of_ble_eq_true rfl, Nat.le_of_ble_eq_true rfl⟩) 0 rfl rfl rfl (mX7_bad l D cy am 3 (gI u 3) _ _ hw) rfl hl.1 rfl (Nat.le_of_ble_eq_true rfl) ⟨Nat.zero_le _, Nat.zero_le _⟩ dX7_readRule_77 (fun u_2 H locs hw h => ?_)
    refine lv_goto (tgt := 161) hx hb dX7_readRule_80 (by decide) ?_
    exact kX7_readRule_b161 C hr hlk g11 x1 x2 _ _ _ _ hw h (lv_sub hl [0, 1, 2] rfl)
def wX7_readRule_b289 (Q : ST → Prop) (x1 : Int32) (x3 : Int32) (xs1 : Int32) (u : ST) : Prop :=
  wX7_sign 59 (sI u 3 xs1) (fun u_2 => ((¬ (gI u_2 4) = 0 → Q u_2) ∧ ((gI u_2 4) = 0 → (vp_in x1 512 ∧ Q (sI (sR u_2 9 x1.toNatClampNeg x3) 15 ((gI (sR u_2 9 x1.toNatClampNeg x3) 15) + 1))))))
set_option maxHeartbeats 4000000 in
set_option maxRecDepth 100000 in
theorem kX7_readRule_b289 {p : Program} {l : Launch} {e : Env} {s : State} {m : MethodId} {args : Array Value} {below : List Frame} {meth : Method} {c : Code} {D : va_G} {cy : CY} {A : Nat → Prop} {am : Nat → Nat} {Q : ST → Prop} (C : kC p m c cX7_readRule 4 s args RX7 D cy A) (hr : meth.sig.returnType = none) (hlk : meth.locks = false) : ∀ (x1 : Int32) (x3 : Int32) (xs1 : Int32) (u : ST) (H : Heap) (locs : List Loc) (ls : Array Slot), wX7_readRule_b289 Q x1 x3 xs1 u → kH D (mW cy am) A s u H locs → lv_has ls 4 [(0, .ref (am 0)), (1, .int x1), (3, .int x3)] → W p l e (kRm 3) s m args below meth c H locs 0 0 (MQ below (kQv D (mW cy am) cy A Q) args s 0 0 A) (F0 m 289 ls [.int xs1, .ref (am 0)]) := by
  intro x1 x3 xs1 u H locs ls hw h hl
  obtain ⟨⟨hx, hb, hml, hown, hts⟩, hK, hA⟩ := id C
  unfold wX7_readRule_b289 at hw
  refine kput C h 0 rfl rfl inBX7 tyX7_ok nmX7 3 (Nat.le_of_ble_eq_true rfl) wi_fl_X7_69 rfl rfl rfl (Nat.le_of_ble_eq_true rfl) (mS_3 cy am u xs1) dX7_readRule_289 (fun H locs h => ?_)
  refine lv_aload_n hx hb dX7_readRule_292 rfl (lv_at hl 0 rfl) ?_
  refine lv_bipush (v := 59) hx hb dX7_readRule_293 (by decide) ?_
  refine kVv (As := [.int 59]) (rest := []) C h (cwV 1 hts (gd_V wi_ml_X7_112 wi_im_X7_sign wi_se_X7_sign wi_in_X7 wi_co_X7_sign) rfl rfl rfl hd_X7_sign ⟨Nat.le_of_ble_eq_true rfl, Nat.le_of_ble_eq_true rfl⟩) 0 rfl rfl rfl (mX7_sign l D cy am 59 _ _ hw) rfl hl.1 rfl (Nat.le_of_ble_eq_true rfl) ⟨Nat.zero_le _, Nat.zero_le _⟩ dX7_readRule_295 (fun u_2 H locs hw h => ?_)
  refine lv_aload_n hx hb dX7_readRule_298 rfl (lv_at hl 0 rfl) ?_
  refine kget C h 0 rfl rfl inBX7 4 (Nat.le_of_ble_eq_true rfl) wi_fl_X7_72 rfl dX7_readRule_299 ?_
  refine lv_if_ne (tgt := 322) hx hb dX7_readRule_302 (by decide) (fun c_302 => ?_) (fun c_302 => ?_)
  · have hw := hw.1 c_302
    exact kretV C hr hlk h hw dX7_readRule_322
  · have hw := hw.2 c_302
    refine lv_aload_n hx hb dX7_readRule_305 rfl (lv_at hl 0 rfl) ?_
    refine kget C h 0 rfl rfl inBX7 9 (Nat.le_of_ble_eq_true rfl) wi_fl_X7_26 rfl dX7_readRule_306 ?_
    refine lv_iload_n hx hb dX7_readRule_309 rfl (lv_at hl 1 rfl) ?_
    refine lv_iload_n hx hb dX7_readRule_310 rfl (lv_at hl 2 rfl) ?_
    obtain ⟨i_311, hw⟩ := hw
    refine kiast C h 6 rfl i_311 (mR_9 cy am u_2 x1.toNatClampNeg x3) dX7_readRule_311 (fun H locs h => ?_)
    refine lv_aload_n hx hb dX7_readRule_312 rfl (lv_at hl 0 rfl) ?_
    refine lv_dup hx hb dX7_readRule_313 rfl ?_
    refine kget C h 0 rfl rfl inBX7 15 (Nat.le_of_ble_eq_true rfl) wi_fl_X7_103 rfl dX7_readRule_314 ?_
    refine lv_iconst (v := 1) hx hb dX7_readRule_317 (by decide) ?_
    refine lv_iadd hx hb dX7_readRule_318 ?_
    refine kput C h 0 rfl rfl inBX7 tyX7_ok nmX7 15 (Nat.le_of_ble_eq_true rfl) wi_fl_X7_103 rfl rfl rfl (Nat.le_of_ble_eq_true rfl) (mS_15 cy am (sR u_2 9 x1.toNatClampNeg x3) ((gI (sR u_2 9 x1.toNatClampNeg x3) 15) + 1)) dX7_readRule_319 (fun H locs h => ?_)
    exact kretV C hr hlk h hw dX7_readRule_322
def wX7_readRule_b273 (Q : ST → Prop) (x1 : Int32) (x2 : Int32) (x3 : Int32) (u : ST) : Prop :=
  ((¬ (gI u 4) = 0 → wX7_readRule_b289 Q x1 x3 (gI u 3) u) ∧ ((gI u 4) = 0 → wX7_readRule_b289 Q x1 x3 x2 u))
set_option maxHeartbeats 4000000 in
set_option maxRecDepth 100000 in
theorem kX7_readRule_b273 {p : Program} {l : Launch} {e : Env} {s : State} {m : MethodId} {args : Array Value} {below : List Frame} {meth : Method} {c : Code} {D : va_G} {cy : CY} {A : Nat → Prop} {am : Nat → Nat} {Q : ST → Prop} (C : kC p m c cX7_readRule 4 s args RX7 D cy A) (hr : meth.sig.returnType = none) (hlk : meth.locks = false) : ∀ (x1 : Int32) (x2 : Int32) (x3 : Int32) (u : ST) (H : Heap) (locs : List Loc) (ls : Array Slot), wX7_readRule_b273 Q x1 x2 x3 u → kH D (mW cy am) A s u H locs → lv_has ls 4 [(0, .ref (am 0)), (1, .int x1), (2, .int x2), (3, .int x3)] → W p l e (kRm 3) s m args below meth c H locs 0 0 (MQ below (kQv D (mW cy am) cy A Q) args s 0 0 A) (F0 m 273 ls []) := by
  intro x1 x2 x3 u H locs ls hw h hl
  obtain ⟨⟨hx, hb, hml, hown, hts⟩, hK, hA⟩ := id C
  unfold wX7_readRule_b273 at hw
  refine lv_aload_n hx hb dX7_readRule_273 rfl (lv_at hl 0 rfl) ?_
  refine lv_aload_n hx hb dX7_readRule_274 rfl (lv_at hl 0 rfl) ?_
  refine kget C h 0 rfl rfl inBX7 4 (Nat.le_of_ble_eq_true rfl) wi_fl_X7_72 rfl dX7_readRule_275 ?_
  refine lv_if_ne (tgt := 285) hx hb dX7_readRule_278 (by decide) (fun c_278 => ?_) (fun c_278 => ?_)
  · have hw := hw.1 c_278
    refine lv_aload_n hx hb dX7_readRule_285 rfl (lv_at hl 0 rfl) ?_
    refine kget C h 0 rfl rfl inBX7 3 (Nat.le_of_ble_eq_true rfl) wi_fl_X7_69 rfl dX7_readRule_286 ?_
    exact kX7_readRule_b289 C hr hlk x1 x3 (gI u 3) _ _ _ _ hw h (lv_sub hl [0, 1, 3] rfl)
  · have hw := hw.2 c_278
    refine lv_iload_n hx hb dX7_readRule_281 rfl (lv_at hl 2 rfl) ?_
    refine lv_goto (tgt := 289) hx hb dX7_readRule_282 (by decide) ?_
    exact kX7_readRule_b289 C hr hlk x1 x3 x2 _ _ _ _ hw h (lv_sub hl [0, 1, 3] rfl)
def wX7_readRule_b213 (Q : ST → Prop) (x1 : Int32) (x2 : Int32) (xs0 : Int32) (u : ST) : Prop :=
  ((¬ (gI u 4) = 0 → wX7_readRule_b273 Q x1 x2 xs0 u) ∧ ((gI u 4) = 0 → ((0 ≤ xs0 → wX7_readRule_b273 Q x1 x2 xs0 u) ∧ (¬ 0 ≤ xs0 → ((¬ (gI u 16) = 64 → wX7_store (96 + (gI u 16)) x2 u (fun u_2 => wX7_readRule_b273 Q x1 x2 (gI u_2 16) (sI u_2 16 ((gI u_2 16) + 1)))) ∧ ((gI u 16) = 64 → wX7_bad 3 (gI u 3) u (fun u_4 => wX7_readRule_b273 Q x1 x2 xs0 u_4)))))))
set_option maxHeartbeats 4000000 in
set_option maxRecDepth 100000 in
theorem kX7_readRule_b213 {p : Program} {l : Launch} {e : Env} {s : State} {m : MethodId} {args : Array Value} {below : List Frame} {meth : Method} {c : Code} {D : va_G} {cy : CY} {A : Nat → Prop} {am : Nat → Nat} {Q : ST → Prop} (C : kC p m c cX7_readRule 4 s args RX7 D cy A) (hr : meth.sig.returnType = none) (hlk : meth.locks = false) : ∀ (x1 : Int32) (x2 : Int32) (xs0 : Int32) (u : ST) (H : Heap) (locs : List Loc) (ls : Array Slot), wX7_readRule_b213 Q x1 x2 xs0 u → kH D (mW cy am) A s u H locs → lv_has ls 4 [(0, .ref (am 0)), (1, .int x1), (2, .int x2)] → W p l e (kRm 3) s m args below meth c H locs 0 0 (MQ below (kQv D (mW cy am) cy A Q) args s 0 0 A) (F0 m 213 ls [.int xs0]) := by
  intro x1 x2 xs0 u H locs ls hw h hl
  obtain ⟨⟨hx, hb, hml, hown, hts⟩, hK, hA⟩ := id C
  unfold wX7_readRule_b213 at hw
  refine lv_istore_n (lv' := [(3, .int xs0), (0, .ref (am 0)), (1, .int x1), (2, .int x2)]) hx hb dX7_readRule_213 rfl hl (by decide) rfl (fun ls hl => ?_)
  refine lv_aload_n hx hb dX7_readRule_214 rfl (lv_at hl 1 rfl) ?_
  refine kget C h 0 rfl rfl inBX7 4 (Nat.le_of_ble_eq_true rfl) wi_fl_X7_72 rfl dX7_readRule_215 ?_
  refine lv_if_ne (tgt := 273) hx hb dX7_readRule_218 (by decide) (fun c_218 => ?_) (fun c_218 => ?_)
  · have hw := hw.1 c_218
    exact kX7_readRule_b273 C hr hlk x1 x2 xs0 _ _ _ _ hw h (lv_sub hl [1, 2, 3, 0] rfl)
  · have hw := hw.2 c_218
    refine lv_iload_n hx hb dX7_readRule_221 rfl (lv_at hl 0 rfl) ?_
    refine lv_if_ge (tgt := 273) hx hb dX7_readRule_222 (by decide) (fun c_222 => ?_) (fun c_222 => ?_)
    · have hw := hw.1 c_222
      exact kX7_readRule_b273 C hr hlk x1 x2 xs0 _ _ _ _ hw h (lv_sub hl [1, 2, 3, 0] rfl)
    · have hw := hw.2 c_222
      refine lv_aload_n hx hb dX7_readRule_225 rfl (lv_at hl 1 rfl) ?_
      refine kget C h 0 rfl rfl inBX7 16 (Nat.le_of_ble_eq_true rfl) wi_fl_X7_109 rfl dX7_readRule_226 ?_
      refine lv_bipush (v := 64) hx hb dX7_readRule_229 (by decide) ?_
      refine lv_icmp_ne (tgt := 246) hx hb dX7_readRule_231 (by decide) (fun c_231 => ?_) (fun c_231 => ?_)
      · have hw := hw.1 c_231
        refine lv_aload_n hx hb dX7_readRule_246 rfl (lv_at hl 1 rfl) ?_
        refine lv_bipush (v := 96) hx hb dX7_readRule_247 (by decide) ?_
        refine lv_aload_n hx hb dX7_readRule_249 rfl (lv_at hl 1 rfl) ?_
        refine kget C h 0 rfl rfl inBX7 16 (Nat.le_of_ble_eq_true rfl) wi_fl_X7_109 rfl dX7_readRule_250 ?_
        refine lv_iadd hx hb dX7_readRule_253 ?_
        refine lv_iload_n hx hb dX7_readRule_254 rfl (lv_at hl 3 rfl) ?_
        refine kVv (As := [.int (96 + (gI u 16)), .int x2]) (rest := []) C h (cwV 2 hts (gd_V wi_ml_X7_100 wi_im_X7_store wi_se_X7_store wi_in_X7 wi_co_X7_store) rfl rfl rfl hd_X7_store ⟨Nat.le_of_ble_eq_true rfl, Nat.le_of_ble_eq_true rfl⟩) 0 rfl rfl rfl (mX7_store l D cy am (96 + (gI u 16)) x2 _ _ hw) rfl hl.1 rfl (Nat.le_of_ble_eq_true rfl) ⟨Nat.zero_le _, Nat.zero_le _⟩ dX7_readRule_255 (fun u_2 H locs hw h => ?_)
        refine lv_aload_n hx hb dX7_readRule_258 rfl (lv_at hl 1 rfl) ?_
        refine kget C h 0 rfl rfl inBX7 16 (Nat.le_of_ble_eq_true rfl) wi_fl_X7_109 rfl dX7_readRule_259 ?_
        refine lv_istore_n (lv' := [(3, .int (gI u_2 16)), (0, .ref (am 0)), (1, .int x1), (2, .int x2)]) hx hb dX7_readRule_262 rfl hl (by decide) rfl (fun ls hl => ?_)
        refine lv_aload_n hx hb dX7_readRule_263 rfl (lv_at hl 1 rfl) ?_
        refine lv_dup hx hb dX7_readRule_264 rfl ?_
        refine kget C h 0 rfl rfl inBX7 16 (Nat.le_of_ble_eq_true rfl) wi_fl_X7_109 rfl dX7_readRule_265 ?_
        refine lv_iconst (v := 1) hx hb dX7_readRule_268 (by decide) ?_
        refine lv_iadd hx hb dX7_readRule_269 ?_
        refine kput C h 0 rfl rfl inBX7 tyX7_ok nmX7 16 (Nat.le_of_ble_eq_true rfl) wi_fl_X7_109 rfl rfl rfl (Nat.le_of_ble_eq_true rfl) (mS_16 cy am u_2 ((gI u_2 16) + 1)) dX7_readRule_270 (fun H locs h => ?_)
        exact kX7_readRule_b273 C hr hlk x1 x2 (gI u_2 16) _ _ _ _ hw h (lv_sub hl [1, 2, 3, 0] rfl)
      · have hw := hw.2 c_231
        refine lv_aload_n hx hb dX7_readRule_234 rfl (lv_at hl 1 rfl) ?_
        refine lv_iconst (v := 3) hx hb dX7_readRule_235 (by decide) ?_
        refine lv_aload_n hx hb dX7_readRule_236 rfl (lv_at hl 1 rfl) ?_
        refine kget C h 0 rfl rfl inBX7 3 (Nat.le_of_ble_eq_true rfl) wi_fl_X7_69 rfl dX7_readRule_237 ?_
        refine kVv (As := [.int 3, .int (gI u 3)]) (rest := []) C h (cwV 2 hts (gd_V wi_ml_X7_83 wi_im_X7_bad wi_se_X7_bad wi_in_X7 wi_co_X7_bad) rfl rfl rfl hd_X7_bad ⟨Nat.le_of_ble_eq_true rfl, Nat.le_of_ble_eq_true rfl⟩) 0 rfl rfl rfl (mX7_bad l D cy am 3 (gI u 3) _ _ hw) rfl hl.1 rfl (Nat.le_of_ble_eq_true rfl) ⟨Nat.zero_le _, Nat.zero_le _⟩ dX7_readRule_240 (fun u_4 H locs hw h => ?_)
        refine lv_goto (tgt := 273) hx hb dX7_readRule_243 (by decide) ?_
        exact kX7_readRule_b273 C hr hlk x1 x2 xs0 _ _ _ _ hw h (lv_sub hl [1, 2, 3, 0] rfl)
def wX7_readRule_b190 (Q : ST → Prop) (x1 : Int32) (xs0 : Int32) (u : ST) : Prop :=
  ((¬ (gI u 4) = 0 → wX7_readRule_b213 Q x1 xs0 0 u) ∧ ((gI u 4) = 0 → wX7_find 96 (gI u 16) xs0 u (fun r_1 u_2 => wX7_readRule_b213 Q x1 xs0 r_1 u_2)))
set_option maxHeartbeats 4000000 in
set_option maxRecDepth 100000 in
theorem kX7_readRule_b190 {p : Program} {l : Launch} {e : Env} {s : State} {m : MethodId} {args : Array Value} {below : List Frame} {meth : Method} {c : Code} {D : va_G} {cy : CY} {A : Nat → Prop} {am : Nat → Nat} {Q : ST → Prop} (C : kC p m c cX7_readRule 4 s args RX7 D cy A) (hr : meth.sig.returnType = none) (hlk : meth.locks = false) : ∀ (x1 : Int32) (xs0 : Int32) (u : ST) (H : Heap) (locs : List Loc) (ls : Array Slot), wX7_readRule_b190 Q x1 xs0 u → kH D (mW cy am) A s u H locs → lv_has ls 4 [(0, .ref (am 0)), (1, .int x1)] → W p l e (kRm 3) s m args below meth c H locs 0 0 (MQ below (kQv D (mW cy am) cy A Q) args s 0 0 A) (F0 m 190 ls [.int xs0]) := by
  intro x1 xs0 u H locs ls hw h hl
  obtain ⟨⟨hx, hb, hml, hown, hts⟩, hK, hA⟩ := id C
  unfold wX7_readRule_b190 at hw
  refine lv_istore_n (lv' := [(2, .int xs0), (0, .ref (am 0)), (1, .int x1)]) hx hb dX7_readRule_190 rfl hl (by decide) rfl (fun ls hl => ?_)
  refine lv_aload_n hx hb dX7_readRule_191 rfl (lv_at hl 1 rfl) ?_
  refine kget C h 0 rfl rfl inBX7 4 (Nat.le_of_ble_eq_true rfl) wi_fl_X7_72 rfl dX7_readRule_192 ?_
  refine lv_if_ne (tgt := 212) hx hb dX7_readRule_195 (by decide) (fun c_195 => ?_) (fun c_195 => ?_)
  · have hw := hw.1 c_195
    refine lv_iconst (v := 0) hx hb dX7_readRule_212 (by decide) ?_
    exact kX7_readRule_b213 C hr hlk x1 xs0 0 _ _ _ _ hw h (lv_sub hl [1, 2, 0] rfl)
  · have hw := hw.2 c_195
    refine lv_aload_n hx hb dX7_readRule_198 rfl (lv_at hl 1 rfl) ?_
    refine lv_bipush (v := 96) hx hb dX7_readRule_199 (by decide) ?_
    refine lv_aload_n hx hb dX7_readRule_201 rfl (lv_at hl 1 rfl) ?_
    refine kget C h 0 rfl rfl inBX7 16 (Nat.le_of_ble_eq_true rfl) wi_fl_X7_109 rfl dX7_readRule_202 ?_
    refine lv_iload_n hx hb dX7_readRule_205 rfl (lv_at hl 0 rfl) ?_
    refine kVi (As := [.int 96, .int (gI u 16), .int xs0]) (rest := []) C h (cwV 3 hts (gd_V wi_ml_X7_96 wi_im_X7_find wi_se_X7_find wi_in_X7 wi_co_X7_find) rfl rfl rfl hd_X7_find ⟨Nat.le_of_ble_eq_true rfl, Nat.le_of_ble_eq_true rfl⟩) 0 rfl rfl rfl (mX7_find l D cy am 96 (gI u 16) xs0 _ _ hw) rfl hl.1 rfl (Nat.le_of_ble_eq_true rfl) ⟨Nat.zero_le _, Nat.zero_le _⟩ dX7_readRule_206 (fun r_1 u_2 H locs hw h => ?_)
    refine lv_goto (tgt := 213) hx hb dX7_readRule_209 (by decide) ?_
    exact kX7_readRule_b213 C hr hlk x1 xs0 r_1 _ _ _ _ hw h (lv_sub hl [1, 2, 0] rfl)
def wX7_readRule_b167 (Q : ST → Prop) (x1 : Int32) (u : ST) : Prop :=
  wX7_word 100 111 u (fun u_2 => ((¬ (gI u_2 4) = 0 → wX7_readRule_b190 Q x1 0 u_2) ∧ ((gI u_2 4) = 0 → wX7_nameEnd  u_2 (fun r_3 u_4 => wX7_readRule_b190 Q x1 r_3 u_4))))
set_option maxHeartbeats 4000000 in
set_option maxRecDepth 100000 in
theorem kX7_readRule_b167 {p : Program} {l : Launch} {e : Env} {s : State} {m : MethodId} {args : Array Value} {below : List Frame} {meth : Method} {c : Code} {D : va_G} {cy : CY} {A : Nat → Prop} {am : Nat → Nat} {Q : ST → Prop} (C : kC p m c cX7_readRule 4 s args RX7 D cy A) (hr : meth.sig.returnType = none) (hlk : meth.locks = false) : ∀ (x1 : Int32) (u : ST) (H : Heap) (locs : List Loc) (ls : Array Slot), wX7_readRule_b167 Q x1 u → kH D (mW cy am) A s u H locs → lv_has ls 4 [(0, .ref (am 0)), (1, .int x1)] → W p l e (kRm 3) s m args below meth c H locs 0 0 (MQ below (kQv D (mW cy am) cy A Q) args s 0 0 A) (F0 m 167 ls []) := by
  intro x1 u H locs ls hw h hl
  obtain ⟨⟨hx, hb, hml, hown, hts⟩, hK, hA⟩ := id C
  unfold wX7_readRule_b167 at hw
  refine lv_aload_n hx hb dX7_readRule_167 rfl (lv_at hl 0 rfl) ?_
  refine lv_bipush (v := 100) hx hb dX7_readRule_168 (by decide) ?_
  refine lv_bipush (v := 111) hx hb dX7_readRule_170 (by decide) ?_
  refine kVv (As := [.int 100, .int 111]) (rest := []) C h (cwV 2 hts (gd_V wi_ml_X7_106 wi_im_X7_word wi_se_X7_word wi_in_X7 wi_co_X7_word) rfl rfl rfl hd_X7_word ⟨Nat.le_of_ble_eq_true rfl, Nat.le_of_ble_eq_true rfl⟩) 0 rfl rfl rfl (mX7_word l D cy am 100 111 _ _ hw) rfl hl.1 rfl (Nat.le_of_ble_eq_true rfl) ⟨Nat.zero_le _, Nat.zero_le _⟩ dX7_readRule_172 (fun u_2 H locs hw h => ?_)
  refine lv_aload_n hx hb dX7_readRule_175 rfl (lv_at hl 0 rfl) ?_
  refine kget C h 0 rfl rfl inBX7 4 (Nat.le_of_ble_eq_true rfl) wi_fl_X7_72 rfl dX7_readRule_176 ?_
  refine lv_if_ne (tgt := 189) hx hb dX7_readRule_179 (by decide) (fun c_179 => ?_) (fun c_179 => ?_)
  · have hw := hw.1 c_179
    refine lv_iconst (v := 0) hx hb dX7_readRule_189 (by decide) ?_
    exact kX7_readRule_b190 C hr hlk x1 0 _ _ _ _ hw h (lv_sub hl [0, 1] rfl)
  · have hw := hw.2 c_179
    refine lv_aload_n hx hb dX7_readRule_182 rfl (lv_at hl 0 rfl) ?_
    refine kVi (As := []) (rest := []) C h (cwV 0 hts (gd_V wi_ml_X7_90 wi_im_X7_nameEnd wi_se_X7_nameEnd wi_in_X7 wi_co_X7_nameEnd) rfl rfl rfl hd_X7_nameEnd ⟨Nat.le_of_ble_eq_true rfl, Nat.le_of_ble_eq_true rfl⟩) 0 rfl rfl rfl (mX7_nameEnd l D cy am  _ _ hw) rfl hl.1 rfl (Nat.le_of_ble_eq_true rfl) ⟨Nat.zero_le _, Nat.zero_le _⟩ dX7_readRule_183 (fun r_3 u_4 H locs hw h => ?_)
    refine lv_goto (tgt := 190) hx hb dX7_readRule_186 (by decide) ?_
    exact kX7_readRule_b190 C hr hlk x1 r_3 _ _ _ _ hw h (lv_sub hl [0, 1] rfl)
def wX7_readRule_B11 (K11 : Int32 → Int32 → ST → Prop) (Q : ST → Prop) (x1 : Int32) (x2 : Int32) (u : ST) : Prop :=
  (((gI u 14) ≤ x2 → wX7_readRule_b167 Q x1 u) ∧ (¬ (gI u 14) ≤ x2 → ((¬ (gI u 4) = 0 → wX7_readRule_b167 Q x1 u) ∧ ((gI u 4) = 0 → wX7_look  u (fun r_1 u_2 => ((r_1 = 89 → wX7_readRule_b61 K11 Q x1 x2 r_1 u_2) ∧ (¬ r_1 = 89 → ((r_1 = 78 → wX7_readRule_b61 K11 Q x1 x2 r_1 u_2) ∧ (¬ r_1 = 78 → ((r_1 = 45 → wX7_readRule_b61 K11 Q x1 x2 r_1 u_2) ∧ (¬ r_1 = 45 → wX7_bad 1 (gI u_2 3) u_2 (fun u_4 => wX7_readRule_b161 K11 Q x1 x2 u_4))))))))))))
set_option maxHeartbeats 4000000 in
set_option maxRecDepth 100000 in
theorem kX7_readRule_B11 {p : Program} {l : Launch} {e : Env} {s : State} {m : MethodId} {args : Array Value} {below : List Frame} {meth : Method} {c : Code} {D : va_G} {cy : CY} {A : Nat → Prop} {am : Nat → Nat} {K11 : Int32 → Int32 → ST → Prop} {Q : ST → Prop} (C : kC p m c cX7_readRule 4 s args RX7 D cy A) (hr : meth.sig.returnType = none) (hlk : meth.locks = false) (g11 : ∀ (x1 : Int32) (x2 : Int32) (u : ST) (H : Heap) (locs : List Loc) (ls : Array Slot), K11 x1 x2 u → kH D (mW cy am) A s u H locs → lv_has ls 4 [(0, .ref (am 0)), (1, .int x1), (2, .int x2)] → W p l e (kRm 3) s m args below meth c H locs 0 0 (MQ below (kQv D (mW cy am) cy A Q) args s 0 0 A) (F0 m 11 ls [])) : ∀ (x1 : Int32) (x2 : Int32) (u : ST) (H : Heap) (locs : List Loc) (ls : Array Slot), wX7_readRule_B11 K11 Q x1 x2 u → kH D (mW cy am) A s u H locs → lv_has ls 4 [(0, .ref (am 0)), (1, .int x1), (2, .int x2)] → W p l e (kRm 3) s m args below meth c H locs 0 0 (MQ below (kQv D (mW cy am) cy A Q) args s 0 0 A) (F0 m 11 ls []) := by
  intro x1 x2 u H locs ls hw h hl
  obtain ⟨⟨hx, hb, hml, hown, hts⟩, hK, hA⟩ := id C
  unfold wX7_readRule_B11 at hw
  refine lv_iload_n hx hb dX7_readRule_11 rfl (lv_at hl 2 rfl) ?_
  refine lv_aload_n hx hb dX7_readRule_12 rfl (lv_at hl 0 rfl) ?_
  refine kget C h 0 rfl rfl inBX7 14 (Nat.le_of_ble_eq_true rfl) wi_fl_X7_93 rfl dX7_readRule_13 ?_
  refine lv_icmp_ge (tgt := 167) hx hb dX7_readRule_16 (by decide) (fun c_16 => ?_) (fun c_16 => ?_)
  · have hw := hw.1 c_16
    exact kX7_readRule_b167 C hr hlk x1 _ _ _ _ hw h (lv_sub hl [0, 1] rfl)
  · have hw := hw.2 c_16
    refine lv_aload_n hx hb dX7_readRule_19 rfl (lv_at hl 0 rfl) ?_
    refine kget C h 0 rfl rfl inBX7 4 (Nat.le_of_ble_eq_true rfl) wi_fl_X7_72 rfl dX7_readRule_20 ?_
    refine lv_if_ne (tgt := 167) hx hb dX7_readRule_23 (by decide) (fun c_23 => ?_) (fun c_23 => ?_)
    · have hw := hw.1 c_23
      exact kX7_readRule_b167 C hr hlk x1 _ _ _ _ hw h (lv_sub hl [0, 1] rfl)
    · have hw := hw.2 c_23
      refine lv_aload_n hx hb dX7_readRule_26 rfl (lv_at hl 0 rfl) ?_
      refine kVi (As := []) (rest := []) C h (cwV 0 hts (gd_V wi_ml_X7_75 wi_im_X7_look wi_se_X7_look wi_in_X7 wi_co_X7_look) rfl rfl rfl hd_X7_look ⟨Nat.le_of_ble_eq_true rfl, Nat.le_of_ble_eq_true rfl⟩) 0 rfl rfl rfl (mX7_look l D cy am  _ _ hw) rfl hl.1 rfl (Nat.le_of_ble_eq_true rfl) ⟨Nat.zero_le _, Nat.zero_le _⟩ dX7_readRule_27 (fun r_1 u_2 H locs hw h => ?_)
      refine lv_istore_n (lv' := [(3, .int r_1), (0, .ref (am 0)), (1, .int x1), (2, .int x2)]) hx hb dX7_readRule_30 rfl hl (by decide) rfl (fun ls hl => ?_)
      refine lv_iload_n hx hb dX7_readRule_31 rfl (lv_at hl 0 rfl) ?_
      refine lv_bipush (v := 89) hx hb dX7_readRule_32 (by decide) ?_
      refine lv_icmp_eq (tgt := 61) hx hb dX7_readRule_34 (by decide) (fun c_34 => ?_) (fun c_34 => ?_)
      · have hw := hw.1 c_34
        exact kX7_readRule_b61 C hr hlk g11 x1 x2 r_1 _ _ _ _ hw h (lv_sub hl [1, 2, 3, 0] rfl)
      · have hw := hw.2 c_34
        refine lv_iload_n hx hb dX7_readRule_37 rfl (lv_at hl 0 rfl) ?_
        refine lv_bipush (v := 78) hx hb dX7_readRule_38 (by decide) ?_
        refine lv_icmp_eq (tgt := 61) hx hb dX7_readRule_40 (by decide) (fun c_40 => ?_) (fun c_40 => ?_)
        · have hw := hw.1 c_40
          exact kX7_readRule_b61 C hr hlk g11 x1 x2 r_1 _ _ _ _ hw h (lv_sub hl [1, 2, 3, 0] rfl)
        · have hw := hw.2 c_40
          refine lv_iload_n hx hb dX7_readRule_43 rfl (lv_at hl 0 rfl) ?_
          refine lv_bipush (v := 45) hx hb dX7_readRule_44 (by decide) ?_
          refine lv_icmp_eq (tgt := 61) hx hb dX7_readRule_46 (by decide) (fun c_46 => ?_) (fun c_46 => ?_)
          · have hw := hw.1 c_46
            exact kX7_readRule_b61 C hr hlk g11 x1 x2 r_1 _ _ _ _ hw h (lv_sub hl [1, 2, 3, 0] rfl)
          · have hw := hw.2 c_46
            refine lv_aload_n hx hb dX7_readRule_49 rfl (lv_at hl 1 rfl) ?_
            refine lv_iconst (v := 1) hx hb dX7_readRule_50 (by decide) ?_
            refine lv_aload_n hx hb dX7_readRule_51 rfl (lv_at hl 1 rfl) ?_
            refine kget C h 0 rfl rfl inBX7 3 (Nat.le_of_ble_eq_true rfl) wi_fl_X7_69 rfl dX7_readRule_52 ?_
            refine kVv (As := [.int 1, .int (gI u_2 3)]) (rest := []) C h (cwV 2 hts (gd_V wi_ml_X7_83 wi_im_X7_bad wi_se_X7_bad wi_in_X7 wi_co_X7_bad) rfl rfl rfl hd_X7_bad ⟨Nat.le_of_ble_eq_true rfl, Nat.le_of_ble_eq_true rfl⟩) 0 rfl rfl rfl (mX7_bad l D cy am 1 (gI u_2 3) _ _ hw) rfl hl.1 rfl (Nat.le_of_ble_eq_true rfl) ⟨Nat.zero_le _, Nat.zero_le _⟩ dX7_readRule_55 (fun u_4 H locs hw h => ?_)
            refine lv_goto (tgt := 161) hx hb dX7_readRule_58 (by decide) ?_
            exact kX7_readRule_b161 C hr hlk g11 x1 x2 _ _ _ _ hw h (lv_sub hl [1, 2, 3] rfl)
def wX7_readRule_L11 (Q : ST → Prop) : Nat → Int32 → Int32 → ST → Prop
  | 0, _, _, _ => False
  | n + 1, x1, x2, u => wX7_readRule_B11 (wX7_readRule_L11 Q n) Q x1 x2 u
set_option maxHeartbeats 4000000 in
theorem kX7_readRule_L11 {p : Program} {l : Launch} {e : Env} {s : State} {m : MethodId} {args : Array Value} {below : List Frame} {meth : Method} {c : Code} {D : va_G} {cy : CY} {A : Nat → Prop} {am : Nat → Nat} {Q : ST → Prop} (C : kC p m c cX7_readRule 4 s args RX7 D cy A) (hr : meth.sig.returnType = none) (hlk : meth.locks = false) : ∀ n : Nat, ∀ (x1 : Int32) (x2 : Int32) (u : ST) (H : Heap) (locs : List Loc) (ls : Array Slot), wX7_readRule_L11 Q n x1 x2 u → kH D (mW cy am) A s u H locs → lv_has ls 4 [(0, .ref (am 0)), (1, .int x1), (2, .int x2)] → W p l e (kRm 3) s m args below meth c H locs 0 0 (MQ below (kQv D (mW cy am) cy A Q) args s 0 0 A) (F0 m 11 ls []) := by
  intro n
  induction n with
  | zero => intro x1 x2 u H locs ls hw; exact False.elim hw
  | succ n ih => exact kX7_readRule_B11 C hr hlk ih
def wX7_readRule (u : ST) (Q : ST → Prop) : Prop :=
  (∃ n : Nat, wX7_readRule_L11 Q n (256 + (gI u 15)) 0 u)
set_option maxHeartbeats 4000000 in
set_option maxRecDepth 100000 in
theorem mX7_readRule (l : Launch) (D : va_G) (cy : CY) (am : Nat → Nat) (u : ST) (sz : Nat) {Q : ST → Prop} (hw : wX7_readRule  u Q) : Met l yX7_readRule (wM yX7_readRule cX7_readRule 4 none) (kRm 3) (kPc D (mW cy am) cy u sz [.ref (am 0)]) (kQv D (mW cy am) cy (va_A (mW cy am u) sz) Q) 0 0 (va_A (mW cy am u) sz) := by
  refine kMet pn_X7_readRule (Nat.le_of_ble_eq_true rfl) (fun p e s m below meth c ls hsz C hr hlk hex h hl => ?_)
  have hl : lv_has ls 4 [(0, .ref (am 0))] := hl
  obtain ⟨⟨hx, hb, hml, hown, hts⟩, hK, hA⟩ := id C
  unfold wX7_readRule at hw
  have h : kH D (mW cy am) (va_A (mW cy am u) sz) s u s.heap [] := h
  refine lv_sipush (v := 256) hx hb dX7_readRule_0 (by decide) ?_
  refine lv_aload_n hx hb dX7_readRule_3 rfl (lv_at hl 0 rfl) ?_
  refine kget C h 0 rfl rfl inBX7 15 (Nat.le_of_ble_eq_true rfl) wi_fl_X7_103 rfl dX7_readRule_4 ?_
  refine lv_iadd hx hb dX7_readRule_7 ?_
  refine lv_istore_n (lv' := [(1, .int (256 + (gI u 15))), (0, .ref (am 0))]) hx hb dX7_readRule_8 rfl hl (by decide) rfl (fun ls hl => ?_)
  refine lv_iconst (v := 0) hx hb dX7_readRule_9 (by decide) ?_
  refine lv_istore_n (lv' := [(2, .int 0), (1, .int (256 + (gI u 15))), (0, .ref (am 0))]) hx hb dX7_readRule_10 rfl hl (by decide) rfl (fun ls hl => ?_)
  obtain ⟨n, hw⟩ := hw
  exact kX7_readRule_L11 C hr hlk n (256 + (gI u 15)) 0 _ _ _ _ hw h (lv_sub hl [2, 1, 0] rfl)

def wX7_take_B86 (K86 : Int32 → ST → Prop) (Q : ST → Prop) (x1 : Int32) (u : ST) : Prop :=
  (((gI u 12) ≤ x1 → Q (sI u 10 1)) ∧ (¬ (gI u 12) ≤ x1 → (vp_in (256 + x1) 512 ∧ (vp_in x1 512 ∧ (vp_in (256 + x1) 512 ∧ (vp_in x1 512 ∧ (vp_in (256 + x1) 512 ∧ (vp_in x1 512 ∧ K86 (x1 + 1) (sR (sR (sR u 7 x1.toNatClampNeg (gR u 7 (256 + x1).toNatClampNeg)) 8 x1.toNatClampNeg (gR (sR u 7 x1.toNatClampNeg (gR u 7 (256 + x1).toNatClampNeg)) 8 (256 + x1).toNatClampNeg)) 9 x1.toNatClampNeg (gR (sR (sR u 7 x1.toNatClampNeg (gR u 7 (256 + x1).toNatClampNeg)) 8 x1.toNatClampNeg (gR (sR u 7 x1.toNatClampNeg (gR u 7 (256 + x1).toNatClampNeg)) 8 (256 + x1).toNatClampNeg)) 9 (256 + x1).toNatClampNeg))))))))))
set_option maxHeartbeats 4000000 in
set_option maxRecDepth 100000 in
theorem kX7_take_B86 {p : Program} {l : Launch} {e : Env} {s : State} {m : MethodId} {args : Array Value} {below : List Frame} {meth : Method} {c : Code} {D : va_G} {cy : CY} {A : Nat → Prop} {am : Nat → Nat} {K86 : Int32 → ST → Prop} {Q : ST → Prop} (C : kC p m c cX7_take 2 s args RX7 D cy A) (hr : meth.sig.returnType = none) (hlk : meth.locks = false) (g86 : ∀ (x1 : Int32) (u : ST) (H : Heap) (locs : List Loc) (ls : Array Slot), K86 x1 u → kH D (mW cy am) A s u H locs → lv_has ls 2 [(0, .ref (am 0)), (1, .int x1)] → W p l e (kRm 0) s m args below meth c H locs 0 0 (MQ below (kQv D (mW cy am) cy A Q) args s 0 0 A) (F0 m 86 ls [])) : ∀ (x1 : Int32) (u : ST) (H : Heap) (locs : List Loc) (ls : Array Slot), wX7_take_B86 K86 Q x1 u → kH D (mW cy am) A s u H locs → lv_has ls 2 [(0, .ref (am 0)), (1, .int x1)] → W p l e (kRm 0) s m args below meth c H locs 0 0 (MQ below (kQv D (mW cy am) cy A Q) args s 0 0 A) (F0 m 86 ls []) := by
  intro x1 u H locs ls hw h hl
  obtain ⟨⟨hx, hb, hml, hown, hts⟩, hK, hA⟩ := id C
  unfold wX7_take_B86 at hw
  refine lv_iload_n hx hb dX7_take_86 rfl (lv_at hl 1 rfl) ?_
  refine lv_aload_n hx hb dX7_take_87 rfl (lv_at hl 0 rfl) ?_
  refine kget C h 0 rfl rfl inBX7 12 (Nat.le_of_ble_eq_true rfl) wi_fl_X7_119 rfl dX7_take_88 ?_
  refine lv_icmp_ge (tgt := 148) hx hb dX7_take_91 (by decide) (fun c_91 => ?_) (fun c_91 => ?_)
  · have hw := hw.1 c_91
    refine lv_aload_n hx hb dX7_take_148 rfl (lv_at hl 0 rfl) ?_
    refine lv_iconst (v := 1) hx hb dX7_take_149 (by decide) ?_
    refine kput C h 0 rfl rfl inBX7 tyX7_ok nmX7 10 (Nat.le_of_ble_eq_true rfl) wi_fl_X7_125 rfl rfl rfl (Nat.le_of_ble_eq_true rfl) (mS_10 cy am u 1) dX7_take_150 (fun H locs h => ?_)
    exact kretV C hr hlk h hw dX7_take_153
  · have hw := hw.2 c_91
    refine lv_aload_n hx hb dX7_take_94 rfl (lv_at hl 0 rfl) ?_
    refine kget C h 0 rfl rfl inBX7 7 (Nat.le_of_ble_eq_true rfl) wi_fl_X7_20 rfl dX7_take_95 ?_
    refine lv_iload_n hx hb dX7_take_98 rfl (lv_at hl 1 rfl) ?_
    refine lv_aload_n hx hb dX7_take_99 rfl (lv_at hl 0 rfl) ?_
    refine kget C h 0 rfl rfl inBX7 7 (Nat.le_of_ble_eq_true rfl) wi_fl_X7_20 rfl dX7_take_100 ?_
    refine lv_sipush (v := 256) hx hb dX7_take_103 (by decide) ?_
    refine lv_iload_n hx hb dX7_take_106 rfl (lv_at hl 1 rfl) ?_
    refine lv_iadd hx hb dX7_take_107 ?_
    obtain ⟨i_108, hw⟩ := hw
    refine kiald C h 4 rfl i_108 dX7_take_108 ?_
    obtain ⟨i_109, hw⟩ := hw
    refine kiast C h 4 rfl i_109 (mR_7 cy am u x1.toNatClampNeg (gR u 7 (256 + x1).toNatClampNeg)) dX7_take_109 (fun H locs h => ?_)
    refine lv_aload_n hx hb dX7_take_110 rfl (lv_at hl 0 rfl) ?_
    refine kget C h 0 rfl rfl inBX7 8 (Nat.le_of_ble_eq_true rfl) wi_fl_X7_23 rfl dX7_take_111 ?_
    refine lv_iload_n hx hb dX7_take_114 rfl (lv_at hl 1 rfl) ?_
    refine lv_aload_n hx hb dX7_take_115 rfl (lv_at hl 0 rfl) ?_
    refine kget C h 0 rfl rfl inBX7 8 (Nat.le_of_ble_eq_true rfl) wi_fl_X7_23 rfl dX7_take_116 ?_
    refine lv_sipush (v := 256) hx hb dX7_take_119 (by decide) ?_
    refine lv_iload_n hx hb dX7_take_122 rfl (lv_at hl 1 rfl) ?_
    refine lv_iadd hx hb dX7_take_123 ?_
    obtain ⟨i_124, hw⟩ := hw
    refine kiald C h 5 rfl i_124 dX7_take_124 ?_
    obtain ⟨i_125, hw⟩ := hw
    refine kiast C h 5 rfl i_125 (mR_8 cy am (sR u 7 x1.toNatClampNeg (gR u 7 (256 + x1).toNatClampNeg)) x1.toNatClampNeg (gR (sR u 7 x1.toNatClampNeg (gR u 7 (256 + x1).toNatClampNeg)) 8 (256 + x1).toNatClampNeg)) dX7_take_125 (fun H locs h => ?_)
    refine lv_aload_n hx hb dX7_take_126 rfl (lv_at hl 0 rfl) ?_
    refine kget C h 0 rfl rfl inBX7 9 (Nat.le_of_ble_eq_true rfl) wi_fl_X7_26 rfl dX7_take_127 ?_
    refine lv_iload_n hx hb dX7_take_130 rfl (lv_at hl 1 rfl) ?_
    refine lv_aload_n hx hb dX7_take_131 rfl (lv_at hl 0 rfl) ?_
    refine kget C h 0 rfl rfl inBX7 9 (Nat.le_of_ble_eq_true rfl) wi_fl_X7_26 rfl dX7_take_132 ?_
    refine lv_sipush (v := 256) hx hb dX7_take_135 (by decide) ?_
    refine lv_iload_n hx hb dX7_take_138 rfl (lv_at hl 1 rfl) ?_
    refine lv_iadd hx hb dX7_take_139 ?_
    obtain ⟨i_140, hw⟩ := hw
    refine kiald C h 6 rfl i_140 dX7_take_140 ?_
    obtain ⟨i_141, hw⟩ := hw
    refine kiast C h 6 rfl i_141 (mR_9 cy am (sR (sR u 7 x1.toNatClampNeg (gR u 7 (256 + x1).toNatClampNeg)) 8 x1.toNatClampNeg (gR (sR u 7 x1.toNatClampNeg (gR u 7 (256 + x1).toNatClampNeg)) 8 (256 + x1).toNatClampNeg)) x1.toNatClampNeg (gR (sR (sR u 7 x1.toNatClampNeg (gR u 7 (256 + x1).toNatClampNeg)) 8 x1.toNatClampNeg (gR (sR u 7 x1.toNatClampNeg (gR u 7 (256 + x1).toNatClampNeg)) 8 (256 + x1).toNatClampNeg)) 9 (256 + x1).toNatClampNeg)) dX7_take_141 (fun H locs h => ?_)
    refine lv_iinc (v := x1 + 1) (lv' := [(1, .int (x1 + 1)), (0, .ref (am 0))]) hx hb dX7_take_142 hl (k := 1) rfl rfl (by decide) rfl (fun ls hl => ?_)
    refine lv_goto (tgt := 86) hx hb dX7_take_145 (by decide) ?_
    exact g86 (x1 + 1) _ _ _ _ hw h (lv_sub hl [1, 0] rfl)
def wX7_take_L86 (Q : ST → Prop) : Nat → Int32 → ST → Prop
  | 0, _, _ => False
  | n + 1, x1, u => wX7_take_B86 (wX7_take_L86 Q n) Q x1 u
set_option maxHeartbeats 4000000 in
theorem kX7_take_L86 {p : Program} {l : Launch} {e : Env} {s : State} {m : MethodId} {args : Array Value} {below : List Frame} {meth : Method} {c : Code} {D : va_G} {cy : CY} {A : Nat → Prop} {am : Nat → Nat} {Q : ST → Prop} (C : kC p m c cX7_take 2 s args RX7 D cy A) (hr : meth.sig.returnType = none) (hlk : meth.locks = false) : ∀ n : Nat, ∀ (x1 : Int32) (u : ST) (H : Heap) (locs : List Loc) (ls : Array Slot), wX7_take_L86 Q n x1 u → kH D (mW cy am) A s u H locs → lv_has ls 2 [(0, .ref (am 0)), (1, .int x1)] → W p l e (kRm 0) s m args below meth c H locs 0 0 (MQ below (kQv D (mW cy am) cy A Q) args s 0 0 A) (F0 m 86 ls []) := by
  intro n
  induction n with
  | zero => intro x1 u H locs ls hw; exact False.elim hw
  | succ n ih => exact kX7_take_B86 C hr hlk ih
def wX7_take_B55 (K55 : Int32 → ST → Prop) (Q : ST → Prop) (x1 : Int32) (u : ST) : Prop :=
  ((800 ≤ x1 → (∃ n : Nat, wX7_take_L86 Q n 0 u)) ∧ (¬ 800 ≤ x1 → (vp_in (800 + x1) 1600 ∧ (vp_in x1 1600 ∧ K55 (x1 + 1) (sR u 5 x1.toNatClampNeg ((gR u 5 (800 + x1).toNatClampNeg : Int32).toInt8.toInt32))))))
set_option maxHeartbeats 4000000 in
set_option maxRecDepth 100000 in
theorem kX7_take_B55 {p : Program} {l : Launch} {e : Env} {s : State} {m : MethodId} {args : Array Value} {below : List Frame} {meth : Method} {c : Code} {D : va_G} {cy : CY} {A : Nat → Prop} {am : Nat → Nat} {K55 : Int32 → ST → Prop} {Q : ST → Prop} (C : kC p m c cX7_take 2 s args RX7 D cy A) (hr : meth.sig.returnType = none) (hlk : meth.locks = false) (g55 : ∀ (x1 : Int32) (u : ST) (H : Heap) (locs : List Loc) (ls : Array Slot), K55 x1 u → kH D (mW cy am) A s u H locs → lv_has ls 2 [(0, .ref (am 0)), (1, .int x1)] → W p l e (kRm 0) s m args below meth c H locs 0 0 (MQ below (kQv D (mW cy am) cy A Q) args s 0 0 A) (F0 m 55 ls [])) : ∀ (x1 : Int32) (u : ST) (H : Heap) (locs : List Loc) (ls : Array Slot), wX7_take_B55 K55 Q x1 u → kH D (mW cy am) A s u H locs → lv_has ls 2 [(0, .ref (am 0)), (1, .int x1)] → W p l e (kRm 0) s m args below meth c H locs 0 0 (MQ below (kQv D (mW cy am) cy A Q) args s 0 0 A) (F0 m 55 ls []) := by
  intro x1 u H locs ls hw h hl
  obtain ⟨⟨hx, hb, hml, hown, hts⟩, hK, hA⟩ := id C
  unfold wX7_take_B55 at hw
  refine lv_iload_n hx hb dX7_take_55 rfl (lv_at hl 1 rfl) ?_
  refine lv_sipush (v := 800) hx hb dX7_take_56 (by decide) ?_
  refine lv_icmp_ge (tgt := 84) hx hb dX7_take_59 (by decide) (fun c_59 => ?_) (fun c_59 => ?_)
  · have hw := hw.1 c_59
    refine lv_iconst (v := 0) hx hb dX7_take_84 (by decide) ?_
    refine lv_istore_n (lv' := [(1, .int 0), (0, .ref (am 0))]) hx hb dX7_take_85 rfl hl (by decide) rfl (fun ls hl => ?_)
    obtain ⟨n, hw⟩ := hw
    exact kX7_take_L86 C hr hlk n 0 _ _ _ _ hw h (lv_sub hl [1, 0] rfl)
  · have hw := hw.2 c_59
    refine lv_aload_n hx hb dX7_take_62 rfl (lv_at hl 0 rfl) ?_
    refine kget C h 0 rfl rfl inBX7 5 (Nat.le_of_ble_eq_true rfl) wi_fl_X7_13 rfl dX7_take_63 ?_
    refine lv_iload_n hx hb dX7_take_66 rfl (lv_at hl 1 rfl) ?_
    refine lv_aload_n hx hb dX7_take_67 rfl (lv_at hl 0 rfl) ?_
    refine kget C h 0 rfl rfl inBX7 5 (Nat.le_of_ble_eq_true rfl) wi_fl_X7_13 rfl dX7_take_68 ?_
    refine lv_sipush (v := 800) hx hb dX7_take_71 (by decide) ?_
    refine lv_iload_n hx hb dX7_take_74 rfl (lv_at hl 1 rfl) ?_
    refine lv_iadd hx hb dX7_take_75 ?_
    obtain ⟨i_76, hw⟩ := hw
    refine kbald C h 2 rfl i_76 dX7_take_76 ?_
    obtain ⟨i_77, hw⟩ := hw
    refine kbast C h 2 rfl i_77 (mR_5 cy am u x1.toNatClampNeg ((gR u 5 (800 + x1).toNatClampNeg : Int32).toInt8.toInt32)) dX7_take_77 (fun H locs h => ?_)
    refine lv_iinc (v := x1 + 1) (lv' := [(1, .int (x1 + 1)), (0, .ref (am 0))]) hx hb dX7_take_78 hl (k := 1) rfl rfl (by decide) rfl (fun ls hl => ?_)
    refine lv_goto (tgt := 55) hx hb dX7_take_81 (by decide) ?_
    exact g55 (x1 + 1) _ _ _ _ hw h (lv_sub hl [1, 0] rfl)
def wX7_take_L55 (Q : ST → Prop) : Nat → Int32 → ST → Prop
  | 0, _, _ => False
  | n + 1, x1, u => wX7_take_B55 (wX7_take_L55 Q n) Q x1 u
set_option maxHeartbeats 4000000 in
theorem kX7_take_L55 {p : Program} {l : Launch} {e : Env} {s : State} {m : MethodId} {args : Array Value} {below : List Frame} {meth : Method} {c : Code} {D : va_G} {cy : CY} {A : Nat → Prop} {am : Nat → Nat} {Q : ST → Prop} (C : kC p m c cX7_take 2 s args RX7 D cy A) (hr : meth.sig.returnType = none) (hlk : meth.locks = false) : ∀ n : Nat, ∀ (x1 : Int32) (u : ST) (H : Heap) (locs : List Loc) (ls : Array Slot), wX7_take_L55 Q n x1 u → kH D (mW cy am) A s u H locs → lv_has ls 2 [(0, .ref (am 0)), (1, .int x1)] → W p l e (kRm 0) s m args below meth c H locs 0 0 (MQ below (kQv D (mW cy am) cy A Q) args s 0 0 A) (F0 m 55 ls []) := by
  intro n
  induction n with
  | zero => intro x1 u H locs ls hw; exact False.elim hw
  | succ n ih => exact kX7_take_B55 C hr hlk ih
def wX7_take_B26 (K26 : Int32 → ST → Prop) (Q : ST → Prop) (x1 : Int32) (u : ST) : Prop :=
  ((80 ≤ x1 → (∃ n : Nat, wX7_take_L55 Q n 0 u)) ∧ (¬ 80 ≤ x1 → (vp_in (80 + x1) 160 ∧ (vp_in x1 160 ∧ K26 (x1 + 1) (sR u 6 x1.toNatClampNeg (gR u 6 (80 + x1).toNatClampNeg))))))
set_option maxHeartbeats 4000000 in
set_option maxRecDepth 100000 in
theorem kX7_take_B26 {p : Program} {l : Launch} {e : Env} {s : State} {m : MethodId} {args : Array Value} {below : List Frame} {meth : Method} {c : Code} {D : va_G} {cy : CY} {A : Nat → Prop} {am : Nat → Nat} {K26 : Int32 → ST → Prop} {Q : ST → Prop} (C : kC p m c cX7_take 2 s args RX7 D cy A) (hr : meth.sig.returnType = none) (hlk : meth.locks = false) (g26 : ∀ (x1 : Int32) (u : ST) (H : Heap) (locs : List Loc) (ls : Array Slot), K26 x1 u → kH D (mW cy am) A s u H locs → lv_has ls 2 [(0, .ref (am 0)), (1, .int x1)] → W p l e (kRm 0) s m args below meth c H locs 0 0 (MQ below (kQv D (mW cy am) cy A Q) args s 0 0 A) (F0 m 26 ls [])) : ∀ (x1 : Int32) (u : ST) (H : Heap) (locs : List Loc) (ls : Array Slot), wX7_take_B26 K26 Q x1 u → kH D (mW cy am) A s u H locs → lv_has ls 2 [(0, .ref (am 0)), (1, .int x1)] → W p l e (kRm 0) s m args below meth c H locs 0 0 (MQ below (kQv D (mW cy am) cy A Q) args s 0 0 A) (F0 m 26 ls []) := by
  intro x1 u H locs ls hw h hl
  obtain ⟨⟨hx, hb, hml, hown, hts⟩, hK, hA⟩ := id C
  unfold wX7_take_B26 at hw
  refine lv_iload_n hx hb dX7_take_26 rfl (lv_at hl 1 rfl) ?_
  refine lv_bipush (v := 80) hx hb dX7_take_27 (by decide) ?_
  refine lv_icmp_ge (tgt := 53) hx hb dX7_take_29 (by decide) (fun c_29 => ?_) (fun c_29 => ?_)
  · have hw := hw.1 c_29
    refine lv_iconst (v := 0) hx hb dX7_take_53 (by decide) ?_
    refine lv_istore_n (lv' := [(1, .int 0), (0, .ref (am 0))]) hx hb dX7_take_54 rfl hl (by decide) rfl (fun ls hl => ?_)
    obtain ⟨n, hw⟩ := hw
    exact kX7_take_L55 C hr hlk n 0 _ _ _ _ hw h (lv_sub hl [1, 0] rfl)
  · have hw := hw.2 c_29
    refine lv_aload_n hx hb dX7_take_32 rfl (lv_at hl 0 rfl) ?_
    refine kget C h 0 rfl rfl inBX7 6 (Nat.le_of_ble_eq_true rfl) wi_fl_X7_16 rfl dX7_take_33 ?_
    refine lv_iload_n hx hb dX7_take_36 rfl (lv_at hl 1 rfl) ?_
    refine lv_aload_n hx hb dX7_take_37 rfl (lv_at hl 0 rfl) ?_
    refine kget C h 0 rfl rfl inBX7 6 (Nat.le_of_ble_eq_true rfl) wi_fl_X7_16 rfl dX7_take_38 ?_
    refine lv_bipush (v := 80) hx hb dX7_take_41 (by decide) ?_
    refine lv_iload_n hx hb dX7_take_43 rfl (lv_at hl 1 rfl) ?_
    refine lv_iadd hx hb dX7_take_44 ?_
    obtain ⟨i_45, hw⟩ := hw
    refine kiald C h 3 rfl i_45 dX7_take_45 ?_
    obtain ⟨i_46, hw⟩ := hw
    refine kiast C h 3 rfl i_46 (mR_6 cy am u x1.toNatClampNeg (gR u 6 (80 + x1).toNatClampNeg)) dX7_take_46 (fun H locs h => ?_)
    refine lv_iinc (v := x1 + 1) (lv' := [(1, .int (x1 + 1)), (0, .ref (am 0))]) hx hb dX7_take_47 hl (k := 1) rfl rfl (by decide) rfl (fun ls hl => ?_)
    refine lv_goto (tgt := 26) hx hb dX7_take_50 (by decide) ?_
    exact g26 (x1 + 1) _ _ _ _ hw h (lv_sub hl [1, 0] rfl)
def wX7_take_L26 (Q : ST → Prop) : Nat → Int32 → ST → Prop
  | 0, _, _ => False
  | n + 1, x1, u => wX7_take_B26 (wX7_take_L26 Q n) Q x1 u
set_option maxHeartbeats 4000000 in
theorem kX7_take_L26 {p : Program} {l : Launch} {e : Env} {s : State} {m : MethodId} {args : Array Value} {below : List Frame} {meth : Method} {c : Code} {D : va_G} {cy : CY} {A : Nat → Prop} {am : Nat → Nat} {Q : ST → Prop} (C : kC p m c cX7_take 2 s args RX7 D cy A) (hr : meth.sig.returnType = none) (hlk : meth.locks = false) : ∀ n : Nat, ∀ (x1 : Int32) (u : ST) (H : Heap) (locs : List Loc) (ls : Array Slot), wX7_take_L26 Q n x1 u → kH D (mW cy am) A s u H locs → lv_has ls 2 [(0, .ref (am 0)), (1, .int x1)] → W p l e (kRm 0) s m args below meth c H locs 0 0 (MQ below (kQv D (mW cy am) cy A Q) args s 0 0 A) (F0 m 26 ls []) := by
  intro n
  induction n with
  | zero => intro x1 u H locs ls hw; exact False.elim hw
  | succ n ih => exact kX7_take_B26 C hr hlk ih
def wX7_take (u : ST) (Q : ST → Prop) : Prop :=
  (∃ n : Nat, wX7_take_L26 Q n 0 (sI (sI (sI u 11 (gI u 14)) 12 (gI (sI u 11 (gI u 14)) 15)) 13 (gI (sI (sI u 11 (gI u 14)) 12 (gI (sI u 11 (gI u 14)) 15)) 16)))
set_option maxHeartbeats 4000000 in
set_option maxRecDepth 100000 in
theorem mX7_take (l : Launch) (D : va_G) (cy : CY) (am : Nat → Nat) (u : ST) (sz : Nat) {Q : ST → Prop} (hw : wX7_take  u Q) : Met l yX7_take (wM yX7_take cX7_take 2 none) (kRm 0) (kPc D (mW cy am) cy u sz [.ref (am 0)]) (kQv D (mW cy am) cy (va_A (mW cy am u) sz) Q) 0 0 (va_A (mW cy am u) sz) := by
  refine kMet pn_X7_take (Nat.le_of_ble_eq_true rfl) (fun p e s m below meth c ls hsz C hr hlk hex h hl => ?_)
  have hl : lv_has ls 2 [(0, .ref (am 0))] := hl
  obtain ⟨⟨hx, hb, hml, hown, hts⟩, hK, hA⟩ := id C
  unfold wX7_take at hw
  have h : kH D (mW cy am) (va_A (mW cy am u) sz) s u s.heap [] := h
  refine lv_aload_n hx hb dX7_take_0 rfl (lv_at hl 0 rfl) ?_
  refine lv_aload_n hx hb dX7_take_1 rfl (lv_at hl 0 rfl) ?_
  refine kget C h 0 rfl rfl inBX7 14 (Nat.le_of_ble_eq_true rfl) wi_fl_X7_93 rfl dX7_take_2 ?_
  refine kput C h 0 rfl rfl inBX7 tyX7_ok nmX7 11 (Nat.le_of_ble_eq_true rfl) wi_fl_X7_116 rfl rfl rfl (Nat.le_of_ble_eq_true rfl) (mS_11 cy am u (gI u 14)) dX7_take_5 (fun H locs h => ?_)
  refine lv_aload_n hx hb dX7_take_8 rfl (lv_at hl 0 rfl) ?_
  refine lv_aload_n hx hb dX7_take_9 rfl (lv_at hl 0 rfl) ?_
  refine kget C h 0 rfl rfl inBX7 15 (Nat.le_of_ble_eq_true rfl) wi_fl_X7_103 rfl dX7_take_10 ?_
  refine kput C h 0 rfl rfl inBX7 tyX7_ok nmX7 12 (Nat.le_of_ble_eq_true rfl) wi_fl_X7_119 rfl rfl rfl (Nat.le_of_ble_eq_true rfl) (mS_12 cy am (sI u 11 (gI u 14)) (gI (sI u 11 (gI u 14)) 15)) dX7_take_13 (fun H locs h => ?_)
  refine lv_aload_n hx hb dX7_take_16 rfl (lv_at hl 0 rfl) ?_
  refine lv_aload_n hx hb dX7_take_17 rfl (lv_at hl 0 rfl) ?_
  refine kget C h 0 rfl rfl inBX7 16 (Nat.le_of_ble_eq_true rfl) wi_fl_X7_109 rfl dX7_take_18 ?_
  refine kput C h 0 rfl rfl inBX7 tyX7_ok nmX7 13 (Nat.le_of_ble_eq_true rfl) wi_fl_X7_122 rfl rfl rfl (Nat.le_of_ble_eq_true rfl) (mS_13 cy am (sI (sI u 11 (gI u 14)) 12 (gI (sI u 11 (gI u 14)) 15)) (gI (sI (sI u 11 (gI u 14)) 12 (gI (sI u 11 (gI u 14)) 15)) 16)) dX7_take_21 (fun H locs h => ?_)
  refine lv_iconst (v := 0) hx hb dX7_take_24 (by decide) ?_
  refine lv_istore_n (lv' := [(1, .int 0), (0, .ref (am 0))]) hx hb dX7_take_25 rfl hl (by decide) rfl (fun ls hl => ?_)
  obtain ⟨n, hw⟩ := hw
  exact kX7_take_L26 C hr hlk n 0 _ _ _ _ hw h (lv_sub hl [1, 0] rfl)

def wX7_allCases (u : ST) (Q : Int32 → ST → Prop) : Prop :=
  Q (1 <<< ((gI u 11) &&& 31)) u
set_option maxHeartbeats 4000000 in
set_option maxRecDepth 100000 in
theorem mX7_allCases (l : Launch) (D : va_G) (cy : CY) (am : Nat → Nat) (u : ST) (sz : Nat) {Q : Int32 → ST → Prop} (hw : wX7_allCases  u Q) : Met l yX7_allCases (wM yX7_allCases cX7_allCases 1 (some .int)) (kRm 0) (kPc D (mW cy am) cy u sz [.ref (am 0)]) (kQi D (mW cy am) cy (va_A (mW cy am u) sz) Q) 0 0 (va_A (mW cy am u) sz) := by
  refine kMet pn_X7_allCases (Nat.le_of_ble_eq_true rfl) (fun p e s m below meth c ls hsz C hr hlk hex h hl => ?_)
  have hl : lv_has ls 1 [(0, .ref (am 0))] := hl
  obtain ⟨⟨hx, hb, hml, hown, hts⟩, hK, hA⟩ := id C
  unfold wX7_allCases at hw
  have h : kH D (mW cy am) (va_A (mW cy am u) sz) s u s.heap [] := h
  refine lv_iconst (v := 1) hx hb dX7_allCases_0 (by decide) ?_
  refine lv_aload_n hx hb dX7_allCases_1 rfl (lv_at hl 0 rfl) ?_
  refine kget C h 0 rfl rfl inBX7 11 (Nat.le_of_ble_eq_true rfl) wi_fl_X7_116 rfl dX7_allCases_2 ?_
  refine lv_ishl hx hb dX7_allCases_5 ?_
  exact kretI C hr hlk h hw dX7_allCases_6

def wX7_isMet (x1 : Int32) (x2 : Int32) (u : ST) (Q : Int32 → ST → Prop) : Prop :=
  (vp_in x1 512 ∧ (vp_in x1 512 ∧ ((¬ (x2 &&& (gR u 7 x1.toNatClampNeg)) = (gR u 7 x1.toNatClampNeg) → Q 0 u) ∧ ((x2 &&& (gR u 7 x1.toNatClampNeg)) = (gR u 7 x1.toNatClampNeg) → (vp_in x1 512 ∧ ((¬ (x2 &&& (gR u 8 x1.toNatClampNeg)) = 0 → Q 0 u) ∧ ((x2 &&& (gR u 8 x1.toNatClampNeg)) = 0 → Q 1 u)))))))
set_option maxHeartbeats 4000000 in
set_option maxRecDepth 100000 in
theorem mX7_isMet (l : Launch) (D : va_G) (cy : CY) (am : Nat → Nat) (x1 : Int32) (x2 : Int32) (u : ST) (sz : Nat) {Q : Int32 → ST → Prop} (hw : wX7_isMet x1 x2 u Q) : Met l yX7_isMet (wM yX7_isMet cX7_isMet 3 (some .boolean)) (kRm 0) (kPc D (mW cy am) cy u sz [.ref (am 0), .int x1, .int x2]) (kQi D (mW cy am) cy (va_A (mW cy am u) sz) Q) 0 0 (va_A (mW cy am u) sz) := by
  refine kMet pn_X7_isMet (Nat.le_of_ble_eq_true rfl) (fun p e s m below meth c ls hsz C hr hlk hex h hl => ?_)
  have hl : lv_has ls 3 [(0, .ref (am 0)), (1, .int x1), (2, .int x2)] := hl
  obtain ⟨⟨hx, hb, hml, hown, hts⟩, hK, hA⟩ := id C
  unfold wX7_isMet at hw
  have h : kH D (mW cy am) (va_A (mW cy am u) sz) s u s.heap [] := h
  refine lv_iload_n hx hb dX7_isMet_0 rfl (lv_at hl 2 rfl) ?_
  refine lv_aload_n hx hb dX7_isMet_1 rfl (lv_at hl 0 rfl) ?_
  refine kget C h 0 rfl rfl inBX7 7 (Nat.le_of_ble_eq_true rfl) wi_fl_X7_20 rfl dX7_isMet_2 ?_
  refine lv_iload_n hx hb dX7_isMet_5 rfl (lv_at hl 1 rfl) ?_
  obtain ⟨i_6, hw⟩ := hw
  refine kiald C h 4 rfl i_6 dX7_isMet_6 ?_
  refine lv_iand hx hb dX7_isMet_7 ?_
  refine lv_aload_n hx hb dX7_isMet_8 rfl (lv_at hl 0 rfl) ?_
  refine kget C h 0 rfl rfl inBX7 7 (Nat.le_of_ble_eq_true rfl) wi_fl_X7_20 rfl dX7_isMet_9 ?_
  refine lv_iload_n hx hb dX7_isMet_12 rfl (lv_at hl 1 rfl) ?_
  obtain ⟨i_13, hw⟩ := hw
  refine kiald C h 4 rfl i_13 dX7_isMet_13 ?_
  refine lv_icmp_ne (tgt := 32) hx hb dX7_isMet_14 (by decide) (fun c_14 => ?_) (fun c_14 => ?_)
  · have hw := hw.1 c_14
    refine lv_iconst (v := 0) hx hb dX7_isMet_32 (by decide) ?_
    exact kretZ C hr hlk h (Or.inl rfl) hw dX7_isMet_33
  · have hw := hw.2 c_14
    refine lv_iload_n hx hb dX7_isMet_17 rfl (lv_at hl 2 rfl) ?_
    refine lv_aload_n hx hb dX7_isMet_18 rfl (lv_at hl 0 rfl) ?_
    refine kget C h 0 rfl rfl inBX7 8 (Nat.le_of_ble_eq_true rfl) wi_fl_X7_23 rfl dX7_isMet_19 ?_
    refine lv_iload_n hx hb dX7_isMet_22 rfl (lv_at hl 1 rfl) ?_
    obtain ⟨i_23, hw⟩ := hw
    refine kiald C h 5 rfl i_23 dX7_isMet_23 ?_
    refine lv_iand hx hb dX7_isMet_24 ?_
    refine lv_if_ne (tgt := 32) hx hb dX7_isMet_25 (by decide) (fun c_25 => ?_) (fun c_25 => ?_)
    · have hw := hw.1 c_25
      refine lv_iconst (v := 0) hx hb dX7_isMet_32 (by decide) ?_
      exact kretZ C hr hlk h (Or.inl rfl) hw dX7_isMet_33
    · have hw := hw.2 c_25
      refine lv_iconst (v := 1) hx hb dX7_isMet_28 (by decide) ?_
      refine lv_goto (tgt := 33) hx hb dX7_isMet_29 (by decide) ?_
      exact kretZ C hr hlk h (Or.inr rfl) hw dX7_isMet_33

def wX7_firstMet_b25 (Q : Int32 → ST → Prop) (x2 : Int32) (u : ST) : Prop :=
  (((gI u 12) ≤ x2 → Q (-1) u) ∧ (¬ (gI u 12) ≤ x2 → Q x2 u))
set_option maxHeartbeats 4000000 in
set_option maxRecDepth 100000 in
theorem kX7_firstMet_b25 {p : Program} {l : Launch} {e : Env} {s : State} {m : MethodId} {args : Array Value} {below : List Frame} {meth : Method} {c : Code} {D : va_G} {cy : CY} {A : Nat → Prop} {am : Nat → Nat} {Q : Int32 → ST → Prop} (C : kC p m c cX7_firstMet 3 s args RX7 D cy A) (hr : meth.sig.returnType = some .int) (hlk : meth.locks = false) : ∀ (x2 : Int32) (u : ST) (H : Heap) (locs : List Loc) (ls : Array Slot), wX7_firstMet_b25 Q x2 u → kH D (mW cy am) A s u H locs → lv_has ls 3 [(0, .ref (am 0)), (2, .int x2)] → W p l e (kRm 1) s m args below meth c H locs 0 0 (MQ below (kQi D (mW cy am) cy A Q) args s 0 0 A) (F0 m 25 ls []) := by
  intro x2 u H locs ls hw h hl
  obtain ⟨⟨hx, hb, hml, hown, hts⟩, hK, hA⟩ := id C
  unfold wX7_firstMet_b25 at hw
  refine lv_iload_n hx hb dX7_firstMet_25 rfl (lv_at hl 1 rfl) ?_
  refine lv_aload_n hx hb dX7_firstMet_26 rfl (lv_at hl 0 rfl) ?_
  refine kget C h 0 rfl rfl inBX7 12 (Nat.le_of_ble_eq_true rfl) wi_fl_X7_119 rfl dX7_firstMet_27 ?_
  refine lv_icmp_ge (tgt := 37) hx hb dX7_firstMet_30 (by decide) (fun c_30 => ?_) (fun c_30 => ?_)
  · have hw := hw.1 c_30
    refine lv_iconst (v := (-1)) hx hb dX7_firstMet_37 (by decide) ?_
    exact kretI C hr hlk h hw dX7_firstMet_38
  · have hw := hw.2 c_30
    refine lv_iload_n hx hb dX7_firstMet_33 rfl (lv_at hl 1 rfl) ?_
    refine lv_goto (tgt := 38) hx hb dX7_firstMet_34 (by decide) ?_
    exact kretI C hr hlk h hw dX7_firstMet_38
def wX7_firstMet_B2 (K2 : Int32 → Int32 → ST → Prop) (Q : Int32 → ST → Prop) (x1 : Int32) (x2 : Int32) (u : ST) : Prop :=
  (((gI u 12) ≤ x2 → wX7_firstMet_b25 Q x2 u) ∧ (¬ (gI u 12) ≤ x2 → wX7_isMet x2 x1 u (fun r_1 u_2 => ((¬ r_1 = 0 → wX7_firstMet_b25 Q x2 u_2) ∧ (r_1 = 0 → K2 x1 (x2 + 1) u_2)))))
set_option maxHeartbeats 4000000 in
set_option maxRecDepth 100000 in
theorem kX7_firstMet_B2 {p : Program} {l : Launch} {e : Env} {s : State} {m : MethodId} {args : Array Value} {below : List Frame} {meth : Method} {c : Code} {D : va_G} {cy : CY} {A : Nat → Prop} {am : Nat → Nat} {K2 : Int32 → Int32 → ST → Prop} {Q : Int32 → ST → Prop} (C : kC p m c cX7_firstMet 3 s args RX7 D cy A) (hr : meth.sig.returnType = some .int) (hlk : meth.locks = false) (g2 : ∀ (x1 : Int32) (x2 : Int32) (u : ST) (H : Heap) (locs : List Loc) (ls : Array Slot), K2 x1 x2 u → kH D (mW cy am) A s u H locs → lv_has ls 3 [(0, .ref (am 0)), (1, .int x1), (2, .int x2)] → W p l e (kRm 1) s m args below meth c H locs 0 0 (MQ below (kQi D (mW cy am) cy A Q) args s 0 0 A) (F0 m 2 ls [])) : ∀ (x1 : Int32) (x2 : Int32) (u : ST) (H : Heap) (locs : List Loc) (ls : Array Slot), wX7_firstMet_B2 K2 Q x1 x2 u → kH D (mW cy am) A s u H locs → lv_has ls 3 [(0, .ref (am 0)), (1, .int x1), (2, .int x2)] → W p l e (kRm 1) s m args below meth c H locs 0 0 (MQ below (kQi D (mW cy am) cy A Q) args s 0 0 A) (F0 m 2 ls []) := by
  intro x1 x2 u H locs ls hw h hl
  obtain ⟨⟨hx, hb, hml, hown, hts⟩, hK, hA⟩ := id C
  unfold wX7_firstMet_B2 at hw
  refine lv_iload_n hx hb dX7_firstMet_2 rfl (lv_at hl 2 rfl) ?_
  refine lv_aload_n hx hb dX7_firstMet_3 rfl (lv_at hl 0 rfl) ?_
  refine kget C h 0 rfl rfl inBX7 12 (Nat.le_of_ble_eq_true rfl) wi_fl_X7_119 rfl dX7_firstMet_4 ?_
  refine lv_icmp_ge (tgt := 25) hx hb dX7_firstMet_7 (by decide) (fun c_7 => ?_) (fun c_7 => ?_)
  · have hw := hw.1 c_7
    exact kX7_firstMet_b25 C hr hlk x2 _ _ _ _ hw h (lv_sub hl [0, 2] rfl)
  · have hw := hw.2 c_7
    refine lv_aload_n hx hb dX7_firstMet_10 rfl (lv_at hl 0 rfl) ?_
    refine lv_iload_n hx hb dX7_firstMet_11 rfl (lv_at hl 2 rfl) ?_
    refine lv_iload_n hx hb dX7_firstMet_12 rfl (lv_at hl 1 rfl) ?_
    refine kVi (As := [.int x2, .int x1]) (rest := []) C h (cwV 2 hts (gd_V wi_ml_X7_141 wi_im_X7_isMet wi_se_X7_isMet wi_in_X7 wi_co_X7_isMet) rfl rfl rfl hd_X7_isMet ⟨Nat.le_of_ble_eq_true rfl, Nat.le_of_ble_eq_true rfl⟩) 0 rfl rfl rfl (mX7_isMet l D cy am x2 x1 _ _ hw) rfl hl.1 rfl (Nat.le_of_ble_eq_true rfl) ⟨Nat.zero_le _, Nat.zero_le _⟩ dX7_firstMet_13 (fun r_1 u_2 H locs hw h => ?_)
    refine lv_if_ne (tgt := 25) hx hb dX7_firstMet_16 (by decide) (fun c_16 => ?_) (fun c_16 => ?_)
    · have hw := hw.1 c_16
      exact kX7_firstMet_b25 C hr hlk x2 _ _ _ _ hw h (lv_sub hl [0, 2] rfl)
    · have hw := hw.2 c_16
      refine lv_iinc (v := x2 + 1) (lv' := [(2, .int (x2 + 1)), (0, .ref (am 0)), (1, .int x1)]) hx hb dX7_firstMet_19 hl (k := 2) rfl rfl (by decide) rfl (fun ls hl => ?_)
      refine lv_goto (tgt := 2) hx hb dX7_firstMet_22 (by decide) ?_
      exact g2 x1 (x2 + 1) _ _ _ _ hw h (lv_sub hl [1, 2, 0] rfl)
def wX7_firstMet_L2 (Q : Int32 → ST → Prop) : Nat → Int32 → Int32 → ST → Prop
  | 0, _, _, _ => False
  | n + 1, x1, x2, u => wX7_firstMet_B2 (wX7_firstMet_L2 Q n) Q x1 x2 u
set_option maxHeartbeats 4000000 in
theorem kX7_firstMet_L2 {p : Program} {l : Launch} {e : Env} {s : State} {m : MethodId} {args : Array Value} {below : List Frame} {meth : Method} {c : Code} {D : va_G} {cy : CY} {A : Nat → Prop} {am : Nat → Nat} {Q : Int32 → ST → Prop} (C : kC p m c cX7_firstMet 3 s args RX7 D cy A) (hr : meth.sig.returnType = some .int) (hlk : meth.locks = false) : ∀ n : Nat, ∀ (x1 : Int32) (x2 : Int32) (u : ST) (H : Heap) (locs : List Loc) (ls : Array Slot), wX7_firstMet_L2 Q n x1 x2 u → kH D (mW cy am) A s u H locs → lv_has ls 3 [(0, .ref (am 0)), (1, .int x1), (2, .int x2)] → W p l e (kRm 1) s m args below meth c H locs 0 0 (MQ below (kQi D (mW cy am) cy A Q) args s 0 0 A) (F0 m 2 ls []) := by
  intro n
  induction n with
  | zero => intro x1 x2 u H locs ls hw; exact False.elim hw
  | succ n ih => exact kX7_firstMet_B2 C hr hlk ih
def wX7_firstMet (x1 : Int32) (u : ST) (Q : Int32 → ST → Prop) : Prop :=
  (∃ n : Nat, wX7_firstMet_L2 Q n x1 0 u)
set_option maxHeartbeats 4000000 in
set_option maxRecDepth 100000 in
theorem mX7_firstMet (l : Launch) (D : va_G) (cy : CY) (am : Nat → Nat) (x1 : Int32) (u : ST) (sz : Nat) {Q : Int32 → ST → Prop} (hw : wX7_firstMet x1 u Q) : Met l yX7_firstMet (wM yX7_firstMet cX7_firstMet 3 (some .int)) (kRm 1) (kPc D (mW cy am) cy u sz [.ref (am 0), .int x1]) (kQi D (mW cy am) cy (va_A (mW cy am u) sz) Q) 0 0 (va_A (mW cy am u) sz) := by
  refine kMet pn_X7_firstMet (Nat.le_of_ble_eq_true rfl) (fun p e s m below meth c ls hsz C hr hlk hex h hl => ?_)
  have hl : lv_has ls 3 [(0, .ref (am 0)), (1, .int x1)] := hl
  obtain ⟨⟨hx, hb, hml, hown, hts⟩, hK, hA⟩ := id C
  unfold wX7_firstMet at hw
  have h : kH D (mW cy am) (va_A (mW cy am u) sz) s u s.heap [] := h
  refine lv_iconst (v := 0) hx hb dX7_firstMet_0 (by decide) ?_
  refine lv_istore_n (lv' := [(2, .int 0), (0, .ref (am 0)), (1, .int x1)]) hx hb dX7_firstMet_1 rfl hl (by decide) rfl (fun ls hl => ?_)
  obtain ⟨n, hw⟩ := hw
  exact kX7_firstMet_L2 C hr hlk n x1 0 _ _ _ _ hw h (lv_sub hl [1, 2, 0] rfl)

def wX7_canMeet (x1 : Int32) (x2 : Int32) (x3 : Int32) (u : ST) (Q : Int32 → ST → Prop) : Prop :=
  (vp_in x1 512 ∧ ((¬ ((gR u 8 x1.toNatClampNeg) &&& x2) = 0 → Q 0 u) ∧ (((gR u 8 x1.toNatClampNeg) &&& x2) = 0 → (vp_in x1 512 ∧ ((¬ ((gR u 7 x1.toNatClampNeg) &&& x3) = 0 → Q 0 u) ∧ (((gR u 7 x1.toNatClampNeg) &&& x3) = 0 → Q 1 u))))))
set_option maxHeartbeats 4000000 in
set_option maxRecDepth 100000 in
theorem mX7_canMeet (l : Launch) (D : va_G) (cy : CY) (am : Nat → Nat) (x1 : Int32) (x2 : Int32) (x3 : Int32) (u : ST) (sz : Nat) {Q : Int32 → ST → Prop} (hw : wX7_canMeet x1 x2 x3 u Q) : Met l yX7_canMeet (wM yX7_canMeet cX7_canMeet 4 (some .boolean)) (kRm 0) (kPc D (mW cy am) cy u sz [.ref (am 0), .int x1, .int x2, .int x3]) (kQi D (mW cy am) cy (va_A (mW cy am u) sz) Q) 0 0 (va_A (mW cy am u) sz) := by
  refine kMet pn_X7_canMeet (Nat.le_of_ble_eq_true rfl) (fun p e s m below meth c ls hsz C hr hlk hex h hl => ?_)
  have hl : lv_has ls 4 [(0, .ref (am 0)), (1, .int x1), (2, .int x2), (3, .int x3)] := hl
  obtain ⟨⟨hx, hb, hml, hown, hts⟩, hK, hA⟩ := id C
  unfold wX7_canMeet at hw
  have h : kH D (mW cy am) (va_A (mW cy am u) sz) s u s.heap [] := h
  refine lv_aload_n hx hb dX7_canMeet_0 rfl (lv_at hl 0 rfl) ?_
  refine kget C h 0 rfl rfl inBX7 8 (Nat.le_of_ble_eq_true rfl) wi_fl_X7_23 rfl dX7_canMeet_1 ?_
  refine lv_iload_n hx hb dX7_canMeet_4 rfl (lv_at hl 1 rfl) ?_
  obtain ⟨i_5, hw⟩ := hw
  refine kiald C h 5 rfl i_5 dX7_canMeet_5 ?_
  refine lv_iload_n hx hb dX7_canMeet_6 rfl (lv_at hl 2 rfl) ?_
  refine lv_iand hx hb dX7_canMeet_7 ?_
  refine lv_if_ne (tgt := 26) hx hb dX7_canMeet_8 (by decide) (fun c_8 => ?_) (fun c_8 => ?_)
  · have hw := hw.1 c_8
    refine lv_iconst (v := 0) hx hb dX7_canMeet_26 (by decide) ?_
    exact kretZ C hr hlk h (Or.inl rfl) hw dX7_canMeet_27
  · have hw := hw.2 c_8
    refine lv_aload_n hx hb dX7_canMeet_11 rfl (lv_at hl 0 rfl) ?_
    refine kget C h 0 rfl rfl inBX7 7 (Nat.le_of_ble_eq_true rfl) wi_fl_X7_20 rfl dX7_canMeet_12 ?_
    refine lv_iload_n hx hb dX7_canMeet_15 rfl (lv_at hl 1 rfl) ?_
    obtain ⟨i_16, hw⟩ := hw
    refine kiald C h 4 rfl i_16 dX7_canMeet_16 ?_
    refine lv_iload_n hx hb dX7_canMeet_17 rfl (lv_at hl 3 rfl) ?_
    refine lv_iand hx hb dX7_canMeet_18 ?_
    refine lv_if_ne (tgt := 26) hx hb dX7_canMeet_19 (by decide) (fun c_19 => ?_) (fun c_19 => ?_)
    · have hw := hw.1 c_19
      refine lv_iconst (v := 0) hx hb dX7_canMeet_26 (by decide) ?_
      exact kretZ C hr hlk h (Or.inl rfl) hw dX7_canMeet_27
    · have hw := hw.2 c_19
      refine lv_iconst (v := 1) hx hb dX7_canMeet_22 (by decide) ?_
      refine lv_goto (tgt := 27) hx hb dX7_canMeet_23 (by decide) ?_
      exact kretZ C hr hlk h (Or.inr rfl) hw dX7_canMeet_27

def wX7_onlyAction_b50 (K5 : Int32 → Int32 → Int32 → Int32 → ST → Prop) (Q : Int32 → ST → Prop) (x1 : Int32) (x2 : Int32) (x3 : Int32) (x4 : Int32) (u : ST) : Prop :=
  K5 x1 x2 x3 (x4 + 1) u
set_option maxHeartbeats 4000000 in
set_option maxRecDepth 100000 in
theorem kX7_onlyAction_b50 {p : Program} {l : Launch} {e : Env} {s : State} {m : MethodId} {args : Array Value} {below : List Frame} {meth : Method} {c : Code} {D : va_G} {cy : CY} {A : Nat → Prop} {am : Nat → Nat} {K5 : Int32 → Int32 → Int32 → Int32 → ST → Prop} {Q : Int32 → ST → Prop} (C : kC p m c cX7_onlyAction 5 s args RX7 D cy A) (hr : meth.sig.returnType = some .int) (hlk : meth.locks = false) (g5 : ∀ (x1 : Int32) (x2 : Int32) (x3 : Int32) (x4 : Int32) (u : ST) (H : Heap) (locs : List Loc) (ls : Array Slot), K5 x1 x2 x3 x4 u → kH D (mW cy am) A s u H locs → lv_has ls 5 [(0, .ref (am 0)), (1, .int x1), (2, .int x2), (3, .int x3), (4, .int x4)] → W p l e (kRm 1) s m args below meth c H locs 0 0 (MQ below (kQi D (mW cy am) cy A Q) args s 0 0 A) (F0 m 5 ls [])) : ∀ (x1 : Int32) (x2 : Int32) (x3 : Int32) (x4 : Int32) (u : ST) (H : Heap) (locs : List Loc) (ls : Array Slot), wX7_onlyAction_b50 K5 Q x1 x2 x3 x4 u → kH D (mW cy am) A s u H locs → lv_has ls 5 [(0, .ref (am 0)), (1, .int x1), (2, .int x2), (3, .int x3), (4, .int x4)] → W p l e (kRm 1) s m args below meth c H locs 0 0 (MQ below (kQi D (mW cy am) cy A Q) args s 0 0 A) (F0 m 50 ls []) := by
  intro x1 x2 x3 x4 u H locs ls hw h hl
  obtain ⟨⟨hx, hb, hml, hown, hts⟩, hK, hA⟩ := id C
  unfold wX7_onlyAction_b50 at hw
  refine lv_iinc (v := x4 + 1) (lv' := [(4, .int (x4 + 1)), (0, .ref (am 0)), (1, .int x1), (2, .int x2), (3, .int x3)]) hx hb dX7_onlyAction_50 hl (k := 4) rfl rfl (by decide) rfl (fun ls hl => ?_)
  refine lv_goto (tgt := 5) hx hb dX7_onlyAction_53 (by decide) ?_
  exact g5 x1 x2 x3 (x4 + 1) _ _ _ _ hw h (lv_sub hl [1, 2, 3, 4, 0] rfl)
def wX7_onlyAction_b42 (K5 : Int32 → Int32 → Int32 → Int32 → ST → Prop) (Q : Int32 → ST → Prop) (x1 : Int32) (x2 : Int32) (x4 : Int32) (u : ST) : Prop :=
  (vp_in x4 512 ∧ wX7_onlyAction_b50 K5 Q x1 x2 (gR u 9 x4.toNatClampNeg) x4 u)
set_option maxHeartbeats 4000000 in
set_option maxRecDepth 100000 in
theorem kX7_onlyAction_b42 {p : Program} {l : Launch} {e : Env} {s : State} {m : MethodId} {args : Array Value} {below : List Frame} {meth : Method} {c : Code} {D : va_G} {cy : CY} {A : Nat → Prop} {am : Nat → Nat} {K5 : Int32 → Int32 → Int32 → Int32 → ST → Prop} {Q : Int32 → ST → Prop} (C : kC p m c cX7_onlyAction 5 s args RX7 D cy A) (hr : meth.sig.returnType = some .int) (hlk : meth.locks = false) (g5 : ∀ (x1 : Int32) (x2 : Int32) (x3 : Int32) (x4 : Int32) (u : ST) (H : Heap) (locs : List Loc) (ls : Array Slot), K5 x1 x2 x3 x4 u → kH D (mW cy am) A s u H locs → lv_has ls 5 [(0, .ref (am 0)), (1, .int x1), (2, .int x2), (3, .int x3), (4, .int x4)] → W p l e (kRm 1) s m args below meth c H locs 0 0 (MQ below (kQi D (mW cy am) cy A Q) args s 0 0 A) (F0 m 5 ls [])) : ∀ (x1 : Int32) (x2 : Int32) (x4 : Int32) (u : ST) (H : Heap) (locs : List Loc) (ls : Array Slot), wX7_onlyAction_b42 K5 Q x1 x2 x4 u → kH D (mW cy am) A s u H locs → lv_has ls 5 [(0, .ref (am 0)), (1, .int x1), (2, .int x2), (4, .int x4)] → W p l e (kRm 1) s m args below meth c H locs 0 0 (MQ below (kQi D (mW cy am) cy A Q) args s 0 0 A) (F0 m 42 ls []) := by
  intro x1 x2 x4 u H locs ls hw h hl
  obtain ⟨⟨hx, hb, hml, hown, hts⟩, hK, hA⟩ := id C
  unfold wX7_onlyAction_b42 at hw
  refine lv_aload_n hx hb dX7_onlyAction_42 rfl (lv_at hl 0 rfl) ?_
  refine kget C h 0 rfl rfl inBX7 9 (Nat.le_of_ble_eq_true rfl) wi_fl_X7_26 rfl dX7_onlyAction_43 ?_
  refine lv_iload hx hb dX7_onlyAction_46 (lv_at hl 3 rfl) ?_
  obtain ⟨i_48, hw⟩ := hw
  refine kiald C h 6 rfl i_48 dX7_onlyAction_48 ?_
  refine lv_istore_n (lv' := [(3, .int (gR u 9 x4.toNatClampNeg)), (0, .ref (am 0)), (1, .int x1), (2, .int x2), (4, .int x4)]) hx hb dX7_onlyAction_49 rfl hl (by decide) rfl (fun ls hl => ?_)
  exact kX7_onlyAction_b50 C hr hlk g5 x1 x2 (gR u 9 x4.toNatClampNeg) x4 _ _ _ _ hw h (lv_sub hl [1, 2, 3, 0, 4] rfl)
def wX7_onlyAction_B5 (K5 : Int32 → Int32 → Int32 → Int32 → ST → Prop) (Q : Int32 → ST → Prop) (x1 : Int32) (x2 : Int32) (x3 : Int32) (x4 : Int32) (u : ST) : Prop :=
  (((gI u 12) ≤ x4 → Q x3 u) ∧ (¬ (gI u 12) ≤ x4 → wX7_canMeet x4 x1 x2 u (fun r_1 u_2 => ((r_1 = 0 → wX7_onlyAction_b50 K5 Q x1 x2 x3 x4 u_2) ∧ (¬ r_1 = 0 → ((x3 < 0 → wX7_onlyAction_b42 K5 Q x1 x2 x4 u_2) ∧ (¬ x3 < 0 → (vp_in x4 512 ∧ ((x3 = (gR u_2 9 x4.toNatClampNeg) → wX7_onlyAction_b42 K5 Q x1 x2 x4 u_2) ∧ (¬ x3 = (gR u_2 9 x4.toNatClampNeg) → Q (-1) u_2))))))))))
set_option maxHeartbeats 4000000 in
set_option maxRecDepth 100000 in
theorem kX7_onlyAction_B5 {p : Program} {l : Launch} {e : Env} {s : State} {m : MethodId} {args : Array Value} {below : List Frame} {meth : Method} {c : Code} {D : va_G} {cy : CY} {A : Nat → Prop} {am : Nat → Nat} {K5 : Int32 → Int32 → Int32 → Int32 → ST → Prop} {Q : Int32 → ST → Prop} (C : kC p m c cX7_onlyAction 5 s args RX7 D cy A) (hr : meth.sig.returnType = some .int) (hlk : meth.locks = false) (g5 : ∀ (x1 : Int32) (x2 : Int32) (x3 : Int32) (x4 : Int32) (u : ST) (H : Heap) (locs : List Loc) (ls : Array Slot), K5 x1 x2 x3 x4 u → kH D (mW cy am) A s u H locs → lv_has ls 5 [(0, .ref (am 0)), (1, .int x1), (2, .int x2), (3, .int x3), (4, .int x4)] → W p l e (kRm 1) s m args below meth c H locs 0 0 (MQ below (kQi D (mW cy am) cy A Q) args s 0 0 A) (F0 m 5 ls [])) : ∀ (x1 : Int32) (x2 : Int32) (x3 : Int32) (x4 : Int32) (u : ST) (H : Heap) (locs : List Loc) (ls : Array Slot), wX7_onlyAction_B5 K5 Q x1 x2 x3 x4 u → kH D (mW cy am) A s u H locs → lv_has ls 5 [(0, .ref (am 0)), (1, .int x1), (2, .int x2), (3, .int x3), (4, .int x4)] → W p l e (kRm 1) s m args below meth c H locs 0 0 (MQ below (kQi D (mW cy am) cy A Q) args s 0 0 A) (F0 m 5 ls []) := by
  intro x1 x2 x3 x4 u H locs ls hw h hl
  obtain ⟨⟨hx, hb, hml, hown, hts⟩, hK, hA⟩ := id C
  unfold wX7_onlyAction_B5 at hw
  refine lv_iload hx hb dX7_onlyAction_5 (lv_at hl 4 rfl) ?_
  refine lv_aload_n hx hb dX7_onlyAction_7 rfl (lv_at hl 0 rfl) ?_
  refine kget C h 0 rfl rfl inBX7 12 (Nat.le_of_ble_eq_true rfl) wi_fl_X7_119 rfl dX7_onlyAction_8 ?_
  refine lv_icmp_ge (tgt := 56) hx hb dX7_onlyAction_11 (by decide) (fun c_11 => ?_) (fun c_11 => ?_)
  · have hw := hw.1 c_11
    refine lv_iload_n hx hb dX7_onlyAction_56 rfl (lv_at hl 3 rfl) ?_
    exact kretI C hr hlk h hw dX7_onlyAction_57
  · have hw := hw.2 c_11
    refine lv_aload_n hx hb dX7_onlyAction_14 rfl (lv_at hl 0 rfl) ?_
    refine lv_iload hx hb dX7_onlyAction_15 (lv_at hl 4 rfl) ?_
    refine lv_iload_n hx hb dX7_onlyAction_17 rfl (lv_at hl 1 rfl) ?_
    refine lv_iload_n hx hb dX7_onlyAction_18 rfl (lv_at hl 2 rfl) ?_
    refine kVi (As := [.int x4, .int x1, .int x2]) (rest := []) C h (cwV 3 hts (gd_V wi_ml_X7_173 wi_im_X7_canMeet wi_se_X7_canMeet wi_in_X7 wi_co_X7_canMeet) rfl rfl rfl hd_X7_canMeet ⟨Nat.le_of_ble_eq_true rfl, Nat.le_of_ble_eq_true rfl⟩) 0 rfl rfl rfl (mX7_canMeet l D cy am x4 x1 x2 _ _ hw) rfl hl.1 rfl (Nat.le_of_ble_eq_true rfl) ⟨Nat.zero_le _, Nat.zero_le _⟩ dX7_onlyAction_19 (fun r_1 u_2 H locs hw h => ?_)
    refine lv_if_eq (tgt := 50) hx hb dX7_onlyAction_22 (by decide) (fun c_22 => ?_) (fun c_22 => ?_)
    · have hw := hw.1 c_22
      exact kX7_onlyAction_b50 C hr hlk g5 x1 x2 x3 x4 _ _ _ _ hw h (lv_sub hl [0, 1, 2, 3, 4] rfl)
    · have hw := hw.2 c_22
      refine lv_iload_n hx hb dX7_onlyAction_25 rfl (lv_at hl 3 rfl) ?_
      refine lv_if_lt (tgt := 42) hx hb dX7_onlyAction_26 (by decide) (fun c_26 => ?_) (fun c_26 => ?_)
      · have hw := hw.1 c_26
        exact kX7_onlyAction_b42 C hr hlk g5 x1 x2 x4 _ _ _ _ hw h (lv_sub hl [0, 1, 2, 4] rfl)
      · have hw := hw.2 c_26
        refine lv_iload_n hx hb dX7_onlyAction_29 rfl (lv_at hl 3 rfl) ?_
        refine lv_aload_n hx hb dX7_onlyAction_30 rfl (lv_at hl 0 rfl) ?_
        refine kget C h 0 rfl rfl inBX7 9 (Nat.le_of_ble_eq_true rfl) wi_fl_X7_26 rfl dX7_onlyAction_31 ?_
        refine lv_iload hx hb dX7_onlyAction_34 (lv_at hl 4 rfl) ?_
        obtain ⟨i_36, hw⟩ := hw
        refine kiald C h 6 rfl i_36 dX7_onlyAction_36 ?_
        refine lv_icmp_eq (tgt := 42) hx hb dX7_onlyAction_37 (by decide) (fun c_37 => ?_) (fun c_37 => ?_)
        · have hw := hw.1 c_37
          exact kX7_onlyAction_b42 C hr hlk g5 x1 x2 x4 _ _ _ _ hw h (lv_sub hl [0, 1, 2, 4] rfl)
        · have hw := hw.2 c_37
          refine lv_iconst (v := (-1)) hx hb dX7_onlyAction_40 (by decide) ?_
          exact kretI C hr hlk h hw dX7_onlyAction_41
def wX7_onlyAction_L5 (Q : Int32 → ST → Prop) : Nat → Int32 → Int32 → Int32 → Int32 → ST → Prop
  | 0, _, _, _, _, _ => False
  | n + 1, x1, x2, x3, x4, u => wX7_onlyAction_B5 (wX7_onlyAction_L5 Q n) Q x1 x2 x3 x4 u
set_option maxHeartbeats 4000000 in
theorem kX7_onlyAction_L5 {p : Program} {l : Launch} {e : Env} {s : State} {m : MethodId} {args : Array Value} {below : List Frame} {meth : Method} {c : Code} {D : va_G} {cy : CY} {A : Nat → Prop} {am : Nat → Nat} {Q : Int32 → ST → Prop} (C : kC p m c cX7_onlyAction 5 s args RX7 D cy A) (hr : meth.sig.returnType = some .int) (hlk : meth.locks = false) : ∀ n : Nat, ∀ (x1 : Int32) (x2 : Int32) (x3 : Int32) (x4 : Int32) (u : ST) (H : Heap) (locs : List Loc) (ls : Array Slot), wX7_onlyAction_L5 Q n x1 x2 x3 x4 u → kH D (mW cy am) A s u H locs → lv_has ls 5 [(0, .ref (am 0)), (1, .int x1), (2, .int x2), (3, .int x3), (4, .int x4)] → W p l e (kRm 1) s m args below meth c H locs 0 0 (MQ below (kQi D (mW cy am) cy A Q) args s 0 0 A) (F0 m 5 ls []) := by
  intro n
  induction n with
  | zero => intro x1 x2 x3 x4 u H locs ls hw; exact False.elim hw
  | succ n ih => exact kX7_onlyAction_B5 C hr hlk ih
def wX7_onlyAction (x1 : Int32) (x2 : Int32) (u : ST) (Q : Int32 → ST → Prop) : Prop :=
  (∃ n : Nat, wX7_onlyAction_L5 Q n x1 x2 (-1) 0 u)
set_option maxHeartbeats 4000000 in
set_option maxRecDepth 100000 in
theorem mX7_onlyAction (l : Launch) (D : va_G) (cy : CY) (am : Nat → Nat) (x1 : Int32) (x2 : Int32) (u : ST) (sz : Nat) {Q : Int32 → ST → Prop} (hw : wX7_onlyAction x1 x2 u Q) : Met l yX7_onlyAction (wM yX7_onlyAction cX7_onlyAction 5 (some .int)) (kRm 1) (kPc D (mW cy am) cy u sz [.ref (am 0), .int x1, .int x2]) (kQi D (mW cy am) cy (va_A (mW cy am u) sz) Q) 0 0 (va_A (mW cy am u) sz) := by
  refine kMet pn_X7_onlyAction (Nat.le_of_ble_eq_true rfl) (fun p e s m below meth c ls hsz C hr hlk hex h hl => ?_)
  have hl : lv_has ls 5 [(0, .ref (am 0)), (1, .int x1), (2, .int x2)] := hl
  obtain ⟨⟨hx, hb, hml, hown, hts⟩, hK, hA⟩ := id C
  unfold wX7_onlyAction at hw
  have h : kH D (mW cy am) (va_A (mW cy am u) sz) s u s.heap [] := h
  refine lv_iconst (v := (-1)) hx hb dX7_onlyAction_0 (by decide) ?_
  refine lv_istore_n (lv' := [(3, .int (-1)), (0, .ref (am 0)), (1, .int x1), (2, .int x2)]) hx hb dX7_onlyAction_1 rfl hl (by decide) rfl (fun ls hl => ?_)
  refine lv_iconst (v := 0) hx hb dX7_onlyAction_2 (by decide) ?_
  refine lv_istore (lv' := [(4, .int 0), (3, .int (-1)), (0, .ref (am 0)), (1, .int x1), (2, .int x2)]) hx hb dX7_onlyAction_3 hl (by decide) rfl (fun ls hl => ?_)
  obtain ⟨n, hw⟩ := hw
  exact kX7_onlyAction_L5 C hr hlk n x1 x2 (-1) 0 _ _ _ _ hw h (lv_sub hl [2, 3, 4, 1, 0] rfl)

def wX7_bits_B4 (K4 : Int32 → Int32 → Int32 → ST → Prop) (Q : Int32 → ST → Prop) (x0 : Int32) (x1 : Int32) (x2 : Int32) (u : ST) : Prop :=
  ((16 ≤ x2 → Q x1 u) ∧ (¬ 16 ≤ x2 → K4 x0 (x1 + ((x0 >>> (x2 &&& 31)) &&& 1)) (x2 + 1) u))
set_option maxHeartbeats 4000000 in
set_option maxRecDepth 100000 in
theorem kX7_bits_B4 {p : Program} {l : Launch} {e : Env} {s : State} {m : MethodId} {args : Array Value} {below : List Frame} {meth : Method} {c : Code} {D : va_G} {cy : CY} {A : Nat → Prop} {am : Nat → Nat} {K4 : Int32 → Int32 → Int32 → ST → Prop} {Q : Int32 → ST → Prop} (C : kC p m c cX7_bits 3 s args RX7 D cy A) (hr : meth.sig.returnType = some .int) (hlk : meth.locks = false) (g4 : ∀ (x0 : Int32) (x1 : Int32) (x2 : Int32) (u : ST) (H : Heap) (locs : List Loc) (ls : Array Slot), K4 x0 x1 x2 u → kH D (mW cy am) A s u H locs → lv_has ls 3 [(0, .int x0), (1, .int x1), (2, .int x2)] → W p l e (kRm 0) s m args below meth c H locs 0 0 (MQ below (kQi D (mW cy am) cy A Q) args s 0 0 A) (F0 m 4 ls [])) : ∀ (x0 : Int32) (x1 : Int32) (x2 : Int32) (u : ST) (H : Heap) (locs : List Loc) (ls : Array Slot), wX7_bits_B4 K4 Q x0 x1 x2 u → kH D (mW cy am) A s u H locs → lv_has ls 3 [(0, .int x0), (1, .int x1), (2, .int x2)] → W p l e (kRm 0) s m args below meth c H locs 0 0 (MQ below (kQi D (mW cy am) cy A Q) args s 0 0 A) (F0 m 4 ls []) := by
  intro x0 x1 x2 u H locs ls hw h hl
  obtain ⟨⟨hx, hb, hml, hown, hts⟩, hK, hA⟩ := id C
  unfold wX7_bits_B4 at hw
  refine lv_iload_n hx hb dX7_bits_4 rfl (lv_at hl 2 rfl) ?_
  refine lv_bipush (v := 16) hx hb dX7_bits_5 (by decide) ?_
  refine lv_icmp_ge (tgt := 24) hx hb dX7_bits_7 (by decide) (fun c_7 => ?_) (fun c_7 => ?_)
  · have hw := hw.1 c_7
    refine lv_iload_n hx hb dX7_bits_24 rfl (lv_at hl 1 rfl) ?_
    exact kretI C hr hlk h hw dX7_bits_25
  · have hw := hw.2 c_7
    refine lv_iload_n hx hb dX7_bits_10 rfl (lv_at hl 1 rfl) ?_
    refine lv_iload_n hx hb dX7_bits_11 rfl (lv_at hl 0 rfl) ?_
    refine lv_iload_n hx hb dX7_bits_12 rfl (lv_at hl 2 rfl) ?_
    refine lv_ishr hx hb dX7_bits_13 ?_
    refine lv_iconst (v := 1) hx hb dX7_bits_14 (by decide) ?_
    refine lv_iand hx hb dX7_bits_15 ?_
    refine lv_iadd hx hb dX7_bits_16 ?_
    refine lv_istore_n (lv' := [(1, .int (x1 + ((x0 >>> (x2 &&& 31)) &&& 1))), (0, .int x0), (2, .int x2)]) hx hb dX7_bits_17 rfl hl (by decide) rfl (fun ls hl => ?_)
    refine lv_iinc (v := x2 + 1) (lv' := [(2, .int (x2 + 1)), (1, .int (x1 + ((x0 >>> (x2 &&& 31)) &&& 1))), (0, .int x0)]) hx hb dX7_bits_18 hl (k := 2) rfl rfl (by decide) rfl (fun ls hl => ?_)
    refine lv_goto (tgt := 4) hx hb dX7_bits_21 (by decide) ?_
    exact g4 x0 (x1 + ((x0 >>> (x2 &&& 31)) &&& 1)) (x2 + 1) _ _ _ _ hw h (lv_sub hl [2, 1, 0] rfl)
def wX7_bits_L4 (Q : Int32 → ST → Prop) : Nat → Int32 → Int32 → Int32 → ST → Prop
  | 0, _, _, _, _ => False
  | n + 1, x0, x1, x2, u => wX7_bits_B4 (wX7_bits_L4 Q n) Q x0 x1 x2 u
set_option maxHeartbeats 4000000 in
theorem kX7_bits_L4 {p : Program} {l : Launch} {e : Env} {s : State} {m : MethodId} {args : Array Value} {below : List Frame} {meth : Method} {c : Code} {D : va_G} {cy : CY} {A : Nat → Prop} {am : Nat → Nat} {Q : Int32 → ST → Prop} (C : kC p m c cX7_bits 3 s args RX7 D cy A) (hr : meth.sig.returnType = some .int) (hlk : meth.locks = false) : ∀ n : Nat, ∀ (x0 : Int32) (x1 : Int32) (x2 : Int32) (u : ST) (H : Heap) (locs : List Loc) (ls : Array Slot), wX7_bits_L4 Q n x0 x1 x2 u → kH D (mW cy am) A s u H locs → lv_has ls 3 [(0, .int x0), (1, .int x1), (2, .int x2)] → W p l e (kRm 0) s m args below meth c H locs 0 0 (MQ below (kQi D (mW cy am) cy A Q) args s 0 0 A) (F0 m 4 ls []) := by
  intro n
  induction n with
  | zero => intro x0 x1 x2 u H locs ls hw; exact False.elim hw
  | succ n ih => exact kX7_bits_B4 C hr hlk ih
def wX7_bits (x0 : Int32) (u : ST) (Q : Int32 → ST → Prop) : Prop :=
  (∃ n : Nat, wX7_bits_L4 Q n x0 0 0 u)
set_option maxHeartbeats 4000000 in
set_option maxRecDepth 100000 in
theorem mX7_bits (l : Launch) (D : va_G) (cy : CY) (am : Nat → Nat) (x0 : Int32) (u : ST) (sz : Nat) {Q : Int32 → ST → Prop} (hw : wX7_bits x0 u Q) : Met l yX7_bits (wM yX7_bits cX7_bits 3 (some .int)) (kRm 0) (kPc D (mW cy am) cy u sz [.int x0]) (kQi D (mW cy am) cy (va_A (mW cy am u) sz) Q) 0 0 (va_A (mW cy am u) sz) := by
  refine kMet pn_X7_bits (Nat.le_of_ble_eq_true rfl) (fun p e s m below meth c ls hsz C hr hlk hex h hl => ?_)
  have hl : lv_has ls 3 [(0, .int x0)] := hl
  obtain ⟨⟨hx, hb, hml, hown, hts⟩, hK, hA⟩ := id C
  unfold wX7_bits at hw
  have h : kH D (mW cy am) (va_A (mW cy am u) sz) s u s.heap [] := h
  refine lv_iconst (v := 0) hx hb dX7_bits_0 (by decide) ?_
  refine lv_istore_n (lv' := [(1, .int 0), (0, .int x0)]) hx hb dX7_bits_1 rfl hl (by decide) rfl (fun ls hl => ?_)
  refine lv_iconst (v := 0) hx hb dX7_bits_2 (by decide) ?_
  refine lv_istore_n (lv' := [(2, .int 0), (1, .int 0), (0, .int x0)]) hx hb dX7_bits_3 rfl hl (by decide) rfl (fun ls hl => ?_)
  obtain ⟨n, hw⟩ := hw
  exact kX7_bits_L4 C hr hlk n x0 0 0 _ _ _ _ hw h (lv_sub hl [2, 1, 0] rfl)

def wX7_bestCondition_b224 (K25 : Int32 → Int32 → Int32 → Int32 → Int64 → Int64 → Int32 → ST → Prop) (Q : Int32 → ST → Prop) (x1 : Int32) (x2 : Int32) (x3 : Int32) (x4 : Int32) (y5 : Int64) (y7 : Int64) (x9 : Int32) (u : ST) : Prop :=
  K25 x1 x2 x3 x4 y5 y7 (x9 + 1) u
set_option maxHeartbeats 4000000 in
set_option maxRecDepth 100000 in
theorem kX7_bestCondition_b224 {p : Program} {l : Launch} {e : Env} {s : State} {m : MethodId} {args : Array Value} {below : List Frame} {meth : Method} {c : Code} {D : va_G} {cy : CY} {A : Nat → Prop} {am : Nat → Nat} {K25 : Int32 → Int32 → Int32 → Int32 → Int64 → Int64 → Int32 → ST → Prop} {Q : Int32 → ST → Prop} (C : kC p m c cX7_bestCondition 17 s args RX7 D cy A) (hr : meth.sig.returnType = some .int) (hlk : meth.locks = false) (g25 : ∀ (x1 : Int32) (x2 : Int32) (x3 : Int32) (x4 : Int32) (y5 : Int64) (y7 : Int64) (x9 : Int32) (u : ST) (H : Heap) (locs : List Loc) (ls : Array Slot), K25 x1 x2 x3 x4 y5 y7 x9 u → kH D (mW cy am) A s u H locs → lv_has ls 17 [(0, .ref (am 0)), (1, .int x1), (2, .int x2), (3, .int x3), (4, .int x4), (5, .long y5), (7, .long y7), (9, .int x9)] → W p l e (kRm 1) s m args below meth c H locs 0 0 (MQ below (kQi D (mW cy am) cy A Q) args s 0 0 A) (F0 m 25 ls [])) : ∀ (x1 : Int32) (x2 : Int32) (x3 : Int32) (x4 : Int32) (y5 : Int64) (y7 : Int64) (x9 : Int32) (u : ST) (H : Heap) (locs : List Loc) (ls : Array Slot), wX7_bestCondition_b224 K25 Q x1 x2 x3 x4 y5 y7 x9 u → kH D (mW cy am) A s u H locs → lv_has ls 17 [(0, .ref (am 0)), (1, .int x1), (2, .int x2), (3, .int x3), (4, .int x4), (5, .long y5), (7, .long y7), (9, .int x9)] → W p l e (kRm 1) s m args below meth c H locs 0 0 (MQ below (kQi D (mW cy am) cy A Q) args s 0 0 A) (F0 m 224 ls []) := by
  intro x1 x2 x3 x4 y5 y7 x9 u H locs ls hw h hl
  obtain ⟨⟨hx, hb, hml, hown, hts⟩, hK, hA⟩ := id C
  unfold wX7_bestCondition_b224 at hw
  refine lv_iinc (v := x9 + 1) (lv' := [(9, .int (x9 + 1)), (0, .ref (am 0)), (1, .int x1), (2, .int x2), (3, .int x3), (4, .int x4), (5, .long y5), (7, .long y7)]) hx hb dX7_bestCondition_224 hl (k := 7) rfl rfl (by decide) rfl (fun ls hl => ?_)
  refine lv_goto (tgt := 25) hx hb dX7_bestCondition_227 (by decide) ?_
  exact g25 x1 x2 x3 x4 y5 y7 (x9 + 1) _ _ _ _ hw h (lv_sub hl [1, 2, 3, 4, 5, 6, 7, 0] rfl)
def wX7_bestCondition_b160 (K25 : Int32 → Int32 → Int32 → Int32 → Int64 → Int64 → Int32 → ST → Prop) (K55 : Int32 → Int32 → Int32 → Int32 → Int64 → Int64 → Int32 → Int64 → Int64 → Int32 → ST → Prop) (Q : Int32 → ST → Prop) (x1 : Int32) (x2 : Int32) (x3 : Int32) (x4 : Int32) (y5 : Int64) (y7 : Int64) (x9 : Int32) (y10 : Int64) (y12 : Int64) (x14 : Int32) (u : ST) : Prop :=
  K55 x1 x2 x3 x4 y5 y7 x9 y10 y12 (x14 + 1) u
set_option maxHeartbeats 4000000 in
set_option maxRecDepth 100000 in
theorem kX7_bestCondition_b160 {p : Program} {l : Launch} {e : Env} {s : State} {m : MethodId} {args : Array Value} {below : List Frame} {meth : Method} {c : Code} {D : va_G} {cy : CY} {A : Nat → Prop} {am : Nat → Nat} {K25 : Int32 → Int32 → Int32 → Int32 → Int64 → Int64 → Int32 → ST → Prop} {K55 : Int32 → Int32 → Int32 → Int32 → Int64 → Int64 → Int32 → Int64 → Int64 → Int32 → ST → Prop} {Q : Int32 → ST → Prop} (C : kC p m c cX7_bestCondition 17 s args RX7 D cy A) (hr : meth.sig.returnType = some .int) (hlk : meth.locks = false) (g25 : ∀ (x1 : Int32) (x2 : Int32) (x3 : Int32) (x4 : Int32) (y5 : Int64) (y7 : Int64) (x9 : Int32) (u : ST) (H : Heap) (locs : List Loc) (ls : Array Slot), K25 x1 x2 x3 x4 y5 y7 x9 u → kH D (mW cy am) A s u H locs → lv_has ls 17 [(0, .ref (am 0)), (1, .int x1), (2, .int x2), (3, .int x3), (4, .int x4), (5, .long y5), (7, .long y7), (9, .int x9)] → W p l e (kRm 1) s m args below meth c H locs 0 0 (MQ below (kQi D (mW cy am) cy A Q) args s 0 0 A) (F0 m 25 ls [])) (g55 : ∀ (x1 : Int32) (x2 : Int32) (x3 : Int32) (x4 : Int32) (y5 : Int64) (y7 : Int64) (x9 : Int32) (y10 : Int64) (y12 : Int64) (x14 : Int32) (u : ST) (H : Heap) (locs : List Loc) (ls : Array Slot), K55 x1 x2 x3 x4 y5 y7 x9 y10 y12 x14 u → kH D (mW cy am) A s u H locs → lv_has ls 17 [(0, .ref (am 0)), (1, .int x1), (2, .int x2), (3, .int x3), (4, .int x4), (5, .long y5), (7, .long y7), (9, .int x9), (10, .long y10), (12, .long y12), (14, .int x14)] → W p l e (kRm 1) s m args below meth c H locs 0 0 (MQ below (kQi D (mW cy am) cy A Q) args s 0 0 A) (F0 m 55 ls [])) : ∀ (x1 : Int32) (x2 : Int32) (x3 : Int32) (x4 : Int32) (y5 : Int64) (y7 : Int64) (x9 : Int32) (y10 : Int64) (y12 : Int64) (x14 : Int32) (u : ST) (H : Heap) (locs : List Loc) (ls : Array Slot), wX7_bestCondition_b160 K25 K55 Q x1 x2 x3 x4 y5 y7 x9 y10 y12 x14 u → kH D (mW cy am) A s u H locs → lv_has ls 17 [(0, .ref (am 0)), (1, .int x1), (2, .int x2), (3, .int x3), (4, .int x4), (5, .long y5), (7, .long y7), (9, .int x9), (10, .long y10), (12, .long y12), (14, .int x14)] → W p l e (kRm 1) s m args below meth c H locs 0 0 (MQ below (kQi D (mW cy am) cy A Q) args s 0 0 A) (F0 m 160 ls []) := by
  intro x1 x2 x3 x4 y5 y7 x9 y10 y12 x14 u H locs ls hw h hl
  obtain ⟨⟨hx, hb, hml, hown, hts⟩, hK, hA⟩ := id C
  unfold wX7_bestCondition_b160 at hw
  refine lv_iinc (v := x14 + 1) (lv' := [(14, .int (x14 + 1)), (0, .ref (am 0)), (1, .int x1), (2, .int x2), (3, .int x3), (4, .int x4), (5, .long y5), (7, .long y7), (9, .int x9), (10, .long y10), (12, .long y12)]) hx hb dX7_bestCondition_160 hl (k := 10) rfl rfl (by decide) rfl (fun ls hl => ?_)
  refine lv_goto (tgt := 55) hx hb dX7_bestCondition_163 (by decide) ?_
  exact g55 x1 x2 x3 x4 y5 y7 x9 y10 y12 (x14 + 1) _ _ _ _ hw h (lv_sub hl [1, 2, 3, 4, 5, 6, 7, 8, 9, 10, 0] rfl)
def wX7_bestCondition_b212 (K25 : Int32 → Int32 → Int32 → Int32 → Int64 → Int64 → Int32 → ST → Prop) (Q : Int32 → ST → Prop) (x1 : Int32) (x2 : Int32) (x3 : Int32) (x9 : Int32) (y10 : Int64) (y12 : Int64) (u : ST) : Prop :=
  wX7_bestCondition_b224 K25 Q x1 x2 x3 x9 y10 y12 x9 u
set_option maxHeartbeats 4000000 in
set_option maxRecDepth 100000 in
theorem kX7_bestCondition_b212 {p : Program} {l : Launch} {e : Env} {s : State} {m : MethodId} {args : Array Value} {below : List Frame} {meth : Method} {c : Code} {D : va_G} {cy : CY} {A : Nat → Prop} {am : Nat → Nat} {K25 : Int32 → Int32 → Int32 → Int32 → Int64 → Int64 → Int32 → ST → Prop} {Q : Int32 → ST → Prop} (C : kC p m c cX7_bestCondition 17 s args RX7 D cy A) (hr : meth.sig.returnType = some .int) (hlk : meth.locks = false) (g25 : ∀ (x1 : Int32) (x2 : Int32) (x3 : Int32) (x4 : Int32) (y5 : Int64) (y7 : Int64) (x9 : Int32) (u : ST) (H : Heap) (locs : List Loc) (ls : Array Slot), K25 x1 x2 x3 x4 y5 y7 x9 u → kH D (mW cy am) A s u H locs → lv_has ls 17 [(0, .ref (am 0)), (1, .int x1), (2, .int x2), (3, .int x3), (4, .int x4), (5, .long y5), (7, .long y7), (9, .int x9)] → W p l e (kRm 1) s m args below meth c H locs 0 0 (MQ below (kQi D (mW cy am) cy A Q) args s 0 0 A) (F0 m 25 ls [])) : ∀ (x1 : Int32) (x2 : Int32) (x3 : Int32) (x9 : Int32) (y10 : Int64) (y12 : Int64) (u : ST) (H : Heap) (locs : List Loc) (ls : Array Slot), wX7_bestCondition_b212 K25 Q x1 x2 x3 x9 y10 y12 u → kH D (mW cy am) A s u H locs → lv_has ls 17 [(0, .ref (am 0)), (1, .int x1), (2, .int x2), (3, .int x3), (9, .int x9), (10, .long y10), (12, .long y12)] → W p l e (kRm 1) s m args below meth c H locs 0 0 (MQ below (kQi D (mW cy am) cy A Q) args s 0 0 A) (F0 m 212 ls []) := by
  intro x1 x2 x3 x9 y10 y12 u H locs ls hw h hl
  obtain ⟨⟨hx, hb, hml, hown, hts⟩, hK, hA⟩ := id C
  unfold wX7_bestCondition_b212 at hw
  refine lv_iload hx hb dX7_bestCondition_212 (lv_at hl 4 rfl) ?_
  refine lv_istore (lv' := [(4, .int x9), (0, .ref (am 0)), (1, .int x1), (2, .int x2), (3, .int x3), (9, .int x9), (10, .long y10), (12, .long y12)]) hx hb dX7_bestCondition_214 hl (by decide) rfl (fun ls hl => ?_)
  refine lv_lload hx hb dX7_bestCondition_216 (lv_at hl 6 rfl) ?_
  refine lv_lstore (lv' := [(5, .long y10), (4, .int x9), (0, .ref (am 0)), (1, .int x1), (2, .int x2), (3, .int x3), (9, .int x9), (10, .long y10), (12, .long y12)]) hx hb dX7_bestCondition_218 hl (by decide) rfl (fun ls hl => ?_)
  refine lv_lload hx hb dX7_bestCondition_220 (lv_at hl 8 rfl) ?_
  refine lv_lstore (lv' := [(7, .long y12), (5, .long y10), (4, .int x9), (0, .ref (am 0)), (1, .int x1), (2, .int x2), (3, .int x3), (9, .int x9), (10, .long y10), (12, .long y12)]) hx hb dX7_bestCondition_222 hl (by decide) rfl (fun ls hl => ?_)
  exact kX7_bestCondition_b224 C hr hlk g25 x1 x2 x3 x9 y10 y12 x9 _ _ _ _ hw h (lv_sub hl [3, 4, 5, 6, 2, 1, 0, 7] rfl)
def wX7_bestCondition_b181 (K25 : Int32 → Int32 → Int32 → Int32 → Int64 → Int64 → Int32 → ST → Prop) (Q : Int32 → ST → Prop) (x1 : Int32) (x2 : Int32) (x3 : Int32) (x4 : Int32) (y5 : Int64) (y7 : Int64) (x9 : Int32) (y10 : Int64) (ys0 : Int64) (u : ST) : Prop :=
  ((x4 < 0 → wX7_bestCondition_b212 K25 Q x1 x2 x3 x9 y10 ys0 u) ∧ (¬ x4 < 0 → (((lg_cmp y10 y5) < 0 → wX7_bestCondition_b212 K25 Q x1 x2 x3 x9 y10 ys0 u) ∧ (¬ (lg_cmp y10 y5) < 0 → ((¬ (lg_cmp y10 y5) = 0 → wX7_bestCondition_b224 K25 Q x1 x2 x3 x4 y5 y7 x9 u) ∧ ((lg_cmp y10 y5) = 0 → (((lg_cmp ys0 y7) ≤ 0 → wX7_bestCondition_b224 K25 Q x1 x2 x3 x4 y5 y7 x9 u) ∧ (¬ (lg_cmp ys0 y7) ≤ 0 → wX7_bestCondition_b212 K25 Q x1 x2 x3 x9 y10 ys0 u))))))))
set_option maxHeartbeats 4000000 in
set_option maxRecDepth 100000 in
theorem kX7_bestCondition_b181 {p : Program} {l : Launch} {e : Env} {s : State} {m : MethodId} {args : Array Value} {below : List Frame} {meth : Method} {c : Code} {D : va_G} {cy : CY} {A : Nat → Prop} {am : Nat → Nat} {K25 : Int32 → Int32 → Int32 → Int32 → Int64 → Int64 → Int32 → ST → Prop} {Q : Int32 → ST → Prop} (C : kC p m c cX7_bestCondition 17 s args RX7 D cy A) (hr : meth.sig.returnType = some .int) (hlk : meth.locks = false) (g25 : ∀ (x1 : Int32) (x2 : Int32) (x3 : Int32) (x4 : Int32) (y5 : Int64) (y7 : Int64) (x9 : Int32) (u : ST) (H : Heap) (locs : List Loc) (ls : Array Slot), K25 x1 x2 x3 x4 y5 y7 x9 u → kH D (mW cy am) A s u H locs → lv_has ls 17 [(0, .ref (am 0)), (1, .int x1), (2, .int x2), (3, .int x3), (4, .int x4), (5, .long y5), (7, .long y7), (9, .int x9)] → W p l e (kRm 1) s m args below meth c H locs 0 0 (MQ below (kQi D (mW cy am) cy A Q) args s 0 0 A) (F0 m 25 ls [])) : ∀ (x1 : Int32) (x2 : Int32) (x3 : Int32) (x4 : Int32) (y5 : Int64) (y7 : Int64) (x9 : Int32) (y10 : Int64) (ys0 : Int64) (u : ST) (H : Heap) (locs : List Loc) (ls : Array Slot), wX7_bestCondition_b181 K25 Q x1 x2 x3 x4 y5 y7 x9 y10 ys0 u → kH D (mW cy am) A s u H locs → lv_has ls 17 [(0, .ref (am 0)), (1, .int x1), (2, .int x2), (3, .int x3), (4, .int x4), (5, .long y5), (7, .long y7), (9, .int x9), (10, .long y10)] → W p l e (kRm 1) s m args below meth c H locs 0 0 (MQ below (kQi D (mW cy am) cy A Q) args s 0 0 A) (F0 m 181 ls [.long ys0]) := by
  intro x1 x2 x3 x4 y5 y7 x9 y10 ys0 u H locs ls hw h hl
  obtain ⟨⟨hx, hb, hml, hown, hts⟩, hK, hA⟩ := id C
  unfold wX7_bestCondition_b181 at hw
  refine lv_lstore (lv' := [(12, .long ys0), (0, .ref (am 0)), (1, .int x1), (2, .int x2), (3, .int x3), (4, .int x4), (5, .long y5), (7, .long y7), (9, .int x9), (10, .long y10)]) hx hb dX7_bestCondition_181 hl (by decide) rfl (fun ls hl => ?_)
  refine lv_iload hx hb dX7_bestCondition_183 (lv_at hl 5 rfl) ?_
  refine lv_if_lt (tgt := 212) hx hb dX7_bestCondition_185 (by decide) (fun c_185 => ?_) (fun c_185 => ?_)
  · have hw := hw.1 c_185
    exact kX7_bestCondition_b212 C hr hlk g25 x1 x2 x3 x9 y10 ys0 _ _ _ _ hw h (lv_sub hl [1, 2, 3, 4, 8, 9, 0] rfl)
  · have hw := hw.2 c_185
    refine lv_lload hx hb dX7_bestCondition_188 (lv_at hl 9 rfl) ?_
    refine lv_lload hx hb dX7_bestCondition_190 (lv_at hl 6 rfl) ?_
    refine W.lcmp hx hb dX7_bestCondition_192 ?_
    refine lv_if_lt (tgt := 212) hx hb dX7_bestCondition_193 (by decide) (fun c_193 => ?_) (fun c_193 => ?_)
    · have hw := hw.1 c_193
      exact kX7_bestCondition_b212 C hr hlk g25 x1 x2 x3 x9 y10 ys0 _ _ _ _ hw h (lv_sub hl [1, 2, 3, 4, 8, 9, 0] rfl)
    · have hw := hw.2 c_193
      refine lv_lload hx hb dX7_bestCondition_196 (lv_at hl 9 rfl) ?_
      refine lv_lload hx hb dX7_bestCondition_198 (lv_at hl 6 rfl) ?_
      refine W.lcmp hx hb dX7_bestCondition_200 ?_
      refine lv_if_ne (tgt := 224) hx hb dX7_bestCondition_201 (by decide) (fun c_201 => ?_) (fun c_201 => ?_)
      · have hw := hw.1 c_201
        exact kX7_bestCondition_b224 C hr hlk g25 x1 x2 x3 x4 y5 y7 x9 _ _ _ _ hw h (lv_sub hl [1, 2, 3, 4, 5, 6, 7, 8] rfl)
      · have hw := hw.2 c_201
        refine lv_lload hx hb dX7_bestCondition_204 (lv_at hl 0 rfl) ?_
        refine lv_lload hx hb dX7_bestCondition_206 (lv_at hl 7 rfl) ?_
        refine W.lcmp hx hb dX7_bestCondition_208 ?_
        refine lv_if_le (tgt := 224) hx hb dX7_bestCondition_209 (by decide) (fun c_209 => ?_) (fun c_209 => ?_)
        · have hw := hw.1 c_209
          exact kX7_bestCondition_b224 C hr hlk g25 x1 x2 x3 x4 y5 y7 x9 _ _ _ _ hw h (lv_sub hl [1, 2, 3, 4, 5, 6, 7, 8] rfl)
        · have hw := hw.2 c_209
          exact kX7_bestCondition_b212 C hr hlk g25 x1 x2 x3 x9 y10 ys0 _ _ _ _ hw h (lv_sub hl [1, 2, 3, 4, 8, 9, 0] rfl)
def wX7_bestCondition_B55 (K25 : Int32 → Int32 → Int32 → Int32 → Int64 → Int64 → Int32 → ST → Prop) (K55 : Int32 → Int32 → Int32 → Int32 → Int64 → Int64 → Int32 → Int64 → Int64 → Int32 → ST → Prop) (Q : Int32 → ST → Prop) (x1 : Int32) (x2 : Int32) (x3 : Int32) (x4 : Int32) (y5 : Int64) (y7 : Int64) (x9 : Int32) (y10 : Int64) (y12 : Int64) (x14 : Int32) (u : ST) : Prop :=
  (((gI u 12) ≤ x14 → ((0 ≤ (lg_cmp y12 0) → wX7_bestCondition_b181 K25 Q x1 x2 x3 x4 y5 y7 x9 y10 y12 u) ∧ (¬ 0 ≤ (lg_cmp y12 0) → wX7_bestCondition_b181 K25 Q x1 x2 x3 x4 y5 y7 x9 y10 (-y12) u))) ∧ (¬ (gI u 12) ≤ x14 → wX7_canMeet x14 x1 x2 u (fun r_1 u_2 => ((r_1 = 0 → wX7_bestCondition_b160 K25 K55 Q x1 x2 x3 x4 y5 y7 x9 y10 y12 x14 u_2) ∧ (¬ r_1 = 0 → (vp_in x14 512 ∧ (vp_in x14 512 ∧ wX7_bits (x3 &&& (((gR u_2 7 x14.toNatClampNeg) ||| (gR u_2 8 x14.toNatClampNeg)) ^^^ (-1))) u_2 (fun r_3 u_4 => (vp_in x14 512 ∧ ((¬ (((gR u_4 7 x14.toNatClampNeg) >>> (x9 &&& 31)) &&& 1) = 1 → (vp_in x14 512 ∧ ((¬ (((gR u_4 8 x14.toNatClampNeg) >>> (x9 &&& 31)) &&& 1) = 1 → (∀ x10_5 : Int64, x10_5 = y10 + ((1 : Int64) <<< ((r_3 : Int32).toInt64 &&& 63)) → wX7_bestCondition_b160 K25 K55 Q x1 x2 x3 x4 y5 y7 x9 x10_5 y12 x14 u_4)) ∧ ((((gR u_4 8 x14.toNatClampNeg) >>> (x9 &&& 31)) &&& 1) = 1 → (∀ x12_6 : Int64, x12_6 = y12 - ((1 : Int64) <<< ((r_3 : Int32).toInt64 &&& 63)) → wX7_bestCondition_b160 K25 K55 Q x1 x2 x3 x4 y5 y7 x9 y10 x12_6 x14 u_4))))) ∧ ((((gR u_4 7 x14.toNatClampNeg) >>> (x9 &&& 31)) &&& 1) = 1 → (∀ x12_7 : Int64, x12_7 = y12 + ((1 : Int64) <<< ((r_3 : Int32).toInt64 &&& 63)) → wX7_bestCondition_b160 K25 K55 Q x1 x2 x3 x4 y5 y7 x9 y10 x12_7 x14 u_4))))))))))))
set_option maxHeartbeats 4000000 in
set_option maxRecDepth 100000 in
theorem kX7_bestCondition_B55 {p : Program} {l : Launch} {e : Env} {s : State} {m : MethodId} {args : Array Value} {below : List Frame} {meth : Method} {c : Code} {D : va_G} {cy : CY} {A : Nat → Prop} {am : Nat → Nat} {K25 : Int32 → Int32 → Int32 → Int32 → Int64 → Int64 → Int32 → ST → Prop} {K55 : Int32 → Int32 → Int32 → Int32 → Int64 → Int64 → Int32 → Int64 → Int64 → Int32 → ST → Prop} {Q : Int32 → ST → Prop} (C : kC p m c cX7_bestCondition 17 s args RX7 D cy A) (hr : meth.sig.returnType = some .int) (hlk : meth.locks = false) (g25 : ∀ (x1 : Int32) (x2 : Int32) (x3 : Int32) (x4 : Int32) (y5 : Int64) (y7 : Int64) (x9 : Int32) (u : ST) (H : Heap) (locs : List Loc) (ls : Array Slot), K25 x1 x2 x3 x4 y5 y7 x9 u → kH D (mW cy am) A s u H locs → lv_has ls 17 [(0, .ref (am 0)), (1, .int x1), (2, .int x2), (3, .int x3), (4, .int x4), (5, .long y5), (7, .long y7), (9, .int x9)] → W p l e (kRm 1) s m args below meth c H locs 0 0 (MQ below (kQi D (mW cy am) cy A Q) args s 0 0 A) (F0 m 25 ls [])) (g55 : ∀ (x1 : Int32) (x2 : Int32) (x3 : Int32) (x4 : Int32) (y5 : Int64) (y7 : Int64) (x9 : Int32) (y10 : Int64) (y12 : Int64) (x14 : Int32) (u : ST) (H : Heap) (locs : List Loc) (ls : Array Slot), K55 x1 x2 x3 x4 y5 y7 x9 y10 y12 x14 u → kH D (mW cy am) A s u H locs → lv_has ls 17 [(0, .ref (am 0)), (1, .int x1), (2, .int x2), (3, .int x3), (4, .int x4), (5, .long y5), (7, .long y7), (9, .int x9), (10, .long y10), (12, .long y12), (14, .int x14)] → W p l e (kRm 1) s m args below meth c H locs 0 0 (MQ below (kQi D (mW cy am) cy A Q) args s 0 0 A) (F0 m 55 ls [])) : ∀ (x1 : Int32) (x2 : Int32) (x3 : Int32) (x4 : Int32) (y5 : Int64) (y7 : Int64) (x9 : Int32) (y10 : Int64) (y12 : Int64) (x14 : Int32) (u : ST) (H : Heap) (locs : List Loc) (ls : Array Slot), wX7_bestCondition_B55 K25 K55 Q x1 x2 x3 x4 y5 y7 x9 y10 y12 x14 u → kH D (mW cy am) A s u H locs → lv_has ls 17 [(0, .ref (am 0)), (1, .int x1), (2, .int x2), (3, .int x3), (4, .int x4), (5, .long y5), (7, .long y7), (9, .int x9), (10, .long y10), (12, .long y12), (14, .int x14)] → W p l e (kRm 1) s m args below meth c H locs 0 0 (MQ below (kQi D (mW cy am) cy A Q) args s 0 0 A) (F0 m 55 ls []) := by
  intro x1 x2 x3 x4 y5 y7 x9 y10 y12 x14 u H locs ls hw h hl
  obtain ⟨⟨hx, hb, hml, hown, hts⟩, hK, hA⟩ := id C
  unfold wX7_bestCondition_B55 at hw
  refine lv_iload hx hb dX7_bestCondition_55 (lv_at hl 10 rfl) ?_
  refine lv_aload_n hx hb dX7_bestCondition_57 rfl (lv_at hl 0 rfl) ?_
  refine kget C h 0 rfl rfl inBX7 12 (Nat.le_of_ble_eq_true rfl) wi_fl_X7_119 rfl dX7_bestCondition_58 ?_
  refine lv_icmp_ge (tgt := 166) hx hb dX7_bestCondition_61 (by decide) (fun c_61 => ?_) (fun c_61 => ?_)
  · have hw := hw.1 c_61
    refine lv_lload hx hb dX7_bestCondition_166 (lv_at hl 9 rfl) ?_
    refine lv_lconst (v := 0) hx hb dX7_bestCondition_168 rfl ?_
    refine W.lcmp hx hb dX7_bestCondition_169 ?_
    refine lv_if_ge (tgt := 179) hx hb dX7_bestCondition_170 (by decide) (fun c_170 => ?_) (fun c_170 => ?_)
    · have hw := hw.1 c_170
      refine lv_lload hx hb dX7_bestCondition_179 (lv_at hl 9 rfl) ?_
      exact kX7_bestCondition_b181 C hr hlk g25 x1 x2 x3 x4 y5 y7 x9 y10 y12 _ _ _ _ hw h (lv_sub hl [0, 1, 2, 3, 4, 5, 6, 7, 8] rfl)
    · have hw := hw.2 c_170
      refine lv_lload hx hb dX7_bestCondition_173 (lv_at hl 9 rfl) ?_
      refine lv_lneg hx hb dX7_bestCondition_175 ?_
      refine lv_goto (tgt := 181) hx hb dX7_bestCondition_176 (by decide) ?_
      exact kX7_bestCondition_b181 C hr hlk g25 x1 x2 x3 x4 y5 y7 x9 y10 (-y12) _ _ _ _ hw h (lv_sub hl [0, 1, 2, 3, 4, 5, 6, 7, 8] rfl)
  · have hw := hw.2 c_61
    refine lv_aload_n hx hb dX7_bestCondition_64 rfl (lv_at hl 0 rfl) ?_
    refine lv_iload hx hb dX7_bestCondition_65 (lv_at hl 10 rfl) ?_
    refine lv_iload_n hx hb dX7_bestCondition_67 rfl (lv_at hl 1 rfl) ?_
    refine lv_iload_n hx hb dX7_bestCondition_68 rfl (lv_at hl 2 rfl) ?_
    refine kVi (As := [.int x14, .int x1, .int x2]) (rest := []) C h (cwV 3 hts (gd_V wi_ml_X7_173 wi_im_X7_canMeet wi_se_X7_canMeet wi_in_X7 wi_co_X7_canMeet) rfl rfl rfl hd_X7_canMeet ⟨Nat.le_of_ble_eq_true rfl, Nat.le_of_ble_eq_true rfl⟩) 0 rfl rfl rfl (mX7_canMeet l D cy am x14 x1 x2 _ _ hw) rfl hl.1 rfl (Nat.le_of_ble_eq_true rfl) ⟨Nat.zero_le _, Nat.zero_le _⟩ dX7_bestCondition_69 (fun r_1 u_2 H locs hw h => ?_)
    refine lv_if_eq (tgt := 160) hx hb dX7_bestCondition_72 (by decide) (fun c_72 => ?_) (fun c_72 => ?_)
    · have hw := hw.1 c_72
      exact kX7_bestCondition_b160 C hr hlk g25 g55 x1 x2 x3 x4 y5 y7 x9 y10 y12 x14 _ _ _ _ hw h (lv_sub hl [0, 1, 2, 3, 4, 5, 6, 7, 8, 9, 10] rfl)
    · have hw := hw.2 c_72
      refine lv_lconst (v := 1) hx hb dX7_bestCondition_75 rfl ?_
      refine lv_iload_n hx hb dX7_bestCondition_76 rfl (lv_at hl 3 rfl) ?_
      refine lv_aload_n hx hb dX7_bestCondition_77 rfl (lv_at hl 0 rfl) ?_
      refine kget C h 0 rfl rfl inBX7 7 (Nat.le_of_ble_eq_true rfl) wi_fl_X7_20 rfl dX7_bestCondition_78 ?_
      refine lv_iload hx hb dX7_bestCondition_81 (lv_at hl 10 rfl) ?_
      obtain ⟨i_83, hw⟩ := hw
      refine kiald C h 4 rfl i_83 dX7_bestCondition_83 ?_
      refine lv_aload_n hx hb dX7_bestCondition_84 rfl (lv_at hl 0 rfl) ?_
      refine kget C h 0 rfl rfl inBX7 8 (Nat.le_of_ble_eq_true rfl) wi_fl_X7_23 rfl dX7_bestCondition_85 ?_
      refine lv_iload hx hb dX7_bestCondition_88 (lv_at hl 10 rfl) ?_
      obtain ⟨i_90, hw⟩ := hw
      refine kiald C h 5 rfl i_90 dX7_bestCondition_90 ?_
      refine lv_ior hx hb dX7_bestCondition_91 ?_
      refine lv_iconst (v := (-1)) hx hb dX7_bestCondition_92 (by decide) ?_
      refine lv_ixor hx hb dX7_bestCondition_93 ?_
      refine lv_iand hx hb dX7_bestCondition_94 ?_
      refine kSi (As := [.int (x3 &&& (((gR u_2 7 x14.toNatClampNeg) ||| (gR u_2 8 x14.toNatClampNeg)) ^^^ (-1)))]) (rest := [.long 1]) C h (va_cwS 1 hts (gd_S wi_ml_X7_177 wi_st_X7_bits wi_in_X7 wi_co_X7_bits) rfl rfl rfl hd_X7_bits.2 ⟨Nat.le_of_ble_eq_true rfl, Nat.le_of_ble_eq_true rfl⟩) (mX7_bits l D cy am (x3 &&& (((gR u_2 7 x14.toNatClampNeg) ||| (gR u_2 8 x14.toNatClampNeg)) ^^^ (-1))) _ _ hw) rfl hl.1 rfl (Nat.le_of_ble_eq_true rfl) ⟨Nat.zero_le _, Nat.zero_le _⟩ dX7_bestCondition_95 (fun r_3 u_4 H locs hw h => ?_)
      refine lv_lshl hx hb dX7_bestCondition_98 rfl ?_
      refine lv_lstore (lv' := [(15, .long ((1 : Int64) <<< ((r_3 : Int32).toInt64 &&& 63))), (0, .ref (am 0)), (1, .int x1), (2, .int x2), (3, .int x3), (4, .int x4), (5, .long y5), (7, .long y7), (9, .int x9), (10, .long y10), (12, .long y12), (14, .int x14)]) hx hb dX7_bestCondition_99 hl (by decide) rfl (fun ls hl => ?_)
      refine lv_aload_n hx hb dX7_bestCondition_101 rfl (lv_at hl 1 rfl) ?_
      refine kget C h 0 rfl rfl inBX7 7 (Nat.le_of_ble_eq_true rfl) wi_fl_X7_20 rfl dX7_bestCondition_102 ?_
      refine lv_iload hx hb dX7_bestCondition_105 (lv_at hl 11 rfl) ?_
      obtain ⟨i_107, hw⟩ := hw
      refine kiald C h 4 rfl i_107 dX7_bestCondition_107 ?_
      refine lv_iload hx hb dX7_bestCondition_108 (lv_at hl 8 rfl) ?_
      refine lv_ishr hx hb dX7_bestCondition_110 ?_
      refine lv_iconst (v := 1) hx hb dX7_bestCondition_111 (by decide) ?_
      refine lv_iand hx hb dX7_bestCondition_112 ?_
      refine lv_iconst (v := 1) hx hb dX7_bestCondition_113 (by decide) ?_
      refine lv_icmp_ne (tgt := 127) hx hb dX7_bestCondition_114 (by decide) (fun c_114 => ?_) (fun c_114 => ?_)
      · have hw := hw.1 c_114
        refine lv_aload_n hx hb dX7_bestCondition_127 rfl (lv_at hl 1 rfl) ?_
        refine kget C h 0 rfl rfl inBX7 8 (Nat.le_of_ble_eq_true rfl) wi_fl_X7_23 rfl dX7_bestCondition_128 ?_
        refine lv_iload hx hb dX7_bestCondition_131 (lv_at hl 11 rfl) ?_
        obtain ⟨i_133, hw⟩ := hw
        refine kiald C h 5 rfl i_133 dX7_bestCondition_133 ?_
        refine lv_iload hx hb dX7_bestCondition_134 (lv_at hl 8 rfl) ?_
        refine lv_ishr hx hb dX7_bestCondition_136 ?_
        refine lv_iconst (v := 1) hx hb dX7_bestCondition_137 (by decide) ?_
        refine lv_iand hx hb dX7_bestCondition_138 ?_
        refine lv_iconst (v := 1) hx hb dX7_bestCondition_139 (by decide) ?_
        refine lv_icmp_ne (tgt := 153) hx hb dX7_bestCondition_140 (by decide) (fun c_140 => ?_) (fun c_140 => ?_)
        · have hw := hw.1 c_140
          refine lv_lload hx hb dX7_bestCondition_153 (lv_at hl 9 rfl) ?_
          refine lv_lload hx hb dX7_bestCondition_155 (lv_at hl 0 rfl) ?_
          refine lv_ladd hx hb dX7_bestCondition_157 ?_
          refine lv_topl (fun x10_5 ex10_5 => ?_)
          have hw := hw x10_5 ex10_5
          refine lv_lstore (lv' := [(10, .long x10_5), (15, .long ((1 : Int64) <<< ((r_3 : Int32).toInt64 &&& 63))), (0, .ref (am 0)), (1, .int x1), (2, .int x2), (3, .int x3), (4, .int x4), (5, .long y5), (7, .long y7), (9, .int x9), (12, .long y12), (14, .int x14)]) hx hb dX7_bestCondition_158 hl (by decide) rfl (fun ls hl => ?_)
          exact kX7_bestCondition_b160 C hr hlk g25 g55 x1 x2 x3 x4 y5 y7 x9 x10_5 y12 x14 _ _ _ _ hw h (lv_sub hl [2, 3, 4, 5, 6, 7, 8, 9, 0, 10, 11] rfl)
        · have hw := hw.2 c_140
          refine lv_lload hx hb dX7_bestCondition_143 (lv_at hl 10 rfl) ?_
          refine lv_lload hx hb dX7_bestCondition_145 (lv_at hl 0 rfl) ?_
          refine lv_lsub hx hb dX7_bestCondition_147 ?_
          refine lv_topl (fun x12_6 ex12_6 => ?_)
          have hw := hw x12_6 ex12_6
          refine lv_lstore (lv' := [(12, .long x12_6), (15, .long ((1 : Int64) <<< ((r_3 : Int32).toInt64 &&& 63))), (0, .ref (am 0)), (1, .int x1), (2, .int x2), (3, .int x3), (4, .int x4), (5, .long y5), (7, .long y7), (9, .int x9), (10, .long y10), (14, .int x14)]) hx hb dX7_bestCondition_148 hl (by decide) rfl (fun ls hl => ?_)
          refine lv_goto (tgt := 160) hx hb dX7_bestCondition_150 (by decide) ?_
          exact kX7_bestCondition_b160 C hr hlk g25 g55 x1 x2 x3 x4 y5 y7 x9 y10 x12_6 x14 _ _ _ _ hw h (lv_sub hl [2, 3, 4, 5, 6, 7, 8, 9, 10, 0, 11] rfl)
      · have hw := hw.2 c_114
        refine lv_lload hx hb dX7_bestCondition_117 (lv_at hl 10 rfl) ?_
        refine lv_lload hx hb dX7_bestCondition_119 (lv_at hl 0 rfl) ?_
        refine lv_ladd hx hb dX7_bestCondition_121 ?_
        refine lv_topl (fun x12_7 ex12_7 => ?_)
        have hw := hw x12_7 ex12_7
        refine lv_lstore (lv' := [(12, .long x12_7), (15, .long ((1 : Int64) <<< ((r_3 : Int32).toInt64 &&& 63))), (0, .ref (am 0)), (1, .int x1), (2, .int x2), (3, .int x3), (4, .int x4), (5, .long y5), (7, .long y7), (9, .int x9), (10, .long y10), (14, .int x14)]) hx hb dX7_bestCondition_122 hl (by decide) rfl (fun ls hl => ?_)
        refine lv_goto (tgt := 160) hx hb dX7_bestCondition_124 (by decide) ?_
        exact kX7_bestCondition_b160 C hr hlk g25 g55 x1 x2 x3 x4 y5 y7 x9 y10 x12_7 x14 _ _ _ _ hw h (lv_sub hl [2, 3, 4, 5, 6, 7, 8, 9, 10, 0, 11] rfl)
def wX7_bestCondition_L55 (K25 : Int32 → Int32 → Int32 → Int32 → Int64 → Int64 → Int32 → ST → Prop) (Q : Int32 → ST → Prop) : Nat → Int32 → Int32 → Int32 → Int32 → Int64 → Int64 → Int32 → Int64 → Int64 → Int32 → ST → Prop
  | 0, _, _, _, _, _, _, _, _, _, _, _ => False
  | n + 1, x1, x2, x3, x4, y5, y7, x9, y10, y12, x14, u => wX7_bestCondition_B55 K25 (wX7_bestCondition_L55 K25 Q n) Q x1 x2 x3 x4 y5 y7 x9 y10 y12 x14 u
set_option maxHeartbeats 4000000 in
theorem kX7_bestCondition_L55 {p : Program} {l : Launch} {e : Env} {s : State} {m : MethodId} {args : Array Value} {below : List Frame} {meth : Method} {c : Code} {D : va_G} {cy : CY} {A : Nat → Prop} {am : Nat → Nat} {K25 : Int32 → Int32 → Int32 → Int32 → Int64 → Int64 → Int32 → ST → Prop} {Q : Int32 → ST → Prop} (C : kC p m c cX7_bestCondition 17 s args RX7 D cy A) (hr : meth.sig.returnType = some .int) (hlk : meth.locks = false) (g25 : ∀ (x1 : Int32) (x2 : Int32) (x3 : Int32) (x4 : Int32) (y5 : Int64) (y7 : Int64) (x9 : Int32) (u : ST) (H : Heap) (locs : List Loc) (ls : Array Slot), K25 x1 x2 x3 x4 y5 y7 x9 u → kH D (mW cy am) A s u H locs → lv_has ls 17 [(0, .ref (am 0)), (1, .int x1), (2, .int x2), (3, .int x3), (4, .int x4), (5, .long y5), (7, .long y7), (9, .int x9)] → W p l e (kRm 1) s m args below meth c H locs 0 0 (MQ below (kQi D (mW cy am) cy A Q) args s 0 0 A) (F0 m 25 ls [])) : ∀ n : Nat, ∀ (x1 : Int32) (x2 : Int32) (x3 : Int32) (x4 : Int32) (y5 : Int64) (y7 : Int64) (x9 : Int32) (y10 : Int64) (y12 : Int64) (x14 : Int32) (u : ST) (H : Heap) (locs : List Loc) (ls : Array Slot), wX7_bestCondition_L55 K25 Q n x1 x2 x3 x4 y5 y7 x9 y10 y12 x14 u → kH D (mW cy am) A s u H locs → lv_has ls 17 [(0, .ref (am 0)), (1, .int x1), (2, .int x2), (3, .int x3), (4, .int x4), (5, .long y5), (7, .long y7), (9, .int x9), (10, .long y10), (12, .long y12), (14, .int x14)] → W p l e (kRm 1) s m args below meth c H locs 0 0 (MQ below (kQi D (mW cy am) cy A Q) args s 0 0 A) (F0 m 55 ls []) := by
  intro n
  induction n with
  | zero => intro x1 x2 x3 x4 y5 y7 x9 y10 y12 x14 u H locs ls hw; exact False.elim hw
  | succ n ih => exact kX7_bestCondition_B55 C hr hlk g25 ih
def wX7_bestCondition_B25 (K25 : Int32 → Int32 → Int32 → Int32 → Int64 → Int64 → Int32 → ST → Prop) (Q : Int32 → ST → Prop) (x1 : Int32) (x2 : Int32) (x3 : Int32) (x4 : Int32) (y5 : Int64) (y7 : Int64) (x9 : Int32) (u : ST) : Prop :=
  (((gI u 11) ≤ x9 → Q x4 u) ∧ (¬ (gI u 11) ≤ x9 → ((¬ ((x3 >>> (x9 &&& 31)) &&& 1) = 0 → (∃ n : Nat, wX7_bestCondition_L55 K25 Q n x1 x2 x3 x4 y5 y7 x9 0 0 0 u)) ∧ (((x3 >>> (x9 &&& 31)) &&& 1) = 0 → wX7_bestCondition_b224 K25 Q x1 x2 x3 x4 y5 y7 x9 u))))
set_option maxHeartbeats 4000000 in
set_option maxRecDepth 100000 in
theorem kX7_bestCondition_B25 {p : Program} {l : Launch} {e : Env} {s : State} {m : MethodId} {args : Array Value} {below : List Frame} {meth : Method} {c : Code} {D : va_G} {cy : CY} {A : Nat → Prop} {am : Nat → Nat} {K25 : Int32 → Int32 → Int32 → Int32 → Int64 → Int64 → Int32 → ST → Prop} {Q : Int32 → ST → Prop} (C : kC p m c cX7_bestCondition 17 s args RX7 D cy A) (hr : meth.sig.returnType = some .int) (hlk : meth.locks = false) (g25 : ∀ (x1 : Int32) (x2 : Int32) (x3 : Int32) (x4 : Int32) (y5 : Int64) (y7 : Int64) (x9 : Int32) (u : ST) (H : Heap) (locs : List Loc) (ls : Array Slot), K25 x1 x2 x3 x4 y5 y7 x9 u → kH D (mW cy am) A s u H locs → lv_has ls 17 [(0, .ref (am 0)), (1, .int x1), (2, .int x2), (3, .int x3), (4, .int x4), (5, .long y5), (7, .long y7), (9, .int x9)] → W p l e (kRm 1) s m args below meth c H locs 0 0 (MQ below (kQi D (mW cy am) cy A Q) args s 0 0 A) (F0 m 25 ls [])) : ∀ (x1 : Int32) (x2 : Int32) (x3 : Int32) (x4 : Int32) (y5 : Int64) (y7 : Int64) (x9 : Int32) (u : ST) (H : Heap) (locs : List Loc) (ls : Array Slot), wX7_bestCondition_B25 K25 Q x1 x2 x3 x4 y5 y7 x9 u → kH D (mW cy am) A s u H locs → lv_has ls 17 [(0, .ref (am 0)), (1, .int x1), (2, .int x2), (3, .int x3), (4, .int x4), (5, .long y5), (7, .long y7), (9, .int x9)] → W p l e (kRm 1) s m args below meth c H locs 0 0 (MQ below (kQi D (mW cy am) cy A Q) args s 0 0 A) (F0 m 25 ls []) := by
  intro x1 x2 x3 x4 y5 y7 x9 u H locs ls hw h hl
  obtain ⟨⟨hx, hb, hml, hown, hts⟩, hK, hA⟩ := id C
  unfold wX7_bestCondition_B25 at hw
  refine lv_iload hx hb dX7_bestCondition_25 (lv_at hl 7 rfl) ?_
  refine lv_aload_n hx hb dX7_bestCondition_27 rfl (lv_at hl 0 rfl) ?_
  refine kget C h 0 rfl rfl inBX7 11 (Nat.le_of_ble_eq_true rfl) wi_fl_X7_116 rfl dX7_bestCondition_28 ?_
  refine lv_icmp_ge (tgt := 230) hx hb dX7_bestCondition_31 (by decide) (fun c_31 => ?_) (fun c_31 => ?_)
  · have hw := hw.1 c_31
    refine lv_iload hx hb dX7_bestCondition_230 (lv_at hl 4 rfl) ?_
    exact kretI C hr hlk h hw dX7_bestCondition_232
  · have hw := hw.2 c_31
    refine lv_iload_n hx hb dX7_bestCondition_34 rfl (lv_at hl 3 rfl) ?_
    refine lv_iload hx hb dX7_bestCondition_35 (lv_at hl 7 rfl) ?_
    refine lv_ishr hx hb dX7_bestCondition_37 ?_
    refine lv_iconst (v := 1) hx hb dX7_bestCondition_38 (by decide) ?_
    refine lv_iand hx hb dX7_bestCondition_39 ?_
    refine lv_if_ne (tgt := 46) hx hb dX7_bestCondition_40 (by decide) (fun c_40 => ?_) (fun c_40 => ?_)
    · have hw := hw.1 c_40
      refine lv_lconst (v := 0) hx hb dX7_bestCondition_46 rfl ?_
      refine lv_lstore (lv' := [(10, .long 0), (0, .ref (am 0)), (1, .int x1), (2, .int x2), (3, .int x3), (4, .int x4), (5, .long y5), (7, .long y7), (9, .int x9)]) hx hb dX7_bestCondition_47 hl (by decide) rfl (fun ls hl => ?_)
      refine lv_lconst (v := 0) hx hb dX7_bestCondition_49 rfl ?_
      refine lv_lstore (lv' := [(12, .long 0), (10, .long 0), (0, .ref (am 0)), (1, .int x1), (2, .int x2), (3, .int x3), (4, .int x4), (5, .long y5), (7, .long y7), (9, .int x9)]) hx hb dX7_bestCondition_50 hl (by decide) rfl (fun ls hl => ?_)
      refine lv_iconst (v := 0) hx hb dX7_bestCondition_52 (by decide) ?_
      refine lv_istore (lv' := [(14, .int 0), (12, .long 0), (10, .long 0), (0, .ref (am 0)), (1, .int x1), (2, .int x2), (3, .int x3), (4, .int x4), (5, .long y5), (7, .long y7), (9, .int x9)]) hx hb dX7_bestCondition_53 hl (by decide) rfl (fun ls hl => ?_)
      obtain ⟨n, hw⟩ := hw
      exact kX7_bestCondition_L55 C hr hlk g25 n x1 x2 x3 x4 y5 y7 x9 0 0 0 _ _ _ _ hw h (lv_sub hl [3, 4, 5, 6, 7, 8, 9, 10, 2, 1, 0] rfl)
    · have hw := hw.2 c_40
      refine lv_goto (tgt := 224) hx hb dX7_bestCondition_43 (by decide) ?_
      exact kX7_bestCondition_b224 C hr hlk g25 x1 x2 x3 x4 y5 y7 x9 _ _ _ _ hw h (lv_sub hl [0, 1, 2, 3, 4, 5, 6, 7] rfl)
def wX7_bestCondition_L25 (Q : Int32 → ST → Prop) : Nat → Int32 → Int32 → Int32 → Int32 → Int64 → Int64 → Int32 → ST → Prop
  | 0, _, _, _, _, _, _, _, _ => False
  | n + 1, x1, x2, x3, x4, y5, y7, x9, u => wX7_bestCondition_B25 (wX7_bestCondition_L25 Q n) Q x1 x2 x3 x4 y5 y7 x9 u
set_option maxHeartbeats 4000000 in
theorem kX7_bestCondition_L25 {p : Program} {l : Launch} {e : Env} {s : State} {m : MethodId} {args : Array Value} {below : List Frame} {meth : Method} {c : Code} {D : va_G} {cy : CY} {A : Nat → Prop} {am : Nat → Nat} {Q : Int32 → ST → Prop} (C : kC p m c cX7_bestCondition 17 s args RX7 D cy A) (hr : meth.sig.returnType = some .int) (hlk : meth.locks = false) : ∀ n : Nat, ∀ (x1 : Int32) (x2 : Int32) (x3 : Int32) (x4 : Int32) (y5 : Int64) (y7 : Int64) (x9 : Int32) (u : ST) (H : Heap) (locs : List Loc) (ls : Array Slot), wX7_bestCondition_L25 Q n x1 x2 x3 x4 y5 y7 x9 u → kH D (mW cy am) A s u H locs → lv_has ls 17 [(0, .ref (am 0)), (1, .int x1), (2, .int x2), (3, .int x3), (4, .int x4), (5, .long y5), (7, .long y7), (9, .int x9)] → W p l e (kRm 1) s m args below meth c H locs 0 0 (MQ below (kQi D (mW cy am) cy A Q) args s 0 0 A) (F0 m 25 ls []) := by
  intro n
  induction n with
  | zero => intro x1 x2 x3 x4 y5 y7 x9 u H locs ls hw; exact False.elim hw
  | succ n ih => exact kX7_bestCondition_B25 C hr hlk ih
def wX7_bestCondition (x1 : Int32) (x2 : Int32) (u : ST) (Q : Int32 → ST → Prop) : Prop :=
  wX7_allCases  u (fun r_1 u_2 => (∃ n : Nat, wX7_bestCondition_L25 Q n x1 x2 ((r_1 - 1) &&& ((x1 ||| x2) ^^^ (-1))) (-1) 0 0 0 u_2))
set_option maxHeartbeats 4000000 in
set_option maxRecDepth 100000 in
theorem mX7_bestCondition (l : Launch) (D : va_G) (cy : CY) (am : Nat → Nat) (x1 : Int32) (x2 : Int32) (u : ST) (sz : Nat) {Q : Int32 → ST → Prop} (hw : wX7_bestCondition x1 x2 u Q) : Met l yX7_bestCondition (wM yX7_bestCondition cX7_bestCondition 17 (some .int)) (kRm 1) (kPc D (mW cy am) cy u sz [.ref (am 0), .int x1, .int x2]) (kQi D (mW cy am) cy (va_A (mW cy am u) sz) Q) 0 0 (va_A (mW cy am u) sz) := by
  refine kMet pn_X7_bestCondition (Nat.le_of_ble_eq_true rfl) (fun p e s m below meth c ls hsz C hr hlk hex h hl => ?_)
  have hl : lv_has ls 17 [(0, .ref (am 0)), (1, .int x1), (2, .int x2)] := hl
  obtain ⟨⟨hx, hb, hml, hown, hts⟩, hK, hA⟩ := id C
  unfold wX7_bestCondition at hw
  have h : kH D (mW cy am) (va_A (mW cy am u) sz) s u s.heap [] := h
  refine lv_aload_n hx hb dX7_bestCondition_0 rfl (lv_at hl 0 rfl) ?_
  refine kVi (As := []) (rest := []) C h (cwV 0 hts (gd_V wi_ml_X7_163 wi_im_X7_allCases wi_se_X7_allCases wi_in_X7 wi_co_X7_allCases) rfl rfl rfl hd_X7_allCases ⟨Nat.le_of_ble_eq_true rfl, Nat.le_of_ble_eq_true rfl⟩) 0 rfl rfl rfl (mX7_allCases l D cy am  _ _ hw) rfl hl.1 rfl (Nat.le_of_ble_eq_true rfl) ⟨Nat.zero_le _, Nat.zero_le _⟩ dX7_bestCondition_1 (fun r_1 u_2 H locs hw h => ?_)
  refine lv_iconst (v := 1) hx hb dX7_bestCondition_4 (by decide) ?_
  refine lv_isub hx hb dX7_bestCondition_5 ?_
  refine lv_iload_n hx hb dX7_bestCondition_6 rfl (lv_at hl 1 rfl) ?_
  refine lv_iload_n hx hb dX7_bestCondition_7 rfl (lv_at hl 2 rfl) ?_
  refine lv_ior hx hb dX7_bestCondition_8 ?_
  refine lv_iconst (v := (-1)) hx hb dX7_bestCondition_9 (by decide) ?_
  refine lv_ixor hx hb dX7_bestCondition_10 ?_
  refine lv_iand hx hb dX7_bestCondition_11 ?_
  refine lv_istore_n (lv' := [(3, .int ((r_1 - 1) &&& ((x1 ||| x2) ^^^ (-1)))), (0, .ref (am 0)), (1, .int x1), (2, .int x2)]) hx hb dX7_bestCondition_12 rfl hl (by decide) rfl (fun ls hl => ?_)
  refine lv_iconst (v := (-1)) hx hb dX7_bestCondition_13 (by decide) ?_
  refine lv_istore (lv' := [(4, .int (-1)), (3, .int ((r_1 - 1) &&& ((x1 ||| x2) ^^^ (-1)))), (0, .ref (am 0)), (1, .int x1), (2, .int x2)]) hx hb dX7_bestCondition_14 hl (by decide) rfl (fun ls hl => ?_)
  refine lv_lconst (v := 0) hx hb dX7_bestCondition_16 rfl ?_
  refine lv_lstore (lv' := [(5, .long 0), (4, .int (-1)), (3, .int ((r_1 - 1) &&& ((x1 ||| x2) ^^^ (-1)))), (0, .ref (am 0)), (1, .int x1), (2, .int x2)]) hx hb dX7_bestCondition_17 hl (by decide) rfl (fun ls hl => ?_)
  refine lv_lconst (v := 0) hx hb dX7_bestCondition_19 rfl ?_
  refine lv_lstore (lv' := [(7, .long 0), (5, .long 0), (4, .int (-1)), (3, .int ((r_1 - 1) &&& ((x1 ||| x2) ^^^ (-1)))), (0, .ref (am 0)), (1, .int x1), (2, .int x2)]) hx hb dX7_bestCondition_20 hl (by decide) rfl (fun ls hl => ?_)
  refine lv_iconst (v := 0) hx hb dX7_bestCondition_22 (by decide) ?_
  refine lv_istore (lv' := [(9, .int 0), (7, .long 0), (5, .long 0), (4, .int (-1)), (3, .int ((r_1 - 1) &&& ((x1 ||| x2) ^^^ (-1)))), (0, .ref (am 0)), (1, .int x1), (2, .int x2)]) hx hb dX7_bestCondition_23 hl (by decide) rfl (fun ls hl => ?_)
  obtain ⟨n, hw⟩ := hw
  exact kX7_bestCondition_L25 C hr hlk n x1 x2 ((r_1 - 1) &&& ((x1 ||| x2) ^^^ (-1))) (-1) 0 0 0 _ _ _ _ hw h (lv_sub hl [5, 6, 7, 4, 3, 2, 1, 0] rfl)

def wX7_write_b34 (K4 : Int32 → Int32 → ST → Prop) (Q : ST → Prop) (x2 : Int32) (xs0 : Int32) (xs1 : Int32) (u : ST) : Prop :=
  K4 (xs0 + xs1) (x2 + 1) u
set_option maxHeartbeats 4000000 in
set_option maxRecDepth 100000 in
theorem kX7_write_b34 {p : Program} {l : Launch} {e : Env} {s : State} {m : MethodId} {args : Array Value} {below : List Frame} {meth : Method} {c : Code} {D : va_G} {cy : CY} {A : Nat → Prop} {am : Nat → Nat} {K4 : Int32 → Int32 → ST → Prop} {Q : ST → Prop} (C : kC p m c cX7_write 4 s args RX7 D cy A) (hr : meth.sig.returnType = none) (hlk : meth.locks = false) (g4 : ∀ (x1 : Int32) (x2 : Int32) (u : ST) (H : Heap) (locs : List Loc) (ls : Array Slot), K4 x1 x2 u → kH D (mW cy am) A s u H locs → lv_has ls 4 [(0, .ref (am 0)), (1, .int x1), (2, .int x2)] → W p l e (kRm 0) s m args below meth c H locs 0 0 (MQ below (kQv D (mW cy am) cy A Q) args s 0 0 A) (F0 m 4 ls [])) : ∀ (x2 : Int32) (xs0 : Int32) (xs1 : Int32) (u : ST) (H : Heap) (locs : List Loc) (ls : Array Slot), wX7_write_b34 K4 Q x2 xs0 xs1 u → kH D (mW cy am) A s u H locs → lv_has ls 4 [(0, .ref (am 0)), (2, .int x2)] → W p l e (kRm 0) s m args below meth c H locs 0 0 (MQ below (kQv D (mW cy am) cy A Q) args s 0 0 A) (F0 m 34 ls [.int xs1, .int xs0]) := by
  intro x2 xs0 xs1 u H locs ls hw h hl
  obtain ⟨⟨hx, hb, hml, hown, hts⟩, hK, hA⟩ := id C
  unfold wX7_write_b34 at hw
  refine lv_iadd hx hb dX7_write_34 ?_
  refine lv_istore_n (lv' := [(1, .int (xs0 + xs1)), (0, .ref (am 0)), (2, .int x2)]) hx hb dX7_write_35 rfl hl (by decide) rfl (fun ls hl => ?_)
  refine lv_iinc (v := x2 + 1) (lv' := [(2, .int (x2 + 1)), (1, .int (xs0 + xs1)), (0, .ref (am 0))]) hx hb dX7_write_36 hl (k := 2) rfl rfl (by decide) rfl (fun ls hl => ?_)
  refine lv_goto (tgt := 4) hx hb dX7_write_39 (by decide) ?_
  exact g4 (xs0 + xs1) (x2 + 1) _ _ _ _ hw h (lv_sub hl [2, 1, 0] rfl)
def wX7_write_b149 (K49 : Int32 → ST → Prop) (Q : ST → Prop) (x2 : Int32) (u : ST) : Prop :=
  K49 (x2 + 1) u
set_option maxHeartbeats 4000000 in
set_option maxRecDepth 100000 in
theorem kX7_write_b149 {p : Program} {l : Launch} {e : Env} {s : State} {m : MethodId} {args : Array Value} {below : List Frame} {meth : Method} {c : Code} {D : va_G} {cy : CY} {A : Nat → Prop} {am : Nat → Nat} {K49 : Int32 → ST → Prop} {Q : ST → Prop} (C : kC p m c cX7_write 4 s args RX7 D cy A) (hr : meth.sig.returnType = none) (hlk : meth.locks = false) (g49 : ∀ (x2 : Int32) (u : ST) (H : Heap) (locs : List Loc) (ls : Array Slot), K49 x2 u → kH D (mW cy am) A s u H locs → lv_has ls 4 [(0, .ref (am 0)), (2, .int x2)] → W p l e (kRm 0) s m args below meth c H locs 0 0 (MQ below (kQv D (mW cy am) cy A Q) args s 0 0 A) (F0 m 49 ls [])) : ∀ (x2 : Int32) (u : ST) (H : Heap) (locs : List Loc) (ls : Array Slot), wX7_write_b149 K49 Q x2 u → kH D (mW cy am) A s u H locs → lv_has ls 4 [(0, .ref (am 0)), (2, .int x2)] → W p l e (kRm 0) s m args below meth c H locs 0 0 (MQ below (kQv D (mW cy am) cy A Q) args s 0 0 A) (F0 m 149 ls []) := by
  intro x2 u H locs ls hw h hl
  obtain ⟨⟨hx, hb, hml, hown, hts⟩, hK, hA⟩ := id C
  unfold wX7_write_b149 at hw
  refine lv_iinc (v := x2 + 1) (lv' := [(2, .int (x2 + 1)), (0, .ref (am 0))]) hx hb dX7_write_149 hl (k := 1) rfl rfl (by decide) rfl (fun ls hl => ?_)
  refine lv_goto (tgt := 49) hx hb dX7_write_152 (by decide) ?_
  exact g49 (x2 + 1) _ _ _ _ hw h (lv_sub hl [1, 0] rfl)
def wX7_write_B49 (K49 : Int32 → ST → Prop) (Q : ST → Prop) (x2 : Int32) (u : ST) : Prop :=
  (((gI u 21) ≤ x2 → Q u) ∧ (¬ (gI u 21) ≤ x2 → (vp_in x2 1000 ∧ (vp_in x2 1000 ∧ ((0 ≤ (gR u 22 x2.toNatClampNeg) → (vp_in x2 1000 ∧ (vp_in (gR u 27 x2.toNatClampNeg) 3000 ∧ (vp_in x2 1000 ∧ (vp_in (gR (sR u 32 (gR u 27 x2.toNatClampNeg).toNatClampNeg (gR u 22 x2.toNatClampNeg)) 24 x2.toNatClampNeg) 1000 ∧ (vp_in ((gR u 27 x2.toNatClampNeg) + 1) 3000 ∧ (vp_in x2 1000 ∧ (vp_in (gR (sR (sR u 32 (gR u 27 x2.toNatClampNeg).toNatClampNeg (gR u 22 x2.toNatClampNeg)) 32 ((gR u 27 x2.toNatClampNeg) + 1).toNatClampNeg ((gR (sR u 32 (gR u 27 x2.toNatClampNeg).toNatClampNeg (gR u 22 x2.toNatClampNeg)) 27 (gR (sR u 32 (gR u 27 x2.toNatClampNeg).toNatClampNeg (gR u 22 x2.toNatClampNeg)) 24 x2.toNatClampNeg).toNatClampNeg) >>> (8 &&& 31))) 24 x2.toNatClampNeg) 1000 ∧ (vp_in ((gR u 27 x2.toNatClampNeg) + 2) 3000 ∧ wX7_write_b149 K49 Q x2 (sR (sR (sR u 32 (gR u 27 x2.toNatClampNeg).toNatClampNeg (gR u 22 x2.toNatClampNeg)) 32 ((gR u 27 x2.toNatClampNeg) + 1).toNatClampNeg ((gR (sR u 32 (gR u 27 x2.toNatClampNeg).toNatClampNeg (gR u 22 x2.toNatClampNeg)) 27 (gR (sR u 32 (gR u 27 x2.toNatClampNeg).toNatClampNeg (gR u 22 x2.toNatClampNeg)) 24 x2.toNatClampNeg).toNatClampNeg) >>> (8 &&& 31))) 32 ((gR u 27 x2.toNatClampNeg) + 2).toNatClampNeg ((gR (sR (sR u 32 (gR u 27 x2.toNatClampNeg).toNatClampNeg (gR u 22 x2.toNatClampNeg)) 32 ((gR u 27 x2.toNatClampNeg) + 1).toNatClampNeg ((gR (sR u 32 (gR u 27 x2.toNatClampNeg).toNatClampNeg (gR u 22 x2.toNatClampNeg)) 27 (gR (sR u 32 (gR u 27 x2.toNatClampNeg).toNatClampNeg (gR u 22 x2.toNatClampNeg)) 24 x2.toNatClampNeg).toNatClampNeg) >>> (8 &&& 31))) 27 (gR (sR (sR u 32 (gR u 27 x2.toNatClampNeg).toNatClampNeg (gR u 22 x2.toNatClampNeg)) 32 ((gR u 27 x2.toNatClampNeg) + 1).toNatClampNeg ((gR (sR u 32 (gR u 27 x2.toNatClampNeg).toNatClampNeg (gR u 22 x2.toNatClampNeg)) 27 (gR (sR u 32 (gR u 27 x2.toNatClampNeg).toNatClampNeg (gR u 22 x2.toNatClampNeg)) 24 x2.toNatClampNeg).toNatClampNeg) >>> (8 &&& 31))) 24 x2.toNatClampNeg).toNatClampNeg) &&& 255))))))))))) ∧ (¬ 0 ≤ (gR u 22 x2.toNatClampNeg) → (vp_in x2 1000 ∧ (vp_in (gR u 27 x2.toNatClampNeg) 3000 ∧ wX7_write_b149 K49 Q x2 (sR u 32 (gR u 27 x2.toNatClampNeg).toNatClampNeg (128 + (gR u 25 x2.toNatClampNeg)))))))))))
set_option maxHeartbeats 4000000 in
set_option maxRecDepth 100000 in
theorem kX7_write_B49 {p : Program} {l : Launch} {e : Env} {s : State} {m : MethodId} {args : Array Value} {below : List Frame} {meth : Method} {c : Code} {D : va_G} {cy : CY} {A : Nat → Prop} {am : Nat → Nat} {K49 : Int32 → ST → Prop} {Q : ST → Prop} (C : kC p m c cX7_write 4 s args RX7 D cy A) (hr : meth.sig.returnType = none) (hlk : meth.locks = false) (g49 : ∀ (x2 : Int32) (u : ST) (H : Heap) (locs : List Loc) (ls : Array Slot), K49 x2 u → kH D (mW cy am) A s u H locs → lv_has ls 4 [(0, .ref (am 0)), (2, .int x2)] → W p l e (kRm 0) s m args below meth c H locs 0 0 (MQ below (kQv D (mW cy am) cy A Q) args s 0 0 A) (F0 m 49 ls [])) : ∀ (x2 : Int32) (u : ST) (H : Heap) (locs : List Loc) (ls : Array Slot), wX7_write_B49 K49 Q x2 u → kH D (mW cy am) A s u H locs → lv_has ls 4 [(0, .ref (am 0)), (2, .int x2)] → W p l e (kRm 0) s m args below meth c H locs 0 0 (MQ below (kQv D (mW cy am) cy A Q) args s 0 0 A) (F0 m 49 ls []) := by
  intro x2 u H locs ls hw h hl
  obtain ⟨⟨hx, hb, hml, hown, hts⟩, hK, hA⟩ := id C
  unfold wX7_write_B49 at hw
  refine lv_iload_n hx hb dX7_write_49 rfl (lv_at hl 1 rfl) ?_
  refine lv_aload_n hx hb dX7_write_50 rfl (lv_at hl 0 rfl) ?_
  refine kget C h 0 rfl rfl inBX7 21 (Nat.le_of_ble_eq_true rfl) wi_fl_X7_157 rfl dX7_write_51 ?_
  refine lv_icmp_ge (tgt := 155) hx hb dX7_write_54 (by decide) (fun c_54 => ?_) (fun c_54 => ?_)
  · have hw := hw.1 c_54
    exact kretV C hr hlk h hw dX7_write_155
  · have hw := hw.2 c_54
    refine lv_aload_n hx hb dX7_write_57 rfl (lv_at hl 0 rfl) ?_
    refine kget C h 0 rfl rfl inBX7 27 (Nat.le_of_ble_eq_true rfl) wi_fl_X7_44 rfl dX7_write_58 ?_
    refine lv_iload_n hx hb dX7_write_61 rfl (lv_at hl 1 rfl) ?_
    obtain ⟨i_62, hw⟩ := hw
    refine kiald C h 12 rfl i_62 dX7_write_62 ?_
    refine lv_istore_n (lv' := [(3, .int (gR u 27 x2.toNatClampNeg)), (0, .ref (am 0)), (2, .int x2)]) hx hb dX7_write_63 rfl hl (by decide) rfl (fun ls hl => ?_)
    refine lv_aload_n hx hb dX7_write_64 rfl (lv_at hl 1 rfl) ?_
    refine kget C h 0 rfl rfl inBX7 22 (Nat.le_of_ble_eq_true rfl) wi_fl_X7_29 rfl dX7_write_65 ?_
    refine lv_iload_n hx hb dX7_write_68 rfl (lv_at hl 2 rfl) ?_
    obtain ⟨i_69, hw⟩ := hw
    refine kiald C h 7 rfl i_69 dX7_write_69 ?_
    refine lv_if_ge (tgt := 92) hx hb dX7_write_70 (by decide) (fun c_70 => ?_) (fun c_70 => ?_)
    · have hw := hw.1 c_70
      refine lv_aload_n hx hb dX7_write_92 rfl (lv_at hl 1 rfl) ?_
      refine kget C h 0 rfl rfl inBX7 32 (Nat.le_of_ble_eq_true rfl) wi_fl_X7_59 rfl dX7_write_93 ?_
      refine lv_iload_n hx hb dX7_write_96 rfl (lv_at hl 0 rfl) ?_
      refine lv_aload_n hx hb dX7_write_97 rfl (lv_at hl 1 rfl) ?_
      refine kget C h 0 rfl rfl inBX7 22 (Nat.le_of_ble_eq_true rfl) wi_fl_X7_29 rfl dX7_write_98 ?_
      refine lv_iload_n hx hb dX7_write_101 rfl (lv_at hl 2 rfl) ?_
      obtain ⟨i_102, hw⟩ := hw
      refine kiald C h 7 rfl i_102 dX7_write_102 ?_
      obtain ⟨i_103, hw⟩ := hw
      refine kiast C h 17 rfl i_103 (mR_32 cy am u (gR u 27 x2.toNatClampNeg).toNatClampNeg (gR u 22 x2.toNatClampNeg)) dX7_write_103 (fun H locs h => ?_)
      refine lv_aload_n hx hb dX7_write_104 rfl (lv_at hl 1 rfl) ?_
      refine kget C h 0 rfl rfl inBX7 32 (Nat.le_of_ble_eq_true rfl) wi_fl_X7_59 rfl dX7_write_105 ?_
      refine lv_iload_n hx hb dX7_write_108 rfl (lv_at hl 0 rfl) ?_
      refine lv_iconst (v := 1) hx hb dX7_write_109 (by decide) ?_
      refine lv_iadd hx hb dX7_write_110 ?_
      refine lv_aload_n hx hb dX7_write_111 rfl (lv_at hl 1 rfl) ?_
      refine kget C h 0 rfl rfl inBX7 27 (Nat.le_of_ble_eq_true rfl) wi_fl_X7_44 rfl dX7_write_112 ?_
      refine lv_aload_n hx hb dX7_write_115 rfl (lv_at hl 1 rfl) ?_
      refine kget C h 0 rfl rfl inBX7 24 (Nat.le_of_ble_eq_true rfl) wi_fl_X7_35 rfl dX7_write_116 ?_
      refine lv_iload_n hx hb dX7_write_119 rfl (lv_at hl 2 rfl) ?_
      obtain ⟨i_120, hw⟩ := hw
      refine kiald C h 9 rfl i_120 dX7_write_120 ?_
      obtain ⟨i_121, hw⟩ := hw
      refine kiald C h 12 rfl i_121 dX7_write_121 ?_
      refine lv_bipush (v := 8) hx hb dX7_write_122 (by decide) ?_
      refine lv_ishr hx hb dX7_write_124 ?_
      obtain ⟨i_125, hw⟩ := hw
      refine kiast C h 17 rfl i_125 (mR_32 cy am (sR u 32 (gR u 27 x2.toNatClampNeg).toNatClampNeg (gR u 22 x2.toNatClampNeg)) ((gR u 27 x2.toNatClampNeg) + 1).toNatClampNeg ((gR (sR u 32 (gR u 27 x2.toNatClampNeg).toNatClampNeg (gR u 22 x2.toNatClampNeg)) 27 (gR (sR u 32 (gR u 27 x2.toNatClampNeg).toNatClampNeg (gR u 22 x2.toNatClampNeg)) 24 x2.toNatClampNeg).toNatClampNeg) >>> (8 &&& 31))) dX7_write_125 (fun H locs h => ?_)
      refine lv_aload_n hx hb dX7_write_126 rfl (lv_at hl 1 rfl) ?_
      refine kget C h 0 rfl rfl inBX7 32 (Nat.le_of_ble_eq_true rfl) wi_fl_X7_59 rfl dX7_write_127 ?_
      refine lv_iload_n hx hb dX7_write_130 rfl (lv_at hl 0 rfl) ?_
      refine lv_iconst (v := 2) hx hb dX7_write_131 (by decide) ?_
      refine lv_iadd hx hb dX7_write_132 ?_
      refine lv_aload_n hx hb dX7_write_133 rfl (lv_at hl 1 rfl) ?_
      refine kget C h 0 rfl rfl inBX7 27 (Nat.le_of_ble_eq_true rfl) wi_fl_X7_44 rfl dX7_write_134 ?_
      refine lv_aload_n hx hb dX7_write_137 rfl (lv_at hl 1 rfl) ?_
      refine kget C h 0 rfl rfl inBX7 24 (Nat.le_of_ble_eq_true rfl) wi_fl_X7_35 rfl dX7_write_138 ?_
      refine lv_iload_n hx hb dX7_write_141 rfl (lv_at hl 2 rfl) ?_
      obtain ⟨i_142, hw⟩ := hw
      refine kiald C h 9 rfl i_142 dX7_write_142 ?_
      obtain ⟨i_143, hw⟩ := hw
      refine kiald C h 12 rfl i_143 dX7_write_143 ?_
      refine lv_sipush (v := 255) hx hb dX7_write_144 (by decide) ?_
      refine lv_iand hx hb dX7_write_147 ?_
      obtain ⟨i_148, hw⟩ := hw
      refine kiast C h 17 rfl i_148 (mR_32 cy am (sR (sR u 32 (gR u 27 x2.toNatClampNeg).toNatClampNeg (gR u 22 x2.toNatClampNeg)) 32 ((gR u 27 x2.toNatClampNeg) + 1).toNatClampNeg ((gR (sR u 32 (gR u 27 x2.toNatClampNeg).toNatClampNeg (gR u 22 x2.toNatClampNeg)) 27 (gR (sR u 32 (gR u 27 x2.toNatClampNeg).toNatClampNeg (gR u 22 x2.toNatClampNeg)) 24 x2.toNatClampNeg).toNatClampNeg) >>> (8 &&& 31))) ((gR u 27 x2.toNatClampNeg) + 2).toNatClampNeg ((gR (sR (sR u 32 (gR u 27 x2.toNatClampNeg).toNatClampNeg (gR u 22 x2.toNatClampNeg)) 32 ((gR u 27 x2.toNatClampNeg) + 1).toNatClampNeg ((gR (sR u 32 (gR u 27 x2.toNatClampNeg).toNatClampNeg (gR u 22 x2.toNatClampNeg)) 27 (gR (sR u 32 (gR u 27 x2.toNatClampNeg).toNatClampNeg (gR u 22 x2.toNatClampNeg)) 24 x2.toNatClampNeg).toNatClampNeg) >>> (8 &&& 31))) 27 (gR (sR (sR u 32 (gR u 27 x2.toNatClampNeg).toNatClampNeg (gR u 22 x2.toNatClampNeg)) 32 ((gR u 27 x2.toNatClampNeg) + 1).toNatClampNeg ((gR (sR u 32 (gR u 27 x2.toNatClampNeg).toNatClampNeg (gR u 22 x2.toNatClampNeg)) 27 (gR (sR u 32 (gR u 27 x2.toNatClampNeg).toNatClampNeg (gR u 22 x2.toNatClampNeg)) 24 x2.toNatClampNeg).toNatClampNeg) >>> (8 &&& 31))) 24 x2.toNatClampNeg).toNatClampNeg) &&& 255)) dX7_write_148 (fun H locs h => ?_)
      exact kX7_write_b149 C hr hlk g49 x2 _ _ _ _ hw h (lv_sub hl [1, 2] rfl)
    · have hw := hw.2 c_70
      refine lv_aload_n hx hb dX7_write_73 rfl (lv_at hl 1 rfl) ?_
      refine kget C h 0 rfl rfl inBX7 32 (Nat.le_of_ble_eq_true rfl) wi_fl_X7_59 rfl dX7_write_74 ?_
      refine lv_iload_n hx hb dX7_write_77 rfl (lv_at hl 0 rfl) ?_
      refine lv_sipush (v := 128) hx hb dX7_write_78 (by decide) ?_
      refine lv_aload_n hx hb dX7_write_81 rfl (lv_at hl 1 rfl) ?_
      refine kget C h 0 rfl rfl inBX7 25 (Nat.le_of_ble_eq_true rfl) wi_fl_X7_38 rfl dX7_write_82 ?_
      refine lv_iload_n hx hb dX7_write_85 rfl (lv_at hl 2 rfl) ?_
      obtain ⟨i_86, hw⟩ := hw
      refine kiald C h 10 rfl i_86 dX7_write_86 ?_
      refine lv_iadd hx hb dX7_write_87 ?_
      obtain ⟨i_88, hw⟩ := hw
      refine kiast C h 17 rfl i_88 (mR_32 cy am u (gR u 27 x2.toNatClampNeg).toNatClampNeg (128 + (gR u 25 x2.toNatClampNeg))) dX7_write_88 (fun H locs h => ?_)
      refine lv_goto (tgt := 149) hx hb dX7_write_89 (by decide) ?_
      exact kX7_write_b149 C hr hlk g49 x2 _ _ _ _ hw h (lv_sub hl [1, 2] rfl)
def wX7_write_L49 (Q : ST → Prop) : Nat → Int32 → ST → Prop
  | 0, _, _ => False
  | n + 1, x2, u => wX7_write_B49 (wX7_write_L49 Q n) Q x2 u
set_option maxHeartbeats 4000000 in
theorem kX7_write_L49 {p : Program} {l : Launch} {e : Env} {s : State} {m : MethodId} {args : Array Value} {below : List Frame} {meth : Method} {c : Code} {D : va_G} {cy : CY} {A : Nat → Prop} {am : Nat → Nat} {Q : ST → Prop} (C : kC p m c cX7_write 4 s args RX7 D cy A) (hr : meth.sig.returnType = none) (hlk : meth.locks = false) : ∀ n : Nat, ∀ (x2 : Int32) (u : ST) (H : Heap) (locs : List Loc) (ls : Array Slot), wX7_write_L49 Q n x2 u → kH D (mW cy am) A s u H locs → lv_has ls 4 [(0, .ref (am 0)), (2, .int x2)] → W p l e (kRm 0) s m args below meth c H locs 0 0 (MQ below (kQv D (mW cy am) cy A Q) args s 0 0 A) (F0 m 49 ls []) := by
  intro n
  induction n with
  | zero => intro x2 u H locs ls hw; exact False.elim hw
  | succ n ih => exact kX7_write_B49 C hr hlk ih
def wX7_write_B4 (K4 : Int32 → Int32 → ST → Prop) (Q : ST → Prop) (x1 : Int32) (x2 : Int32) (u : ST) : Prop :=
  (((gI u 21) ≤ x2 → (∃ n : Nat, wX7_write_L49 Q n 0 (sI u 33 x1))) ∧ (¬ (gI u 21) ≤ x2 → (vp_in x2 1000 ∧ (vp_in x2 1000 ∧ ((0 ≤ (gR (sR u 27 x2.toNatClampNeg x1) 22 x2.toNatClampNeg) → wX7_write_b34 K4 Q x2 x1 3 (sR u 27 x2.toNatClampNeg x1)) ∧ (¬ 0 ≤ (gR (sR u 27 x2.toNatClampNeg x1) 22 x2.toNatClampNeg) → wX7_write_b34 K4 Q x2 x1 1 (sR u 27 x2.toNatClampNeg x1)))))))
set_option maxHeartbeats 4000000 in
set_option maxRecDepth 100000 in
theorem kX7_write_B4 {p : Program} {l : Launch} {e : Env} {s : State} {m : MethodId} {args : Array Value} {below : List Frame} {meth : Method} {c : Code} {D : va_G} {cy : CY} {A : Nat → Prop} {am : Nat → Nat} {K4 : Int32 → Int32 → ST → Prop} {Q : ST → Prop} (C : kC p m c cX7_write 4 s args RX7 D cy A) (hr : meth.sig.returnType = none) (hlk : meth.locks = false) (g4 : ∀ (x1 : Int32) (x2 : Int32) (u : ST) (H : Heap) (locs : List Loc) (ls : Array Slot), K4 x1 x2 u → kH D (mW cy am) A s u H locs → lv_has ls 4 [(0, .ref (am 0)), (1, .int x1), (2, .int x2)] → W p l e (kRm 0) s m args below meth c H locs 0 0 (MQ below (kQv D (mW cy am) cy A Q) args s 0 0 A) (F0 m 4 ls [])) : ∀ (x1 : Int32) (x2 : Int32) (u : ST) (H : Heap) (locs : List Loc) (ls : Array Slot), wX7_write_B4 K4 Q x1 x2 u → kH D (mW cy am) A s u H locs → lv_has ls 4 [(0, .ref (am 0)), (1, .int x1), (2, .int x2)] → W p l e (kRm 0) s m args below meth c H locs 0 0 (MQ below (kQv D (mW cy am) cy A Q) args s 0 0 A) (F0 m 4 ls []) := by
  intro x1 x2 u H locs ls hw h hl
  obtain ⟨⟨hx, hb, hml, hown, hts⟩, hK, hA⟩ := id C
  unfold wX7_write_B4 at hw
  refine lv_iload_n hx hb dX7_write_4 rfl (lv_at hl 2 rfl) ?_
  refine lv_aload_n hx hb dX7_write_5 rfl (lv_at hl 0 rfl) ?_
  refine kget C h 0 rfl rfl inBX7 21 (Nat.le_of_ble_eq_true rfl) wi_fl_X7_157 rfl dX7_write_6 ?_
  refine lv_icmp_ge (tgt := 42) hx hb dX7_write_9 (by decide) (fun c_9 => ?_) (fun c_9 => ?_)
  · have hw := hw.1 c_9
    refine lv_aload_n hx hb dX7_write_42 rfl (lv_at hl 0 rfl) ?_
    refine lv_iload_n hx hb dX7_write_43 rfl (lv_at hl 1 rfl) ?_
    refine kput C h 0 rfl rfl inBX7 tyX7_ok nmX7 33 (Nat.le_of_ble_eq_true rfl) wi_fl_X7_160 rfl rfl rfl (Nat.le_of_ble_eq_true rfl) (mS_33 cy am u x1) dX7_write_44 (fun H locs h => ?_)
    refine lv_iconst (v := 0) hx hb dX7_write_47 (by decide) ?_
    refine lv_istore_n (lv' := [(2, .int 0), (0, .ref (am 0)), (1, .int x1)]) hx hb dX7_write_48 rfl hl (by decide) rfl (fun ls hl => ?_)
    obtain ⟨n, hw⟩ := hw
    exact kX7_write_L49 C hr hlk n 0 _ _ _ _ hw h (lv_sub hl [1, 0] rfl)
  · have hw := hw.2 c_9
    refine lv_aload_n hx hb dX7_write_12 rfl (lv_at hl 0 rfl) ?_
    refine kget C h 0 rfl rfl inBX7 27 (Nat.le_of_ble_eq_true rfl) wi_fl_X7_44 rfl dX7_write_13 ?_
    refine lv_iload_n hx hb dX7_write_16 rfl (lv_at hl 2 rfl) ?_
    refine lv_iload_n hx hb dX7_write_17 rfl (lv_at hl 1 rfl) ?_
    obtain ⟨i_18, hw⟩ := hw
    refine kiast C h 12 rfl i_18 (mR_27 cy am u x2.toNatClampNeg x1) dX7_write_18 (fun H locs h => ?_)
    refine lv_iload_n hx hb dX7_write_19 rfl (lv_at hl 1 rfl) ?_
    refine lv_aload_n hx hb dX7_write_20 rfl (lv_at hl 0 rfl) ?_
    refine kget C h 0 rfl rfl inBX7 22 (Nat.le_of_ble_eq_true rfl) wi_fl_X7_29 rfl dX7_write_21 ?_
    refine lv_iload_n hx hb dX7_write_24 rfl (lv_at hl 2 rfl) ?_
    obtain ⟨i_25, hw⟩ := hw
    refine kiald C h 7 rfl i_25 dX7_write_25 ?_
    refine lv_if_ge (tgt := 33) hx hb dX7_write_26 (by decide) (fun c_26 => ?_) (fun c_26 => ?_)
    · have hw := hw.1 c_26
      refine lv_iconst (v := 3) hx hb dX7_write_33 (by decide) ?_
      exact kX7_write_b34 C hr hlk g4 x2 x1 3 _ _ _ _ hw h (lv_sub hl [0, 2] rfl)
    · have hw := hw.2 c_26
      refine lv_iconst (v := 1) hx hb dX7_write_29 (by decide) ?_
      refine lv_goto (tgt := 34) hx hb dX7_write_30 (by decide) ?_
      exact kX7_write_b34 C hr hlk g4 x2 x1 1 _ _ _ _ hw h (lv_sub hl [0, 2] rfl)
def wX7_write_L4 (Q : ST → Prop) : Nat → Int32 → Int32 → ST → Prop
  | 0, _, _, _ => False
  | n + 1, x1, x2, u => wX7_write_B4 (wX7_write_L4 Q n) Q x1 x2 u
set_option maxHeartbeats 4000000 in
theorem kX7_write_L4 {p : Program} {l : Launch} {e : Env} {s : State} {m : MethodId} {args : Array Value} {below : List Frame} {meth : Method} {c : Code} {D : va_G} {cy : CY} {A : Nat → Prop} {am : Nat → Nat} {Q : ST → Prop} (C : kC p m c cX7_write 4 s args RX7 D cy A) (hr : meth.sig.returnType = none) (hlk : meth.locks = false) : ∀ n : Nat, ∀ (x1 : Int32) (x2 : Int32) (u : ST) (H : Heap) (locs : List Loc) (ls : Array Slot), wX7_write_L4 Q n x1 x2 u → kH D (mW cy am) A s u H locs → lv_has ls 4 [(0, .ref (am 0)), (1, .int x1), (2, .int x2)] → W p l e (kRm 0) s m args below meth c H locs 0 0 (MQ below (kQv D (mW cy am) cy A Q) args s 0 0 A) (F0 m 4 ls []) := by
  intro n
  induction n with
  | zero => intro x1 x2 u H locs ls hw; exact False.elim hw
  | succ n ih => exact kX7_write_B4 C hr hlk ih
def wX7_write (u : ST) (Q : ST → Prop) : Prop :=
  (∃ n : Nat, wX7_write_L4 Q n 0 0 u)
set_option maxHeartbeats 4000000 in
set_option maxRecDepth 100000 in
theorem mX7_write (l : Launch) (D : va_G) (cy : CY) (am : Nat → Nat) (u : ST) (sz : Nat) {Q : ST → Prop} (hw : wX7_write  u Q) : Met l yX7_write (wM yX7_write cX7_write 4 none) (kRm 0) (kPc D (mW cy am) cy u sz [.ref (am 0)]) (kQv D (mW cy am) cy (va_A (mW cy am u) sz) Q) 0 0 (va_A (mW cy am u) sz) := by
  refine kMet pn_X7_write (Nat.le_of_ble_eq_true rfl) (fun p e s m below meth c ls hsz C hr hlk hex h hl => ?_)
  have hl : lv_has ls 4 [(0, .ref (am 0))] := hl
  obtain ⟨⟨hx, hb, hml, hown, hts⟩, hK, hA⟩ := id C
  unfold wX7_write at hw
  have h : kH D (mW cy am) (va_A (mW cy am u) sz) s u s.heap [] := h
  refine lv_iconst (v := 0) hx hb dX7_write_0 (by decide) ?_
  refine lv_istore_n (lv' := [(1, .int 0), (0, .ref (am 0))]) hx hb dX7_write_1 rfl hl (by decide) rfl (fun ls hl => ?_)
  refine lv_iconst (v := 0) hx hb dX7_write_2 (by decide) ?_
  refine lv_istore_n (lv' := [(2, .int 0), (1, .int 0), (0, .ref (am 0))]) hx hb dX7_write_3 rfl hl (by decide) rfl (fun ls hl => ?_)
  obtain ⟨n, hw⟩ := hw
  exact kX7_write_L4 C hr hlk n 0 0 _ _ _ _ hw h (lv_sub hl [2, 1, 0] rfl)

def wX7_grow_b322 (K35 : Int32 → ST → Prop) (Q : ST → Prop) (x1 : Int32) (u : ST) : Prop :=
  K35 x1 u
set_option maxHeartbeats 4000000 in
set_option maxRecDepth 100000 in
theorem kX7_grow_b322 {p : Program} {l : Launch} {e : Env} {s : State} {m : MethodId} {args : Array Value} {below : List Frame} {meth : Method} {c : Code} {D : va_G} {cy : CY} {A : Nat → Prop} {am : Nat → Nat} {K35 : Int32 → ST → Prop} {Q : ST → Prop} (C : kC p m c cX7_grow 9 s args RX7 D cy A) (hr : meth.sig.returnType = none) (hlk : meth.locks = false) (g35 : ∀ (x1 : Int32) (u : ST) (H : Heap) (locs : List Loc) (ls : Array Slot), K35 x1 u → kH D (mW cy am) A s u H locs → lv_has ls 9 [(0, .ref (am 0)), (1, .int x1)] → W p l e (kRm 2) s m args below meth c H locs 0 0 (MQ below (kQv D (mW cy am) cy A Q) args s 0 0 A) (F0 m 35 ls [])) : ∀ (x1 : Int32) (u : ST) (H : Heap) (locs : List Loc) (ls : Array Slot), wX7_grow_b322 K35 Q x1 u → kH D (mW cy am) A s u H locs → lv_has ls 9 [(0, .ref (am 0)), (1, .int x1)] → W p l e (kRm 2) s m args below meth c H locs 0 0 (MQ below (kQv D (mW cy am) cy A Q) args s 0 0 A) (F0 m 322 ls []) := by
  intro x1 u H locs ls hw h hl
  obtain ⟨⟨hx, hb, hml, hown, hts⟩, hK, hA⟩ := id C
  unfold wX7_grow_b322 at hw
  refine lv_goto (tgt := 35) hx hb dX7_grow_322 (by decide) ?_
  exact g35 x1 _ _ _ _ hw h (lv_sub hl [0, 1] rfl)
def wX7_grow_B285 (K35 : Int32 → ST → Prop) (K285 : Int32 → Int32 → Int32 → Int32 → ST → Prop) (Q : ST → Prop) (x1 : Int32) (x4 : Int32) (x6 : Int32) (x8 : Int32) (u : ST) : Prop :=
  (((x1 + 2) ≤ x8 → wX7_grow_b322 K35 Q (x1 + 2) u) ∧ (¬ (x1 + 2) ≤ x8 → (vp_in x8 40 ∧ (vp_in x8 40 ∧ K285 x1 x4 x6 (x8 + 1) (sR (sR u 30 x8.toNatClampNeg x6) 31 x8.toNatClampNeg (x4 + 1))))))
set_option maxHeartbeats 4000000 in
set_option maxRecDepth 100000 in
theorem kX7_grow_B285 {p : Program} {l : Launch} {e : Env} {s : State} {m : MethodId} {args : Array Value} {below : List Frame} {meth : Method} {c : Code} {D : va_G} {cy : CY} {A : Nat → Prop} {am : Nat → Nat} {K35 : Int32 → ST → Prop} {K285 : Int32 → Int32 → Int32 → Int32 → ST → Prop} {Q : ST → Prop} (C : kC p m c cX7_grow 9 s args RX7 D cy A) (hr : meth.sig.returnType = none) (hlk : meth.locks = false) (g35 : ∀ (x1 : Int32) (u : ST) (H : Heap) (locs : List Loc) (ls : Array Slot), K35 x1 u → kH D (mW cy am) A s u H locs → lv_has ls 9 [(0, .ref (am 0)), (1, .int x1)] → W p l e (kRm 2) s m args below meth c H locs 0 0 (MQ below (kQv D (mW cy am) cy A Q) args s 0 0 A) (F0 m 35 ls [])) (g285 : ∀ (x1 : Int32) (x4 : Int32) (x6 : Int32) (x8 : Int32) (u : ST) (H : Heap) (locs : List Loc) (ls : Array Slot), K285 x1 x4 x6 x8 u → kH D (mW cy am) A s u H locs → lv_has ls 9 [(0, .ref (am 0)), (1, .int x1), (4, .int x4), (6, .int x6), (8, .int x8)] → W p l e (kRm 2) s m args below meth c H locs 0 0 (MQ below (kQv D (mW cy am) cy A Q) args s 0 0 A) (F0 m 285 ls [])) : ∀ (x1 : Int32) (x4 : Int32) (x6 : Int32) (x8 : Int32) (u : ST) (H : Heap) (locs : List Loc) (ls : Array Slot), wX7_grow_B285 K35 K285 Q x1 x4 x6 x8 u → kH D (mW cy am) A s u H locs → lv_has ls 9 [(0, .ref (am 0)), (1, .int x1), (4, .int x4), (6, .int x6), (8, .int x8)] → W p l e (kRm 2) s m args below meth c H locs 0 0 (MQ below (kQv D (mW cy am) cy A Q) args s 0 0 A) (F0 m 285 ls []) := by
  intro x1 x4 x6 x8 u H locs ls hw h hl
  obtain ⟨⟨hx, hb, hml, hown, hts⟩, hK, hA⟩ := id C
  unfold wX7_grow_B285 at hw
  refine lv_iload hx hb dX7_grow_285 (lv_at hl 4 rfl) ?_
  refine lv_iload_n hx hb dX7_grow_287 rfl (lv_at hl 1 rfl) ?_
  refine lv_iconst (v := 2) hx hb dX7_grow_288 (by decide) ?_
  refine lv_iadd hx hb dX7_grow_289 ?_
  refine lv_icmp_ge (tgt := 319) hx hb dX7_grow_290 (by decide) (fun c_290 => ?_) (fun c_290 => ?_)
  · have hw := hw.1 c_290
    refine lv_iinc (v := x1 + 2) (lv' := [(1, .int (x1 + 2)), (0, .ref (am 0)), (4, .int x4), (6, .int x6), (8, .int x8)]) hx hb dX7_grow_319 hl (k := 1) rfl rfl (by decide) rfl (fun ls hl => ?_)
    exact kX7_grow_b322 C hr hlk g35 (x1 + 2) _ _ _ _ hw h (lv_sub hl [1, 0] rfl)
  · have hw := hw.2 c_290
    refine lv_aload_n hx hb dX7_grow_293 rfl (lv_at hl 0 rfl) ?_
    refine kget C h 0 rfl rfl inBX7 30 (Nat.le_of_ble_eq_true rfl) wi_fl_X7_53 rfl dX7_grow_294 ?_
    refine lv_iload hx hb dX7_grow_297 (lv_at hl 4 rfl) ?_
    refine lv_iload hx hb dX7_grow_299 (lv_at hl 3 rfl) ?_
    obtain ⟨i_301, hw⟩ := hw
    refine kiast C h 15 rfl i_301 (mR_30 cy am u x8.toNatClampNeg x6) dX7_grow_301 (fun H locs h => ?_)
    refine lv_aload_n hx hb dX7_grow_302 rfl (lv_at hl 0 rfl) ?_
    refine kget C h 0 rfl rfl inBX7 31 (Nat.le_of_ble_eq_true rfl) wi_fl_X7_56 rfl dX7_grow_303 ?_
    refine lv_iload hx hb dX7_grow_306 (lv_at hl 4 rfl) ?_
    refine lv_iload hx hb dX7_grow_308 (lv_at hl 2 rfl) ?_
    refine lv_iconst (v := 1) hx hb dX7_grow_310 (by decide) ?_
    refine lv_iadd hx hb dX7_grow_311 ?_
    obtain ⟨i_312, hw⟩ := hw
    refine kiast C h 16 rfl i_312 (mR_31 cy am (sR u 30 x8.toNatClampNeg x6) x8.toNatClampNeg (x4 + 1)) dX7_grow_312 (fun H locs h => ?_)
    refine lv_iinc (v := x8 + 1) (lv' := [(8, .int (x8 + 1)), (0, .ref (am 0)), (1, .int x1), (4, .int x4), (6, .int x6)]) hx hb dX7_grow_313 hl (k := 4) rfl rfl (by decide) rfl (fun ls hl => ?_)
    refine lv_goto (tgt := 285) hx hb dX7_grow_316 (by decide) ?_
    exact g285 x1 x4 x6 (x8 + 1) _ _ _ _ hw h (lv_sub hl [1, 2, 3, 4, 0] rfl)
def wX7_grow_L285 (K35 : Int32 → ST → Prop) (Q : ST → Prop) : Nat → Int32 → Int32 → Int32 → Int32 → ST → Prop
  | 0, _, _, _, _, _ => False
  | n + 1, x1, x4, x6, x8, u => wX7_grow_B285 K35 (wX7_grow_L285 K35 Q n) Q x1 x4 x6 x8 u
set_option maxHeartbeats 4000000 in
theorem kX7_grow_L285 {p : Program} {l : Launch} {e : Env} {s : State} {m : MethodId} {args : Array Value} {below : List Frame} {meth : Method} {c : Code} {D : va_G} {cy : CY} {A : Nat → Prop} {am : Nat → Nat} {K35 : Int32 → ST → Prop} {Q : ST → Prop} (C : kC p m c cX7_grow 9 s args RX7 D cy A) (hr : meth.sig.returnType = none) (hlk : meth.locks = false) (g35 : ∀ (x1 : Int32) (u : ST) (H : Heap) (locs : List Loc) (ls : Array Slot), K35 x1 u → kH D (mW cy am) A s u H locs → lv_has ls 9 [(0, .ref (am 0)), (1, .int x1)] → W p l e (kRm 2) s m args below meth c H locs 0 0 (MQ below (kQv D (mW cy am) cy A Q) args s 0 0 A) (F0 m 35 ls [])) : ∀ n : Nat, ∀ (x1 : Int32) (x4 : Int32) (x6 : Int32) (x8 : Int32) (u : ST) (H : Heap) (locs : List Loc) (ls : Array Slot), wX7_grow_L285 K35 Q n x1 x4 x6 x8 u → kH D (mW cy am) A s u H locs → lv_has ls 9 [(0, .ref (am 0)), (1, .int x1), (4, .int x4), (6, .int x6), (8, .int x8)] → W p l e (kRm 2) s m args below meth c H locs 0 0 (MQ below (kQv D (mW cy am) cy A Q) args s 0 0 A) (F0 m 285 ls []) := by
  intro n
  induction n with
  | zero => intro x1 x4 x6 x8 u H locs ls hw; exact False.elim hw
  | succ n ih => exact kX7_grow_B285 C hr hlk g35 ih
def wX7_grow_b206 (K35 : Int32 → ST → Prop) (Q : ST → Prop) (x1 : Int32) (x2 : Int32) (x3 : Int32) (x4 : Int32) (x6 : Int32) (xs1 : Int32) (xs2 : Int32) (u : ST) : Prop :=
  (vp_in xs1 1000 ∧ (vp_in x6 1000 ∧ (vp_in x6 1000 ∧ (vp_in x6 1000 ∧ (((gR (sR (sR (sR u 22 xs1.toNatClampNeg xs2) 23 x6.toNatClampNeg (-1)) 24 x6.toNatClampNeg (-1)) 22 x6.toNatClampNeg) < 0 → wX7_grow_b322 K35 Q x1 (sR (sR (sR u 22 xs1.toNatClampNeg xs2) 23 x6.toNatClampNeg (-1)) 24 x6.toNatClampNeg (-1))) ∧ (¬ (gR (sR (sR (sR u 22 xs1.toNatClampNeg xs2) 23 x6.toNatClampNeg (-1)) 24 x6.toNatClampNeg (-1)) 22 x6.toNatClampNeg) < 0 → (vp_in x6 1000 ∧ (∀ x7_1 : Int32, x7_1 = 1 <<< ((gR (sR (sR (sR u 22 xs1.toNatClampNeg xs2) 23 x6.toNatClampNeg (-1)) 24 x6.toNatClampNeg (-1)) 22 x6.toNatClampNeg) &&& 31) → (vp_in x1 40 ∧ (vp_in x1 40 ∧ (vp_in (x1 + 1) 40 ∧ (vp_in (x1 + 1) 40 ∧ (∃ n : Nat, wX7_grow_L285 K35 Q n x1 x4 x6 x1 (sR (sR (sR (sR (sR (sR (sR u 22 xs1.toNatClampNeg xs2) 23 x6.toNatClampNeg (-1)) 24 x6.toNatClampNeg (-1)) 28 x1.toNatClampNeg x2) 29 x1.toNatClampNeg (x3 ||| x7_1)) 28 (x1 + 1).toNatClampNeg (x2 ||| x7_1)) 29 (x1 + 1).toNatClampNeg x3))))))))))))))
set_option maxHeartbeats 4000000 in
set_option maxRecDepth 100000 in
theorem kX7_grow_b206 {p : Program} {l : Launch} {e : Env} {s : State} {m : MethodId} {args : Array Value} {below : List Frame} {meth : Method} {c : Code} {D : va_G} {cy : CY} {A : Nat → Prop} {am : Nat → Nat} {K35 : Int32 → ST → Prop} {Q : ST → Prop} (C : kC p m c cX7_grow 9 s args RX7 D cy A) (hr : meth.sig.returnType = none) (hlk : meth.locks = false) (g35 : ∀ (x1 : Int32) (u : ST) (H : Heap) (locs : List Loc) (ls : Array Slot), K35 x1 u → kH D (mW cy am) A s u H locs → lv_has ls 9 [(0, .ref (am 0)), (1, .int x1)] → W p l e (kRm 2) s m args below meth c H locs 0 0 (MQ below (kQv D (mW cy am) cy A Q) args s 0 0 A) (F0 m 35 ls [])) : ∀ (x1 : Int32) (x2 : Int32) (x3 : Int32) (x4 : Int32) (x6 : Int32) (xs1 : Int32) (xs2 : Int32) (u : ST) (H : Heap) (locs : List Loc) (ls : Array Slot), wX7_grow_b206 K35 Q x1 x2 x3 x4 x6 xs1 xs2 u → kH D (mW cy am) A s u H locs → lv_has ls 9 [(0, .ref (am 0)), (1, .int x1), (2, .int x2), (3, .int x3), (4, .int x4), (6, .int x6)] → W p l e (kRm 2) s m args below meth c H locs 0 0 (MQ below (kQv D (mW cy am) cy A Q) args s 0 0 A) (F0 m 206 ls [.int xs2, .int xs1, .ref (am 22)]) := by
  intro x1 x2 x3 x4 x6 xs1 xs2 u H locs ls hw h hl
  obtain ⟨⟨hx, hb, hml, hown, hts⟩, hK, hA⟩ := id C
  unfold wX7_grow_b206 at hw
  obtain ⟨i_206, hw⟩ := hw
  refine kiast C h 7 rfl i_206 (mR_22 cy am u xs1.toNatClampNeg xs2) dX7_grow_206 (fun H locs h => ?_)
  refine lv_aload_n hx hb dX7_grow_207 rfl (lv_at hl 0 rfl) ?_
  refine kget C h 0 rfl rfl inBX7 23 (Nat.le_of_ble_eq_true rfl) wi_fl_X7_32 rfl dX7_grow_208 ?_
  refine lv_iload hx hb dX7_grow_211 (lv_at hl 5 rfl) ?_
  refine lv_iconst (v := (-1)) hx hb dX7_grow_213 (by decide) ?_
  obtain ⟨i_214, hw⟩ := hw
  refine kiast C h 8 rfl i_214 (mR_23 cy am (sR u 22 xs1.toNatClampNeg xs2) x6.toNatClampNeg (-1)) dX7_grow_214 (fun H locs h => ?_)
  refine lv_aload_n hx hb dX7_grow_215 rfl (lv_at hl 0 rfl) ?_
  refine kget C h 0 rfl rfl inBX7 24 (Nat.le_of_ble_eq_true rfl) wi_fl_X7_35 rfl dX7_grow_216 ?_
  refine lv_iload hx hb dX7_grow_219 (lv_at hl 5 rfl) ?_
  refine lv_iconst (v := (-1)) hx hb dX7_grow_221 (by decide) ?_
  obtain ⟨i_222, hw⟩ := hw
  refine kiast C h 9 rfl i_222 (mR_24 cy am (sR (sR u 22 xs1.toNatClampNeg xs2) 23 x6.toNatClampNeg (-1)) x6.toNatClampNeg (-1)) dX7_grow_222 (fun H locs h => ?_)
  refine lv_aload_n hx hb dX7_grow_223 rfl (lv_at hl 0 rfl) ?_
  refine kget C h 0 rfl rfl inBX7 22 (Nat.le_of_ble_eq_true rfl) wi_fl_X7_29 rfl dX7_grow_224 ?_
  refine lv_iload hx hb dX7_grow_227 (lv_at hl 5 rfl) ?_
  obtain ⟨i_229, hw⟩ := hw
  refine kiald C h 7 rfl i_229 dX7_grow_229 ?_
  refine lv_if_lt (tgt := 322) hx hb dX7_grow_230 (by decide) (fun c_230 => ?_) (fun c_230 => ?_)
  · have hw := hw.1 c_230
    exact kX7_grow_b322 C hr hlk g35 x1 _ _ _ _ hw h (lv_sub hl [0, 1] rfl)
  · have hw := hw.2 c_230
    refine lv_iconst (v := 1) hx hb dX7_grow_233 (by decide) ?_
    refine lv_aload_n hx hb dX7_grow_234 rfl (lv_at hl 0 rfl) ?_
    refine kget C h 0 rfl rfl inBX7 22 (Nat.le_of_ble_eq_true rfl) wi_fl_X7_29 rfl dX7_grow_235 ?_
    refine lv_iload hx hb dX7_grow_238 (lv_at hl 5 rfl) ?_
    obtain ⟨i_240, hw⟩ := hw
    refine kiald C h 7 rfl i_240 dX7_grow_240 ?_
    refine lv_ishl hx hb dX7_grow_241 ?_
    refine lv_topi (fun x7_1 ex7_1 => ?_)
    have hw := hw x7_1 ex7_1
    refine lv_istore (lv' := [(7, .int x7_1), (0, .ref (am 0)), (1, .int x1), (2, .int x2), (3, .int x3), (4, .int x4), (6, .int x6)]) hx hb dX7_grow_242 hl (by decide) rfl (fun ls hl => ?_)
    refine lv_aload_n hx hb dX7_grow_244 rfl (lv_at hl 1 rfl) ?_
    refine kget C h 0 rfl rfl inBX7 28 (Nat.le_of_ble_eq_true rfl) wi_fl_X7_47 rfl dX7_grow_245 ?_
    refine lv_iload_n hx hb dX7_grow_248 rfl (lv_at hl 2 rfl) ?_
    refine lv_iload_n hx hb dX7_grow_249 rfl (lv_at hl 3 rfl) ?_
    obtain ⟨i_250, hw⟩ := hw
    refine kiast C h 13 rfl i_250 (mR_28 cy am (sR (sR (sR u 22 xs1.toNatClampNeg xs2) 23 x6.toNatClampNeg (-1)) 24 x6.toNatClampNeg (-1)) x1.toNatClampNeg x2) dX7_grow_250 (fun H locs h => ?_)
    refine lv_aload_n hx hb dX7_grow_251 rfl (lv_at hl 1 rfl) ?_
    refine kget C h 0 rfl rfl inBX7 29 (Nat.le_of_ble_eq_true rfl) wi_fl_X7_50 rfl dX7_grow_252 ?_
    refine lv_iload_n hx hb dX7_grow_255 rfl (lv_at hl 2 rfl) ?_
    refine lv_iload_n hx hb dX7_grow_256 rfl (lv_at hl 4 rfl) ?_
    refine lv_iload hx hb dX7_grow_257 (lv_at hl 0 rfl) ?_
    refine lv_ior hx hb dX7_grow_259 ?_
    obtain ⟨i_260, hw⟩ := hw
    refine kiast C h 14 rfl i_260 (mR_29 cy am (sR (sR (sR (sR u 22 xs1.toNatClampNeg xs2) 23 x6.toNatClampNeg (-1)) 24 x6.toNatClampNeg (-1)) 28 x1.toNatClampNeg x2) x1.toNatClampNeg (x3 ||| x7_1)) dX7_grow_260 (fun H locs h => ?_)
    refine lv_aload_n hx hb dX7_grow_261 rfl (lv_at hl 1 rfl) ?_
    refine kget C h 0 rfl rfl inBX7 28 (Nat.le_of_ble_eq_true rfl) wi_fl_X7_47 rfl dX7_grow_262 ?_
    refine lv_iload_n hx hb dX7_grow_265 rfl (lv_at hl 2 rfl) ?_
    refine lv_iconst (v := 1) hx hb dX7_grow_266 (by decide) ?_
    refine lv_iadd hx hb dX7_grow_267 ?_
    refine lv_iload_n hx hb dX7_grow_268 rfl (lv_at hl 3 rfl) ?_
    refine lv_iload hx hb dX7_grow_269 (lv_at hl 0 rfl) ?_
    refine lv_ior hx hb dX7_grow_271 ?_
    obtain ⟨i_272, hw⟩ := hw
    refine kiast C h 13 rfl i_272 (mR_28 cy am (sR (sR (sR (sR (sR u 22 xs1.toNatClampNeg xs2) 23 x6.toNatClampNeg (-1)) 24 x6.toNatClampNeg (-1)) 28 x1.toNatClampNeg x2) 29 x1.toNatClampNeg (x3 ||| x7_1)) (x1 + 1).toNatClampNeg (x2 ||| x7_1)) dX7_grow_272 (fun H locs h => ?_)
    refine lv_aload_n hx hb dX7_grow_273 rfl (lv_at hl 1 rfl) ?_
    refine kget C h 0 rfl rfl inBX7 29 (Nat.le_of_ble_eq_true rfl) wi_fl_X7_50 rfl dX7_grow_274 ?_
    refine lv_iload_n hx hb dX7_grow_277 rfl (lv_at hl 2 rfl) ?_
    refine lv_iconst (v := 1) hx hb dX7_grow_278 (by decide) ?_
    refine lv_iadd hx hb dX7_grow_279 ?_
    refine lv_iload_n hx hb dX7_grow_280 rfl (lv_at hl 4 rfl) ?_
    obtain ⟨i_281, hw⟩ := hw
    refine kiast C h 14 rfl i_281 (mR_29 cy am (sR (sR (sR (sR (sR (sR u 22 xs1.toNatClampNeg xs2) 23 x6.toNatClampNeg (-1)) 24 x6.toNatClampNeg (-1)) 28 x1.toNatClampNeg x2) 29 x1.toNatClampNeg (x3 ||| x7_1)) 28 (x1 + 1).toNatClampNeg (x2 ||| x7_1)) (x1 + 1).toNatClampNeg x3) dX7_grow_281 (fun H locs h => ?_)
    refine lv_iload_n hx hb dX7_grow_282 rfl (lv_at hl 2 rfl) ?_
    refine lv_istore (lv' := [(8, .int x1), (7, .int x7_1), (0, .ref (am 0)), (1, .int x1), (2, .int x2), (3, .int x3), (4, .int x4), (6, .int x6)]) hx hb dX7_grow_283 hl (by decide) rfl (fun ls hl => ?_)
    obtain ⟨n, hw⟩ := hw
    exact kX7_grow_L285 C hr hlk g35 n x1 x4 x6 x1 _ _ _ _ hw h (lv_sub hl [2, 3, 6, 7, 0] rfl)
def wX7_grow_b158 (K35 : Int32 → ST → Prop) (Q : ST → Prop) (x1 : Int32) (x2 : Int32) (x3 : Int32) (x4 : Int32) (x6 : Int32) (u : ST) : Prop :=
  (vp_in x6 1000 ∧ wX7_onlyAction x2 x3 (sR u 26 x6.toNatClampNeg x4) (fun r_1 u_2 => (vp_in x6 1000 ∧ (vp_in x6 1000 ∧ ((0 ≤ (gR (sR u_2 25 x6.toNatClampNeg r_1) 25 x6.toNatClampNeg) → wX7_grow_b206 K35 Q x1 x2 x3 x4 x6 x6 (-1) (sR u_2 25 x6.toNatClampNeg r_1)) ∧ (¬ 0 ≤ (gR (sR u_2 25 x6.toNatClampNeg r_1) 25 x6.toNatClampNeg) → wX7_bestCondition x2 x3 (sR u_2 25 x6.toNatClampNeg r_1) (fun r_3 u_4 => wX7_grow_b206 K35 Q x1 x2 x3 x4 x6 x6 r_3 u_4)))))))
set_option maxHeartbeats 4000000 in
set_option maxRecDepth 100000 in
theorem kX7_grow_b158 {p : Program} {l : Launch} {e : Env} {s : State} {m : MethodId} {args : Array Value} {below : List Frame} {meth : Method} {c : Code} {D : va_G} {cy : CY} {A : Nat → Prop} {am : Nat → Nat} {K35 : Int32 → ST → Prop} {Q : ST → Prop} (C : kC p m c cX7_grow 9 s args RX7 D cy A) (hr : meth.sig.returnType = none) (hlk : meth.locks = false) (g35 : ∀ (x1 : Int32) (u : ST) (H : Heap) (locs : List Loc) (ls : Array Slot), K35 x1 u → kH D (mW cy am) A s u H locs → lv_has ls 9 [(0, .ref (am 0)), (1, .int x1)] → W p l e (kRm 2) s m args below meth c H locs 0 0 (MQ below (kQv D (mW cy am) cy A Q) args s 0 0 A) (F0 m 35 ls [])) : ∀ (x1 : Int32) (x2 : Int32) (x3 : Int32) (x4 : Int32) (x6 : Int32) (u : ST) (H : Heap) (locs : List Loc) (ls : Array Slot), wX7_grow_b158 K35 Q x1 x2 x3 x4 x6 u → kH D (mW cy am) A s u H locs → lv_has ls 9 [(0, .ref (am 0)), (1, .int x1), (2, .int x2), (3, .int x3), (4, .int x4), (6, .int x6)] → W p l e (kRm 2) s m args below meth c H locs 0 0 (MQ below (kQv D (mW cy am) cy A Q) args s 0 0 A) (F0 m 158 ls []) := by
  intro x1 x2 x3 x4 x6 u H locs ls hw h hl
  obtain ⟨⟨hx, hb, hml, hown, hts⟩, hK, hA⟩ := id C
  unfold wX7_grow_b158 at hw
  refine lv_aload_n hx hb dX7_grow_158 rfl (lv_at hl 0 rfl) ?_
  refine kget C h 0 rfl rfl inBX7 26 (Nat.le_of_ble_eq_true rfl) wi_fl_X7_41 rfl dX7_grow_159 ?_
  refine lv_iload hx hb dX7_grow_162 (lv_at hl 5 rfl) ?_
  refine lv_iload hx hb dX7_grow_164 (lv_at hl 4 rfl) ?_
  obtain ⟨i_166, hw⟩ := hw
  refine kiast C h 11 rfl i_166 (mR_26 cy am u x6.toNatClampNeg x4) dX7_grow_166 (fun H locs h => ?_)
  refine lv_aload_n hx hb dX7_grow_167 rfl (lv_at hl 0 rfl) ?_
  refine kget C h 0 rfl rfl inBX7 25 (Nat.le_of_ble_eq_true rfl) wi_fl_X7_38 rfl dX7_grow_168 ?_
  refine lv_iload hx hb dX7_grow_171 (lv_at hl 5 rfl) ?_
  refine lv_aload_n hx hb dX7_grow_173 rfl (lv_at hl 0 rfl) ?_
  refine lv_iload_n hx hb dX7_grow_174 rfl (lv_at hl 2 rfl) ?_
  refine lv_iload_n hx hb dX7_grow_175 rfl (lv_at hl 3 rfl) ?_
  refine kVi (As := [.int x2, .int x3]) (rest := [.int x6, .ref (am 25)]) C h (cwV 2 hts (gd_V wi_ml_X7_180 wi_im_X7_onlyAction wi_se_X7_onlyAction wi_in_X7 wi_co_X7_onlyAction) rfl rfl rfl hd_X7_onlyAction ⟨Nat.le_of_ble_eq_true rfl, Nat.le_of_ble_eq_true rfl⟩) 0 rfl rfl rfl (mX7_onlyAction l D cy am x2 x3 _ _ hw) rfl hl.1 rfl (Nat.le_of_ble_eq_true rfl) ⟨Nat.zero_le _, Nat.zero_le _⟩ dX7_grow_176 (fun r_1 u_2 H locs hw h => ?_)
  obtain ⟨i_179, hw⟩ := hw
  refine kiast C h 10 rfl i_179 (mR_25 cy am u_2 x6.toNatClampNeg r_1) dX7_grow_179 (fun H locs h => ?_)
  refine lv_aload_n hx hb dX7_grow_180 rfl (lv_at hl 0 rfl) ?_
  refine kget C h 0 rfl rfl inBX7 22 (Nat.le_of_ble_eq_true rfl) wi_fl_X7_29 rfl dX7_grow_181 ?_
  refine lv_iload hx hb dX7_grow_184 (lv_at hl 5 rfl) ?_
  refine lv_aload_n hx hb dX7_grow_186 rfl (lv_at hl 0 rfl) ?_
  refine kget C h 0 rfl rfl inBX7 25 (Nat.le_of_ble_eq_true rfl) wi_fl_X7_38 rfl dX7_grow_187 ?_
  refine lv_iload hx hb dX7_grow_190 (lv_at hl 5 rfl) ?_
  obtain ⟨i_192, hw⟩ := hw
  refine kiald C h 10 rfl i_192 dX7_grow_192 ?_
  refine lv_if_ge (tgt := 205) hx hb dX7_grow_193 (by decide) (fun c_193 => ?_) (fun c_193 => ?_)
  · have hw := hw.1 c_193
    refine lv_iconst (v := (-1)) hx hb dX7_grow_205 (by decide) ?_
    exact kX7_grow_b206 C hr hlk g35 x1 x2 x3 x4 x6 x6 (-1) _ _ _ _ hw h (lv_sub hl [0, 1, 2, 3, 4, 5] rfl)
  · have hw := hw.2 c_193
    refine lv_aload_n hx hb dX7_grow_196 rfl (lv_at hl 0 rfl) ?_
    refine lv_iload_n hx hb dX7_grow_197 rfl (lv_at hl 2 rfl) ?_
    refine lv_iload_n hx hb dX7_grow_198 rfl (lv_at hl 3 rfl) ?_
    refine kVi (As := [.int x2, .int x3]) (rest := [.int x6, .ref (am 22)]) C h (cwV 2 hts (gd_V wi_ml_X7_184 wi_im_X7_bestCondition wi_se_X7_bestCondition wi_in_X7 wi_co_X7_bestCondition) rfl rfl rfl hd_X7_bestCondition ⟨Nat.le_of_ble_eq_true rfl, Nat.le_of_ble_eq_true rfl⟩) 0 rfl rfl rfl (mX7_bestCondition l D cy am x2 x3 _ _ hw) rfl hl.1 rfl (Nat.le_of_ble_eq_true rfl) ⟨Nat.zero_le _, Nat.zero_le _⟩ dX7_grow_199 (fun r_3 u_4 H locs hw h => ?_)
    refine lv_goto (tgt := 206) hx hb dX7_grow_202 (by decide) ?_
    exact kX7_grow_b206 C hr hlk g35 x1 x2 x3 x4 x6 x6 r_3 _ _ _ _ hw h (lv_sub hl [0, 1, 2, 3, 4, 5] rfl)
def wX7_grow_b144 (K35 : Int32 → ST → Prop) (Q : ST → Prop) (x1 : Int32) (x2 : Int32) (x3 : Int32) (x4 : Int32) (x5 : Int32) (x6 : Int32) (u : ST) : Prop :=
  ((x5 < 0 → wX7_grow_b158 K35 Q x1 x2 x3 x4 x6 u) ∧ (¬ x5 < 0 → (vp_in x5 1000 ∧ wX7_grow_b158 K35 Q x1 x2 x3 x4 x6 (sR u 24 x5.toNatClampNeg x6))))
set_option maxHeartbeats 4000000 in
set_option maxRecDepth 100000 in
theorem kX7_grow_b144 {p : Program} {l : Launch} {e : Env} {s : State} {m : MethodId} {args : Array Value} {below : List Frame} {meth : Method} {c : Code} {D : va_G} {cy : CY} {A : Nat → Prop} {am : Nat → Nat} {K35 : Int32 → ST → Prop} {Q : ST → Prop} (C : kC p m c cX7_grow 9 s args RX7 D cy A) (hr : meth.sig.returnType = none) (hlk : meth.locks = false) (g35 : ∀ (x1 : Int32) (u : ST) (H : Heap) (locs : List Loc) (ls : Array Slot), K35 x1 u → kH D (mW cy am) A s u H locs → lv_has ls 9 [(0, .ref (am 0)), (1, .int x1)] → W p l e (kRm 2) s m args below meth c H locs 0 0 (MQ below (kQv D (mW cy am) cy A Q) args s 0 0 A) (F0 m 35 ls [])) : ∀ (x1 : Int32) (x2 : Int32) (x3 : Int32) (x4 : Int32) (x5 : Int32) (x6 : Int32) (u : ST) (H : Heap) (locs : List Loc) (ls : Array Slot), wX7_grow_b144 K35 Q x1 x2 x3 x4 x5 x6 u → kH D (mW cy am) A s u H locs → lv_has ls 9 [(0, .ref (am 0)), (1, .int x1), (2, .int x2), (3, .int x3), (4, .int x4), (5, .int x5), (6, .int x6)] → W p l e (kRm 2) s m args below meth c H locs 0 0 (MQ below (kQv D (mW cy am) cy A Q) args s 0 0 A) (F0 m 144 ls []) := by
  intro x1 x2 x3 x4 x5 x6 u H locs ls hw h hl
  obtain ⟨⟨hx, hb, hml, hown, hts⟩, hK, hA⟩ := id C
  unfold wX7_grow_b144 at hw
  refine lv_iload hx hb dX7_grow_144 (lv_at hl 5 rfl) ?_
  refine lv_if_lt (tgt := 158) hx hb dX7_grow_146 (by decide) (fun c_146 => ?_) (fun c_146 => ?_)
  · have hw := hw.1 c_146
    exact kX7_grow_b158 C hr hlk g35 x1 x2 x3 x4 x6 _ _ _ _ hw h (lv_sub hl [0, 1, 2, 3, 4, 6] rfl)
  · have hw := hw.2 c_146
    refine lv_aload_n hx hb dX7_grow_149 rfl (lv_at hl 0 rfl) ?_
    refine kget C h 0 rfl rfl inBX7 24 (Nat.le_of_ble_eq_true rfl) wi_fl_X7_35 rfl dX7_grow_150 ?_
    refine lv_iload hx hb dX7_grow_153 (lv_at hl 5 rfl) ?_
    refine lv_iload hx hb dX7_grow_155 (lv_at hl 6 rfl) ?_
    obtain ⟨i_157, hw⟩ := hw
    refine kiast C h 9 rfl i_157 (mR_24 cy am u x5.toNatClampNeg x6) dX7_grow_157 (fun H locs h => ?_)
    exact kX7_grow_b158 C hr hlk g35 x1 x2 x3 x4 x6 _ _ _ _ hw h (lv_sub hl [0, 1, 2, 3, 4, 6] rfl)
def wX7_grow_b325 (Q : ST → Prop) (u : ST) : Prop :=
  (((gI u 20) = 0 → Q u) ∧ (¬ (gI u 20) = 0 → wX7_write  u (fun u_2 => Q u_2)))
set_option maxHeartbeats 4000000 in
set_option maxRecDepth 100000 in
theorem kX7_grow_b325 {p : Program} {l : Launch} {e : Env} {s : State} {m : MethodId} {args : Array Value} {below : List Frame} {meth : Method} {c : Code} {D : va_G} {cy : CY} {A : Nat → Prop} {am : Nat → Nat} {Q : ST → Prop} (C : kC p m c cX7_grow 9 s args RX7 D cy A) (hr : meth.sig.returnType = none) (hlk : meth.locks = false) : ∀ (u : ST) (H : Heap) (locs : List Loc) (ls : Array Slot), wX7_grow_b325 Q  u → kH D (mW cy am) A s u H locs → lv_has ls 9 [(0, .ref (am 0))] → W p l e (kRm 2) s m args below meth c H locs 0 0 (MQ below (kQv D (mW cy am) cy A Q) args s 0 0 A) (F0 m 325 ls []) := by
  intro  u H locs ls hw h hl
  obtain ⟨⟨hx, hb, hml, hown, hts⟩, hK, hA⟩ := id C
  unfold wX7_grow_b325 at hw
  refine lv_aload_n hx hb dX7_grow_325 rfl (lv_at hl 0 rfl) ?_
  refine kget C h 0 rfl rfl inBX7 20 (Nat.le_of_ble_eq_true rfl) wi_fl_X7_154 rfl dX7_grow_326 ?_
  refine lv_if_eq (tgt := 336) hx hb dX7_grow_329 (by decide) (fun c_329 => ?_) (fun c_329 => ?_)
  · have hw := hw.1 c_329
    exact kretV C hr hlk h hw dX7_grow_336
  · have hw := hw.2 c_329
    refine lv_aload_n hx hb dX7_grow_332 rfl (lv_at hl 0 rfl) ?_
    refine kVv (As := []) (rest := []) C h (cwV 0 hts (gd_V wi_ml_X7_187 wi_im_X7_write wi_se_X7_write wi_in_X7 wi_co_X7_write) rfl rfl rfl hd_X7_write ⟨Nat.le_of_ble_eq_true rfl, Nat.le_of_ble_eq_true rfl⟩) 0 rfl rfl rfl (mX7_write l D cy am  _ _ hw) rfl hl.1 rfl (Nat.le_of_ble_eq_true rfl) ⟨Nat.zero_le _, Nat.zero_le _⟩ dX7_grow_333 (fun u_2 H locs hw h => ?_)
    exact kretV C hr hlk h hw dX7_grow_336
def wX7_grow_B35 (K35 : Int32 → ST → Prop) (Q : ST → Prop) (x1 : Int32) (u : ST) : Prop :=
  ((x1 ≤ 0 → wX7_grow_b325 Q  u) ∧ (¬ x1 ≤ 0 → (((gI u 20) = 0 → wX7_grow_b325 Q  u) ∧ (¬ (gI u 20) = 0 → ((¬ (gI u 21) = 1000 → (vp_in (x1 + (-1)) 40 ∧ (vp_in (x1 + (-1)) 40 ∧ (vp_in (x1 + (-1)) 40 ∧ (vp_in (x1 + (-1)) 40 ∧ (((gR u 30 (x1 + (-1)).toNatClampNeg) < 0 → wX7_grow_b144 K35 Q (x1 + (-1)) (gR u 28 (x1 + (-1)).toNatClampNeg) (gR u 29 (x1 + (-1)).toNatClampNeg) (gR u 31 (x1 + (-1)).toNatClampNeg) (gR u 30 (x1 + (-1)).toNatClampNeg) (gI u 21) (sI u 21 ((gI u 21) + 1))) ∧ (¬ (gR u 30 (x1 + (-1)).toNatClampNeg) < 0 → ((¬ (gI u 21) = ((gR u 30 (x1 + (-1)).toNatClampNeg) + 1) → wX7_grow_b144 K35 Q (x1 + (-1)) (gR u 28 (x1 + (-1)).toNatClampNeg) (gR u 29 (x1 + (-1)).toNatClampNeg) (gR u 31 (x1 + (-1)).toNatClampNeg) (gR u 30 (x1 + (-1)).toNatClampNeg) (gI u 21) (sI u 21 ((gI u 21) + 1))) ∧ ((gI u 21) = ((gR u 30 (x1 + (-1)).toNatClampNeg) + 1) → (vp_in (gR u 30 (x1 + (-1)).toNatClampNeg) 1000 ∧ wX7_grow_b158 K35 Q (x1 + (-1)) (gR u 28 (x1 + (-1)).toNatClampNeg) (gR u 29 (x1 + (-1)).toNatClampNeg) (gR u 31 (x1 + (-1)).toNatClampNeg) (gI u 21) (sR (sI u 21 ((gI u 21) + 1)) 23 (gR u 30 (x1 + (-1)).toNatClampNeg).toNatClampNeg (gI u 21)))))))))))) ∧ ((gI u 21) = 1000 → K35 (x1 + (-1)) (sI (sI u 20 0) 21 0)))))))
set_option maxHeartbeats 4000000 in
set_option maxRecDepth 100000 in
theorem kX7_grow_B35 {p : Program} {l : Launch} {e : Env} {s : State} {m : MethodId} {args : Array Value} {below : List Frame} {meth : Method} {c : Code} {D : va_G} {cy : CY} {A : Nat → Prop} {am : Nat → Nat} {K35 : Int32 → ST → Prop} {Q : ST → Prop} (C : kC p m c cX7_grow 9 s args RX7 D cy A) (hr : meth.sig.returnType = none) (hlk : meth.locks = false) (g35 : ∀ (x1 : Int32) (u : ST) (H : Heap) (locs : List Loc) (ls : Array Slot), K35 x1 u → kH D (mW cy am) A s u H locs → lv_has ls 9 [(0, .ref (am 0)), (1, .int x1)] → W p l e (kRm 2) s m args below meth c H locs 0 0 (MQ below (kQv D (mW cy am) cy A Q) args s 0 0 A) (F0 m 35 ls [])) : ∀ (x1 : Int32) (u : ST) (H : Heap) (locs : List Loc) (ls : Array Slot), wX7_grow_B35 K35 Q x1 u → kH D (mW cy am) A s u H locs → lv_has ls 9 [(0, .ref (am 0)), (1, .int x1)] → W p l e (kRm 2) s m args below meth c H locs 0 0 (MQ below (kQv D (mW cy am) cy A Q) args s 0 0 A) (F0 m 35 ls []) := by
  intro x1 u H locs ls hw h hl
  obtain ⟨⟨hx, hb, hml, hown, hts⟩, hK, hA⟩ := id C
  unfold wX7_grow_B35 at hw
  refine lv_iload_n hx hb dX7_grow_35 rfl (lv_at hl 1 rfl) ?_
  refine lv_if_le (tgt := 325) hx hb dX7_grow_36 (by decide) (fun c_36 => ?_) (fun c_36 => ?_)
  · have hw := hw.1 c_36
    exact kX7_grow_b325 C hr hlk  _ _ _ _ hw h (lv_sub hl [0] rfl)
  · have hw := hw.2 c_36
    refine lv_aload_n hx hb dX7_grow_39 rfl (lv_at hl 0 rfl) ?_
    refine kget C h 0 rfl rfl inBX7 20 (Nat.le_of_ble_eq_true rfl) wi_fl_X7_154 rfl dX7_grow_40 ?_
    refine lv_if_eq (tgt := 325) hx hb dX7_grow_43 (by decide) (fun c_43 => ?_) (fun c_43 => ?_)
    · have hw := hw.1 c_43
      exact kX7_grow_b325 C hr hlk  _ _ _ _ hw h (lv_sub hl [0] rfl)
    · have hw := hw.2 c_43
      refine lv_iinc (v := x1 + (-1)) (lv' := [(1, .int (x1 + (-1))), (0, .ref (am 0))]) hx hb dX7_grow_46 hl (k := 1) rfl rfl (by decide) rfl (fun ls hl => ?_)
      refine lv_aload_n hx hb dX7_grow_49 rfl (lv_at hl 1 rfl) ?_
      refine kget C h 0 rfl rfl inBX7 21 (Nat.le_of_ble_eq_true rfl) wi_fl_X7_157 rfl dX7_grow_50 ?_
      refine lv_sipush (v := 1000) hx hb dX7_grow_53 (by decide) ?_
      refine lv_icmp_ne (tgt := 72) hx hb dX7_grow_56 (by decide) (fun c_56 => ?_) (fun c_56 => ?_)
      · have hw := hw.1 c_56
        refine lv_aload_n hx hb dX7_grow_72 rfl (lv_at hl 1 rfl) ?_
        refine kget C h 0 rfl rfl inBX7 28 (Nat.le_of_ble_eq_true rfl) wi_fl_X7_47 rfl dX7_grow_73 ?_
        refine lv_iload_n hx hb dX7_grow_76 rfl (lv_at hl 0 rfl) ?_
        obtain ⟨i_77, hw⟩ := hw
        refine kiald C h 13 rfl i_77 dX7_grow_77 ?_
        refine lv_istore_n (lv' := [(2, .int (gR u 28 (x1 + (-1)).toNatClampNeg)), (1, .int (x1 + (-1))), (0, .ref (am 0))]) hx hb dX7_grow_78 rfl hl (by decide) rfl (fun ls hl => ?_)
        refine lv_aload_n hx hb dX7_grow_79 rfl (lv_at hl 2 rfl) ?_
        refine kget C h 0 rfl rfl inBX7 29 (Nat.le_of_ble_eq_true rfl) wi_fl_X7_50 rfl dX7_grow_80 ?_
        refine lv_iload_n hx hb dX7_grow_83 rfl (lv_at hl 1 rfl) ?_
        obtain ⟨i_84, hw⟩ := hw
        refine kiald C h 14 rfl i_84 dX7_grow_84 ?_
        refine lv_istore_n (lv' := [(3, .int (gR u 29 (x1 + (-1)).toNatClampNeg)), (2, .int (gR u 28 (x1 + (-1)).toNatClampNeg)), (1, .int (x1 + (-1))), (0, .ref (am 0))]) hx hb dX7_grow_85 rfl hl (by decide) rfl (fun ls hl => ?_)
        refine lv_aload_n hx hb dX7_grow_86 rfl (lv_at hl 3 rfl) ?_
        refine kget C h 0 rfl rfl inBX7 31 (Nat.le_of_ble_eq_true rfl) wi_fl_X7_56 rfl dX7_grow_87 ?_
        refine lv_iload_n hx hb dX7_grow_90 rfl (lv_at hl 2 rfl) ?_
        obtain ⟨i_91, hw⟩ := hw
        refine kiald C h 16 rfl i_91 dX7_grow_91 ?_
        refine lv_istore (lv' := [(4, .int (gR u 31 (x1 + (-1)).toNatClampNeg)), (3, .int (gR u 29 (x1 + (-1)).toNatClampNeg)), (2, .int (gR u 28 (x1 + (-1)).toNatClampNeg)), (1, .int (x1 + (-1))), (0, .ref (am 0))]) hx hb dX7_grow_92 hl (by decide) rfl (fun ls hl => ?_)
        refine lv_aload_n hx hb dX7_grow_94 rfl (lv_at hl 4 rfl) ?_
        refine kget C h 0 rfl rfl inBX7 30 (Nat.le_of_ble_eq_true rfl) wi_fl_X7_53 rfl dX7_grow_95 ?_
        refine lv_iload_n hx hb dX7_grow_98 rfl (lv_at hl 3 rfl) ?_
        obtain ⟨i_99, hw⟩ := hw
        refine kiald C h 15 rfl i_99 dX7_grow_99 ?_
        refine lv_istore (lv' := [(5, .int (gR u 30 (x1 + (-1)).toNatClampNeg)), (4, .int (gR u 31 (x1 + (-1)).toNatClampNeg)), (3, .int (gR u 29 (x1 + (-1)).toNatClampNeg)), (2, .int (gR u 28 (x1 + (-1)).toNatClampNeg)), (1, .int (x1 + (-1))), (0, .ref (am 0))]) hx hb dX7_grow_100 hl (by decide) rfl (fun ls hl => ?_)
        refine lv_aload_n hx hb dX7_grow_102 rfl (lv_at hl 5 rfl) ?_
        refine kget C h 0 rfl rfl inBX7 21 (Nat.le_of_ble_eq_true rfl) wi_fl_X7_157 rfl dX7_grow_103 ?_
        refine lv_istore (lv' := [(6, .int (gI u 21)), (5, .int (gR u 30 (x1 + (-1)).toNatClampNeg)), (4, .int (gR u 31 (x1 + (-1)).toNatClampNeg)), (3, .int (gR u 29 (x1 + (-1)).toNatClampNeg)), (2, .int (gR u 28 (x1 + (-1)).toNatClampNeg)), (1, .int (x1 + (-1))), (0, .ref (am 0))]) hx hb dX7_grow_106 hl (by decide) rfl (fun ls hl => ?_)
        refine lv_aload_n hx hb dX7_grow_108 rfl (lv_at hl 6 rfl) ?_
        refine lv_dup hx hb dX7_grow_109 rfl ?_
        refine kget C h 0 rfl rfl inBX7 21 (Nat.le_of_ble_eq_true rfl) wi_fl_X7_157 rfl dX7_grow_110 ?_
        refine lv_iconst (v := 1) hx hb dX7_grow_113 (by decide) ?_
        refine lv_iadd hx hb dX7_grow_114 ?_
        refine kput C h 0 rfl rfl inBX7 tyX7_ok nmX7 21 (Nat.le_of_ble_eq_true rfl) wi_fl_X7_157 rfl rfl rfl (Nat.le_of_ble_eq_true rfl) (mS_21 cy am u ((gI u 21) + 1)) dX7_grow_115 (fun H locs h => ?_)
        refine lv_iload hx hb dX7_grow_118 (lv_at hl 1 rfl) ?_
        refine lv_if_lt (tgt := 144) hx hb dX7_grow_120 (by decide) (fun c_120 => ?_) (fun c_120 => ?_)
        · have hw := hw.1 c_120
          exact kX7_grow_b144 C hr hlk g35 (x1 + (-1)) (gR u 28 (x1 + (-1)).toNatClampNeg) (gR u 29 (x1 + (-1)).toNatClampNeg) (gR u 31 (x1 + (-1)).toNatClampNeg) (gR u 30 (x1 + (-1)).toNatClampNeg) (gI u 21) _ _ _ _ hw h (lv_sub hl [6, 5, 4, 3, 2, 1, 0] rfl)
        · have hw := hw.2 c_120
          refine lv_iload hx hb dX7_grow_123 (lv_at hl 0 rfl) ?_
          refine lv_iload hx hb dX7_grow_125 (lv_at hl 1 rfl) ?_
          refine lv_iconst (v := 1) hx hb dX7_grow_127 (by decide) ?_
          refine lv_iadd hx hb dX7_grow_128 ?_
          refine lv_icmp_ne (tgt := 144) hx hb dX7_grow_129 (by decide) (fun c_129 => ?_) (fun c_129 => ?_)
          · have hw := hw.1 c_129
            exact kX7_grow_b144 C hr hlk g35 (x1 + (-1)) (gR u 28 (x1 + (-1)).toNatClampNeg) (gR u 29 (x1 + (-1)).toNatClampNeg) (gR u 31 (x1 + (-1)).toNatClampNeg) (gR u 30 (x1 + (-1)).toNatClampNeg) (gI u 21) _ _ _ _ hw h (lv_sub hl [6, 5, 4, 3, 2, 1, 0] rfl)
          · have hw := hw.2 c_129
            refine lv_aload_n hx hb dX7_grow_132 rfl (lv_at hl 6 rfl) ?_
            refine kget C h 0 rfl rfl inBX7 23 (Nat.le_of_ble_eq_true rfl) wi_fl_X7_32 rfl dX7_grow_133 ?_
            refine lv_iload hx hb dX7_grow_136 (lv_at hl 1 rfl) ?_
            refine lv_iload hx hb dX7_grow_138 (lv_at hl 0 rfl) ?_
            obtain ⟨i_140, hw⟩ := hw
            refine kiast C h 8 rfl i_140 (mR_23 cy am (sI u 21 ((gI u 21) + 1)) (gR u 30 (x1 + (-1)).toNatClampNeg).toNatClampNeg (gI u 21)) dX7_grow_140 (fun H locs h => ?_)
            refine lv_goto (tgt := 158) hx hb dX7_grow_141 (by decide) ?_
            exact kX7_grow_b158 C hr hlk g35 (x1 + (-1)) (gR u 28 (x1 + (-1)).toNatClampNeg) (gR u 29 (x1 + (-1)).toNatClampNeg) (gR u 31 (x1 + (-1)).toNatClampNeg) (gI u 21) _ _ _ _ hw h (lv_sub hl [6, 5, 4, 3, 2, 0] rfl)
      · have hw := hw.2 c_56
        refine lv_aload_n hx hb dX7_grow_59 rfl (lv_at hl 1 rfl) ?_
        refine lv_iconst (v := 0) hx hb dX7_grow_60 (by decide) ?_
        refine kput C h 0 rfl rfl inBX7 tyX7_ok nmX7 20 (Nat.le_of_ble_eq_true rfl) wi_fl_X7_154 rfl rfl rfl (Nat.le_of_ble_eq_true rfl) (mS_20 cy am u 0) dX7_grow_61 (fun H locs h => ?_)
        refine lv_aload_n hx hb dX7_grow_64 rfl (lv_at hl 1 rfl) ?_
        refine lv_iconst (v := 0) hx hb dX7_grow_65 (by decide) ?_
        refine kput C h 0 rfl rfl inBX7 tyX7_ok nmX7 21 (Nat.le_of_ble_eq_true rfl) wi_fl_X7_157 rfl rfl rfl (Nat.le_of_ble_eq_true rfl) (mS_21 cy am (sI u 20 0) 0) dX7_grow_66 (fun H locs h => ?_)
        refine lv_goto (tgt := 35) hx hb dX7_grow_69 (by decide) ?_
        exact g35 (x1 + (-1)) _ _ _ _ hw h (lv_sub hl [1, 0] rfl)
def wX7_grow_L35 (Q : ST → Prop) : Nat → Int32 → ST → Prop
  | 0, _, _ => False
  | n + 1, x1, u => wX7_grow_B35 (wX7_grow_L35 Q n) Q x1 u
set_option maxHeartbeats 4000000 in
theorem kX7_grow_L35 {p : Program} {l : Launch} {e : Env} {s : State} {m : MethodId} {args : Array Value} {below : List Frame} {meth : Method} {c : Code} {D : va_G} {cy : CY} {A : Nat → Prop} {am : Nat → Nat} {Q : ST → Prop} (C : kC p m c cX7_grow 9 s args RX7 D cy A) (hr : meth.sig.returnType = none) (hlk : meth.locks = false) : ∀ n : Nat, ∀ (x1 : Int32) (u : ST) (H : Heap) (locs : List Loc) (ls : Array Slot), wX7_grow_L35 Q n x1 u → kH D (mW cy am) A s u H locs → lv_has ls 9 [(0, .ref (am 0)), (1, .int x1)] → W p l e (kRm 2) s m args below meth c H locs 0 0 (MQ below (kQv D (mW cy am) cy A Q) args s 0 0 A) (F0 m 35 ls []) := by
  intro n
  induction n with
  | zero => intro x1 u H locs ls hw; exact False.elim hw
  | succ n ih => exact kX7_grow_B35 C hr hlk ih
def wX7_grow (u : ST) (Q : ST → Prop) : Prop :=
  (vp_in (0 : Int32) 40 ∧ (vp_in (0 : Int32) 40 ∧ (vp_in (0 : Int32) 40 ∧ (vp_in (0 : Int32) 40 ∧ (∃ n : Nat, wX7_grow_L35 Q n 1 (sI (sR (sR (sR (sR u 28 (0 : Int32).toNatClampNeg 0) 29 (0 : Int32).toNatClampNeg 0) 30 (0 : Int32).toNatClampNeg (-1)) 31 (0 : Int32).toNatClampNeg 0) 20 1))))))
set_option maxHeartbeats 4000000 in
set_option maxRecDepth 100000 in
theorem mX7_grow (l : Launch) (D : va_G) (cy : CY) (am : Nat → Nat) (u : ST) (sz : Nat) {Q : ST → Prop} (hw : wX7_grow  u Q) : Met l yX7_grow (wM yX7_grow cX7_grow 9 none) (kRm 2) (kPc D (mW cy am) cy u sz [.ref (am 0)]) (kQv D (mW cy am) cy (va_A (mW cy am u) sz) Q) 0 0 (va_A (mW cy am u) sz) := by
  refine kMet pn_X7_grow (Nat.le_of_ble_eq_true rfl) (fun p e s m below meth c ls hsz C hr hlk hex h hl => ?_)
  have hl : lv_has ls 9 [(0, .ref (am 0))] := hl
  obtain ⟨⟨hx, hb, hml, hown, hts⟩, hK, hA⟩ := id C
  unfold wX7_grow at hw
  have h : kH D (mW cy am) (va_A (mW cy am u) sz) s u s.heap [] := h
  refine lv_iconst (v := 1) hx hb dX7_grow_0 (by decide) ?_
  refine lv_istore_n (lv' := [(1, .int 1), (0, .ref (am 0))]) hx hb dX7_grow_1 rfl hl (by decide) rfl (fun ls hl => ?_)
  refine lv_aload_n hx hb dX7_grow_2 rfl (lv_at hl 1 rfl) ?_
  refine kget C h 0 rfl rfl inBX7 28 (Nat.le_of_ble_eq_true rfl) wi_fl_X7_47 rfl dX7_grow_3 ?_
  refine lv_iconst (v := 0) hx hb dX7_grow_6 (by decide) ?_
  refine lv_iconst (v := 0) hx hb dX7_grow_7 (by decide) ?_
  obtain ⟨i_8, hw⟩ := hw
  refine kiast C h 13 rfl i_8 (mR_28 cy am u (0 : Int32).toNatClampNeg 0) dX7_grow_8 (fun H locs h => ?_)
  refine lv_aload_n hx hb dX7_grow_9 rfl (lv_at hl 1 rfl) ?_
  refine kget C h 0 rfl rfl inBX7 29 (Nat.le_of_ble_eq_true rfl) wi_fl_X7_50 rfl dX7_grow_10 ?_
  refine lv_iconst (v := 0) hx hb dX7_grow_13 (by decide) ?_
  refine lv_iconst (v := 0) hx hb dX7_grow_14 (by decide) ?_
  obtain ⟨i_15, hw⟩ := hw
  refine kiast C h 14 rfl i_15 (mR_29 cy am (sR u 28 (0 : Int32).toNatClampNeg 0) (0 : Int32).toNatClampNeg 0) dX7_grow_15 (fun H locs h => ?_)
  refine lv_aload_n hx hb dX7_grow_16 rfl (lv_at hl 1 rfl) ?_
  refine kget C h 0 rfl rfl inBX7 30 (Nat.le_of_ble_eq_true rfl) wi_fl_X7_53 rfl dX7_grow_17 ?_
  refine lv_iconst (v := 0) hx hb dX7_grow_20 (by decide) ?_
  refine lv_iconst (v := (-1)) hx hb dX7_grow_21 (by decide) ?_
  obtain ⟨i_22, hw⟩ := hw
  refine kiast C h 15 rfl i_22 (mR_30 cy am (sR (sR u 28 (0 : Int32).toNatClampNeg 0) 29 (0 : Int32).toNatClampNeg 0) (0 : Int32).toNatClampNeg (-1)) dX7_grow_22 (fun H locs h => ?_)
  refine lv_aload_n hx hb dX7_grow_23 rfl (lv_at hl 1 rfl) ?_
  refine kget C h 0 rfl rfl inBX7 31 (Nat.le_of_ble_eq_true rfl) wi_fl_X7_56 rfl dX7_grow_24 ?_
  refine lv_iconst (v := 0) hx hb dX7_grow_27 (by decide) ?_
  refine lv_iconst (v := 0) hx hb dX7_grow_28 (by decide) ?_
  obtain ⟨i_29, hw⟩ := hw
  refine kiast C h 16 rfl i_29 (mR_31 cy am (sR (sR (sR u 28 (0 : Int32).toNatClampNeg 0) 29 (0 : Int32).toNatClampNeg 0) 30 (0 : Int32).toNatClampNeg (-1)) (0 : Int32).toNatClampNeg 0) dX7_grow_29 (fun H locs h => ?_)
  refine lv_aload_n hx hb dX7_grow_30 rfl (lv_at hl 1 rfl) ?_
  refine lv_iconst (v := 1) hx hb dX7_grow_31 (by decide) ?_
  refine kput C h 0 rfl rfl inBX7 tyX7_ok nmX7 20 (Nat.le_of_ble_eq_true rfl) wi_fl_X7_154 rfl rfl rfl (Nat.le_of_ble_eq_true rfl) (mS_20 cy am (sR (sR (sR (sR u 28 (0 : Int32).toNatClampNeg 0) 29 (0 : Int32).toNatClampNeg 0) 30 (0 : Int32).toNatClampNeg (-1)) 31 (0 : Int32).toNatClampNeg 0) 1) dX7_grow_32 (fun H locs h => ?_)
  obtain ⟨n, hw⟩ := hw
  exact kX7_grow_L35 C hr hlk n 1 _ _ _ _ hw h (lv_sub hl [1, 0] rfl)

def wX7_judge_b128 (K32 : Int32 → ST → Prop) (K44 : Int32 → Int32 → ST → Prop) (Q : Int32 → ST → Prop) (x1 : Int32) (x2 : Int32) (u : ST) : Prop :=
  K44 x1 (x2 + 1) u
set_option maxHeartbeats 4000000 in
set_option maxRecDepth 100000 in
theorem kX7_judge_b128 {p : Program} {l : Launch} {e : Env} {s : State} {m : MethodId} {args : Array Value} {below : List Frame} {meth : Method} {c : Code} {D : va_G} {cy : CY} {A : Nat → Prop} {am : Nat → Nat} {K32 : Int32 → ST → Prop} {K44 : Int32 → Int32 → ST → Prop} {Q : Int32 → ST → Prop} (C : kC p m c cX7_judge 3 s args RX7 D cy A) (hr : meth.sig.returnType = some .int) (hlk : meth.locks = false) (g32 : ∀ (x1 : Int32) (u : ST) (H : Heap) (locs : List Loc) (ls : Array Slot), K32 x1 u → kH D (mW cy am) A s u H locs → lv_has ls 3 [(0, .ref (am 0)), (1, .int x1)] → W p l e (kRm 3) s m args below meth c H locs 0 0 (MQ below (kQi D (mW cy am) cy A Q) args s 0 0 A) (F0 m 32 ls [])) (g44 : ∀ (x1 : Int32) (x2 : Int32) (u : ST) (H : Heap) (locs : List Loc) (ls : Array Slot), K44 x1 x2 u → kH D (mW cy am) A s u H locs → lv_has ls 3 [(0, .ref (am 0)), (1, .int x1), (2, .int x2)] → W p l e (kRm 3) s m args below meth c H locs 0 0 (MQ below (kQi D (mW cy am) cy A Q) args s 0 0 A) (F0 m 44 ls [])) : ∀ (x1 : Int32) (x2 : Int32) (u : ST) (H : Heap) (locs : List Loc) (ls : Array Slot), wX7_judge_b128 K32 K44 Q x1 x2 u → kH D (mW cy am) A s u H locs → lv_has ls 3 [(0, .ref (am 0)), (1, .int x1), (2, .int x2)] → W p l e (kRm 3) s m args below meth c H locs 0 0 (MQ below (kQi D (mW cy am) cy A Q) args s 0 0 A) (F0 m 128 ls []) := by
  intro x1 x2 u H locs ls hw h hl
  obtain ⟨⟨hx, hb, hml, hown, hts⟩, hK, hA⟩ := id C
  unfold wX7_judge_b128 at hw
  refine lv_iinc (v := x2 + 1) (lv' := [(2, .int (x2 + 1)), (0, .ref (am 0)), (1, .int x1)]) hx hb dX7_judge_128 hl (k := 2) rfl rfl (by decide) rfl (fun ls hl => ?_)
  refine lv_goto (tgt := 44) hx hb dX7_judge_131 (by decide) ?_
  exact g44 x1 (x2 + 1) _ _ _ _ hw h (lv_sub hl [1, 2, 0] rfl)
def wX7_judge_B44 (K32 : Int32 → ST → Prop) (K44 : Int32 → Int32 → ST → Prop) (Q : Int32 → ST → Prop) (x1 : Int32) (x2 : Int32) (u : ST) : Prop :=
  (((gI u 12) ≤ x2 → K32 (x1 + 1) u) ∧ (¬ (gI u 12) ≤ x2 → (vp_in x1 512 ∧ (vp_in x2 512 ∧ (((gR u 9 x1.toNatClampNeg) = (gR u 9 x2.toNatClampNeg) → wX7_judge_b128 K32 K44 Q x1 x2 u) ∧ (¬ (gR u 9 x1.toNatClampNeg) = (gR u 9 x2.toNatClampNeg) → (vp_in x1 512 ∧ (vp_in x2 512 ∧ ((¬ ((gR u 7 x1.toNatClampNeg) &&& (gR u 8 x2.toNatClampNeg)) = 0 → wX7_judge_b128 K32 K44 Q x1 x2 u) ∧ (((gR u 7 x1.toNatClampNeg) &&& (gR u 8 x2.toNatClampNeg)) = 0 → (vp_in x1 512 ∧ (vp_in x2 512 ∧ ((¬ ((gR u 8 x1.toNatClampNeg) &&& (gR u 7 x2.toNatClampNeg)) = 0 → wX7_judge_b128 K32 K44 Q x1 x2 u) ∧ (((gR u 8 x1.toNatClampNeg) &&& (gR u 7 x2.toNatClampNeg)) = 0 → (vp_in x1 512 ∧ (vp_in x2 512 ∧ Q 1 (sI (sI (sI u 17 x1) 18 x2) 19 ((gR (sI (sI u 17 x1) 18 x2) 7 x1.toNatClampNeg) ||| (gR (sI (sI u 17 x1) 18 x2) 7 x2.toNatClampNeg)))))))))))))))))))
set_option maxHeartbeats 4000000 in
set_option maxRecDepth 100000 in
theorem kX7_judge_B44 {p : Program} {l : Launch} {e : Env} {s : State} {m : MethodId} {args : Array Value} {below : List Frame} {meth : Method} {c : Code} {D : va_G} {cy : CY} {A : Nat → Prop} {am : Nat → Nat} {K32 : Int32 → ST → Prop} {K44 : Int32 → Int32 → ST → Prop} {Q : Int32 → ST → Prop} (C : kC p m c cX7_judge 3 s args RX7 D cy A) (hr : meth.sig.returnType = some .int) (hlk : meth.locks = false) (g32 : ∀ (x1 : Int32) (u : ST) (H : Heap) (locs : List Loc) (ls : Array Slot), K32 x1 u → kH D (mW cy am) A s u H locs → lv_has ls 3 [(0, .ref (am 0)), (1, .int x1)] → W p l e (kRm 3) s m args below meth c H locs 0 0 (MQ below (kQi D (mW cy am) cy A Q) args s 0 0 A) (F0 m 32 ls [])) (g44 : ∀ (x1 : Int32) (x2 : Int32) (u : ST) (H : Heap) (locs : List Loc) (ls : Array Slot), K44 x1 x2 u → kH D (mW cy am) A s u H locs → lv_has ls 3 [(0, .ref (am 0)), (1, .int x1), (2, .int x2)] → W p l e (kRm 3) s m args below meth c H locs 0 0 (MQ below (kQi D (mW cy am) cy A Q) args s 0 0 A) (F0 m 44 ls [])) : ∀ (x1 : Int32) (x2 : Int32) (u : ST) (H : Heap) (locs : List Loc) (ls : Array Slot), wX7_judge_B44 K32 K44 Q x1 x2 u → kH D (mW cy am) A s u H locs → lv_has ls 3 [(0, .ref (am 0)), (1, .int x1), (2, .int x2)] → W p l e (kRm 3) s m args below meth c H locs 0 0 (MQ below (kQi D (mW cy am) cy A Q) args s 0 0 A) (F0 m 44 ls []) := by
  intro x1 x2 u H locs ls hw h hl
  obtain ⟨⟨hx, hb, hml, hown, hts⟩, hK, hA⟩ := id C
  unfold wX7_judge_B44 at hw
  refine lv_iload_n hx hb dX7_judge_44 rfl (lv_at hl 2 rfl) ?_
  refine lv_aload_n hx hb dX7_judge_45 rfl (lv_at hl 0 rfl) ?_
  refine kget C h 0 rfl rfl inBX7 12 (Nat.le_of_ble_eq_true rfl) wi_fl_X7_119 rfl dX7_judge_46 ?_
  refine lv_icmp_ge (tgt := 134) hx hb dX7_judge_49 (by decide) (fun c_49 => ?_) (fun c_49 => ?_)
  · have hw := hw.1 c_49
    refine lv_iinc (v := x1 + 1) (lv' := [(1, .int (x1 + 1)), (0, .ref (am 0)), (2, .int x2)]) hx hb dX7_judge_134 hl (k := 1) rfl rfl (by decide) rfl (fun ls hl => ?_)
    refine lv_goto (tgt := 32) hx hb dX7_judge_137 (by decide) ?_
    exact g32 (x1 + 1) _ _ _ _ hw h (lv_sub hl [1, 0] rfl)
  · have hw := hw.2 c_49
    refine lv_aload_n hx hb dX7_judge_52 rfl (lv_at hl 0 rfl) ?_
    refine kget C h 0 rfl rfl inBX7 9 (Nat.le_of_ble_eq_true rfl) wi_fl_X7_26 rfl dX7_judge_53 ?_
    refine lv_iload_n hx hb dX7_judge_56 rfl (lv_at hl 1 rfl) ?_
    obtain ⟨i_57, hw⟩ := hw
    refine kiald C h 6 rfl i_57 dX7_judge_57 ?_
    refine lv_aload_n hx hb dX7_judge_58 rfl (lv_at hl 0 rfl) ?_
    refine kget C h 0 rfl rfl inBX7 9 (Nat.le_of_ble_eq_true rfl) wi_fl_X7_26 rfl dX7_judge_59 ?_
    refine lv_iload_n hx hb dX7_judge_62 rfl (lv_at hl 2 rfl) ?_
    obtain ⟨i_63, hw⟩ := hw
    refine kiald C h 6 rfl i_63 dX7_judge_63 ?_
    refine lv_icmp_eq (tgt := 128) hx hb dX7_judge_64 (by decide) (fun c_64 => ?_) (fun c_64 => ?_)
    · have hw := hw.1 c_64
      exact kX7_judge_b128 C hr hlk g32 g44 x1 x2 _ _ _ _ hw h (lv_sub hl [0, 1, 2] rfl)
    · have hw := hw.2 c_64
      refine lv_aload_n hx hb dX7_judge_67 rfl (lv_at hl 0 rfl) ?_
      refine kget C h 0 rfl rfl inBX7 7 (Nat.le_of_ble_eq_true rfl) wi_fl_X7_20 rfl dX7_judge_68 ?_
      refine lv_iload_n hx hb dX7_judge_71 rfl (lv_at hl 1 rfl) ?_
      obtain ⟨i_72, hw⟩ := hw
      refine kiald C h 4 rfl i_72 dX7_judge_72 ?_
      refine lv_aload_n hx hb dX7_judge_73 rfl (lv_at hl 0 rfl) ?_
      refine kget C h 0 rfl rfl inBX7 8 (Nat.le_of_ble_eq_true rfl) wi_fl_X7_23 rfl dX7_judge_74 ?_
      refine lv_iload_n hx hb dX7_judge_77 rfl (lv_at hl 2 rfl) ?_
      obtain ⟨i_78, hw⟩ := hw
      refine kiald C h 5 rfl i_78 dX7_judge_78 ?_
      refine lv_iand hx hb dX7_judge_79 ?_
      refine lv_if_ne (tgt := 128) hx hb dX7_judge_80 (by decide) (fun c_80 => ?_) (fun c_80 => ?_)
      · have hw := hw.1 c_80
        exact kX7_judge_b128 C hr hlk g32 g44 x1 x2 _ _ _ _ hw h (lv_sub hl [0, 1, 2] rfl)
      · have hw := hw.2 c_80
        refine lv_aload_n hx hb dX7_judge_83 rfl (lv_at hl 0 rfl) ?_
        refine kget C h 0 rfl rfl inBX7 8 (Nat.le_of_ble_eq_true rfl) wi_fl_X7_23 rfl dX7_judge_84 ?_
        refine lv_iload_n hx hb dX7_judge_87 rfl (lv_at hl 1 rfl) ?_
        obtain ⟨i_88, hw⟩ := hw
        refine kiald C h 5 rfl i_88 dX7_judge_88 ?_
        refine lv_aload_n hx hb dX7_judge_89 rfl (lv_at hl 0 rfl) ?_
        refine kget C h 0 rfl rfl inBX7 7 (Nat.le_of_ble_eq_true rfl) wi_fl_X7_20 rfl dX7_judge_90 ?_
        refine lv_iload_n hx hb dX7_judge_93 rfl (lv_at hl 2 rfl) ?_
        obtain ⟨i_94, hw⟩ := hw
        refine kiald C h 4 rfl i_94 dX7_judge_94 ?_
        refine lv_iand hx hb dX7_judge_95 ?_
        refine lv_if_ne (tgt := 128) hx hb dX7_judge_96 (by decide) (fun c_96 => ?_) (fun c_96 => ?_)
        · have hw := hw.1 c_96
          exact kX7_judge_b128 C hr hlk g32 g44 x1 x2 _ _ _ _ hw h (lv_sub hl [0, 1, 2] rfl)
        · have hw := hw.2 c_96
          refine lv_aload_n hx hb dX7_judge_99 rfl (lv_at hl 0 rfl) ?_
          refine lv_iload_n hx hb dX7_judge_100 rfl (lv_at hl 1 rfl) ?_
          refine kput C h 0 rfl rfl inBX7 tyX7_ok nmX7 17 (Nat.le_of_ble_eq_true rfl) wi_fl_X7_145 rfl rfl rfl (Nat.le_of_ble_eq_true rfl) (mS_17 cy am u x1) dX7_judge_101 (fun H locs h => ?_)
          refine lv_aload_n hx hb dX7_judge_104 rfl (lv_at hl 0 rfl) ?_
          refine lv_iload_n hx hb dX7_judge_105 rfl (lv_at hl 2 rfl) ?_
          refine kput C h 0 rfl rfl inBX7 tyX7_ok nmX7 18 (Nat.le_of_ble_eq_true rfl) wi_fl_X7_148 rfl rfl rfl (Nat.le_of_ble_eq_true rfl) (mS_18 cy am (sI u 17 x1) x2) dX7_judge_106 (fun H locs h => ?_)
          refine lv_aload_n hx hb dX7_judge_109 rfl (lv_at hl 0 rfl) ?_
          refine lv_aload_n hx hb dX7_judge_110 rfl (lv_at hl 0 rfl) ?_
          refine kget C h 0 rfl rfl inBX7 7 (Nat.le_of_ble_eq_true rfl) wi_fl_X7_20 rfl dX7_judge_111 ?_
          refine lv_iload_n hx hb dX7_judge_114 rfl (lv_at hl 1 rfl) ?_
          obtain ⟨i_115, hw⟩ := hw
          refine kiald C h 4 rfl i_115 dX7_judge_115 ?_
          refine lv_aload_n hx hb dX7_judge_116 rfl (lv_at hl 0 rfl) ?_
          refine kget C h 0 rfl rfl inBX7 7 (Nat.le_of_ble_eq_true rfl) wi_fl_X7_20 rfl dX7_judge_117 ?_
          refine lv_iload_n hx hb dX7_judge_120 rfl (lv_at hl 2 rfl) ?_
          obtain ⟨i_121, hw⟩ := hw
          refine kiald C h 4 rfl i_121 dX7_judge_121 ?_
          refine lv_ior hx hb dX7_judge_122 ?_
          refine kput C h 0 rfl rfl inBX7 tyX7_ok nmX7 19 (Nat.le_of_ble_eq_true rfl) wi_fl_X7_151 rfl rfl rfl (Nat.le_of_ble_eq_true rfl) (mS_19 cy am (sI (sI u 17 x1) 18 x2) ((gR (sI (sI u 17 x1) 18 x2) 7 x1.toNatClampNeg) ||| (gR (sI (sI u 17 x1) 18 x2) 7 x2.toNatClampNeg))) dX7_judge_123 (fun H locs h => ?_)
          refine lv_iconst (v := 1) hx hb dX7_judge_126 (by decide) ?_
          exact kretI C hr hlk h hw dX7_judge_127
def wX7_judge_L44 (K32 : Int32 → ST → Prop) (Q : Int32 → ST → Prop) : Nat → Int32 → Int32 → ST → Prop
  | 0, _, _, _ => False
  | n + 1, x1, x2, u => wX7_judge_B44 K32 (wX7_judge_L44 K32 Q n) Q x1 x2 u
set_option maxHeartbeats 4000000 in
theorem kX7_judge_L44 {p : Program} {l : Launch} {e : Env} {s : State} {m : MethodId} {args : Array Value} {below : List Frame} {meth : Method} {c : Code} {D : va_G} {cy : CY} {A : Nat → Prop} {am : Nat → Nat} {K32 : Int32 → ST → Prop} {Q : Int32 → ST → Prop} (C : kC p m c cX7_judge 3 s args RX7 D cy A) (hr : meth.sig.returnType = some .int) (hlk : meth.locks = false) (g32 : ∀ (x1 : Int32) (u : ST) (H : Heap) (locs : List Loc) (ls : Array Slot), K32 x1 u → kH D (mW cy am) A s u H locs → lv_has ls 3 [(0, .ref (am 0)), (1, .int x1)] → W p l e (kRm 3) s m args below meth c H locs 0 0 (MQ below (kQi D (mW cy am) cy A Q) args s 0 0 A) (F0 m 32 ls [])) : ∀ n : Nat, ∀ (x1 : Int32) (x2 : Int32) (u : ST) (H : Heap) (locs : List Loc) (ls : Array Slot), wX7_judge_L44 K32 Q n x1 x2 u → kH D (mW cy am) A s u H locs → lv_has ls 3 [(0, .ref (am 0)), (1, .int x1), (2, .int x2)] → W p l e (kRm 3) s m args below meth c H locs 0 0 (MQ below (kQi D (mW cy am) cy A Q) args s 0 0 A) (F0 m 44 ls []) := by
  intro n
  induction n with
  | zero => intro x1 x2 u H locs ls hw; exact False.elim hw
  | succ n ih => exact kX7_judge_B44 C hr hlk g32 ih
def wX7_judge_B142 (K142 : Int32 → ST → Prop) (Q : Int32 → ST → Prop) (x1 : Int32) (u : ST) : Prop :=
  wX7_allCases  u (fun r_1 u_2 => ((r_1 ≤ x1 → wX7_grow  u_2 (fun u_4 => (((gI u_4 20) = 0 → Q 3 u_4) ∧ (¬ (gI u_4 20) = 0 → Q 0 u_4)))) ∧ (¬ r_1 ≤ x1 → wX7_firstMet x1 u_2 (fun r_5 u_6 => ((0 ≤ r_5 → K142 (x1 + 1) u_6) ∧ (¬ 0 ≤ r_5 → Q 2 (sI u_6 19 x1)))))))
set_option maxHeartbeats 4000000 in
set_option maxRecDepth 100000 in
theorem kX7_judge_B142 {p : Program} {l : Launch} {e : Env} {s : State} {m : MethodId} {args : Array Value} {below : List Frame} {meth : Method} {c : Code} {D : va_G} {cy : CY} {A : Nat → Prop} {am : Nat → Nat} {K142 : Int32 → ST → Prop} {Q : Int32 → ST → Prop} (C : kC p m c cX7_judge 3 s args RX7 D cy A) (hr : meth.sig.returnType = some .int) (hlk : meth.locks = false) (g142 : ∀ (x1 : Int32) (u : ST) (H : Heap) (locs : List Loc) (ls : Array Slot), K142 x1 u → kH D (mW cy am) A s u H locs → lv_has ls 3 [(0, .ref (am 0)), (1, .int x1)] → W p l e (kRm 3) s m args below meth c H locs 0 0 (MQ below (kQi D (mW cy am) cy A Q) args s 0 0 A) (F0 m 142 ls [])) : ∀ (x1 : Int32) (u : ST) (H : Heap) (locs : List Loc) (ls : Array Slot), wX7_judge_B142 K142 Q x1 u → kH D (mW cy am) A s u H locs → lv_has ls 3 [(0, .ref (am 0)), (1, .int x1)] → W p l e (kRm 3) s m args below meth c H locs 0 0 (MQ below (kQi D (mW cy am) cy A Q) args s 0 0 A) (F0 m 142 ls []) := by
  intro x1 u H locs ls hw h hl
  obtain ⟨⟨hx, hb, hml, hown, hts⟩, hK, hA⟩ := id C
  unfold wX7_judge_B142 at hw
  refine lv_iload_n hx hb dX7_judge_142 rfl (lv_at hl 1 rfl) ?_
  refine lv_aload_n hx hb dX7_judge_143 rfl (lv_at hl 0 rfl) ?_
  refine kVi (As := []) (rest := [.int x1]) C h (cwV 0 hts (gd_V wi_ml_X7_163 wi_im_X7_allCases wi_se_X7_allCases wi_in_X7 wi_co_X7_allCases) rfl rfl rfl hd_X7_allCases ⟨Nat.le_of_ble_eq_true rfl, Nat.le_of_ble_eq_true rfl⟩) 0 rfl rfl rfl (mX7_allCases l D cy am  _ _ hw) rfl hl.1 rfl (Nat.le_of_ble_eq_true rfl) ⟨Nat.zero_le _, Nat.zero_le _⟩ dX7_judge_144 (fun r_1 u_2 H locs hw h => ?_)
  refine lv_icmp_ge (tgt := 171) hx hb dX7_judge_147 (by decide) (fun c_147 => ?_) (fun c_147 => ?_)
  · have hw := hw.1 c_147
    refine lv_aload_n hx hb dX7_judge_171 rfl (lv_at hl 0 rfl) ?_
    refine kVv (As := []) (rest := []) C h (cwV 0 hts (gd_V wi_ml_X7_170 wi_im_X7_grow wi_se_X7_grow wi_in_X7 wi_co_X7_grow) rfl rfl rfl hd_X7_grow ⟨Nat.le_of_ble_eq_true rfl, Nat.le_of_ble_eq_true rfl⟩) 0 rfl rfl rfl (mX7_grow l D cy am  _ _ hw) rfl hl.1 rfl (Nat.le_of_ble_eq_true rfl) ⟨Nat.zero_le _, Nat.zero_le _⟩ dX7_judge_172 (fun u_4 H locs hw h => ?_)
    refine lv_aload_n hx hb dX7_judge_175 rfl (lv_at hl 0 rfl) ?_
    refine kget C h 0 rfl rfl inBX7 20 (Nat.le_of_ble_eq_true rfl) wi_fl_X7_154 rfl dX7_judge_176 ?_
    refine lv_if_eq (tgt := 186) hx hb dX7_judge_179 (by decide) (fun c_179 => ?_) (fun c_179 => ?_)
    · have hw := hw.1 c_179
      refine lv_iconst (v := 3) hx hb dX7_judge_186 (by decide) ?_
      exact kretI C hr hlk h hw dX7_judge_187
    · have hw := hw.2 c_179
      refine lv_iconst (v := 0) hx hb dX7_judge_182 (by decide) ?_
      refine lv_goto (tgt := 187) hx hb dX7_judge_183 (by decide) ?_
      exact kretI C hr hlk h hw dX7_judge_187
  · have hw := hw.2 c_147
    refine lv_aload_n hx hb dX7_judge_150 rfl (lv_at hl 0 rfl) ?_
    refine lv_iload_n hx hb dX7_judge_151 rfl (lv_at hl 1 rfl) ?_
    refine kVi (As := [.int x1]) (rest := []) C h (cwV 1 hts (gd_V wi_ml_X7_166 wi_im_X7_firstMet wi_se_X7_firstMet wi_in_X7 wi_co_X7_firstMet) rfl rfl rfl hd_X7_firstMet ⟨Nat.le_of_ble_eq_true rfl, Nat.le_of_ble_eq_true rfl⟩) 0 rfl rfl rfl (mX7_firstMet l D cy am x1 _ _ hw) rfl hl.1 rfl (Nat.le_of_ble_eq_true rfl) ⟨Nat.zero_le _, Nat.zero_le _⟩ dX7_judge_152 (fun r_5 u_6 H locs hw h => ?_)
    refine lv_if_ge (tgt := 165) hx hb dX7_judge_155 (by decide) (fun c_155 => ?_) (fun c_155 => ?_)
    · have hw := hw.1 c_155
      refine lv_iinc (v := x1 + 1) (lv' := [(1, .int (x1 + 1)), (0, .ref (am 0))]) hx hb dX7_judge_165 hl (k := 1) rfl rfl (by decide) rfl (fun ls hl => ?_)
      refine lv_goto (tgt := 142) hx hb dX7_judge_168 (by decide) ?_
      exact g142 (x1 + 1) _ _ _ _ hw h (lv_sub hl [1, 0] rfl)
    · have hw := hw.2 c_155
      refine lv_aload_n hx hb dX7_judge_158 rfl (lv_at hl 0 rfl) ?_
      refine lv_iload_n hx hb dX7_judge_159 rfl (lv_at hl 1 rfl) ?_
      refine kput C h 0 rfl rfl inBX7 tyX7_ok nmX7 19 (Nat.le_of_ble_eq_true rfl) wi_fl_X7_151 rfl rfl rfl (Nat.le_of_ble_eq_true rfl) (mS_19 cy am u_6 x1) dX7_judge_160 (fun H locs h => ?_)
      refine lv_iconst (v := 2) hx hb dX7_judge_163 (by decide) ?_
      exact kretI C hr hlk h hw dX7_judge_164
def wX7_judge_L142 (Q : Int32 → ST → Prop) : Nat → Int32 → ST → Prop
  | 0, _, _ => False
  | n + 1, x1, u => wX7_judge_B142 (wX7_judge_L142 Q n) Q x1 u
set_option maxHeartbeats 4000000 in
theorem kX7_judge_L142 {p : Program} {l : Launch} {e : Env} {s : State} {m : MethodId} {args : Array Value} {below : List Frame} {meth : Method} {c : Code} {D : va_G} {cy : CY} {A : Nat → Prop} {am : Nat → Nat} {Q : Int32 → ST → Prop} (C : kC p m c cX7_judge 3 s args RX7 D cy A) (hr : meth.sig.returnType = some .int) (hlk : meth.locks = false) : ∀ n : Nat, ∀ (x1 : Int32) (u : ST) (H : Heap) (locs : List Loc) (ls : Array Slot), wX7_judge_L142 Q n x1 u → kH D (mW cy am) A s u H locs → lv_has ls 3 [(0, .ref (am 0)), (1, .int x1)] → W p l e (kRm 3) s m args below meth c H locs 0 0 (MQ below (kQi D (mW cy am) cy A Q) args s 0 0 A) (F0 m 142 ls []) := by
  intro n
  induction n with
  | zero => intro x1 u H locs ls hw; exact False.elim hw
  | succ n ih => exact kX7_judge_B142 C hr hlk ih
def wX7_judge_B32 (K32 : Int32 → ST → Prop) (Q : Int32 → ST → Prop) (x1 : Int32) (u : ST) : Prop :=
  (((gI u 12) ≤ x1 → (∃ n : Nat, wX7_judge_L142 Q n 0 u)) ∧ (¬ (gI u 12) ≤ x1 → (∃ n : Nat, wX7_judge_L44 K32 Q n x1 (x1 + 1) u)))
set_option maxHeartbeats 4000000 in
set_option maxRecDepth 100000 in
theorem kX7_judge_B32 {p : Program} {l : Launch} {e : Env} {s : State} {m : MethodId} {args : Array Value} {below : List Frame} {meth : Method} {c : Code} {D : va_G} {cy : CY} {A : Nat → Prop} {am : Nat → Nat} {K32 : Int32 → ST → Prop} {Q : Int32 → ST → Prop} (C : kC p m c cX7_judge 3 s args RX7 D cy A) (hr : meth.sig.returnType = some .int) (hlk : meth.locks = false) (g32 : ∀ (x1 : Int32) (u : ST) (H : Heap) (locs : List Loc) (ls : Array Slot), K32 x1 u → kH D (mW cy am) A s u H locs → lv_has ls 3 [(0, .ref (am 0)), (1, .int x1)] → W p l e (kRm 3) s m args below meth c H locs 0 0 (MQ below (kQi D (mW cy am) cy A Q) args s 0 0 A) (F0 m 32 ls [])) : ∀ (x1 : Int32) (u : ST) (H : Heap) (locs : List Loc) (ls : Array Slot), wX7_judge_B32 K32 Q x1 u → kH D (mW cy am) A s u H locs → lv_has ls 3 [(0, .ref (am 0)), (1, .int x1)] → W p l e (kRm 3) s m args below meth c H locs 0 0 (MQ below (kQi D (mW cy am) cy A Q) args s 0 0 A) (F0 m 32 ls []) := by
  intro x1 u H locs ls hw h hl
  obtain ⟨⟨hx, hb, hml, hown, hts⟩, hK, hA⟩ := id C
  unfold wX7_judge_B32 at hw
  refine lv_iload_n hx hb dX7_judge_32 rfl (lv_at hl 1 rfl) ?_
  refine lv_aload_n hx hb dX7_judge_33 rfl (lv_at hl 0 rfl) ?_
  refine kget C h 0 rfl rfl inBX7 12 (Nat.le_of_ble_eq_true rfl) wi_fl_X7_119 rfl dX7_judge_34 ?_
  refine lv_icmp_ge (tgt := 140) hx hb dX7_judge_37 (by decide) (fun c_37 => ?_) (fun c_37 => ?_)
  · have hw := hw.1 c_37
    refine lv_iconst (v := 0) hx hb dX7_judge_140 (by decide) ?_
    refine lv_istore_n (lv' := [(1, .int 0), (0, .ref (am 0))]) hx hb dX7_judge_141 rfl hl (by decide) rfl (fun ls hl => ?_)
    obtain ⟨n, hw⟩ := hw
    exact kX7_judge_L142 C hr hlk n 0 _ _ _ _ hw h (lv_sub hl [1, 0] rfl)
  · have hw := hw.2 c_37
    refine lv_iload_n hx hb dX7_judge_40 rfl (lv_at hl 1 rfl) ?_
    refine lv_iconst (v := 1) hx hb dX7_judge_41 (by decide) ?_
    refine lv_iadd hx hb dX7_judge_42 ?_
    refine lv_istore_n (lv' := [(2, .int (x1 + 1)), (0, .ref (am 0)), (1, .int x1)]) hx hb dX7_judge_43 rfl hl (by decide) rfl (fun ls hl => ?_)
    obtain ⟨n, hw⟩ := hw
    exact kX7_judge_L44 C hr hlk g32 n x1 (x1 + 1) _ _ _ _ hw h (lv_sub hl [1, 2, 0] rfl)
def wX7_judge_L32 (Q : Int32 → ST → Prop) : Nat → Int32 → ST → Prop
  | 0, _, _ => False
  | n + 1, x1, u => wX7_judge_B32 (wX7_judge_L32 Q n) Q x1 u
set_option maxHeartbeats 4000000 in
theorem kX7_judge_L32 {p : Program} {l : Launch} {e : Env} {s : State} {m : MethodId} {args : Array Value} {below : List Frame} {meth : Method} {c : Code} {D : va_G} {cy : CY} {A : Nat → Prop} {am : Nat → Nat} {Q : Int32 → ST → Prop} (C : kC p m c cX7_judge 3 s args RX7 D cy A) (hr : meth.sig.returnType = some .int) (hlk : meth.locks = false) : ∀ n : Nat, ∀ (x1 : Int32) (u : ST) (H : Heap) (locs : List Loc) (ls : Array Slot), wX7_judge_L32 Q n x1 u → kH D (mW cy am) A s u H locs → lv_has ls 3 [(0, .ref (am 0)), (1, .int x1)] → W p l e (kRm 3) s m args below meth c H locs 0 0 (MQ below (kQi D (mW cy am) cy A Q) args s 0 0 A) (F0 m 32 ls []) := by
  intro n
  induction n with
  | zero => intro x1 u H locs ls hw; exact False.elim hw
  | succ n ih => exact kX7_judge_B32 C hr hlk ih
def wX7_judge (u : ST) (Q : Int32 → ST → Prop) : Prop :=
  (∃ n : Nat, wX7_judge_L32 Q n 0 (sI (sI (sI (sI (sI (sI u 17 (-1)) 18 (-1)) 19 (-1)) 20 0) 21 0) 33 0))
set_option maxHeartbeats 4000000 in
set_option maxRecDepth 100000 in
theorem mX7_judge (l : Launch) (D : va_G) (cy : CY) (am : Nat → Nat) (u : ST) (sz : Nat) {Q : Int32 → ST → Prop} (hw : wX7_judge  u Q) : Met l yX7_judge (wM yX7_judge cX7_judge 3 (some .int)) (kRm 3) (kPc D (mW cy am) cy u sz [.ref (am 0)]) (kQi D (mW cy am) cy (va_A (mW cy am u) sz) Q) 0 0 (va_A (mW cy am u) sz) := by
  refine kMet pn_X7_judge (Nat.le_of_ble_eq_true rfl) (fun p e s m below meth c ls hsz C hr hlk hex h hl => ?_)
  have hl : lv_has ls 3 [(0, .ref (am 0))] := hl
  obtain ⟨⟨hx, hb, hml, hown, hts⟩, hK, hA⟩ := id C
  unfold wX7_judge at hw
  have h : kH D (mW cy am) (va_A (mW cy am u) sz) s u s.heap [] := h
  refine lv_aload_n hx hb dX7_judge_0 rfl (lv_at hl 0 rfl) ?_
  refine lv_iconst (v := (-1)) hx hb dX7_judge_1 (by decide) ?_
  refine kput C h 0 rfl rfl inBX7 tyX7_ok nmX7 17 (Nat.le_of_ble_eq_true rfl) wi_fl_X7_145 rfl rfl rfl (Nat.le_of_ble_eq_true rfl) (mS_17 cy am u (-1)) dX7_judge_2 (fun H locs h => ?_)
  refine lv_aload_n hx hb dX7_judge_5 rfl (lv_at hl 0 rfl) ?_
  refine lv_iconst (v := (-1)) hx hb dX7_judge_6 (by decide) ?_
  refine kput C h 0 rfl rfl inBX7 tyX7_ok nmX7 18 (Nat.le_of_ble_eq_true rfl) wi_fl_X7_148 rfl rfl rfl (Nat.le_of_ble_eq_true rfl) (mS_18 cy am (sI u 17 (-1)) (-1)) dX7_judge_7 (fun H locs h => ?_)
  refine lv_aload_n hx hb dX7_judge_10 rfl (lv_at hl 0 rfl) ?_
  refine lv_iconst (v := (-1)) hx hb dX7_judge_11 (by decide) ?_
  refine kput C h 0 rfl rfl inBX7 tyX7_ok nmX7 19 (Nat.le_of_ble_eq_true rfl) wi_fl_X7_151 rfl rfl rfl (Nat.le_of_ble_eq_true rfl) (mS_19 cy am (sI (sI u 17 (-1)) 18 (-1)) (-1)) dX7_judge_12 (fun H locs h => ?_)
  refine lv_aload_n hx hb dX7_judge_15 rfl (lv_at hl 0 rfl) ?_
  refine lv_iconst (v := 0) hx hb dX7_judge_16 (by decide) ?_
  refine kput C h 0 rfl rfl inBX7 tyX7_ok nmX7 20 (Nat.le_of_ble_eq_true rfl) wi_fl_X7_154 rfl rfl rfl (Nat.le_of_ble_eq_true rfl) (mS_20 cy am (sI (sI (sI u 17 (-1)) 18 (-1)) 19 (-1)) 0) dX7_judge_17 (fun H locs h => ?_)
  refine lv_aload_n hx hb dX7_judge_20 rfl (lv_at hl 0 rfl) ?_
  refine lv_iconst (v := 0) hx hb dX7_judge_21 (by decide) ?_
  refine kput C h 0 rfl rfl inBX7 tyX7_ok nmX7 21 (Nat.le_of_ble_eq_true rfl) wi_fl_X7_157 rfl rfl rfl (Nat.le_of_ble_eq_true rfl) (mS_21 cy am (sI (sI (sI (sI u 17 (-1)) 18 (-1)) 19 (-1)) 20 0) 0) dX7_judge_22 (fun H locs h => ?_)
  refine lv_aload_n hx hb dX7_judge_25 rfl (lv_at hl 0 rfl) ?_
  refine lv_iconst (v := 0) hx hb dX7_judge_26 (by decide) ?_
  refine kput C h 0 rfl rfl inBX7 tyX7_ok nmX7 33 (Nat.le_of_ble_eq_true rfl) wi_fl_X7_160 rfl rfl rfl (Nat.le_of_ble_eq_true rfl) (mS_33 cy am (sI (sI (sI (sI (sI u 17 (-1)) 18 (-1)) 19 (-1)) 20 0) 21 0) 0) dX7_judge_27 (fun H locs h => ?_)
  refine lv_iconst (v := 0) hx hb dX7_judge_30 (by decide) ?_
  refine lv_istore_n (lv' := [(1, .int 0), (0, .ref (am 0))]) hx hb dX7_judge_31 rfl hl (by decide) rfl (fun ls hl => ?_)
  obtain ⟨n, hw⟩ := hw
  exact kX7_judge_L32 C hr hlk n 0 _ _ _ _ hw h (lv_sub hl [1, 0] rfl)

def wX7_read_b121 (Q : Int32 → ST → Prop) (u : ST) : Prop :=
  (((gI (sI u 2 0) 4) ≤ 0 → wX7_take  (sI u 2 0) (fun u_2 => wX7_judge  u_2 (fun r_3 u_4 => Q r_3 u_4))) ∧ (¬ (gI (sI u 2 0) 4) ≤ 0 → Q ((-1) - (gI (sI u 2 0) 3)) (sI u 2 0)))
set_option maxHeartbeats 4000000 in
set_option maxRecDepth 100000 in
theorem kX7_read_b121 {p : Program} {l : Launch} {e : Env} {s : State} {m : MethodId} {args : Array Value} {below : List Frame} {meth : Method} {c : Code} {D : va_G} {cy : CY} {A : Nat → Prop} {am : Nat → Nat} {Q : Int32 → ST → Prop} (C : kC p m c cX7_read 1 s args RX7 D cy A) (hr : meth.sig.returnType = some .int) (hlk : meth.locks = false) : ∀ (u : ST) (H : Heap) (locs : List Loc) (ls : Array Slot), wX7_read_b121 Q  u → kH D (mW cy am) A s u H locs → lv_has ls 1 [(0, .ref (am 0))] → W p l e (kRm 4) s m args below meth c H locs 0 0 (MQ below (kQi D (mW cy am) cy A Q) args s 0 0 A) (F0 m 121 ls []) := by
  intro  u H locs ls hw h hl
  obtain ⟨⟨hx, hb, hml, hown, hts⟩, hK, hA⟩ := id C
  unfold wX7_read_b121 at hw
  refine lv_aload_n hx hb dX7_read_121 rfl (lv_at hl 0 rfl) ?_
  refine lv_iconst (v := 0) hx hb dX7_read_122 (by decide) ?_
  refine kput C h 0 rfl rfl inBX7 tyX7_ok nmX7 2 (Nat.le_of_ble_eq_true rfl) wi_fl_X7_66 rfl rfl rfl (Nat.le_of_ble_eq_true rfl) (mS_2 cy am u 0) dX7_read_123 (fun H locs h => ?_)
  refine lv_aload_n hx hb dX7_read_126 rfl (lv_at hl 0 rfl) ?_
  refine kget C h 0 rfl rfl inBX7 4 (Nat.le_of_ble_eq_true rfl) wi_fl_X7_72 rfl dX7_read_127 ?_
  refine lv_if_le (tgt := 140) hx hb dX7_read_130 (by decide) (fun c_130 => ?_) (fun c_130 => ?_)
  · have hw := hw.1 c_130
    refine lv_aload_n hx hb dX7_read_140 rfl (lv_at hl 0 rfl) ?_
    refine kVv (As := []) (rest := []) C h (cwV 0 hts (gd_V wi_ml_X7_135 wi_im_X7_take wi_se_X7_take wi_in_X7 wi_co_X7_take) rfl rfl rfl hd_X7_take ⟨Nat.le_of_ble_eq_true rfl, Nat.le_of_ble_eq_true rfl⟩) 0 rfl rfl rfl (mX7_take l D cy am  _ _ hw) rfl hl.1 rfl (Nat.le_of_ble_eq_true rfl) ⟨Nat.zero_le _, Nat.zero_le _⟩ dX7_read_141 (fun u_2 H locs hw h => ?_)
    refine lv_aload_n hx hb dX7_read_144 rfl (lv_at hl 0 rfl) ?_
    refine kVi (As := []) (rest := []) C h (cwV 0 hts (gd_V wi_ml_X7_138 wi_im_X7_judge wi_se_X7_judge wi_in_X7 wi_co_X7_judge) rfl rfl rfl hd_X7_judge ⟨Nat.le_of_ble_eq_true rfl, Nat.le_of_ble_eq_true rfl⟩) 0 rfl rfl rfl (mX7_judge l D cy am  _ _ hw) rfl hl.1 rfl (Nat.le_of_ble_eq_true rfl) ⟨Nat.zero_le _, Nat.zero_le _⟩ dX7_read_145 (fun r_3 u_4 H locs hw h => ?_)
    exact kretI C hr hlk h hw dX7_read_148
  · have hw := hw.2 c_130
    refine lv_iconst (v := (-1)) hx hb dX7_read_133 (by decide) ?_
    refine lv_aload_n hx hb dX7_read_134 rfl (lv_at hl 0 rfl) ?_
    refine kget C h 0 rfl rfl inBX7 3 (Nat.le_of_ble_eq_true rfl) wi_fl_X7_69 rfl dX7_read_135 ?_
    refine lv_isub hx hb dX7_read_138 ?_
    exact kretI C hr hlk h hw dX7_read_139
def wX7_read_B99 (K99 : ST → Prop) (Q : Int32 → ST → Prop) (u : ST) : Prop :=
  ((¬ (gI u 4) = 0 → wX7_read_b121 Q  u) ∧ ((gI u 4) = 0 → wX7_look  u (fun r_1 u_2 => ((r_1 = (-1) → wX7_read_b121 Q  u_2) ∧ (¬ r_1 = (-1) → wX7_readRule  u_2 (fun u_4 => K99  u_4))))))
set_option maxHeartbeats 4000000 in
set_option maxRecDepth 100000 in
theorem kX7_read_B99 {p : Program} {l : Launch} {e : Env} {s : State} {m : MethodId} {args : Array Value} {below : List Frame} {meth : Method} {c : Code} {D : va_G} {cy : CY} {A : Nat → Prop} {am : Nat → Nat} {K99 : ST → Prop} {Q : Int32 → ST → Prop} (C : kC p m c cX7_read 1 s args RX7 D cy A) (hr : meth.sig.returnType = some .int) (hlk : meth.locks = false) (g99 : ∀ (u : ST) (H : Heap) (locs : List Loc) (ls : Array Slot), K99  u → kH D (mW cy am) A s u H locs → lv_has ls 1 [(0, .ref (am 0))] → W p l e (kRm 4) s m args below meth c H locs 0 0 (MQ below (kQi D (mW cy am) cy A Q) args s 0 0 A) (F0 m 99 ls [])) : ∀ (u : ST) (H : Heap) (locs : List Loc) (ls : Array Slot), wX7_read_B99 K99 Q  u → kH D (mW cy am) A s u H locs → lv_has ls 1 [(0, .ref (am 0))] → W p l e (kRm 4) s m args below meth c H locs 0 0 (MQ below (kQi D (mW cy am) cy A Q) args s 0 0 A) (F0 m 99 ls []) := by
  intro  u H locs ls hw h hl
  obtain ⟨⟨hx, hb, hml, hown, hts⟩, hK, hA⟩ := id C
  unfold wX7_read_B99 at hw
  refine lv_aload_n hx hb dX7_read_99 rfl (lv_at hl 0 rfl) ?_
  refine kget C h 0 rfl rfl inBX7 4 (Nat.le_of_ble_eq_true rfl) wi_fl_X7_72 rfl dX7_read_100 ?_
  refine lv_if_ne (tgt := 121) hx hb dX7_read_103 (by decide) (fun c_103 => ?_) (fun c_103 => ?_)
  · have hw := hw.1 c_103
    exact kX7_read_b121 C hr hlk  _ _ _ _ hw h (lv_sub hl [0] rfl)
  · have hw := hw.2 c_103
    refine lv_aload_n hx hb dX7_read_106 rfl (lv_at hl 0 rfl) ?_
    refine kVi (As := []) (rest := []) C h (cwV 0 hts (gd_V wi_ml_X7_75 wi_im_X7_look wi_se_X7_look wi_in_X7 wi_co_X7_look) rfl rfl rfl hd_X7_look ⟨Nat.le_of_ble_eq_true rfl, Nat.le_of_ble_eq_true rfl⟩) 0 rfl rfl rfl (mX7_look l D cy am  _ _ hw) rfl hl.1 rfl (Nat.le_of_ble_eq_true rfl) ⟨Nat.zero_le _, Nat.zero_le _⟩ dX7_read_107 (fun r_1 u_2 H locs hw h => ?_)
    refine lv_iconst (v := (-1)) hx hb dX7_read_110 (by decide) ?_
    refine lv_icmp_eq (tgt := 121) hx hb dX7_read_111 (by decide) (fun c_111 => ?_) (fun c_111 => ?_)
    · have hw := hw.1 c_111
      exact kX7_read_b121 C hr hlk  _ _ _ _ hw h (lv_sub hl [0] rfl)
    · have hw := hw.2 c_111
      refine lv_aload_n hx hb dX7_read_114 rfl (lv_at hl 0 rfl) ?_
      refine kVv (As := []) (rest := []) C h (cwV 0 hts (gd_V wi_ml_X7_132 wi_im_X7_readRule wi_se_X7_readRule wi_in_X7 wi_co_X7_readRule) rfl rfl rfl hd_X7_readRule ⟨Nat.le_of_ble_eq_true rfl, Nat.le_of_ble_eq_true rfl⟩) 0 rfl rfl rfl (mX7_readRule l D cy am  _ _ hw) rfl hl.1 rfl (Nat.le_of_ble_eq_true rfl) ⟨Nat.zero_le _, Nat.zero_le _⟩ dX7_read_115 (fun u_4 H locs hw h => ?_)
      refine lv_goto (tgt := 99) hx hb dX7_read_118 (by decide) ?_
      exact g99  _ _ _ _ hw h (lv_sub hl [0] rfl)
def wX7_read_L99 (Q : Int32 → ST → Prop) : Nat → ST → Prop
  | 0, _ => False
  | n + 1, u => wX7_read_B99 (wX7_read_L99 Q n) Q  u
set_option maxHeartbeats 4000000 in
theorem kX7_read_L99 {p : Program} {l : Launch} {e : Env} {s : State} {m : MethodId} {args : Array Value} {below : List Frame} {meth : Method} {c : Code} {D : va_G} {cy : CY} {A : Nat → Prop} {am : Nat → Nat} {Q : Int32 → ST → Prop} (C : kC p m c cX7_read 1 s args RX7 D cy A) (hr : meth.sig.returnType = some .int) (hlk : meth.locks = false) : ∀ n : Nat, ∀ (u : ST) (H : Heap) (locs : List Loc) (ls : Array Slot), wX7_read_L99 Q n  u → kH D (mW cy am) A s u H locs → lv_has ls 1 [(0, .ref (am 0))] → W p l e (kRm 4) s m args below meth c H locs 0 0 (MQ below (kQi D (mW cy am) cy A Q) args s 0 0 A) (F0 m 99 ls []) := by
  intro n
  induction n with
  | zero => intro  u H locs ls hw; exact False.elim hw
  | succ n ih => exact kX7_read_B99 C hr hlk ih
def wX7_read_b82 (Q : Int32 → ST → Prop) (u : ST) : Prop :=
  wX7_sign 59 u (fun u_2 => ((¬ (gI u_2 4) = 0 → (∃ n : Nat, wX7_read_L99 Q n  u_2)) ∧ ((gI u_2 4) = 0 → wX7_readRule  u_2 (fun u_4 => (∃ n : Nat, wX7_read_L99 Q n  u_4)))))
set_option maxHeartbeats 4000000 in
set_option maxRecDepth 100000 in
theorem kX7_read_b82 {p : Program} {l : Launch} {e : Env} {s : State} {m : MethodId} {args : Array Value} {below : List Frame} {meth : Method} {c : Code} {D : va_G} {cy : CY} {A : Nat → Prop} {am : Nat → Nat} {Q : Int32 → ST → Prop} (C : kC p m c cX7_read 1 s args RX7 D cy A) (hr : meth.sig.returnType = some .int) (hlk : meth.locks = false) : ∀ (u : ST) (H : Heap) (locs : List Loc) (ls : Array Slot), wX7_read_b82 Q  u → kH D (mW cy am) A s u H locs → lv_has ls 1 [(0, .ref (am 0))] → W p l e (kRm 4) s m args below meth c H locs 0 0 (MQ below (kQi D (mW cy am) cy A Q) args s 0 0 A) (F0 m 82 ls []) := by
  intro  u H locs ls hw h hl
  obtain ⟨⟨hx, hb, hml, hown, hts⟩, hK, hA⟩ := id C
  unfold wX7_read_b82 at hw
  refine lv_aload_n hx hb dX7_read_82 rfl (lv_at hl 0 rfl) ?_
  refine lv_bipush (v := 59) hx hb dX7_read_83 (by decide) ?_
  refine kVv (As := [.int 59]) (rest := []) C h (cwV 1 hts (gd_V wi_ml_X7_112 wi_im_X7_sign wi_se_X7_sign wi_in_X7 wi_co_X7_sign) rfl rfl rfl hd_X7_sign ⟨Nat.le_of_ble_eq_true rfl, Nat.le_of_ble_eq_true rfl⟩) 0 rfl rfl rfl (mX7_sign l D cy am 59 _ _ hw) rfl hl.1 rfl (Nat.le_of_ble_eq_true rfl) ⟨Nat.zero_le _, Nat.zero_le _⟩ dX7_read_85 (fun u_2 H locs hw h => ?_)
  refine lv_aload_n hx hb dX7_read_88 rfl (lv_at hl 0 rfl) ?_
  refine kget C h 0 rfl rfl inBX7 4 (Nat.le_of_ble_eq_true rfl) wi_fl_X7_72 rfl dX7_read_89 ?_
  refine lv_if_ne (tgt := 99) hx hb dX7_read_92 (by decide) (fun c_92 => ?_) (fun c_92 => ?_)
  · have hw := hw.1 c_92
    obtain ⟨n, hw⟩ := hw
    exact kX7_read_L99 C hr hlk n  _ _ _ _ hw h (lv_sub hl [0] rfl)
  · have hw := hw.2 c_92
    refine lv_aload_n hx hb dX7_read_95 rfl (lv_at hl 0 rfl) ?_
    refine kVv (As := []) (rest := []) C h (cwV 0 hts (gd_V wi_ml_X7_132 wi_im_X7_readRule wi_se_X7_readRule wi_in_X7 wi_co_X7_readRule) rfl rfl rfl hd_X7_readRule ⟨Nat.le_of_ble_eq_true rfl, Nat.le_of_ble_eq_true rfl⟩) 0 rfl rfl rfl (mX7_readRule l D cy am  _ _ hw) rfl hl.1 rfl (Nat.le_of_ble_eq_true rfl) ⟨Nat.zero_le _, Nat.zero_le _⟩ dX7_read_96 (fun u_4 H locs hw h => ?_)
    obtain ⟨n, hw⟩ := hw
    exact kX7_read_L99 C hr hlk n  _ _ _ _ hw h (lv_sub hl [0] rfl)
def wX7_read_B49 (K49 : ST → Prop) (Q : Int32 → ST → Prop) (u : ST) : Prop :=
  ((¬ (gI u 4) = 0 → wX7_read_b82 Q  u) ∧ ((gI u 4) = 0 → wX7_look  u (fun r_1 u_2 => ((¬ r_1 = 44 → wX7_read_b82 Q  u_2) ∧ (r_1 = 44 → wX7_readCondition  (sI u_2 3 ((gI u_2 3) + 1)) (fun u_4 => K49  u_4))))))
set_option maxHeartbeats 4000000 in
set_option maxRecDepth 100000 in
theorem kX7_read_B49 {p : Program} {l : Launch} {e : Env} {s : State} {m : MethodId} {args : Array Value} {below : List Frame} {meth : Method} {c : Code} {D : va_G} {cy : CY} {A : Nat → Prop} {am : Nat → Nat} {K49 : ST → Prop} {Q : Int32 → ST → Prop} (C : kC p m c cX7_read 1 s args RX7 D cy A) (hr : meth.sig.returnType = some .int) (hlk : meth.locks = false) (g49 : ∀ (u : ST) (H : Heap) (locs : List Loc) (ls : Array Slot), K49  u → kH D (mW cy am) A s u H locs → lv_has ls 1 [(0, .ref (am 0))] → W p l e (kRm 4) s m args below meth c H locs 0 0 (MQ below (kQi D (mW cy am) cy A Q) args s 0 0 A) (F0 m 49 ls [])) : ∀ (u : ST) (H : Heap) (locs : List Loc) (ls : Array Slot), wX7_read_B49 K49 Q  u → kH D (mW cy am) A s u H locs → lv_has ls 1 [(0, .ref (am 0))] → W p l e (kRm 4) s m args below meth c H locs 0 0 (MQ below (kQi D (mW cy am) cy A Q) args s 0 0 A) (F0 m 49 ls []) := by
  intro  u H locs ls hw h hl
  obtain ⟨⟨hx, hb, hml, hown, hts⟩, hK, hA⟩ := id C
  unfold wX7_read_B49 at hw
  refine lv_aload_n hx hb dX7_read_49 rfl (lv_at hl 0 rfl) ?_
  refine kget C h 0 rfl rfl inBX7 4 (Nat.le_of_ble_eq_true rfl) wi_fl_X7_72 rfl dX7_read_50 ?_
  refine lv_if_ne (tgt := 82) hx hb dX7_read_53 (by decide) (fun c_53 => ?_) (fun c_53 => ?_)
  · have hw := hw.1 c_53
    exact kX7_read_b82 C hr hlk  _ _ _ _ hw h (lv_sub hl [0] rfl)
  · have hw := hw.2 c_53
    refine lv_aload_n hx hb dX7_read_56 rfl (lv_at hl 0 rfl) ?_
    refine kVi (As := []) (rest := []) C h (cwV 0 hts (gd_V wi_ml_X7_75 wi_im_X7_look wi_se_X7_look wi_in_X7 wi_co_X7_look) rfl rfl rfl hd_X7_look ⟨Nat.le_of_ble_eq_true rfl, Nat.le_of_ble_eq_true rfl⟩) 0 rfl rfl rfl (mX7_look l D cy am  _ _ hw) rfl hl.1 rfl (Nat.le_of_ble_eq_true rfl) ⟨Nat.zero_le _, Nat.zero_le _⟩ dX7_read_57 (fun r_1 u_2 H locs hw h => ?_)
    refine lv_bipush (v := 44) hx hb dX7_read_60 (by decide) ?_
    refine lv_icmp_ne (tgt := 82) hx hb dX7_read_62 (by decide) (fun c_62 => ?_) (fun c_62 => ?_)
    · have hw := hw.1 c_62
      exact kX7_read_b82 C hr hlk  _ _ _ _ hw h (lv_sub hl [0] rfl)
    · have hw := hw.2 c_62
      refine lv_aload_n hx hb dX7_read_65 rfl (lv_at hl 0 rfl) ?_
      refine lv_dup hx hb dX7_read_66 rfl ?_
      refine kget C h 0 rfl rfl inBX7 3 (Nat.le_of_ble_eq_true rfl) wi_fl_X7_69 rfl dX7_read_67 ?_
      refine lv_iconst (v := 1) hx hb dX7_read_70 (by decide) ?_
      refine lv_iadd hx hb dX7_read_71 ?_
      refine kput C h 0 rfl rfl inBX7 tyX7_ok nmX7 3 (Nat.le_of_ble_eq_true rfl) wi_fl_X7_69 rfl rfl rfl (Nat.le_of_ble_eq_true rfl) (mS_3 cy am u_2 ((gI u_2 3) + 1)) dX7_read_72 (fun H locs h => ?_)
      refine lv_aload_n hx hb dX7_read_75 rfl (lv_at hl 0 rfl) ?_
      refine kVv (As := []) (rest := []) C h (cwV 0 hts (gd_V wi_ml_X7_129 wi_im_X7_readCondition wi_se_X7_readCondition wi_in_X7 wi_co_X7_readCondition) rfl rfl rfl hd_X7_readCondition ⟨Nat.le_of_ble_eq_true rfl, Nat.le_of_ble_eq_true rfl⟩) 0 rfl rfl rfl (mX7_readCondition l D cy am  _ _ hw) rfl hl.1 rfl (Nat.le_of_ble_eq_true rfl) ⟨Nat.zero_le _, Nat.zero_le _⟩ dX7_read_76 (fun u_4 H locs hw h => ?_)
      refine lv_goto (tgt := 49) hx hb dX7_read_79 (by decide) ?_
      exact g49  _ _ _ _ hw h (lv_sub hl [0] rfl)
def wX7_read_L49 (Q : Int32 → ST → Prop) : Nat → ST → Prop
  | 0, _ => False
  | n + 1, u => wX7_read_B49 (wX7_read_L49 Q n) Q  u
set_option maxHeartbeats 4000000 in
theorem kX7_read_L49 {p : Program} {l : Launch} {e : Env} {s : State} {m : MethodId} {args : Array Value} {below : List Frame} {meth : Method} {c : Code} {D : va_G} {cy : CY} {A : Nat → Prop} {am : Nat → Nat} {Q : Int32 → ST → Prop} (C : kC p m c cX7_read 1 s args RX7 D cy A) (hr : meth.sig.returnType = some .int) (hlk : meth.locks = false) : ∀ n : Nat, ∀ (u : ST) (H : Heap) (locs : List Loc) (ls : Array Slot), wX7_read_L49 Q n  u → kH D (mW cy am) A s u H locs → lv_has ls 1 [(0, .ref (am 0))] → W p l e (kRm 4) s m args below meth c H locs 0 0 (MQ below (kQi D (mW cy am) cy A Q) args s 0 0 A) (F0 m 49 ls []) := by
  intro n
  induction n with
  | zero => intro  u H locs ls hw; exact False.elim hw
  | succ n ih => exact kX7_read_B49 C hr hlk ih
def wX7_read (u : ST) (Q : Int32 → ST → Prop) : Prop :=
  wX7_word 105 102 (sI (sI (sI (sI (sI (sI u 0 0) 3 0) 4 0) 14 0) 15 0) 16 0) (fun u_2 => ((¬ (gI u_2 4) = 0 → (∃ n : Nat, wX7_read_L49 Q n  u_2)) ∧ ((gI u_2 4) = 0 → wX7_readCondition  u_2 (fun u_4 => (∃ n : Nat, wX7_read_L49 Q n  u_4)))))
set_option maxHeartbeats 4000000 in
set_option maxRecDepth 100000 in
theorem mX7_read (l : Launch) (D : va_G) (cy : CY) (am : Nat → Nat) (u : ST) (sz : Nat) {Q : Int32 → ST → Prop} (hw : wX7_read  u Q) : Met l yX7_read (wM yX7_read cX7_read 1 (some .int)) (kRm 4) (kPc D (mW cy am) cy u sz [.ref (am 0)]) (kQi D (mW cy am) cy (va_A (mW cy am u) sz) Q) 0 0 (va_A (mW cy am u) sz) := by
  refine kMet pn_X7_read (Nat.le_of_ble_eq_true rfl) (fun p e s m below meth c ls hsz C hr hlk hex h hl => ?_)
  have hl : lv_has ls 1 [(0, .ref (am 0))] := hl
  obtain ⟨⟨hx, hb, hml, hown, hts⟩, hK, hA⟩ := id C
  unfold wX7_read at hw
  have h : kH D (mW cy am) (va_A (mW cy am u) sz) s u s.heap [] := h
  refine lv_aload_n hx hb dX7_read_0 rfl (lv_at hl 0 rfl) ?_
  refine lv_iconst (v := 0) hx hb dX7_read_1 (by decide) ?_
  refine kput C h 0 rfl rfl inBX7 tyX7_ok nmX7 0 (Nat.le_of_ble_eq_true rfl) wi_fl_X7_62 rfl rfl rfl (Nat.le_of_ble_eq_true rfl) (mS_0 cy am u 0) dX7_read_2 (fun H locs h => ?_)
  refine lv_aload_n hx hb dX7_read_5 rfl (lv_at hl 0 rfl) ?_
  refine lv_iconst (v := 0) hx hb dX7_read_6 (by decide) ?_
  refine kput C h 0 rfl rfl inBX7 tyX7_ok nmX7 3 (Nat.le_of_ble_eq_true rfl) wi_fl_X7_69 rfl rfl rfl (Nat.le_of_ble_eq_true rfl) (mS_3 cy am (sI u 0 0) 0) dX7_read_7 (fun H locs h => ?_)
  refine lv_aload_n hx hb dX7_read_10 rfl (lv_at hl 0 rfl) ?_
  refine lv_iconst (v := 0) hx hb dX7_read_11 (by decide) ?_
  refine kput C h 0 rfl rfl inBX7 tyX7_ok nmX7 4 (Nat.le_of_ble_eq_true rfl) wi_fl_X7_72 rfl rfl rfl (Nat.le_of_ble_eq_true rfl) (mS_4 cy am (sI (sI u 0 0) 3 0) 0) dX7_read_12 (fun H locs h => ?_)
  refine lv_aload_n hx hb dX7_read_15 rfl (lv_at hl 0 rfl) ?_
  refine lv_iconst (v := 0) hx hb dX7_read_16 (by decide) ?_
  refine kput C h 0 rfl rfl inBX7 tyX7_ok nmX7 14 (Nat.le_of_ble_eq_true rfl) wi_fl_X7_93 rfl rfl rfl (Nat.le_of_ble_eq_true rfl) (mS_14 cy am (sI (sI (sI u 0 0) 3 0) 4 0) 0) dX7_read_17 (fun H locs h => ?_)
  refine lv_aload_n hx hb dX7_read_20 rfl (lv_at hl 0 rfl) ?_
  refine lv_iconst (v := 0) hx hb dX7_read_21 (by decide) ?_
  refine kput C h 0 rfl rfl inBX7 tyX7_ok nmX7 15 (Nat.le_of_ble_eq_true rfl) wi_fl_X7_103 rfl rfl rfl (Nat.le_of_ble_eq_true rfl) (mS_15 cy am (sI (sI (sI (sI u 0 0) 3 0) 4 0) 14 0) 0) dX7_read_22 (fun H locs h => ?_)
  refine lv_aload_n hx hb dX7_read_25 rfl (lv_at hl 0 rfl) ?_
  refine lv_iconst (v := 0) hx hb dX7_read_26 (by decide) ?_
  refine kput C h 0 rfl rfl inBX7 tyX7_ok nmX7 16 (Nat.le_of_ble_eq_true rfl) wi_fl_X7_109 rfl rfl rfl (Nat.le_of_ble_eq_true rfl) (mS_16 cy am (sI (sI (sI (sI (sI u 0 0) 3 0) 4 0) 14 0) 15 0) 0) dX7_read_27 (fun H locs h => ?_)
  refine lv_aload_n hx hb dX7_read_30 rfl (lv_at hl 0 rfl) ?_
  refine lv_bipush (v := 105) hx hb dX7_read_31 (by decide) ?_
  refine lv_bipush (v := 102) hx hb dX7_read_33 (by decide) ?_
  refine kVv (As := [.int 105, .int 102]) (rest := []) C h (cwV 2 hts (gd_V wi_ml_X7_106 wi_im_X7_word wi_se_X7_word wi_in_X7 wi_co_X7_word) rfl rfl rfl hd_X7_word ⟨Nat.le_of_ble_eq_true rfl, Nat.le_of_ble_eq_true rfl⟩) 0 rfl rfl rfl (mX7_word l D cy am 105 102 _ _ hw) rfl hl.1 rfl (Nat.le_of_ble_eq_true rfl) ⟨Nat.zero_le _, Nat.zero_le _⟩ dX7_read_35 (fun u_2 H locs hw h => ?_)
  refine lv_aload_n hx hb dX7_read_38 rfl (lv_at hl 0 rfl) ?_
  refine kget C h 0 rfl rfl inBX7 4 (Nat.le_of_ble_eq_true rfl) wi_fl_X7_72 rfl dX7_read_39 ?_
  refine lv_if_ne (tgt := 49) hx hb dX7_read_42 (by decide) (fun c_42 => ?_) (fun c_42 => ?_)
  · have hw := hw.1 c_42
    obtain ⟨n, hw⟩ := hw
    exact kX7_read_L49 C hr hlk n  _ _ _ _ hw h (lv_sub hl [0] rfl)
  · have hw := hw.2 c_42
    refine lv_aload_n hx hb dX7_read_45 rfl (lv_at hl 0 rfl) ?_
    refine kVv (As := []) (rest := []) C h (cwV 0 hts (gd_V wi_ml_X7_129 wi_im_X7_readCondition wi_se_X7_readCondition wi_in_X7 wi_co_X7_readCondition) rfl rfl rfl hd_X7_readCondition ⟨Nat.le_of_ble_eq_true rfl, Nat.le_of_ble_eq_true rfl⟩) 0 rfl rfl rfl (mX7_readCondition l D cy am  _ _ hw) rfl hl.1 rfl (Nat.le_of_ble_eq_true rfl) ⟨Nat.zero_le _, Nat.zero_le _⟩ dX7_read_46 (fun u_4 H locs hw h => ?_)
    obtain ⟨n, hw⟩ := hw
    exact kX7_read_L49 C hr hlk n  _ _ _ _ hw h (lv_sub hl [0] rfl)

def wX7_fault (u : ST) (Q : Int32 → ST → Prop) : Prop :=
  Q (gI (sI u 0 0) 4) (sI u 0 0)
set_option maxHeartbeats 4000000 in
set_option maxRecDepth 100000 in
theorem mX7_fault (l : Launch) (D : va_G) (cy : CY) (am : Nat → Nat) (u : ST) (sz : Nat) {Q : Int32 → ST → Prop} (hw : wX7_fault  u Q) : Met l yX7_fault (wM yX7_fault cX7_fault 1 (some .int)) (kRm 0) (kPc D (mW cy am) cy u sz [.ref (am 0)]) (kQi D (mW cy am) cy (va_A (mW cy am u) sz) Q) 0 0 (va_A (mW cy am u) sz) := by
  refine kMet pn_X7_fault (Nat.le_of_ble_eq_true rfl) (fun p e s m below meth c ls hsz C hr hlk hex h hl => ?_)
  have hl : lv_has ls 1 [(0, .ref (am 0))] := hl
  obtain ⟨⟨hx, hb, hml, hown, hts⟩, hK, hA⟩ := id C
  unfold wX7_fault at hw
  have h : kH D (mW cy am) (va_A (mW cy am u) sz) s u s.heap [] := h
  refine lv_aload_n hx hb dX7_fault_0 rfl (lv_at hl 0 rfl) ?_
  refine lv_iconst (v := 0) hx hb dX7_fault_1 (by decide) ?_
  refine kput C h 0 rfl rfl inBX7 tyX7_ok nmX7 0 (Nat.le_of_ble_eq_true rfl) wi_fl_X7_62 rfl rfl rfl (Nat.le_of_ble_eq_true rfl) (mS_0 cy am u 0) dX7_fault_2 (fun H locs h => ?_)
  refine lv_aload_n hx hb dX7_fault_5 rfl (lv_at hl 0 rfl) ?_
  refine kget C h 0 rfl rfl inBX7 4 (Nat.le_of_ble_eq_true rfl) wi_fl_X7_72 rfl dX7_fault_6 ?_
  exact kretI C hr hlk h hw dX7_fault_9

def wX7_amiss_b26 (Q : Int32 → ST → Prop) (x1 : Int32) (xs1 : Int32) (u : ST) : Prop :=
  (((gI (sI u 0 xs1) 0) ≤ 0 → ((¬ x1 = 0 → ((¬ x1 = 1 → Q (gI (sI u 0 xs1) 19) (sI u 0 xs1)) ∧ (x1 = 1 → Q (gI (sI u 0 xs1) 18) (sI u 0 xs1)))) ∧ (x1 = 0 → Q (gI (sI u 0 xs1) 17) (sI u 0 xs1)))) ∧ (¬ (gI (sI u 0 xs1) 0) ≤ 0 → Q 0 (sI u 0 xs1)))
set_option maxHeartbeats 4000000 in
set_option maxRecDepth 100000 in
theorem kX7_amiss_b26 {p : Program} {l : Launch} {e : Env} {s : State} {m : MethodId} {args : Array Value} {below : List Frame} {meth : Method} {c : Code} {D : va_G} {cy : CY} {A : Nat → Prop} {am : Nat → Nat} {Q : Int32 → ST → Prop} (C : kC p m c cX7_amiss 2 s args RX7 D cy A) (hr : meth.sig.returnType = some .int) (hlk : meth.locks = false) : ∀ (x1 : Int32) (xs1 : Int32) (u : ST) (H : Heap) (locs : List Loc) (ls : Array Slot), wX7_amiss_b26 Q x1 xs1 u → kH D (mW cy am) A s u H locs → lv_has ls 2 [(0, .ref (am 0)), (1, .int x1)] → W p l e (kRm 0) s m args below meth c H locs 0 0 (MQ below (kQi D (mW cy am) cy A Q) args s 0 0 A) (F0 m 26 ls [.int xs1, .ref (am 0)]) := by
  intro x1 xs1 u H locs ls hw h hl
  obtain ⟨⟨hx, hb, hml, hown, hts⟩, hK, hA⟩ := id C
  unfold wX7_amiss_b26 at hw
  refine kput C h 0 rfl rfl inBX7 tyX7_ok nmX7 0 (Nat.le_of_ble_eq_true rfl) wi_fl_X7_62 rfl rfl rfl (Nat.le_of_ble_eq_true rfl) (mS_0 cy am u xs1) dX7_amiss_26 (fun H locs h => ?_)
  refine lv_aload_n hx hb dX7_amiss_29 rfl (lv_at hl 0 rfl) ?_
  refine kget C h 0 rfl rfl inBX7 0 (Nat.le_of_ble_eq_true rfl) wi_fl_X7_62 rfl dX7_amiss_30 ?_
  refine lv_if_le (tgt := 40) hx hb dX7_amiss_33 (by decide) (fun c_33 => ?_) (fun c_33 => ?_)
  · have hw := hw.1 c_33
    refine lv_iload_n hx hb dX7_amiss_40 rfl (lv_at hl 1 rfl) ?_
    refine lv_if_ne (tgt := 51) hx hb dX7_amiss_41 (by decide) (fun c_41 => ?_) (fun c_41 => ?_)
    · have hw := hw.1 c_41
      refine lv_iload_n hx hb dX7_amiss_51 rfl (lv_at hl 1 rfl) ?_
      refine lv_iconst (v := 1) hx hb dX7_amiss_52 (by decide) ?_
      refine lv_icmp_ne (tgt := 63) hx hb dX7_amiss_53 (by decide) (fun c_53 => ?_) (fun c_53 => ?_)
      · have hw := hw.1 c_53
        refine lv_aload_n hx hb dX7_amiss_63 rfl (lv_at hl 0 rfl) ?_
        refine kget C h 0 rfl rfl inBX7 19 (Nat.le_of_ble_eq_true rfl) wi_fl_X7_151 rfl dX7_amiss_64 ?_
        exact kretI C hr hlk h hw dX7_amiss_67
      · have hw := hw.2 c_53
        refine lv_aload_n hx hb dX7_amiss_56 rfl (lv_at hl 0 rfl) ?_
        refine kget C h 0 rfl rfl inBX7 18 (Nat.le_of_ble_eq_true rfl) wi_fl_X7_148 rfl dX7_amiss_57 ?_
        refine lv_goto (tgt := 67) hx hb dX7_amiss_60 (by decide) ?_
        exact kretI C hr hlk h hw dX7_amiss_67
    · have hw := hw.2 c_41
      refine lv_aload_n hx hb dX7_amiss_44 rfl (lv_at hl 0 rfl) ?_
      refine kget C h 0 rfl rfl inBX7 17 (Nat.le_of_ble_eq_true rfl) wi_fl_X7_145 rfl dX7_amiss_45 ?_
      refine lv_goto (tgt := 67) hx hb dX7_amiss_48 (by decide) ?_
      exact kretI C hr hlk h hw dX7_amiss_67
  · have hw := hw.2 c_33
    refine lv_iconst (v := 0) hx hb dX7_amiss_36 (by decide) ?_
    refine lv_goto (tgt := 67) hx hb dX7_amiss_37 (by decide) ?_
    exact kretI C hr hlk h hw dX7_amiss_67
def wX7_amiss_b21 (Q : Int32 → ST → Prop) (x1 : Int32) (u : ST) : Prop :=
  wX7_amiss_b26 Q x1 2 u
set_option maxHeartbeats 4000000 in
set_option maxRecDepth 100000 in
theorem kX7_amiss_b21 {p : Program} {l : Launch} {e : Env} {s : State} {m : MethodId} {args : Array Value} {below : List Frame} {meth : Method} {c : Code} {D : va_G} {cy : CY} {A : Nat → Prop} {am : Nat → Nat} {Q : Int32 → ST → Prop} (C : kC p m c cX7_amiss 2 s args RX7 D cy A) (hr : meth.sig.returnType = some .int) (hlk : meth.locks = false) : ∀ (x1 : Int32) (u : ST) (H : Heap) (locs : List Loc) (ls : Array Slot), wX7_amiss_b21 Q x1 u → kH D (mW cy am) A s u H locs → lv_has ls 2 [(0, .ref (am 0)), (1, .int x1)] → W p l e (kRm 0) s m args below meth c H locs 0 0 (MQ below (kQi D (mW cy am) cy A Q) args s 0 0 A) (F0 m 21 ls [.ref (am 0)]) := by
  intro x1 u H locs ls hw h hl
  obtain ⟨⟨hx, hb, hml, hown, hts⟩, hK, hA⟩ := id C
  unfold wX7_amiss_b21 at hw
  refine lv_iconst (v := 2) hx hb dX7_amiss_21 (by decide) ?_
  refine lv_goto (tgt := 26) hx hb dX7_amiss_22 (by decide) ?_
  exact kX7_amiss_b26 C hr hlk x1 2 _ _ _ _ hw h (lv_sub hl [0, 1] rfl)
def wX7_amiss (x1 : Int32) (u : ST) (Q : Int32 → ST → Prop) : Prop :=
  ((¬ (gI u 10) = 0 → ((x1 < 0 → wX7_amiss_b21 Q x1 u) ∧ (¬ x1 < 0 → ((x1 ≤ 2 → wX7_amiss_b26 Q x1 0 u) ∧ (¬ x1 ≤ 2 → wX7_amiss_b21 Q x1 u))))) ∧ ((gI u 10) = 0 → wX7_amiss_b26 Q x1 1 u))
set_option maxHeartbeats 4000000 in
set_option maxRecDepth 100000 in
theorem mX7_amiss (l : Launch) (D : va_G) (cy : CY) (am : Nat → Nat) (x1 : Int32) (u : ST) (sz : Nat) {Q : Int32 → ST → Prop} (hw : wX7_amiss x1 u Q) : Met l yX7_amiss (wM yX7_amiss cX7_amiss 2 (some .int)) (kRm 0) (kPc D (mW cy am) cy u sz [.ref (am 0), .int x1]) (kQi D (mW cy am) cy (va_A (mW cy am u) sz) Q) 0 0 (va_A (mW cy am u) sz) := by
  refine kMet pn_X7_amiss (Nat.le_of_ble_eq_true rfl) (fun p e s m below meth c ls hsz C hr hlk hex h hl => ?_)
  have hl : lv_has ls 2 [(0, .ref (am 0)), (1, .int x1)] := hl
  obtain ⟨⟨hx, hb, hml, hown, hts⟩, hK, hA⟩ := id C
  unfold wX7_amiss at hw
  have h : kH D (mW cy am) (va_A (mW cy am u) sz) s u s.heap [] := h
  refine lv_aload_n hx hb dX7_amiss_0 rfl (lv_at hl 0 rfl) ?_
  refine lv_aload_n hx hb dX7_amiss_1 rfl (lv_at hl 0 rfl) ?_
  refine kget C h 0 rfl rfl inBX7 10 (Nat.le_of_ble_eq_true rfl) wi_fl_X7_125 rfl dX7_amiss_2 ?_
  refine lv_if_ne (tgt := 12) hx hb dX7_amiss_5 (by decide) (fun c_5 => ?_) (fun c_5 => ?_)
  · have hw := hw.1 c_5
    refine lv_iload_n hx hb dX7_amiss_12 rfl (lv_at hl 1 rfl) ?_
    refine lv_if_lt (tgt := 21) hx hb dX7_amiss_13 (by decide) (fun c_13 => ?_) (fun c_13 => ?_)
    · have hw := hw.1 c_13
      exact kX7_amiss_b21 C hr hlk x1 _ _ _ _ hw h (lv_sub hl [0, 1] rfl)
    · have hw := hw.2 c_13
      refine lv_iload_n hx hb dX7_amiss_16 rfl (lv_at hl 1 rfl) ?_
      refine lv_iconst (v := 2) hx hb dX7_amiss_17 (by decide) ?_
      refine lv_icmp_le (tgt := 25) hx hb dX7_amiss_18 (by decide) (fun c_18 => ?_) (fun c_18 => ?_)
      · have hw := hw.1 c_18
        refine lv_iconst (v := 0) hx hb dX7_amiss_25 (by decide) ?_
        exact kX7_amiss_b26 C hr hlk x1 0 _ _ _ _ hw h (lv_sub hl [0, 1] rfl)
      · have hw := hw.2 c_18
        exact kX7_amiss_b21 C hr hlk x1 _ _ _ _ hw h (lv_sub hl [0, 1] rfl)
  · have hw := hw.2 c_5
    refine lv_iconst (v := 1) hx hb dX7_amiss_8 (by decide) ?_
    refine lv_goto (tgt := 26) hx hb dX7_amiss_9 (by decide) ?_
    exact kX7_amiss_b26 C hr hlk x1 1 _ _ _ _ hw h (lv_sub hl [0, 1] rfl)

def wX7_count_b133 (K110 : Int32 → Int32 → ST → Prop) (Q : Int32 → ST → Prop) (x3 : Int32) (xs0 : Int32) (xs1 : Int32) (u : ST) : Prop :=
  K110 (xs0 + xs1) (x3 + 1) u
set_option maxHeartbeats 4000000 in
set_option maxRecDepth 100000 in
theorem kX7_count_b133 {p : Program} {l : Launch} {e : Env} {s : State} {m : MethodId} {args : Array Value} {below : List Frame} {meth : Method} {c : Code} {D : va_G} {cy : CY} {A : Nat → Prop} {am : Nat → Nat} {K110 : Int32 → Int32 → ST → Prop} {Q : Int32 → ST → Prop} (C : kC p m c cX7_count 4 s args RX7 D cy A) (hr : meth.sig.returnType = some .int) (hlk : meth.locks = false) (g110 : ∀ (x2 : Int32) (x3 : Int32) (u : ST) (H : Heap) (locs : List Loc) (ls : Array Slot), K110 x2 x3 u → kH D (mW cy am) A s u H locs → lv_has ls 4 [(0, .ref (am 0)), (2, .int x2), (3, .int x3)] → W p l e (kRm 0) s m args below meth c H locs 0 0 (MQ below (kQi D (mW cy am) cy A Q) args s 0 0 A) (F0 m 110 ls [])) : ∀ (x3 : Int32) (xs0 : Int32) (xs1 : Int32) (u : ST) (H : Heap) (locs : List Loc) (ls : Array Slot), wX7_count_b133 K110 Q x3 xs0 xs1 u → kH D (mW cy am) A s u H locs → lv_has ls 4 [(0, .ref (am 0)), (3, .int x3)] → W p l e (kRm 0) s m args below meth c H locs 0 0 (MQ below (kQi D (mW cy am) cy A Q) args s 0 0 A) (F0 m 133 ls [.int xs1, .int xs0]) := by
  intro x3 xs0 xs1 u H locs ls hw h hl
  obtain ⟨⟨hx, hb, hml, hown, hts⟩, hK, hA⟩ := id C
  unfold wX7_count_b133 at hw
  refine lv_iadd hx hb dX7_count_133 ?_
  refine lv_istore_n (lv' := [(2, .int (xs0 + xs1)), (0, .ref (am 0)), (3, .int x3)]) hx hb dX7_count_134 rfl hl (by decide) rfl (fun ls hl => ?_)
  refine lv_iinc (v := x3 + 1) (lv' := [(3, .int (x3 + 1)), (2, .int (xs0 + xs1)), (0, .ref (am 0))]) hx hb dX7_count_135 hl (k := 2) rfl rfl (by decide) rfl (fun ls hl => ?_)
  refine lv_goto (tgt := 110) hx hb dX7_count_138 (by decide) ?_
  exact g110 (xs0 + xs1) (x3 + 1) _ _ _ _ hw h (lv_sub hl [2, 1, 0] rfl)
def wX7_count_B110 (K110 : Int32 → Int32 → ST → Prop) (Q : Int32 → ST → Prop) (x2 : Int32) (x3 : Int32) (u : ST) : Prop :=
  (((gI u 21) ≤ x3 → Q x2 u) ∧ (¬ (gI u 21) ≤ x3 → (vp_in x3 1000 ∧ ((0 ≤ (gR u 22 x3.toNatClampNeg) → wX7_count_b133 K110 Q x3 x2 0 u) ∧ (¬ 0 ≤ (gR u 22 x3.toNatClampNeg) → wX7_count_b133 K110 Q x3 x2 1 u)))))
set_option maxHeartbeats 4000000 in
set_option maxRecDepth 100000 in
theorem kX7_count_B110 {p : Program} {l : Launch} {e : Env} {s : State} {m : MethodId} {args : Array Value} {below : List Frame} {meth : Method} {c : Code} {D : va_G} {cy : CY} {A : Nat → Prop} {am : Nat → Nat} {K110 : Int32 → Int32 → ST → Prop} {Q : Int32 → ST → Prop} (C : kC p m c cX7_count 4 s args RX7 D cy A) (hr : meth.sig.returnType = some .int) (hlk : meth.locks = false) (g110 : ∀ (x2 : Int32) (x3 : Int32) (u : ST) (H : Heap) (locs : List Loc) (ls : Array Slot), K110 x2 x3 u → kH D (mW cy am) A s u H locs → lv_has ls 4 [(0, .ref (am 0)), (2, .int x2), (3, .int x3)] → W p l e (kRm 0) s m args below meth c H locs 0 0 (MQ below (kQi D (mW cy am) cy A Q) args s 0 0 A) (F0 m 110 ls [])) : ∀ (x2 : Int32) (x3 : Int32) (u : ST) (H : Heap) (locs : List Loc) (ls : Array Slot), wX7_count_B110 K110 Q x2 x3 u → kH D (mW cy am) A s u H locs → lv_has ls 4 [(0, .ref (am 0)), (2, .int x2), (3, .int x3)] → W p l e (kRm 0) s m args below meth c H locs 0 0 (MQ below (kQi D (mW cy am) cy A Q) args s 0 0 A) (F0 m 110 ls []) := by
  intro x2 x3 u H locs ls hw h hl
  obtain ⟨⟨hx, hb, hml, hown, hts⟩, hK, hA⟩ := id C
  unfold wX7_count_B110 at hw
  refine lv_iload_n hx hb dX7_count_110 rfl (lv_at hl 2 rfl) ?_
  refine lv_aload_n hx hb dX7_count_111 rfl (lv_at hl 0 rfl) ?_
  refine kget C h 0 rfl rfl inBX7 21 (Nat.le_of_ble_eq_true rfl) wi_fl_X7_157 rfl dX7_count_112 ?_
  refine lv_icmp_ge (tgt := 141) hx hb dX7_count_115 (by decide) (fun c_115 => ?_) (fun c_115 => ?_)
  · have hw := hw.1 c_115
    refine lv_iload_n hx hb dX7_count_141 rfl (lv_at hl 1 rfl) ?_
    exact kretI C hr hlk h hw dX7_count_142
  · have hw := hw.2 c_115
    refine lv_iload_n hx hb dX7_count_118 rfl (lv_at hl 1 rfl) ?_
    refine lv_aload_n hx hb dX7_count_119 rfl (lv_at hl 0 rfl) ?_
    refine kget C h 0 rfl rfl inBX7 22 (Nat.le_of_ble_eq_true rfl) wi_fl_X7_29 rfl dX7_count_120 ?_
    refine lv_iload_n hx hb dX7_count_123 rfl (lv_at hl 2 rfl) ?_
    obtain ⟨i_124, hw⟩ := hw
    refine kiald C h 7 rfl i_124 dX7_count_124 ?_
    refine lv_if_ge (tgt := 132) hx hb dX7_count_125 (by decide) (fun c_125 => ?_) (fun c_125 => ?_)
    · have hw := hw.1 c_125
      refine lv_iconst (v := 0) hx hb dX7_count_132 (by decide) ?_
      exact kX7_count_b133 C hr hlk g110 x3 x2 0 _ _ _ _ hw h (lv_sub hl [0, 2] rfl)
    · have hw := hw.2 c_125
      refine lv_iconst (v := 1) hx hb dX7_count_128 (by decide) ?_
      refine lv_goto (tgt := 133) hx hb dX7_count_129 (by decide) ?_
      exact kX7_count_b133 C hr hlk g110 x3 x2 1 _ _ _ _ hw h (lv_sub hl [0, 2] rfl)
def wX7_count_L110 (Q : Int32 → ST → Prop) : Nat → Int32 → Int32 → ST → Prop
  | 0, _, _, _ => False
  | n + 1, x2, x3, u => wX7_count_B110 (wX7_count_L110 Q n) Q x2 x3 u
set_option maxHeartbeats 4000000 in
theorem kX7_count_L110 {p : Program} {l : Launch} {e : Env} {s : State} {m : MethodId} {args : Array Value} {below : List Frame} {meth : Method} {c : Code} {D : va_G} {cy : CY} {A : Nat → Prop} {am : Nat → Nat} {Q : Int32 → ST → Prop} (C : kC p m c cX7_count 4 s args RX7 D cy A) (hr : meth.sig.returnType = some .int) (hlk : meth.locks = false) : ∀ n : Nat, ∀ (x2 : Int32) (x3 : Int32) (u : ST) (H : Heap) (locs : List Loc) (ls : Array Slot), wX7_count_L110 Q n x2 x3 u → kH D (mW cy am) A s u H locs → lv_has ls 4 [(0, .ref (am 0)), (2, .int x2), (3, .int x3)] → W p l e (kRm 0) s m args below meth c H locs 0 0 (MQ below (kQi D (mW cy am) cy A Q) args s 0 0 A) (F0 m 110 ls []) := by
  intro n
  induction n with
  | zero => intro x2 x3 u H locs ls hw; exact False.elim hw
  | succ n ih => exact kX7_count_B110 C hr hlk ih
def wX7_count_b178 (K150 : Int32 → Int32 → ST → Prop) (Q : Int32 → ST → Prop) (x3 : Int32) (xs0 : Int32) (u : ST) : Prop :=
  K150 xs0 (x3 + 1) u
set_option maxHeartbeats 4000000 in
set_option maxRecDepth 100000 in
theorem kX7_count_b178 {p : Program} {l : Launch} {e : Env} {s : State} {m : MethodId} {args : Array Value} {below : List Frame} {meth : Method} {c : Code} {D : va_G} {cy : CY} {A : Nat → Prop} {am : Nat → Nat} {K150 : Int32 → Int32 → ST → Prop} {Q : Int32 → ST → Prop} (C : kC p m c cX7_count 4 s args RX7 D cy A) (hr : meth.sig.returnType = some .int) (hlk : meth.locks = false) (g150 : ∀ (x2 : Int32) (x3 : Int32) (u : ST) (H : Heap) (locs : List Loc) (ls : Array Slot), K150 x2 x3 u → kH D (mW cy am) A s u H locs → lv_has ls 4 [(0, .ref (am 0)), (2, .int x2), (3, .int x3)] → W p l e (kRm 0) s m args below meth c H locs 0 0 (MQ below (kQi D (mW cy am) cy A Q) args s 0 0 A) (F0 m 150 ls [])) : ∀ (x3 : Int32) (xs0 : Int32) (u : ST) (H : Heap) (locs : List Loc) (ls : Array Slot), wX7_count_b178 K150 Q x3 xs0 u → kH D (mW cy am) A s u H locs → lv_has ls 4 [(0, .ref (am 0)), (3, .int x3)] → W p l e (kRm 0) s m args below meth c H locs 0 0 (MQ below (kQi D (mW cy am) cy A Q) args s 0 0 A) (F0 m 178 ls [.int xs0]) := by
  intro x3 xs0 u H locs ls hw h hl
  obtain ⟨⟨hx, hb, hml, hown, hts⟩, hK, hA⟩ := id C
  unfold wX7_count_b178 at hw
  refine lv_istore_n (lv' := [(2, .int xs0), (0, .ref (am 0)), (3, .int x3)]) hx hb dX7_count_178 rfl hl (by decide) rfl (fun ls hl => ?_)
  refine lv_iinc (v := x3 + 1) (lv' := [(3, .int (x3 + 1)), (2, .int xs0), (0, .ref (am 0))]) hx hb dX7_count_179 hl (k := 2) rfl rfl (by decide) rfl (fun ls hl => ?_)
  refine lv_goto (tgt := 150) hx hb dX7_count_182 (by decide) ?_
  exact g150 xs0 (x3 + 1) _ _ _ _ hw h (lv_sub hl [2, 1, 0] rfl)
def wX7_count_B150 (K150 : Int32 → Int32 → ST → Prop) (Q : Int32 → ST → Prop) (x2 : Int32) (x3 : Int32) (u : ST) : Prop :=
  (((gI u 21) ≤ x3 → Q x2 u) ∧ (¬ (gI u 21) ≤ x3 → (vp_in x3 1000 ∧ (((gR u 26 x3.toNatClampNeg) ≤ x2 → wX7_count_b178 K150 Q x3 x2 u) ∧ (¬ (gR u 26 x3.toNatClampNeg) ≤ x2 → (vp_in x3 1000 ∧ wX7_count_b178 K150 Q x3 (gR u 26 x3.toNatClampNeg) u))))))
set_option maxHeartbeats 4000000 in
set_option maxRecDepth 100000 in
theorem kX7_count_B150 {p : Program} {l : Launch} {e : Env} {s : State} {m : MethodId} {args : Array Value} {below : List Frame} {meth : Method} {c : Code} {D : va_G} {cy : CY} {A : Nat → Prop} {am : Nat → Nat} {K150 : Int32 → Int32 → ST → Prop} {Q : Int32 → ST → Prop} (C : kC p m c cX7_count 4 s args RX7 D cy A) (hr : meth.sig.returnType = some .int) (hlk : meth.locks = false) (g150 : ∀ (x2 : Int32) (x3 : Int32) (u : ST) (H : Heap) (locs : List Loc) (ls : Array Slot), K150 x2 x3 u → kH D (mW cy am) A s u H locs → lv_has ls 4 [(0, .ref (am 0)), (2, .int x2), (3, .int x3)] → W p l e (kRm 0) s m args below meth c H locs 0 0 (MQ below (kQi D (mW cy am) cy A Q) args s 0 0 A) (F0 m 150 ls [])) : ∀ (x2 : Int32) (x3 : Int32) (u : ST) (H : Heap) (locs : List Loc) (ls : Array Slot), wX7_count_B150 K150 Q x2 x3 u → kH D (mW cy am) A s u H locs → lv_has ls 4 [(0, .ref (am 0)), (2, .int x2), (3, .int x3)] → W p l e (kRm 0) s m args below meth c H locs 0 0 (MQ below (kQi D (mW cy am) cy A Q) args s 0 0 A) (F0 m 150 ls []) := by
  intro x2 x3 u H locs ls hw h hl
  obtain ⟨⟨hx, hb, hml, hown, hts⟩, hK, hA⟩ := id C
  unfold wX7_count_B150 at hw
  refine lv_iload_n hx hb dX7_count_150 rfl (lv_at hl 2 rfl) ?_
  refine lv_aload_n hx hb dX7_count_151 rfl (lv_at hl 0 rfl) ?_
  refine kget C h 0 rfl rfl inBX7 21 (Nat.le_of_ble_eq_true rfl) wi_fl_X7_157 rfl dX7_count_152 ?_
  refine lv_icmp_ge (tgt := 185) hx hb dX7_count_155 (by decide) (fun c_155 => ?_) (fun c_155 => ?_)
  · have hw := hw.1 c_155
    refine lv_iload_n hx hb dX7_count_185 rfl (lv_at hl 1 rfl) ?_
    exact kretI C hr hlk h hw dX7_count_186
  · have hw := hw.2 c_155
    refine lv_aload_n hx hb dX7_count_158 rfl (lv_at hl 0 rfl) ?_
    refine kget C h 0 rfl rfl inBX7 26 (Nat.le_of_ble_eq_true rfl) wi_fl_X7_41 rfl dX7_count_159 ?_
    refine lv_iload_n hx hb dX7_count_162 rfl (lv_at hl 2 rfl) ?_
    obtain ⟨i_163, hw⟩ := hw
    refine kiald C h 11 rfl i_163 dX7_count_163 ?_
    refine lv_iload_n hx hb dX7_count_164 rfl (lv_at hl 1 rfl) ?_
    refine lv_icmp_le (tgt := 177) hx hb dX7_count_165 (by decide) (fun c_165 => ?_) (fun c_165 => ?_)
    · have hw := hw.1 c_165
      refine lv_iload_n hx hb dX7_count_177 rfl (lv_at hl 1 rfl) ?_
      exact kX7_count_b178 C hr hlk g150 x3 x2 _ _ _ _ hw h (lv_sub hl [0, 2] rfl)
    · have hw := hw.2 c_165
      refine lv_aload_n hx hb dX7_count_168 rfl (lv_at hl 0 rfl) ?_
      refine kget C h 0 rfl rfl inBX7 26 (Nat.le_of_ble_eq_true rfl) wi_fl_X7_41 rfl dX7_count_169 ?_
      refine lv_iload_n hx hb dX7_count_172 rfl (lv_at hl 2 rfl) ?_
      obtain ⟨i_173, hw⟩ := hw
      refine kiald C h 11 rfl i_173 dX7_count_173 ?_
      refine lv_goto (tgt := 178) hx hb dX7_count_174 (by decide) ?_
      exact kX7_count_b178 C hr hlk g150 x3 (gR u 26 x3.toNatClampNeg) _ _ _ _ hw h (lv_sub hl [0, 2] rfl)
def wX7_count_L150 (Q : Int32 → ST → Prop) : Nat → Int32 → Int32 → ST → Prop
  | 0, _, _, _ => False
  | n + 1, x2, x3, u => wX7_count_B150 (wX7_count_L150 Q n) Q x2 x3 u
set_option maxHeartbeats 4000000 in
theorem kX7_count_L150 {p : Program} {l : Launch} {e : Env} {s : State} {m : MethodId} {args : Array Value} {below : List Frame} {meth : Method} {c : Code} {D : va_G} {cy : CY} {A : Nat → Prop} {am : Nat → Nat} {Q : Int32 → ST → Prop} (C : kC p m c cX7_count 4 s args RX7 D cy A) (hr : meth.sig.returnType = some .int) (hlk : meth.locks = false) : ∀ n : Nat, ∀ (x2 : Int32) (x3 : Int32) (u : ST) (H : Heap) (locs : List Loc) (ls : Array Slot), wX7_count_L150 Q n x2 x3 u → kH D (mW cy am) A s u H locs → lv_has ls 4 [(0, .ref (am 0)), (2, .int x2), (3, .int x3)] → W p l e (kRm 0) s m args below meth c H locs 0 0 (MQ below (kQi D (mW cy am) cy A Q) args s 0 0 A) (F0 m 150 ls []) := by
  intro n
  induction n with
  | zero => intro x2 x3 u H locs ls hw; exact False.elim hw
  | succ n ih => exact kX7_count_B150 C hr hlk ih
def wX7_count_b16 (Q : Int32 → ST → Prop) (x1 : Int32) (xs1 : Int32) (u : ST) : Prop :=
  ((¬ x1 = 7 → ((0 < (gI (sI u 0 xs1) 0) → Q 0 (sI u 0 xs1)) ∧ (¬ 0 < (gI (sI u 0 xs1) 0) → ((¬ (gI (sI u 0 xs1) 10) = 0 → (((x1.toInt < 0 ∨ (5 : Int) < x1.toInt) → (∃ n : Nat, wX7_count_L150 Q n 0 0 (sI u 0 xs1))) ∧ (x1 = 0 → Q (gI (sI u 0 xs1) 11) (sI u 0 xs1)) ∧ (x1 = 1 → Q (gI (sI u 0 xs1) 12) (sI u 0 xs1)) ∧ (x1 = 2 → Q (gI (sI u 0 xs1) 13) (sI u 0 xs1)) ∧ (x1 = 3 → Q (gI (sI u 0 xs1) 21) (sI u 0 xs1)) ∧ (x1 = 4 → (∃ n : Nat, wX7_count_L110 Q n 0 0 (sI u 0 xs1))) ∧ (x1 = 5 → Q (gI (sI u 0 xs1) 33) (sI u 0 xs1)))) ∧ ((gI (sI u 0 xs1) 10) = 0 → Q 0 (sI u 0 xs1)))))) ∧ (x1 = 7 → Q (gI (sI u 0 xs1) 2) (sI u 0 xs1)))
set_option maxHeartbeats 4000000 in
set_option maxRecDepth 100000 in
theorem kX7_count_b16 {p : Program} {l : Launch} {e : Env} {s : State} {m : MethodId} {args : Array Value} {below : List Frame} {meth : Method} {c : Code} {D : va_G} {cy : CY} {A : Nat → Prop} {am : Nat → Nat} {Q : Int32 → ST → Prop} (C : kC p m c cX7_count 4 s args RX7 D cy A) (hr : meth.sig.returnType = some .int) (hlk : meth.locks = false) : ∀ (x1 : Int32) (xs1 : Int32) (u : ST) (H : Heap) (locs : List Loc) (ls : Array Slot), wX7_count_b16 Q x1 xs1 u → kH D (mW cy am) A s u H locs → lv_has ls 4 [(0, .ref (am 0)), (1, .int x1)] → W p l e (kRm 0) s m args below meth c H locs 0 0 (MQ below (kQi D (mW cy am) cy A Q) args s 0 0 A) (F0 m 16 ls [.int xs1, .ref (am 0)]) := by
  intro x1 xs1 u H locs ls hw h hl
  obtain ⟨⟨hx, hb, hml, hown, hts⟩, hK, hA⟩ := id C
  unfold wX7_count_b16 at hw
  refine kput C h 0 rfl rfl inBX7 tyX7_ok nmX7 0 (Nat.le_of_ble_eq_true rfl) wi_fl_X7_62 rfl rfl rfl (Nat.le_of_ble_eq_true rfl) (mS_0 cy am u xs1) dX7_count_16 (fun H locs h => ?_)
  refine lv_iload_n hx hb dX7_count_19 rfl (lv_at hl 1 rfl) ?_
  refine lv_bipush (v := 7) hx hb dX7_count_20 (by decide) ?_
  refine lv_icmp_ne (tgt := 30) hx hb dX7_count_22 (by decide) (fun c_22 => ?_) (fun c_22 => ?_)
  · have hw := hw.1 c_22
    refine lv_aload_n hx hb dX7_count_30 rfl (lv_at hl 0 rfl) ?_
    refine kget C h 0 rfl rfl inBX7 0 (Nat.le_of_ble_eq_true rfl) wi_fl_X7_62 rfl dX7_count_31 ?_
    refine lv_if_gt (tgt := 44) hx hb dX7_count_34 (by decide) (fun c_34 => ?_) (fun c_34 => ?_)
    · have hw := hw.1 c_34
      refine lv_iconst (v := 0) hx hb dX7_count_44 (by decide) ?_
      exact kretI C hr hlk h hw dX7_count_45
    · have hw := hw.2 c_34
      refine lv_aload_n hx hb dX7_count_37 rfl (lv_at hl 0 rfl) ?_
      refine kget C h 0 rfl rfl inBX7 10 (Nat.le_of_ble_eq_true rfl) wi_fl_X7_125 rfl dX7_count_38 ?_
      refine lv_if_ne (tgt := 46) hx hb dX7_count_41 (by decide) (fun c_41 => ?_) (fun c_41 => ?_)
      · have hw := hw.1 c_41
        refine lv_iconst (v := 0) hx hb dX7_count_46 (by decide) ?_
        refine lv_istore_n (lv' := [(2, .int 0), (0, .ref (am 0)), (1, .int x1)]) hx hb dX7_count_47 rfl hl (by decide) rfl (fun ls hl => ?_)
        refine lv_iload_n hx hb dX7_count_48 rfl (lv_at hl 2 rfl) ?_
        by_cases c_49 : x1.toInt < 0 ∨ (5 : Int) < x1.toInt
        · refine lv_tableOut (tgt := 148) hx hb dX7_count_49 c_49 (by decide) ?_
          have hw := hw.1 c_49
          refine lv_iconst (v := 0) hx hb dX7_count_148 (by decide) ?_
          refine lv_istore_n (lv' := [(3, .int 0), (2, .int 0), (0, .ref (am 0)), (1, .int x1)]) hx hb dX7_count_149 rfl hl (by decide) rfl (fun ls hl => ?_)
          obtain ⟨n, hw⟩ := hw
          exact kX7_count_L150 C hr hlk n 0 0 _ _ _ _ hw h (lv_sub hl [2, 1, 0] rfl)
        · obtain ⟨j, hj, ej⟩ := sw_of (n := 5) c_49 (by decide)
          rcases (show j = 0 ∨ j = 1 ∨ j = 2 ∨ j = 3 ∨ j = 4 ∨ j = 5 by omega) with rfl | rfl | rfl | rfl | rfl | rfl
          · have ek : x1 = 0 := ej
            refine lv_tableIn (tgt := 88) hx hb dX7_count_49 (by rw [ek]; decide) (by rw [ek]; decide) (by rw [ek]; rfl) (by decide) ?_
            have hw := hw.2.1 ek
            refine lv_aload_n hx hb dX7_count_88 rfl (lv_at hl 1 rfl) ?_
            refine kget C h 0 rfl rfl inBX7 11 (Nat.le_of_ble_eq_true rfl) wi_fl_X7_116 rfl dX7_count_89 ?_
            exact kretI C hr hlk h hw dX7_count_92
          · have ek : x1 = 1 := ej
            refine lv_tableIn (tgt := 93) hx hb dX7_count_49 (by rw [ek]; decide) (by rw [ek]; decide) (by rw [ek]; rfl) (by decide) ?_
            have hw := hw.2.2.1 ek
            refine lv_aload_n hx hb dX7_count_93 rfl (lv_at hl 1 rfl) ?_
            refine kget C h 0 rfl rfl inBX7 12 (Nat.le_of_ble_eq_true rfl) wi_fl_X7_119 rfl dX7_count_94 ?_
            exact kretI C hr hlk h hw dX7_count_97
          · have ek : x1 = 2 := ej
            refine lv_tableIn (tgt := 98) hx hb dX7_count_49 (by rw [ek]; decide) (by rw [ek]; decide) (by rw [ek]; rfl) (by decide) ?_
            have hw := hw.2.2.2.1 ek
            refine lv_aload_n hx hb dX7_count_98 rfl (lv_at hl 1 rfl) ?_
            refine kget C h 0 rfl rfl inBX7 13 (Nat.le_of_ble_eq_true rfl) wi_fl_X7_122 rfl dX7_count_99 ?_
            exact kretI C hr hlk h hw dX7_count_102
          · have ek : x1 = 3 := ej
            refine lv_tableIn (tgt := 103) hx hb dX7_count_49 (by rw [ek]; decide) (by rw [ek]; decide) (by rw [ek]; rfl) (by decide) ?_
            have hw := hw.2.2.2.2.1 ek
            refine lv_aload_n hx hb dX7_count_103 rfl (lv_at hl 1 rfl) ?_
            refine kget C h 0 rfl rfl inBX7 21 (Nat.le_of_ble_eq_true rfl) wi_fl_X7_157 rfl dX7_count_104 ?_
            exact kretI C hr hlk h hw dX7_count_107
          · have ek : x1 = 4 := ej
            refine lv_tableIn (tgt := 108) hx hb dX7_count_49 (by rw [ek]; decide) (by rw [ek]; decide) (by rw [ek]; rfl) (by decide) ?_
            have hw := hw.2.2.2.2.2.1 ek
            refine lv_iconst (v := 0) hx hb dX7_count_108 (by decide) ?_
            refine lv_istore_n (lv' := [(3, .int 0), (2, .int 0), (0, .ref (am 0)), (1, .int x1)]) hx hb dX7_count_109 rfl hl (by decide) rfl (fun ls hl => ?_)
            obtain ⟨n, hw⟩ := hw
            exact kX7_count_L110 C hr hlk n 0 0 _ _ _ _ hw h (lv_sub hl [2, 1, 0] rfl)
          · have ek : x1 = 5 := ej
            refine lv_tableIn (tgt := 143) hx hb dX7_count_49 (by rw [ek]; decide) (by rw [ek]; decide) (by rw [ek]; rfl) (by decide) ?_
            have hw := hw.2.2.2.2.2.2 ek
            refine lv_aload_n hx hb dX7_count_143 rfl (lv_at hl 1 rfl) ?_
            refine kget C h 0 rfl rfl inBX7 33 (Nat.le_of_ble_eq_true rfl) wi_fl_X7_160 rfl dX7_count_144 ?_
            exact kretI C hr hlk h hw dX7_count_147
      · have hw := hw.2 c_41
        refine lv_iconst (v := 0) hx hb dX7_count_44 (by decide) ?_
        exact kretI C hr hlk h hw dX7_count_45
  · have hw := hw.2 c_22
    refine lv_aload_n hx hb dX7_count_25 rfl (lv_at hl 0 rfl) ?_
    refine kget C h 0 rfl rfl inBX7 2 (Nat.le_of_ble_eq_true rfl) wi_fl_X7_66 rfl dX7_count_26 ?_
    exact kretI C hr hlk h hw dX7_count_29
def wX7_count_b11 (Q : Int32 → ST → Prop) (x1 : Int32) (u : ST) : Prop :=
  wX7_count_b16 Q x1 1 u
set_option maxHeartbeats 4000000 in
set_option maxRecDepth 100000 in
theorem kX7_count_b11 {p : Program} {l : Launch} {e : Env} {s : State} {m : MethodId} {args : Array Value} {below : List Frame} {meth : Method} {c : Code} {D : va_G} {cy : CY} {A : Nat → Prop} {am : Nat → Nat} {Q : Int32 → ST → Prop} (C : kC p m c cX7_count 4 s args RX7 D cy A) (hr : meth.sig.returnType = some .int) (hlk : meth.locks = false) : ∀ (x1 : Int32) (u : ST) (H : Heap) (locs : List Loc) (ls : Array Slot), wX7_count_b11 Q x1 u → kH D (mW cy am) A s u H locs → lv_has ls 4 [(0, .ref (am 0)), (1, .int x1)] → W p l e (kRm 0) s m args below meth c H locs 0 0 (MQ below (kQi D (mW cy am) cy A Q) args s 0 0 A) (F0 m 11 ls [.ref (am 0)]) := by
  intro x1 u H locs ls hw h hl
  obtain ⟨⟨hx, hb, hml, hown, hts⟩, hK, hA⟩ := id C
  unfold wX7_count_b11 at hw
  refine lv_iconst (v := 1) hx hb dX7_count_11 (by decide) ?_
  refine lv_goto (tgt := 16) hx hb dX7_count_12 (by decide) ?_
  exact kX7_count_b16 C hr hlk x1 1 _ _ _ _ hw h (lv_sub hl [0, 1] rfl)
def wX7_count (x1 : Int32) (u : ST) (Q : Int32 → ST → Prop) : Prop :=
  ((x1 < 0 → wX7_count_b11 Q x1 u) ∧ (¬ x1 < 0 → ((x1 ≤ 7 → wX7_count_b16 Q x1 0 u) ∧ (¬ x1 ≤ 7 → wX7_count_b11 Q x1 u))))
set_option maxHeartbeats 4000000 in
set_option maxRecDepth 100000 in
theorem mX7_count (l : Launch) (D : va_G) (cy : CY) (am : Nat → Nat) (x1 : Int32) (u : ST) (sz : Nat) {Q : Int32 → ST → Prop} (hw : wX7_count x1 u Q) : Met l yX7_count (wM yX7_count cX7_count 4 (some .int)) (kRm 0) (kPc D (mW cy am) cy u sz [.ref (am 0), .int x1]) (kQi D (mW cy am) cy (va_A (mW cy am u) sz) Q) 0 0 (va_A (mW cy am u) sz) := by
  refine kMet pn_X7_count (Nat.le_of_ble_eq_true rfl) (fun p e s m below meth c ls hsz C hr hlk hex h hl => ?_)
  have hl : lv_has ls 4 [(0, .ref (am 0)), (1, .int x1)] := hl
  obtain ⟨⟨hx, hb, hml, hown, hts⟩, hK, hA⟩ := id C
  unfold wX7_count at hw
  have h : kH D (mW cy am) (va_A (mW cy am u) sz) s u s.heap [] := h
  refine lv_aload_n hx hb dX7_count_0 rfl (lv_at hl 0 rfl) ?_
  refine lv_iload_n hx hb dX7_count_1 rfl (lv_at hl 1 rfl) ?_
  refine lv_if_lt (tgt := 11) hx hb dX7_count_2 (by decide) (fun c_2 => ?_) (fun c_2 => ?_)
  · have hw := hw.1 c_2
    exact kX7_count_b11 C hr hlk x1 _ _ _ _ hw h (lv_sub hl [0, 1] rfl)
  · have hw := hw.2 c_2
    refine lv_iload_n hx hb dX7_count_5 rfl (lv_at hl 1 rfl) ?_
    refine lv_bipush (v := 7) hx hb dX7_count_6 (by decide) ?_
    refine lv_icmp_le (tgt := 15) hx hb dX7_count_8 (by decide) (fun c_8 => ?_) (fun c_8 => ?_)
    · have hw := hw.1 c_8
      refine lv_iconst (v := 0) hx hb dX7_count_15 (by decide) ?_
      exact kX7_count_b16 C hr hlk x1 0 _ _ _ _ hw h (lv_sub hl [0, 1] rfl)
    · have hw := hw.2 c_8
      exact kX7_count_b11 C hr hlk x1 _ _ _ _ hw h (lv_sub hl [0, 1] rfl)

def wX7_rule_b38 (Q : Int32 → ST → Prop) (x1 : Int32) (x2 : Int32) (xs1 : Int32) (u : ST) : Prop :=
  (((gI (sI u 0 xs1) 0) ≤ 0 → ((¬ x2 = (-1) → (vp_in x1 512 ∧ ((¬ (((gR (sI u 0 xs1) 7 x1.toNatClampNeg) >>> (x2 &&& 31)) &&& 1) = 1 → (vp_in x1 512 ∧ ((¬ (((gR (sI u 0 xs1) 8 x1.toNatClampNeg) >>> (x2 &&& 31)) &&& 1) = 1 → Q 2 (sI u 0 xs1)) ∧ ((((gR (sI u 0 xs1) 8 x1.toNatClampNeg) >>> (x2 &&& 31)) &&& 1) = 1 → Q 0 (sI u 0 xs1))))) ∧ ((((gR (sI u 0 xs1) 7 x1.toNatClampNeg) >>> (x2 &&& 31)) &&& 1) = 1 → Q 1 (sI u 0 xs1))))) ∧ (x2 = (-1) → (vp_in x1 512 ∧ Q (gR (sI u 0 xs1) 9 x1.toNatClampNeg) (sI u 0 xs1))))) ∧ (¬ (gI (sI u 0 xs1) 0) ≤ 0 → Q 0 (sI u 0 xs1)))
set_option maxHeartbeats 4000000 in
set_option maxRecDepth 100000 in
theorem kX7_rule_b38 {p : Program} {l : Launch} {e : Env} {s : State} {m : MethodId} {args : Array Value} {below : List Frame} {meth : Method} {c : Code} {D : va_G} {cy : CY} {A : Nat → Prop} {am : Nat → Nat} {Q : Int32 → ST → Prop} (C : kC p m c cX7_rule 3 s args RX7 D cy A) (hr : meth.sig.returnType = some .int) (hlk : meth.locks = false) : ∀ (x1 : Int32) (x2 : Int32) (xs1 : Int32) (u : ST) (H : Heap) (locs : List Loc) (ls : Array Slot), wX7_rule_b38 Q x1 x2 xs1 u → kH D (mW cy am) A s u H locs → lv_has ls 3 [(0, .ref (am 0)), (1, .int x1), (2, .int x2)] → W p l e (kRm 0) s m args below meth c H locs 0 0 (MQ below (kQi D (mW cy am) cy A Q) args s 0 0 A) (F0 m 38 ls [.int xs1, .ref (am 0)]) := by
  intro x1 x2 xs1 u H locs ls hw h hl
  obtain ⟨⟨hx, hb, hml, hown, hts⟩, hK, hA⟩ := id C
  unfold wX7_rule_b38 at hw
  refine kput C h 0 rfl rfl inBX7 tyX7_ok nmX7 0 (Nat.le_of_ble_eq_true rfl) wi_fl_X7_62 rfl rfl rfl (Nat.le_of_ble_eq_true rfl) (mS_0 cy am u xs1) dX7_rule_38 (fun H locs h => ?_)
  refine lv_aload_n hx hb dX7_rule_41 rfl (lv_at hl 0 rfl) ?_
  refine kget C h 0 rfl rfl inBX7 0 (Nat.le_of_ble_eq_true rfl) wi_fl_X7_62 rfl dX7_rule_42 ?_
  refine lv_if_le (tgt := 50) hx hb dX7_rule_45 (by decide) (fun c_45 => ?_) (fun c_45 => ?_)
  · have hw := hw.1 c_45
    refine lv_iload_n hx hb dX7_rule_50 rfl (lv_at hl 2 rfl) ?_
    refine lv_iconst (v := (-1)) hx hb dX7_rule_51 (by decide) ?_
    refine lv_icmp_ne (tgt := 64) hx hb dX7_rule_52 (by decide) (fun c_52 => ?_) (fun c_52 => ?_)
    · have hw := hw.1 c_52
      refine lv_aload_n hx hb dX7_rule_64 rfl (lv_at hl 0 rfl) ?_
      refine kget C h 0 rfl rfl inBX7 7 (Nat.le_of_ble_eq_true rfl) wi_fl_X7_20 rfl dX7_rule_65 ?_
      refine lv_iload_n hx hb dX7_rule_68 rfl (lv_at hl 1 rfl) ?_
      obtain ⟨i_69, hw⟩ := hw
      refine kiald C h 4 rfl i_69 dX7_rule_69 ?_
      refine lv_iload_n hx hb dX7_rule_70 rfl (lv_at hl 2 rfl) ?_
      refine lv_ishr hx hb dX7_rule_71 ?_
      refine lv_iconst (v := 1) hx hb dX7_rule_72 (by decide) ?_
      refine lv_iand hx hb dX7_rule_73 ?_
      refine lv_iconst (v := 1) hx hb dX7_rule_74 (by decide) ?_
      refine lv_icmp_ne (tgt := 82) hx hb dX7_rule_75 (by decide) (fun c_75 => ?_) (fun c_75 => ?_)
      · have hw := hw.1 c_75
        refine lv_aload_n hx hb dX7_rule_82 rfl (lv_at hl 0 rfl) ?_
        refine kget C h 0 rfl rfl inBX7 8 (Nat.le_of_ble_eq_true rfl) wi_fl_X7_23 rfl dX7_rule_83 ?_
        refine lv_iload_n hx hb dX7_rule_86 rfl (lv_at hl 1 rfl) ?_
        obtain ⟨i_87, hw⟩ := hw
        refine kiald C h 5 rfl i_87 dX7_rule_87 ?_
        refine lv_iload_n hx hb dX7_rule_88 rfl (lv_at hl 2 rfl) ?_
        refine lv_ishr hx hb dX7_rule_89 ?_
        refine lv_iconst (v := 1) hx hb dX7_rule_90 (by decide) ?_
        refine lv_iand hx hb dX7_rule_91 ?_
        refine lv_iconst (v := 1) hx hb dX7_rule_92 (by decide) ?_
        refine lv_icmp_ne (tgt := 100) hx hb dX7_rule_93 (by decide) (fun c_93 => ?_) (fun c_93 => ?_)
        · have hw := hw.1 c_93
          refine lv_iconst (v := 2) hx hb dX7_rule_100 (by decide) ?_
          exact kretI C hr hlk h hw dX7_rule_101
        · have hw := hw.2 c_93
          refine lv_iconst (v := 0) hx hb dX7_rule_96 (by decide) ?_
          refine lv_goto (tgt := 101) hx hb dX7_rule_97 (by decide) ?_
          exact kretI C hr hlk h hw dX7_rule_101
      · have hw := hw.2 c_75
        refine lv_iconst (v := 1) hx hb dX7_rule_78 (by decide) ?_
        refine lv_goto (tgt := 101) hx hb dX7_rule_79 (by decide) ?_
        exact kretI C hr hlk h hw dX7_rule_101
    · have hw := hw.2 c_52
      refine lv_aload_n hx hb dX7_rule_55 rfl (lv_at hl 0 rfl) ?_
      refine kget C h 0 rfl rfl inBX7 9 (Nat.le_of_ble_eq_true rfl) wi_fl_X7_26 rfl dX7_rule_56 ?_
      refine lv_iload_n hx hb dX7_rule_59 rfl (lv_at hl 1 rfl) ?_
      obtain ⟨i_60, hw⟩ := hw
      refine kiald C h 6 rfl i_60 dX7_rule_60 ?_
      refine lv_goto (tgt := 101) hx hb dX7_rule_61 (by decide) ?_
      exact kretI C hr hlk h hw dX7_rule_101
  · have hw := hw.2 c_45
    refine lv_iconst (v := 0) hx hb dX7_rule_48 (by decide) ?_
    exact kretI C hr hlk h hw dX7_rule_49
def wX7_rule_b33 (Q : Int32 → ST → Prop) (x1 : Int32) (x2 : Int32) (u : ST) : Prop :=
  wX7_rule_b38 Q x1 x2 1 u
set_option maxHeartbeats 4000000 in
set_option maxRecDepth 100000 in
theorem kX7_rule_b33 {p : Program} {l : Launch} {e : Env} {s : State} {m : MethodId} {args : Array Value} {below : List Frame} {meth : Method} {c : Code} {D : va_G} {cy : CY} {A : Nat → Prop} {am : Nat → Nat} {Q : Int32 → ST → Prop} (C : kC p m c cX7_rule 3 s args RX7 D cy A) (hr : meth.sig.returnType = some .int) (hlk : meth.locks = false) : ∀ (x1 : Int32) (x2 : Int32) (u : ST) (H : Heap) (locs : List Loc) (ls : Array Slot), wX7_rule_b33 Q x1 x2 u → kH D (mW cy am) A s u H locs → lv_has ls 3 [(0, .ref (am 0)), (1, .int x1), (2, .int x2)] → W p l e (kRm 0) s m args below meth c H locs 0 0 (MQ below (kQi D (mW cy am) cy A Q) args s 0 0 A) (F0 m 33 ls [.ref (am 0)]) := by
  intro x1 x2 u H locs ls hw h hl
  obtain ⟨⟨hx, hb, hml, hown, hts⟩, hK, hA⟩ := id C
  unfold wX7_rule_b33 at hw
  refine lv_iconst (v := 1) hx hb dX7_rule_33 (by decide) ?_
  refine lv_goto (tgt := 38) hx hb dX7_rule_34 (by decide) ?_
  exact kX7_rule_b38 C hr hlk x1 x2 1 _ _ _ _ hw h (lv_sub hl [0, 1, 2] rfl)
def wX7_rule (x1 : Int32) (x2 : Int32) (u : ST) (Q : Int32 → ST → Prop) : Prop :=
  (((gI u 10) = 0 → wX7_rule_b33 Q x1 x2 u) ∧ (¬ (gI u 10) = 0 → ((x1 < 0 → wX7_rule_b33 Q x1 x2 u) ∧ (¬ x1 < 0 → (((gI u 12) ≤ x1 → wX7_rule_b33 Q x1 x2 u) ∧ (¬ (gI u 12) ≤ x1 → ((x2 < (-1) → wX7_rule_b33 Q x1 x2 u) ∧ (¬ x2 < (-1) → ((x2 < (gI u 11) → wX7_rule_b38 Q x1 x2 0 u) ∧ (¬ x2 < (gI u 11) → wX7_rule_b33 Q x1 x2 u))))))))))
set_option maxHeartbeats 4000000 in
set_option maxRecDepth 100000 in
theorem mX7_rule (l : Launch) (D : va_G) (cy : CY) (am : Nat → Nat) (x1 : Int32) (x2 : Int32) (u : ST) (sz : Nat) {Q : Int32 → ST → Prop} (hw : wX7_rule x1 x2 u Q) : Met l yX7_rule (wM yX7_rule cX7_rule 3 (some .int)) (kRm 0) (kPc D (mW cy am) cy u sz [.ref (am 0), .int x1, .int x2]) (kQi D (mW cy am) cy (va_A (mW cy am u) sz) Q) 0 0 (va_A (mW cy am u) sz) := by
  refine kMet pn_X7_rule (Nat.le_of_ble_eq_true rfl) (fun p e s m below meth c ls hsz C hr hlk hex h hl => ?_)
  have hl : lv_has ls 3 [(0, .ref (am 0)), (1, .int x1), (2, .int x2)] := hl
  obtain ⟨⟨hx, hb, hml, hown, hts⟩, hK, hA⟩ := id C
  unfold wX7_rule at hw
  have h : kH D (mW cy am) (va_A (mW cy am u) sz) s u s.heap [] := h
  refine lv_aload_n hx hb dX7_rule_0 rfl (lv_at hl 0 rfl) ?_
  refine lv_aload_n hx hb dX7_rule_1 rfl (lv_at hl 0 rfl) ?_
  refine kget C h 0 rfl rfl inBX7 10 (Nat.le_of_ble_eq_true rfl) wi_fl_X7_125 rfl dX7_rule_2 ?_
  refine lv_if_eq (tgt := 33) hx hb dX7_rule_5 (by decide) (fun c_5 => ?_) (fun c_5 => ?_)
  · have hw := hw.1 c_5
    exact kX7_rule_b33 C hr hlk x1 x2 _ _ _ _ hw h (lv_sub hl [0, 1, 2] rfl)
  · have hw := hw.2 c_5
    refine lv_iload_n hx hb dX7_rule_8 rfl (lv_at hl 1 rfl) ?_
    refine lv_if_lt (tgt := 33) hx hb dX7_rule_9 (by decide) (fun c_9 => ?_) (fun c_9 => ?_)
    · have hw := hw.1 c_9
      exact kX7_rule_b33 C hr hlk x1 x2 _ _ _ _ hw h (lv_sub hl [0, 1, 2] rfl)
    · have hw := hw.2 c_9
      refine lv_iload_n hx hb dX7_rule_12 rfl (lv_at hl 1 rfl) ?_
      refine lv_aload_n hx hb dX7_rule_13 rfl (lv_at hl 0 rfl) ?_
      refine kget C h 0 rfl rfl inBX7 12 (Nat.le_of_ble_eq_true rfl) wi_fl_X7_119 rfl dX7_rule_14 ?_
      refine lv_icmp_ge (tgt := 33) hx hb dX7_rule_17 (by decide) (fun c_17 => ?_) (fun c_17 => ?_)
      · have hw := hw.1 c_17
        exact kX7_rule_b33 C hr hlk x1 x2 _ _ _ _ hw h (lv_sub hl [0, 1, 2] rfl)
      · have hw := hw.2 c_17
        refine lv_iload_n hx hb dX7_rule_20 rfl (lv_at hl 2 rfl) ?_
        refine lv_iconst (v := (-1)) hx hb dX7_rule_21 (by decide) ?_
        refine lv_icmp_lt (tgt := 33) hx hb dX7_rule_22 (by decide) (fun c_22 => ?_) (fun c_22 => ?_)
        · have hw := hw.1 c_22
          exact kX7_rule_b33 C hr hlk x1 x2 _ _ _ _ hw h (lv_sub hl [0, 1, 2] rfl)
        · have hw := hw.2 c_22
          refine lv_iload_n hx hb dX7_rule_25 rfl (lv_at hl 2 rfl) ?_
          refine lv_aload_n hx hb dX7_rule_26 rfl (lv_at hl 0 rfl) ?_
          refine kget C h 0 rfl rfl inBX7 11 (Nat.le_of_ble_eq_true rfl) wi_fl_X7_116 rfl dX7_rule_27 ?_
          refine lv_icmp_lt (tgt := 37) hx hb dX7_rule_30 (by decide) (fun c_30 => ?_) (fun c_30 => ?_)
          · have hw := hw.1 c_30
            refine lv_iconst (v := 0) hx hb dX7_rule_37 (by decide) ?_
            exact kX7_rule_b38 C hr hlk x1 x2 0 _ _ _ _ hw h (lv_sub hl [0, 1, 2] rfl)
          · have hw := hw.2 c_30
            exact kX7_rule_b33 C hr hlk x1 x2 _ _ _ _ hw h (lv_sub hl [0, 1, 2] rfl)

def wX7_name_b66 (Q : Int32 → ST → Prop) (x3 : Int32) (x4 : Int32) (xs1 : Int32) (u : ST) : Prop :=
  (((gI (sI u 0 xs1) 0) ≤ 0 → ((¬ x3 = (-1) → (vp_in ((10 * x4) + x3) 1600 ∧ Q (gR (sI u 0 xs1) 5 ((10 * x4) + x3).toNatClampNeg) (sI u 0 xs1))) ∧ (x3 = (-1) → (vp_in x4 160 ∧ Q (gR (sI u 0 xs1) 6 x4.toNatClampNeg) (sI u 0 xs1))))) ∧ (¬ (gI (sI u 0 xs1) 0) ≤ 0 → Q 0 (sI u 0 xs1)))
set_option maxHeartbeats 4000000 in
set_option maxRecDepth 100000 in
theorem kX7_name_b66 {p : Program} {l : Launch} {e : Env} {s : State} {m : MethodId} {args : Array Value} {below : List Frame} {meth : Method} {c : Code} {D : va_G} {cy : CY} {A : Nat → Prop} {am : Nat → Nat} {Q : Int32 → ST → Prop} (C : kC p m c cX7_name 5 s args RX7 D cy A) (hr : meth.sig.returnType = some .int) (hlk : meth.locks = false) : ∀ (x3 : Int32) (x4 : Int32) (xs1 : Int32) (u : ST) (H : Heap) (locs : List Loc) (ls : Array Slot), wX7_name_b66 Q x3 x4 xs1 u → kH D (mW cy am) A s u H locs → lv_has ls 5 [(0, .ref (am 0)), (3, .int x3), (4, .int x4)] → W p l e (kRm 0) s m args below meth c H locs 0 0 (MQ below (kQi D (mW cy am) cy A Q) args s 0 0 A) (F0 m 66 ls [.int xs1, .ref (am 0)]) := by
  intro x3 x4 xs1 u H locs ls hw h hl
  obtain ⟨⟨hx, hb, hml, hown, hts⟩, hK, hA⟩ := id C
  unfold wX7_name_b66 at hw
  refine kput C h 0 rfl rfl inBX7 tyX7_ok nmX7 0 (Nat.le_of_ble_eq_true rfl) wi_fl_X7_62 rfl rfl rfl (Nat.le_of_ble_eq_true rfl) (mS_0 cy am u xs1) dX7_name_66 (fun H locs h => ?_)
  refine lv_aload_n hx hb dX7_name_69 rfl (lv_at hl 0 rfl) ?_
  refine kget C h 0 rfl rfl inBX7 0 (Nat.le_of_ble_eq_true rfl) wi_fl_X7_62 rfl dX7_name_70 ?_
  refine lv_if_le (tgt := 80) hx hb dX7_name_73 (by decide) (fun c_73 => ?_) (fun c_73 => ?_)
  · have hw := hw.1 c_73
    refine lv_iload_n hx hb dX7_name_80 rfl (lv_at hl 1 rfl) ?_
    refine lv_iconst (v := (-1)) hx hb dX7_name_81 (by decide) ?_
    refine lv_icmp_ne (tgt := 95) hx hb dX7_name_82 (by decide) (fun c_82 => ?_) (fun c_82 => ?_)
    · have hw := hw.1 c_82
      refine lv_aload_n hx hb dX7_name_95 rfl (lv_at hl 0 rfl) ?_
      refine kget C h 0 rfl rfl inBX7 5 (Nat.le_of_ble_eq_true rfl) wi_fl_X7_13 rfl dX7_name_96 ?_
      refine lv_bipush (v := 10) hx hb dX7_name_99 (by decide) ?_
      refine lv_iload hx hb dX7_name_101 (lv_at hl 2 rfl) ?_
      refine lv_imul hx hb dX7_name_103 ?_
      refine lv_iload_n hx hb dX7_name_104 rfl (lv_at hl 1 rfl) ?_
      refine lv_iadd hx hb dX7_name_105 ?_
      obtain ⟨i_106, hw⟩ := hw
      refine kbald C h 2 rfl i_106 dX7_name_106 ?_
      exact kretI C hr hlk h hw dX7_name_107
    · have hw := hw.2 c_82
      refine lv_aload_n hx hb dX7_name_85 rfl (lv_at hl 0 rfl) ?_
      refine kget C h 0 rfl rfl inBX7 6 (Nat.le_of_ble_eq_true rfl) wi_fl_X7_16 rfl dX7_name_86 ?_
      refine lv_iload hx hb dX7_name_89 (lv_at hl 2 rfl) ?_
      obtain ⟨i_91, hw⟩ := hw
      refine kiald C h 3 rfl i_91 dX7_name_91 ?_
      refine lv_goto (tgt := 107) hx hb dX7_name_92 (by decide) ?_
      exact kretI C hr hlk h hw dX7_name_107
  · have hw := hw.2 c_73
    refine lv_iconst (v := 0) hx hb dX7_name_76 (by decide) ?_
    refine lv_goto (tgt := 107) hx hb dX7_name_77 (by decide) ?_
    exact kretI C hr hlk h hw dX7_name_107
def wX7_name_b61 (Q : Int32 → ST → Prop) (x3 : Int32) (x4 : Int32) (u : ST) : Prop :=
  wX7_name_b66 Q x3 x4 1 u
set_option maxHeartbeats 4000000 in
set_option maxRecDepth 100000 in
theorem kX7_name_b61 {p : Program} {l : Launch} {e : Env} {s : State} {m : MethodId} {args : Array Value} {below : List Frame} {meth : Method} {c : Code} {D : va_G} {cy : CY} {A : Nat → Prop} {am : Nat → Nat} {Q : Int32 → ST → Prop} (C : kC p m c cX7_name 5 s args RX7 D cy A) (hr : meth.sig.returnType = some .int) (hlk : meth.locks = false) : ∀ (x3 : Int32) (x4 : Int32) (u : ST) (H : Heap) (locs : List Loc) (ls : Array Slot), wX7_name_b61 Q x3 x4 u → kH D (mW cy am) A s u H locs → lv_has ls 5 [(0, .ref (am 0)), (3, .int x3), (4, .int x4)] → W p l e (kRm 0) s m args below meth c H locs 0 0 (MQ below (kQi D (mW cy am) cy A Q) args s 0 0 A) (F0 m 61 ls [.ref (am 0)]) := by
  intro x3 x4 u H locs ls hw h hl
  obtain ⟨⟨hx, hb, hml, hown, hts⟩, hK, hA⟩ := id C
  unfold wX7_name_b61 at hw
  refine lv_iconst (v := 1) hx hb dX7_name_61 (by decide) ?_
  refine lv_goto (tgt := 66) hx hb dX7_name_62 (by decide) ?_
  exact kX7_name_b66 C hr hlk x3 x4 1 _ _ _ _ hw h (lv_sub hl [0, 1, 2] rfl)
def wX7_name_b42 (Q : Int32 → ST → Prop) (x3 : Int32) (x4 : Int32) (xs1 : Int32) (xs2 : Int32) (u : ST) : Prop :=
  ((xs2 ≤ xs1 → wX7_name_b61 Q x3 x4 u) ∧ (¬ xs2 ≤ xs1 → ((x3 < (-1) → wX7_name_b61 Q x3 x4 u) ∧ (¬ x3 < (-1) → (vp_in x4 160 ∧ ((x3 < (gR u 6 x4.toNatClampNeg) → wX7_name_b66 Q x3 x4 0 u) ∧ (¬ x3 < (gR u 6 x4.toNatClampNeg) → wX7_name_b61 Q x3 x4 u)))))))
set_option maxHeartbeats 4000000 in
set_option maxRecDepth 100000 in
theorem kX7_name_b42 {p : Program} {l : Launch} {e : Env} {s : State} {m : MethodId} {args : Array Value} {below : List Frame} {meth : Method} {c : Code} {D : va_G} {cy : CY} {A : Nat → Prop} {am : Nat → Nat} {Q : Int32 → ST → Prop} (C : kC p m c cX7_name 5 s args RX7 D cy A) (hr : meth.sig.returnType = some .int) (hlk : meth.locks = false) : ∀ (x3 : Int32) (x4 : Int32) (xs1 : Int32) (xs2 : Int32) (u : ST) (H : Heap) (locs : List Loc) (ls : Array Slot), wX7_name_b42 Q x3 x4 xs1 xs2 u → kH D (mW cy am) A s u H locs → lv_has ls 5 [(0, .ref (am 0)), (3, .int x3), (4, .int x4)] → W p l e (kRm 0) s m args below meth c H locs 0 0 (MQ below (kQi D (mW cy am) cy A Q) args s 0 0 A) (F0 m 42 ls [.int xs2, .int xs1, .ref (am 0)]) := by
  intro x3 x4 xs1 xs2 u H locs ls hw h hl
  obtain ⟨⟨hx, hb, hml, hown, hts⟩, hK, hA⟩ := id C
  unfold wX7_name_b42 at hw
  refine lv_icmp_ge (tgt := 61) hx hb dX7_name_42 (by decide) (fun c_42 => ?_) (fun c_42 => ?_)
  · have hw := hw.1 c_42
    exact kX7_name_b61 C hr hlk x3 x4 _ _ _ _ hw h (lv_sub hl [0, 1, 2] rfl)
  · have hw := hw.2 c_42
    refine lv_iload_n hx hb dX7_name_45 rfl (lv_at hl 1 rfl) ?_
    refine lv_iconst (v := (-1)) hx hb dX7_name_46 (by decide) ?_
    refine lv_icmp_lt (tgt := 61) hx hb dX7_name_47 (by decide) (fun c_47 => ?_) (fun c_47 => ?_)
    · have hw := hw.1 c_47
      exact kX7_name_b61 C hr hlk x3 x4 _ _ _ _ hw h (lv_sub hl [0, 1, 2] rfl)
    · have hw := hw.2 c_47
      refine lv_iload_n hx hb dX7_name_50 rfl (lv_at hl 1 rfl) ?_
      refine lv_aload_n hx hb dX7_name_51 rfl (lv_at hl 0 rfl) ?_
      refine kget C h 0 rfl rfl inBX7 6 (Nat.le_of_ble_eq_true rfl) wi_fl_X7_16 rfl dX7_name_52 ?_
      refine lv_iload hx hb dX7_name_55 (lv_at hl 2 rfl) ?_
      obtain ⟨i_57, hw⟩ := hw
      refine kiald C h 3 rfl i_57 dX7_name_57 ?_
      refine lv_icmp_lt (tgt := 65) hx hb dX7_name_58 (by decide) (fun c_58 => ?_) (fun c_58 => ?_)
      · have hw := hw.1 c_58
        refine lv_iconst (v := 0) hx hb dX7_name_65 (by decide) ?_
        exact kX7_name_b66 C hr hlk x3 x4 0 _ _ _ _ hw h (lv_sub hl [0, 1, 2] rfl)
      · have hw := hw.2 c_58
        exact kX7_name_b61 C hr hlk x3 x4 _ _ _ _ hw h (lv_sub hl [0, 1, 2] rfl)
def wX7_name_b12 (Q : Int32 → ST → Prop) (x1 : Int32) (x2 : Int32) (x3 : Int32) (xs0 : Int32) (u : ST) : Prop :=
  (((gI u 10) = 0 → wX7_name_b61 Q x3 xs0 u) ∧ (¬ (gI u 10) = 0 → ((x2 < 0 → wX7_name_b61 Q x3 xs0 u) ∧ (¬ x2 < 0 → ((x1 = 0 → wX7_name_b42 Q x3 xs0 x2 (gI u 11) u) ∧ (¬ x1 = 0 → wX7_name_b42 Q x3 xs0 x2 (gI u 13) u))))))
set_option maxHeartbeats 4000000 in
set_option maxRecDepth 100000 in
theorem kX7_name_b12 {p : Program} {l : Launch} {e : Env} {s : State} {m : MethodId} {args : Array Value} {below : List Frame} {meth : Method} {c : Code} {D : va_G} {cy : CY} {A : Nat → Prop} {am : Nat → Nat} {Q : Int32 → ST → Prop} (C : kC p m c cX7_name 5 s args RX7 D cy A) (hr : meth.sig.returnType = some .int) (hlk : meth.locks = false) : ∀ (x1 : Int32) (x2 : Int32) (x3 : Int32) (xs0 : Int32) (u : ST) (H : Heap) (locs : List Loc) (ls : Array Slot), wX7_name_b12 Q x1 x2 x3 xs0 u → kH D (mW cy am) A s u H locs → lv_has ls 5 [(0, .ref (am 0)), (1, .int x1), (2, .int x2), (3, .int x3)] → W p l e (kRm 0) s m args below meth c H locs 0 0 (MQ below (kQi D (mW cy am) cy A Q) args s 0 0 A) (F0 m 12 ls [.int xs0]) := by
  intro x1 x2 x3 xs0 u H locs ls hw h hl
  obtain ⟨⟨hx, hb, hml, hown, hts⟩, hK, hA⟩ := id C
  unfold wX7_name_b12 at hw
  refine lv_istore (lv' := [(4, .int xs0), (0, .ref (am 0)), (1, .int x1), (2, .int x2), (3, .int x3)]) hx hb dX7_name_12 hl (by decide) rfl (fun ls hl => ?_)
  refine lv_aload_n hx hb dX7_name_14 rfl (lv_at hl 1 rfl) ?_
  refine lv_aload_n hx hb dX7_name_15 rfl (lv_at hl 1 rfl) ?_
  refine kget C h 0 rfl rfl inBX7 10 (Nat.le_of_ble_eq_true rfl) wi_fl_X7_125 rfl dX7_name_16 ?_
  refine lv_if_eq (tgt := 61) hx hb dX7_name_19 (by decide) (fun c_19 => ?_) (fun c_19 => ?_)
  · have hw := hw.1 c_19
    exact kX7_name_b61 C hr hlk x3 xs0 _ _ _ _ hw h (lv_sub hl [1, 4, 0] rfl)
  · have hw := hw.2 c_19
    refine lv_iload_n hx hb dX7_name_22 rfl (lv_at hl 3 rfl) ?_
    refine lv_if_lt (tgt := 61) hx hb dX7_name_23 (by decide) (fun c_23 => ?_) (fun c_23 => ?_)
    · have hw := hw.1 c_23
      exact kX7_name_b61 C hr hlk x3 xs0 _ _ _ _ hw h (lv_sub hl [1, 4, 0] rfl)
    · have hw := hw.2 c_23
      refine lv_iload_n hx hb dX7_name_26 rfl (lv_at hl 3 rfl) ?_
      refine lv_iload_n hx hb dX7_name_27 rfl (lv_at hl 2 rfl) ?_
      refine lv_if_eq (tgt := 38) hx hb dX7_name_28 (by decide) (fun c_28 => ?_) (fun c_28 => ?_)
      · have hw := hw.1 c_28
        refine lv_aload_n hx hb dX7_name_38 rfl (lv_at hl 1 rfl) ?_
        refine kget C h 0 rfl rfl inBX7 11 (Nat.le_of_ble_eq_true rfl) wi_fl_X7_116 rfl dX7_name_39 ?_
        exact kX7_name_b42 C hr hlk x3 xs0 x2 (gI u 11) _ _ _ _ hw h (lv_sub hl [1, 4, 0] rfl)
      · have hw := hw.2 c_28
        refine lv_aload_n hx hb dX7_name_31 rfl (lv_at hl 1 rfl) ?_
        refine kget C h 0 rfl rfl inBX7 13 (Nat.le_of_ble_eq_true rfl) wi_fl_X7_122 rfl dX7_name_32 ?_
        refine lv_goto (tgt := 42) hx hb dX7_name_35 (by decide) ?_
        exact kX7_name_b42 C hr hlk x3 xs0 x2 (gI u 13) _ _ _ _ hw h (lv_sub hl [1, 4, 0] rfl)
def wX7_name (x1 : Int32) (x2 : Int32) (x3 : Int32) (u : ST) (Q : Int32 → ST → Prop) : Prop :=
  ((x1 = 0 → wX7_name_b12 Q x1 x2 x3 x2 u) ∧ (¬ x1 = 0 → wX7_name_b12 Q x1 x2 x3 (16 + x2) u))
set_option maxHeartbeats 4000000 in
set_option maxRecDepth 100000 in
theorem mX7_name (l : Launch) (D : va_G) (cy : CY) (am : Nat → Nat) (x1 : Int32) (x2 : Int32) (x3 : Int32) (u : ST) (sz : Nat) {Q : Int32 → ST → Prop} (hw : wX7_name x1 x2 x3 u Q) : Met l yX7_name (wM yX7_name cX7_name 5 (some .int)) (kRm 0) (kPc D (mW cy am) cy u sz [.ref (am 0), .int x1, .int x2, .int x3]) (kQi D (mW cy am) cy (va_A (mW cy am u) sz) Q) 0 0 (va_A (mW cy am u) sz) := by
  refine kMet pn_X7_name (Nat.le_of_ble_eq_true rfl) (fun p e s m below meth c ls hsz C hr hlk hex h hl => ?_)
  have hl : lv_has ls 5 [(0, .ref (am 0)), (1, .int x1), (2, .int x2), (3, .int x3)] := hl
  obtain ⟨⟨hx, hb, hml, hown, hts⟩, hK, hA⟩ := id C
  unfold wX7_name at hw
  have h : kH D (mW cy am) (va_A (mW cy am u) sz) s u s.heap [] := h
  refine lv_iload_n hx hb dX7_name_0 rfl (lv_at hl 1 rfl) ?_
  refine lv_if_eq (tgt := 11) hx hb dX7_name_1 (by decide) (fun c_1 => ?_) (fun c_1 => ?_)
  · have hw := hw.1 c_1
    refine lv_iload_n hx hb dX7_name_11 rfl (lv_at hl 2 rfl) ?_
    exact kX7_name_b12 C hr hlk x1 x2 x3 x2 _ _ _ _ hw h (lv_sub hl [0, 1, 2, 3] rfl)
  · have hw := hw.2 c_1
    refine lv_bipush (v := 16) hx hb dX7_name_4 (by decide) ?_
    refine lv_iload_n hx hb dX7_name_6 rfl (lv_at hl 2 rfl) ?_
    refine lv_iadd hx hb dX7_name_7 ?_
    refine lv_goto (tgt := 12) hx hb dX7_name_8 (by decide) ?_
    exact kX7_name_b12 C hr hlk x1 x2 x3 (16 + x2) _ _ _ _ hw h (lv_sub hl [0, 1, 2, 3] rfl)

def wX7_isCase (x1 : Int32) (u : ST) (Q : Int32 → ST → Prop) : Prop :=
  ((x1 < 0 → Q 0 u) ∧ (¬ x1 < 0 → wX7_allCases  u (fun r_1 u_2 => ((r_1 ≤ x1 → Q 0 u_2) ∧ (¬ r_1 ≤ x1 → Q 1 u_2)))))
set_option maxHeartbeats 4000000 in
set_option maxRecDepth 100000 in
theorem mX7_isCase (l : Launch) (D : va_G) (cy : CY) (am : Nat → Nat) (x1 : Int32) (u : ST) (sz : Nat) {Q : Int32 → ST → Prop} (hw : wX7_isCase x1 u Q) : Met l yX7_isCase (wM yX7_isCase cX7_isCase 2 (some .boolean)) (kRm 1) (kPc D (mW cy am) cy u sz [.ref (am 0), .int x1]) (kQi D (mW cy am) cy (va_A (mW cy am u) sz) Q) 0 0 (va_A (mW cy am u) sz) := by
  refine kMet pn_X7_isCase (Nat.le_of_ble_eq_true rfl) (fun p e s m below meth c ls hsz C hr hlk hex h hl => ?_)
  have hl : lv_has ls 2 [(0, .ref (am 0)), (1, .int x1)] := hl
  obtain ⟨⟨hx, hb, hml, hown, hts⟩, hK, hA⟩ := id C
  unfold wX7_isCase at hw
  have h : kH D (mW cy am) (va_A (mW cy am u) sz) s u s.heap [] := h
  refine lv_iload_n hx hb dX7_isCase_0 rfl (lv_at hl 1 rfl) ?_
  refine lv_if_lt (tgt := 16) hx hb dX7_isCase_1 (by decide) (fun c_1 => ?_) (fun c_1 => ?_)
  · have hw := hw.1 c_1
    refine lv_iconst (v := 0) hx hb dX7_isCase_16 (by decide) ?_
    exact kretZ C hr hlk h (Or.inl rfl) hw dX7_isCase_17
  · have hw := hw.2 c_1
    refine lv_iload_n hx hb dX7_isCase_4 rfl (lv_at hl 1 rfl) ?_
    refine lv_aload_n hx hb dX7_isCase_5 rfl (lv_at hl 0 rfl) ?_
    refine kVi (As := []) (rest := [.int x1]) C h (cwV 0 hts (gd_V wi_ml_X7_163 wi_im_X7_allCases wi_se_X7_allCases wi_in_X7 wi_co_X7_allCases) rfl rfl rfl hd_X7_allCases ⟨Nat.le_of_ble_eq_true rfl, Nat.le_of_ble_eq_true rfl⟩) 0 rfl rfl rfl (mX7_allCases l D cy am  _ _ hw) rfl hl.1 rfl (Nat.le_of_ble_eq_true rfl) ⟨Nat.zero_le _, Nat.zero_le _⟩ dX7_isCase_6 (fun r_1 u_2 H locs hw h => ?_)
    refine lv_icmp_ge (tgt := 16) hx hb dX7_isCase_9 (by decide) (fun c_9 => ?_) (fun c_9 => ?_)
    · have hw := hw.1 c_9
      refine lv_iconst (v := 0) hx hb dX7_isCase_16 (by decide) ?_
      exact kretZ C hr hlk h (Or.inl rfl) hw dX7_isCase_17
    · have hw := hw.2 c_9
      refine lv_iconst (v := 1) hx hb dX7_isCase_12 (by decide) ?_
      refine lv_goto (tgt := 17) hx hb dX7_isCase_13 (by decide) ?_
      exact kretZ C hr hlk h (Or.inr rfl) hw dX7_isCase_17

def wX7_meets_b25 (Q : Int32 → ST → Prop) (x1 : Int32) (xs1 : Int32) (u : ST) : Prop :=
  (((gI (sI u 0 xs1) 0) ≤ 0 → wX7_firstMet x1 (sI u 0 xs1) (fun r_1 u_2 => Q r_1 u_2)) ∧ (¬ (gI (sI u 0 xs1) 0) ≤ 0 → Q 0 (sI u 0 xs1)))
set_option maxHeartbeats 4000000 in
set_option maxRecDepth 100000 in
theorem kX7_meets_b25 {p : Program} {l : Launch} {e : Env} {s : State} {m : MethodId} {args : Array Value} {below : List Frame} {meth : Method} {c : Code} {D : va_G} {cy : CY} {A : Nat → Prop} {am : Nat → Nat} {Q : Int32 → ST → Prop} (C : kC p m c cX7_meets 2 s args RX7 D cy A) (hr : meth.sig.returnType = some .int) (hlk : meth.locks = false) : ∀ (x1 : Int32) (xs1 : Int32) (u : ST) (H : Heap) (locs : List Loc) (ls : Array Slot), wX7_meets_b25 Q x1 xs1 u → kH D (mW cy am) A s u H locs → lv_has ls 2 [(0, .ref (am 0)), (1, .int x1)] → W p l e (kRm 2) s m args below meth c H locs 0 0 (MQ below (kQi D (mW cy am) cy A Q) args s 0 0 A) (F0 m 25 ls [.int xs1, .ref (am 0)]) := by
  intro x1 xs1 u H locs ls hw h hl
  obtain ⟨⟨hx, hb, hml, hown, hts⟩, hK, hA⟩ := id C
  unfold wX7_meets_b25 at hw
  refine kput C h 0 rfl rfl inBX7 tyX7_ok nmX7 0 (Nat.le_of_ble_eq_true rfl) wi_fl_X7_62 rfl rfl rfl (Nat.le_of_ble_eq_true rfl) (mS_0 cy am u xs1) dX7_meets_25 (fun H locs h => ?_)
  refine lv_aload_n hx hb dX7_meets_28 rfl (lv_at hl 0 rfl) ?_
  refine kget C h 0 rfl rfl inBX7 0 (Nat.le_of_ble_eq_true rfl) wi_fl_X7_62 rfl dX7_meets_29 ?_
  refine lv_if_le (tgt := 39) hx hb dX7_meets_32 (by decide) (fun c_32 => ?_) (fun c_32 => ?_)
  · have hw := hw.1 c_32
    refine lv_aload_n hx hb dX7_meets_39 rfl (lv_at hl 0 rfl) ?_
    refine lv_iload_n hx hb dX7_meets_40 rfl (lv_at hl 1 rfl) ?_
    refine kVi (As := [.int x1]) (rest := []) C h (cwV 1 hts (gd_V wi_ml_X7_166 wi_im_X7_firstMet wi_se_X7_firstMet wi_in_X7 wi_co_X7_firstMet) rfl rfl rfl hd_X7_firstMet ⟨Nat.le_of_ble_eq_true rfl, Nat.le_of_ble_eq_true rfl⟩) 0 rfl rfl rfl (mX7_firstMet l D cy am x1 _ _ hw) rfl hl.1 rfl (Nat.le_of_ble_eq_true rfl) ⟨Nat.zero_le _, Nat.zero_le _⟩ dX7_meets_41 (fun r_1 u_2 H locs hw h => ?_)
    exact kretI C hr hlk h hw dX7_meets_44
  · have hw := hw.2 c_32
    refine lv_iconst (v := 0) hx hb dX7_meets_35 (by decide) ?_
    refine lv_goto (tgt := 44) hx hb dX7_meets_36 (by decide) ?_
    exact kretI C hr hlk h hw dX7_meets_44
def wX7_meets (x1 : Int32) (u : ST) (Q : Int32 → ST → Prop) : Prop :=
  ((¬ (gI u 10) = 0 → wX7_isCase x1 u (fun r_1 u_2 => ((¬ r_1 = 0 → wX7_meets_b25 Q x1 0 u_2) ∧ (r_1 = 0 → wX7_meets_b25 Q x1 2 u_2)))) ∧ ((gI u 10) = 0 → wX7_meets_b25 Q x1 1 u))
set_option maxHeartbeats 4000000 in
set_option maxRecDepth 100000 in
theorem mX7_meets (l : Launch) (D : va_G) (cy : CY) (am : Nat → Nat) (x1 : Int32) (u : ST) (sz : Nat) {Q : Int32 → ST → Prop} (hw : wX7_meets x1 u Q) : Met l yX7_meets (wM yX7_meets cX7_meets 2 (some .int)) (kRm 2) (kPc D (mW cy am) cy u sz [.ref (am 0), .int x1]) (kQi D (mW cy am) cy (va_A (mW cy am u) sz) Q) 0 0 (va_A (mW cy am u) sz) := by
  refine kMet pn_X7_meets (Nat.le_of_ble_eq_true rfl) (fun p e s m below meth c ls hsz C hr hlk hex h hl => ?_)
  have hl : lv_has ls 2 [(0, .ref (am 0)), (1, .int x1)] := hl
  obtain ⟨⟨hx, hb, hml, hown, hts⟩, hK, hA⟩ := id C
  unfold wX7_meets at hw
  have h : kH D (mW cy am) (va_A (mW cy am u) sz) s u s.heap [] := h
  refine lv_aload_n hx hb dX7_meets_0 rfl (lv_at hl 0 rfl) ?_
  refine lv_aload_n hx hb dX7_meets_1 rfl (lv_at hl 0 rfl) ?_
  refine kget C h 0 rfl rfl inBX7 10 (Nat.le_of_ble_eq_true rfl) wi_fl_X7_125 rfl dX7_meets_2 ?_
  refine lv_if_ne (tgt := 12) hx hb dX7_meets_5 (by decide) (fun c_5 => ?_) (fun c_5 => ?_)
  · have hw := hw.1 c_5
    refine lv_aload_n hx hb dX7_meets_12 rfl (lv_at hl 0 rfl) ?_
    refine lv_iload_n hx hb dX7_meets_13 rfl (lv_at hl 1 rfl) ?_
    refine kVi (As := [.int x1]) (rest := [.ref (am 0)]) C h (cwV 1 hts (gd_V wi_ml_X7_190 wi_im_X7_isCase wi_se_X7_isCase wi_in_X7 wi_co_X7_isCase) rfl rfl rfl hd_X7_isCase ⟨Nat.le_of_ble_eq_true rfl, Nat.le_of_ble_eq_true rfl⟩) 0 rfl rfl rfl (mX7_isCase l D cy am x1 _ _ hw) rfl hl.1 rfl (Nat.le_of_ble_eq_true rfl) ⟨Nat.zero_le _, Nat.zero_le _⟩ dX7_meets_14 (fun r_1 u_2 H locs hw h => ?_)
    refine lv_if_ne (tgt := 24) hx hb dX7_meets_17 (by decide) (fun c_17 => ?_) (fun c_17 => ?_)
    · have hw := hw.1 c_17
      refine lv_iconst (v := 0) hx hb dX7_meets_24 (by decide) ?_
      exact kX7_meets_b25 C hr hlk x1 0 _ _ _ _ hw h (lv_sub hl [0, 1] rfl)
    · have hw := hw.2 c_17
      refine lv_iconst (v := 2) hx hb dX7_meets_20 (by decide) ?_
      refine lv_goto (tgt := 25) hx hb dX7_meets_21 (by decide) ?_
      exact kX7_meets_b25 C hr hlk x1 2 _ _ _ _ hw h (lv_sub hl [0, 1] rfl)
  · have hw := hw.2 c_5
    refine lv_iconst (v := 1) hx hb dX7_meets_8 (by decide) ?_
    refine lv_goto (tgt := 25) hx hb dX7_meets_9 (by decide) ?_
    exact kX7_meets_b25 C hr hlk x1 1 _ _ _ _ hw h (lv_sub hl [0, 1] rfl)

def wX7_cases_b122 (K46 : Int32 → Int32 → Int32 → ST → Prop) (K77 : Int32 → Int32 → Int32 → Int32 → Int32 → ST → Prop) (Q : Int32 → ST → Prop) (x1 : Int32) (x2 : Int32) (x3 : Int32) (x5 : Int32) (xs0 : Int32) (u : ST) : Prop :=
  K77 x1 x2 x3 xs0 (x5 + 1) u
set_option maxHeartbeats 4000000 in
set_option maxRecDepth 100000 in
theorem kX7_cases_b122 {p : Program} {l : Launch} {e : Env} {s : State} {m : MethodId} {args : Array Value} {below : List Frame} {meth : Method} {c : Code} {D : va_G} {cy : CY} {A : Nat → Prop} {am : Nat → Nat} {K46 : Int32 → Int32 → Int32 → ST → Prop} {K77 : Int32 → Int32 → Int32 → Int32 → Int32 → ST → Prop} {Q : Int32 → ST → Prop} (C : kC p m c cX7_cases 6 s args RX7 D cy A) (hr : meth.sig.returnType = some .int) (hlk : meth.locks = false) (g46 : ∀ (x1 : Int32) (x2 : Int32) (x3 : Int32) (u : ST) (H : Heap) (locs : List Loc) (ls : Array Slot), K46 x1 x2 x3 u → kH D (mW cy am) A s u H locs → lv_has ls 6 [(0, .ref (am 0)), (1, .int x1), (2, .int x2), (3, .int x3)] → W p l e (kRm 2) s m args below meth c H locs 0 0 (MQ below (kQi D (mW cy am) cy A Q) args s 0 0 A) (F0 m 46 ls [])) (g77 : ∀ (x1 : Int32) (x2 : Int32) (x3 : Int32) (x4 : Int32) (x5 : Int32) (u : ST) (H : Heap) (locs : List Loc) (ls : Array Slot), K77 x1 x2 x3 x4 x5 u → kH D (mW cy am) A s u H locs → lv_has ls 6 [(0, .ref (am 0)), (1, .int x1), (2, .int x2), (3, .int x3), (4, .int x4), (5, .int x5)] → W p l e (kRm 2) s m args below meth c H locs 0 0 (MQ below (kQi D (mW cy am) cy A Q) args s 0 0 A) (F0 m 77 ls [])) : ∀ (x1 : Int32) (x2 : Int32) (x3 : Int32) (x5 : Int32) (xs0 : Int32) (u : ST) (H : Heap) (locs : List Loc) (ls : Array Slot), wX7_cases_b122 K46 K77 Q x1 x2 x3 x5 xs0 u → kH D (mW cy am) A s u H locs → lv_has ls 6 [(0, .ref (am 0)), (1, .int x1), (2, .int x2), (3, .int x3), (5, .int x5)] → W p l e (kRm 2) s m args below meth c H locs 0 0 (MQ below (kQi D (mW cy am) cy A Q) args s 0 0 A) (F0 m 122 ls [.int xs0]) := by
  intro x1 x2 x3 x5 xs0 u H locs ls hw h hl
  obtain ⟨⟨hx, hb, hml, hown, hts⟩, hK, hA⟩ := id C
  unfold wX7_cases_b122 at hw
  refine lv_istore (lv' := [(4, .int xs0), (0, .ref (am 0)), (1, .int x1), (2, .int x2), (3, .int x3), (5, .int x5)]) hx hb dX7_cases_122 hl (by decide) rfl (fun ls hl => ?_)
  refine lv_iinc (v := x5 + 1) (lv' := [(5, .int (x5 + 1)), (4, .int xs0), (0, .ref (am 0)), (1, .int x1), (2, .int x2), (3, .int x3)]) hx hb dX7_cases_124 hl (k := 5) rfl rfl (by decide) rfl (fun ls hl => ?_)
  refine lv_goto (tgt := 77) hx hb dX7_cases_127 (by decide) ?_
  exact g77 x1 x2 x3 xs0 (x5 + 1) _ _ _ _ hw h (lv_sub hl [2, 3, 4, 5, 1, 0] rfl)
def wX7_cases_b121 (K46 : Int32 → Int32 → Int32 → ST → Prop) (K77 : Int32 → Int32 → Int32 → Int32 → Int32 → ST → Prop) (Q : Int32 → ST → Prop) (x1 : Int32) (x2 : Int32) (x3 : Int32) (x5 : Int32) (u : ST) : Prop :=
  wX7_cases_b122 K46 K77 Q x1 x2 x3 x5 0 u
set_option maxHeartbeats 4000000 in
set_option maxRecDepth 100000 in
theorem kX7_cases_b121 {p : Program} {l : Launch} {e : Env} {s : State} {m : MethodId} {args : Array Value} {below : List Frame} {meth : Method} {c : Code} {D : va_G} {cy : CY} {A : Nat → Prop} {am : Nat → Nat} {K46 : Int32 → Int32 → Int32 → ST → Prop} {K77 : Int32 → Int32 → Int32 → Int32 → Int32 → ST → Prop} {Q : Int32 → ST → Prop} (C : kC p m c cX7_cases 6 s args RX7 D cy A) (hr : meth.sig.returnType = some .int) (hlk : meth.locks = false) (g46 : ∀ (x1 : Int32) (x2 : Int32) (x3 : Int32) (u : ST) (H : Heap) (locs : List Loc) (ls : Array Slot), K46 x1 x2 x3 u → kH D (mW cy am) A s u H locs → lv_has ls 6 [(0, .ref (am 0)), (1, .int x1), (2, .int x2), (3, .int x3)] → W p l e (kRm 2) s m args below meth c H locs 0 0 (MQ below (kQi D (mW cy am) cy A Q) args s 0 0 A) (F0 m 46 ls [])) (g77 : ∀ (x1 : Int32) (x2 : Int32) (x3 : Int32) (x4 : Int32) (x5 : Int32) (u : ST) (H : Heap) (locs : List Loc) (ls : Array Slot), K77 x1 x2 x3 x4 x5 u → kH D (mW cy am) A s u H locs → lv_has ls 6 [(0, .ref (am 0)), (1, .int x1), (2, .int x2), (3, .int x3), (4, .int x4), (5, .int x5)] → W p l e (kRm 2) s m args below meth c H locs 0 0 (MQ below (kQi D (mW cy am) cy A Q) args s 0 0 A) (F0 m 77 ls [])) : ∀ (x1 : Int32) (x2 : Int32) (x3 : Int32) (x5 : Int32) (u : ST) (H : Heap) (locs : List Loc) (ls : Array Slot), wX7_cases_b121 K46 K77 Q x1 x2 x3 x5 u → kH D (mW cy am) A s u H locs → lv_has ls 6 [(0, .ref (am 0)), (1, .int x1), (2, .int x2), (3, .int x3), (5, .int x5)] → W p l e (kRm 2) s m args below meth c H locs 0 0 (MQ below (kQi D (mW cy am) cy A Q) args s 0 0 A) (F0 m 121 ls []) := by
  intro x1 x2 x3 x5 u H locs ls hw h hl
  obtain ⟨⟨hx, hb, hml, hown, hts⟩, hK, hA⟩ := id C
  unfold wX7_cases_b121 at hw
  refine lv_iconst (v := 0) hx hb dX7_cases_121 (by decide) ?_
  exact kX7_cases_b122 C hr hlk g46 g77 x1 x2 x3 x5 0 _ _ _ _ hw h (lv_sub hl [0, 1, 2, 3, 4] rfl)
def wX7_cases_b141 (K46 : Int32 → Int32 → Int32 → ST → Prop) (Q : Int32 → ST → Prop) (x1 : Int32) (x3 : Int32) (xs0 : Int32) (xs1 : Int32) (u : ST) : Prop :=
  K46 x1 (xs0 + xs1) (x3 + 1) u
set_option maxHeartbeats 4000000 in
set_option maxRecDepth 100000 in
theorem kX7_cases_b141 {p : Program} {l : Launch} {e : Env} {s : State} {m : MethodId} {args : Array Value} {below : List Frame} {meth : Method} {c : Code} {D : va_G} {cy : CY} {A : Nat → Prop} {am : Nat → Nat} {K46 : Int32 → Int32 → Int32 → ST → Prop} {Q : Int32 → ST → Prop} (C : kC p m c cX7_cases 6 s args RX7 D cy A) (hr : meth.sig.returnType = some .int) (hlk : meth.locks = false) (g46 : ∀ (x1 : Int32) (x2 : Int32) (x3 : Int32) (u : ST) (H : Heap) (locs : List Loc) (ls : Array Slot), K46 x1 x2 x3 u → kH D (mW cy am) A s u H locs → lv_has ls 6 [(0, .ref (am 0)), (1, .int x1), (2, .int x2), (3, .int x3)] → W p l e (kRm 2) s m args below meth c H locs 0 0 (MQ below (kQi D (mW cy am) cy A Q) args s 0 0 A) (F0 m 46 ls [])) : ∀ (x1 : Int32) (x3 : Int32) (xs0 : Int32) (xs1 : Int32) (u : ST) (H : Heap) (locs : List Loc) (ls : Array Slot), wX7_cases_b141 K46 Q x1 x3 xs0 xs1 u → kH D (mW cy am) A s u H locs → lv_has ls 6 [(0, .ref (am 0)), (1, .int x1), (3, .int x3)] → W p l e (kRm 2) s m args below meth c H locs 0 0 (MQ below (kQi D (mW cy am) cy A Q) args s 0 0 A) (F0 m 141 ls [.int xs1, .int xs0]) := by
  intro x1 x3 xs0 xs1 u H locs ls hw h hl
  obtain ⟨⟨hx, hb, hml, hown, hts⟩, hK, hA⟩ := id C
  unfold wX7_cases_b141 at hw
  refine lv_iadd hx hb dX7_cases_141 ?_
  refine lv_istore_n (lv' := [(2, .int (xs0 + xs1)), (0, .ref (am 0)), (1, .int x1), (3, .int x3)]) hx hb dX7_cases_142 rfl hl (by decide) rfl (fun ls hl => ?_)
  refine lv_iinc (v := x3 + 1) (lv' := [(3, .int (x3 + 1)), (2, .int (xs0 + xs1)), (0, .ref (am 0)), (1, .int x1)]) hx hb dX7_cases_143 hl (k := 3) rfl rfl (by decide) rfl (fun ls hl => ?_)
  refine lv_goto (tgt := 46) hx hb dX7_cases_146 (by decide) ?_
  exact g46 x1 (xs0 + xs1) (x3 + 1) _ _ _ _ hw h (lv_sub hl [2, 3, 1, 0] rfl)
def wX7_cases_b130 (K46 : Int32 → Int32 → Int32 → ST → Prop) (Q : Int32 → ST → Prop) (x1 : Int32) (x2 : Int32) (x3 : Int32) (x4 : Int32) (u : ST) : Prop :=
  ((x4 = 0 → wX7_cases_b141 K46 Q x1 x3 x2 0 u) ∧ (¬ x4 = 0 → wX7_cases_b141 K46 Q x1 x3 x2 1 u))
set_option maxHeartbeats 4000000 in
set_option maxRecDepth 100000 in
theorem kX7_cases_b130 {p : Program} {l : Launch} {e : Env} {s : State} {m : MethodId} {args : Array Value} {below : List Frame} {meth : Method} {c : Code} {D : va_G} {cy : CY} {A : Nat → Prop} {am : Nat → Nat} {K46 : Int32 → Int32 → Int32 → ST → Prop} {Q : Int32 → ST → Prop} (C : kC p m c cX7_cases 6 s args RX7 D cy A) (hr : meth.sig.returnType = some .int) (hlk : meth.locks = false) (g46 : ∀ (x1 : Int32) (x2 : Int32) (x3 : Int32) (u : ST) (H : Heap) (locs : List Loc) (ls : Array Slot), K46 x1 x2 x3 u → kH D (mW cy am) A s u H locs → lv_has ls 6 [(0, .ref (am 0)), (1, .int x1), (2, .int x2), (3, .int x3)] → W p l e (kRm 2) s m args below meth c H locs 0 0 (MQ below (kQi D (mW cy am) cy A Q) args s 0 0 A) (F0 m 46 ls [])) : ∀ (x1 : Int32) (x2 : Int32) (x3 : Int32) (x4 : Int32) (u : ST) (H : Heap) (locs : List Loc) (ls : Array Slot), wX7_cases_b130 K46 Q x1 x2 x3 x4 u → kH D (mW cy am) A s u H locs → lv_has ls 6 [(0, .ref (am 0)), (1, .int x1), (2, .int x2), (3, .int x3), (4, .int x4)] → W p l e (kRm 2) s m args below meth c H locs 0 0 (MQ below (kQi D (mW cy am) cy A Q) args s 0 0 A) (F0 m 130 ls []) := by
  intro x1 x2 x3 x4 u H locs ls hw h hl
  obtain ⟨⟨hx, hb, hml, hown, hts⟩, hK, hA⟩ := id C
  unfold wX7_cases_b130 at hw
  refine lv_iload_n hx hb dX7_cases_130 rfl (lv_at hl 2 rfl) ?_
  refine lv_iload hx hb dX7_cases_131 (lv_at hl 4 rfl) ?_
  refine lv_if_eq (tgt := 140) hx hb dX7_cases_133 (by decide) (fun c_133 => ?_) (fun c_133 => ?_)
  · have hw := hw.1 c_133
    refine lv_iconst (v := 0) hx hb dX7_cases_140 (by decide) ?_
    exact kX7_cases_b141 C hr hlk g46 x1 x3 x2 0 _ _ _ _ hw h (lv_sub hl [0, 1, 3] rfl)
  · have hw := hw.2 c_133
    refine lv_iconst (v := 1) hx hb dX7_cases_136 (by decide) ?_
    refine lv_goto (tgt := 141) hx hb dX7_cases_137 (by decide) ?_
    exact kX7_cases_b141 C hr hlk g46 x1 x3 x2 1 _ _ _ _ hw h (lv_sub hl [0, 1, 3] rfl)
def wX7_cases_B77 (K46 : Int32 → Int32 → Int32 → ST → Prop) (K77 : Int32 → Int32 → Int32 → Int32 → Int32 → ST → Prop) (Q : Int32 → ST → Prop) (x1 : Int32) (x2 : Int32) (x3 : Int32) (x4 : Int32) (x5 : Int32) (u : ST) : Prop :=
  (((gI u 12) ≤ x5 → wX7_cases_b130 K46 Q x1 x2 x3 x4 u) ∧ (¬ (gI u 12) ≤ x5 → ((¬ x4 = 0 → wX7_cases_b130 K46 Q x1 x2 x3 x4 u) ∧ (x4 = 0 → ((x1 = (-1) → wX7_cases_b130 K46 Q x1 x2 x3 x4 u) ∧ (¬ x1 = (-1) → (vp_in x5 512 ∧ ((¬ (gR u 9 x5.toNatClampNeg) = x1 → wX7_cases_b121 K46 K77 Q x1 x2 x3 x5 u) ∧ ((gR u 9 x5.toNatClampNeg) = x1 → wX7_isMet x5 x3 u (fun r_1 u_2 => ((r_1 = 0 → wX7_cases_b121 K46 K77 Q x1 x2 x3 x5 u_2) ∧ (¬ r_1 = 0 → wX7_cases_b122 K46 K77 Q x1 x2 x3 x5 1 u_2))))))))))))
set_option maxHeartbeats 4000000 in
set_option maxRecDepth 100000 in
theorem kX7_cases_B77 {p : Program} {l : Launch} {e : Env} {s : State} {m : MethodId} {args : Array Value} {below : List Frame} {meth : Method} {c : Code} {D : va_G} {cy : CY} {A : Nat → Prop} {am : Nat → Nat} {K46 : Int32 → Int32 → Int32 → ST → Prop} {K77 : Int32 → Int32 → Int32 → Int32 → Int32 → ST → Prop} {Q : Int32 → ST → Prop} (C : kC p m c cX7_cases 6 s args RX7 D cy A) (hr : meth.sig.returnType = some .int) (hlk : meth.locks = false) (g46 : ∀ (x1 : Int32) (x2 : Int32) (x3 : Int32) (u : ST) (H : Heap) (locs : List Loc) (ls : Array Slot), K46 x1 x2 x3 u → kH D (mW cy am) A s u H locs → lv_has ls 6 [(0, .ref (am 0)), (1, .int x1), (2, .int x2), (3, .int x3)] → W p l e (kRm 2) s m args below meth c H locs 0 0 (MQ below (kQi D (mW cy am) cy A Q) args s 0 0 A) (F0 m 46 ls [])) (g77 : ∀ (x1 : Int32) (x2 : Int32) (x3 : Int32) (x4 : Int32) (x5 : Int32) (u : ST) (H : Heap) (locs : List Loc) (ls : Array Slot), K77 x1 x2 x3 x4 x5 u → kH D (mW cy am) A s u H locs → lv_has ls 6 [(0, .ref (am 0)), (1, .int x1), (2, .int x2), (3, .int x3), (4, .int x4), (5, .int x5)] → W p l e (kRm 2) s m args below meth c H locs 0 0 (MQ below (kQi D (mW cy am) cy A Q) args s 0 0 A) (F0 m 77 ls [])) : ∀ (x1 : Int32) (x2 : Int32) (x3 : Int32) (x4 : Int32) (x5 : Int32) (u : ST) (H : Heap) (locs : List Loc) (ls : Array Slot), wX7_cases_B77 K46 K77 Q x1 x2 x3 x4 x5 u → kH D (mW cy am) A s u H locs → lv_has ls 6 [(0, .ref (am 0)), (1, .int x1), (2, .int x2), (3, .int x3), (4, .int x4), (5, .int x5)] → W p l e (kRm 2) s m args below meth c H locs 0 0 (MQ below (kQi D (mW cy am) cy A Q) args s 0 0 A) (F0 m 77 ls []) := by
  intro x1 x2 x3 x4 x5 u H locs ls hw h hl
  obtain ⟨⟨hx, hb, hml, hown, hts⟩, hK, hA⟩ := id C
  unfold wX7_cases_B77 at hw
  refine lv_iload hx hb dX7_cases_77 (lv_at hl 5 rfl) ?_
  refine lv_aload_n hx hb dX7_cases_79 rfl (lv_at hl 0 rfl) ?_
  refine kget C h 0 rfl rfl inBX7 12 (Nat.le_of_ble_eq_true rfl) wi_fl_X7_119 rfl dX7_cases_80 ?_
  refine lv_icmp_ge (tgt := 130) hx hb dX7_cases_83 (by decide) (fun c_83 => ?_) (fun c_83 => ?_)
  · have hw := hw.1 c_83
    exact kX7_cases_b130 C hr hlk g46 x1 x2 x3 x4 _ _ _ _ hw h (lv_sub hl [0, 1, 2, 3, 4] rfl)
  · have hw := hw.2 c_83
    refine lv_iload hx hb dX7_cases_86 (lv_at hl 4 rfl) ?_
    refine lv_if_ne (tgt := 130) hx hb dX7_cases_88 (by decide) (fun c_88 => ?_) (fun c_88 => ?_)
    · have hw := hw.1 c_88
      exact kX7_cases_b130 C hr hlk g46 x1 x2 x3 x4 _ _ _ _ hw h (lv_sub hl [0, 1, 2, 3, 4] rfl)
    · have hw := hw.2 c_88
      refine lv_iload_n hx hb dX7_cases_91 rfl (lv_at hl 1 rfl) ?_
      refine lv_iconst (v := (-1)) hx hb dX7_cases_92 (by decide) ?_
      refine lv_icmp_eq (tgt := 130) hx hb dX7_cases_93 (by decide) (fun c_93 => ?_) (fun c_93 => ?_)
      · have hw := hw.1 c_93
        exact kX7_cases_b130 C hr hlk g46 x1 x2 x3 x4 _ _ _ _ hw h (lv_sub hl [0, 1, 2, 3, 4] rfl)
      · have hw := hw.2 c_93
        refine lv_aload_n hx hb dX7_cases_96 rfl (lv_at hl 0 rfl) ?_
        refine kget C h 0 rfl rfl inBX7 9 (Nat.le_of_ble_eq_true rfl) wi_fl_X7_26 rfl dX7_cases_97 ?_
        refine lv_iload hx hb dX7_cases_100 (lv_at hl 5 rfl) ?_
        obtain ⟨i_102, hw⟩ := hw
        refine kiald C h 6 rfl i_102 dX7_cases_102 ?_
        refine lv_iload_n hx hb dX7_cases_103 rfl (lv_at hl 1 rfl) ?_
        refine lv_icmp_ne (tgt := 121) hx hb dX7_cases_104 (by decide) (fun c_104 => ?_) (fun c_104 => ?_)
        · have hw := hw.1 c_104
          exact kX7_cases_b121 C hr hlk g46 g77 x1 x2 x3 x5 _ _ _ _ hw h (lv_sub hl [0, 1, 2, 3, 5] rfl)
        · have hw := hw.2 c_104
          refine lv_aload_n hx hb dX7_cases_107 rfl (lv_at hl 0 rfl) ?_
          refine lv_iload hx hb dX7_cases_108 (lv_at hl 5 rfl) ?_
          refine lv_iload_n hx hb dX7_cases_110 rfl (lv_at hl 3 rfl) ?_
          refine kVi (As := [.int x5, .int x3]) (rest := []) C h (cwV 2 hts (gd_V wi_ml_X7_141 wi_im_X7_isMet wi_se_X7_isMet wi_in_X7 wi_co_X7_isMet) rfl rfl rfl hd_X7_isMet ⟨Nat.le_of_ble_eq_true rfl, Nat.le_of_ble_eq_true rfl⟩) 0 rfl rfl rfl (mX7_isMet l D cy am x5 x3 _ _ hw) rfl hl.1 rfl (Nat.le_of_ble_eq_true rfl) ⟨Nat.zero_le _, Nat.zero_le _⟩ dX7_cases_111 (fun r_1 u_2 H locs hw h => ?_)
          refine lv_if_eq (tgt := 121) hx hb dX7_cases_114 (by decide) (fun c_114 => ?_) (fun c_114 => ?_)
          · have hw := hw.1 c_114
            exact kX7_cases_b121 C hr hlk g46 g77 x1 x2 x3 x5 _ _ _ _ hw h (lv_sub hl [0, 1, 2, 3, 5] rfl)
          · have hw := hw.2 c_114
            refine lv_iconst (v := 1) hx hb dX7_cases_117 (by decide) ?_
            refine lv_goto (tgt := 122) hx hb dX7_cases_118 (by decide) ?_
            exact kX7_cases_b122 C hr hlk g46 g77 x1 x2 x3 x5 1 _ _ _ _ hw h (lv_sub hl [0, 1, 2, 3, 5] rfl)
def wX7_cases_L77 (K46 : Int32 → Int32 → Int32 → ST → Prop) (Q : Int32 → ST → Prop) : Nat → Int32 → Int32 → Int32 → Int32 → Int32 → ST → Prop
  | 0, _, _, _, _, _, _ => False
  | n + 1, x1, x2, x3, x4, x5, u => wX7_cases_B77 K46 (wX7_cases_L77 K46 Q n) Q x1 x2 x3 x4 x5 u
set_option maxHeartbeats 4000000 in
theorem kX7_cases_L77 {p : Program} {l : Launch} {e : Env} {s : State} {m : MethodId} {args : Array Value} {below : List Frame} {meth : Method} {c : Code} {D : va_G} {cy : CY} {A : Nat → Prop} {am : Nat → Nat} {K46 : Int32 → Int32 → Int32 → ST → Prop} {Q : Int32 → ST → Prop} (C : kC p m c cX7_cases 6 s args RX7 D cy A) (hr : meth.sig.returnType = some .int) (hlk : meth.locks = false) (g46 : ∀ (x1 : Int32) (x2 : Int32) (x3 : Int32) (u : ST) (H : Heap) (locs : List Loc) (ls : Array Slot), K46 x1 x2 x3 u → kH D (mW cy am) A s u H locs → lv_has ls 6 [(0, .ref (am 0)), (1, .int x1), (2, .int x2), (3, .int x3)] → W p l e (kRm 2) s m args below meth c H locs 0 0 (MQ below (kQi D (mW cy am) cy A Q) args s 0 0 A) (F0 m 46 ls [])) : ∀ n : Nat, ∀ (x1 : Int32) (x2 : Int32) (x3 : Int32) (x4 : Int32) (x5 : Int32) (u : ST) (H : Heap) (locs : List Loc) (ls : Array Slot), wX7_cases_L77 K46 Q n x1 x2 x3 x4 x5 u → kH D (mW cy am) A s u H locs → lv_has ls 6 [(0, .ref (am 0)), (1, .int x1), (2, .int x2), (3, .int x3), (4, .int x4), (5, .int x5)] → W p l e (kRm 2) s m args below meth c H locs 0 0 (MQ below (kQi D (mW cy am) cy A Q) args s 0 0 A) (F0 m 77 ls []) := by
  intro n
  induction n with
  | zero => intro x1 x2 x3 x4 x5 u H locs ls hw; exact False.elim hw
  | succ n ih => exact kX7_cases_B77 C hr hlk g46 ih
def wX7_cases_b72 (K46 : Int32 → Int32 → Int32 → ST → Prop) (Q : Int32 → ST → Prop) (x1 : Int32) (x2 : Int32) (x3 : Int32) (xs0 : Int32) (u : ST) : Prop :=
  (∃ n : Nat, wX7_cases_L77 K46 Q n x1 x2 x3 xs0 0 u)
set_option maxHeartbeats 4000000 in
set_option maxRecDepth 100000 in
theorem kX7_cases_b72 {p : Program} {l : Launch} {e : Env} {s : State} {m : MethodId} {args : Array Value} {below : List Frame} {meth : Method} {c : Code} {D : va_G} {cy : CY} {A : Nat → Prop} {am : Nat → Nat} {K46 : Int32 → Int32 → Int32 → ST → Prop} {Q : Int32 → ST → Prop} (C : kC p m c cX7_cases 6 s args RX7 D cy A) (hr : meth.sig.returnType = some .int) (hlk : meth.locks = false) (g46 : ∀ (x1 : Int32) (x2 : Int32) (x3 : Int32) (u : ST) (H : Heap) (locs : List Loc) (ls : Array Slot), K46 x1 x2 x3 u → kH D (mW cy am) A s u H locs → lv_has ls 6 [(0, .ref (am 0)), (1, .int x1), (2, .int x2), (3, .int x3)] → W p l e (kRm 2) s m args below meth c H locs 0 0 (MQ below (kQi D (mW cy am) cy A Q) args s 0 0 A) (F0 m 46 ls [])) : ∀ (x1 : Int32) (x2 : Int32) (x3 : Int32) (xs0 : Int32) (u : ST) (H : Heap) (locs : List Loc) (ls : Array Slot), wX7_cases_b72 K46 Q x1 x2 x3 xs0 u → kH D (mW cy am) A s u H locs → lv_has ls 6 [(0, .ref (am 0)), (1, .int x1), (2, .int x2), (3, .int x3)] → W p l e (kRm 2) s m args below meth c H locs 0 0 (MQ below (kQi D (mW cy am) cy A Q) args s 0 0 A) (F0 m 72 ls [.int xs0]) := by
  intro x1 x2 x3 xs0 u H locs ls hw h hl
  obtain ⟨⟨hx, hb, hml, hown, hts⟩, hK, hA⟩ := id C
  unfold wX7_cases_b72 at hw
  refine lv_istore (lv' := [(4, .int xs0), (0, .ref (am 0)), (1, .int x1), (2, .int x2), (3, .int x3)]) hx hb dX7_cases_72 hl (by decide) rfl (fun ls hl => ?_)
  refine lv_iconst (v := 0) hx hb dX7_cases_74 (by decide) ?_
  refine lv_istore (lv' := [(5, .int 0), (4, .int xs0), (0, .ref (am 0)), (1, .int x1), (2, .int x2), (3, .int x3)]) hx hb dX7_cases_75 hl (by decide) rfl (fun ls hl => ?_)
  obtain ⟨n, hw⟩ := hw
  exact kX7_cases_L77 C hr hlk g46 n x1 x2 x3 xs0 0 _ _ _ _ hw h (lv_sub hl [2, 3, 4, 5, 1, 0] rfl)
def wX7_cases_b71 (K46 : Int32 → Int32 → Int32 → ST → Prop) (Q : Int32 → ST → Prop) (x1 : Int32) (x2 : Int32) (x3 : Int32) (u : ST) : Prop :=
  wX7_cases_b72 K46 Q x1 x2 x3 0 u
set_option maxHeartbeats 4000000 in
set_option maxRecDepth 100000 in
theorem kX7_cases_b71 {p : Program} {l : Launch} {e : Env} {s : State} {m : MethodId} {args : Array Value} {below : List Frame} {meth : Method} {c : Code} {D : va_G} {cy : CY} {A : Nat → Prop} {am : Nat → Nat} {K46 : Int32 → Int32 → Int32 → ST → Prop} {Q : Int32 → ST → Prop} (C : kC p m c cX7_cases 6 s args RX7 D cy A) (hr : meth.sig.returnType = some .int) (hlk : meth.locks = false) (g46 : ∀ (x1 : Int32) (x2 : Int32) (x3 : Int32) (u : ST) (H : Heap) (locs : List Loc) (ls : Array Slot), K46 x1 x2 x3 u → kH D (mW cy am) A s u H locs → lv_has ls 6 [(0, .ref (am 0)), (1, .int x1), (2, .int x2), (3, .int x3)] → W p l e (kRm 2) s m args below meth c H locs 0 0 (MQ below (kQi D (mW cy am) cy A Q) args s 0 0 A) (F0 m 46 ls [])) : ∀ (x1 : Int32) (x2 : Int32) (x3 : Int32) (u : ST) (H : Heap) (locs : List Loc) (ls : Array Slot), wX7_cases_b71 K46 Q x1 x2 x3 u → kH D (mW cy am) A s u H locs → lv_has ls 6 [(0, .ref (am 0)), (1, .int x1), (2, .int x2), (3, .int x3)] → W p l e (kRm 2) s m args below meth c H locs 0 0 (MQ below (kQi D (mW cy am) cy A Q) args s 0 0 A) (F0 m 71 ls []) := by
  intro x1 x2 x3 u H locs ls hw h hl
  obtain ⟨⟨hx, hb, hml, hown, hts⟩, hK, hA⟩ := id C
  unfold wX7_cases_b71 at hw
  refine lv_iconst (v := 0) hx hb dX7_cases_71 (by decide) ?_
  exact kX7_cases_b72 C hr hlk g46 x1 x2 x3 0 _ _ _ _ hw h (lv_sub hl [0, 1, 2, 3] rfl)
def wX7_cases_B46 (K46 : Int32 → Int32 → Int32 → ST → Prop) (Q : Int32 → ST → Prop) (x1 : Int32) (x2 : Int32) (x3 : Int32) (u : ST) : Prop :=
  wX7_allCases  u (fun r_1 u_2 => ((r_1 ≤ x3 → Q x2 u_2) ∧ (¬ r_1 ≤ x3 → ((¬ x1 = (-1) → wX7_cases_b71 K46 Q x1 x2 x3 u_2) ∧ (x1 = (-1) → wX7_firstMet x3 u_2 (fun r_3 u_4 => ((0 ≤ r_3 → wX7_cases_b71 K46 Q x1 x2 x3 u_4) ∧ (¬ 0 ≤ r_3 → wX7_cases_b72 K46 Q x1 x2 x3 1 u_4))))))))
set_option maxHeartbeats 4000000 in
set_option maxRecDepth 100000 in
theorem kX7_cases_B46 {p : Program} {l : Launch} {e : Env} {s : State} {m : MethodId} {args : Array Value} {below : List Frame} {meth : Method} {c : Code} {D : va_G} {cy : CY} {A : Nat → Prop} {am : Nat → Nat} {K46 : Int32 → Int32 → Int32 → ST → Prop} {Q : Int32 → ST → Prop} (C : kC p m c cX7_cases 6 s args RX7 D cy A) (hr : meth.sig.returnType = some .int) (hlk : meth.locks = false) (g46 : ∀ (x1 : Int32) (x2 : Int32) (x3 : Int32) (u : ST) (H : Heap) (locs : List Loc) (ls : Array Slot), K46 x1 x2 x3 u → kH D (mW cy am) A s u H locs → lv_has ls 6 [(0, .ref (am 0)), (1, .int x1), (2, .int x2), (3, .int x3)] → W p l e (kRm 2) s m args below meth c H locs 0 0 (MQ below (kQi D (mW cy am) cy A Q) args s 0 0 A) (F0 m 46 ls [])) : ∀ (x1 : Int32) (x2 : Int32) (x3 : Int32) (u : ST) (H : Heap) (locs : List Loc) (ls : Array Slot), wX7_cases_B46 K46 Q x1 x2 x3 u → kH D (mW cy am) A s u H locs → lv_has ls 6 [(0, .ref (am 0)), (1, .int x1), (2, .int x2), (3, .int x3)] → W p l e (kRm 2) s m args below meth c H locs 0 0 (MQ below (kQi D (mW cy am) cy A Q) args s 0 0 A) (F0 m 46 ls []) := by
  intro x1 x2 x3 u H locs ls hw h hl
  obtain ⟨⟨hx, hb, hml, hown, hts⟩, hK, hA⟩ := id C
  unfold wX7_cases_B46 at hw
  refine lv_iload_n hx hb dX7_cases_46 rfl (lv_at hl 3 rfl) ?_
  refine lv_aload_n hx hb dX7_cases_47 rfl (lv_at hl 0 rfl) ?_
  refine kVi (As := []) (rest := [.int x3]) C h (cwV 0 hts (gd_V wi_ml_X7_163 wi_im_X7_allCases wi_se_X7_allCases wi_in_X7 wi_co_X7_allCases) rfl rfl rfl hd_X7_allCases ⟨Nat.le_of_ble_eq_true rfl, Nat.le_of_ble_eq_true rfl⟩) 0 rfl rfl rfl (mX7_allCases l D cy am  _ _ hw) rfl hl.1 rfl (Nat.le_of_ble_eq_true rfl) ⟨Nat.zero_le _, Nat.zero_le _⟩ dX7_cases_48 (fun r_1 u_2 H locs hw h => ?_)
  refine lv_icmp_ge (tgt := 149) hx hb dX7_cases_51 (by decide) (fun c_51 => ?_) (fun c_51 => ?_)
  · have hw := hw.1 c_51
    refine lv_iload_n hx hb dX7_cases_149 rfl (lv_at hl 2 rfl) ?_
    exact kretI C hr hlk h hw dX7_cases_150
  · have hw := hw.2 c_51
    refine lv_iload_n hx hb dX7_cases_54 rfl (lv_at hl 1 rfl) ?_
    refine lv_iconst (v := (-1)) hx hb dX7_cases_55 (by decide) ?_
    refine lv_icmp_ne (tgt := 71) hx hb dX7_cases_56 (by decide) (fun c_56 => ?_) (fun c_56 => ?_)
    · have hw := hw.1 c_56
      exact kX7_cases_b71 C hr hlk g46 x1 x2 x3 _ _ _ _ hw h (lv_sub hl [0, 1, 2, 3] rfl)
    · have hw := hw.2 c_56
      refine lv_aload_n hx hb dX7_cases_59 rfl (lv_at hl 0 rfl) ?_
      refine lv_iload_n hx hb dX7_cases_60 rfl (lv_at hl 3 rfl) ?_
      refine kVi (As := [.int x3]) (rest := []) C h (cwV 1 hts (gd_V wi_ml_X7_166 wi_im_X7_firstMet wi_se_X7_firstMet wi_in_X7 wi_co_X7_firstMet) rfl rfl rfl hd_X7_firstMet ⟨Nat.le_of_ble_eq_true rfl, Nat.le_of_ble_eq_true rfl⟩) 0 rfl rfl rfl (mX7_firstMet l D cy am x3 _ _ hw) rfl hl.1 rfl (Nat.le_of_ble_eq_true rfl) ⟨Nat.zero_le _, Nat.zero_le _⟩ dX7_cases_61 (fun r_3 u_4 H locs hw h => ?_)
      refine lv_if_ge (tgt := 71) hx hb dX7_cases_64 (by decide) (fun c_64 => ?_) (fun c_64 => ?_)
      · have hw := hw.1 c_64
        exact kX7_cases_b71 C hr hlk g46 x1 x2 x3 _ _ _ _ hw h (lv_sub hl [0, 1, 2, 3] rfl)
      · have hw := hw.2 c_64
        refine lv_iconst (v := 1) hx hb dX7_cases_67 (by decide) ?_
        refine lv_goto (tgt := 72) hx hb dX7_cases_68 (by decide) ?_
        exact kX7_cases_b72 C hr hlk g46 x1 x2 x3 1 _ _ _ _ hw h (lv_sub hl [0, 1, 2, 3] rfl)
def wX7_cases_L46 (Q : Int32 → ST → Prop) : Nat → Int32 → Int32 → Int32 → ST → Prop
  | 0, _, _, _, _ => False
  | n + 1, x1, x2, x3, u => wX7_cases_B46 (wX7_cases_L46 Q n) Q x1 x2 x3 u
set_option maxHeartbeats 4000000 in
theorem kX7_cases_L46 {p : Program} {l : Launch} {e : Env} {s : State} {m : MethodId} {args : Array Value} {below : List Frame} {meth : Method} {c : Code} {D : va_G} {cy : CY} {A : Nat → Prop} {am : Nat → Nat} {Q : Int32 → ST → Prop} (C : kC p m c cX7_cases 6 s args RX7 D cy A) (hr : meth.sig.returnType = some .int) (hlk : meth.locks = false) : ∀ n : Nat, ∀ (x1 : Int32) (x2 : Int32) (x3 : Int32) (u : ST) (H : Heap) (locs : List Loc) (ls : Array Slot), wX7_cases_L46 Q n x1 x2 x3 u → kH D (mW cy am) A s u H locs → lv_has ls 6 [(0, .ref (am 0)), (1, .int x1), (2, .int x2), (3, .int x3)] → W p l e (kRm 2) s m args below meth c H locs 0 0 (MQ below (kQi D (mW cy am) cy A Q) args s 0 0 A) (F0 m 46 ls []) := by
  intro n
  induction n with
  | zero => intro x1 x2 x3 u H locs ls hw; exact False.elim hw
  | succ n ih => exact kX7_cases_B46 C hr hlk ih
def wX7_cases_b30 (Q : Int32 → ST → Prop) (x1 : Int32) (xs1 : Int32) (u : ST) : Prop :=
  (((gI (sI u 0 xs1) 0) ≤ 0 → (∃ n : Nat, wX7_cases_L46 Q n x1 0 0 (sI u 0 xs1))) ∧ (¬ (gI (sI u 0 xs1) 0) ≤ 0 → Q 0 (sI u 0 xs1)))
set_option maxHeartbeats 4000000 in
set_option maxRecDepth 100000 in
theorem kX7_cases_b30 {p : Program} {l : Launch} {e : Env} {s : State} {m : MethodId} {args : Array Value} {below : List Frame} {meth : Method} {c : Code} {D : va_G} {cy : CY} {A : Nat → Prop} {am : Nat → Nat} {Q : Int32 → ST → Prop} (C : kC p m c cX7_cases 6 s args RX7 D cy A) (hr : meth.sig.returnType = some .int) (hlk : meth.locks = false) : ∀ (x1 : Int32) (xs1 : Int32) (u : ST) (H : Heap) (locs : List Loc) (ls : Array Slot), wX7_cases_b30 Q x1 xs1 u → kH D (mW cy am) A s u H locs → lv_has ls 6 [(0, .ref (am 0)), (1, .int x1)] → W p l e (kRm 2) s m args below meth c H locs 0 0 (MQ below (kQi D (mW cy am) cy A Q) args s 0 0 A) (F0 m 30 ls [.int xs1, .ref (am 0)]) := by
  intro x1 xs1 u H locs ls hw h hl
  obtain ⟨⟨hx, hb, hml, hown, hts⟩, hK, hA⟩ := id C
  unfold wX7_cases_b30 at hw
  refine kput C h 0 rfl rfl inBX7 tyX7_ok nmX7 0 (Nat.le_of_ble_eq_true rfl) wi_fl_X7_62 rfl rfl rfl (Nat.le_of_ble_eq_true rfl) (mS_0 cy am u xs1) dX7_cases_30 (fun H locs h => ?_)
  refine lv_aload_n hx hb dX7_cases_33 rfl (lv_at hl 0 rfl) ?_
  refine kget C h 0 rfl rfl inBX7 0 (Nat.le_of_ble_eq_true rfl) wi_fl_X7_62 rfl dX7_cases_34 ?_
  refine lv_if_le (tgt := 42) hx hb dX7_cases_37 (by decide) (fun c_37 => ?_) (fun c_37 => ?_)
  · have hw := hw.1 c_37
    refine lv_iconst (v := 0) hx hb dX7_cases_42 (by decide) ?_
    refine lv_istore_n (lv' := [(2, .int 0), (0, .ref (am 0)), (1, .int x1)]) hx hb dX7_cases_43 rfl hl (by decide) rfl (fun ls hl => ?_)
    refine lv_iconst (v := 0) hx hb dX7_cases_44 (by decide) ?_
    refine lv_istore_n (lv' := [(3, .int 0), (2, .int 0), (0, .ref (am 0)), (1, .int x1)]) hx hb dX7_cases_45 rfl hl (by decide) rfl (fun ls hl => ?_)
    obtain ⟨n, hw⟩ := hw
    exact kX7_cases_L46 C hr hlk n x1 0 0 _ _ _ _ hw h (lv_sub hl [2, 3, 1, 0] rfl)
  · have hw := hw.2 c_37
    refine lv_iconst (v := 0) hx hb dX7_cases_40 (by decide) ?_
    exact kretI C hr hlk h hw dX7_cases_41
def wX7_cases_b25 (Q : Int32 → ST → Prop) (x1 : Int32) (u : ST) : Prop :=
  wX7_cases_b30 Q x1 2 u
set_option maxHeartbeats 4000000 in
set_option maxRecDepth 100000 in
theorem kX7_cases_b25 {p : Program} {l : Launch} {e : Env} {s : State} {m : MethodId} {args : Array Value} {below : List Frame} {meth : Method} {c : Code} {D : va_G} {cy : CY} {A : Nat → Prop} {am : Nat → Nat} {Q : Int32 → ST → Prop} (C : kC p m c cX7_cases 6 s args RX7 D cy A) (hr : meth.sig.returnType = some .int) (hlk : meth.locks = false) : ∀ (x1 : Int32) (u : ST) (H : Heap) (locs : List Loc) (ls : Array Slot), wX7_cases_b25 Q x1 u → kH D (mW cy am) A s u H locs → lv_has ls 6 [(0, .ref (am 0)), (1, .int x1)] → W p l e (kRm 2) s m args below meth c H locs 0 0 (MQ below (kQi D (mW cy am) cy A Q) args s 0 0 A) (F0 m 25 ls [.ref (am 0)]) := by
  intro x1 u H locs ls hw h hl
  obtain ⟨⟨hx, hb, hml, hown, hts⟩, hK, hA⟩ := id C
  unfold wX7_cases_b25 at hw
  refine lv_iconst (v := 2) hx hb dX7_cases_25 (by decide) ?_
  refine lv_goto (tgt := 30) hx hb dX7_cases_26 (by decide) ?_
  exact kX7_cases_b30 C hr hlk x1 2 _ _ _ _ hw h (lv_sub hl [0, 1] rfl)
def wX7_cases (x1 : Int32) (u : ST) (Q : Int32 → ST → Prop) : Prop :=
  ((¬ (gI u 10) = 0 → ((x1 < (-1) → wX7_cases_b25 Q x1 u) ∧ (¬ x1 < (-1) → ((x1 < (gI u 13) → wX7_cases_b30 Q x1 0 u) ∧ (¬ x1 < (gI u 13) → wX7_cases_b25 Q x1 u))))) ∧ ((gI u 10) = 0 → wX7_cases_b30 Q x1 1 u))
set_option maxHeartbeats 4000000 in
set_option maxRecDepth 100000 in
theorem mX7_cases (l : Launch) (D : va_G) (cy : CY) (am : Nat → Nat) (x1 : Int32) (u : ST) (sz : Nat) {Q : Int32 → ST → Prop} (hw : wX7_cases x1 u Q) : Met l yX7_cases (wM yX7_cases cX7_cases 6 (some .int)) (kRm 2) (kPc D (mW cy am) cy u sz [.ref (am 0), .int x1]) (kQi D (mW cy am) cy (va_A (mW cy am u) sz) Q) 0 0 (va_A (mW cy am u) sz) := by
  refine kMet pn_X7_cases (Nat.le_of_ble_eq_true rfl) (fun p e s m below meth c ls hsz C hr hlk hex h hl => ?_)
  have hl : lv_has ls 6 [(0, .ref (am 0)), (1, .int x1)] := hl
  obtain ⟨⟨hx, hb, hml, hown, hts⟩, hK, hA⟩ := id C
  unfold wX7_cases at hw
  have h : kH D (mW cy am) (va_A (mW cy am u) sz) s u s.heap [] := h
  refine lv_aload_n hx hb dX7_cases_0 rfl (lv_at hl 0 rfl) ?_
  refine lv_aload_n hx hb dX7_cases_1 rfl (lv_at hl 0 rfl) ?_
  refine kget C h 0 rfl rfl inBX7 10 (Nat.le_of_ble_eq_true rfl) wi_fl_X7_125 rfl dX7_cases_2 ?_
  refine lv_if_ne (tgt := 12) hx hb dX7_cases_5 (by decide) (fun c_5 => ?_) (fun c_5 => ?_)
  · have hw := hw.1 c_5
    refine lv_iload_n hx hb dX7_cases_12 rfl (lv_at hl 1 rfl) ?_
    refine lv_iconst (v := (-1)) hx hb dX7_cases_13 (by decide) ?_
    refine lv_icmp_lt (tgt := 25) hx hb dX7_cases_14 (by decide) (fun c_14 => ?_) (fun c_14 => ?_)
    · have hw := hw.1 c_14
      exact kX7_cases_b25 C hr hlk x1 _ _ _ _ hw h (lv_sub hl [0, 1] rfl)
    · have hw := hw.2 c_14
      refine lv_iload_n hx hb dX7_cases_17 rfl (lv_at hl 1 rfl) ?_
      refine lv_aload_n hx hb dX7_cases_18 rfl (lv_at hl 0 rfl) ?_
      refine kget C h 0 rfl rfl inBX7 13 (Nat.le_of_ble_eq_true rfl) wi_fl_X7_122 rfl dX7_cases_19 ?_
      refine lv_icmp_lt (tgt := 29) hx hb dX7_cases_22 (by decide) (fun c_22 => ?_) (fun c_22 => ?_)
      · have hw := hw.1 c_22
        refine lv_iconst (v := 0) hx hb dX7_cases_29 (by decide) ?_
        exact kX7_cases_b30 C hr hlk x1 0 _ _ _ _ hw h (lv_sub hl [0, 1] rfl)
      · have hw := hw.2 c_22
        exact kX7_cases_b25 C hr hlk x1 _ _ _ _ hw h (lv_sub hl [0, 1] rfl)
  · have hw := hw.2 c_5
    refine lv_iconst (v := 1) hx hb dX7_cases_8 (by decide) ?_
    refine lv_goto (tgt := 30) hx hb dX7_cases_9 (by decide) ?_
    exact kX7_cases_b30 C hr hlk x1 1 _ _ _ _ hw h (lv_sub hl [0, 1] rfl)

def wX7_node_b38 (Q : Int32 → ST → Prop) (x1 : Int32) (x2 : Int32) (xs1 : Int32) (u : ST) : Prop :=
  (((gI (sI u 0 xs1) 0) ≤ 0 → ((¬ x2 = 0 → ((¬ x2 = 1 → ((¬ x2 = 2 → (vp_in x1 1000 ∧ Q (gR (sI u 0 xs1) 25 x1.toNatClampNeg) (sI u 0 xs1))) ∧ (x2 = 2 → (vp_in x1 1000 ∧ Q (gR (sI u 0 xs1) 24 x1.toNatClampNeg) (sI u 0 xs1))))) ∧ (x2 = 1 → (vp_in x1 1000 ∧ Q (gR (sI u 0 xs1) 23 x1.toNatClampNeg) (sI u 0 xs1))))) ∧ (x2 = 0 → (vp_in x1 1000 ∧ Q (gR (sI u 0 xs1) 22 x1.toNatClampNeg) (sI u 0 xs1))))) ∧ (¬ (gI (sI u 0 xs1) 0) ≤ 0 → Q 0 (sI u 0 xs1)))
set_option maxHeartbeats 4000000 in
set_option maxRecDepth 100000 in
theorem kX7_node_b38 {p : Program} {l : Launch} {e : Env} {s : State} {m : MethodId} {args : Array Value} {below : List Frame} {meth : Method} {c : Code} {D : va_G} {cy : CY} {A : Nat → Prop} {am : Nat → Nat} {Q : Int32 → ST → Prop} (C : kC p m c cX7_node 3 s args RX7 D cy A) (hr : meth.sig.returnType = some .int) (hlk : meth.locks = false) : ∀ (x1 : Int32) (x2 : Int32) (xs1 : Int32) (u : ST) (H : Heap) (locs : List Loc) (ls : Array Slot), wX7_node_b38 Q x1 x2 xs1 u → kH D (mW cy am) A s u H locs → lv_has ls 3 [(0, .ref (am 0)), (1, .int x1), (2, .int x2)] → W p l e (kRm 0) s m args below meth c H locs 0 0 (MQ below (kQi D (mW cy am) cy A Q) args s 0 0 A) (F0 m 38 ls [.int xs1, .ref (am 0)]) := by
  intro x1 x2 xs1 u H locs ls hw h hl
  obtain ⟨⟨hx, hb, hml, hown, hts⟩, hK, hA⟩ := id C
  unfold wX7_node_b38 at hw
  refine kput C h 0 rfl rfl inBX7 tyX7_ok nmX7 0 (Nat.le_of_ble_eq_true rfl) wi_fl_X7_62 rfl rfl rfl (Nat.le_of_ble_eq_true rfl) (mS_0 cy am u xs1) dX7_node_38 (fun H locs h => ?_)
  refine lv_aload_n hx hb dX7_node_41 rfl (lv_at hl 0 rfl) ?_
  refine kget C h 0 rfl rfl inBX7 0 (Nat.le_of_ble_eq_true rfl) wi_fl_X7_62 rfl dX7_node_42 ?_
  refine lv_if_le (tgt := 52) hx hb dX7_node_45 (by decide) (fun c_45 => ?_) (fun c_45 => ?_)
  · have hw := hw.1 c_45
    refine lv_iload_n hx hb dX7_node_52 rfl (lv_at hl 2 rfl) ?_
    refine lv_if_ne (tgt := 65) hx hb dX7_node_53 (by decide) (fun c_53 => ?_) (fun c_53 => ?_)
    · have hw := hw.1 c_53
      refine lv_iload_n hx hb dX7_node_65 rfl (lv_at hl 2 rfl) ?_
      refine lv_iconst (v := 1) hx hb dX7_node_66 (by decide) ?_
      refine lv_icmp_ne (tgt := 79) hx hb dX7_node_67 (by decide) (fun c_67 => ?_) (fun c_67 => ?_)
      · have hw := hw.1 c_67
        refine lv_iload_n hx hb dX7_node_79 rfl (lv_at hl 2 rfl) ?_
        refine lv_iconst (v := 2) hx hb dX7_node_80 (by decide) ?_
        refine lv_icmp_ne (tgt := 93) hx hb dX7_node_81 (by decide) (fun c_81 => ?_) (fun c_81 => ?_)
        · have hw := hw.1 c_81
          refine lv_aload_n hx hb dX7_node_93 rfl (lv_at hl 0 rfl) ?_
          refine kget C h 0 rfl rfl inBX7 25 (Nat.le_of_ble_eq_true rfl) wi_fl_X7_38 rfl dX7_node_94 ?_
          refine lv_iload_n hx hb dX7_node_97 rfl (lv_at hl 1 rfl) ?_
          obtain ⟨i_98, hw⟩ := hw
          refine kiald C h 10 rfl i_98 dX7_node_98 ?_
          exact kretI C hr hlk h hw dX7_node_99
        · have hw := hw.2 c_81
          refine lv_aload_n hx hb dX7_node_84 rfl (lv_at hl 0 rfl) ?_
          refine kget C h 0 rfl rfl inBX7 24 (Nat.le_of_ble_eq_true rfl) wi_fl_X7_35 rfl dX7_node_85 ?_
          refine lv_iload_n hx hb dX7_node_88 rfl (lv_at hl 1 rfl) ?_
          obtain ⟨i_89, hw⟩ := hw
          refine kiald C h 9 rfl i_89 dX7_node_89 ?_
          refine lv_goto (tgt := 99) hx hb dX7_node_90 (by decide) ?_
          exact kretI C hr hlk h hw dX7_node_99
      · have hw := hw.2 c_67
        refine lv_aload_n hx hb dX7_node_70 rfl (lv_at hl 0 rfl) ?_
        refine kget C h 0 rfl rfl inBX7 23 (Nat.le_of_ble_eq_true rfl) wi_fl_X7_32 rfl dX7_node_71 ?_
        refine lv_iload_n hx hb dX7_node_74 rfl (lv_at hl 1 rfl) ?_
        obtain ⟨i_75, hw⟩ := hw
        refine kiald C h 8 rfl i_75 dX7_node_75 ?_
        refine lv_goto (tgt := 99) hx hb dX7_node_76 (by decide) ?_
        exact kretI C hr hlk h hw dX7_node_99
    · have hw := hw.2 c_53
      refine lv_aload_n hx hb dX7_node_56 rfl (lv_at hl 0 rfl) ?_
      refine kget C h 0 rfl rfl inBX7 22 (Nat.le_of_ble_eq_true rfl) wi_fl_X7_29 rfl dX7_node_57 ?_
      refine lv_iload_n hx hb dX7_node_60 rfl (lv_at hl 1 rfl) ?_
      obtain ⟨i_61, hw⟩ := hw
      refine kiald C h 7 rfl i_61 dX7_node_61 ?_
      refine lv_goto (tgt := 99) hx hb dX7_node_62 (by decide) ?_
      exact kretI C hr hlk h hw dX7_node_99
  · have hw := hw.2 c_45
    refine lv_iconst (v := 0) hx hb dX7_node_48 (by decide) ?_
    refine lv_goto (tgt := 99) hx hb dX7_node_49 (by decide) ?_
    exact kretI C hr hlk h hw dX7_node_99
def wX7_node_b33 (Q : Int32 → ST → Prop) (x1 : Int32) (x2 : Int32) (u : ST) : Prop :=
  wX7_node_b38 Q x1 x2 2 u
set_option maxHeartbeats 4000000 in
set_option maxRecDepth 100000 in
theorem kX7_node_b33 {p : Program} {l : Launch} {e : Env} {s : State} {m : MethodId} {args : Array Value} {below : List Frame} {meth : Method} {c : Code} {D : va_G} {cy : CY} {A : Nat → Prop} {am : Nat → Nat} {Q : Int32 → ST → Prop} (C : kC p m c cX7_node 3 s args RX7 D cy A) (hr : meth.sig.returnType = some .int) (hlk : meth.locks = false) : ∀ (x1 : Int32) (x2 : Int32) (u : ST) (H : Heap) (locs : List Loc) (ls : Array Slot), wX7_node_b33 Q x1 x2 u → kH D (mW cy am) A s u H locs → lv_has ls 3 [(0, .ref (am 0)), (1, .int x1), (2, .int x2)] → W p l e (kRm 0) s m args below meth c H locs 0 0 (MQ below (kQi D (mW cy am) cy A Q) args s 0 0 A) (F0 m 33 ls [.ref (am 0)]) := by
  intro x1 x2 u H locs ls hw h hl
  obtain ⟨⟨hx, hb, hml, hown, hts⟩, hK, hA⟩ := id C
  unfold wX7_node_b33 at hw
  refine lv_iconst (v := 2) hx hb dX7_node_33 (by decide) ?_
  refine lv_goto (tgt := 38) hx hb dX7_node_34 (by decide) ?_
  exact kX7_node_b38 C hr hlk x1 x2 2 _ _ _ _ hw h (lv_sub hl [0, 1, 2] rfl)
def wX7_node (x1 : Int32) (x2 : Int32) (u : ST) (Q : Int32 → ST → Prop) : Prop :=
  ((¬ (gI u 20) = 0 → ((x1 < 0 → wX7_node_b33 Q x1 x2 u) ∧ (¬ x1 < 0 → (((gI u 21) ≤ x1 → wX7_node_b33 Q x1 x2 u) ∧ (¬ (gI u 21) ≤ x1 → ((x2 < 0 → wX7_node_b33 Q x1 x2 u) ∧ (¬ x2 < 0 → ((x2 ≤ 3 → wX7_node_b38 Q x1 x2 0 u) ∧ (¬ x2 ≤ 3 → wX7_node_b33 Q x1 x2 u))))))))) ∧ ((gI u 20) = 0 → wX7_node_b38 Q x1 x2 1 u))
set_option maxHeartbeats 4000000 in
set_option maxRecDepth 100000 in
theorem mX7_node (l : Launch) (D : va_G) (cy : CY) (am : Nat → Nat) (x1 : Int32) (x2 : Int32) (u : ST) (sz : Nat) {Q : Int32 → ST → Prop} (hw : wX7_node x1 x2 u Q) : Met l yX7_node (wM yX7_node cX7_node 3 (some .int)) (kRm 0) (kPc D (mW cy am) cy u sz [.ref (am 0), .int x1, .int x2]) (kQi D (mW cy am) cy (va_A (mW cy am u) sz) Q) 0 0 (va_A (mW cy am u) sz) := by
  refine kMet pn_X7_node (Nat.le_of_ble_eq_true rfl) (fun p e s m below meth c ls hsz C hr hlk hex h hl => ?_)
  have hl : lv_has ls 3 [(0, .ref (am 0)), (1, .int x1), (2, .int x2)] := hl
  obtain ⟨⟨hx, hb, hml, hown, hts⟩, hK, hA⟩ := id C
  unfold wX7_node at hw
  have h : kH D (mW cy am) (va_A (mW cy am u) sz) s u s.heap [] := h
  refine lv_aload_n hx hb dX7_node_0 rfl (lv_at hl 0 rfl) ?_
  refine lv_aload_n hx hb dX7_node_1 rfl (lv_at hl 0 rfl) ?_
  refine kget C h 0 rfl rfl inBX7 20 (Nat.le_of_ble_eq_true rfl) wi_fl_X7_154 rfl dX7_node_2 ?_
  refine lv_if_ne (tgt := 12) hx hb dX7_node_5 (by decide) (fun c_5 => ?_) (fun c_5 => ?_)
  · have hw := hw.1 c_5
    refine lv_iload_n hx hb dX7_node_12 rfl (lv_at hl 1 rfl) ?_
    refine lv_if_lt (tgt := 33) hx hb dX7_node_13 (by decide) (fun c_13 => ?_) (fun c_13 => ?_)
    · have hw := hw.1 c_13
      exact kX7_node_b33 C hr hlk x1 x2 _ _ _ _ hw h (lv_sub hl [0, 1, 2] rfl)
    · have hw := hw.2 c_13
      refine lv_iload_n hx hb dX7_node_16 rfl (lv_at hl 1 rfl) ?_
      refine lv_aload_n hx hb dX7_node_17 rfl (lv_at hl 0 rfl) ?_
      refine kget C h 0 rfl rfl inBX7 21 (Nat.le_of_ble_eq_true rfl) wi_fl_X7_157 rfl dX7_node_18 ?_
      refine lv_icmp_ge (tgt := 33) hx hb dX7_node_21 (by decide) (fun c_21 => ?_) (fun c_21 => ?_)
      · have hw := hw.1 c_21
        exact kX7_node_b33 C hr hlk x1 x2 _ _ _ _ hw h (lv_sub hl [0, 1, 2] rfl)
      · have hw := hw.2 c_21
        refine lv_iload_n hx hb dX7_node_24 rfl (lv_at hl 2 rfl) ?_
        refine lv_if_lt (tgt := 33) hx hb dX7_node_25 (by decide) (fun c_25 => ?_) (fun c_25 => ?_)
        · have hw := hw.1 c_25
          exact kX7_node_b33 C hr hlk x1 x2 _ _ _ _ hw h (lv_sub hl [0, 1, 2] rfl)
        · have hw := hw.2 c_25
          refine lv_iload_n hx hb dX7_node_28 rfl (lv_at hl 2 rfl) ?_
          refine lv_iconst (v := 3) hx hb dX7_node_29 (by decide) ?_
          refine lv_icmp_le (tgt := 37) hx hb dX7_node_30 (by decide) (fun c_30 => ?_) (fun c_30 => ?_)
          · have hw := hw.1 c_30
            refine lv_iconst (v := 0) hx hb dX7_node_37 (by decide) ?_
            exact kX7_node_b38 C hr hlk x1 x2 0 _ _ _ _ hw h (lv_sub hl [0, 1, 2] rfl)
          · have hw := hw.2 c_30
            exact kX7_node_b33 C hr hlk x1 x2 _ _ _ _ hw h (lv_sub hl [0, 1, 2] rfl)
  · have hw := hw.2 c_5
    refine lv_iconst (v := 1) hx hb dX7_node_8 (by decide) ?_
    refine lv_goto (tgt := 38) hx hb dX7_node_9 (by decide) ?_
    exact kX7_node_b38 C hr hlk x1 x2 1 _ _ _ _ hw h (lv_sub hl [0, 1, 2] rfl)

def wX7_code_b29 (Q : Int32 → ST → Prop) (x1 : Int32) (xs1 : Int32) (u : ST) : Prop :=
  (((gI (sI u 0 xs1) 0) ≤ 0 → (vp_in x1 3000 ∧ Q (gR (sI u 0 xs1) 32 x1.toNatClampNeg) (sI u 0 xs1))) ∧ (¬ (gI (sI u 0 xs1) 0) ≤ 0 → Q 0 (sI u 0 xs1)))
set_option maxHeartbeats 4000000 in
set_option maxRecDepth 100000 in
theorem kX7_code_b29 {p : Program} {l : Launch} {e : Env} {s : State} {m : MethodId} {args : Array Value} {below : List Frame} {meth : Method} {c : Code} {D : va_G} {cy : CY} {A : Nat → Prop} {am : Nat → Nat} {Q : Int32 → ST → Prop} (C : kC p m c cX7_code 2 s args RX7 D cy A) (hr : meth.sig.returnType = some .int) (hlk : meth.locks = false) : ∀ (x1 : Int32) (xs1 : Int32) (u : ST) (H : Heap) (locs : List Loc) (ls : Array Slot), wX7_code_b29 Q x1 xs1 u → kH D (mW cy am) A s u H locs → lv_has ls 2 [(0, .ref (am 0)), (1, .int x1)] → W p l e (kRm 0) s m args below meth c H locs 0 0 (MQ below (kQi D (mW cy am) cy A Q) args s 0 0 A) (F0 m 29 ls [.int xs1, .ref (am 0)]) := by
  intro x1 xs1 u H locs ls hw h hl
  obtain ⟨⟨hx, hb, hml, hown, hts⟩, hK, hA⟩ := id C
  unfold wX7_code_b29 at hw
  refine kput C h 0 rfl rfl inBX7 tyX7_ok nmX7 0 (Nat.le_of_ble_eq_true rfl) wi_fl_X7_62 rfl rfl rfl (Nat.le_of_ble_eq_true rfl) (mS_0 cy am u xs1) dX7_code_29 (fun H locs h => ?_)
  refine lv_aload_n hx hb dX7_code_32 rfl (lv_at hl 0 rfl) ?_
  refine kget C h 0 rfl rfl inBX7 0 (Nat.le_of_ble_eq_true rfl) wi_fl_X7_62 rfl dX7_code_33 ?_
  refine lv_if_le (tgt := 43) hx hb dX7_code_36 (by decide) (fun c_36 => ?_) (fun c_36 => ?_)
  · have hw := hw.1 c_36
    refine lv_aload_n hx hb dX7_code_43 rfl (lv_at hl 0 rfl) ?_
    refine kget C h 0 rfl rfl inBX7 32 (Nat.le_of_ble_eq_true rfl) wi_fl_X7_59 rfl dX7_code_44 ?_
    refine lv_iload_n hx hb dX7_code_47 rfl (lv_at hl 1 rfl) ?_
    obtain ⟨i_48, hw⟩ := hw
    refine kiald C h 17 rfl i_48 dX7_code_48 ?_
    exact kretI C hr hlk h hw dX7_code_49
  · have hw := hw.2 c_36
    refine lv_iconst (v := 0) hx hb dX7_code_39 (by decide) ?_
    refine lv_goto (tgt := 49) hx hb dX7_code_40 (by decide) ?_
    exact kretI C hr hlk h hw dX7_code_49
def wX7_code_b24 (Q : Int32 → ST → Prop) (x1 : Int32) (u : ST) : Prop :=
  wX7_code_b29 Q x1 2 u
set_option maxHeartbeats 4000000 in
set_option maxRecDepth 100000 in
theorem kX7_code_b24 {p : Program} {l : Launch} {e : Env} {s : State} {m : MethodId} {args : Array Value} {below : List Frame} {meth : Method} {c : Code} {D : va_G} {cy : CY} {A : Nat → Prop} {am : Nat → Nat} {Q : Int32 → ST → Prop} (C : kC p m c cX7_code 2 s args RX7 D cy A) (hr : meth.sig.returnType = some .int) (hlk : meth.locks = false) : ∀ (x1 : Int32) (u : ST) (H : Heap) (locs : List Loc) (ls : Array Slot), wX7_code_b24 Q x1 u → kH D (mW cy am) A s u H locs → lv_has ls 2 [(0, .ref (am 0)), (1, .int x1)] → W p l e (kRm 0) s m args below meth c H locs 0 0 (MQ below (kQi D (mW cy am) cy A Q) args s 0 0 A) (F0 m 24 ls [.ref (am 0)]) := by
  intro x1 u H locs ls hw h hl
  obtain ⟨⟨hx, hb, hml, hown, hts⟩, hK, hA⟩ := id C
  unfold wX7_code_b24 at hw
  refine lv_iconst (v := 2) hx hb dX7_code_24 (by decide) ?_
  refine lv_goto (tgt := 29) hx hb dX7_code_25 (by decide) ?_
  exact kX7_code_b29 C hr hlk x1 2 _ _ _ _ hw h (lv_sub hl [0, 1] rfl)
def wX7_code (x1 : Int32) (u : ST) (Q : Int32 → ST → Prop) : Prop :=
  ((¬ (gI u 20) = 0 → ((x1 < 0 → wX7_code_b24 Q x1 u) ∧ (¬ x1 < 0 → ((x1 < (gI u 33) → wX7_code_b29 Q x1 0 u) ∧ (¬ x1 < (gI u 33) → wX7_code_b24 Q x1 u))))) ∧ ((gI u 20) = 0 → wX7_code_b29 Q x1 1 u))
set_option maxHeartbeats 4000000 in
set_option maxRecDepth 100000 in
theorem mX7_code (l : Launch) (D : va_G) (cy : CY) (am : Nat → Nat) (x1 : Int32) (u : ST) (sz : Nat) {Q : Int32 → ST → Prop} (hw : wX7_code x1 u Q) : Met l yX7_code (wM yX7_code cX7_code 2 (some .int)) (kRm 0) (kPc D (mW cy am) cy u sz [.ref (am 0), .int x1]) (kQi D (mW cy am) cy (va_A (mW cy am u) sz) Q) 0 0 (va_A (mW cy am u) sz) := by
  refine kMet pn_X7_code (Nat.le_of_ble_eq_true rfl) (fun p e s m below meth c ls hsz C hr hlk hex h hl => ?_)
  have hl : lv_has ls 2 [(0, .ref (am 0)), (1, .int x1)] := hl
  obtain ⟨⟨hx, hb, hml, hown, hts⟩, hK, hA⟩ := id C
  unfold wX7_code at hw
  have h : kH D (mW cy am) (va_A (mW cy am u) sz) s u s.heap [] := h
  refine lv_aload_n hx hb dX7_code_0 rfl (lv_at hl 0 rfl) ?_
  refine lv_aload_n hx hb dX7_code_1 rfl (lv_at hl 0 rfl) ?_
  refine kget C h 0 rfl rfl inBX7 20 (Nat.le_of_ble_eq_true rfl) wi_fl_X7_154 rfl dX7_code_2 ?_
  refine lv_if_ne (tgt := 12) hx hb dX7_code_5 (by decide) (fun c_5 => ?_) (fun c_5 => ?_)
  · have hw := hw.1 c_5
    refine lv_iload_n hx hb dX7_code_12 rfl (lv_at hl 1 rfl) ?_
    refine lv_if_lt (tgt := 24) hx hb dX7_code_13 (by decide) (fun c_13 => ?_) (fun c_13 => ?_)
    · have hw := hw.1 c_13
      exact kX7_code_b24 C hr hlk x1 _ _ _ _ hw h (lv_sub hl [0, 1] rfl)
    · have hw := hw.2 c_13
      refine lv_iload_n hx hb dX7_code_16 rfl (lv_at hl 1 rfl) ?_
      refine lv_aload_n hx hb dX7_code_17 rfl (lv_at hl 0 rfl) ?_
      refine kget C h 0 rfl rfl inBX7 33 (Nat.le_of_ble_eq_true rfl) wi_fl_X7_160 rfl dX7_code_18 ?_
      refine lv_icmp_lt (tgt := 28) hx hb dX7_code_21 (by decide) (fun c_21 => ?_) (fun c_21 => ?_)
      · have hw := hw.1 c_21
        refine lv_iconst (v := 0) hx hb dX7_code_28 (by decide) ?_
        exact kX7_code_b29 C hr hlk x1 0 _ _ _ _ hw h (lv_sub hl [0, 1] rfl)
      · have hw := hw.2 c_21
        exact kX7_code_b24 C hr hlk x1 _ _ _ _ hw h (lv_sub hl [0, 1] rfl)
  · have hw := hw.2 c_5
    refine lv_iconst (v := 1) hx hb dX7_code_8 (by decide) ?_
    refine lv_goto (tgt := 29) hx hb dX7_code_9 (by decide) ?_
    exact kX7_code_b29 C hr hlk x1 1 _ _ _ _ hw h (lv_sub hl [0, 1] rfl)

def wX7_run_b94 (K42 : Int32 → Int32 → Int32 → Int32 → ST → Prop) (Q : Int32 → ST → Prop) (x1 : Int32) (x2 : Int32) (x4 : Int32) (xs0 : Int32) (u : ST) : Prop :=
  K42 x1 x2 xs0 (x4 + 1) u
set_option maxHeartbeats 4000000 in
set_option maxRecDepth 100000 in
theorem kX7_run_b94 {p : Program} {l : Launch} {e : Env} {s : State} {m : MethodId} {args : Array Value} {below : List Frame} {meth : Method} {c : Code} {D : va_G} {cy : CY} {A : Nat → Prop} {am : Nat → Nat} {K42 : Int32 → Int32 → Int32 → Int32 → ST → Prop} {Q : Int32 → ST → Prop} (C : kC p m c cX7_run 5 s args RX7 D cy A) (hr : meth.sig.returnType = some .int) (hlk : meth.locks = false) (g42 : ∀ (x1 : Int32) (x2 : Int32) (x3 : Int32) (x4 : Int32) (u : ST) (H : Heap) (locs : List Loc) (ls : Array Slot), K42 x1 x2 x3 x4 u → kH D (mW cy am) A s u H locs → lv_has ls 5 [(0, .ref (am 0)), (1, .int x1), (2, .int x2), (3, .int x3), (4, .int x4)] → W p l e (kRm 2) s m args below meth c H locs 0 0 (MQ below (kQi D (mW cy am) cy A Q) args s 0 0 A) (F0 m 42 ls [])) : ∀ (x1 : Int32) (x2 : Int32) (x4 : Int32) (xs0 : Int32) (u : ST) (H : Heap) (locs : List Loc) (ls : Array Slot), wX7_run_b94 K42 Q x1 x2 x4 xs0 u → kH D (mW cy am) A s u H locs → lv_has ls 5 [(0, .ref (am 0)), (1, .int x1), (2, .int x2), (4, .int x4)] → W p l e (kRm 2) s m args below meth c H locs 0 0 (MQ below (kQi D (mW cy am) cy A Q) args s 0 0 A) (F0 m 94 ls [.int xs0]) := by
  intro x1 x2 x4 xs0 u H locs ls hw h hl
  obtain ⟨⟨hx, hb, hml, hown, hts⟩, hK, hA⟩ := id C
  unfold wX7_run_b94 at hw
  refine lv_istore_n (lv' := [(3, .int xs0), (0, .ref (am 0)), (1, .int x1), (2, .int x2), (4, .int x4)]) hx hb dX7_run_94 rfl hl (by decide) rfl (fun ls hl => ?_)
  refine lv_iinc (v := x4 + 1) (lv' := [(4, .int (x4 + 1)), (3, .int xs0), (0, .ref (am 0)), (1, .int x1), (2, .int x2)]) hx hb dX7_run_95 hl (k := 4) rfl rfl (by decide) rfl (fun ls hl => ?_)
  refine lv_goto (tgt := 42) hx hb dX7_run_98 (by decide) ?_
  exact g42 x1 x2 xs0 (x4 + 1) _ _ _ _ hw h (lv_sub hl [2, 3, 4, 1, 0] rfl)
def wX7_run_B42 (K42 : Int32 → Int32 → Int32 → Int32 → ST → Prop) (Q : Int32 → ST → Prop) (x1 : Int32) (x2 : Int32) (x3 : Int32) (x4 : Int32) (u : ST) : Prop :=
  (vp_in x3 3000 ∧ ((128 ≤ (gR u 32 x3.toNatClampNeg) → ((x2 = 0 → (vp_in x3 3000 ∧ Q ((gR u 32 x3.toNatClampNeg) - 128) u)) ∧ (¬ x2 = 0 → Q x4 u))) ∧ (¬ 128 ≤ (gR u 32 x3.toNatClampNeg) → (vp_in x3 3000 ∧ ((¬ ((x1 >>> ((gR u 32 x3.toNatClampNeg) &&& 31)) &&& 1) = 1 → (vp_in (x3 + 1) 3000 ∧ (vp_in (x3 + 2) 3000 ∧ wX7_run_b94 K42 Q x1 x2 x4 (((gR u 32 (x3 + 1).toNatClampNeg) <<< (8 &&& 31)) ||| (gR u 32 (x3 + 2).toNatClampNeg)) u))) ∧ (((x1 >>> ((gR u 32 x3.toNatClampNeg) &&& 31)) &&& 1) = 1 → wX7_run_b94 K42 Q x1 x2 x4 (x3 + 3) u))))))
set_option maxHeartbeats 4000000 in
set_option maxRecDepth 100000 in
theorem kX7_run_B42 {p : Program} {l : Launch} {e : Env} {s : State} {m : MethodId} {args : Array Value} {below : List Frame} {meth : Method} {c : Code} {D : va_G} {cy : CY} {A : Nat → Prop} {am : Nat → Nat} {K42 : Int32 → Int32 → Int32 → Int32 → ST → Prop} {Q : Int32 → ST → Prop} (C : kC p m c cX7_run 5 s args RX7 D cy A) (hr : meth.sig.returnType = some .int) (hlk : meth.locks = false) (g42 : ∀ (x1 : Int32) (x2 : Int32) (x3 : Int32) (x4 : Int32) (u : ST) (H : Heap) (locs : List Loc) (ls : Array Slot), K42 x1 x2 x3 x4 u → kH D (mW cy am) A s u H locs → lv_has ls 5 [(0, .ref (am 0)), (1, .int x1), (2, .int x2), (3, .int x3), (4, .int x4)] → W p l e (kRm 2) s m args below meth c H locs 0 0 (MQ below (kQi D (mW cy am) cy A Q) args s 0 0 A) (F0 m 42 ls [])) : ∀ (x1 : Int32) (x2 : Int32) (x3 : Int32) (x4 : Int32) (u : ST) (H : Heap) (locs : List Loc) (ls : Array Slot), wX7_run_B42 K42 Q x1 x2 x3 x4 u → kH D (mW cy am) A s u H locs → lv_has ls 5 [(0, .ref (am 0)), (1, .int x1), (2, .int x2), (3, .int x3), (4, .int x4)] → W p l e (kRm 2) s m args below meth c H locs 0 0 (MQ below (kQi D (mW cy am) cy A Q) args s 0 0 A) (F0 m 42 ls []) := by
  intro x1 x2 x3 x4 u H locs ls hw h hl
  obtain ⟨⟨hx, hb, hml, hown, hts⟩, hK, hA⟩ := id C
  unfold wX7_run_B42 at hw
  refine lv_aload_n hx hb dX7_run_42 rfl (lv_at hl 0 rfl) ?_
  refine kget C h 0 rfl rfl inBX7 32 (Nat.le_of_ble_eq_true rfl) wi_fl_X7_59 rfl dX7_run_43 ?_
  refine lv_iload_n hx hb dX7_run_46 rfl (lv_at hl 3 rfl) ?_
  obtain ⟨i_47, hw⟩ := hw
  refine kiald C h 17 rfl i_47 dX7_run_47 ?_
  refine lv_sipush (v := 128) hx hb dX7_run_48 (by decide) ?_
  refine lv_icmp_ge (tgt := 101) hx hb dX7_run_51 (by decide) (fun c_51 => ?_) (fun c_51 => ?_)
  · have hw := hw.1 c_51
    refine lv_iload_n hx hb dX7_run_101 rfl (lv_at hl 2 rfl) ?_
    refine lv_if_eq (tgt := 110) hx hb dX7_run_102 (by decide) (fun c_102 => ?_) (fun c_102 => ?_)
    · have hw := hw.1 c_102
      refine lv_aload_n hx hb dX7_run_110 rfl (lv_at hl 0 rfl) ?_
      refine kget C h 0 rfl rfl inBX7 32 (Nat.le_of_ble_eq_true rfl) wi_fl_X7_59 rfl dX7_run_111 ?_
      refine lv_iload_n hx hb dX7_run_114 rfl (lv_at hl 3 rfl) ?_
      obtain ⟨i_115, hw⟩ := hw
      refine kiald C h 17 rfl i_115 dX7_run_115 ?_
      refine lv_sipush (v := 128) hx hb dX7_run_116 (by decide) ?_
      refine lv_isub hx hb dX7_run_119 ?_
      exact kretI C hr hlk h hw dX7_run_120
    · have hw := hw.2 c_102
      refine lv_iload hx hb dX7_run_105 (lv_at hl 4 rfl) ?_
      refine lv_goto (tgt := 120) hx hb dX7_run_107 (by decide) ?_
      exact kretI C hr hlk h hw dX7_run_120
  · have hw := hw.2 c_51
    refine lv_iload_n hx hb dX7_run_54 rfl (lv_at hl 1 rfl) ?_
    refine lv_aload_n hx hb dX7_run_55 rfl (lv_at hl 0 rfl) ?_
    refine kget C h 0 rfl rfl inBX7 32 (Nat.le_of_ble_eq_true rfl) wi_fl_X7_59 rfl dX7_run_56 ?_
    refine lv_iload_n hx hb dX7_run_59 rfl (lv_at hl 3 rfl) ?_
    obtain ⟨i_60, hw⟩ := hw
    refine kiald C h 17 rfl i_60 dX7_run_60 ?_
    refine lv_ishr hx hb dX7_run_61 ?_
    refine lv_iconst (v := 1) hx hb dX7_run_62 (by decide) ?_
    refine lv_iand hx hb dX7_run_63 ?_
    refine lv_iconst (v := 1) hx hb dX7_run_64 (by decide) ?_
    refine lv_icmp_ne (tgt := 74) hx hb dX7_run_65 (by decide) (fun c_65 => ?_) (fun c_65 => ?_)
    · have hw := hw.1 c_65
      refine lv_aload_n hx hb dX7_run_74 rfl (lv_at hl 0 rfl) ?_
      refine kget C h 0 rfl rfl inBX7 32 (Nat.le_of_ble_eq_true rfl) wi_fl_X7_59 rfl dX7_run_75 ?_
      refine lv_iload_n hx hb dX7_run_78 rfl (lv_at hl 3 rfl) ?_
      refine lv_iconst (v := 1) hx hb dX7_run_79 (by decide) ?_
      refine lv_iadd hx hb dX7_run_80 ?_
      obtain ⟨i_81, hw⟩ := hw
      refine kiald C h 17 rfl i_81 dX7_run_81 ?_
      refine lv_bipush (v := 8) hx hb dX7_run_82 (by decide) ?_
      refine lv_ishl hx hb dX7_run_84 ?_
      refine lv_aload_n hx hb dX7_run_85 rfl (lv_at hl 0 rfl) ?_
      refine kget C h 0 rfl rfl inBX7 32 (Nat.le_of_ble_eq_true rfl) wi_fl_X7_59 rfl dX7_run_86 ?_
      refine lv_iload_n hx hb dX7_run_89 rfl (lv_at hl 3 rfl) ?_
      refine lv_iconst (v := 2) hx hb dX7_run_90 (by decide) ?_
      refine lv_iadd hx hb dX7_run_91 ?_
      obtain ⟨i_92, hw⟩ := hw
      refine kiald C h 17 rfl i_92 dX7_run_92 ?_
      refine lv_ior hx hb dX7_run_93 ?_
      exact kX7_run_b94 C hr hlk g42 x1 x2 x4 (((gR u 32 (x3 + 1).toNatClampNeg) <<< (8 &&& 31)) ||| (gR u 32 (x3 + 2).toNatClampNeg)) _ _ _ _ hw h (lv_sub hl [0, 1, 2, 4] rfl)
    · have hw := hw.2 c_65
      refine lv_iload_n hx hb dX7_run_68 rfl (lv_at hl 3 rfl) ?_
      refine lv_iconst (v := 3) hx hb dX7_run_69 (by decide) ?_
      refine lv_iadd hx hb dX7_run_70 ?_
      refine lv_goto (tgt := 94) hx hb dX7_run_71 (by decide) ?_
      exact kX7_run_b94 C hr hlk g42 x1 x2 x4 (x3 + 3) _ _ _ _ hw h (lv_sub hl [0, 1, 2, 4] rfl)
def wX7_run_L42 (Q : Int32 → ST → Prop) : Nat → Int32 → Int32 → Int32 → Int32 → ST → Prop
  | 0, _, _, _, _, _ => False
  | n + 1, x1, x2, x3, x4, u => wX7_run_B42 (wX7_run_L42 Q n) Q x1 x2 x3 x4 u
set_option maxHeartbeats 4000000 in
theorem kX7_run_L42 {p : Program} {l : Launch} {e : Env} {s : State} {m : MethodId} {args : Array Value} {below : List Frame} {meth : Method} {c : Code} {D : va_G} {cy : CY} {A : Nat → Prop} {am : Nat → Nat} {Q : Int32 → ST → Prop} (C : kC p m c cX7_run 5 s args RX7 D cy A) (hr : meth.sig.returnType = some .int) (hlk : meth.locks = false) : ∀ n : Nat, ∀ (x1 : Int32) (x2 : Int32) (x3 : Int32) (x4 : Int32) (u : ST) (H : Heap) (locs : List Loc) (ls : Array Slot), wX7_run_L42 Q n x1 x2 x3 x4 u → kH D (mW cy am) A s u H locs → lv_has ls 5 [(0, .ref (am 0)), (1, .int x1), (2, .int x2), (3, .int x3), (4, .int x4)] → W p l e (kRm 2) s m args below meth c H locs 0 0 (MQ below (kQi D (mW cy am) cy A Q) args s 0 0 A) (F0 m 42 ls []) := by
  intro n
  induction n with
  | zero => intro x1 x2 x3 x4 u H locs ls hw; exact False.elim hw
  | succ n ih => exact kX7_run_B42 C hr hlk ih
def wX7_run_b25 (Q : Int32 → ST → Prop) (x1 : Int32) (x2 : Int32) (xs1 : Int32) (u : ST) : Prop :=
  (((gI (sI u 0 xs1) 0) ≤ 0 → (∃ n : Nat, wX7_run_L42 Q n x1 x2 0 0 (sI u 0 xs1))) ∧ (¬ (gI (sI u 0 xs1) 0) ≤ 0 → Q 0 (sI u 0 xs1)))
set_option maxHeartbeats 4000000 in
set_option maxRecDepth 100000 in
theorem kX7_run_b25 {p : Program} {l : Launch} {e : Env} {s : State} {m : MethodId} {args : Array Value} {below : List Frame} {meth : Method} {c : Code} {D : va_G} {cy : CY} {A : Nat → Prop} {am : Nat → Nat} {Q : Int32 → ST → Prop} (C : kC p m c cX7_run 5 s args RX7 D cy A) (hr : meth.sig.returnType = some .int) (hlk : meth.locks = false) : ∀ (x1 : Int32) (x2 : Int32) (xs1 : Int32) (u : ST) (H : Heap) (locs : List Loc) (ls : Array Slot), wX7_run_b25 Q x1 x2 xs1 u → kH D (mW cy am) A s u H locs → lv_has ls 5 [(0, .ref (am 0)), (1, .int x1), (2, .int x2)] → W p l e (kRm 2) s m args below meth c H locs 0 0 (MQ below (kQi D (mW cy am) cy A Q) args s 0 0 A) (F0 m 25 ls [.int xs1, .ref (am 0)]) := by
  intro x1 x2 xs1 u H locs ls hw h hl
  obtain ⟨⟨hx, hb, hml, hown, hts⟩, hK, hA⟩ := id C
  unfold wX7_run_b25 at hw
  refine kput C h 0 rfl rfl inBX7 tyX7_ok nmX7 0 (Nat.le_of_ble_eq_true rfl) wi_fl_X7_62 rfl rfl rfl (Nat.le_of_ble_eq_true rfl) (mS_0 cy am u xs1) dX7_run_25 (fun H locs h => ?_)
  refine lv_aload_n hx hb dX7_run_28 rfl (lv_at hl 0 rfl) ?_
  refine kget C h 0 rfl rfl inBX7 0 (Nat.le_of_ble_eq_true rfl) wi_fl_X7_62 rfl dX7_run_29 ?_
  refine lv_if_le (tgt := 37) hx hb dX7_run_32 (by decide) (fun c_32 => ?_) (fun c_32 => ?_)
  · have hw := hw.1 c_32
    refine lv_iconst (v := 0) hx hb dX7_run_37 (by decide) ?_
    refine lv_istore_n (lv' := [(3, .int 0), (0, .ref (am 0)), (1, .int x1), (2, .int x2)]) hx hb dX7_run_38 rfl hl (by decide) rfl (fun ls hl => ?_)
    refine lv_iconst (v := 0) hx hb dX7_run_39 (by decide) ?_
    refine lv_istore (lv' := [(4, .int 0), (3, .int 0), (0, .ref (am 0)), (1, .int x1), (2, .int x2)]) hx hb dX7_run_40 hl (by decide) rfl (fun ls hl => ?_)
    obtain ⟨n, hw⟩ := hw
    exact kX7_run_L42 C hr hlk n x1 x2 0 0 _ _ _ _ hw h (lv_sub hl [2, 3, 4, 1, 0] rfl)
  · have hw := hw.2 c_32
    refine lv_iconst (v := 0) hx hb dX7_run_35 (by decide) ?_
    exact kretI C hr hlk h hw dX7_run_36
def wX7_run (x1 : Int32) (x2 : Int32) (u : ST) (Q : Int32 → ST → Prop) : Prop :=
  ((¬ (gI u 20) = 0 → wX7_isCase x1 u (fun r_1 u_2 => ((¬ r_1 = 0 → wX7_run_b25 Q x1 x2 0 u_2) ∧ (r_1 = 0 → wX7_run_b25 Q x1 x2 2 u_2)))) ∧ ((gI u 20) = 0 → wX7_run_b25 Q x1 x2 1 u))
set_option maxHeartbeats 4000000 in
set_option maxRecDepth 100000 in
theorem mX7_run (l : Launch) (D : va_G) (cy : CY) (am : Nat → Nat) (x1 : Int32) (x2 : Int32) (u : ST) (sz : Nat) {Q : Int32 → ST → Prop} (hw : wX7_run x1 x2 u Q) : Met l yX7_run (wM yX7_run cX7_run 5 (some .int)) (kRm 2) (kPc D (mW cy am) cy u sz [.ref (am 0), .int x1, .int x2]) (kQi D (mW cy am) cy (va_A (mW cy am u) sz) Q) 0 0 (va_A (mW cy am u) sz) := by
  refine kMet pn_X7_run (Nat.le_of_ble_eq_true rfl) (fun p e s m below meth c ls hsz C hr hlk hex h hl => ?_)
  have hl : lv_has ls 5 [(0, .ref (am 0)), (1, .int x1), (2, .int x2)] := hl
  obtain ⟨⟨hx, hb, hml, hown, hts⟩, hK, hA⟩ := id C
  unfold wX7_run at hw
  have h : kH D (mW cy am) (va_A (mW cy am u) sz) s u s.heap [] := h
  refine lv_aload_n hx hb dX7_run_0 rfl (lv_at hl 0 rfl) ?_
  refine lv_aload_n hx hb dX7_run_1 rfl (lv_at hl 0 rfl) ?_
  refine kget C h 0 rfl rfl inBX7 20 (Nat.le_of_ble_eq_true rfl) wi_fl_X7_154 rfl dX7_run_2 ?_
  refine lv_if_ne (tgt := 12) hx hb dX7_run_5 (by decide) (fun c_5 => ?_) (fun c_5 => ?_)
  · have hw := hw.1 c_5
    refine lv_aload_n hx hb dX7_run_12 rfl (lv_at hl 0 rfl) ?_
    refine lv_iload_n hx hb dX7_run_13 rfl (lv_at hl 1 rfl) ?_
    refine kVi (As := [.int x1]) (rest := [.ref (am 0)]) C h (cwV 1 hts (gd_V wi_ml_X7_190 wi_im_X7_isCase wi_se_X7_isCase wi_in_X7 wi_co_X7_isCase) rfl rfl rfl hd_X7_isCase ⟨Nat.le_of_ble_eq_true rfl, Nat.le_of_ble_eq_true rfl⟩) 0 rfl rfl rfl (mX7_isCase l D cy am x1 _ _ hw) rfl hl.1 rfl (Nat.le_of_ble_eq_true rfl) ⟨Nat.zero_le _, Nat.zero_le _⟩ dX7_run_14 (fun r_1 u_2 H locs hw h => ?_)
    refine lv_if_ne (tgt := 24) hx hb dX7_run_17 (by decide) (fun c_17 => ?_) (fun c_17 => ?_)
    · have hw := hw.1 c_17
      refine lv_iconst (v := 0) hx hb dX7_run_24 (by decide) ?_
      exact kX7_run_b25 C hr hlk x1 x2 0 _ _ _ _ hw h (lv_sub hl [0, 1, 2] rfl)
    · have hw := hw.2 c_17
      refine lv_iconst (v := 2) hx hb dX7_run_20 (by decide) ?_
      refine lv_goto (tgt := 25) hx hb dX7_run_21 (by decide) ?_
      exact kX7_run_b25 C hr hlk x1 x2 2 _ _ _ _ hw h (lv_sub hl [0, 1, 2] rfl)
  · have hw := hw.2 c_5
    refine lv_iconst (v := 1) hx hb dX7_run_8 (by decide) ?_
    refine lv_goto (tgt := 25) hx hb dX7_run_9 (by decide) ?_
    exact kX7_run_b25 C hr hlk x1 x2 1 _ _ _ _ hw h (lv_sub hl [0, 1, 2] rfl)

def wX7_tests_b68 (K20 : Int64 → Int32 → ST → Prop) (Q : Int64 → ST → Prop) (x3 : Int32) (ys0 : Int64) (ys1 : Int64) (u : ST) : Prop :=
  K20 (ys0 + ys1) (x3 + 1) u
set_option maxHeartbeats 4000000 in
set_option maxRecDepth 100000 in
theorem kX7_tests_b68 {p : Program} {l : Launch} {e : Env} {s : State} {m : MethodId} {args : Array Value} {below : List Frame} {meth : Method} {c : Code} {D : va_G} {cy : CY} {A : Nat → Prop} {am : Nat → Nat} {K20 : Int64 → Int32 → ST → Prop} {Q : Int64 → ST → Prop} (C : kC p m c cX7_tests 4 s args RX7 D cy A) (hr : meth.sig.returnType = some .long) (hlk : meth.locks = false) (g20 : ∀ (y1 : Int64) (x3 : Int32) (u : ST) (H : Heap) (locs : List Loc) (ls : Array Slot), K20 y1 x3 u → kH D (mW cy am) A s u H locs → lv_has ls 4 [(0, .ref (am 0)), (1, .long y1), (3, .int x3)] → W p l e (kRm 0) s m args below meth c H locs 0 0 (MQ below (kQl D (mW cy am) cy A Q) args s 0 0 A) (F0 m 20 ls [])) : ∀ (x3 : Int32) (ys0 : Int64) (ys1 : Int64) (u : ST) (H : Heap) (locs : List Loc) (ls : Array Slot), wX7_tests_b68 K20 Q x3 ys0 ys1 u → kH D (mW cy am) A s u H locs → lv_has ls 4 [(0, .ref (am 0)), (3, .int x3)] → W p l e (kRm 0) s m args below meth c H locs 0 0 (MQ below (kQl D (mW cy am) cy A Q) args s 0 0 A) (F0 m 68 ls [.long ys1, .long ys0]) := by
  intro x3 ys0 ys1 u H locs ls hw h hl
  obtain ⟨⟨hx, hb, hml, hown, hts⟩, hK, hA⟩ := id C
  unfold wX7_tests_b68 at hw
  refine lv_ladd hx hb dX7_tests_68 ?_
  refine lv_lstore_n (lv' := [(1, .long (ys0 + ys1)), (0, .ref (am 0)), (3, .int x3)]) hx hb dX7_tests_69 rfl hl (by decide) rfl (fun ls hl => ?_)
  refine lv_iinc (v := x3 + 1) (lv' := [(3, .int (x3 + 1)), (1, .long (ys0 + ys1)), (0, .ref (am 0))]) hx hb dX7_tests_70 hl (k := 2) rfl rfl (by decide) rfl (fun ls hl => ?_)
  refine lv_goto (tgt := 20) hx hb dX7_tests_73 (by decide) ?_
  exact g20 (ys0 + ys1) (x3 + 1) _ _ _ _ hw h (lv_sub hl [2, 1, 0] rfl)
def wX7_tests_B20 (K20 : Int64 → Int32 → ST → Prop) (Q : Int64 → ST → Prop) (y1 : Int64) (x3 : Int32) (u : ST) : Prop :=
  (((gI u 21) ≤ x3 → Q y1 u) ∧ (¬ (gI u 21) ≤ x3 → ((¬ (gI u 0) = 0 → Q y1 u) ∧ ((gI u 0) = 0 → (vp_in x3 1000 ∧ ((0 ≤ (gR u 22 x3.toNatClampNeg) → wX7_tests_b68 K20 Q x3 y1 0 u) ∧ (¬ 0 ≤ (gR u 22 x3.toNatClampNeg) → (vp_in x3 1000 ∧ (vp_in x3 1000 ∧ wX7_tests_b68 K20 Q x3 y1 (((gR u 26 x3.toNatClampNeg : Int32).toInt64 : Int64) <<< (((gI u 11) - (gR u 26 x3.toNatClampNeg) : Int32).toInt64 &&& 63)) u)))))))))
set_option maxHeartbeats 4000000 in
set_option maxRecDepth 100000 in
theorem kX7_tests_B20 {p : Program} {l : Launch} {e : Env} {s : State} {m : MethodId} {args : Array Value} {below : List Frame} {meth : Method} {c : Code} {D : va_G} {cy : CY} {A : Nat → Prop} {am : Nat → Nat} {K20 : Int64 → Int32 → ST → Prop} {Q : Int64 → ST → Prop} (C : kC p m c cX7_tests 4 s args RX7 D cy A) (hr : meth.sig.returnType = some .long) (hlk : meth.locks = false) (g20 : ∀ (y1 : Int64) (x3 : Int32) (u : ST) (H : Heap) (locs : List Loc) (ls : Array Slot), K20 y1 x3 u → kH D (mW cy am) A s u H locs → lv_has ls 4 [(0, .ref (am 0)), (1, .long y1), (3, .int x3)] → W p l e (kRm 0) s m args below meth c H locs 0 0 (MQ below (kQl D (mW cy am) cy A Q) args s 0 0 A) (F0 m 20 ls [])) : ∀ (y1 : Int64) (x3 : Int32) (u : ST) (H : Heap) (locs : List Loc) (ls : Array Slot), wX7_tests_B20 K20 Q y1 x3 u → kH D (mW cy am) A s u H locs → lv_has ls 4 [(0, .ref (am 0)), (1, .long y1), (3, .int x3)] → W p l e (kRm 0) s m args below meth c H locs 0 0 (MQ below (kQl D (mW cy am) cy A Q) args s 0 0 A) (F0 m 20 ls []) := by
  intro y1 x3 u H locs ls hw h hl
  obtain ⟨⟨hx, hb, hml, hown, hts⟩, hK, hA⟩ := id C
  unfold wX7_tests_B20 at hw
  refine lv_iload_n hx hb dX7_tests_20 rfl (lv_at hl 2 rfl) ?_
  refine lv_aload_n hx hb dX7_tests_21 rfl (lv_at hl 0 rfl) ?_
  refine kget C h 0 rfl rfl inBX7 21 (Nat.le_of_ble_eq_true rfl) wi_fl_X7_157 rfl dX7_tests_22 ?_
  refine lv_icmp_ge (tgt := 76) hx hb dX7_tests_25 (by decide) (fun c_25 => ?_) (fun c_25 => ?_)
  · have hw := hw.1 c_25
    refine lv_lload_n hx hb dX7_tests_76 rfl (lv_at hl 1 rfl) ?_
    exact kretL C hr hlk h hw dX7_tests_77
  · have hw := hw.2 c_25
    refine lv_aload_n hx hb dX7_tests_28 rfl (lv_at hl 0 rfl) ?_
    refine kget C h 0 rfl rfl inBX7 0 (Nat.le_of_ble_eq_true rfl) wi_fl_X7_62 rfl dX7_tests_29 ?_
    refine lv_if_ne (tgt := 76) hx hb dX7_tests_32 (by decide) (fun c_32 => ?_) (fun c_32 => ?_)
    · have hw := hw.1 c_32
      refine lv_lload_n hx hb dX7_tests_76 rfl (lv_at hl 1 rfl) ?_
      exact kretL C hr hlk h hw dX7_tests_77
    · have hw := hw.2 c_32
      refine lv_lload_n hx hb dX7_tests_35 rfl (lv_at hl 1 rfl) ?_
      refine lv_aload_n hx hb dX7_tests_36 rfl (lv_at hl 0 rfl) ?_
      refine kget C h 0 rfl rfl inBX7 22 (Nat.le_of_ble_eq_true rfl) wi_fl_X7_29 rfl dX7_tests_37 ?_
      refine lv_iload_n hx hb dX7_tests_40 rfl (lv_at hl 2 rfl) ?_
      obtain ⟨i_41, hw⟩ := hw
      refine kiald C h 7 rfl i_41 dX7_tests_41 ?_
      refine lv_if_ge (tgt := 67) hx hb dX7_tests_42 (by decide) (fun c_42 => ?_) (fun c_42 => ?_)
      · have hw := hw.1 c_42
        refine lv_lconst (v := 0) hx hb dX7_tests_67 rfl ?_
        exact kX7_tests_b68 C hr hlk g20 x3 y1 0 _ _ _ _ hw h (lv_sub hl [0, 2] rfl)
      · have hw := hw.2 c_42
        refine lv_aload_n hx hb dX7_tests_45 rfl (lv_at hl 0 rfl) ?_
        refine kget C h 0 rfl rfl inBX7 26 (Nat.le_of_ble_eq_true rfl) wi_fl_X7_41 rfl dX7_tests_46 ?_
        refine lv_iload_n hx hb dX7_tests_49 rfl (lv_at hl 2 rfl) ?_
        obtain ⟨i_50, hw⟩ := hw
        refine kiald C h 11 rfl i_50 dX7_tests_50 ?_
        refine lv_i2l hx hb dX7_tests_51 rfl ?_
        refine lv_aload_n hx hb dX7_tests_52 rfl (lv_at hl 0 rfl) ?_
        refine kget C h 0 rfl rfl inBX7 11 (Nat.le_of_ble_eq_true rfl) wi_fl_X7_116 rfl dX7_tests_53 ?_
        refine lv_aload_n hx hb dX7_tests_56 rfl (lv_at hl 0 rfl) ?_
        refine kget C h 0 rfl rfl inBX7 26 (Nat.le_of_ble_eq_true rfl) wi_fl_X7_41 rfl dX7_tests_57 ?_
        refine lv_iload_n hx hb dX7_tests_60 rfl (lv_at hl 2 rfl) ?_
        obtain ⟨i_61, hw⟩ := hw
        refine kiald C h 11 rfl i_61 dX7_tests_61 ?_
        refine lv_isub hx hb dX7_tests_62 ?_
        refine lv_lshl hx hb dX7_tests_63 rfl ?_
        refine lv_goto (tgt := 68) hx hb dX7_tests_64 (by decide) ?_
        exact kX7_tests_b68 C hr hlk g20 x3 y1 (((gR u 26 x3.toNatClampNeg : Int32).toInt64 : Int64) <<< (((gI u 11) - (gR u 26 x3.toNatClampNeg) : Int32).toInt64 &&& 63)) _ _ _ _ hw h (lv_sub hl [0, 2] rfl)
def wX7_tests_L20 (Q : Int64 → ST → Prop) : Nat → Int64 → Int32 → ST → Prop
  | 0, _, _, _ => False
  | n + 1, y1, x3, u => wX7_tests_B20 (wX7_tests_L20 Q n) Q y1 x3 u
set_option maxHeartbeats 4000000 in
theorem kX7_tests_L20 {p : Program} {l : Launch} {e : Env} {s : State} {m : MethodId} {args : Array Value} {below : List Frame} {meth : Method} {c : Code} {D : va_G} {cy : CY} {A : Nat → Prop} {am : Nat → Nat} {Q : Int64 → ST → Prop} (C : kC p m c cX7_tests 4 s args RX7 D cy A) (hr : meth.sig.returnType = some .long) (hlk : meth.locks = false) : ∀ n : Nat, ∀ (y1 : Int64) (x3 : Int32) (u : ST) (H : Heap) (locs : List Loc) (ls : Array Slot), wX7_tests_L20 Q n y1 x3 u → kH D (mW cy am) A s u H locs → lv_has ls 4 [(0, .ref (am 0)), (1, .long y1), (3, .int x3)] → W p l e (kRm 0) s m args below meth c H locs 0 0 (MQ below (kQl D (mW cy am) cy A Q) args s 0 0 A) (F0 m 20 ls []) := by
  intro n
  induction n with
  | zero => intro y1 x3 u H locs ls hw; exact False.elim hw
  | succ n ih => exact kX7_tests_B20 C hr hlk ih
def wX7_tests_b13 (Q : Int64 → ST → Prop) (xs1 : Int32) (u : ST) : Prop :=
  (∃ n : Nat, wX7_tests_L20 Q n 0 0 (sI u 0 xs1))
set_option maxHeartbeats 4000000 in
set_option maxRecDepth 100000 in
theorem kX7_tests_b13 {p : Program} {l : Launch} {e : Env} {s : State} {m : MethodId} {args : Array Value} {below : List Frame} {meth : Method} {c : Code} {D : va_G} {cy : CY} {A : Nat → Prop} {am : Nat → Nat} {Q : Int64 → ST → Prop} (C : kC p m c cX7_tests 4 s args RX7 D cy A) (hr : meth.sig.returnType = some .long) (hlk : meth.locks = false) : ∀ (xs1 : Int32) (u : ST) (H : Heap) (locs : List Loc) (ls : Array Slot), wX7_tests_b13 Q xs1 u → kH D (mW cy am) A s u H locs → lv_has ls 4 [(0, .ref (am 0))] → W p l e (kRm 0) s m args below meth c H locs 0 0 (MQ below (kQl D (mW cy am) cy A Q) args s 0 0 A) (F0 m 13 ls [.int xs1, .ref (am 0)]) := by
  intro xs1 u H locs ls hw h hl
  obtain ⟨⟨hx, hb, hml, hown, hts⟩, hK, hA⟩ := id C
  unfold wX7_tests_b13 at hw
  refine kput C h 0 rfl rfl inBX7 tyX7_ok nmX7 0 (Nat.le_of_ble_eq_true rfl) wi_fl_X7_62 rfl rfl rfl (Nat.le_of_ble_eq_true rfl) (mS_0 cy am u xs1) dX7_tests_13 (fun H locs h => ?_)
  refine lv_lconst (v := 0) hx hb dX7_tests_16 rfl ?_
  refine lv_lstore_n (lv' := [(1, .long 0), (0, .ref (am 0))]) hx hb dX7_tests_17 rfl hl (by decide) rfl (fun ls hl => ?_)
  refine lv_iconst (v := 0) hx hb dX7_tests_18 (by decide) ?_
  refine lv_istore_n (lv' := [(3, .int 0), (1, .long 0), (0, .ref (am 0))]) hx hb dX7_tests_19 rfl hl (by decide) rfl (fun ls hl => ?_)
  obtain ⟨n, hw⟩ := hw
  exact kX7_tests_L20 C hr hlk n 0 0 _ _ _ _ hw h (lv_sub hl [2, 1, 0] rfl)
def wX7_tests (u : ST) (Q : Int64 → ST → Prop) : Prop :=
  ((¬ (gI u 20) = 0 → wX7_tests_b13 Q 0 u) ∧ ((gI u 20) = 0 → wX7_tests_b13 Q 1 u))
set_option maxHeartbeats 4000000 in
set_option maxRecDepth 100000 in
theorem mX7_tests (l : Launch) (D : va_G) (cy : CY) (am : Nat → Nat) (u : ST) (sz : Nat) {Q : Int64 → ST → Prop} (hw : wX7_tests  u Q) : Met l yX7_tests (wM yX7_tests cX7_tests 4 (some .long)) (kRm 0) (kPc D (mW cy am) cy u sz [.ref (am 0)]) (kQl D (mW cy am) cy (va_A (mW cy am u) sz) Q) 0 0 (va_A (mW cy am u) sz) := by
  refine kMet pn_X7_tests (Nat.le_of_ble_eq_true rfl) (fun p e s m below meth c ls hsz C hr hlk hex h hl => ?_)
  have hl : lv_has ls 4 [(0, .ref (am 0))] := hl
  obtain ⟨⟨hx, hb, hml, hown, hts⟩, hK, hA⟩ := id C
  unfold wX7_tests at hw
  have h : kH D (mW cy am) (va_A (mW cy am u) sz) s u s.heap [] := h
  refine lv_aload_n hx hb dX7_tests_0 rfl (lv_at hl 0 rfl) ?_
  refine lv_aload_n hx hb dX7_tests_1 rfl (lv_at hl 0 rfl) ?_
  refine kget C h 0 rfl rfl inBX7 20 (Nat.le_of_ble_eq_true rfl) wi_fl_X7_154 rfl dX7_tests_2 ?_
  refine lv_if_ne (tgt := 12) hx hb dX7_tests_5 (by decide) (fun c_5 => ?_) (fun c_5 => ?_)
  · have hw := hw.1 c_5
    refine lv_iconst (v := 0) hx hb dX7_tests_12 (by decide) ?_
    exact kX7_tests_b13 C hr hlk 0 _ _ _ _ hw h (lv_sub hl [0] rfl)
  · have hw := hw.2 c_5
    refine lv_iconst (v := 1) hx hb dX7_tests_8 (by decide) ?_
    refine lv_goto (tgt := 13) hx hb dX7_tests_9 (by decide) ?_
    exact kX7_tests_b13 C hr hlk 1 _ _ _ _ hw h (lv_sub hl [0] rfl)
