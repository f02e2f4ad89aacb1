def wX6_findContradiction_B17 (K2 : Int32 → ST → Prop) (K17 : Int32 → Int32 → ST → Prop) (Q : Int32 → ST → Prop) (x1 : Int32) (x2 : Int32) (u : ST) : Prop :=
  (gZ u 0 < 2 ∧ (((gI u (10 + (gZ u 0))) ≤ x2 → K2 (x1 + 1) u) ∧ (¬ (gI u (10 + (gZ u 0))) ≤ x2 → (gZ u 0 < 2 ∧ wX2_contradict (gZ u 0) x1 x2 u (fun r_1 u_2 => ((r_1 = 0 → K17 x1 (x2 + 1) u_2) ∧ (¬ r_1 = 0 → (gZ (sI (sI u_2 2 x1) 3 x2) 0 < 2 ∧ (vp_in x1 256 ∧ (gZ (sI (sI u_2 2 x1) 3 x2) 0 < 2 ∧ (vp_in x2 256 ∧ Q 1 (sI (sI (sI u_2 2 x1) 3 x2) 4 ((gR (sI (sI u_2 2 x1) 3 x2) (3 * (gZ (sI (sI u_2 2 x1) 3 x2) 0)) x1.toNatClampNeg) ||| (gR (sI (sI u_2 2 x1) 3 x2) (3 * (gZ (sI (sI u_2 2 x1) 3 x2) 0)) x2.toNatClampNeg))))))))))))))
set_option maxHeartbeats 4000000 in
set_option maxRecDepth 100000 in
theorem kX6_findContradiction_B17 {p : Program} {l : Launch} {e : Env} {s : State} {m : MethodId} {args : Array Value} {below : List Frame} {meth : Method} {c : Code} {D : va_G} {cy : CY} {A : Nat → Prop} {ad : Nat → Nat} {K2 : Int32 → ST → Prop} {K17 : Int32 → Int32 → ST → Prop} {Q : Int32 → ST → Prop} (C : kC p m c cX6_findContradiction 3 s args RX6 D cy A) (hr : meth.sig.returnType = some .boolean) (hlk : meth.locks = false) (g2 : ∀ (x1 : Int32) (u : ST) (H : Heap) (locs : List Loc) (ls : Array Slot), K2 x1 u → kH D (cW cy ad) A s u H locs → lv_has ls 3 [(0, .ref (ad 0)), (1, .int x1)] → W p l e (kRm 1) s m args below meth c H locs 0 0 (MQ below (kQi D (cW cy ad) cy A Q) args s 0 0 A) (F0 m 2 ls [])) (g17 : ∀ (x1 : Int32) (x2 : Int32) (u : ST) (H : Heap) (locs : List Loc) (ls : Array Slot), K17 x1 x2 u → kH D (cW cy ad) A s u H locs → lv_has ls 3 [(0, .ref (ad 0)), (1, .int x1), (2, .int x2)] → W p l e (kRm 1) s m args below meth c H locs 0 0 (MQ below (kQi D (cW cy ad) cy A Q) args s 0 0 A) (F0 m 17 ls [])) : ∀ (x1 : Int32) (x2 : Int32) (u : ST) (H : Heap) (locs : List Loc) (ls : Array Slot), wX6_findContradiction_B17 K2 K17 Q x1 x2 u → kH D (cW cy ad) A s u H locs → lv_has ls 3 [(0, .ref (ad 0)), (1, .int x1), (2, .int x2)] → W p l e (kRm 1) s m args below meth c H locs 0 0 (MQ below (kQi D (cW cy ad) cy A Q) args s 0 0 A) (F0 m 17 ls []) := by
  intro x1 x2 u H locs ls hw h hl
  obtain ⟨⟨hx, hb, hml, hown, hts⟩, hK, hA⟩ := id C
  unfold wX6_findContradiction_B17 at hw
  refine lv_iload_n hx hb dX6_findContradiction_17 rfl (lv_at hl 2 rfl) ?_
  refine lv_aload_n hx hb dX6_findContradiction_18 rfl (lv_at hl 0 rfl) ?_
  obtain ⟨z_19, hw⟩ := hw
  refine kget C h 0 rfl rfl inBX6 1 (Nat.le_of_ble_eq_true rfl) wi_fl_X6_19 rfl dX6_findContradiction_19 ?_
  refine kget C h (2 + (gZ u 0)) (cW_T cy ad u (gZ u 0) (by omega)) rfl inBX2 5 (Nat.le_of_ble_eq_true rfl) wi_fl_X6_116 rfl dX6_findContradiction_22 ?_
  refine lv_icmp_ge (tgt := 81) hx hb dX6_findContradiction_25 (by decide) (fun c_25 => ?_) (fun c_25 => ?_)
  · have hw := hw.1 c_25
    refine lv_iinc (v := x1 + 1) (lv' := [(1, .int (x1 + 1)), (0, .ref (ad 0)), (2, .int x2)]) hx hb dX6_findContradiction_81 hl (k := 1) rfl rfl (by decide) rfl (fun ls hl => ?_)
    refine lv_goto (tgt := 2) hx hb dX6_findContradiction_84 (by decide) ?_
    exact g2 (x1 + 1) _ _ _ _ hw h (lv_sub hl [1, 0] rfl)
  · have hw := hw.2 c_25
    refine lv_aload_n hx hb dX6_findContradiction_28 rfl (lv_at hl 0 rfl) ?_
    obtain ⟨z_29, hw⟩ := hw
    refine kget C h 0 rfl rfl inBX6 1 (Nat.le_of_ble_eq_true rfl) wi_fl_X6_19 rfl dX6_findContradiction_29 ?_
    refine lv_iload_n hx hb dX6_findContradiction_32 rfl (lv_at hl 1 rfl) ?_
    refine lv_iload_n hx hb dX6_findContradiction_33 rfl (lv_at hl 2 rfl) ?_
    refine kVi (As := [.int x1, .int x2]) (rest := []) C h (cwV 2 hts (gd_V wi_ml_X6_229 wi_im_X2_contradict wi_se_X2_contradict wi_in_X2 wi_co_X2_contradict) rfl rfl rfl hd_X2_contradict ⟨Nat.le_of_ble_eq_true rfl, Nat.le_of_ble_eq_true rfl⟩) (2 + (gZ u 0)) (cW_T cy ad u (gZ u 0) (by omega)) rfl rfl (mX2_contradict l D cy ad (gZ u 0) x1 x2 _ _ (by omega) hw) rfl hl.1 rfl (Nat.le_of_ble_eq_true rfl) ⟨Nat.zero_le _, Nat.zero_le _⟩ dX6_findContradiction_34 (fun r_1 u_2 H locs hw h => ?_)
    refine lv_if_eq (tgt := 75) hx hb dX6_findContradiction_37 (by decide) (fun c_37 => ?_) (fun c_37 => ?_)
    · have hw := hw.1 c_37
      refine lv_iinc (v := x2 + 1) (lv' := [(2, .int (x2 + 1)), (0, .ref (ad 0)), (1, .int x1)]) hx hb dX6_findContradiction_75 hl (k := 2) rfl rfl (by decide) rfl (fun ls hl => ?_)
      refine lv_goto (tgt := 17) hx hb dX6_findContradiction_78 (by decide) ?_
      exact g17 x1 (x2 + 1) _ _ _ _ hw h (lv_sub hl [1, 2, 0] rfl)
    · have hw := hw.2 c_37
      refine lv_aload_n hx hb dX6_findContradiction_40 rfl (lv_at hl 0 rfl) ?_
      refine lv_iload_n hx hb dX6_findContradiction_41 rfl (lv_at hl 1 rfl) ?_
      refine kput C h 0 rfl rfl inBX6 tyX6_ok nmX6 5 (Nat.le_of_ble_eq_true rfl) wi_fl_X6_93 rfl rfl rfl (Nat.le_of_ble_eq_true rfl) (cS_RT_5 cy ad u_2 x1) dX6_findContradiction_42 (fun H locs h => ?_)
      refine lv_aload_n hx hb dX6_findContradiction_45 rfl (lv_at hl 0 rfl) ?_
      refine lv_iload_n hx hb dX6_findContradiction_46 rfl (lv_at hl 2 rfl) ?_
      refine kput C h 0 rfl rfl inBX6 tyX6_ok nmX6 6 (Nat.le_of_ble_eq_true rfl) wi_fl_X6_96 rfl rfl rfl (Nat.le_of_ble_eq_true rfl) (cS_RT_6 cy ad (sI u_2 2 x1) x2) dX6_findContradiction_47 (fun H locs h => ?_)
      refine lv_aload_n hx hb dX6_findContradiction_50 rfl (lv_at hl 0 rfl) ?_
      refine lv_aload_n hx hb dX6_findContradiction_51 rfl (lv_at hl 0 rfl) ?_
      obtain ⟨z_52, hw⟩ := hw
      refine kget C h 0 rfl rfl inBX6 1 (Nat.le_of_ble_eq_true rfl) wi_fl_X6_19 rfl dX6_findContradiction_52 ?_
      refine kget C h (2 + (gZ (sI (sI u_2 2 x1) 3 x2) 0)) (cW_T cy ad (sI (sI u_2 2 x1) 3 x2) (gZ (sI (sI u_2 2 x1) 3 x2) 0) (by omega)) rfl inBX2 2 (Nat.le_of_ble_eq_true rfl) wi_fl_X6_233 rfl dX6_findContradiction_55 ?_
      refine lv_iload_n hx hb dX6_findContradiction_58 rfl (lv_at hl 1 rfl) ?_
      obtain ⟨i_59, hw⟩ := hw
      refine kiald C h (17 + (3 * (gZ (sI (sI u_2 2 x1) 3 x2) 0))) (cW_R cy ad (sI (sI u_2 2 x1) 3 x2) (3 * (gZ (sI (sI u_2 2 x1) 3 x2) 0)) (by omega)) (by rw [lenR_256 (by omega)]; exact i_59) dX6_findContradiction_59 ?_
      refine lv_aload_n hx hb dX6_findContradiction_60 rfl (lv_at hl 0 rfl) ?_
      obtain ⟨z_61, hw⟩ := hw
      refine kget C h 0 rfl rfl inBX6 1 (Nat.le_of_ble_eq_true rfl) wi_fl_X6_19 rfl dX6_findContradiction_61 ?_
      refine kget C h (2 + (gZ (sI (sI u_2 2 x1) 3 x2) 0)) (cW_T cy ad (sI (sI u_2 2 x1) 3 x2) (gZ (sI (sI u_2 2 x1) 3 x2) 0) (by omega)) rfl inBX2 2 (Nat.le_of_ble_eq_true rfl) wi_fl_X6_233 rfl dX6_findContradiction_64 ?_
      refine lv_iload_n hx hb dX6_findContradiction_67 rfl (lv_at hl 2 rfl) ?_
      obtain ⟨i_68, hw⟩ := hw
      refine kiald C h (17 + (3 * (gZ (sI (sI u_2 2 x1) 3 x2) 0))) (cW_R cy ad (sI (sI u_2 2 x1) 3 x2) (3 * (gZ (sI (sI u_2 2 x1) 3 x2) 0)) (by omega)) (by rw [lenR_256 (by omega)]; exact i_68) dX6_findContradiction_68 ?_
      refine lv_ior hx hb dX6_findContradiction_69 ?_
      refine kput C h 0 rfl rfl inBX6 tyX6_ok nmX6 7 (Nat.le_of_ble_eq_true rfl) wi_fl_X6_99 rfl rfl rfl (Nat.le_of_ble_eq_true rfl) (cS_RT_7 cy ad (sI (sI u_2 2 x1) 3 x2) ((gR (sI (sI u_2 2 x1) 3 x2) (3 * (gZ (sI (sI u_2 2 x1) 3 x2) 0)) x1.toNatClampNeg) ||| (gR (sI (sI u_2 2 x1) 3 x2) (3 * (gZ (sI (sI u_2 2 x1) 3 x2) 0)) x2.toNatClampNeg))) dX6_findContradiction_70 (fun H locs h => ?_)
      refine lv_iconst (v := 1) hx hb dX6_findContradiction_73 (by decide) ?_
      exact kretZ C hr hlk h (Or.inr rfl) hw dX6_findContradiction_74
def wX6_findContradiction_L17 (K2 : Int32 → ST → Prop) (Q : Int32 → ST → Prop) : Nat → Int32 → Int32 → ST → Prop
  | 0, _, _, _ => False
  | n + 1, x1, x2, u => wX6_findContradiction_B17 K2 (wX6_findContradiction_L17 K2 Q n) Q x1 x2 u
set_option maxHeartbeats 4000000 in
theorem kX6_findContradiction_L17 {p : Program} {l : Launch} {e : Env} {s : State} {m : MethodId} {args : Array Value} {below : List Frame} {meth : Method} {c : Code} {D : va_G} {cy : CY} {A : Nat → Prop} {ad : Nat → Nat} {K2 : Int32 → ST → Prop} {Q : Int32 → ST → Prop} (C : kC p m c cX6_findContradiction 3 s args RX6 D cy A) (hr : meth.sig.returnType = some .boolean) (hlk : meth.locks = false) (g2 : ∀ (x1 : Int32) (u : ST) (H : Heap) (locs : List Loc) (ls : Array Slot), K2 x1 u → kH D (cW cy ad) A s u H locs → lv_has ls 3 [(0, .ref (ad 0)), (1, .int x1)] → W p l e (kRm 1) s m args below meth c H locs 0 0 (MQ below (kQi D (cW cy ad) cy A Q) args s 0 0 A) (F0 m 2 ls [])) : ∀ n : Nat, ∀ (x1 : Int32) (x2 : Int32) (u : ST) (H : Heap) (locs : List Loc) (ls : Array Slot), wX6_findContradiction_L17 K2 Q n x1 x2 u → kH D (cW cy ad) A s u H locs → lv_has ls 3 [(0, .ref (ad 0)), (1, .int x1), (2, .int x2)] → W p l e (kRm 1) s m args below meth c H locs 0 0 (MQ below (kQi D (cW cy ad) cy A Q) args s 0 0 A) (F0 m 17 ls []) := by
  intro n
  induction n with
  | zero => intro x1 x2 u H locs ls hw; exact False.elim hw
  | succ n ih => exact kX6_findContradiction_B17 C hr hlk g2 ih
def wX6_findContradiction_B2 (K2 : Int32 → ST → Prop) (Q : Int32 → ST → Prop) (x1 : Int32) (u : ST) : Prop :=
  (gZ u 0 < 2 ∧ (((gI u (10 + (gZ u 0))) ≤ x1 → Q 0 u) ∧ (¬ (gI u (10 + (gZ u 0))) ≤ x1 → (∃ n : Nat, wX6_findContradiction_L17 K2 Q n x1 (x1 + 1) u))))
set_option maxHeartbeats 4000000 in
set_option maxRecDepth 100000 in
theorem kX6_findContradiction_B2 {p : Program} {l : Launch} {e : Env} {s : State} {m : MethodId} {args : Array Value} {below : List Frame} {meth : Method} {c : Code} {D : va_G} {cy : CY} {A : Nat → Prop} {ad : Nat → Nat} {K2 : Int32 → ST → Prop} {Q : Int32 → ST → Prop} (C : kC p m c cX6_findContradiction 3 s args RX6 D cy A) (hr : meth.sig.returnType = some .boolean) (hlk : meth.locks = false) (g2 : ∀ (x1 : Int32) (u : ST) (H : Heap) (locs : List Loc) (ls : Array Slot), K2 x1 u → kH D (cW cy ad) A s u H locs → lv_has ls 3 [(0, .ref (ad 0)), (1, .int x1)] → W p l e (kRm 1) s m args below meth c H locs 0 0 (MQ below (kQi D (cW cy ad) cy A Q) args s 0 0 A) (F0 m 2 ls [])) : ∀ (x1 : Int32) (u : ST) (H : Heap) (locs : List Loc) (ls : Array Slot), wX6_findContradiction_B2 K2 Q x1 u → kH D (cW cy ad) A s u H locs → lv_has ls 3 [(0, .ref (ad 0)), (1, .int x1)] → W p l e (kRm 1) s m args below meth c H locs 0 0 (MQ below (kQi D (cW cy ad) cy A Q) args s 0 0 A) (F0 m 2 ls []) := by
  intro x1 u H locs ls hw h hl
  obtain ⟨⟨hx, hb, hml, hown, hts⟩, hK, hA⟩ := id C
  unfold wX6_findContradiction_B2 at hw
  refine lv_iload_n hx hb dX6_findContradiction_2 rfl (lv_at hl 1 rfl) ?_
  refine lv_aload_n hx hb dX6_findContradiction_3 rfl (lv_at hl 0 rfl) ?_
  obtain ⟨z_4, hw⟩ := hw
  refine kget C h 0 rfl rfl inBX6 1 (Nat.le_of_ble_eq_true rfl) wi_fl_X6_19 rfl dX6_findContradiction_4 ?_
  refine kget C h (2 + (gZ u 0)) (cW_T cy ad u (gZ u 0) (by omega)) rfl inBX2 5 (Nat.le_of_ble_eq_true rfl) wi_fl_X6_116 rfl dX6_findContradiction_7 ?_
  refine lv_icmp_ge (tgt := 87) hx hb dX6_findContradiction_10 (by decide) (fun c_10 => ?_) (fun c_10 => ?_)
  · have hw := hw.1 c_10
    refine lv_iconst (v := 0) hx hb dX6_findContradiction_87 (by decide) ?_
    exact kretZ C hr hlk h (Or.inl rfl) hw dX6_findContradiction_88
  · have hw := hw.2 c_10
    refine lv_iload_n hx hb dX6_findContradiction_13 rfl (lv_at hl 1 rfl) ?_
    refine lv_iconst (v := 1) hx hb dX6_findContradiction_14 (by decide) ?_
    refine lv_iadd hx hb dX6_findContradiction_15 ?_
    refine lv_istore_n (lv' := [(2, .int (x1 + 1)), (0, .ref (ad 0)), (1, .int x1)]) hx hb dX6_findContradiction_16 rfl hl (by decide) rfl (fun ls hl => ?_)
    obtain ⟨n, hw⟩ := hw
    exact kX6_findContradiction_L17 C hr hlk g2 n x1 (x1 + 1) _ _ _ _ hw h (lv_sub hl [1, 2, 0] rfl)
def wX6_findContradiction_L2 (Q : Int32 → ST → Prop) : Nat → Int32 → ST → Prop
  | 0, _, _ => False
  | n + 1, x1, u => wX6_findContradiction_B2 (wX6_findContradiction_L2 Q n) Q x1 u
set_option maxHeartbeats 4000000 in
theorem kX6_findContradiction_L2 {p : Program} {l : Launch} {e : Env} {s : State} {m : MethodId} {args : Array Value} {below : List Frame} {meth : Method} {c : Code} {D : va_G} {cy : CY} {A : Nat → Prop} {ad : Nat → Nat} {Q : Int32 → ST → Prop} (C : kC p m c cX6_findContradiction 3 s args RX6 D cy A) (hr : meth.sig.returnType = some .boolean) (hlk : meth.locks = false) : ∀ n : Nat, ∀ (x1 : Int32) (u : ST) (H : Heap) (locs : List Loc) (ls : Array Slot), wX6_findContradiction_L2 Q n x1 u → kH D (cW cy ad) A s u H locs → lv_has ls 3 [(0, .ref (ad 0)), (1, .int x1)] → W p l e (kRm 1) s m args below meth c H locs 0 0 (MQ below (kQi D (cW cy ad) cy A Q) args s 0 0 A) (F0 m 2 ls []) := by
  intro n
  induction n with
  | zero => intro x1 u H locs ls hw; exact False.elim hw
  | succ n ih => exact kX6_findContradiction_B2 C hr hlk ih
def wX6_findContradiction (u : ST) (Q : Int32 → ST → Prop) : Prop :=
  (∃ n : Nat, wX6_findContradiction_L2 Q n 0 u)
set_option maxHeartbeats 4000000 in
set_option maxRecDepth 100000 in
theorem mX6_findContradiction (l : Launch) (D : va_G) (cy : CY) (ad : Nat → Nat) (u : ST) (sz : Nat) {Q : Int32 → ST → Prop} (hw : wX6_findContradiction  u Q) : Met l yX6_findContradiction (wM yX6_findContradiction cX6_findContradiction 3 (some .boolean)) (kRm 1) (kPc D (cW cy ad) cy u sz [.ref (ad 0)]) (kQi D (cW cy ad) cy (va_A (cW cy ad u) sz) Q) 0 0 (va_A (cW cy ad u) sz) := by
  refine kMet pn_X6_findContradiction (Nat.le_of_ble_eq_true rfl) (fun p e s m below meth c ls hsz C hr hlk hex h hl => ?_)
  have hl : lv_has ls 3 [(0, .ref (ad 0))] := hl
  obtain ⟨⟨hx, hb, hml, hown, hts⟩, hK, hA⟩ := id C
  unfold wX6_findContradiction at hw
  have h : kH D (cW cy ad) (va_A (cW cy ad u) sz) s u s.heap [] := h
  refine lv_iconst (v := 0) hx hb dX6_findContradiction_0 (by decide) ?_
  refine lv_istore_n (lv' := [(1, .int 0), (0, .ref (ad 0))]) hx hb dX6_findContradiction_1 rfl hl (by decide) rfl (fun ls hl => ?_)
  obtain ⟨n, hw⟩ := hw
  exact kX6_findContradiction_L2 C hr hlk n 0 _ _ _ _ hw h (lv_sub hl [1, 0] rfl)

def wX6_findAmiss (u : ST) (Q : Int32 → ST → Prop) : Prop :=
  wX6_findContradiction  (sI (sI u 2 (-1)) 3 (-1)) (fun r_1 u_2 => ((r_1 = 0 → (gZ u_2 0 < 2 ∧ wX5_start (gZ u_2 0) (-1) u_2 (fun u_4 => wX5_leastGap  u_4 (fun r_5 u_6 => ((¬ (gI (sI u_6 4 r_5) 4) = (-1) → Q 2 (sI u_6 4 r_5)) ∧ ((gI (sI u_6 4 r_5) 4) = (-1) → Q 0 (sI u_6 4 r_5))))))) ∧ (¬ r_1 = 0 → Q 1 u_2)))
set_option maxHeartbeats 4000000 in
set_option maxRecDepth 100000 in
theorem mX6_findAmiss (l : Launch) (D : va_G) (cy : CY) (ad : Nat → Nat) (u : ST) (sz : Nat) {Q : Int32 → ST → Prop} (hw : wX6_findAmiss  u Q) : Met l yX6_findAmiss (wM yX6_findAmiss cX6_findAmiss 1 (some .int)) (kRm 23) (kPc D (cW cy ad) cy u sz [.ref (ad 0)]) (kQi D (cW cy ad) cy (va_A (cW cy ad u) sz) Q) 0 0 (va_A (cW cy ad u) sz) := by
  refine kMet pn_X6_findAmiss (Nat.le_of_ble_eq_true rfl) (fun p e s m below meth c ls hsz C hr hlk hex h hl => ?_)
  have hl : lv_has ls 1 [(0, .ref (ad 0))] := hl
  obtain ⟨⟨hx, hb, hml, hown, hts⟩, hK, hA⟩ := id C
  unfold wX6_findAmiss at hw
  have h : kH D (cW cy ad) (va_A (cW cy ad u) sz) s u s.heap [] := h
  refine lv_aload_n hx hb dX6_findAmiss_0 rfl (lv_at hl 0 rfl) ?_
  refine lv_iconst (v := (-1)) hx hb dX6_findAmiss_1 (by decide) ?_
  refine kput C h 0 rfl rfl inBX6 tyX6_ok nmX6 5 (Nat.le_of_ble_eq_true rfl) wi_fl_X6_93 rfl rfl rfl (Nat.le_of_ble_eq_true rfl) (cS_RT_5 cy ad u (-1)) dX6_findAmiss_2 (fun H locs h => ?_)
  refine lv_aload_n hx hb dX6_findAmiss_5 rfl (lv_at hl 0 rfl) ?_
  refine lv_iconst (v := (-1)) hx hb dX6_findAmiss_6 (by decide) ?_
  refine kput C h 0 rfl rfl inBX6 tyX6_ok nmX6 6 (Nat.le_of_ble_eq_true rfl) wi_fl_X6_96 rfl rfl rfl (Nat.le_of_ble_eq_true rfl) (cS_RT_6 cy ad (sI u 2 (-1)) (-1)) dX6_findAmiss_7 (fun H locs h => ?_)
  refine lv_aload_n hx hb dX6_findAmiss_10 rfl (lv_at hl 0 rfl) ?_
  refine kVi (As := []) (rest := []) C h (cwV 0 hts (gd_V wi_ml_X6_222 wi_im_X6_findContradiction wi_se_X6_findContradiction wi_in_X6 wi_co_X6_findContradiction) rfl rfl rfl hd_X6_findContradiction ⟨Nat.le_of_ble_eq_true rfl, Nat.le_of_ble_eq_true rfl⟩) 0 rfl rfl rfl (mX6_findContradiction l D cy ad  _ _ hw) rfl hl.1 rfl (Nat.le_of_ble_eq_true rfl) ⟨Nat.zero_le _, Nat.zero_le _⟩ dX6_findAmiss_11 (fun r_1 u_2 H locs hw h => ?_)
  refine lv_if_eq (tgt := 19) hx hb dX6_findAmiss_14 (by decide) (fun c_14 => ?_) (fun c_14 => ?_)
  · have hw := hw.1 c_14
    refine lv_aload_n hx hb dX6_findAmiss_19 rfl (lv_at hl 0 rfl) ?_
    refine kget C h 0 rfl rfl inBX6 8 (Nat.le_of_ble_eq_true rfl) wi_fl_X6_29 rfl dX6_findAmiss_20 ?_
    refine lv_aload_n hx hb dX6_findAmiss_23 rfl (lv_at hl 0 rfl) ?_
    obtain ⟨z_24, hw⟩ := hw
    refine kget C h 0 rfl rfl inBX6 1 (Nat.le_of_ble_eq_true rfl) wi_fl_X6_19 rfl dX6_findAmiss_24 ?_
    refine lv_iconst (v := (-1)) hx hb dX6_findAmiss_27 (by decide) ?_
    refine kVv (As := [.ref (aT ad (gZ u_2 0)), .int (-1)]) (rest := []) C h (cwV 2 hts (gd_V wi_ml_X6_161 wi_im_X5_start wi_se_X5_start wi_in_X5 wi_co_X5_start) rfl rfl rfl hd_X5_start ⟨Nat.le_of_ble_eq_true rfl, Nat.le_of_ble_eq_true rfl⟩) 8 rfl rfl rfl (mX5_start l D cy ad (gZ u_2 0) (-1) _ _ (by omega) hw) rfl hl.1 rfl (Nat.le_of_ble_eq_true rfl) ⟨Nat.zero_le _, Nat.zero_le _⟩ dX6_findAmiss_28 (fun u_4 H locs hw h => ?_)
    refine lv_aload_n hx hb dX6_findAmiss_31 rfl (lv_at hl 0 rfl) ?_
    refine lv_aload_n hx hb dX6_findAmiss_32 rfl (lv_at hl 0 rfl) ?_
    refine kget C h 0 rfl rfl inBX6 8 (Nat.le_of_ble_eq_true rfl) wi_fl_X6_29 rfl dX6_findAmiss_33 ?_
    refine kVi (As := []) (rest := [.ref (ad 0)]) C h (cwV 0 hts (gd_V wi_ml_X6_226 wi_im_X5_leastGap wi_se_X5_leastGap wi_in_X5 wi_co_X5_leastGap) rfl rfl rfl hd_X5_leastGap ⟨Nat.le_of_ble_eq_true rfl, Nat.le_of_ble_eq_true rfl⟩) 8 rfl rfl rfl (mX5_leastGap l D cy ad  _ _ hw) rfl hl.1 rfl (Nat.le_of_ble_eq_true rfl) ⟨Nat.zero_le _, Nat.zero_le _⟩ dX6_findAmiss_36 (fun r_5 u_6 H locs hw h => ?_)
    refine kput C h 0 rfl rfl inBX6 tyX6_ok nmX6 7 (Nat.le_of_ble_eq_true rfl) wi_fl_X6_99 rfl rfl rfl (Nat.le_of_ble_eq_true rfl) (cS_RT_7 cy ad u_6 r_5) dX6_findAmiss_39 (fun H locs h => ?_)
    refine lv_aload_n hx hb dX6_findAmiss_42 rfl (lv_at hl 0 rfl) ?_
    refine kget C h 0 rfl rfl inBX6 7 (Nat.le_of_ble_eq_true rfl) wi_fl_X6_99 rfl dX6_findAmiss_43 ?_
    refine lv_iconst (v := (-1)) hx hb dX6_findAmiss_46 (by decide) ?_
    refine lv_icmp_ne (tgt := 54) hx hb dX6_findAmiss_47 (by decide) (fun c_47 => ?_) (fun c_47 => ?_)
    · have hw := hw.1 c_47
      refine lv_iconst (v := 2) hx hb dX6_findAmiss_54 (by decide) ?_
      exact kretI C hr hlk h hw dX6_findAmiss_55
    · have hw := hw.2 c_47
      refine lv_iconst (v := 0) hx hb dX6_findAmiss_50 (by decide) ?_
      refine lv_goto (tgt := 55) hx hb dX6_findAmiss_51 (by decide) ?_
      exact kretI C hr hlk h hw dX6_findAmiss_55
  · have hw := hw.2 c_14
    refine lv_iconst (v := 1) hx hb dX6_findAmiss_17 (by decide) ?_
    exact kretI C hr hlk h hw dX6_findAmiss_18

def wX6_judge_b43 (Q : Int32 → ST → Prop) (x1 : Int32) (u : ST) : Prop :=
  wX0_write  u (fun u_2 => Q x1 u_2)
set_option maxHeartbeats 4000000 in
set_option maxRecDepth 100000 in
theorem kX6_judge_b43 {p : Program} {l : Launch} {e : Env} {s : State} {m : MethodId} {args : Array Value} {below : List Frame} {meth : Method} {c : Code} {D : va_G} {cy : CY} {A : Nat → Prop} {ad : Nat → Nat} {Q : Int32 → ST → Prop} (C : kC p m c cX6_judge 2 s args RX6 D cy A) (hr : meth.sig.returnType = some .int) (hlk : meth.locks = false) : ∀ (x1 : Int32) (u : ST) (H : Heap) (locs : List Loc) (ls : Array Slot), wX6_judge_b43 Q x1 u → kH D (cW cy ad) A s u H locs → lv_has ls 2 [(0, .ref (ad 0)), (1, .int x1)] → W p l e (kRm 25) s m args below meth c H locs 0 0 (MQ below (kQi D (cW cy ad) cy A Q) args s 0 0 A) (F0 m 43 ls []) := by
  intro x1 u H locs ls hw h hl
  obtain ⟨⟨hx, hb, hml, hown, hts⟩, hK, hA⟩ := id C
  unfold wX6_judge_b43 at hw
  refine lv_aload_n hx hb dX6_judge_43 rfl (lv_at hl 0 rfl) ?_
  refine kget C h 0 rfl rfl inBX6 10 (Nat.le_of_ble_eq_true rfl) wi_fl_X6_43 rfl dX6_judge_44 ?_
  refine lv_aload_n hx hb dX6_judge_47 rfl (lv_at hl 0 rfl) ?_
  refine kget C h 0 rfl rfl inBX6 9 (Nat.le_of_ble_eq_true rfl) wi_fl_X6_36 rfl dX6_judge_48 ?_
  refine kVv (As := [.ref (ad 9)]) (rest := []) C h (cwV 1 hts (gd_V wi_ml_X6_218 wi_im_X0_write wi_se_X0_write wi_in_X0 wi_co_X0_write) rfl rfl rfl hd_X0_write ⟨Nat.le_of_ble_eq_true rfl, Nat.le_of_ble_eq_true rfl⟩) 10 rfl rfl rfl (mX0_write l D cy ad  _ _ hw) rfl hl.1 rfl (Nat.le_of_ble_eq_true rfl) ⟨Nat.zero_le _, Nat.zero_le _⟩ dX6_judge_51 (fun u_2 H locs hw h => ?_)
  refine lv_iload_n hx hb dX6_judge_54 rfl (lv_at hl 1 rfl) ?_
  exact kretI C hr hlk h hw dX6_judge_55
def wX6_judge_b42 (Q : Int32 → ST → Prop) (xs0 : Int32) (u : ST) : Prop :=
  wX6_judge_b43 Q xs0 u
set_option maxHeartbeats 4000000 in
set_option maxRecDepth 100000 in
theorem kX6_judge_b42 {p : Program} {l : Launch} {e : Env} {s : State} {m : MethodId} {args : Array Value} {below : List Frame} {meth : Method} {c : Code} {D : va_G} {cy : CY} {A : Nat → Prop} {ad : Nat → Nat} {Q : Int32 → ST → Prop} (C : kC p m c cX6_judge 2 s args RX6 D cy A) (hr : meth.sig.returnType = some .int) (hlk : meth.locks = false) : ∀ (xs0 : Int32) (u : ST) (H : Heap) (locs : List Loc) (ls : Array Slot), wX6_judge_b42 Q xs0 u → kH D (cW cy ad) A s u H locs → lv_has ls 2 [(0, .ref (ad 0))] → W p l e (kRm 25) s m args below meth c H locs 0 0 (MQ below (kQi D (cW cy ad) cy A Q) args s 0 0 A) (F0 m 42 ls [.int xs0]) := by
  intro xs0 u H locs ls hw h hl
  obtain ⟨⟨hx, hb, hml, hown, hts⟩, hK, hA⟩ := id C
  unfold wX6_judge_b42 at hw
  refine lv_istore_n (lv' := [(1, .int xs0), (0, .ref (ad 0))]) hx hb dX6_judge_42 rfl hl (by decide) rfl (fun ls hl => ?_)
  exact kX6_judge_b43 C hr hlk xs0 _ _ _ _ hw h (lv_sub hl [1, 0] rfl)
def wX6_judge (u : ST) (Q : Int32 → ST → Prop) : Prop :=
  wX4_clear  u (fun u_2 => wX6_findAmiss  u_2 (fun r_3 u_4 => ((¬ r_3 = 0 → wX6_judge_b43 Q r_3 u_4) ∧ (r_3 = 0 → wX4_build  u_4 (fun u_6 => ((¬ (gI u_6 17) = 0 → wX6_judge_b42 Q 0 u_6) ∧ ((gI u_6 17) = 0 → wX6_judge_b42 Q 3 u_6)))))))
set_option maxHeartbeats 4000000 in
set_option maxRecDepth 100000 in
theorem mX6_judge (l : Launch) (D : va_G) (cy : CY) (ad : Nat → Nat) (u : ST) (sz : Nat) {Q : Int32 → ST → Prop} (hw : wX6_judge  u Q) : Met l yX6_judge (wM yX6_judge cX6_judge 2 (some .int)) (kRm 25) (kPc D (cW cy ad) cy u sz [.ref (ad 0)]) (kQi D (cW cy ad) cy (va_A (cW cy ad u) sz) Q) 0 0 (va_A (cW cy ad u) sz) := by
  refine kMet pn_X6_judge (Nat.le_of_ble_eq_true rfl) (fun p e s m below meth c ls hsz C hr hlk hex h hl => ?_)
  have hl : lv_has ls 2 [(0, .ref (ad 0))] := hl
  obtain ⟨⟨hx, hb, hml, hown, hts⟩, hK, hA⟩ := id C
  unfold wX6_judge at hw
  have h : kH D (cW cy ad) (va_A (cW cy ad u) sz) s u s.heap [] := h
  refine lv_aload_n hx hb dX6_judge_0 rfl (lv_at hl 0 rfl) ?_
  refine kget C h 0 rfl rfl inBX6 9 (Nat.le_of_ble_eq_true rfl) wi_fl_X6_36 rfl dX6_judge_1 ?_
  refine kVv (As := []) (rest := []) C h (cwV 0 hts (gd_V wi_ml_X6_208 wi_im_X4_clear wi_se_X4_clear wi_in_X4 wi_co_X4_clear) rfl rfl rfl hd_X4_clear ⟨Nat.le_of_ble_eq_true rfl, Nat.le_of_ble_eq_true rfl⟩) 9 rfl rfl rfl (mX4_clear l D cy ad  _ _ hw) rfl hl.1 rfl (Nat.le_of_ble_eq_true rfl) ⟨Nat.zero_le _, Nat.zero_le _⟩ dX6_judge_4 (fun u_2 H locs hw h => ?_)
  refine lv_aload_n hx hb dX6_judge_7 rfl (lv_at hl 0 rfl) ?_
  refine kVi (As := []) (rest := []) C h (cwV 0 hts (gd_V wi_ml_X6_211 wi_im_X6_findAmiss wi_se_X6_findAmiss wi_in_X6 wi_co_X6_findAmiss) rfl rfl rfl hd_X6_findAmiss ⟨Nat.le_of_ble_eq_true rfl, Nat.le_of_ble_eq_true rfl⟩) 0 rfl rfl rfl (mX6_findAmiss l D cy ad  _ _ hw) rfl hl.1 rfl (Nat.le_of_ble_eq_true rfl) ⟨Nat.zero_le _, Nat.zero_le _⟩ dX6_judge_8 (fun r_3 u_4 H locs hw h => ?_)
  refine lv_istore_n (lv' := [(1, .int r_3), (0, .ref (ad 0))]) hx hb dX6_judge_11 rfl hl (by decide) rfl (fun ls hl => ?_)
  refine lv_iload_n hx hb dX6_judge_12 rfl (lv_at hl 0 rfl) ?_
  refine lv_if_ne (tgt := 43) hx hb dX6_judge_13 (by decide) (fun c_13 => ?_) (fun c_13 => ?_)
  · have hw := hw.1 c_13
    exact kX6_judge_b43 C hr hlk r_3 _ _ _ _ hw h (lv_sub hl [1, 0] rfl)
  · have hw := hw.2 c_13
    refine lv_aload_n hx hb dX6_judge_16 rfl (lv_at hl 1 rfl) ?_
    refine kget C h 0 rfl rfl inBX6 9 (Nat.le_of_ble_eq_true rfl) wi_fl_X6_36 rfl dX6_judge_17 ?_
    refine lv_aload_n hx hb dX6_judge_20 rfl (lv_at hl 1 rfl) ?_
    refine kget C h 0 rfl rfl inBX6 8 (Nat.le_of_ble_eq_true rfl) wi_fl_X6_29 rfl dX6_judge_21 ?_
    refine kVv (As := [.ref (ad 8)]) (rest := []) C h (cwV 1 hts (gd_V wi_ml_X6_214 wi_im_X4_build wi_se_X4_build wi_in_X4 wi_co_X4_build) rfl rfl rfl hd_X4_build ⟨Nat.le_of_ble_eq_true rfl, Nat.le_of_ble_eq_true rfl⟩) 9 rfl rfl rfl (mX4_build l D cy ad  _ _ hw) rfl hl.1 rfl (Nat.le_of_ble_eq_true rfl) ⟨Nat.zero_le _, Nat.zero_le _⟩ dX6_judge_24 (fun u_6 H locs hw h => ?_)
    refine lv_aload_n hx hb dX6_judge_27 rfl (lv_at hl 1 rfl) ?_
    refine kget C h 0 rfl rfl inBX6 9 (Nat.le_of_ble_eq_true rfl) wi_fl_X6_36 rfl dX6_judge_28 ?_
    refine kget C h 9 rfl rfl inBX4 2 (Nat.le_of_ble_eq_true rfl) wi_fl_X6_122 rfl dX6_judge_31 ?_
    refine lv_if_ne (tgt := 41) hx hb dX6_judge_34 (by decide) (fun c_34 => ?_) (fun c_34 => ?_)
    · have hw := hw.1 c_34
      refine lv_iconst (v := 0) hx hb dX6_judge_41 (by decide) ?_
      exact kX6_judge_b42 C hr hlk 0 _ _ _ _ hw h (lv_sub hl [1] rfl)
    · have hw := hw.2 c_34
      refine lv_iconst (v := 3) hx hb dX6_judge_37 (by decide) ?_
      refine lv_goto (tgt := 42) hx hb dX6_judge_38 (by decide) ?_
      exact kX6_judge_b42 C hr hlk 3 _ _ _ _ hw h (lv_sub hl [1] rfl)

def wX6_read (u : ST) (Q : Int32 → ST → Prop) : Prop :=
  (gZ u 1 < 2 ∧ wX3_parse (gZ u 1) u (fun r_1 u_2 => ((¬ r_1 = 0 → (gZ (sI (sI u_2 5 0) 1 (gI (sI u_2 5 0) 8)) 0 < 2 ∧ (gZ (sI (sI u_2 5 0) 1 (gI (sI u_2 5 0) 8)) 1 < 2 ∧ wX6_judge  (sI (sZ (sZ (sI (sI u_2 5 0) 1 (gI (sI u_2 5 0) 8)) 0 (gZ (sI (sI u_2 5 0) 1 (gI (sI u_2 5 0) 8)) 1)) 1 (gZ (sI (sI u_2 5 0) 1 (gI (sI u_2 5 0) 8)) 0)) 0 1) (fun r_3 u_4 => Q r_3 u_4)))) ∧ (r_1 = 0 → Q ((-1) - (gI (sI (sI u_2 5 0) 1 (gI (sI u_2 5 0) 8)) 9)) (sI (sI u_2 5 0) 1 (gI (sI u_2 5 0) 8))))))
set_option maxHeartbeats 4000000 in
set_option maxRecDepth 100000 in
theorem mX6_read (l : Launch) (D : va_G) (cy : CY) (ad : Nat → Nat) (u : ST) (sz : Nat) {Q : Int32 → ST → Prop} (hw : wX6_read  u Q) : Met l yX6_read (wM yX6_read cX6_read 3 (some .int)) (kRm 26) (kPc D (cW cy ad) cy u sz [.ref (ad 0)]) (kQi D (cW cy ad) cy (va_A (cW cy ad u) sz) Q) 0 0 (va_A (cW cy ad u) sz) := by
  refine kMet pn_X6_read (Nat.le_of_ble_eq_true rfl) (fun p e s m below meth c ls hsz C hr hlk hex h hl => ?_)
  have hl : lv_has ls 3 [(0, .ref (ad 0))] := hl
  obtain ⟨⟨hx, hb, hml, hown, hts⟩, hK, hA⟩ := id C
  unfold wX6_read at hw
  have h : kH D (cW cy ad) (va_A (cW cy ad u) sz) s u s.heap [] := h
  refine lv_aload_n hx hb dX6_read_0 rfl (lv_at hl 0 rfl) ?_
  refine kget C h 0 rfl rfl inBX6 0 (Nat.le_of_ble_eq_true rfl) wi_fl_X6_12 rfl dX6_read_1 ?_
  refine lv_aload_n hx hb dX6_read_4 rfl (lv_at hl 0 rfl) ?_
  obtain ⟨z_5, hw⟩ := hw
  refine kget C h 0 rfl rfl inBX6 2 (Nat.le_of_ble_eq_true rfl) wi_fl_X6_23 rfl dX6_read_5 ?_
  refine kVi (As := [.ref (aT ad (gZ u 1))]) (rest := []) C h (cwV 1 hts (gd_V wi_ml_X6_69 wi_im_X3_parse wi_se_X3_parse wi_in_X3 wi_co_X3_parse) rfl rfl rfl hd_X3_parse ⟨Nat.le_of_ble_eq_true rfl, Nat.le_of_ble_eq_true rfl⟩) 1 rfl rfl rfl (mX3_parse l D cy ad (gZ u 1) _ _ (by omega) hw) rfl hl.1 rfl (Nat.le_of_ble_eq_true rfl) ⟨Nat.zero_le _, Nat.zero_le _⟩ dX6_read_8 (fun r_1 u_2 H locs hw h => ?_)
  refine lv_istore_n (lv' := [(1, .int r_1), (0, .ref (ad 0))]) hx hb dX6_read_11 rfl hl (by decide) rfl (fun ls hl => ?_)
  refine lv_aload_n hx hb dX6_read_12 rfl (lv_at hl 1 rfl) ?_
  refine kget C h 0 rfl rfl inBX6 0 (Nat.le_of_ble_eq_true rfl) wi_fl_X6_12 rfl dX6_read_13 ?_
  refine lv_iconst (v := 0) hx hb dX6_read_16 (by decide) ?_
  refine kput C h 1 rfl rfl inBX3 tyX3_ok nmX3 1 (Nat.le_of_ble_eq_true rfl) wi_fl_X6_54 rfl rfl rfl (Nat.le_of_ble_eq_true rfl) (cS_TP_1 cy ad u_2 0) dX6_read_17 (fun H locs h => ?_)
  refine lv_aload_n hx hb dX6_read_20 rfl (lv_at hl 1 rfl) ?_
  refine lv_aload_n hx hb dX6_read_21 rfl (lv_at hl 1 rfl) ?_
  refine kget C h 0 rfl rfl inBX6 0 (Nat.le_of_ble_eq_true rfl) wi_fl_X6_12 rfl dX6_read_22 ?_
  refine kget C h 1 rfl rfl inBX3 5 (Nat.le_of_ble_eq_true rfl) wi_fl_X6_73 rfl dX6_read_25 ?_
  refine kput C h 0 rfl rfl inBX6 tyX6_ok nmX6 4 (Nat.le_of_ble_eq_true rfl) wi_fl_X6_76 rfl rfl rfl (Nat.le_of_ble_eq_true rfl) (cS_RT_4 cy ad (sI u_2 5 0) (gI (sI u_2 5 0) 8)) dX6_read_28 (fun H locs h => ?_)
  refine lv_iload_n hx hb dX6_read_31 rfl (lv_at hl 0 rfl) ?_
  refine lv_if_ne (tgt := 45) hx hb dX6_read_32 (by decide) (fun c_32 => ?_) (fun c_32 => ?_)
  · have hw := hw.1 c_32
    refine lv_aload_n hx hb dX6_read_45 rfl (lv_at hl 1 rfl) ?_
    obtain ⟨z_46, hw⟩ := hw
    refine kget C h 0 rfl rfl inBX6 1 (Nat.le_of_ble_eq_true rfl) wi_fl_X6_19 rfl dX6_read_46 ?_
    refine lv_astore_n (lv' := [(2, .ref (aT ad (gZ (sI (sI u_2 5 0) 1 (gI (sI u_2 5 0) 8)) 0))), (1, .int r_1), (0, .ref (ad 0))]) hx hb dX6_read_49 rfl hl (by decide) rfl (fun ls hl => ?_)
    refine lv_aload_n hx hb dX6_read_50 rfl (lv_at hl 2 rfl) ?_
    refine lv_aload_n hx hb dX6_read_51 rfl (lv_at hl 2 rfl) ?_
    obtain ⟨z_52, hw⟩ := hw
    refine kget C h 0 rfl rfl inBX6 2 (Nat.le_of_ble_eq_true rfl) wi_fl_X6_23 rfl dX6_read_52 ?_
    refine kput C h 0 rfl rfl inBX6 tyX6_ok nmX6 1 (Nat.le_of_ble_eq_true rfl) wi_fl_X6_19 rfl rfl rfl (Nat.le_of_ble_eq_true rfl) (cS_RT_1 cy ad (sI (sI u_2 5 0) 1 (gI (sI u_2 5 0) 8)) (gZ (sI (sI u_2 5 0) 1 (gI (sI u_2 5 0) 8)) 1)) dX6_read_55 (fun H locs h => ?_)
    refine lv_aload_n hx hb dX6_read_58 rfl (lv_at hl 2 rfl) ?_
    refine lv_aload_n hx hb dX6_read_59 rfl (lv_at hl 0 rfl) ?_
    refine kput C h 0 rfl rfl inBX6 tyX6_ok nmX6 2 (Nat.le_of_ble_eq_true rfl) wi_fl_X6_23 rfl rfl rfl (Nat.le_of_ble_eq_true rfl) (cS_RT_2 cy ad (sZ (sI (sI u_2 5 0) 1 (gI (sI u_2 5 0) 8)) 0 (gZ (sI (sI u_2 5 0) 1 (gI (sI u_2 5 0) 8)) 1)) (gZ (sI (sI u_2 5 0) 1 (gI (sI u_2 5 0) 8)) 0)) dX6_read_60 (fun H locs h => ?_)
    refine lv_aload_n hx hb dX6_read_63 rfl (lv_at hl 2 rfl) ?_
    refine lv_iconst (v := 1) hx hb dX6_read_64 (by decide) ?_
    refine kput C h 0 rfl rfl inBX6 tyX6_ok nmX6 3 (Nat.le_of_ble_eq_true rfl) wi_fl_X6_82 rfl rfl rfl (Nat.le_of_ble_eq_true rfl) (cS_RT_3 cy ad (sZ (sZ (sI (sI u_2 5 0) 1 (gI (sI u_2 5 0) 8)) 0 (gZ (sI (sI u_2 5 0) 1 (gI (sI u_2 5 0) 8)) 1)) 1 (gZ (sI (sI u_2 5 0) 1 (gI (sI u_2 5 0) 8)) 0)) 1) dX6_read_65 (fun H locs h => ?_)
    refine lv_aload_n hx hb dX6_read_68 rfl (lv_at hl 2 rfl) ?_
    refine kVi (As := []) (rest := []) C h (cwV 0 hts (gd_V wi_ml_X6_86 wi_im_X6_judge wi_se_X6_judge wi_in_X6 wi_co_X6_judge) rfl rfl rfl hd_X6_judge ⟨Nat.le_of_ble_eq_true rfl, Nat.le_of_ble_eq_true rfl⟩) 0 rfl rfl rfl (mX6_judge l D cy ad  _ _ hw) rfl hl.1 rfl (Nat.le_of_ble_eq_true rfl) ⟨Nat.zero_le _, Nat.zero_le _⟩ dX6_read_69 (fun r_3 u_4 H locs hw h => ?_)
    exact kretI C hr hlk h hw dX6_read_72
  · have hw := hw.2 c_32
    refine lv_iconst (v := (-1)) hx hb dX6_read_35 (by decide) ?_
    refine lv_aload_n hx hb dX6_read_36 rfl (lv_at hl 1 rfl) ?_
    refine kget C h 0 rfl rfl inBX6 0 (Nat.le_of_ble_eq_true rfl) wi_fl_X6_12 rfl dX6_read_37 ?_
    refine kget C h 1 rfl rfl inBX3 6 (Nat.le_of_ble_eq_true rfl) wi_fl_X6_79 rfl dX6_read_40 ?_
    refine lv_isub hx hb dX6_read_43 ?_
    exact kretI C hr hlk h hw dX6_read_44

def wX6_fault (u : ST) (Q : Int32 → ST → Prop) : Prop :=
  Q (gI u 1) u
set_option maxHeartbeats 4000000 in
set_option maxRecDepth 100000 in
theorem mX6_fault (l : Launch) (D : va_G) (cy : CY) (ad : Nat → Nat) (u : ST) (sz : Nat) {Q : Int32 → ST → Prop} (hw : wX6_fault  u Q) : Met l yX6_fault (wM yX6_fault cX6_fault 1 (some .int)) (kRm 0) (kPc D (cW cy ad) cy u sz [.ref (ad 0)]) (kQi D (cW cy ad) cy (va_A (cW cy ad u) sz) Q) 0 0 (va_A (cW cy ad u) sz) := by
  refine kMet pn_X6_fault (Nat.le_of_ble_eq_true rfl) (fun p e s m below meth c ls hsz C hr hlk hex h hl => ?_)
  have hl : lv_has ls 1 [(0, .ref (ad 0))] := hl
  obtain ⟨⟨hx, hb, hml, hown, hts⟩, hK, hA⟩ := id C
  unfold wX6_fault at hw
  have h : kH D (cW cy ad) (va_A (cW cy ad u) sz) s u s.heap [] := h
  refine lv_aload_n hx hb dX6_fault_0 rfl (lv_at hl 0 rfl) ?_
  refine kget C h 0 rfl rfl inBX6 4 (Nat.le_of_ble_eq_true rfl) wi_fl_X6_76 rfl dX6_fault_1 ?_
  exact kretI C hr hlk h hw dX6_fault_4
