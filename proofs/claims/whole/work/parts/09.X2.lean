def wX2_clear (t0 : Nat) (u : ST) (Q : ST → Prop) : Prop :=
  Q (sI (sI (sI u (12 + (2 * t0)) 0) (12 + (2 * t0 + 1)) 0) (10 + t0) 0)
set_option maxHeartbeats 4000000 in
set_option maxRecDepth 100000 in
theorem mX2_clear (l : Launch) (D : va_G) (cy : CY) (ad : Nat → Nat) (t0 : Nat) (u : ST) (sz : Nat) {Q : ST → Prop} (f_t0 : t0 < 2) (hw : wX2_clear t0 u Q) : Met l yX2_clear (wM yX2_clear cX2_clear 1 none) (kRm 0) (kPc D (cW cy ad) cy u sz [.ref (aT ad t0)]) (kQv D (cW cy ad) cy (va_A (cW cy ad u) sz) Q) 0 0 (va_A (cW cy ad u) sz) := by
  refine kMet pn_X2_clear (Nat.le_of_ble_eq_true rfl) (fun p e s m below meth c ls hsz C hr hlk hex h hl => ?_)
  have hl : lv_has ls 1 [(0, .ref (aT ad t0))] := hl
  obtain ⟨⟨hx, hb, hml, hown, hts⟩, hK, hA⟩ := id C
  unfold wX2_clear at hw
  have h : kH D (cW cy ad) (va_A (cW cy ad u) sz) s u s.heap [] := h
  refine lv_aload_n hx hb dX2_clear_0 rfl (lv_at hl 0 rfl) ?_
  refine kget C h (2 + t0) (cW_T cy ad u t0 (by omega)) rfl inBX2 0 (Nat.le_of_ble_eq_true rfl) wi_fl_X2_14 rfl dX2_clear_1 ?_
  refine lv_iconst (v := 0) hx hb dX2_clear_4 (by decide) ?_
  refine kput C h (4 + (2 * t0)) (cW_N cy ad u (2 * t0) (by omega)) rfl inBX1 tyX1_ok nmX1 1 (Nat.le_of_ble_eq_true rfl) wi_fl_X2_33 rfl rfl rfl (Nat.le_of_ble_eq_true rfl) (cS_NM_1 cy ad u 0 (2 * t0) (by omega)) dX2_clear_5 (fun H locs h => ?_)
  refine lv_aload_n hx hb dX2_clear_8 rfl (lv_at hl 0 rfl) ?_
  refine kget C h (2 + t0) (cW_T cy ad (sI u (12 + (2 * t0)) 0) t0 (by omega)) rfl inBX2 1 (Nat.le_of_ble_eq_true rfl) wi_fl_X2_20 rfl dX2_clear_9 ?_
  refine lv_iconst (v := 0) hx hb dX2_clear_12 (by decide) ?_
  refine kput C h (4 + (2 * t0 + 1)) (cW_N cy ad (sI u (12 + (2 * t0)) 0) (2 * t0 + 1) (by omega)) rfl inBX1 tyX1_ok nmX1 1 (Nat.le_of_ble_eq_true rfl) wi_fl_X2_33 rfl rfl rfl (Nat.le_of_ble_eq_true rfl) (cS_NM_1 cy ad (sI u (12 + (2 * t0)) 0) 0 (2 * t0 + 1) (by omega)) dX2_clear_13 (fun H locs h => ?_)
  refine lv_aload_n hx hb dX2_clear_16 rfl (lv_at hl 0 rfl) ?_
  refine lv_iconst (v := 0) hx hb dX2_clear_17 (by decide) ?_
  refine kput C h (2 + t0) (cW_T cy ad (sI (sI u (12 + (2 * t0)) 0) (12 + (2 * t0 + 1)) 0) t0 (by omega)) rfl inBX2 tyX2_ok nmX2 5 (Nat.le_of_ble_eq_true rfl) wi_fl_X2_37 rfl rfl rfl (Nat.le_of_ble_eq_true rfl) (cS_TB_5 cy ad (sI (sI u (12 + (2 * t0)) 0) (12 + (2 * t0 + 1)) 0) 0 t0 (by omega)) dX2_clear_18 (fun H locs h => ?_)
  exact kretV C hr hlk h hw dX2_clear_21

def wX2_add (t0 : Nat) (x1 : Int32) (x2 : Int32) (x3 : Int32) (u : ST) (Q : ST → Prop) : Prop :=
  (vp_in (gI u (10 + t0)) 256 ∧ (vp_in (gI (sR u (3 * t0) (gI u (10 + t0)).toNatClampNeg x1) (10 + t0)) 256 ∧ (vp_in (gI (sR (sR u (3 * t0) (gI u (10 + t0)).toNatClampNeg x1) (3 * t0 + 1) (gI (sR u (3 * t0) (gI u (10 + t0)).toNatClampNeg x1) (10 + t0)).toNatClampNeg x2) (10 + t0)) 256 ∧ Q (sI (sR (sR (sR u (3 * t0) (gI u (10 + t0)).toNatClampNeg x1) (3 * t0 + 1) (gI (sR u (3 * t0) (gI u (10 + t0)).toNatClampNeg x1) (10 + t0)).toNatClampNeg x2) (3 * t0 + 2) (gI (sR (sR u (3 * t0) (gI u (10 + t0)).toNatClampNeg x1) (3 * t0 + 1) (gI (sR u (3 * t0) (gI u (10 + t0)).toNatClampNeg x1) (10 + t0)).toNatClampNeg x2) (10 + t0)).toNatClampNeg x3) (10 + t0) ((gI (sR (sR (sR u (3 * t0) (gI u (10 + t0)).toNatClampNeg x1) (3 * t0 + 1) (gI (sR u (3 * t0) (gI u (10 + t0)).toNatClampNeg x1) (10 + t0)).toNatClampNeg x2) (3 * t0 + 2) (gI (sR (sR u (3 * t0) (gI u (10 + t0)).toNatClampNeg x1) (3 * t0 + 1) (gI (sR u (3 * t0) (gI u (10 + t0)).toNatClampNeg x1) (10 + t0)).toNatClampNeg x2) (10 + t0)).toNatClampNeg x3) (10 + t0)) + 1)))))
set_option maxHeartbeats 4000000 in
set_option maxRecDepth 100000 in
theorem mX2_add (l : Launch) (D : va_G) (cy : CY) (ad : Nat → Nat) (t0 : Nat) (x1 : Int32) (x2 : Int32) (x3 : Int32) (u : ST) (sz : Nat) {Q : ST → Prop} (f_t0 : t0 < 2) (hw : wX2_add t0 x1 x2 x3 u Q) : Met l yX2_add (wM yX2_add cX2_add 4 none) (kRm 0) (kPc D (cW cy ad) cy u sz [.ref (aT ad t0), .int x1, .int x2, .int x3]) (kQv D (cW cy ad) cy (va_A (cW cy ad u) sz) Q) 0 0 (va_A (cW cy ad u) sz) := by
  refine kMet pn_X2_add (Nat.le_of_ble_eq_true rfl) (fun p e s m below meth c ls hsz C hr hlk hex h hl => ?_)
  have hl : lv_has ls 4 [(0, .ref (aT ad t0)), (1, .int x1), (2, .int x2), (3, .int x3)] := hl
  obtain ⟨⟨hx, hb, hml, hown, hts⟩, hK, hA⟩ := id C
  unfold wX2_add at hw
  have h : kH D (cW cy ad) (va_A (cW cy ad u) sz) s u s.heap [] := h
  refine lv_aload_n hx hb dX2_add_0 rfl (lv_at hl 0 rfl) ?_
  refine kget C h (2 + t0) (cW_T cy ad u t0 (by omega)) rfl inBX2 2 (Nat.le_of_ble_eq_true rfl) wi_fl_X2_23 rfl dX2_add_1 ?_
  refine lv_aload_n hx hb dX2_add_4 rfl (lv_at hl 0 rfl) ?_
  refine kget C h (2 + t0) (cW_T cy ad u t0 (by omega)) rfl inBX2 5 (Nat.le_of_ble_eq_true rfl) wi_fl_X2_37 rfl dX2_add_5 ?_
  refine lv_iload_n hx hb dX2_add_8 rfl (lv_at hl 1 rfl) ?_
  obtain ⟨i_9, hw⟩ := hw
  refine kiast C h (17 + (3 * t0)) (cW_R cy ad u (3 * t0) (by omega)) (by rw [lenR_256 (by omega)]; exact i_9) (cS_R cy ad u (gI u (10 + t0)).toNatClampNeg x1 (3 * t0) (by omega)) dX2_add_9 (fun H locs h => ?_)
  refine lv_aload_n hx hb dX2_add_10 rfl (lv_at hl 0 rfl) ?_
  refine kget C h (2 + t0) (cW_T cy ad (sR u (3 * t0) (gI u (10 + t0)).toNatClampNeg x1) t0 (by omega)) rfl inBX2 3 (Nat.le_of_ble_eq_true rfl) wi_fl_X2_27 rfl dX2_add_11 ?_
  refine lv_aload_n hx hb dX2_add_14 rfl (lv_at hl 0 rfl) ?_
  refine kget C h (2 + t0) (cW_T cy ad (sR u (3 * t0) (gI u (10 + t0)).toNatClampNeg x1) t0 (by omega)) rfl inBX2 5 (Nat.le_of_ble_eq_true rfl) wi_fl_X2_37 rfl dX2_add_15 ?_
  refine lv_iload_n hx hb dX2_add_18 rfl (lv_at hl 2 rfl) ?_
  obtain ⟨i_19, hw⟩ := hw
  refine kiast C h (17 + (3 * t0 + 1)) (cW_R cy ad (sR u (3 * t0) (gI u (10 + t0)).toNatClampNeg x1) (3 * t0 + 1) (by omega)) (by rw [lenR_256 (by omega)]; exact i_19) (cS_R cy ad (sR u (3 * t0) (gI u (10 + t0)).toNatClampNeg x1) (gI (sR u (3 * t0) (gI u (10 + t0)).toNatClampNeg x1) (10 + t0)).toNatClampNeg x2 (3 * t0 + 1) (by omega)) dX2_add_19 (fun H locs h => ?_)
  refine lv_aload_n hx hb dX2_add_20 rfl (lv_at hl 0 rfl) ?_
  refine kget C h (2 + t0) (cW_T cy ad (sR (sR u (3 * t0) (gI u (10 + t0)).toNatClampNeg x1) (3 * t0 + 1) (gI (sR u (3 * t0) (gI u (10 + t0)).toNatClampNeg x1) (10 + t0)).toNatClampNeg x2) t0 (by omega)) rfl inBX2 4 (Nat.le_of_ble_eq_true rfl) wi_fl_X2_30 rfl dX2_add_21 ?_
  refine lv_aload_n hx hb dX2_add_24 rfl (lv_at hl 0 rfl) ?_
  refine kget C h (2 + t0) (cW_T cy ad (sR (sR u (3 * t0) (gI u (10 + t0)).toNatClampNeg x1) (3 * t0 + 1) (gI (sR u (3 * t0) (gI u (10 + t0)).toNatClampNeg x1) (10 + t0)).toNatClampNeg x2) t0 (by omega)) rfl inBX2 5 (Nat.le_of_ble_eq_true rfl) wi_fl_X2_37 rfl dX2_add_25 ?_
  refine lv_iload_n hx hb dX2_add_28 rfl (lv_at hl 3 rfl) ?_
  obtain ⟨i_29, hw⟩ := hw
  refine kiast C h (17 + (3 * t0 + 2)) (cW_R cy ad (sR (sR u (3 * t0) (gI u (10 + t0)).toNatClampNeg x1) (3 * t0 + 1) (gI (sR u (3 * t0) (gI u (10 + t0)).toNatClampNeg x1) (10 + t0)).toNatClampNeg x2) (3 * t0 + 2) (by omega)) (by rw [lenR_256 (by omega)]; exact i_29) (cS_R cy ad (sR (sR u (3 * t0) (gI u (10 + t0)).toNatClampNeg x1) (3 * t0 + 1) (gI (sR u (3 * t0) (gI u (10 + t0)).toNatClampNeg x1) (10 + t0)).toNatClampNeg x2) (gI (sR (sR u (3 * t0) (gI u (10 + t0)).toNatClampNeg x1) (3 * t0 + 1) (gI (sR u (3 * t0) (gI u (10 + t0)).toNatClampNeg x1) (10 + t0)).toNatClampNeg x2) (10 + t0)).toNatClampNeg x3 (3 * t0 + 2) (by omega)) dX2_add_29 (fun H locs h => ?_)
  refine lv_aload_n hx hb dX2_add_30 rfl (lv_at hl 0 rfl) ?_
  refine lv_dup hx hb dX2_add_31 rfl ?_
  refine kget C h (2 + t0) (cW_T cy ad (sR (sR (sR u (3 * t0) (gI u (10 + t0)).toNatClampNeg x1) (3 * t0 + 1) (gI (sR u (3 * t0) (gI u (10 + t0)).toNatClampNeg x1) (10 + t0)).toNatClampNeg x2) (3 * t0 + 2) (gI (sR (sR u (3 * t0) (gI u (10 + t0)).toNatClampNeg x1) (3 * t0 + 1) (gI (sR u (3 * t0) (gI u (10 + t0)).toNatClampNeg x1) (10 + t0)).toNatClampNeg x2) (10 + t0)).toNatClampNeg x3) t0 (by omega)) rfl inBX2 5 (Nat.le_of_ble_eq_true rfl) wi_fl_X2_37 rfl dX2_add_32 ?_
  refine lv_iconst (v := 1) hx hb dX2_add_35 (by decide) ?_
  refine lv_iadd hx hb dX2_add_36 ?_
  refine kput C h (2 + t0) (cW_T cy ad (sR (sR (sR u (3 * t0) (gI u (10 + t0)).toNatClampNeg x1) (3 * t0 + 1) (gI (sR u (3 * t0) (gI u (10 + t0)).toNatClampNeg x1) (10 + t0)).toNatClampNeg x2) (3 * t0 + 2) (gI (sR (sR u (3 * t0) (gI u (10 + t0)).toNatClampNeg x1) (3 * t0 + 1) (gI (sR u (3 * t0) (gI u (10 + t0)).toNatClampNeg x1) (10 + t0)).toNatClampNeg x2) (10 + t0)).toNatClampNeg x3) t0 (by omega)) rfl inBX2 tyX2_ok nmX2 5 (Nat.le_of_ble_eq_true rfl) wi_fl_X2_37 rfl rfl rfl (Nat.le_of_ble_eq_true rfl) (cS_TB_5 cy ad (sR (sR (sR u (3 * t0) (gI u (10 + t0)).toNatClampNeg x1) (3 * t0 + 1) (gI (sR u (3 * t0) (gI u (10 + t0)).toNatClampNeg x1) (10 + t0)).toNatClampNeg x2) (3 * t0 + 2) (gI (sR (sR u (3 * t0) (gI u (10 + t0)).toNatClampNeg x1) (3 * t0 + 1) (gI (sR u (3 * t0) (gI u (10 + t0)).toNatClampNeg x1) (10 + t0)).toNatClampNeg x2) (10 + t0)).toNatClampNeg x3) ((gI (sR (sR (sR u (3 * t0) (gI u (10 + t0)).toNatClampNeg x1) (3 * t0 + 1) (gI (sR u (3 * t0) (gI u (10 + t0)).toNatClampNeg x1) (10 + t0)).toNatClampNeg x2) (3 * t0 + 2) (gI (sR (sR u (3 * t0) (gI u (10 + t0)).toNatClampNeg x1) (3 * t0 + 1) (gI (sR u (3 * t0) (gI u (10 + t0)).toNatClampNeg x1) (10 + t0)).toNatClampNeg x2) (10 + t0)).toNatClampNeg x3) (10 + t0)) + 1) t0 (by omega)) dX2_add_37 (fun H locs h => ?_)
  exact kretV C hr hlk h hw dX2_add_40

def wX2_caseCount (t0 : Nat) (u : ST) (Q : Int32 → ST → Prop) : Prop :=
  Q (1 <<< ((gI u (12 + (2 * t0))) &&& 31)) u
set_option maxHeartbeats 4000000 in
set_option maxRecDepth 100000 in
theorem mX2_caseCount (l : Launch) (D : va_G) (cy : CY) (ad : Nat → Nat) (t0 : Nat) (u : ST) (sz : Nat) {Q : Int32 → ST → Prop} (f_t0 : t0 < 2) (hw : wX2_caseCount t0 u Q) : Met l yX2_caseCount (wM yX2_caseCount cX2_caseCount 1 (some .int)) (kRm 0) (kPc D (cW cy ad) cy u sz [.ref (aT ad t0)]) (kQi D (cW cy ad) cy (va_A (cW cy ad u) sz) Q) 0 0 (va_A (cW cy ad u) sz) := by
  refine kMet pn_X2_caseCount (Nat.le_of_ble_eq_true rfl) (fun p e s m below meth c ls hsz C hr hlk hex h hl => ?_)
  have hl : lv_has ls 1 [(0, .ref (aT ad t0))] := hl
  obtain ⟨⟨hx, hb, hml, hown, hts⟩, hK, hA⟩ := id C
  unfold wX2_caseCount at hw
  have h : kH D (cW cy ad) (va_A (cW cy ad u) sz) s u s.heap [] := h
  refine lv_iconst (v := 1) hx hb dX2_caseCount_0 (by decide) ?_
  refine lv_aload_n hx hb dX2_caseCount_1 rfl (lv_at hl 0 rfl) ?_
  refine kget C h (2 + t0) (cW_T cy ad u t0 (by omega)) rfl inBX2 0 (Nat.le_of_ble_eq_true rfl) wi_fl_X2_14 rfl dX2_caseCount_2 ?_
  refine kget C h (4 + (2 * t0)) (cW_N cy ad u (2 * t0) (by omega)) rfl inBX1 1 (Nat.le_of_ble_eq_true rfl) wi_fl_X2_33 rfl dX2_caseCount_5 ?_
  refine lv_ishl hx hb dX2_caseCount_8 ?_
  exact kretI C hr hlk h hw dX2_caseCount_9

def wX2_markOf (t0 : Nat) (x1 : Int32) (x2 : Int32) (u : ST) (Q : Int32 → ST → Prop) : Prop :=
  (vp_in x1 256 ∧ ((((gR u (3 * t0) x1.toNatClampNeg) &&& x2) = 0 → (vp_in x1 256 ∧ ((((gR u (3 * t0 + 1) x1.toNatClampNeg) &&& x2) = 0 → Q 2 u) ∧ (¬ ((gR u (3 * t0 + 1) x1.toNatClampNeg) &&& x2) = 0 → Q 0 u)))) ∧ (¬ ((gR u (3 * t0) x1.toNatClampNeg) &&& x2) = 0 → Q 1 u)))
set_option maxHeartbeats 4000000 in
set_option maxRecDepth 100000 in
theorem mX2_markOf (l : Launch) (D : va_G) (cy : CY) (ad : Nat → Nat) (t0 : Nat) (x1 : Int32) (x2 : Int32) (u : ST) (sz : Nat) {Q : Int32 → ST → Prop} (f_t0 : t0 < 2) (hw : wX2_markOf t0 x1 x2 u Q) : Met l yX2_markOf (wM yX2_markOf cX2_markOf 3 (some .int)) (kRm 0) (kPc D (cW cy ad) cy u sz [.ref (aT ad t0), .int x1, .int x2]) (kQi D (cW cy ad) cy (va_A (cW cy ad u) sz) Q) 0 0 (va_A (cW cy ad u) sz) := by
  refine kMet pn_X2_markOf (Nat.le_of_ble_eq_true rfl) (fun p e s m below meth c ls hsz C hr hlk hex h hl => ?_)
  have hl : lv_has ls 3 [(0, .ref (aT ad t0)), (1, .int x1), (2, .int x2)] := hl
  obtain ⟨⟨hx, hb, hml, hown, hts⟩, hK, hA⟩ := id C
  unfold wX2_markOf at hw
  have h : kH D (cW cy ad) (va_A (cW cy ad u) sz) s u s.heap [] := h
  refine lv_aload_n hx hb dX2_markOf_0 rfl (lv_at hl 0 rfl) ?_
  refine kget C h (2 + t0) (cW_T cy ad u t0 (by omega)) rfl inBX2 2 (Nat.le_of_ble_eq_true rfl) wi_fl_X2_23 rfl dX2_markOf_1 ?_
  refine lv_iload_n hx hb dX2_markOf_4 rfl (lv_at hl 1 rfl) ?_
  obtain ⟨i_5, hw⟩ := hw
  refine kiald C h (17 + (3 * t0)) (cW_R cy ad u (3 * t0) (by omega)) (by rw [lenR_256 (by omega)]; exact i_5) dX2_markOf_5 ?_
  refine lv_iload_n hx hb dX2_markOf_6 rfl (lv_at hl 2 rfl) ?_
  refine lv_iand hx hb dX2_markOf_7 ?_
  refine lv_if_eq (tgt := 13) hx hb dX2_markOf_8 (by decide) (fun c_8 => ?_) (fun c_8 => ?_)
  · have hw := hw.1 c_8
    refine lv_aload_n hx hb dX2_markOf_13 rfl (lv_at hl 0 rfl) ?_
    refine kget C h (2 + t0) (cW_T cy ad u t0 (by omega)) rfl inBX2 3 (Nat.le_of_ble_eq_true rfl) wi_fl_X2_27 rfl dX2_markOf_14 ?_
    refine lv_iload_n hx hb dX2_markOf_17 rfl (lv_at hl 1 rfl) ?_
    obtain ⟨i_18, hw⟩ := hw
    refine kiald C h (17 + (3 * t0 + 1)) (cW_R cy ad u (3 * t0 + 1) (by omega)) (by rw [lenR_256 (by omega)]; exact i_18) dX2_markOf_18 ?_
    refine lv_iload_n hx hb dX2_markOf_19 rfl (lv_at hl 2 rfl) ?_
    refine lv_iand hx hb dX2_markOf_20 ?_
    refine lv_if_eq (tgt := 28) hx hb dX2_markOf_21 (by decide) (fun c_21 => ?_) (fun c_21 => ?_)
    · have hw := hw.1 c_21
      refine lv_iconst (v := 2) hx hb dX2_markOf_28 (by decide) ?_
      exact kretI C hr hlk h hw dX2_markOf_29
    · have hw := hw.2 c_21
      refine lv_iconst (v := 0) hx hb dX2_markOf_24 (by decide) ?_
      refine lv_goto (tgt := 29) hx hb dX2_markOf_25 (by decide) ?_
      exact kretI C hr hlk h hw dX2_markOf_29
  · have hw := hw.2 c_8
    refine lv_iconst (v := 1) hx hb dX2_markOf_11 (by decide) ?_
    exact kretI C hr hlk h hw dX2_markOf_12

def wX2_firstThatMeets_b40 (K2 : Nat → Int32 → Int32 → ST → Prop) (Q : Int32 → ST → Prop) (t0 : Nat) (x1 : Int32) (x2 : Int32) (u : ST) : Prop :=
  K2 t0 x1 (x2 + 1) u
set_option maxHeartbeats 4000000 in
set_option maxRecDepth 100000 in
theorem kX2_firstThatMeets_b40 {p : Program} {l : Launch} {e : Env} {s : State} {m : MethodId} {args : Array Value} {below : List Frame} {meth : Method} {c : Code} {D : va_G} {cy : CY} {A : Nat → Prop} {ad : Nat → Nat} {K2 : Nat → Int32 → Int32 → ST → Prop} {Q : Int32 → ST → Prop} (C : kC p m c cX2_firstThatMeets 3 s args RX2 D cy A) (hr : meth.sig.returnType = some .int) (hlk : meth.locks = false) (g2 : ∀ (t0 : Nat) (x1 : Int32) (x2 : Int32) (u : ST) (H : Heap) (locs : List Loc) (ls : Array Slot), K2 t0 x1 x2 u → t0 < 2 → kH D (cW cy ad) A s u H locs → lv_has ls 3 [(0, .ref (aT ad t0)), (1, .int x1), (2, .int x2)] → W p l e (kRm 0) s m args below meth c H locs 0 0 (MQ below (kQi D (cW cy ad) cy A Q) args s 0 0 A) (F0 m 2 ls [])) : ∀ (t0 : Nat) (x1 : Int32) (x2 : Int32) (u : ST) (H : Heap) (locs : List Loc) (ls : Array Slot), wX2_firstThatMeets_b40 K2 Q t0 x1 x2 u → t0 < 2 → kH D (cW cy ad) A s u H locs → lv_has ls 3 [(0, .ref (aT ad t0)), (1, .int x1), (2, .int x2)] → W p l e (kRm 0) s m args below meth c H locs 0 0 (MQ below (kQi D (cW cy ad) cy A Q) args s 0 0 A) (F0 m 40 ls []) := by
  intro t0 x1 x2 u H locs ls hw f_t0 h hl
  obtain ⟨⟨hx, hb, hml, hown, hts⟩, hK, hA⟩ := id C
  unfold wX2_firstThatMeets_b40 at hw
  refine lv_iinc (v := x2 + 1) (lv' := [(2, .int (x2 + 1)), (0, .ref (aT ad t0)), (1, .int x1)]) hx hb dX2_firstThatMeets_40 hl (k := 2) rfl rfl (by decide) rfl (fun ls hl => ?_)
  refine lv_goto (tgt := 2) hx hb dX2_firstThatMeets_43 (by decide) ?_
  exact g2 t0 x1 (x2 + 1) _ _ _ _ hw (by omega) h (lv_sub hl [1, 2, 0] rfl)
def wX2_firstThatMeets_B2 (K2 : Nat → Int32 → Int32 → ST → Prop) (Q : Int32 → ST → Prop) (t0 : Nat) (x1 : Int32) (x2 : Int32) (u : ST) : Prop :=
  (((gI u (10 + t0)) ≤ x2 → Q (-1) u) ∧ (¬ (gI u (10 + t0)) ≤ x2 → (vp_in x2 256 ∧ (vp_in x2 256 ∧ ((¬ (x1 &&& (gR u (3 * t0) x2.toNatClampNeg)) = (gR u (3 * t0) x2.toNatClampNeg) → wX2_firstThatMeets_b40 K2 Q t0 x1 x2 u) ∧ ((x1 &&& (gR u (3 * t0) x2.toNatClampNeg)) = (gR u (3 * t0) x2.toNatClampNeg) → (vp_in x2 256 ∧ ((¬ (x1 &&& (gR u (3 * t0 + 1) x2.toNatClampNeg)) = 0 → wX2_firstThatMeets_b40 K2 Q t0 x1 x2 u) ∧ ((x1 &&& (gR u (3 * t0 + 1) x2.toNatClampNeg)) = 0 → Q x2 u)))))))))
set_option maxHeartbeats 4000000 in
set_option maxRecDepth 100000 in
theorem kX2_firstThatMeets_B2 {p : Program} {l : Launch} {e : Env} {s : State} {m : MethodId} {args : Array Value} {below : List Frame} {meth : Method} {c : Code} {D : va_G} {cy : CY} {A : Nat → Prop} {ad : Nat → Nat} {K2 : Nat → Int32 → Int32 → ST → Prop} {Q : Int32 → ST → Prop} (C : kC p m c cX2_firstThatMeets 3 s args RX2 D cy A) (hr : meth.sig.returnType = some .int) (hlk : meth.locks = false) (g2 : ∀ (t0 : Nat) (x1 : Int32) (x2 : Int32) (u : ST) (H : Heap) (locs : List Loc) (ls : Array Slot), K2 t0 x1 x2 u → t0 < 2 → kH D (cW cy ad) A s u H locs → lv_has ls 3 [(0, .ref (aT ad t0)), (1, .int x1), (2, .int x2)] → W p l e (kRm 0) s m args below meth c H locs 0 0 (MQ below (kQi D (cW cy ad) cy A Q) args s 0 0 A) (F0 m 2 ls [])) : ∀ (t0 : Nat) (x1 : Int32) (x2 : Int32) (u : ST) (H : Heap) (locs : List Loc) (ls : Array Slot), wX2_firstThatMeets_B2 K2 Q t0 x1 x2 u → t0 < 2 → kH D (cW cy ad) A s u H locs → lv_has ls 3 [(0, .ref (aT ad t0)), (1, .int x1), (2, .int x2)] → W p l e (kRm 0) s m args below meth c H locs 0 0 (MQ below (kQi D (cW cy ad) cy A Q) args s 0 0 A) (F0 m 2 ls []) := by
  intro t0 x1 x2 u H locs ls hw f_t0 h hl
  obtain ⟨⟨hx, hb, hml, hown, hts⟩, hK, hA⟩ := id C
  unfold wX2_firstThatMeets_B2 at hw
  refine lv_iload_n hx hb dX2_firstThatMeets_2 rfl (lv_at hl 2 rfl) ?_
  refine lv_aload_n hx hb dX2_firstThatMeets_3 rfl (lv_at hl 0 rfl) ?_
  refine kget C h (2 + t0) (cW_T cy ad u t0 (by omega)) rfl inBX2 5 (Nat.le_of_ble_eq_true rfl) wi_fl_X2_37 rfl dX2_firstThatMeets_4 ?_
  refine lv_icmp_ge (tgt := 46) hx hb dX2_firstThatMeets_7 (by decide) (fun c_7 => ?_) (fun c_7 => ?_)
  · have hw := hw.1 c_7
    refine lv_iconst (v := (-1)) hx hb dX2_firstThatMeets_46 (by decide) ?_
    exact kretI C hr hlk h hw dX2_firstThatMeets_47
  · have hw := hw.2 c_7
    refine lv_iload_n hx hb dX2_firstThatMeets_10 rfl (lv_at hl 1 rfl) ?_
    refine lv_aload_n hx hb dX2_firstThatMeets_11 rfl (lv_at hl 0 rfl) ?_
    refine kget C h (2 + t0) (cW_T cy ad u t0 (by omega)) rfl inBX2 2 (Nat.le_of_ble_eq_true rfl) wi_fl_X2_23 rfl dX2_firstThatMeets_12 ?_
    refine lv_iload_n hx hb dX2_firstThatMeets_15 rfl (lv_at hl 2 rfl) ?_
    obtain ⟨i_16, hw⟩ := hw
    refine kiald C h (17 + (3 * t0)) (cW_R cy ad u (3 * t0) (by omega)) (by rw [lenR_256 (by omega)]; exact i_16) dX2_firstThatMeets_16 ?_
    refine lv_iand hx hb dX2_firstThatMeets_17 ?_
    refine lv_aload_n hx hb dX2_firstThatMeets_18 rfl (lv_at hl 0 rfl) ?_
    refine kget C h (2 + t0) (cW_T cy ad u t0 (by omega)) rfl inBX2 2 (Nat.le_of_ble_eq_true rfl) wi_fl_X2_23 rfl dX2_firstThatMeets_19 ?_
    refine lv_iload_n hx hb dX2_firstThatMeets_22 rfl (lv_at hl 2 rfl) ?_
    obtain ⟨i_23, hw⟩ := hw
    refine kiald C h (17 + (3 * t0)) (cW_R cy ad u (3 * t0) (by omega)) (by rw [lenR_256 (by omega)]; exact i_23) dX2_firstThatMeets_23 ?_
    refine lv_icmp_ne (tgt := 40) hx hb dX2_firstThatMeets_24 (by decide) (fun c_24 => ?_) (fun c_24 => ?_)
    · have hw := hw.1 c_24
      exact kX2_firstThatMeets_b40 C hr hlk g2 t0 x1 x2 _ _ _ _ hw (by omega) h (lv_sub hl [0, 1, 2] rfl)
    · have hw := hw.2 c_24
      refine lv_iload_n hx hb dX2_firstThatMeets_27 rfl (lv_at hl 1 rfl) ?_
      refine lv_aload_n hx hb dX2_firstThatMeets_28 rfl (lv_at hl 0 rfl) ?_
      refine kget C h (2 + t0) (cW_T cy ad u t0 (by omega)) rfl inBX2 3 (Nat.le_of_ble_eq_true rfl) wi_fl_X2_27 rfl dX2_firstThatMeets_29 ?_
      refine lv_iload_n hx hb dX2_firstThatMeets_32 rfl (lv_at hl 2 rfl) ?_
      obtain ⟨i_33, hw⟩ := hw
      refine kiald C h (17 + (3 * t0 + 1)) (cW_R cy ad u (3 * t0 + 1) (by omega)) (by rw [lenR_256 (by omega)]; exact i_33) dX2_firstThatMeets_33 ?_
      refine lv_iand hx hb dX2_firstThatMeets_34 ?_
      refine lv_if_ne (tgt := 40) hx hb dX2_firstThatMeets_35 (by decide) (fun c_35 => ?_) (fun c_35 => ?_)
      · have hw := hw.1 c_35
        exact kX2_firstThatMeets_b40 C hr hlk g2 t0 x1 x2 _ _ _ _ hw (by omega) h (lv_sub hl [0, 1, 2] rfl)
      · have hw := hw.2 c_35
        refine lv_iload_n hx hb dX2_firstThatMeets_38 rfl (lv_at hl 2 rfl) ?_
        exact kretI C hr hlk h hw dX2_firstThatMeets_39
def wX2_firstThatMeets_L2 (Q : Int32 → ST → Prop) : Nat → Nat → Int32 → Int32 → ST → Prop
  | 0, _, _, _, _ => False
  | n + 1, t0, x1, x2, u => wX2_firstThatMeets_B2 (wX2_firstThatMeets_L2 Q n) Q t0 x1 x2 u
set_option maxHeartbeats 4000000 in
theorem kX2_firstThatMeets_L2 {p : Program} {l : Launch} {e : Env} {s : State} {m : MethodId} {args : Array Value} {below : List Frame} {meth : Method} {c : Code} {D : va_G} {cy : CY} {A : Nat → Prop} {ad : Nat → Nat} {Q : Int32 → ST → Prop} (C : kC p m c cX2_firstThatMeets 3 s args RX2 D cy A) (hr : meth.sig.returnType = some .int) (hlk : meth.locks = false) : ∀ n : Nat, ∀ (t0 : Nat) (x1 : Int32) (x2 : Int32) (u : ST) (H : Heap) (locs : List Loc) (ls : Array Slot), wX2_firstThatMeets_L2 Q n t0 x1 x2 u → t0 < 2 → kH D (cW cy ad) A s u H locs → lv_has ls 3 [(0, .ref (aT ad t0)), (1, .int x1), (2, .int x2)] → W p l e (kRm 0) s m args below meth c H locs 0 0 (MQ below (kQi D (cW cy ad) cy A Q) args s 0 0 A) (F0 m 2 ls []) := by
  intro n
  induction n with
  | zero => intro t0 x1 x2 u H locs ls hw; exact False.elim hw
  | succ n ih => exact kX2_firstThatMeets_B2 C hr hlk ih
def wX2_firstThatMeets (t0 : Nat) (x1 : Int32) (u : ST) (Q : Int32 → ST → Prop) : Prop :=
  (∃ n : Nat, wX2_firstThatMeets_L2 Q n t0 x1 0 u)
set_option maxHeartbeats 4000000 in
set_option maxRecDepth 100000 in
theorem mX2_firstThatMeets (l : Launch) (D : va_G) (cy : CY) (ad : Nat → Nat) (t0 : Nat) (x1 : Int32) (u : ST) (sz : Nat) {Q : Int32 → ST → Prop} (f_t0 : t0 < 2) (hw : wX2_firstThatMeets t0 x1 u Q) : Met l yX2_firstThatMeets (wM yX2_firstThatMeets cX2_firstThatMeets 3 (some .int)) (kRm 0) (kPc D (cW cy ad) cy u sz [.ref (aT ad t0), .int x1]) (kQi D (cW cy ad) cy (va_A (cW cy ad u) sz) Q) 0 0 (va_A (cW cy ad u) sz) := by
  refine kMet pn_X2_firstThatMeets (Nat.le_of_ble_eq_true rfl) (fun p e s m below meth c ls hsz C hr hlk hex h hl => ?_)
  have hl : lv_has ls 3 [(0, .ref (aT ad t0)), (1, .int x1)] := hl
  obtain ⟨⟨hx, hb, hml, hown, hts⟩, hK, hA⟩ := id C
  unfold wX2_firstThatMeets at hw
  have h : kH D (cW cy ad) (va_A (cW cy ad u) sz) s u s.heap [] := h
  refine lv_iconst (v := 0) hx hb dX2_firstThatMeets_0 (by decide) ?_
  refine lv_istore_n (lv' := [(2, .int 0), (0, .ref (aT ad t0)), (1, .int x1)]) hx hb dX2_firstThatMeets_1 rfl hl (by decide) rfl (fun ls hl => ?_)
  obtain ⟨n, hw⟩ := hw
  exact kX2_firstThatMeets_L2 C hr hlk n t0 x1 0 _ _ _ _ hw (by omega) h (lv_sub hl [1, 2, 0] rfl)

def wX2_contradict (t0 : Nat) (x1 : Int32) (x2 : Int32) (u : ST) (Q : Int32 → ST → Prop) : Prop :=
  (vp_in x1 256 ∧ (vp_in x2 256 ∧ (((gR u (3 * t0 + 2) x1.toNatClampNeg) = (gR u (3 * t0 + 2) x2.toNatClampNeg) → Q 0 u) ∧ (¬ (gR u (3 * t0 + 2) x1.toNatClampNeg) = (gR u (3 * t0 + 2) x2.toNatClampNeg) → (vp_in x1 256 ∧ (vp_in x2 256 ∧ ((¬ ((gR u (3 * t0) x1.toNatClampNeg) &&& (gR u (3 * t0 + 1) x2.toNatClampNeg)) = 0 → Q 0 u) ∧ (((gR u (3 * t0) x1.toNatClampNeg) &&& (gR u (3 * t0 + 1) x2.toNatClampNeg)) = 0 → (vp_in x1 256 ∧ (vp_in x2 256 ∧ ((¬ ((gR u (3 * t0 + 1) x1.toNatClampNeg) &&& (gR u (3 * t0) x2.toNatClampNeg)) = 0 → Q 0 u) ∧ (((gR u (3 * t0 + 1) x1.toNatClampNeg) &&& (gR u (3 * t0) x2.toNatClampNeg)) = 0 → Q 1 u))))))))))))
set_option maxHeartbeats 4000000 in
set_option maxRecDepth 100000 in
theorem mX2_contradict (l : Launch) (D : va_G) (cy : CY) (ad : Nat → Nat) (t0 : Nat) (x1 : Int32) (x2 : Int32) (u : ST) (sz : Nat) {Q : Int32 → ST → Prop} (f_t0 : t0 < 2) (hw : wX2_contradict t0 x1 x2 u Q) : Met l yX2_contradict (wM yX2_contradict cX2_contradict 3 (some .boolean)) (kRm 0) (kPc D (cW cy ad) cy u sz [.ref (aT ad t0), .int x1, .int x2]) (kQi D (cW cy ad) cy (va_A (cW cy ad u) sz) Q) 0 0 (va_A (cW cy ad u) sz) := by
  refine kMet pn_X2_contradict (Nat.le_of_ble_eq_true rfl) (fun p e s m below meth c ls hsz C hr hlk hex h hl => ?_)
  have hl : lv_has ls 3 [(0, .ref (aT ad t0)), (1, .int x1), (2, .int x2)] := hl
  obtain ⟨⟨hx, hb, hml, hown, hts⟩, hK, hA⟩ := id C
  unfold wX2_contradict at hw
  have h : kH D (cW cy ad) (va_A (cW cy ad u) sz) s u s.heap [] := h
  refine lv_aload_n hx hb dX2_contradict_0 rfl (lv_at hl 0 rfl) ?_
  refine kget C h (2 + t0) (cW_T cy ad u t0 (by omega)) rfl inBX2 4 (Nat.le_of_ble_eq_true rfl) wi_fl_X2_30 rfl dX2_contradict_1 ?_
  refine lv_iload_n hx hb dX2_contradict_4 rfl (lv_at hl 1 rfl) ?_
  obtain ⟨i_5, hw⟩ := hw
  refine kiald C h (17 + (3 * t0 + 2)) (cW_R cy ad u (3 * t0 + 2) (by omega)) (by rw [lenR_256 (by omega)]; exact i_5) dX2_contradict_5 ?_
  refine lv_aload_n hx hb dX2_contradict_6 rfl (lv_at hl 0 rfl) ?_
  refine kget C h (2 + t0) (cW_T cy ad u t0 (by omega)) rfl inBX2 4 (Nat.le_of_ble_eq_true rfl) wi_fl_X2_30 rfl dX2_contradict_7 ?_
  refine lv_iload_n hx hb dX2_contradict_10 rfl (lv_at hl 2 rfl) ?_
  obtain ⟨i_11, hw⟩ := hw
  refine kiald C h (17 + (3 * t0 + 2)) (cW_R cy ad u (3 * t0 + 2) (by omega)) (by rw [lenR_256 (by omega)]; exact i_11) dX2_contradict_11 ?_
  refine lv_icmp_eq (tgt := 51) hx hb dX2_contradict_12 (by decide) (fun c_12 => ?_) (fun c_12 => ?_)
  · have hw := hw.1 c_12
    refine lv_iconst (v := 0) hx hb dX2_contradict_51 (by decide) ?_
    exact kretZ C hr hlk h (Or.inl rfl) hw dX2_contradict_52
  · have hw := hw.2 c_12
    refine lv_aload_n hx hb dX2_contradict_15 rfl (lv_at hl 0 rfl) ?_
    refine kget C h (2 + t0) (cW_T cy ad u t0 (by omega)) rfl inBX2 2 (Nat.le_of_ble_eq_true rfl) wi_fl_X2_23 rfl dX2_contradict_16 ?_
    refine lv_iload_n hx hb dX2_contradict_19 rfl (lv_at hl 1 rfl) ?_
    obtain ⟨i_20, hw⟩ := hw
    refine kiald C h (17 + (3 * t0)) (cW_R cy ad u (3 * t0) (by omega)) (by rw [lenR_256 (by omega)]; exact i_20) dX2_contradict_20 ?_
    refine lv_aload_n hx hb dX2_contradict_21 rfl (lv_at hl 0 rfl) ?_
    refine kget C h (2 + t0) (cW_T cy ad u t0 (by omega)) rfl inBX2 3 (Nat.le_of_ble_eq_true rfl) wi_fl_X2_27 rfl dX2_contradict_22 ?_
    refine lv_iload_n hx hb dX2_contradict_25 rfl (lv_at hl 2 rfl) ?_
    obtain ⟨i_26, hw⟩ := hw
    refine kiald C h (17 + (3 * t0 + 1)) (cW_R cy ad u (3 * t0 + 1) (by omega)) (by rw [lenR_256 (by omega)]; exact i_26) dX2_contradict_26 ?_
    refine lv_iand hx hb dX2_contradict_27 ?_
    refine lv_if_ne (tgt := 51) hx hb dX2_contradict_28 (by decide) (fun c_28 => ?_) (fun c_28 => ?_)
    · have hw := hw.1 c_28
      refine lv_iconst (v := 0) hx hb dX2_contradict_51 (by decide) ?_
      exact kretZ C hr hlk h (Or.inl rfl) hw dX2_contradict_52
    · have hw := hw.2 c_28
      refine lv_aload_n hx hb dX2_contradict_31 rfl (lv_at hl 0 rfl) ?_
      refine kget C h (2 + t0) (cW_T cy ad u t0 (by omega)) rfl inBX2 3 (Nat.le_of_ble_eq_true rfl) wi_fl_X2_27 rfl dX2_contradict_32 ?_
      refine lv_iload_n hx hb dX2_contradict_35 rfl (lv_at hl 1 rfl) ?_
      obtain ⟨i_36, hw⟩ := hw
      refine kiald C h (17 + (3 * t0 + 1)) (cW_R cy ad u (3 * t0 + 1) (by omega)) (by rw [lenR_256 (by omega)]; exact i_36) dX2_contradict_36 ?_
      refine lv_aload_n hx hb dX2_contradict_37 rfl (lv_at hl 0 rfl) ?_
      refine kget C h (2 + t0) (cW_T cy ad u t0 (by omega)) rfl inBX2 2 (Nat.le_of_ble_eq_true rfl) wi_fl_X2_23 rfl dX2_contradict_38 ?_
      refine lv_iload_n hx hb dX2_contradict_41 rfl (lv_at hl 2 rfl) ?_
      obtain ⟨i_42, hw⟩ := hw
      refine kiald C h (17 + (3 * t0)) (cW_R cy ad u (3 * t0) (by omega)) (by rw [lenR_256 (by omega)]; exact i_42) dX2_contradict_42 ?_
      refine lv_iand hx hb dX2_contradict_43 ?_
      refine lv_if_ne (tgt := 51) hx hb dX2_contradict_44 (by decide) (fun c_44 => ?_) (fun c_44 => ?_)
      · have hw := hw.1 c_44
        refine lv_iconst (v := 0) hx hb dX2_contradict_51 (by decide) ?_
        exact kretZ C hr hlk h (Or.inl rfl) hw dX2_contradict_52
      · have hw := hw.2 c_44
        refine lv_iconst (v := 1) hx hb dX2_contradict_47 (by decide) ?_
        refine lv_goto (tgt := 52) hx hb dX2_contradict_48 (by decide) ?_
        exact kretZ C hr hlk h (Or.inr rfl) hw dX2_contradict_52
