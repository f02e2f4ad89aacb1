def wX4_clear (u : ST) (Q : ST → Prop) : Prop :=
  Q (sI (sJ (sI (sI (sI u 17 0) 18 0) 19 0) 1 0) 20 0)
set_option maxHeartbeats 4000000 in
set_option maxRecDepth 100000 in
theorem mX4_clear (l : Launch) (D : va_G) (cy : CY) (ad : Nat → Nat) (u : ST) (sz : Nat) {Q : ST → Prop} (hw : wX4_clear  u Q) : Met l yX4_clear (wM yX4_clear cX4_clear 1 none) (kRm 0) (kPc D (cW cy ad) cy u sz [.ref (ad 9)]) (kQv D (cW cy ad) cy (va_A (cW cy ad u) sz) Q) 0 0 (va_A (cW cy ad u) sz) := by
  refine kMet pn_X4_clear (Nat.le_of_ble_eq_true rfl) (fun p e s m below meth c ls hsz C hr hlk hex h hl => ?_)
  have hl : lv_has ls 1 [(0, .ref (ad 9))] := hl
  obtain ⟨⟨hx, hb, hml, hown, hts⟩, hK, hA⟩ := id C
  unfold wX4_clear at hw
  have h : kH D (cW cy ad) (va_A (cW cy ad u) sz) s u s.heap [] := h
  refine lv_aload_n hx hb dX4_clear_0 rfl (lv_at hl 0 rfl) ?_
  refine lv_iconst (v := 0) hx hb dX4_clear_1 (by decide) ?_
  refine kput C h 9 rfl rfl inBX4 tyX4_ok nmX4 2 (Nat.le_of_ble_eq_true rfl) wi_fl_X4_18 rfl rfl rfl (Nat.le_of_ble_eq_true rfl) (cS_TR_2 cy ad u 0) dX4_clear_2 (fun H locs h => ?_)
  refine lv_aload_n hx hb dX4_clear_5 rfl (lv_at hl 0 rfl) ?_
  refine lv_iconst (v := 0) hx hb dX4_clear_6 (by decide) ?_
  refine kput C h 9 rfl rfl inBX4 tyX4_ok nmX4 3 (Nat.le_of_ble_eq_true rfl) wi_fl_X4_22 rfl rfl rfl (Nat.le_of_ble_eq_true rfl) (cS_TR_3 cy ad (sI u 17 0) 0) dX4_clear_7 (fun H locs h => ?_)
  refine lv_aload_n hx hb dX4_clear_10 rfl (lv_at hl 0 rfl) ?_
  refine lv_iconst (v := 0) hx hb dX4_clear_11 (by decide) ?_
  refine kput C h 9 rfl rfl inBX4 tyX4_ok nmX4 4 (Nat.le_of_ble_eq_true rfl) wi_fl_X4_25 rfl rfl rfl (Nat.le_of_ble_eq_true rfl) (cS_TR_4 cy ad (sI (sI u 17 0) 18 0) 0) dX4_clear_12 (fun H locs h => ?_)
  refine lv_aload_n hx hb dX4_clear_15 rfl (lv_at hl 0 rfl) ?_
  refine lv_lconst (v := 0) hx hb dX4_clear_16 rfl ?_
  refine kput C h 9 rfl rfl inBX4 tyX4_ok nmX4 5 (Nat.le_of_ble_eq_true rfl) wi_fl_X4_28 rfl rfl rfl (Nat.le_of_ble_eq_true rfl) (cS_TR_5 cy ad (sI (sI (sI u 17 0) 18 0) 19 0) 0) dX4_clear_17 (fun H locs h => ?_)
  refine lv_aload_n hx hb dX4_clear_20 rfl (lv_at hl 0 rfl) ?_
  refine lv_iconst (v := 0) hx hb dX4_clear_21 (by decide) ?_
  refine kput C h 9 rfl rfl inBX4 tyX4_ok nmX4 6 (Nat.le_of_ble_eq_true rfl) wi_fl_X4_32 rfl rfl rfl (Nat.le_of_ble_eq_true rfl) (cS_TR_6 cy ad (sJ (sI (sI (sI u 17 0) 18 0) 19 0) 1 0) 0) dX4_clear_22 (fun H locs h => ?_)
  exact kretV C hr hlk h hw dX4_clear_25

def wX4_isLeaf (x1 : Int32) (u : ST) (Q : Int32 → ST → Prop) : Prop :=
  (vp_in x1 1000 ∧ ((¬ (gR u 13 x1.toNatClampNeg) = (-1) → Q 0 u) ∧ ((gR u 13 x1.toNatClampNeg) = (-1) → Q 1 u)))
set_option maxHeartbeats 4000000 in
set_option maxRecDepth 100000 in
theorem mX4_isLeaf (l : Launch) (D : va_G) (cy : CY) (ad : Nat → Nat) (x1 : Int32) (u : ST) (sz : Nat) {Q : Int32 → ST → Prop} (hw : wX4_isLeaf x1 u Q) : Met l yX4_isLeaf (wM yX4_isLeaf cX4_isLeaf 2 (some .boolean)) (kRm 0) (kPc D (cW cy ad) cy u sz [.ref (ad 9), .int x1]) (kQi D (cW cy ad) cy (va_A (cW cy ad u) sz) Q) 0 0 (va_A (cW cy ad u) sz) := by
  refine kMet pn_X4_isLeaf (Nat.le_of_ble_eq_true rfl) (fun p e s m below meth c ls hsz C hr hlk hex h hl => ?_)
  have hl : lv_has ls 2 [(0, .ref (ad 9)), (1, .int x1)] := hl
  obtain ⟨⟨hx, hb, hml, hown, hts⟩, hK, hA⟩ := id C
  unfold wX4_isLeaf at hw
  have h : kH D (cW cy ad) (va_A (cW cy ad u) sz) s u s.heap [] := h
  refine lv_aload_n hx hb dX4_isLeaf_0 rfl (lv_at hl 0 rfl) ?_
  refine kget C h 9 rfl rfl inBX4 1 (Nat.le_of_ble_eq_true rfl) wi_fl_X4_15 rfl dX4_isLeaf_1 ?_
  refine lv_iload_n hx hb dX4_isLeaf_4 rfl (lv_at hl 1 rfl) ?_
  obtain ⟨i_5, hw⟩ := hw
  refine kiald C h 30 rfl i_5 dX4_isLeaf_5 ?_
  refine lv_iconst (v := (-1)) hx hb dX4_isLeaf_6 (by decide) ?_
  refine lv_icmp_ne (tgt := 14) hx hb dX4_isLeaf_7 (by decide) (fun c_7 => ?_) (fun c_7 => ?_)
  · have hw := hw.1 c_7
    refine lv_iconst (v := 0) hx hb dX4_isLeaf_14 (by decide) ?_
    exact kretZ C hr hlk h (Or.inl rfl) hw dX4_isLeaf_15
  · have hw := hw.2 c_7
    refine lv_iconst (v := 1) hx hb dX4_isLeaf_10 (by decide) ?_
    refine lv_goto (tgt := 15) hx hb dX4_isLeaf_11 (by decide) ?_
    exact kretZ C hr hlk h (Or.inr rfl) hw dX4_isLeaf_15

def wX4_addNode (x1 : Int32) (u : ST) (Q : ST → Prop) : Prop :=
  (vp_in (gI u 17) 1000 ∧ (vp_in (gI (sR u 12 (gI u 17).toNatClampNeg x1) 17) 1000 ∧ Q (sI (sR (sR u 12 (gI u 17).toNatClampNeg x1) 13 (gI (sR u 12 (gI u 17).toNatClampNeg x1) 17).toNatClampNeg (-1)) 17 ((gI (sR (sR u 12 (gI u 17).toNatClampNeg x1) 13 (gI (sR u 12 (gI u 17).toNatClampNeg x1) 17).toNatClampNeg (-1)) 17) + 1))))
set_option maxHeartbeats 4000000 in
set_option maxRecDepth 100000 in
theorem mX4_addNode (l : Launch) (D : va_G) (cy : CY) (ad : Nat → Nat) (x1 : Int32) (u : ST) (sz : Nat) {Q : ST → Prop} (hw : wX4_addNode x1 u Q) : Met l yX4_addNode (wM yX4_addNode cX4_addNode 2 none) (kRm 0) (kPc D (cW cy ad) cy u sz [.ref (ad 9), .int x1]) (kQv D (cW cy ad) cy (va_A (cW cy ad u) sz) Q) 0 0 (va_A (cW cy ad u) sz) := by
  refine kMet pn_X4_addNode (Nat.le_of_ble_eq_true rfl) (fun p e s m below meth c ls hsz C hr hlk hex h hl => ?_)
  have hl : lv_has ls 2 [(0, .ref (ad 9)), (1, .int x1)] := hl
  obtain ⟨⟨hx, hb, hml, hown, hts⟩, hK, hA⟩ := id C
  unfold wX4_addNode at hw
  have h : kH D (cW cy ad) (va_A (cW cy ad u) sz) s u s.heap [] := h
  refine lv_aload_n hx hb dX4_addNode_0 rfl (lv_at hl 0 rfl) ?_
  refine kget C h 9 rfl rfl inBX4 0 (Nat.le_of_ble_eq_true rfl) wi_fl_X4_9 rfl dX4_addNode_1 ?_
  refine lv_aload_n hx hb dX4_addNode_4 rfl (lv_at hl 0 rfl) ?_
  refine kget C h 9 rfl rfl inBX4 2 (Nat.le_of_ble_eq_true rfl) wi_fl_X4_18 rfl dX4_addNode_5 ?_
  refine lv_iload_n hx hb dX4_addNode_8 rfl (lv_at hl 1 rfl) ?_
  obtain ⟨i_9, hw⟩ := hw
  refine kiast C h 29 rfl i_9 (cS_R cy ad u (gI u 17).toNatClampNeg x1 12 (Nat.le_of_ble_eq_true rfl)) dX4_addNode_9 (fun H locs h => ?_)
  refine lv_aload_n hx hb dX4_addNode_10 rfl (lv_at hl 0 rfl) ?_
  refine kget C h 9 rfl rfl inBX4 1 (Nat.le_of_ble_eq_true rfl) wi_fl_X4_15 rfl dX4_addNode_11 ?_
  refine lv_aload_n hx hb dX4_addNode_14 rfl (lv_at hl 0 rfl) ?_
  refine kget C h 9 rfl rfl inBX4 2 (Nat.le_of_ble_eq_true rfl) wi_fl_X4_18 rfl dX4_addNode_15 ?_
  refine lv_iconst (v := (-1)) hx hb dX4_addNode_18 (by decide) ?_
  obtain ⟨i_19, hw⟩ := hw
  refine kiast C h 30 rfl i_19 (cS_R cy ad (sR u 12 (gI u 17).toNatClampNeg x1) (gI (sR u 12 (gI u 17).toNatClampNeg x1) 17).toNatClampNeg (-1) 13 (Nat.le_of_ble_eq_true rfl)) dX4_addNode_19 (fun H locs h => ?_)
  refine lv_aload_n hx hb dX4_addNode_20 rfl (lv_at hl 0 rfl) ?_
  refine lv_dup hx hb dX4_addNode_21 rfl ?_
  refine kget C h 9 rfl rfl inBX4 2 (Nat.le_of_ble_eq_true rfl) wi_fl_X4_18 rfl dX4_addNode_22 ?_
  refine lv_iconst (v := 1) hx hb dX4_addNode_25 (by decide) ?_
  refine lv_iadd hx hb dX4_addNode_26 ?_
  refine kput C h 9 rfl rfl inBX4 tyX4_ok nmX4 2 (Nat.le_of_ble_eq_true rfl) wi_fl_X4_18 rfl rfl rfl (Nat.le_of_ble_eq_true rfl) (cS_TR_2 cy ad (sR (sR u 12 (gI u 17).toNatClampNeg x1) 13 (gI (sR u 12 (gI u 17).toNatClampNeg x1) 17).toNatClampNeg (-1)) ((gI (sR (sR u 12 (gI u 17).toNatClampNeg x1) 13 (gI (sR u 12 (gI u 17).toNatClampNeg x1) 17).toNatClampNeg (-1)) 17) + 1)) dX4_addNode_27 (fun H locs h => ?_)
  exact kretV C hr hlk h hw dX4_addNode_30

def wX4_addLeaf (x1 : Int32) (x2 : Int32) (u : ST) (Q : ST → Prop) : Prop :=
  wX4_addNode (128 + x1) u (fun u_2 => Q (sI (sI u_2 18 ((gI u_2 18) + 1)) 19 (if (gI (sI u_2 18 ((gI u_2 18) + 1)) 19) < x2 then x2 else (gI (sI u_2 18 ((gI u_2 18) + 1)) 19))))
set_option maxHeartbeats 4000000 in
set_option maxRecDepth 100000 in
theorem mX4_addLeaf (l : Launch) (D : va_G) (cy : CY) (ad : Nat → Nat) (x1 : Int32) (x2 : Int32) (u : ST) (sz : Nat) {Q : ST → Prop} (hw : wX4_addLeaf x1 x2 u Q) : Met l yX4_addLeaf (wM yX4_addLeaf cX4_addLeaf 3 none) (kRm 1) (kPc D (cW cy ad) cy u sz [.ref (ad 9), .int x1, .int x2]) (kQv D (cW cy ad) cy (va_A (cW cy ad u) sz) Q) 0 0 (va_A (cW cy ad u) sz) := by
  refine kMet pn_X4_addLeaf (Nat.le_of_ble_eq_true rfl) (fun p e s m below meth c ls hsz C hr hlk hex h hl => ?_)
  have hl : lv_has ls 3 [(0, .ref (ad 9)), (1, .int x1), (2, .int x2)] := hl
  obtain ⟨⟨hx, hb, hml, hown, hts⟩, hK, hA⟩ := id C
  unfold wX4_addLeaf at hw
  have h : kH D (cW cy ad) (va_A (cW cy ad u) sz) s u s.heap [] := h
  refine lv_aload_n hx hb dX4_addLeaf_0 rfl (lv_at hl 0 rfl) ?_
  refine lv_sipush (v := 128) hx hb dX4_addLeaf_1 (by decide) ?_
  refine lv_iload_n hx hb dX4_addLeaf_4 rfl (lv_at hl 1 rfl) ?_
  refine lv_iadd hx hb dX4_addLeaf_5 ?_
  refine kVv (As := [.int (128 + x1)]) (rest := []) C h (cwV 1 hts (gd_V wi_ml_X4_60 wi_im_X4_addNode wi_se_X4_addNode wi_in_X4 wi_co_X4_addNode) rfl rfl rfl hd_X4_addNode ⟨Nat.le_of_ble_eq_true rfl, Nat.le_of_ble_eq_true rfl⟩) 9 rfl rfl rfl (mX4_addNode l D cy ad (128 + x1) _ _ hw) rfl hl.1 rfl (Nat.le_of_ble_eq_true rfl) ⟨Nat.zero_le _, Nat.zero_le _⟩ dX4_addLeaf_6 (fun u_2 H locs hw h => ?_)
  refine lv_aload_n hx hb dX4_addLeaf_9 rfl (lv_at hl 0 rfl) ?_
  refine lv_dup hx hb dX4_addLeaf_10 rfl ?_
  refine kget C h 9 rfl rfl inBX4 3 (Nat.le_of_ble_eq_true rfl) wi_fl_X4_22 rfl dX4_addLeaf_11 ?_
  refine lv_iconst (v := 1) hx hb dX4_addLeaf_14 (by decide) ?_
  refine lv_iadd hx hb dX4_addLeaf_15 ?_
  refine kput C h 9 rfl rfl inBX4 tyX4_ok nmX4 3 (Nat.le_of_ble_eq_true rfl) wi_fl_X4_22 rfl rfl rfl (Nat.le_of_ble_eq_true rfl) (cS_TR_3 cy ad u_2 ((gI u_2 18) + 1)) dX4_addLeaf_16 (fun H locs h => ?_)
  refine lv_aload_n hx hb dX4_addLeaf_19 rfl (lv_at hl 0 rfl) ?_
  refine lv_aload_n hx hb dX4_addLeaf_20 rfl (lv_at hl 0 rfl) ?_
  refine kget C h 9 rfl rfl inBX4 4 (Nat.le_of_ble_eq_true rfl) wi_fl_X4_25 rfl dX4_addLeaf_21 ?_
  refine lv_iload_n hx hb dX4_addLeaf_24 rfl (lv_at hl 2 rfl) ?_
  refine va_mmax hx hb (hml.trans hl.1.symm) hown (hts _ wi_ml_X4_73) (hts _ wi_st_J9_max_7cf53) (hts _ wi_in_J9) (hts _ wi_co_J9_max_7cf53) (Nat.le_of_ble_eq_true rfl) (Nat.le_of_ble_eq_true rfl) (Nat.zero_le _) (Nat.zero_le _) dX4_addLeaf_25 ?_
  refine kput C h 9 rfl rfl inBX4 tyX4_ok nmX4 4 (Nat.le_of_ble_eq_true rfl) wi_fl_X4_25 rfl rfl rfl (Nat.le_of_ble_eq_true rfl) (cS_TR_4 cy ad (sI u_2 18 ((gI u_2 18) + 1)) (if (gI (sI u_2 18 ((gI u_2 18) + 1)) 19) < x2 then x2 else (gI (sI u_2 18 ((gI u_2 18) + 1)) 19))) dX4_addLeaf_28 (fun H locs h => ?_)
  exact kretV C hr hlk h hw dX4_addLeaf_31

def wX4_grow_b17 (F : Int32 → Int32 → ST → (ST → Prop) → Prop) (Q : ST → Prop) (u : ST) : Prop :=
  Q (sI u 20 1)
set_option maxHeartbeats 4000000 in
set_option maxRecDepth 100000 in
theorem kX4_grow_b17 {p : Program} {l : Launch} {e : Env} {s : State} {m : MethodId} {args : Array Value} {below : List Frame} {meth : Method} {c : Code} {D : va_G} {cy : CY} {A : Nat → Prop} {ad : Nat → Nat} {d : Nat} {F : Int32 → Int32 → ST → (ST → Prop) → Prop} {Q : ST → Prop} (C : kC p m c cX4_grow 8 s args RX4 D cy A) (hr : meth.sig.returnType = none) (hlk : meth.locks = false) (hF : ∀ (x2 : Int32) (x3 : Int32) (u : ST) (sz : Nat) (Q : ST → Prop), F x2 x3 u Q → Met l yX4_grow (wM yX4_grow cX4_grow 8 none) (kRm (2 + d)) (kPc D (cW cy ad) cy u sz [.ref (ad 9), .ref (ad 8), .int x2, .int x3]) (kQv D (cW cy ad) cy (va_A (cW cy ad u) sz) Q) 0 0 (va_A (cW cy ad u) sz)) : ∀ (u : ST) (H : Heap) (locs : List Loc) (ls : Array Slot), wX4_grow_b17 F Q  u → kH D (cW cy ad) A s u H locs → lv_has ls 8 [(0, .ref (ad 9))] → W p l e (kRm (3 + d)) s m args below meth c H locs 0 0 (MQ below (kQv D (cW cy ad) cy A Q) args s 0 0 A) (F0 m 17 ls []) := by
  intro  u H locs ls hw h hl
  obtain ⟨⟨hx, hb, hml, hown, hts⟩, hK, hA⟩ := id C
  unfold wX4_grow_b17 at hw
  refine lv_aload_n hx hb dX4_grow_17 rfl (lv_at hl 0 rfl) ?_
  refine lv_iconst (v := 1) hx hb dX4_grow_18 (by decide) ?_
  refine kput C h 9 rfl rfl inBX4 tyX4_ok nmX4 6 (Nat.le_of_ble_eq_true rfl) wi_fl_X4_32 rfl rfl rfl (Nat.le_of_ble_eq_true rfl) (cS_TR_6 cy ad u 1) dX4_grow_19 (fun H locs h => ?_)
  exact kretV C hr hlk h hw dX4_grow_22
def wX4_grow_b46 (F : Int32 → Int32 → ST → (ST → Prop) → Prop) (Q : ST → Prop) (x2 : Int32) (x4 : Int32) (u : ST) : Prop :=
  wX4_addLeaf x4 x2 u (fun u_2 => Q u_2)
set_option maxHeartbeats 4000000 in
set_option maxRecDepth 100000 in
theorem kX4_grow_b46 {p : Program} {l : Launch} {e : Env} {s : State} {m : MethodId} {args : Array Value} {below : List Frame} {meth : Method} {c : Code} {D : va_G} {cy : CY} {A : Nat → Prop} {ad : Nat → Nat} {d : Nat} {F : Int32 → Int32 → ST → (ST → Prop) → Prop} {Q : ST → Prop} (C : kC p m c cX4_grow 8 s args RX4 D cy A) (hr : meth.sig.returnType = none) (hlk : meth.locks = false) (hF : ∀ (x2 : Int32) (x3 : Int32) (u : ST) (sz : Nat) (Q : ST → Prop), F x2 x3 u Q → Met l yX4_grow (wM yX4_grow cX4_grow 8 none) (kRm (2 + d)) (kPc D (cW cy ad) cy u sz [.ref (ad 9), .ref (ad 8), .int x2, .int x3]) (kQv D (cW cy ad) cy (va_A (cW cy ad u) sz) Q) 0 0 (va_A (cW cy ad u) sz)) : ∀ (x2 : Int32) (x4 : Int32) (u : ST) (H : Heap) (locs : List Loc) (ls : Array Slot), wX4_grow_b46 F Q x2 x4 u → kH D (cW cy ad) A s u H locs → lv_has ls 8 [(0, .ref (ad 9)), (2, .int x2), (4, .int x4)] → W p l e (kRm (3 + d)) s m args below meth c H locs 0 0 (MQ below (kQv D (cW cy ad) cy A Q) args s 0 0 A) (F0 m 46 ls []) := by
  intro x2 x4 u H locs ls hw h hl
  obtain ⟨⟨hx, hb, hml, hown, hts⟩, hK, hA⟩ := id C
  unfold wX4_grow_b46 at hw
  refine lv_aload_n hx hb dX4_grow_46 rfl (lv_at hl 0 rfl) ?_
  refine lv_iload hx hb dX4_grow_47 (lv_at hl 2 rfl) ?_
  refine lv_iload_n hx hb dX4_grow_49 rfl (lv_at hl 1 rfl) ?_
  refine kVv (As := [.int x4, .int x2]) (rest := []) C h (cwV 2 hts (gd_V wi_ml_X4_52 wi_im_X4_addLeaf wi_se_X4_addLeaf wi_in_X4 wi_co_X4_addLeaf) rfl rfl rfl hd_X4_addLeaf ⟨(by show 1 + 1 ≤ 3 + d; omega), (by show 8 + (3 + 11) + 40 * 1 ≤ 40 * (3 + d); omega)⟩) 9 rfl rfl rfl (mX4_addLeaf l D cy ad x4 x2 _ _ hw) rfl hl.1 rfl (Nat.le_of_ble_eq_true rfl) ⟨Nat.zero_le _, Nat.zero_le _⟩ dX4_grow_50 (fun u_2 H locs hw h => ?_)
  exact kretV C hr hlk h hw dX4_grow_53
def wX4_grow_E (F : Int32 → Int32 → ST → (ST → Prop) → Prop) (x2 : Int32) (x3 : Int32) (u : ST) (Q : ST → Prop) : Prop :=
  ((¬ (gI u 20) = 0 → wX4_grow_b17 F Q  u) ∧ ((gI u 20) = 0 → (((gI u 17) < 1000 → wX5_oneAction x2 u (fun r_1 u_2 => ((¬ r_1 = (-1) → wX4_grow_b46 F Q x2 r_1 u_2) ∧ (r_1 = (-1) → ((x3 = 0 → wX4_grow_b46 F Q x2 r_1 u_2) ∧ (¬ x3 = 0 → ((x2 < 16 → wX5_choose x2 x3 u_2 (fun r_3 u_4 => wX4_addNode r_3 u_4 (fun u_6 => wJ6_bitCount_0f7a4 x3 u_6 (fun r_7 u_8 => wX5_step x2 (1 <<< (r_3 &&& 31)) 1 (sJ u_8 1 ((gJ u_6 1) + ((1 : Int64) <<< ((r_7 : Int32).toInt64 &&& 63)))) (fun u_10 => F (x2 + 1) (x3 &&& ((1 <<< (r_3 &&& 31)) ^^^ (-1))) u_10 (fun u_12 => (vp_in (gI u_4 17) 1000 ∧ wX5_step x2 (1 <<< (r_3 &&& 31)) 0 (sR u_12 13 (gI u_4 17).toNatClampNeg (gI u_12 17)) (fun u_14 => F (x2 + 1) (x3 &&& ((1 <<< (r_3 &&& 31)) ^^^ (-1))) u_14 (fun u_16 => Q u_16))))))))) ∧ (¬ x2 < 16 → wX4_grow_b46 F Q x2 r_1 u_2)))))))) ∧ (¬ (gI u 17) < 1000 → wX4_grow_b17 F Q  u))))
set_option maxHeartbeats 4000000 in
set_option maxRecDepth 100000 in
theorem mX4_grow_E (l : Launch) (D : va_G) (cy : CY) (ad : Nat → Nat) (d : Nat) {F : Int32 → Int32 → ST → (ST → Prop) → Prop} (hF : ∀ (x2 : Int32) (x3 : Int32) (u : ST) (sz : Nat) (Q : ST → Prop), F x2 x3 u Q → Met l yX4_grow (wM yX4_grow cX4_grow 8 none) (kRm (2 + d)) (kPc D (cW cy ad) cy u sz [.ref (ad 9), .ref (ad 8), .int x2, .int x3]) (kQv D (cW cy ad) cy (va_A (cW cy ad u) sz) Q) 0 0 (va_A (cW cy ad u) sz)) (x2 : Int32) (x3 : Int32) (u : ST) (sz : Nat) {Q : ST → Prop} (hw : wX4_grow_E F x2 x3 u Q) : Met l yX4_grow (wM yX4_grow cX4_grow 8 none) (kRm (3 + d)) (kPc D (cW cy ad) cy u sz [.ref (ad 9), .ref (ad 8), .int x2, .int x3]) (kQv D (cW cy ad) cy (va_A (cW cy ad u) sz) Q) 0 0 (va_A (cW cy ad u) sz) := by
  refine kMet pn_X4_grow (Nat.le_of_ble_eq_true rfl) (fun p e s m below meth c ls hsz C hr hlk hex h hl => ?_)
  have hl : lv_has ls 8 [(0, .ref (ad 9)), (1, .ref (ad 8)), (2, .int x2), (3, .int x3)] := hl
  obtain ⟨⟨hx, hb, hml, hown, hts⟩, hK, hA⟩ := id C
  unfold wX4_grow_E at hw
  have h : kH D (cW cy ad) (va_A (cW cy ad u) sz) s u s.heap [] := h
  refine lv_aload_n hx hb dX4_grow_0 rfl (lv_at hl 0 rfl) ?_
  refine kget C h 9 rfl rfl inBX4 6 (Nat.le_of_ble_eq_true rfl) wi_fl_X4_32 rfl dX4_grow_1 ?_
  refine lv_if_ne (tgt := 17) hx hb dX4_grow_4 (by decide) (fun c_4 => ?_) (fun c_4 => ?_)
  · have hw := hw.1 c_4
    exact kX4_grow_b17 C hr hlk hF  _ _ _ _ hw h (lv_sub hl [0] rfl)
  · have hw := hw.2 c_4
    refine lv_aload_n hx hb dX4_grow_7 rfl (lv_at hl 0 rfl) ?_
    refine kget C h 9 rfl rfl inBX4 2 (Nat.le_of_ble_eq_true rfl) wi_fl_X4_18 rfl dX4_grow_8 ?_
    refine lv_sipush (v := 1000) hx hb dX4_grow_11 (by decide) ?_
    refine lv_icmp_lt (tgt := 23) hx hb dX4_grow_14 (by decide) (fun c_14 => ?_) (fun c_14 => ?_)
    · have hw := hw.1 c_14
      refine lv_aload_n hx hb dX4_grow_23 rfl (lv_at hl 1 rfl) ?_
      refine lv_iload_n hx hb dX4_grow_24 rfl (lv_at hl 2 rfl) ?_
      refine kVi (As := [.int x2]) (rest := []) C h (cwV 1 hts (gd_V wi_ml_X4_48 wi_im_X5_oneAction wi_se_X5_oneAction wi_in_X5 wi_co_X5_oneAction) rfl rfl rfl hd_X5_oneAction ⟨(by show 0 + 1 ≤ 3 + d; omega), (by show 8 + (4 + 11) + 40 * 0 ≤ 40 * (3 + d); omega)⟩) 8 rfl rfl rfl (mX5_oneAction l D cy ad x2 _ _ hw) rfl hl.1 rfl (Nat.le_of_ble_eq_true rfl) ⟨Nat.zero_le _, Nat.zero_le _⟩ dX4_grow_25 (fun r_1 u_2 H locs hw h => ?_)
      refine lv_istore (lv' := [(4, .int r_1), (0, .ref (ad 9)), (1, .ref (ad 8)), (2, .int x2), (3, .int x3)]) hx hb dX4_grow_28 hl (by decide) rfl (fun ls hl => ?_)
      refine lv_iload hx hb dX4_grow_30 (lv_at hl 0 rfl) ?_
      refine lv_iconst (v := (-1)) hx hb dX4_grow_32 (by decide) ?_
      refine lv_icmp_ne (tgt := 46) hx hb dX4_grow_33 (by decide) (fun c_33 => ?_) (fun c_33 => ?_)
      · have hw := hw.1 c_33
        exact kX4_grow_b46 C hr hlk hF x2 r_1 _ _ _ _ hw h (lv_sub hl [1, 3, 0] rfl)
      · have hw := hw.2 c_33
        refine lv_iload_n hx hb dX4_grow_36 rfl (lv_at hl 4 rfl) ?_
        refine lv_if_eq (tgt := 46) hx hb dX4_grow_37 (by decide) (fun c_37 => ?_) (fun c_37 => ?_)
        · have hw := hw.1 c_37
          exact kX4_grow_b46 C hr hlk hF x2 r_1 _ _ _ _ hw h (lv_sub hl [1, 3, 0] rfl)
        · have hw := hw.2 c_37
          refine lv_iload_n hx hb dX4_grow_40 rfl (lv_at hl 3 rfl) ?_
          refine lv_bipush (v := 16) hx hb dX4_grow_41 (by decide) ?_
          refine lv_icmp_lt (tgt := 54) hx hb dX4_grow_43 (by decide) (fun c_43 => ?_) (fun c_43 => ?_)
          · have hw := hw.1 c_43
            refine lv_aload_n hx hb dX4_grow_54 rfl (lv_at hl 2 rfl) ?_
            refine lv_iload_n hx hb dX4_grow_55 rfl (lv_at hl 3 rfl) ?_
            refine lv_iload_n hx hb dX4_grow_56 rfl (lv_at hl 4 rfl) ?_
            refine kVi (As := [.int x2, .int x3]) (rest := []) C h (cwV 2 hts (gd_V wi_ml_X4_56 wi_im_X5_choose wi_se_X5_choose wi_in_X5 wi_co_X5_choose) rfl rfl rfl hd_X5_choose ⟨(by show 2 + 1 ≤ 3 + d; omega), (by show 8 + (5 + 11) + 40 * 2 ≤ 40 * (3 + d); omega)⟩) 8 rfl rfl rfl (mX5_choose l D cy ad x2 x3 _ _ hw) rfl hl.1 rfl (Nat.le_of_ble_eq_true rfl) ⟨Nat.zero_le _, Nat.zero_le _⟩ dX4_grow_57 (fun r_3 u_4 H locs hw h => ?_)
            refine lv_istore (lv' := [(5, .int r_3), (4, .int r_1), (0, .ref (ad 9)), (1, .ref (ad 8)), (2, .int x2), (3, .int x3)]) hx hb dX4_grow_60 hl (by decide) rfl (fun ls hl => ?_)
            refine lv_iconst (v := 1) hx hb dX4_grow_62 (by decide) ?_
            refine lv_iload hx hb dX4_grow_63 (lv_at hl 0 rfl) ?_
            refine lv_ishl hx hb dX4_grow_65 ?_
            refine lv_istore (lv' := [(6, .int (1 <<< (r_3 &&& 31))), (5, .int r_3), (4, .int r_1), (0, .ref (ad 9)), (1, .ref (ad 8)), (2, .int x2), (3, .int x3)]) hx hb dX4_grow_66 hl (by decide) rfl (fun ls hl => ?_)
            refine lv_aload_n hx hb dX4_grow_68 rfl (lv_at hl 3 rfl) ?_
            refine kget C h 9 rfl rfl inBX4 2 (Nat.le_of_ble_eq_true rfl) wi_fl_X4_18 rfl dX4_grow_69 ?_
            refine lv_istore (lv' := [(7, .int (gI u_4 17)), (6, .int (1 <<< (r_3 &&& 31))), (5, .int r_3), (4, .int r_1), (0, .ref (ad 9)), (1, .ref (ad 8)), (2, .int x2), (3, .int x3)]) hx hb dX4_grow_72 hl (by decide) rfl (fun ls hl => ?_)
            refine lv_aload_n hx hb dX4_grow_74 rfl (lv_at hl 4 rfl) ?_
            refine lv_iload hx hb dX4_grow_75 (lv_at hl 2 rfl) ?_
            refine kVv (As := [.int r_3]) (rest := []) C h (cwV 1 hts (gd_V wi_ml_X4_60 wi_im_X4_addNode wi_se_X4_addNode wi_in_X4 wi_co_X4_addNode) rfl rfl rfl hd_X4_addNode ⟨(by show 0 + 1 ≤ 3 + d; omega), (by show 8 + (2 + 11) + 40 * 0 ≤ 40 * (3 + d); omega)⟩) 9 rfl rfl rfl (mX4_addNode l D cy ad r_3 _ _ hw) rfl hl.1 rfl (Nat.le_of_ble_eq_true rfl) ⟨Nat.zero_le _, Nat.zero_le _⟩ dX4_grow_77 (fun u_6 H locs hw h => ?_)
            refine lv_aload_n hx hb dX4_grow_80 rfl (lv_at hl 4 rfl) ?_
            refine lv_dup hx hb dX4_grow_81 rfl ?_
            refine kget C h 9 rfl rfl inBX4 5 (Nat.le_of_ble_eq_true rfl) wi_fl_X4_28 rfl dX4_grow_82 ?_
            refine lv_lconst (v := 1) hx hb dX4_grow_85 rfl ?_
            refine lv_iload_n hx hb dX4_grow_86 rfl (lv_at hl 7 rfl) ?_
            refine kSi (As := [.int x3]) (rest := [.long 1, .long (gJ u_6 1), .ref (ad 9)]) C h (va_cwS 1 hts (gd_S wi_ml_X4_64 wi_st_J6_bitCount_0f7a4 wi_in_J6 wi_co_J6_bitCount_0f7a4) rfl rfl rfl hd_J6_bitCount_0f7a4.2 ⟨(by show 0 + 1 ≤ 3 + d; omega), (by show 8 + (1 + 11) + 40 * 0 ≤ 40 * (3 + d); omega)⟩) (mJ6_bitCount_0f7a4 l D cy ad x3 _ _ hw) rfl hl.1 rfl (Nat.le_of_ble_eq_true rfl) ⟨Nat.zero_le _, Nat.zero_le _⟩ dX4_grow_87 (fun r_7 u_8 H locs hw h => ?_)
            refine lv_lshl hx hb dX4_grow_90 rfl ?_
            refine lv_ladd hx hb dX4_grow_91 ?_
            refine kput C h 9 rfl rfl inBX4 tyX4_ok nmX4 5 (Nat.le_of_ble_eq_true rfl) wi_fl_X4_28 rfl rfl rfl (Nat.le_of_ble_eq_true rfl) (cS_TR_5 cy ad u_8 ((gJ u_6 1) + ((1 : Int64) <<< ((r_7 : Int32).toInt64 &&& 63)))) dX4_grow_92 (fun H locs h => ?_)
            refine lv_aload_n hx hb dX4_grow_95 rfl (lv_at hl 5 rfl) ?_
            refine lv_iload_n hx hb dX4_grow_96 rfl (lv_at hl 6 rfl) ?_
            refine lv_iload hx hb dX4_grow_97 (lv_at hl 1 rfl) ?_
            refine lv_iconst (v := 1) hx hb dX4_grow_99 (by decide) ?_
            refine kVv (As := [.int x2, .int (1 <<< (r_3 &&& 31)), .int 1]) (rest := []) C h (cwV 3 hts (gd_V wi_ml_X4_69 wi_im_X5_step wi_se_X5_step wi_in_X5 wi_co_X5_step) rfl rfl rfl hd_X5_step ⟨(by show 0 + 1 ≤ 3 + d; omega), (by show 8 + (9 + 11) + 40 * 0 ≤ 40 * (3 + d); omega)⟩) 8 rfl rfl rfl (mX5_step l D cy ad x2 (1 <<< (r_3 &&& 31)) 1 _ _ hw) rfl hl.1 rfl (Nat.le_of_ble_eq_true rfl) ⟨Nat.zero_le _, Nat.zero_le _⟩ dX4_grow_100 (fun u_10 H locs hw h => ?_)
            refine lv_aload_n hx hb dX4_grow_103 rfl (lv_at hl 4 rfl) ?_
            refine lv_aload_n hx hb dX4_grow_104 rfl (lv_at hl 5 rfl) ?_
            refine lv_iload_n hx hb dX4_grow_105 rfl (lv_at hl 6 rfl) ?_
            refine lv_iconst (v := 1) hx hb dX4_grow_106 (by decide) ?_
            refine lv_iadd hx hb dX4_grow_107 ?_
            refine lv_iload_n hx hb dX4_grow_108 rfl (lv_at hl 7 rfl) ?_
            refine lv_iload hx hb dX4_grow_109 (lv_at hl 1 rfl) ?_
            refine lv_iconst (v := (-1)) hx hb dX4_grow_111 (by decide) ?_
            refine lv_ixor hx hb dX4_grow_112 ?_
            refine lv_iand hx hb dX4_grow_113 ?_
            refine kSv (As := [.ref (ad 9), .ref (ad 8), .int (x2 + 1), .int (x3 &&& ((1 <<< (r_3 &&& 31)) ^^^ (-1)))]) (rest := []) C h (va_cwS 4 hts (gd_S wi_ml_X4_41 wi_st_X4_grow wi_in_X4 wi_co_X4_grow) rfl rfl rfl hd_X4_grow.2 ⟨(by show 2 + d + 1 ≤ 3 + d; omega), (by show 8 + (8 + 11) + 40 * (2 + d) ≤ 40 * (3 + d); omega)⟩) (hF (x2 + 1) (x3 &&& ((1 <<< (r_3 &&& 31)) ^^^ (-1))) _ _ _ hw) rfl hl.1 rfl (Nat.le_of_ble_eq_true rfl) ⟨Nat.zero_le _, Nat.zero_le _⟩ dX4_grow_114 (fun u_12 H locs hw h => ?_)
            refine lv_aload_n hx hb dX4_grow_117 rfl (lv_at hl 4 rfl) ?_
            refine kget C h 9 rfl rfl inBX4 1 (Nat.le_of_ble_eq_true rfl) wi_fl_X4_15 rfl dX4_grow_118 ?_
            refine lv_iload hx hb dX4_grow_121 (lv_at hl 0 rfl) ?_
            refine lv_aload_n hx hb dX4_grow_123 rfl (lv_at hl 4 rfl) ?_
            refine kget C h 9 rfl rfl inBX4 2 (Nat.le_of_ble_eq_true rfl) wi_fl_X4_18 rfl dX4_grow_124 ?_
            obtain ⟨i_127, hw⟩ := hw
            refine kiast C h 30 rfl i_127 (cS_R cy ad u_12 (gI u_4 17).toNatClampNeg (gI u_12 17) 13 (Nat.le_of_ble_eq_true rfl)) dX4_grow_127 (fun H locs h => ?_)
            refine lv_aload_n hx hb dX4_grow_128 rfl (lv_at hl 5 rfl) ?_
            refine lv_iload_n hx hb dX4_grow_129 rfl (lv_at hl 6 rfl) ?_
            refine lv_iload hx hb dX4_grow_130 (lv_at hl 1 rfl) ?_
            refine lv_iconst (v := 0) hx hb dX4_grow_132 (by decide) ?_
            refine kVv (As := [.int x2, .int (1 <<< (r_3 &&& 31)), .int 0]) (rest := []) C h (cwV 3 hts (gd_V wi_ml_X4_69 wi_im_X5_step wi_se_X5_step wi_in_X5 wi_co_X5_step) rfl rfl rfl hd_X5_step ⟨(by show 0 + 1 ≤ 3 + d; omega), (by show 8 + (9 + 11) + 40 * 0 ≤ 40 * (3 + d); omega)⟩) 8 rfl rfl rfl (mX5_step l D cy ad x2 (1 <<< (r_3 &&& 31)) 0 _ _ hw) rfl hl.1 rfl (Nat.le_of_ble_eq_true rfl) ⟨Nat.zero_le _, Nat.zero_le _⟩ dX4_grow_133 (fun u_14 H locs hw h => ?_)
            refine lv_aload_n hx hb dX4_grow_136 rfl (lv_at hl 4 rfl) ?_
            refine lv_aload_n hx hb dX4_grow_137 rfl (lv_at hl 5 rfl) ?_
            refine lv_iload_n hx hb dX4_grow_138 rfl (lv_at hl 6 rfl) ?_
            refine lv_iconst (v := 1) hx hb dX4_grow_139 (by decide) ?_
            refine lv_iadd hx hb dX4_grow_140 ?_
            refine lv_iload_n hx hb dX4_grow_141 rfl (lv_at hl 7 rfl) ?_
            refine lv_iload hx hb dX4_grow_142 (lv_at hl 1 rfl) ?_
            refine lv_iconst (v := (-1)) hx hb dX4_grow_144 (by decide) ?_
            refine lv_ixor hx hb dX4_grow_145 ?_
            refine lv_iand hx hb dX4_grow_146 ?_
            refine kSv (As := [.ref (ad 9), .ref (ad 8), .int (x2 + 1), .int (x3 &&& ((1 <<< (r_3 &&& 31)) ^^^ (-1)))]) (rest := []) C h (va_cwS 4 hts (gd_S wi_ml_X4_41 wi_st_X4_grow wi_in_X4 wi_co_X4_grow) rfl rfl rfl hd_X4_grow.2 ⟨(by show 2 + d + 1 ≤ 3 + d; omega), (by show 8 + (8 + 11) + 40 * (2 + d) ≤ 40 * (3 + d); omega)⟩) (hF (x2 + 1) (x3 &&& ((1 <<< (r_3 &&& 31)) ^^^ (-1))) _ _ _ hw) rfl hl.1 rfl (Nat.le_of_ble_eq_true rfl) ⟨Nat.zero_le _, Nat.zero_le _⟩ dX4_grow_147 (fun u_16 H locs hw h => ?_)
            exact kretV C hr hlk h hw dX4_grow_150
          · have hw := hw.2 c_43
            exact kX4_grow_b46 C hr hlk hF x2 r_1 _ _ _ _ hw h (lv_sub hl [1, 3, 0] rfl)
    · have hw := hw.2 c_14
      exact kX4_grow_b17 C hr hlk hF  _ _ _ _ hw h (lv_sub hl [0] rfl)
def wX4_grow : Nat → Int32 → Int32 → ST → (ST → Prop) → Prop
  | 0, _, _, _, _ => False
  | d + 1, x2, x3, u, Q => wX4_grow_E (wX4_grow d) x2 x3 u Q
theorem mX4_grow (l : Launch) (D : va_G) (cy : CY) (ad : Nat → Nat) : ∀ (d : Nat) (x2 : Int32) (x3 : Int32) (u : ST) (sz : Nat) (Q : ST → Prop), wX4_grow d x2 x3 u Q → Met l yX4_grow (wM yX4_grow cX4_grow 8 none) (kRm (2 + d)) (kPc D (cW cy ad) cy u sz [.ref (ad 9), .ref (ad 8), .int x2, .int x3]) (kQv D (cW cy ad) cy (va_A (cW cy ad u) sz) Q) 0 0 (va_A (cW cy ad u) sz) := by
  intro d
  induction d with
  | zero => intro x2 x3 u sz Q hw; exact False.elim hw
  | succ d ih =>
    intro x2 x3 u sz Q hw
    rw [show 2 + (d + 1) = 3 + d by omega]
    exact mX4_grow_E l D cy ad d (fun x2 x3 u sz Q hw => ih x2 x3 u sz Q hw) x2 x3 u sz hw

def wX4_build (u : ST) (Q : ST → Prop) : Prop :=
  (∃ dd : Nat, dd ≤ 20 ∧ wX4_grow dd 0 (gI u 16) u (fun u_2 => (((gI u_2 20) = 0 → Q u_2) ∧ (¬ (gI u_2 20) = 0 → wX4_clear  u_2 (fun u_4 => Q u_4)))))
set_option maxHeartbeats 4000000 in
set_option maxRecDepth 100000 in
theorem mX4_build (l : Launch) (D : va_G) (cy : CY) (ad : Nat → Nat) (u : ST) (sz : Nat) {Q : ST → Prop} (hw : wX4_build  u Q) : Met l yX4_build (wM yX4_build cX4_build 2 none) (kRm 24) (kPc D (cW cy ad) cy u sz [.ref (ad 9), .ref (ad 8)]) (kQv D (cW cy ad) cy (va_A (cW cy ad u) sz) Q) 0 0 (va_A (cW cy ad u) sz) := by
  refine kMet pn_X4_build (Nat.le_of_ble_eq_true rfl) (fun p e s m below meth c ls hsz C hr hlk hex h hl => ?_)
  have hl : lv_has ls 2 [(0, .ref (ad 9)), (1, .ref (ad 8))] := hl
  obtain ⟨⟨hx, hb, hml, hown, hts⟩, hK, hA⟩ := id C
  unfold wX4_build at hw
  have h : kH D (cW cy ad) (va_A (cW cy ad u) sz) s u s.heap [] := h
  refine lv_aload_n hx hb dX4_build_0 rfl (lv_at hl 0 rfl) ?_
  refine lv_aload_n hx hb dX4_build_1 rfl (lv_at hl 1 rfl) ?_
  refine lv_iconst (v := 0) hx hb dX4_build_2 (by decide) ?_
  refine lv_aload_n hx hb dX4_build_3 rfl (lv_at hl 1 rfl) ?_
  refine kget C h 8 rfl rfl inBX5 3 (Nat.le_of_ble_eq_true rfl) wi_fl_X4_36 rfl dX4_build_4 ?_
  obtain ⟨dd, hdd, hw⟩ := hw
  refine kSv (As := [.ref (ad 9), .ref (ad 8), .int 0, .int (gI u 16)]) (rest := []) C h (va_cwS 4 hts (gd_S wi_ml_X4_41 wi_st_X4_grow wi_in_X4 wi_co_X4_grow) rfl rfl rfl hd_X4_grow.2 ⟨(by show 2 + dd + 1 ≤ 24; omega), (by show 8 + (8 + 11) + 40 * (2 + dd) ≤ 40 * 24; omega)⟩) (mX4_grow l D cy ad dd 0 (gI u 16) _ _ _ hw) rfl hl.1 rfl (Nat.le_of_ble_eq_true rfl) ⟨Nat.zero_le _, Nat.zero_le _⟩ dX4_build_7 (fun u_2 H locs hw h => ?_)
  refine lv_aload_n hx hb dX4_build_10 rfl (lv_at hl 0 rfl) ?_
  refine kget C h 9 rfl rfl inBX4 6 (Nat.le_of_ble_eq_true rfl) wi_fl_X4_32 rfl dX4_build_11 ?_
  refine lv_if_eq (tgt := 21) hx hb dX4_build_14 (by decide) (fun c_14 => ?_) (fun c_14 => ?_)
  · have hw := hw.1 c_14
    exact kretV C hr hlk h hw dX4_build_21
  · have hw := hw.2 c_14
    refine lv_aload_n hx hb dX4_build_17 rfl (lv_at hl 0 rfl) ?_
    refine kVv (As := []) (rest := []) C h (cwV 0 hts (gd_V wi_ml_X4_45 wi_im_X4_clear wi_se_X4_clear wi_in_X4 wi_co_X4_clear) rfl rfl rfl hd_X4_clear ⟨Nat.le_of_ble_eq_true rfl, Nat.le_of_ble_eq_true rfl⟩) 9 rfl rfl rfl (mX4_clear l D cy ad  _ _ hw) rfl hl.1 rfl (Nat.le_of_ble_eq_true rfl) ⟨Nat.zero_le _, Nat.zero_le _⟩ dX4_build_18 (fun u_4 H locs hw h => ?_)
    exact kretV C hr hlk h hw dX4_build_21

def wX0_append (x1 : Int32) (u : ST) (Q : ST → Prop) : Prop :=
  (((nI 2000) ≤ (gI u 21) → Q u) ∧ (¬ (nI 2000) ≤ (gI u 21) → (vp_in (gI u 21) 2000 ∧ Q (sI (sR u 14 (gI u 21).toNatClampNeg x1) 21 ((gI (sR u 14 (gI u 21).toNatClampNeg x1) 21) + 1)))))
set_option maxHeartbeats 4000000 in
set_option maxRecDepth 100000 in
theorem mX0_append (l : Launch) (D : va_G) (cy : CY) (ad : Nat → Nat) (x1 : Int32) (u : ST) (sz : Nat) {Q : ST → Prop} (hw : wX0_append x1 u Q) : Met l yX0_append (wM yX0_append cX0_append 2 none) (kRm 0) (kPc D (cW cy ad) cy u sz [.ref (ad 10), .int x1]) (kQv D (cW cy ad) cy (va_A (cW cy ad u) sz) Q) 0 0 (va_A (cW cy ad u) sz) := by
  refine kMet pn_X0_append (Nat.le_of_ble_eq_true rfl) (fun p e s m below meth c ls hsz C hr hlk hex h hl => ?_)
  have hl : lv_has ls 2 [(0, .ref (ad 10)), (1, .int x1)] := hl
  obtain ⟨⟨hx, hb, hml, hown, hts⟩, hK, hA⟩ := id C
  unfold wX0_append at hw
  have h : kH D (cW cy ad) (va_A (cW cy ad u) sz) s u s.heap [] := h
  refine lv_aload_n hx hb dX0_append_0 rfl (lv_at hl 0 rfl) ?_
  refine kget C h 10 rfl rfl inBX0 2 (Nat.le_of_ble_eq_true rfl) wi_fl_X0_22 rfl dX0_append_1 ?_
  refine lv_aload_n hx hb dX0_append_4 rfl (lv_at hl 0 rfl) ?_
  refine kget C h 10 rfl rfl inBX0 0 (Nat.le_of_ble_eq_true rfl) wi_fl_X0_9 rfl dX0_append_5 ?_
  refine kalenI C h 31 rfl dX0_append_8 ?_
  refine lv_icmp_ge (tgt := 32) hx hb dX0_append_9 (by decide) (fun c_9 => ?_) (fun c_9 => ?_)
  · have hw := hw.1 c_9
    exact kretV C hr hlk h hw dX0_append_32
  · have hw := hw.2 c_9
    refine lv_aload_n hx hb dX0_append_12 rfl (lv_at hl 0 rfl) ?_
    refine kget C h 10 rfl rfl inBX0 0 (Nat.le_of_ble_eq_true rfl) wi_fl_X0_9 rfl dX0_append_13 ?_
    refine lv_aload_n hx hb dX0_append_16 rfl (lv_at hl 0 rfl) ?_
    refine kget C h 10 rfl rfl inBX0 2 (Nat.le_of_ble_eq_true rfl) wi_fl_X0_22 rfl dX0_append_17 ?_
    refine lv_iload_n hx hb dX0_append_20 rfl (lv_at hl 1 rfl) ?_
    obtain ⟨i_21, hw⟩ := hw
    refine kiast C h 31 rfl i_21 (cS_R cy ad u (gI u 21).toNatClampNeg x1 14 (Nat.le_of_ble_eq_true rfl)) dX0_append_21 (fun H locs h => ?_)
    refine lv_aload_n hx hb dX0_append_22 rfl (lv_at hl 0 rfl) ?_
    refine lv_dup hx hb dX0_append_23 rfl ?_
    refine kget C h 10 rfl rfl inBX0 2 (Nat.le_of_ble_eq_true rfl) wi_fl_X0_22 rfl dX0_append_24 ?_
    refine lv_iconst (v := 1) hx hb dX0_append_27 (by decide) ?_
    refine lv_iadd hx hb dX0_append_28 ?_
    refine kput C h 10 rfl rfl inBX0 tyX0_ok nmX0 2 (Nat.le_of_ble_eq_true rfl) wi_fl_X0_22 rfl rfl rfl (Nat.le_of_ble_eq_true rfl) (cS_CD_2 cy ad (sR u 14 (gI u 21).toNatClampNeg x1) ((gI (sR u 14 (gI u 21).toNatClampNeg x1) 21) + 1)) dX0_append_29 (fun H locs h => ?_)
    exact kretV C hr hlk h hw dX0_append_32

def wX0_setPlaces_b33 (K4 : Int32 → Int32 → ST → Prop) (Q : ST → Prop) (x3 : Int32) (xs0 : Int32) (xs1 : Int32) (u : ST) : Prop :=
  K4 (xs0 + xs1) (x3 + 1) u
set_option maxHeartbeats 4000000 in
set_option maxRecDepth 100000 in
theorem kX0_setPlaces_b33 {p : Program} {l : Launch} {e : Env} {s : State} {m : MethodId} {args : Array Value} {below : List Frame} {meth : Method} {c : Code} {D : va_G} {cy : CY} {A : Nat → Prop} {ad : Nat → Nat} {K4 : Int32 → Int32 → ST → Prop} {Q : ST → Prop} (C : kC p m c cX0_setPlaces 4 s args RX0 D cy A) (hr : meth.sig.returnType = none) (hlk : meth.locks = false) (g4 : ∀ (x2 : Int32) (x3 : Int32) (u : ST) (H : Heap) (locs : List Loc) (ls : Array Slot), K4 x2 x3 u → kH D (cW cy ad) A s u H locs → lv_has ls 4 [(0, .ref (ad 10)), (1, .ref (ad 9)), (2, .int x2), (3, .int x3)] → W p l e (kRm 1) s m args below meth c H locs 0 0 (MQ below (kQv D (cW cy ad) cy A Q) args s 0 0 A) (F0 m 4 ls [])) : ∀ (x3 : Int32) (xs0 : Int32) (xs1 : Int32) (u : ST) (H : Heap) (locs : List Loc) (ls : Array Slot), wX0_setPlaces_b33 K4 Q x3 xs0 xs1 u → kH D (cW cy ad) A s u H locs → lv_has ls 4 [(0, .ref (ad 10)), (1, .ref (ad 9)), (3, .int x3)] → W p l e (kRm 1) s m args below meth c H locs 0 0 (MQ below (kQv D (cW cy ad) cy A Q) args s 0 0 A) (F0 m 33 ls [.int xs1, .int xs0]) := by
  intro x3 xs0 xs1 u H locs ls hw h hl
  obtain ⟨⟨hx, hb, hml, hown, hts⟩, hK, hA⟩ := id C
  unfold wX0_setPlaces_b33 at hw
  refine lv_iadd hx hb dX0_setPlaces_33 ?_
  refine lv_istore_n (lv' := [(2, .int (xs0 + xs1)), (0, .ref (ad 10)), (1, .ref (ad 9)), (3, .int x3)]) hx hb dX0_setPlaces_34 rfl hl (by decide) rfl (fun ls hl => ?_)
  refine lv_iinc (v := x3 + 1) (lv' := [(3, .int (x3 + 1)), (2, .int (xs0 + xs1)), (0, .ref (ad 10)), (1, .ref (ad 9))]) hx hb dX0_setPlaces_35 hl (k := 3) rfl rfl (by decide) rfl (fun ls hl => ?_)
  refine lv_goto (tgt := 4) hx hb dX0_setPlaces_38 (by decide) ?_
  exact g4 (xs0 + xs1) (x3 + 1) _ _ _ _ hw h (lv_sub hl [2, 3, 1, 0] rfl)
def wX0_setPlaces_B4 (K4 : Int32 → Int32 → ST → Prop) (Q : ST → Prop) (x2 : Int32) (x3 : Int32) (u : ST) : Prop :=
  (((gI u 17) ≤ x3 → Q u) ∧ (¬ (gI u 17) ≤ x3 → (vp_in x3 1000 ∧ wX4_isLeaf x3 (sR u 15 x3.toNatClampNeg x2) (fun r_1 u_2 => ((r_1 = 0 → wX0_setPlaces_b33 K4 Q x3 x2 3 u_2) ∧ (¬ r_1 = 0 → wX0_setPlaces_b33 K4 Q x3 x2 1 u_2))))))
set_option maxHeartbeats 4000000 in
set_option maxRecDepth 100000 in
theorem kX0_setPlaces_B4 {p : Program} {l : Launch} {e : Env} {s : State} {m : MethodId} {args : Array Value} {below : List Frame} {meth : Method} {c : Code} {D : va_G} {cy : CY} {A : Nat → Prop} {ad : Nat → Nat} {K4 : Int32 → Int32 → ST → Prop} {Q : ST → Prop} (C : kC p m c cX0_setPlaces 4 s args RX0 D cy A) (hr : meth.sig.returnType = none) (hlk : meth.locks = false) (g4 : ∀ (x2 : Int32) (x3 : Int32) (u : ST) (H : Heap) (locs : List Loc) (ls : Array Slot), K4 x2 x3 u → kH D (cW cy ad) A s u H locs → lv_has ls 4 [(0, .ref (ad 10)), (1, .ref (ad 9)), (2, .int x2), (3, .int x3)] → W p l e (kRm 1) s m args below meth c H locs 0 0 (MQ below (kQv D (cW cy ad) cy A Q) args s 0 0 A) (F0 m 4 ls [])) : ∀ (x2 : Int32) (x3 : Int32) (u : ST) (H : Heap) (locs : List Loc) (ls : Array Slot), wX0_setPlaces_B4 K4 Q x2 x3 u → kH D (cW cy ad) A s u H locs → lv_has ls 4 [(0, .ref (ad 10)), (1, .ref (ad 9)), (2, .int x2), (3, .int x3)] → W p l e (kRm 1) s m args below meth c H locs 0 0 (MQ below (kQv D (cW cy ad) cy A Q) args s 0 0 A) (F0 m 4 ls []) := by
  intro x2 x3 u H locs ls hw h hl
  obtain ⟨⟨hx, hb, hml, hown, hts⟩, hK, hA⟩ := id C
  unfold wX0_setPlaces_B4 at hw
  refine lv_iload_n hx hb dX0_setPlaces_4 rfl (lv_at hl 3 rfl) ?_
  refine lv_aload_n hx hb dX0_setPlaces_5 rfl (lv_at hl 1 rfl) ?_
  refine kget C h 9 rfl rfl inBX4 2 (Nat.le_of_ble_eq_true rfl) wi_fl_X0_26 rfl dX0_setPlaces_6 ?_
  refine lv_icmp_ge (tgt := 41) hx hb dX0_setPlaces_9 (by decide) (fun c_9 => ?_) (fun c_9 => ?_)
  · have hw := hw.1 c_9
    exact kretV C hr hlk h hw dX0_setPlaces_41
  · have hw := hw.2 c_9
    refine lv_aload_n hx hb dX0_setPlaces_12 rfl (lv_at hl 0 rfl) ?_
    refine kget C h 10 rfl rfl inBX0 1 (Nat.le_of_ble_eq_true rfl) wi_fl_X0_15 rfl dX0_setPlaces_13 ?_
    refine lv_iload_n hx hb dX0_setPlaces_16 rfl (lv_at hl 3 rfl) ?_
    refine lv_iload_n hx hb dX0_setPlaces_17 rfl (lv_at hl 2 rfl) ?_
    obtain ⟨i_18, hw⟩ := hw
    refine kiast C h 32 rfl i_18 (cS_R cy ad u x3.toNatClampNeg x2 15 (Nat.le_of_ble_eq_true rfl)) dX0_setPlaces_18 (fun H locs h => ?_)
    refine lv_iload_n hx hb dX0_setPlaces_19 rfl (lv_at hl 2 rfl) ?_
    refine lv_aload_n hx hb dX0_setPlaces_20 rfl (lv_at hl 1 rfl) ?_
    refine lv_iload_n hx hb dX0_setPlaces_21 rfl (lv_at hl 3 rfl) ?_
    refine kVi (As := [.int x3]) (rest := [.int x2]) C h (cwV 1 hts (gd_V wi_ml_X0_38 wi_im_X4_isLeaf wi_se_X4_isLeaf wi_in_X4 wi_co_X4_isLeaf) rfl rfl rfl hd_X4_isLeaf ⟨Nat.le_of_ble_eq_true rfl, Nat.le_of_ble_eq_true rfl⟩) 9 rfl rfl rfl (mX4_isLeaf l D cy ad x3 _ _ hw) rfl hl.1 rfl (Nat.le_of_ble_eq_true rfl) ⟨Nat.zero_le _, Nat.zero_le _⟩ dX0_setPlaces_22 (fun r_1 u_2 H locs hw h => ?_)
    refine lv_if_eq (tgt := 32) hx hb dX0_setPlaces_25 (by decide) (fun c_25 => ?_) (fun c_25 => ?_)
    · have hw := hw.1 c_25
      refine lv_iconst (v := 3) hx hb dX0_setPlaces_32 (by decide) ?_
      exact kX0_setPlaces_b33 C hr hlk g4 x3 x2 3 _ _ _ _ hw h (lv_sub hl [0, 1, 3] rfl)
    · have hw := hw.2 c_25
      refine lv_iconst (v := 1) hx hb dX0_setPlaces_28 (by decide) ?_
      refine lv_goto (tgt := 33) hx hb dX0_setPlaces_29 (by decide) ?_
      exact kX0_setPlaces_b33 C hr hlk g4 x3 x2 1 _ _ _ _ hw h (lv_sub hl [0, 1, 3] rfl)
def wX0_setPlaces_L4 (Q : ST → Prop) : Nat → Int32 → Int32 → ST → Prop
  | 0, _, _, _ => False
  | n + 1, x2, x3, u => wX0_setPlaces_B4 (wX0_setPlaces_L4 Q n) Q x2 x3 u
set_option maxHeartbeats 4000000 in
theorem kX0_setPlaces_L4 {p : Program} {l : Launch} {e : Env} {s : State} {m : MethodId} {args : Array Value} {below : List Frame} {meth : Method} {c : Code} {D : va_G} {cy : CY} {A : Nat → Prop} {ad : Nat → Nat} {Q : ST → Prop} (C : kC p m c cX0_setPlaces 4 s args RX0 D cy A) (hr : meth.sig.returnType = none) (hlk : meth.locks = false) : ∀ n : Nat, ∀ (x2 : Int32) (x3 : Int32) (u : ST) (H : Heap) (locs : List Loc) (ls : Array Slot), wX0_setPlaces_L4 Q n x2 x3 u → kH D (cW cy ad) A s u H locs → lv_has ls 4 [(0, .ref (ad 10)), (1, .ref (ad 9)), (2, .int x2), (3, .int x3)] → W p l e (kRm 1) s m args below meth c H locs 0 0 (MQ below (kQv D (cW cy ad) cy A Q) args s 0 0 A) (F0 m 4 ls []) := by
  intro n
  induction n with
  | zero => intro x2 x3 u H locs ls hw; exact False.elim hw
  | succ n ih => exact kX0_setPlaces_B4 C hr hlk ih
def wX0_setPlaces (u : ST) (Q : ST → Prop) : Prop :=
  (∃ n : Nat, wX0_setPlaces_L4 Q n 0 0 u)
set_option maxHeartbeats 4000000 in
set_option maxRecDepth 100000 in
theorem mX0_setPlaces (l : Launch) (D : va_G) (cy : CY) (ad : Nat → Nat) (u : ST) (sz : Nat) {Q : ST → Prop} (hw : wX0_setPlaces  u Q) : Met l yX0_setPlaces (wM yX0_setPlaces cX0_setPlaces 4 none) (kRm 1) (kPc D (cW cy ad) cy u sz [.ref (ad 10), .ref (ad 9)]) (kQv D (cW cy ad) cy (va_A (cW cy ad u) sz) Q) 0 0 (va_A (cW cy ad u) sz) := by
  refine kMet pn_X0_setPlaces (Nat.le_of_ble_eq_true rfl) (fun p e s m below meth c ls hsz C hr hlk hex h hl => ?_)
  have hl : lv_has ls 4 [(0, .ref (ad 10)), (1, .ref (ad 9))] := hl
  obtain ⟨⟨hx, hb, hml, hown, hts⟩, hK, hA⟩ := id C
  unfold wX0_setPlaces at hw
  have h : kH D (cW cy ad) (va_A (cW cy ad u) sz) s u s.heap [] := h
  refine lv_iconst (v := 0) hx hb dX0_setPlaces_0 (by decide) ?_
  refine lv_istore_n (lv' := [(2, .int 0), (0, .ref (ad 10)), (1, .ref (ad 9))]) hx hb dX0_setPlaces_1 rfl hl (by decide) rfl (fun ls hl => ?_)
  refine lv_iconst (v := 0) hx hb dX0_setPlaces_2 (by decide) ?_
  refine lv_istore_n (lv' := [(3, .int 0), (2, .int 0), (0, .ref (ad 10)), (1, .ref (ad 9))]) hx hb dX0_setPlaces_3 rfl hl (by decide) rfl (fun ls hl => ?_)
  obtain ⟨n, hw⟩ := hw
  exact kX0_setPlaces_L4 C hr hlk n 0 0 _ _ _ _ hw h (lv_sub hl [2, 3, 1, 0] rfl)

def wX0_write_b67 (K12 : Int32 → ST → Prop) (Q : ST → Prop) (x2 : Int32) (u : ST) : Prop :=
  K12 (x2 + 1) u
set_option maxHeartbeats 4000000 in
set_option maxRecDepth 100000 in
theorem kX0_write_b67 {p : Program} {l : Launch} {e : Env} {s : State} {m : MethodId} {args : Array Value} {below : List Frame} {meth : Method} {c : Code} {D : va_G} {cy : CY} {A : Nat → Prop} {ad : Nat → Nat} {K12 : Int32 → ST → Prop} {Q : ST → Prop} (C : kC p m c cX0_write 4 s args RX0 D cy A) (hr : meth.sig.returnType = none) (hlk : meth.locks = false) (g12 : ∀ (x2 : Int32) (u : ST) (H : Heap) (locs : List Loc) (ls : Array Slot), K12 x2 u → kH D (cW cy ad) A s u H locs → lv_has ls 4 [(0, .ref (ad 10)), (1, .ref (ad 9)), (2, .int x2)] → W p l e (kRm 2) s m args below meth c H locs 0 0 (MQ below (kQv D (cW cy ad) cy A Q) args s 0 0 A) (F0 m 12 ls [])) : ∀ (x2 : Int32) (u : ST) (H : Heap) (locs : List Loc) (ls : Array Slot), wX0_write_b67 K12 Q x2 u → kH D (cW cy ad) A s u H locs → lv_has ls 4 [(0, .ref (ad 10)), (1, .ref (ad 9)), (2, .int x2)] → W p l e (kRm 2) s m args below meth c H locs 0 0 (MQ below (kQv D (cW cy ad) cy A Q) args s 0 0 A) (F0 m 67 ls []) := by
  intro x2 u H locs ls hw h hl
  obtain ⟨⟨hx, hb, hml, hown, hts⟩, hK, hA⟩ := id C
  unfold wX0_write_b67 at hw
  refine lv_iinc (v := x2 + 1) (lv' := [(2, .int (x2 + 1)), (0, .ref (ad 10)), (1, .ref (ad 9))]) hx hb dX0_write_67 hl (k := 2) rfl rfl (by decide) rfl (fun ls hl => ?_)
  refine lv_goto (tgt := 12) hx hb dX0_write_70 (by decide) ?_
  exact g12 (x2 + 1) _ _ _ _ hw h (lv_sub hl [1, 2, 0] rfl)
def wX0_write_B12 (K12 : Int32 → ST → Prop) (Q : ST → Prop) (x2 : Int32) (u : ST) : Prop :=
  (((gI u 17) ≤ x2 → Q u) ∧ (¬ (gI u 17) ≤ x2 → (vp_in x2 1000 ∧ wX0_append (gR u 12 x2.toNatClampNeg) u (fun u_2 => wX4_isLeaf x2 u_2 (fun r_3 u_4 => ((¬ r_3 = 0 → wX0_write_b67 K12 Q x2 u_4) ∧ (r_3 = 0 → (vp_in x2 1000 ∧ (vp_in (gR u_4 13 x2.toNatClampNeg) 1000 ∧ (∀ x3_5 : Int32, x3_5 = gR u_4 15 (gR u_4 13 x2.toNatClampNeg).toNatClampNeg → wX0_append (x3_5 >>> (8 &&& 31)) u_4 (fun u_7 => wX0_append (x3_5 &&& 255) u_7 (fun u_9 => wX0_write_b67 K12 Q x2 u_9))))))))))))
set_option maxHeartbeats 4000000 in
set_option maxRecDepth 100000 in
theorem kX0_write_B12 {p : Program} {l : Launch} {e : Env} {s : State} {m : MethodId} {args : Array Value} {below : List Frame} {meth : Method} {c : Code} {D : va_G} {cy : CY} {A : Nat → Prop} {ad : Nat → Nat} {K12 : Int32 → ST → Prop} {Q : ST → Prop} (C : kC p m c cX0_write 4 s args RX0 D cy A) (hr : meth.sig.returnType = none) (hlk : meth.locks = false) (g12 : ∀ (x2 : Int32) (u : ST) (H : Heap) (locs : List Loc) (ls : Array Slot), K12 x2 u → kH D (cW cy ad) A s u H locs → lv_has ls 4 [(0, .ref (ad 10)), (1, .ref (ad 9)), (2, .int x2)] → W p l e (kRm 2) s m args below meth c H locs 0 0 (MQ below (kQv D (cW cy ad) cy A Q) args s 0 0 A) (F0 m 12 ls [])) : ∀ (x2 : Int32) (u : ST) (H : Heap) (locs : List Loc) (ls : Array Slot), wX0_write_B12 K12 Q x2 u → kH D (cW cy ad) A s u H locs → lv_has ls 4 [(0, .ref (ad 10)), (1, .ref (ad 9)), (2, .int x2)] → W p l e (kRm 2) s m args below meth c H locs 0 0 (MQ below (kQv D (cW cy ad) cy A Q) args s 0 0 A) (F0 m 12 ls []) := by
  intro x2 u H locs ls hw h hl
  obtain ⟨⟨hx, hb, hml, hown, hts⟩, hK, hA⟩ := id C
  unfold wX0_write_B12 at hw
  refine lv_iload_n hx hb dX0_write_12 rfl (lv_at hl 2 rfl) ?_
  refine lv_aload_n hx hb dX0_write_13 rfl (lv_at hl 1 rfl) ?_
  refine kget C h 9 rfl rfl inBX4 2 (Nat.le_of_ble_eq_true rfl) wi_fl_X0_26 rfl dX0_write_14 ?_
  refine lv_icmp_ge (tgt := 73) hx hb dX0_write_17 (by decide) (fun c_17 => ?_) (fun c_17 => ?_)
  · have hw := hw.1 c_17
    exact kretV C hr hlk h hw dX0_write_73
  · have hw := hw.2 c_17
    refine lv_aload_n hx hb dX0_write_20 rfl (lv_at hl 0 rfl) ?_
    refine lv_aload_n hx hb dX0_write_21 rfl (lv_at hl 1 rfl) ?_
    refine kget C h 9 rfl rfl inBX4 0 (Nat.le_of_ble_eq_true rfl) wi_fl_X0_31 rfl dX0_write_22 ?_
    refine lv_iload_n hx hb dX0_write_25 rfl (lv_at hl 2 rfl) ?_
    obtain ⟨i_26, hw⟩ := hw
    refine kiald C h 29 rfl i_26 dX0_write_26 ?_
    refine kVv (As := [.int (gR u 12 x2.toNatClampNeg)]) (rest := []) C h (cwV 1 hts (gd_V wi_ml_X0_34 wi_im_X0_append wi_se_X0_append wi_in_X0 wi_co_X0_append) rfl rfl rfl hd_X0_append ⟨Nat.le_of_ble_eq_true rfl, Nat.le_of_ble_eq_true rfl⟩) 10 rfl rfl rfl (mX0_append l D cy ad (gR u 12 x2.toNatClampNeg) _ _ hw) rfl hl.1 rfl (Nat.le_of_ble_eq_true rfl) ⟨Nat.zero_le _, Nat.zero_le _⟩ dX0_write_27 (fun u_2 H locs hw h => ?_)
    refine lv_aload_n hx hb dX0_write_30 rfl (lv_at hl 1 rfl) ?_
    refine lv_iload_n hx hb dX0_write_31 rfl (lv_at hl 2 rfl) ?_
    refine kVi (As := [.int x2]) (rest := []) C h (cwV 1 hts (gd_V wi_ml_X0_38 wi_im_X4_isLeaf wi_se_X4_isLeaf wi_in_X4 wi_co_X4_isLeaf) rfl rfl rfl hd_X4_isLeaf ⟨Nat.le_of_ble_eq_true rfl, Nat.le_of_ble_eq_true rfl⟩) 9 rfl rfl rfl (mX4_isLeaf l D cy ad x2 _ _ hw) rfl hl.1 rfl (Nat.le_of_ble_eq_true rfl) ⟨Nat.zero_le _, Nat.zero_le _⟩ dX0_write_32 (fun r_3 u_4 H locs hw h => ?_)
    refine lv_if_ne (tgt := 67) hx hb dX0_write_35 (by decide) (fun c_35 => ?_) (fun c_35 => ?_)
    · have hw := hw.1 c_35
      exact kX0_write_b67 C hr hlk g12 x2 _ _ _ _ hw h (lv_sub hl [0, 1, 2] rfl)
    · have hw := hw.2 c_35
      refine lv_aload_n hx hb dX0_write_38 rfl (lv_at hl 0 rfl) ?_
      refine kget C h 10 rfl rfl inBX0 1 (Nat.le_of_ble_eq_true rfl) wi_fl_X0_15 rfl dX0_write_39 ?_
      refine lv_aload_n hx hb dX0_write_42 rfl (lv_at hl 1 rfl) ?_
      refine kget C h 9 rfl rfl inBX4 1 (Nat.le_of_ble_eq_true rfl) wi_fl_X0_42 rfl dX0_write_43 ?_
      refine lv_iload_n hx hb dX0_write_46 rfl (lv_at hl 2 rfl) ?_
      obtain ⟨i_47, hw⟩ := hw
      refine kiald C h 30 rfl i_47 dX0_write_47 ?_
      obtain ⟨i_48, hw⟩ := hw
      refine kiald C h 32 rfl i_48 dX0_write_48 ?_
      refine lv_topi (fun x3_5 ex3_5 => ?_)
      have hw := hw x3_5 ex3_5
      refine lv_istore_n (lv' := [(3, .int x3_5), (0, .ref (ad 10)), (1, .ref (ad 9)), (2, .int x2)]) hx hb dX0_write_49 rfl hl (by decide) rfl (fun ls hl => ?_)
      refine lv_aload_n hx hb dX0_write_50 rfl (lv_at hl 1 rfl) ?_
      refine lv_iload_n hx hb dX0_write_51 rfl (lv_at hl 0 rfl) ?_
      refine lv_bipush (v := 8) hx hb dX0_write_52 (by decide) ?_
      refine lv_ishr hx hb dX0_write_54 ?_
      refine kVv (As := [.int (x3_5 >>> (8 &&& 31))]) (rest := []) C h (cwV 1 hts (gd_V wi_ml_X0_34 wi_im_X0_append wi_se_X0_append wi_in_X0 wi_co_X0_append) rfl rfl rfl hd_X0_append ⟨Nat.le_of_ble_eq_true rfl, Nat.le_of_ble_eq_true rfl⟩) 10 rfl rfl rfl (mX0_append l D cy ad (x3_5 >>> (8 &&& 31)) _ _ hw) rfl hl.1 rfl (Nat.le_of_ble_eq_true rfl) ⟨Nat.zero_le _, Nat.zero_le _⟩ dX0_write_55 (fun u_7 H locs hw h => ?_)
      refine lv_aload_n hx hb dX0_write_58 rfl (lv_at hl 1 rfl) ?_
      refine lv_iload_n hx hb dX0_write_59 rfl (lv_at hl 0 rfl) ?_
      refine lv_sipush (v := 255) hx hb dX0_write_60 (by decide) ?_
      refine lv_iand hx hb dX0_write_63 ?_
      refine kVv (As := [.int (x3_5 &&& 255)]) (rest := []) C h (cwV 1 hts (gd_V wi_ml_X0_34 wi_im_X0_append wi_se_X0_append wi_in_X0 wi_co_X0_append) rfl rfl rfl hd_X0_append ⟨Nat.le_of_ble_eq_true rfl, Nat.le_of_ble_eq_true rfl⟩) 10 rfl rfl rfl (mX0_append l D cy ad (x3_5 &&& 255) _ _ hw) rfl hl.1 rfl (Nat.le_of_ble_eq_true rfl) ⟨Nat.zero_le _, Nat.zero_le _⟩ dX0_write_64 (fun u_9 H locs hw h => ?_)
      exact kX0_write_b67 C hr hlk g12 x2 _ _ _ _ hw h (lv_sub hl [1, 2, 3] rfl)
def wX0_write_L12 (Q : ST → Prop) : Nat → Int32 → ST → Prop
  | 0, _, _ => False
  | n + 1, x2, u => wX0_write_B12 (wX0_write_L12 Q n) Q x2 u
set_option maxHeartbeats 4000000 in
theorem kX0_write_L12 {p : Program} {l : Launch} {e : Env} {s : State} {m : MethodId} {args : Array Value} {below : List Frame} {meth : Method} {c : Code} {D : va_G} {cy : CY} {A : Nat → Prop} {ad : Nat → Nat} {Q : ST → Prop} (C : kC p m c cX0_write 4 s args RX0 D cy A) (hr : meth.sig.returnType = none) (hlk : meth.locks = false) : ∀ n : Nat, ∀ (x2 : Int32) (u : ST) (H : Heap) (locs : List Loc) (ls : Array Slot), wX0_write_L12 Q n x2 u → kH D (cW cy ad) A s u H locs → lv_has ls 4 [(0, .ref (ad 10)), (1, .ref (ad 9)), (2, .int x2)] → W p l e (kRm 2) s m args below meth c H locs 0 0 (MQ below (kQv D (cW cy ad) cy A Q) args s 0 0 A) (F0 m 12 ls []) := by
  intro n
  induction n with
  | zero => intro x2 u H locs ls hw; exact False.elim hw
  | succ n ih => exact kX0_write_B12 C hr hlk ih
def wX0_write (u : ST) (Q : ST → Prop) : Prop :=
  wX0_setPlaces  u (fun u_2 => (∃ n : Nat, wX0_write_L12 Q n 0 (sI u_2 21 0)))
set_option maxHeartbeats 4000000 in
set_option maxRecDepth 100000 in
theorem mX0_write (l : Launch) (D : va_G) (cy : CY) (ad : Nat → Nat) (u : ST) (sz : Nat) {Q : ST → Prop} (hw : wX0_write  u Q) : Met l yX0_write (wM yX0_write cX0_write 4 none) (kRm 2) (kPc D (cW cy ad) cy u sz [.ref (ad 10), .ref (ad 9)]) (kQv D (cW cy ad) cy (va_A (cW cy ad u) sz) Q) 0 0 (va_A (cW cy ad u) sz) := by
  refine kMet pn_X0_write (Nat.le_of_ble_eq_true rfl) (fun p e s m below meth c ls hsz C hr hlk hex h hl => ?_)
  have hl : lv_has ls 4 [(0, .ref (ad 10)), (1, .ref (ad 9))] := hl
  obtain ⟨⟨hx, hb, hml, hown, hts⟩, hK, hA⟩ := id C
  unfold wX0_write at hw
  have h : kH D (cW cy ad) (va_A (cW cy ad u) sz) s u s.heap [] := h
  refine lv_aload_n hx hb dX0_write_0 rfl (lv_at hl 0 rfl) ?_
  refine lv_aload_n hx hb dX0_write_1 rfl (lv_at hl 1 rfl) ?_
  refine kVv (As := [.ref (ad 9)]) (rest := []) C h (cwV 1 hts (gd_V wi_ml_X0_18 wi_im_X0_setPlaces wi_se_X0_setPlaces wi_in_X0 wi_co_X0_setPlaces) rfl rfl rfl hd_X0_setPlaces ⟨Nat.le_of_ble_eq_true rfl, Nat.le_of_ble_eq_true rfl⟩) 10 rfl rfl rfl (mX0_setPlaces l D cy ad  _ _ hw) rfl hl.1 rfl (Nat.le_of_ble_eq_true rfl) ⟨Nat.zero_le _, Nat.zero_le _⟩ dX0_write_2 (fun u_2 H locs hw h => ?_)
  refine lv_aload_n hx hb dX0_write_5 rfl (lv_at hl 0 rfl) ?_
  refine lv_iconst (v := 0) hx hb dX0_write_6 (by decide) ?_
  refine kput C h 10 rfl rfl inBX0 tyX0_ok nmX0 2 (Nat.le_of_ble_eq_true rfl) wi_fl_X0_22 rfl rfl rfl (Nat.le_of_ble_eq_true rfl) (cS_CD_2 cy ad u_2 0) dX0_write_7 (fun H locs h => ?_)
  refine lv_iconst (v := 0) hx hb dX0_write_10 (by decide) ?_
  refine lv_istore_n (lv' := [(2, .int 0), (0, .ref (ad 10)), (1, .ref (ad 9))]) hx hb dX0_write_11 rfl hl (by decide) rfl (fun ls hl => ?_)
  obtain ⟨n, hw⟩ := hw
  exact kX0_write_L12 C hr hlk n 0 _ _ _ _ hw h (lv_sub hl [1, 2, 0] rfl)

def wX0_follow_b85 (K5 : Int32 → Int32 → Int32 → Int32 → ST → Prop) (Q : Int32 → ST → Prop) (x1 : Int32) (x2 : Int32) (x4 : Int32) (xs0 : Int32) (u : ST) : Prop :=
  K5 x1 x2 xs0 (x4 + 1) u
set_option maxHeartbeats 4000000 in
set_option maxRecDepth 100000 in
theorem kX0_follow_b85 {p : Program} {l : Launch} {e : Env} {s : State} {m : MethodId} {args : Array Value} {below : List Frame} {meth : Method} {c : Code} {D : va_G} {cy : CY} {A : Nat → Prop} {ad : Nat → Nat} {K5 : Int32 → Int32 → Int32 → Int32 → ST → Prop} {Q : Int32 → ST → Prop} (C : kC p m c cX0_follow 6 s args RX0 D cy A) (hr : meth.sig.returnType = some .int) (hlk : meth.locks = false) (g5 : ∀ (x1 : Int32) (x2 : Int32) (x3 : Int32) (x4 : Int32) (u : ST) (H : Heap) (locs : List Loc) (ls : Array Slot), K5 x1 x2 x3 x4 u → kH D (cW cy ad) A s u H locs → lv_has ls 6 [(0, .ref (ad 10)), (1, .int x1), (2, .int x2), (3, .int x3), (4, .int x4)] → W p l e (kRm 0) s m args below meth c H locs 0 0 (MQ below (kQi D (cW cy ad) cy A Q) args s 0 0 A) (F0 m 5 ls [])) : ∀ (x1 : Int32) (x2 : Int32) (x4 : Int32) (xs0 : Int32) (u : ST) (H : Heap) (locs : List Loc) (ls : Array Slot), wX0_follow_b85 K5 Q x1 x2 x4 xs0 u → kH D (cW cy ad) A s u H locs → lv_has ls 6 [(0, .ref (ad 10)), (1, .int x1), (2, .int x2), (4, .int x4)] → W p l e (kRm 0) s m args below meth c H locs 0 0 (MQ below (kQi D (cW cy ad) cy A Q) args s 0 0 A) (F0 m 85 ls [.int xs0]) := by
  intro x1 x2 x4 xs0 u H locs ls hw h hl
  obtain ⟨⟨hx, hb, hml, hown, hts⟩, hK, hA⟩ := id C
  unfold wX0_follow_b85 at hw
  refine lv_istore_n (lv' := [(3, .int xs0), (0, .ref (ad 10)), (1, .int x1), (2, .int x2), (4, .int x4)]) hx hb dX0_follow_85 rfl hl (by decide) rfl (fun ls hl => ?_)
  refine lv_iinc (v := x4 + 1) (lv' := [(4, .int (x4 + 1)), (3, .int xs0), (0, .ref (ad 10)), (1, .int x1), (2, .int x2)]) hx hb dX0_follow_86 hl (k := 4) rfl rfl (by decide) rfl (fun ls hl => ?_)
  refine lv_goto (tgt := 5) hx hb dX0_follow_89 (by decide) ?_
  exact g5 x1 x2 xs0 (x4 + 1) _ _ _ _ hw h (lv_sub hl [2, 3, 4, 1, 0] rfl)
def wX0_follow_b52 (K5 : Int32 → Int32 → Int32 → Int32 → ST → Prop) (Q : Int32 → ST → Prop) (x1 : Int32) (x2 : Int32) (x3 : Int32) (x4 : Int32) (xs0 : Int32) (u : ST) : Prop :=
  ((xs0 = 0 → (vp_in (x3 + 1) 2000 ∧ (vp_in (x3 + 2) 2000 ∧ wX0_follow_b85 K5 Q x1 x2 x4 (((gR u 14 (x3 + 1).toNatClampNeg) <<< (8 &&& 31)) ||| (gR u 14 (x3 + 2).toNatClampNeg)) u))) ∧ (¬ xs0 = 0 → wX0_follow_b85 K5 Q x1 x2 x4 (x3 + 3) u))
set_option maxHeartbeats 4000000 in
set_option maxRecDepth 100000 in
theorem kX0_follow_b52 {p : Program} {l : Launch} {e : Env} {s : State} {m : MethodId} {args : Array Value} {below : List Frame} {meth : Method} {c : Code} {D : va_G} {cy : CY} {A : Nat → Prop} {ad : Nat → Nat} {K5 : Int32 → Int32 → Int32 → Int32 → ST → Prop} {Q : Int32 → ST → Prop} (C : kC p m c cX0_follow 6 s args RX0 D cy A) (hr : meth.sig.returnType = some .int) (hlk : meth.locks = false) (g5 : ∀ (x1 : Int32) (x2 : Int32) (x3 : Int32) (x4 : Int32) (u : ST) (H : Heap) (locs : List Loc) (ls : Array Slot), K5 x1 x2 x3 x4 u → kH D (cW cy ad) A s u H locs → lv_has ls 6 [(0, .ref (ad 10)), (1, .int x1), (2, .int x2), (3, .int x3), (4, .int x4)] → W p l e (kRm 0) s m args below meth c H locs 0 0 (MQ below (kQi D (cW cy ad) cy A Q) args s 0 0 A) (F0 m 5 ls [])) : ∀ (x1 : Int32) (x2 : Int32) (x3 : Int32) (x4 : Int32) (xs0 : Int32) (u : ST) (H : Heap) (locs : List Loc) (ls : Array Slot), wX0_follow_b52 K5 Q x1 x2 x3 x4 xs0 u → kH D (cW cy ad) A s u H locs → lv_has ls 6 [(0, .ref (ad 10)), (1, .int x1), (2, .int x2), (3, .int x3), (4, .int x4)] → W p l e (kRm 0) s m args below meth c H locs 0 0 (MQ below (kQi D (cW cy ad) cy A Q) args s 0 0 A) (F0 m 52 ls [.int xs0]) := by
  intro x1 x2 x3 x4 xs0 u H locs ls hw h hl
  obtain ⟨⟨hx, hb, hml, hown, hts⟩, hK, hA⟩ := id C
  unfold wX0_follow_b52 at hw
  refine lv_istore (lv' := [(5, .int xs0), (0, .ref (ad 10)), (1, .int x1), (2, .int x2), (3, .int x3), (4, .int x4)]) hx hb dX0_follow_52 hl (by decide) rfl (fun ls hl => ?_)
  refine lv_iload hx hb dX0_follow_54 (lv_at hl 0 rfl) ?_
  refine lv_if_eq (tgt := 65) hx hb dX0_follow_56 (by decide) (fun c_56 => ?_) (fun c_56 => ?_)
  · have hw := hw.1 c_56
    refine lv_aload_n hx hb dX0_follow_65 rfl (lv_at hl 1 rfl) ?_
    refine kget C h 10 rfl rfl inBX0 0 (Nat.le_of_ble_eq_true rfl) wi_fl_X0_9 rfl dX0_follow_66 ?_
    refine lv_iload_n hx hb dX0_follow_69 rfl (lv_at hl 4 rfl) ?_
    refine lv_iconst (v := 1) hx hb dX0_follow_70 (by decide) ?_
    refine lv_iadd hx hb dX0_follow_71 ?_
    obtain ⟨i_72, hw⟩ := hw
    refine kiald C h 31 rfl i_72 dX0_follow_72 ?_
    refine lv_bipush (v := 8) hx hb dX0_follow_73 (by decide) ?_
    refine lv_ishl hx hb dX0_follow_75 ?_
    refine lv_aload_n hx hb dX0_follow_76 rfl (lv_at hl 1 rfl) ?_
    refine kget C h 10 rfl rfl inBX0 0 (Nat.le_of_ble_eq_true rfl) wi_fl_X0_9 rfl dX0_follow_77 ?_
    refine lv_iload_n hx hb dX0_follow_80 rfl (lv_at hl 4 rfl) ?_
    refine lv_iconst (v := 2) hx hb dX0_follow_81 (by decide) ?_
    refine lv_iadd hx hb dX0_follow_82 ?_
    obtain ⟨i_83, hw⟩ := hw
    refine kiald C h 31 rfl i_83 dX0_follow_83 ?_
    refine lv_ior hx hb dX0_follow_84 ?_
    exact kX0_follow_b85 C hr hlk g5 x1 x2 x4 (((gR u 14 (x3 + 1).toNatClampNeg) <<< (8 &&& 31)) ||| (gR u 14 (x3 + 2).toNatClampNeg)) _ _ _ _ hw h (lv_sub hl [1, 2, 3, 5] rfl)
  · have hw := hw.2 c_56
    refine lv_iload_n hx hb dX0_follow_59 rfl (lv_at hl 4 rfl) ?_
    refine lv_iconst (v := 3) hx hb dX0_follow_60 (by decide) ?_
    refine lv_iadd hx hb dX0_follow_61 ?_
    refine lv_goto (tgt := 85) hx hb dX0_follow_62 (by decide) ?_
    exact kX0_follow_b85 C hr hlk g5 x1 x2 x4 (x3 + 3) _ _ _ _ hw h (lv_sub hl [1, 2, 3, 5] rfl)
def wX0_follow_b92 (Q : Int32 → ST → Prop) (x2 : Int32) (x3 : Int32) (x4 : Int32) (u : ST) : Prop :=
  ((x2 = 0 → (((gI u 21) ≤ x3 → Q (-1) u) ∧ (¬ (gI u 21) ≤ x3 → (vp_in x3 2000 ∧ Q ((gR u 14 x3.toNatClampNeg) - 128) u)))) ∧ (¬ x2 = 0 → Q x4 u))
set_option maxHeartbeats 4000000 in
set_option maxRecDepth 100000 in
theorem kX0_follow_b92 {p : Program} {l : Launch} {e : Env} {s : State} {m : MethodId} {args : Array Value} {below : List Frame} {meth : Method} {c : Code} {D : va_G} {cy : CY} {A : Nat → Prop} {ad : Nat → Nat} {Q : Int32 → ST → Prop} (C : kC p m c cX0_follow 6 s args RX0 D cy A) (hr : meth.sig.returnType = some .int) (hlk : meth.locks = false) : ∀ (x2 : Int32) (x3 : Int32) (x4 : Int32) (u : ST) (H : Heap) (locs : List Loc) (ls : Array Slot), wX0_follow_b92 Q x2 x3 x4 u → kH D (cW cy ad) A s u H locs → lv_has ls 6 [(0, .ref (ad 10)), (2, .int x2), (3, .int x3), (4, .int x4)] → W p l e (kRm 0) s m args below meth c H locs 0 0 (MQ below (kQi D (cW cy ad) cy A Q) args s 0 0 A) (F0 m 92 ls []) := by
  intro x2 x3 x4 u H locs ls hw h hl
  obtain ⟨⟨hx, hb, hml, hown, hts⟩, hK, hA⟩ := id C
  unfold wX0_follow_b92 at hw
  refine lv_iload_n hx hb dX0_follow_92 rfl (lv_at hl 1 rfl) ?_
  refine lv_if_eq (tgt := 99) hx hb dX0_follow_93 (by decide) (fun c_93 => ?_) (fun c_93 => ?_)
  · have hw := hw.1 c_93
    refine lv_iload_n hx hb dX0_follow_99 rfl (lv_at hl 2 rfl) ?_
    refine lv_aload_n hx hb dX0_follow_100 rfl (lv_at hl 0 rfl) ?_
    refine kget C h 10 rfl rfl inBX0 2 (Nat.le_of_ble_eq_true rfl) wi_fl_X0_22 rfl dX0_follow_101 ?_
    refine lv_icmp_ge (tgt := 120) hx hb dX0_follow_104 (by decide) (fun c_104 => ?_) (fun c_104 => ?_)
    · have hw := hw.1 c_104
      refine lv_iconst (v := (-1)) hx hb dX0_follow_120 (by decide) ?_
      exact kretI C hr hlk h hw dX0_follow_121
    · have hw := hw.2 c_104
      refine lv_aload_n hx hb dX0_follow_107 rfl (lv_at hl 0 rfl) ?_
      refine kget C h 10 rfl rfl inBX0 0 (Nat.le_of_ble_eq_true rfl) wi_fl_X0_9 rfl dX0_follow_108 ?_
      refine lv_iload_n hx hb dX0_follow_111 rfl (lv_at hl 2 rfl) ?_
      obtain ⟨i_112, hw⟩ := hw
      refine kiald C h 31 rfl i_112 dX0_follow_112 ?_
      refine lv_sipush (v := 128) hx hb dX0_follow_113 (by decide) ?_
      refine lv_isub hx hb dX0_follow_116 ?_
      refine lv_goto (tgt := 121) hx hb dX0_follow_117 (by decide) ?_
      exact kretI C hr hlk h hw dX0_follow_121
  · have hw := hw.2 c_93
    refine lv_iload hx hb dX0_follow_96 (lv_at hl 3 rfl) ?_
    exact kretI C hr hlk h hw dX0_follow_98
def wX0_follow_B5 (K5 : Int32 → Int32 → Int32 → Int32 → ST → Prop) (Q : Int32 → ST → Prop) (x1 : Int32) (x2 : Int32) (x3 : Int32) (x4 : Int32) (u : ST) : Prop :=
  ((16 ≤ x4 → wX0_follow_b92 Q x2 x3 x4 u) ∧ (¬ 16 ≤ x4 → (((gI u 21) ≤ (x3 + 2) → wX0_follow_b92 Q x2 x3 x4 u) ∧ (¬ (gI u 21) ≤ (x3 + 2) → (vp_in x3 2000 ∧ ((128 ≤ (gR u 14 x3.toNatClampNeg) → wX0_follow_b92 Q x2 x3 x4 u) ∧ (¬ 128 ≤ (gR u 14 x3.toNatClampNeg) → (vp_in x3 2000 ∧ ((((x1 >>> ((gR u 14 x3.toNatClampNeg) &&& 31)) &&& 1) = 0 → wX0_follow_b52 K5 Q x1 x2 x3 x4 0 u) ∧ (¬ ((x1 >>> ((gR u 14 x3.toNatClampNeg) &&& 31)) &&& 1) = 0 → wX0_follow_b52 K5 Q x1 x2 x3 x4 1 u))))))))))
set_option maxHeartbeats 4000000 in
set_option maxRecDepth 100000 in
theorem kX0_follow_B5 {p : Program} {l : Launch} {e : Env} {s : State} {m : MethodId} {args : Array Value} {below : List Frame} {meth : Method} {c : Code} {D : va_G} {cy : CY} {A : Nat → Prop} {ad : Nat → Nat} {K5 : Int32 → Int32 → Int32 → Int32 → ST → Prop} {Q : Int32 → ST → Prop} (C : kC p m c cX0_follow 6 s args RX0 D cy A) (hr : meth.sig.returnType = some .int) (hlk : meth.locks = false) (g5 : ∀ (x1 : Int32) (x2 : Int32) (x3 : Int32) (x4 : Int32) (u : ST) (H : Heap) (locs : List Loc) (ls : Array Slot), K5 x1 x2 x3 x4 u → kH D (cW cy ad) A s u H locs → lv_has ls 6 [(0, .ref (ad 10)), (1, .int x1), (2, .int x2), (3, .int x3), (4, .int x4)] → W p l e (kRm 0) s m args below meth c H locs 0 0 (MQ below (kQi D (cW cy ad) cy A Q) args s 0 0 A) (F0 m 5 ls [])) : ∀ (x1 : Int32) (x2 : Int32) (x3 : Int32) (x4 : Int32) (u : ST) (H : Heap) (locs : List Loc) (ls : Array Slot), wX0_follow_B5 K5 Q x1 x2 x3 x4 u → kH D (cW cy ad) A s u H locs → lv_has ls 6 [(0, .ref (ad 10)), (1, .int x1), (2, .int x2), (3, .int x3), (4, .int x4)] → W p l e (kRm 0) s m args below meth c H locs 0 0 (MQ below (kQi D (cW cy ad) cy A Q) args s 0 0 A) (F0 m 5 ls []) := by
  intro x1 x2 x3 x4 u H locs ls hw h hl
  obtain ⟨⟨hx, hb, hml, hown, hts⟩, hK, hA⟩ := id C
  unfold wX0_follow_B5 at hw
  refine lv_iload hx hb dX0_follow_5 (lv_at hl 4 rfl) ?_
  refine lv_bipush (v := 16) hx hb dX0_follow_7 (by decide) ?_
  refine lv_icmp_ge (tgt := 92) hx hb dX0_follow_9 (by decide) (fun c_9 => ?_) (fun c_9 => ?_)
  · have hw := hw.1 c_9
    exact kX0_follow_b92 C hr hlk x2 x3 x4 _ _ _ _ hw h (lv_sub hl [0, 2, 3, 4] rfl)
  · have hw := hw.2 c_9
    refine lv_iload_n hx hb dX0_follow_12 rfl (lv_at hl 3 rfl) ?_
    refine lv_iconst (v := 2) hx hb dX0_follow_13 (by decide) ?_
    refine lv_iadd hx hb dX0_follow_14 ?_
    refine lv_aload_n hx hb dX0_follow_15 rfl (lv_at hl 0 rfl) ?_
    refine kget C h 10 rfl rfl inBX0 2 (Nat.le_of_ble_eq_true rfl) wi_fl_X0_22 rfl dX0_follow_16 ?_
    refine lv_icmp_ge (tgt := 92) hx hb dX0_follow_19 (by decide) (fun c_19 => ?_) (fun c_19 => ?_)
    · have hw := hw.1 c_19
      exact kX0_follow_b92 C hr hlk x2 x3 x4 _ _ _ _ hw h (lv_sub hl [0, 2, 3, 4] rfl)
    · have hw := hw.2 c_19
      refine lv_aload_n hx hb dX0_follow_22 rfl (lv_at hl 0 rfl) ?_
      refine kget C h 10 rfl rfl inBX0 0 (Nat.le_of_ble_eq_true rfl) wi_fl_X0_9 rfl dX0_follow_23 ?_
      refine lv_iload_n hx hb dX0_follow_26 rfl (lv_at hl 3 rfl) ?_
      obtain ⟨i_27, hw⟩ := hw
      refine kiald C h 31 rfl i_27 dX0_follow_27 ?_
      refine lv_sipush (v := 128) hx hb dX0_follow_28 (by decide) ?_
      refine lv_icmp_ge (tgt := 92) hx hb dX0_follow_31 (by decide) (fun c_31 => ?_) (fun c_31 => ?_)
      · have hw := hw.1 c_31
        exact kX0_follow_b92 C hr hlk x2 x3 x4 _ _ _ _ hw h (lv_sub hl [0, 2, 3, 4] rfl)
      · have hw := hw.2 c_31
        refine lv_iload_n hx hb dX0_follow_34 rfl (lv_at hl 1 rfl) ?_
        refine lv_aload_n hx hb dX0_follow_35 rfl (lv_at hl 0 rfl) ?_
        refine kget C h 10 rfl rfl inBX0 0 (Nat.le_of_ble_eq_true rfl) wi_fl_X0_9 rfl dX0_follow_36 ?_
        refine lv_iload_n hx hb dX0_follow_39 rfl (lv_at hl 3 rfl) ?_
        obtain ⟨i_40, hw⟩ := hw
        refine kiald C h 31 rfl i_40 dX0_follow_40 ?_
        refine lv_ishr hx hb dX0_follow_41 ?_
        refine lv_iconst (v := 1) hx hb dX0_follow_42 (by decide) ?_
        refine lv_iand hx hb dX0_follow_43 ?_
        refine lv_if_eq (tgt := 51) hx hb dX0_follow_44 (by decide) (fun c_44 => ?_) (fun c_44 => ?_)
        · have hw := hw.1 c_44
          refine lv_iconst (v := 0) hx hb dX0_follow_51 (by decide) ?_
          exact kX0_follow_b52 C hr hlk g5 x1 x2 x3 x4 0 _ _ _ _ hw h (lv_sub hl [0, 1, 2, 3, 4] rfl)
        · have hw := hw.2 c_44
          refine lv_iconst (v := 1) hx hb dX0_follow_47 (by decide) ?_
          refine lv_goto (tgt := 52) hx hb dX0_follow_48 (by decide) ?_
          exact kX0_follow_b52 C hr hlk g5 x1 x2 x3 x4 1 _ _ _ _ hw h (lv_sub hl [0, 1, 2, 3, 4] rfl)
def wX0_follow_L5 (Q : Int32 → ST → Prop) : Nat → Int32 → Int32 → Int32 → Int32 → ST → Prop
  | 0, _, _, _, _, _ => False
  | n + 1, x1, x2, x3, x4, u => wX0_follow_B5 (wX0_follow_L5 Q n) Q x1 x2 x3 x4 u
set_option maxHeartbeats 4000000 in
theorem kX0_follow_L5 {p : Program} {l : Launch} {e : Env} {s : State} {m : MethodId} {args : Array Value} {below : List Frame} {meth : Method} {c : Code} {D : va_G} {cy : CY} {A : Nat → Prop} {ad : Nat → Nat} {Q : Int32 → ST → Prop} (C : kC p m c cX0_follow 6 s args RX0 D cy A) (hr : meth.sig.returnType = some .int) (hlk : meth.locks = false) : ∀ n : Nat, ∀ (x1 : Int32) (x2 : Int32) (x3 : Int32) (x4 : Int32) (u : ST) (H : Heap) (locs : List Loc) (ls : Array Slot), wX0_follow_L5 Q n x1 x2 x3 x4 u → kH D (cW cy ad) A s u H locs → lv_has ls 6 [(0, .ref (ad 10)), (1, .int x1), (2, .int x2), (3, .int x3), (4, .int x4)] → W p l e (kRm 0) s m args below meth c H locs 0 0 (MQ below (kQi D (cW cy ad) cy A Q) args s 0 0 A) (F0 m 5 ls []) := by
  intro n
  induction n with
  | zero => intro x1 x2 x3 x4 u H locs ls hw; exact False.elim hw
  | succ n ih => exact kX0_follow_B5 C hr hlk ih
def wX0_follow (x1 : Int32) (x2 : Int32) (u : ST) (Q : Int32 → ST → Prop) : Prop :=
  (∃ n : Nat, wX0_follow_L5 Q n x1 x2 0 0 u)
set_option maxHeartbeats 4000000 in
set_option maxRecDepth 100000 in
theorem mX0_follow (l : Launch) (D : va_G) (cy : CY) (ad : Nat → Nat) (x1 : Int32) (x2 : Int32) (u : ST) (sz : Nat) {Q : Int32 → ST → Prop} (hw : wX0_follow x1 x2 u Q) : Met l yX0_follow (wM yX0_follow cX0_follow 6 (some .int)) (kRm 0) (kPc D (cW cy ad) cy u sz [.ref (ad 10), .int x1, .int x2]) (kQi D (cW cy ad) cy (va_A (cW cy ad u) sz) Q) 0 0 (va_A (cW cy ad u) sz) := by
  refine kMet pn_X0_follow (Nat.le_of_ble_eq_true rfl) (fun p e s m below meth c ls hsz C hr hlk hex h hl => ?_)
  have hl : lv_has ls 6 [(0, .ref (ad 10)), (1, .int x1), (2, .int x2)] := hl
  obtain ⟨⟨hx, hb, hml, hown, hts⟩, hK, hA⟩ := id C
  unfold wX0_follow at hw
  have h : kH D (cW cy ad) (va_A (cW cy ad u) sz) s u s.heap [] := h
  refine lv_iconst (v := 0) hx hb dX0_follow_0 (by decide) ?_
  refine lv_istore_n (lv' := [(3, .int 0), (0, .ref (ad 10)), (1, .int x1), (2, .int x2)]) hx hb dX0_follow_1 rfl hl (by decide) rfl (fun ls hl => ?_)
  refine lv_iconst (v := 0) hx hb dX0_follow_2 (by decide) ?_
  refine lv_istore (lv' := [(4, .int 0), (3, .int 0), (0, .ref (ad 10)), (1, .int x1), (2, .int x2)]) hx hb dX0_follow_3 hl (by decide) rfl (fun ls hl => ?_)
  obtain ⟨n, hw⟩ := hw
  exact kX0_follow_L5 C hr hlk n x1 x2 0 0 _ _ _ _ hw h (lv_sub hl [2, 3, 4, 1, 0] rfl)
