def wJ6_bitCount_0f7a4 (x0 : Int32) (u : ST) (Q : Int32 → ST → Prop) : Prop :=
  (∀ x0_1 : Int32, x0_1 = x0 - ((((x0 : Int32).toUInt32 >>> ((1 : Int32).toUInt32 &&& Int32.toUInt32 31)).toInt32) &&& 1431655765) → (∀ x0_2 : Int32, x0_2 = (x0_1 &&& 858993459) + ((((x0_1 : Int32).toUInt32 >>> ((2 : Int32).toUInt32 &&& Int32.toUInt32 31)).toInt32) &&& 858993459) → (∀ x0_3 : Int32, x0_3 = (x0_2 + (((x0_2 : Int32).toUInt32 >>> ((4 : Int32).toUInt32 &&& Int32.toUInt32 31)).toInt32)) &&& 252645135 → (∀ x0_4 : Int32, x0_4 = x0_3 + (((x0_3 : Int32).toUInt32 >>> ((8 : Int32).toUInt32 &&& Int32.toUInt32 31)).toInt32) → (∀ x0_5 : Int32, x0_5 = x0_4 + (((x0_4 : Int32).toUInt32 >>> ((16 : Int32).toUInt32 &&& Int32.toUInt32 31)).toInt32) → Q (x0_5 &&& 63) u)))))
set_option maxHeartbeats 4000000 in
set_option maxRecDepth 100000 in
theorem mJ6_bitCount_0f7a4 (l : Launch) (D : va_G) (cy : CY) (ad : Nat → Nat) (x0 : Int32) (u : ST) (sz : Nat) {Q : Int32 → ST → Prop} (hw : wJ6_bitCount_0f7a4 x0 u Q) : Met l yJ6_bitCount_0f7a4 (wM yJ6_bitCount_0f7a4 cJ6_bitCount_0f7a4 1 (some .int)) (kRm 0) (kPc D (cW cy ad) cy u sz [.int x0]) (kQi D (cW cy ad) cy (va_A (cW cy ad u) sz) Q) 0 0 (va_A (cW cy ad u) sz) := by
  refine kMet pn_J6_bitCount_0f7a4 (Nat.le_of_ble_eq_true rfl) (fun p e s m below meth c ls hsz C hr hlk hex h hl => ?_)
  have hl : lv_has ls 1 [(0, .int x0)] := hl
  obtain ⟨⟨hx, hb, hml, hown, hts⟩, hK, hA⟩ := id C
  unfold wJ6_bitCount_0f7a4 at hw
  have h : kH D (cW cy ad) (va_A (cW cy ad u) sz) s u s.heap [] := h
  refine lv_iload_n hx hb dJ6_bitCount_0f7a4_0 rfl (lv_at hl 0 rfl) ?_
  refine lv_iload_n hx hb dJ6_bitCount_0f7a4_1 rfl (lv_at hl 0 rfl) ?_
  refine lv_iconst (v := 1) hx hb dJ6_bitCount_0f7a4_2 (by decide) ?_
  refine lv_iushr hx hb dJ6_bitCount_0f7a4_3 rfl ?_
  refine lv_ldcw hx hb hown (hts _ wi_ld_J6_265) dJ6_bitCount_0f7a4_4 ?_
  refine lv_iand hx hb dJ6_bitCount_0f7a4_7 ?_
  refine lv_isub hx hb dJ6_bitCount_0f7a4_8 ?_
  refine lv_topi (fun x0_1 ex0_1 => ?_)
  have hw := hw x0_1 ex0_1
  refine lv_istore_n (lv' := [(0, .int x0_1)]) hx hb dJ6_bitCount_0f7a4_9 rfl hl (by decide) rfl (fun ls hl => ?_)
  refine lv_iload_n hx hb dJ6_bitCount_0f7a4_10 rfl (lv_at hl 0 rfl) ?_
  refine lv_ldcw hx hb hown (hts _ wi_ld_J6_266) dJ6_bitCount_0f7a4_11 ?_
  refine lv_iand hx hb dJ6_bitCount_0f7a4_14 ?_
  refine lv_iload_n hx hb dJ6_bitCount_0f7a4_15 rfl (lv_at hl 0 rfl) ?_
  refine lv_iconst (v := 2) hx hb dJ6_bitCount_0f7a4_16 (by decide) ?_
  refine lv_iushr hx hb dJ6_bitCount_0f7a4_17 rfl ?_
  refine lv_ldcw hx hb hown (hts _ wi_ld_J6_266) dJ6_bitCount_0f7a4_18 ?_
  refine lv_iand hx hb dJ6_bitCount_0f7a4_21 ?_
  refine lv_iadd hx hb dJ6_bitCount_0f7a4_22 ?_
  refine lv_topi (fun x0_2 ex0_2 => ?_)
  have hw := hw x0_2 ex0_2
  refine lv_istore_n (lv' := [(0, .int x0_2)]) hx hb dJ6_bitCount_0f7a4_23 rfl hl (by decide) rfl (fun ls hl => ?_)
  refine lv_iload_n hx hb dJ6_bitCount_0f7a4_24 rfl (lv_at hl 0 rfl) ?_
  refine lv_iload_n hx hb dJ6_bitCount_0f7a4_25 rfl (lv_at hl 0 rfl) ?_
  refine lv_iconst (v := 4) hx hb dJ6_bitCount_0f7a4_26 (by decide) ?_
  refine lv_iushr hx hb dJ6_bitCount_0f7a4_27 rfl ?_
  refine lv_iadd hx hb dJ6_bitCount_0f7a4_28 ?_
  refine lv_ldcw hx hb hown (hts _ wi_ld_J6_267) dJ6_bitCount_0f7a4_29 ?_
  refine lv_iand hx hb dJ6_bitCount_0f7a4_32 ?_
  refine lv_topi (fun x0_3 ex0_3 => ?_)
  have hw := hw x0_3 ex0_3
  refine lv_istore_n (lv' := [(0, .int x0_3)]) hx hb dJ6_bitCount_0f7a4_33 rfl hl (by decide) rfl (fun ls hl => ?_)
  refine lv_iload_n hx hb dJ6_bitCount_0f7a4_34 rfl (lv_at hl 0 rfl) ?_
  refine lv_iload_n hx hb dJ6_bitCount_0f7a4_35 rfl (lv_at hl 0 rfl) ?_
  refine lv_bipush (v := 8) hx hb dJ6_bitCount_0f7a4_36 (by decide) ?_
  refine lv_iushr hx hb dJ6_bitCount_0f7a4_38 rfl ?_
  refine lv_iadd hx hb dJ6_bitCount_0f7a4_39 ?_
  refine lv_topi (fun x0_4 ex0_4 => ?_)
  have hw := hw x0_4 ex0_4
  refine lv_istore_n (lv' := [(0, .int x0_4)]) hx hb dJ6_bitCount_0f7a4_40 rfl hl (by decide) rfl (fun ls hl => ?_)
  refine lv_iload_n hx hb dJ6_bitCount_0f7a4_41 rfl (lv_at hl 0 rfl) ?_
  refine lv_iload_n hx hb dJ6_bitCount_0f7a4_42 rfl (lv_at hl 0 rfl) ?_
  refine lv_bipush (v := 16) hx hb dJ6_bitCount_0f7a4_43 (by decide) ?_
  refine lv_iushr hx hb dJ6_bitCount_0f7a4_45 rfl ?_
  refine lv_iadd hx hb dJ6_bitCount_0f7a4_46 ?_
  refine lv_topi (fun x0_5 ex0_5 => ?_)
  have hw := hw x0_5 ex0_5
  refine lv_istore_n (lv' := [(0, .int x0_5)]) hx hb dJ6_bitCount_0f7a4_47 rfl hl (by decide) rfl (fun ls hl => ?_)
  refine lv_iload_n hx hb dJ6_bitCount_0f7a4_48 rfl (lv_at hl 0 rfl) ?_
  refine lv_bipush (v := 63) hx hb dJ6_bitCount_0f7a4_49 (by decide) ?_
  refine lv_iand hx hb dJ6_bitCount_0f7a4_51 ?_
  exact kretI C hr hlk h hw dJ6_bitCount_0f7a4_52

def wX5_start_b91 (K15 : Nat → Int32 → Int32 → Int32 → ST → Prop) (Q : ST → Prop) (t1 : Nat) (x2 : Int32) (x3 : Int32) (x4 : Int32) (u : ST) : Prop :=
  K15 t1 x2 x3 (x4 + 1) u
set_option maxHeartbeats 4000000 in
set_option maxRecDepth 100000 in
theorem kX5_start_b91 {p : Program} {l : Launch} {e : Env} {s : State} {m : MethodId} {args : Array Value} {below : List Frame} {meth : Method} {c : Code} {D : va_G} {cy : CY} {A : Nat → Prop} {ad : Nat → Nat} {K15 : Nat → Int32 → Int32 → Int32 → ST → Prop} {Q : ST → Prop} (C : kC p m c cX5_start 5 s args RX5 D cy A) (hr : meth.sig.returnType = none) (hlk : meth.locks = false) (g15 : ∀ (t1 : Nat) (x2 : Int32) (x3 : Int32) (x4 : Int32) (u : ST) (H : Heap) (locs : List Loc) (ls : Array Slot), K15 t1 x2 x3 x4 u → t1 < 2 → kH D (cW cy ad) A s u H locs → lv_has ls 5 [(0, .ref (ad 8)), (1, .ref (aT ad t1)), (2, .int x2), (3, .int x3), (4, .int x4)] → W p l e (kRm 1) s m args below meth c H locs 0 0 (MQ below (kQv D (cW cy ad) cy A Q) args s 0 0 A) (F0 m 15 ls [])) : ∀ (t1 : Nat) (x2 : Int32) (x3 : Int32) (x4 : Int32) (u : ST) (H : Heap) (locs : List Loc) (ls : Array Slot), wX5_start_b91 K15 Q t1 x2 x3 x4 u → t1 < 2 → kH D (cW cy ad) A s u H locs → lv_has ls 5 [(0, .ref (ad 8)), (1, .ref (aT ad t1)), (2, .int x2), (3, .int x3), (4, .int x4)] → W p l e (kRm 1) s m args below meth c H locs 0 0 (MQ below (kQv D (cW cy ad) cy A Q) args s 0 0 A) (F0 m 91 ls []) := by
  intro t1 x2 x3 x4 u H locs ls hw f_t1 h hl
  obtain ⟨⟨hx, hb, hml, hown, hts⟩, hK, hA⟩ := id C
  unfold wX5_start_b91 at hw
  refine lv_iinc (v := x4 + 1) (lv' := [(4, .int (x4 + 1)), (0, .ref (ad 8)), (1, .ref (aT ad t1)), (2, .int x2), (3, .int x3)]) hx hb dX5_start_91 hl (k := 4) rfl rfl (by decide) rfl (fun ls hl => ?_)
  refine lv_goto (tgt := 15) hx hb dX5_start_94 (by decide) ?_
  exact g15 t1 x2 x3 (x4 + 1) _ _ _ _ hw (by omega) h (lv_sub hl [1, 2, 3, 4, 0] rfl)
def wX5_start_b40 (K15 : Nat → Int32 → Int32 → Int32 → ST → Prop) (Q : ST → Prop) (t1 : Nat) (x2 : Int32) (x3 : Int32) (x4 : Int32) (u : ST) : Prop :=
  (vp_in x4 256 ∧ (vp_in x3 256 ∧ (vp_in x4 256 ∧ (vp_in x3 256 ∧ (vp_in x4 256 ∧ (vp_in x3 256 ∧ (vp_in (0 : Int32) 17 ∧ (vp_in x3 256 ∧ wX5_start_b91 K15 Q t1 x2 (x3 + 1) x4 (sR (sR (sR (sR u 6 x3.toNatClampNeg (gR u (3 * t1) x4.toNatClampNeg)) 7 x3.toNatClampNeg (gR (sR u 6 x3.toNatClampNeg (gR u (3 * t1) x4.toNatClampNeg)) (3 * t1 + 1) x4.toNatClampNeg)) 8 x3.toNatClampNeg (gR (sR (sR u 6 x3.toNatClampNeg (gR u (3 * t1) x4.toNatClampNeg)) 7 x3.toNatClampNeg (gR (sR u 6 x3.toNatClampNeg (gR u (3 * t1) x4.toNatClampNeg)) (3 * t1 + 1) x4.toNatClampNeg)) (3 * t1 + 2) x4.toNatClampNeg)) (16 + (0 : Int32).toNatClampNeg) x3.toNatClampNeg x3)))))))))
set_option maxHeartbeats 4000000 in
set_option maxRecDepth 100000 in
theorem kX5_start_b40 {p : Program} {l : Launch} {e : Env} {s : State} {m : MethodId} {args : Array Value} {below : List Frame} {meth : Method} {c : Code} {D : va_G} {cy : CY} {A : Nat → Prop} {ad : Nat → Nat} {K15 : Nat → Int32 → Int32 → Int32 → ST → Prop} {Q : ST → Prop} (C : kC p m c cX5_start 5 s args RX5 D cy A) (hr : meth.sig.returnType = none) (hlk : meth.locks = false) (g15 : ∀ (t1 : Nat) (x2 : Int32) (x3 : Int32) (x4 : Int32) (u : ST) (H : Heap) (locs : List Loc) (ls : Array Slot), K15 t1 x2 x3 x4 u → t1 < 2 → kH D (cW cy ad) A s u H locs → lv_has ls 5 [(0, .ref (ad 8)), (1, .ref (aT ad t1)), (2, .int x2), (3, .int x3), (4, .int x4)] → W p l e (kRm 1) s m args below meth c H locs 0 0 (MQ below (kQv D (cW cy ad) cy A Q) args s 0 0 A) (F0 m 15 ls [])) : ∀ (t1 : Nat) (x2 : Int32) (x3 : Int32) (x4 : Int32) (u : ST) (H : Heap) (locs : List Loc) (ls : Array Slot), wX5_start_b40 K15 Q t1 x2 x3 x4 u → t1 < 2 → kH D (cW cy ad) A s u H locs → lv_has ls 5 [(0, .ref (ad 8)), (1, .ref (aT ad t1)), (2, .int x2), (3, .int x3), (4, .int x4)] → W p l e (kRm 1) s m args below meth c H locs 0 0 (MQ below (kQv D (cW cy ad) cy A Q) args s 0 0 A) (F0 m 40 ls []) := by
  intro t1 x2 x3 x4 u H locs ls hw f_t1 h hl
  obtain ⟨⟨hx, hb, hml, hown, hts⟩, hK, hA⟩ := id C
  unfold wX5_start_b40 at hw
  refine lv_aload_n hx hb dX5_start_40 rfl (lv_at hl 0 rfl) ?_
  refine kget C h 8 rfl rfl inBX5 0 (Nat.le_of_ble_eq_true rfl) wi_fl_X5_9 rfl dX5_start_41 ?_
  refine lv_iload_n hx hb dX5_start_44 rfl (lv_at hl 3 rfl) ?_
  refine lv_aload_n hx hb dX5_start_45 rfl (lv_at hl 1 rfl) ?_
  refine kget C h (2 + t1) (cW_T cy ad u t1 (by omega)) rfl inBX2 2 (Nat.le_of_ble_eq_true rfl) wi_fl_X5_49 rfl dX5_start_46 ?_
  refine lv_iload hx hb dX5_start_49 (lv_at hl 4 rfl) ?_
  obtain ⟨i_51, hw⟩ := hw
  refine kiald C h (17 + (3 * t1)) (cW_R cy ad u (3 * t1) (by omega)) (by rw [lenR_256 (by omega)]; exact i_51) dX5_start_51 ?_
  obtain ⟨i_52, hw⟩ := hw
  refine kiast C h 23 rfl i_52 (cS_R cy ad u x3.toNatClampNeg (gR u (3 * t1) x4.toNatClampNeg) 6 (Nat.le_of_ble_eq_true rfl)) dX5_start_52 (fun H locs h => ?_)
  refine lv_aload_n hx hb dX5_start_53 rfl (lv_at hl 0 rfl) ?_
  refine kget C h 8 rfl rfl inBX5 1 (Nat.le_of_ble_eq_true rfl) wi_fl_X5_15 rfl dX5_start_54 ?_
  refine lv_iload_n hx hb dX5_start_57 rfl (lv_at hl 3 rfl) ?_
  refine lv_aload_n hx hb dX5_start_58 rfl (lv_at hl 1 rfl) ?_
  refine kget C h (2 + t1) (cW_T cy ad (sR u 6 x3.toNatClampNeg (gR u (3 * t1) x4.toNatClampNeg)) t1 (by omega)) rfl inBX2 3 (Nat.le_of_ble_eq_true rfl) wi_fl_X5_50 rfl dX5_start_59 ?_
  refine lv_iload hx hb dX5_start_62 (lv_at hl 4 rfl) ?_
  obtain ⟨i_64, hw⟩ := hw
  refine kiald C h (17 + (3 * t1 + 1)) (cW_R cy ad (sR u 6 x3.toNatClampNeg (gR u (3 * t1) x4.toNatClampNeg)) (3 * t1 + 1) (by omega)) (by rw [lenR_256 (by omega)]; exact i_64) dX5_start_64 ?_
  obtain ⟨i_65, hw⟩ := hw
  refine kiast C h 24 rfl i_65 (cS_R cy ad (sR u 6 x3.toNatClampNeg (gR u (3 * t1) x4.toNatClampNeg)) x3.toNatClampNeg (gR (sR u 6 x3.toNatClampNeg (gR u (3 * t1) x4.toNatClampNeg)) (3 * t1 + 1) x4.toNatClampNeg) 7 (Nat.le_of_ble_eq_true rfl)) dX5_start_65 (fun H locs h => ?_)
  refine lv_aload_n hx hb dX5_start_66 rfl (lv_at hl 0 rfl) ?_
  refine kget C h 8 rfl rfl inBX5 2 (Nat.le_of_ble_eq_true rfl) wi_fl_X5_18 rfl dX5_start_67 ?_
  refine lv_iload_n hx hb dX5_start_70 rfl (lv_at hl 3 rfl) ?_
  refine lv_aload_n hx hb dX5_start_71 rfl (lv_at hl 1 rfl) ?_
  refine kget C h (2 + t1) (cW_T cy ad (sR (sR u 6 x3.toNatClampNeg (gR u (3 * t1) x4.toNatClampNeg)) 7 x3.toNatClampNeg (gR (sR u 6 x3.toNatClampNeg (gR u (3 * t1) x4.toNatClampNeg)) (3 * t1 + 1) x4.toNatClampNeg)) t1 (by omega)) rfl inBX2 4 (Nat.le_of_ble_eq_true rfl) wi_fl_X5_48 rfl dX5_start_72 ?_
  refine lv_iload hx hb dX5_start_75 (lv_at hl 4 rfl) ?_
  obtain ⟨i_77, hw⟩ := hw
  refine kiald C h (17 + (3 * t1 + 2)) (cW_R cy ad (sR (sR u 6 x3.toNatClampNeg (gR u (3 * t1) x4.toNatClampNeg)) 7 x3.toNatClampNeg (gR (sR u 6 x3.toNatClampNeg (gR u (3 * t1) x4.toNatClampNeg)) (3 * t1 + 1) x4.toNatClampNeg)) (3 * t1 + 2) (by omega)) (by rw [lenR_256 (by omega)]; exact i_77) dX5_start_77 ?_
  obtain ⟨i_78, hw⟩ := hw
  refine kiast C h 25 rfl i_78 (cS_R cy ad (sR (sR u 6 x3.toNatClampNeg (gR u (3 * t1) x4.toNatClampNeg)) 7 x3.toNatClampNeg (gR (sR u 6 x3.toNatClampNeg (gR u (3 * t1) x4.toNatClampNeg)) (3 * t1 + 1) x4.toNatClampNeg)) x3.toNatClampNeg (gR (sR (sR u 6 x3.toNatClampNeg (gR u (3 * t1) x4.toNatClampNeg)) 7 x3.toNatClampNeg (gR (sR u 6 x3.toNatClampNeg (gR u (3 * t1) x4.toNatClampNeg)) (3 * t1 + 1) x4.toNatClampNeg)) (3 * t1 + 2) x4.toNatClampNeg) 8 (Nat.le_of_ble_eq_true rfl)) dX5_start_78 (fun H locs h => ?_)
  refine lv_aload_n hx hb dX5_start_79 rfl (lv_at hl 0 rfl) ?_
  refine kget C h 8 rfl rfl inBX5 4 (Nat.le_of_ble_eq_true rfl) wi_fl_X5_23 rfl dX5_start_80 ?_
  refine lv_iconst (v := 0) hx hb dX5_start_83 (by decide) ?_
  obtain ⟨i_84, hw⟩ := hw
  refine kaald C h 16 (f := fun d => aR ad (16 + d)) rfl i_84 dX5_start_84 ?_
  have b_84 := vp_lt i_84
  refine lv_iload_n hx hb dX5_start_85 rfl (lv_at hl 3 rfl) ?_
  refine lv_iload_n hx hb dX5_start_86 rfl (lv_at hl 3 rfl) ?_
  obtain ⟨i_87, hw⟩ := hw
  have b_87 := vp_lt i_84
  refine kiast C h (17 + (16 + (0 : Int32).toNatClampNeg)) (cW_R cy ad (sR (sR (sR u 6 x3.toNatClampNeg (gR u (3 * t1) x4.toNatClampNeg)) 7 x3.toNatClampNeg (gR (sR u 6 x3.toNatClampNeg (gR u (3 * t1) x4.toNatClampNeg)) (3 * t1 + 1) x4.toNatClampNeg)) 8 x3.toNatClampNeg (gR (sR (sR u 6 x3.toNatClampNeg (gR u (3 * t1) x4.toNatClampNeg)) 7 x3.toNatClampNeg (gR (sR u 6 x3.toNatClampNeg (gR u (3 * t1) x4.toNatClampNeg)) (3 * t1 + 1) x4.toNatClampNeg)) (3 * t1 + 2) x4.toNatClampNeg)) (16 + (0 : Int32).toNatClampNeg) (by omega)) (by rw [lenR_256 (by omega)]; exact i_87) (cS_R cy ad (sR (sR (sR u 6 x3.toNatClampNeg (gR u (3 * t1) x4.toNatClampNeg)) 7 x3.toNatClampNeg (gR (sR u 6 x3.toNatClampNeg (gR u (3 * t1) x4.toNatClampNeg)) (3 * t1 + 1) x4.toNatClampNeg)) 8 x3.toNatClampNeg (gR (sR (sR u 6 x3.toNatClampNeg (gR u (3 * t1) x4.toNatClampNeg)) 7 x3.toNatClampNeg (gR (sR u 6 x3.toNatClampNeg (gR u (3 * t1) x4.toNatClampNeg)) (3 * t1 + 1) x4.toNatClampNeg)) (3 * t1 + 2) x4.toNatClampNeg)) x3.toNatClampNeg x3 (16 + (0 : Int32).toNatClampNeg) (by omega)) dX5_start_87 (fun H locs h => ?_)
  refine lv_iinc (v := x3 + 1) (lv' := [(3, .int (x3 + 1)), (0, .ref (ad 8)), (1, .ref (aT ad t1)), (2, .int x2), (4, .int x4)]) hx hb dX5_start_88 hl (k := 3) rfl rfl (by decide) rfl (fun ls hl => ?_)
  exact kX5_start_b91 C hr hlk g15 t1 x2 (x3 + 1) x4 _ _ _ _ hw (by omega) h (lv_sub hl [1, 2, 3, 0, 4] rfl)
def wX5_start_B15 (K15 : Nat → Int32 → Int32 → Int32 → ST → Prop) (Q : ST → Prop) (t1 : Nat) (x2 : Int32) (x3 : Int32) (x4 : Int32) (u : ST) : Prop :=
  (((gI u (10 + t1)) ≤ x4 → (vp_in (0 : Int32) 17 ∧ Q (sR u 9 (0 : Int32).toNatClampNeg x3))) ∧ (¬ (gI u (10 + t1)) ≤ x4 → ((x2 = (-1) → wX5_start_b40 K15 Q t1 x2 x3 x4 u) ∧ (¬ x2 = (-1) → (vp_in x4 256 ∧ ((¬ (gR u (3 * t1 + 2) x4.toNatClampNeg) = x2 → wX5_start_b91 K15 Q t1 x2 x3 x4 u) ∧ ((gR u (3 * t1 + 2) x4.toNatClampNeg) = x2 → wX5_start_b40 K15 Q t1 x2 x3 x4 u)))))))
set_option maxHeartbeats 4000000 in
set_option maxRecDepth 100000 in
theorem kX5_start_B15 {p : Program} {l : Launch} {e : Env} {s : State} {m : MethodId} {args : Array Value} {below : List Frame} {meth : Method} {c : Code} {D : va_G} {cy : CY} {A : Nat → Prop} {ad : Nat → Nat} {K15 : Nat → Int32 → Int32 → Int32 → ST → Prop} {Q : ST → Prop} (C : kC p m c cX5_start 5 s args RX5 D cy A) (hr : meth.sig.returnType = none) (hlk : meth.locks = false) (g15 : ∀ (t1 : Nat) (x2 : Int32) (x3 : Int32) (x4 : Int32) (u : ST) (H : Heap) (locs : List Loc) (ls : Array Slot), K15 t1 x2 x3 x4 u → t1 < 2 → kH D (cW cy ad) A s u H locs → lv_has ls 5 [(0, .ref (ad 8)), (1, .ref (aT ad t1)), (2, .int x2), (3, .int x3), (4, .int x4)] → W p l e (kRm 1) s m args below meth c H locs 0 0 (MQ below (kQv D (cW cy ad) cy A Q) args s 0 0 A) (F0 m 15 ls [])) : ∀ (t1 : Nat) (x2 : Int32) (x3 : Int32) (x4 : Int32) (u : ST) (H : Heap) (locs : List Loc) (ls : Array Slot), wX5_start_B15 K15 Q t1 x2 x3 x4 u → t1 < 2 → kH D (cW cy ad) A s u H locs → lv_has ls 5 [(0, .ref (ad 8)), (1, .ref (aT ad t1)), (2, .int x2), (3, .int x3), (4, .int x4)] → W p l e (kRm 1) s m args below meth c H locs 0 0 (MQ below (kQv D (cW cy ad) cy A Q) args s 0 0 A) (F0 m 15 ls []) := by
  intro t1 x2 x3 x4 u H locs ls hw f_t1 h hl
  obtain ⟨⟨hx, hb, hml, hown, hts⟩, hK, hA⟩ := id C
  unfold wX5_start_B15 at hw
  refine lv_iload hx hb dX5_start_15 (lv_at hl 4 rfl) ?_
  refine lv_aload_n hx hb dX5_start_17 rfl (lv_at hl 1 rfl) ?_
  refine kget C h (2 + t1) (cW_T cy ad u t1 (by omega)) rfl inBX2 5 (Nat.le_of_ble_eq_true rfl) wi_fl_X5_45 rfl dX5_start_18 ?_
  refine lv_icmp_ge (tgt := 97) hx hb dX5_start_21 (by decide) (fun c_21 => ?_) (fun c_21 => ?_)
  · have hw := hw.1 c_21
    refine lv_aload_n hx hb dX5_start_97 rfl (lv_at hl 0 rfl) ?_
    refine kget C h 8 rfl rfl inBX5 5 (Nat.le_of_ble_eq_true rfl) wi_fl_X5_26 rfl dX5_start_98 ?_
    refine lv_iconst (v := 0) hx hb dX5_start_101 (by decide) ?_
    refine lv_iload_n hx hb dX5_start_102 rfl (lv_at hl 3 rfl) ?_
    obtain ⟨i_103, hw⟩ := hw
    refine kiast C h 26 rfl i_103 (cS_R cy ad u (0 : Int32).toNatClampNeg x3 9 (Nat.le_of_ble_eq_true rfl)) dX5_start_103 (fun H locs h => ?_)
    exact kretV C hr hlk h hw dX5_start_104
  · have hw := hw.2 c_21
    refine lv_iload_n hx hb dX5_start_24 rfl (lv_at hl 2 rfl) ?_
    refine lv_iconst (v := (-1)) hx hb dX5_start_25 (by decide) ?_
    refine lv_icmp_eq (tgt := 40) hx hb dX5_start_26 (by decide) (fun c_26 => ?_) (fun c_26 => ?_)
    · have hw := hw.1 c_26
      exact kX5_start_b40 C hr hlk g15 t1 x2 x3 x4 _ _ _ _ hw (by omega) h (lv_sub hl [0, 1, 2, 3, 4] rfl)
    · have hw := hw.2 c_26
      refine lv_aload_n hx hb dX5_start_29 rfl (lv_at hl 1 rfl) ?_
      refine kget C h (2 + t1) (cW_T cy ad u t1 (by omega)) rfl inBX2 4 (Nat.le_of_ble_eq_true rfl) wi_fl_X5_48 rfl dX5_start_30 ?_
      refine lv_iload hx hb dX5_start_33 (lv_at hl 4 rfl) ?_
      obtain ⟨i_35, hw⟩ := hw
      refine kiald C h (17 + (3 * t1 + 2)) (cW_R cy ad u (3 * t1 + 2) (by omega)) (by rw [lenR_256 (by omega)]; exact i_35) dX5_start_35 ?_
      refine lv_iload_n hx hb dX5_start_36 rfl (lv_at hl 2 rfl) ?_
      refine lv_icmp_ne (tgt := 91) hx hb dX5_start_37 (by decide) (fun c_37 => ?_) (fun c_37 => ?_)
      · have hw := hw.1 c_37
        exact kX5_start_b91 C hr hlk g15 t1 x2 x3 x4 _ _ _ _ hw (by omega) h (lv_sub hl [0, 1, 2, 3, 4] rfl)
      · have hw := hw.2 c_37
        exact kX5_start_b40 C hr hlk g15 t1 x2 x3 x4 _ _ _ _ hw (by omega) h (lv_sub hl [0, 1, 2, 3, 4] rfl)
def wX5_start_L15 (Q : ST → Prop) : Nat → Nat → Int32 → Int32 → Int32 → ST → Prop
  | 0, _, _, _, _, _ => False
  | n + 1, t1, x2, x3, x4, u => wX5_start_B15 (wX5_start_L15 Q n) Q t1 x2 x3 x4 u
set_option maxHeartbeats 4000000 in
theorem kX5_start_L15 {p : Program} {l : Launch} {e : Env} {s : State} {m : MethodId} {args : Array Value} {below : List Frame} {meth : Method} {c : Code} {D : va_G} {cy : CY} {A : Nat → Prop} {ad : Nat → Nat} {Q : ST → Prop} (C : kC p m c cX5_start 5 s args RX5 D cy A) (hr : meth.sig.returnType = none) (hlk : meth.locks = false) : ∀ n : Nat, ∀ (t1 : Nat) (x2 : Int32) (x3 : Int32) (x4 : Int32) (u : ST) (H : Heap) (locs : List Loc) (ls : Array Slot), wX5_start_L15 Q n t1 x2 x3 x4 u → t1 < 2 → kH D (cW cy ad) A s u H locs → lv_has ls 5 [(0, .ref (ad 8)), (1, .ref (aT ad t1)), (2, .int x2), (3, .int x3), (4, .int x4)] → W p l e (kRm 1) s m args below meth c H locs 0 0 (MQ below (kQv D (cW cy ad) cy A Q) args s 0 0 A) (F0 m 15 ls []) := by
  intro n
  induction n with
  | zero => intro t1 x2 x3 x4 u H locs ls hw; exact False.elim hw
  | succ n ih => exact kX5_start_B15 C hr hlk ih
def wX5_start (t1 : Nat) (x2 : Int32) (u : ST) (Q : ST → Prop) : Prop :=
  wX2_caseCount t1 u (fun r_1 u_2 => (∃ n : Nat, wX5_start_L15 Q n t1 x2 0 0 (sI u_2 16 (r_1 - 1))))
set_option maxHeartbeats 4000000 in
set_option maxRecDepth 100000 in
theorem mX5_start (l : Launch) (D : va_G) (cy : CY) (ad : Nat → Nat) (t1 : Nat) (x2 : Int32) (u : ST) (sz : Nat) {Q : ST → Prop} (f_t1 : t1 < 2) (hw : wX5_start t1 x2 u Q) : Met l yX5_start (wM yX5_start cX5_start 5 none) (kRm 1) (kPc D (cW cy ad) cy u sz [.ref (ad 8), .ref (aT ad t1), .int x2]) (kQv D (cW cy ad) cy (va_A (cW cy ad u) sz) Q) 0 0 (va_A (cW cy ad u) sz) := by
  refine kMet pn_X5_start (Nat.le_of_ble_eq_true rfl) (fun p e s m below meth c ls hsz C hr hlk hex h hl => ?_)
  have hl : lv_has ls 5 [(0, .ref (ad 8)), (1, .ref (aT ad t1)), (2, .int x2)] := hl
  obtain ⟨⟨hx, hb, hml, hown, hts⟩, hK, hA⟩ := id C
  unfold wX5_start at hw
  have h : kH D (cW cy ad) (va_A (cW cy ad u) sz) s u s.heap [] := h
  refine lv_aload_n hx hb dX5_start_0 rfl (lv_at hl 0 rfl) ?_
  refine lv_aload_n hx hb dX5_start_1 rfl (lv_at hl 1 rfl) ?_
  refine kVi (As := []) (rest := [.ref (ad 8)]) C h (cwV 0 hts (gd_V wi_ml_X5_35 wi_im_X2_caseCount wi_se_X2_caseCount wi_in_X2 wi_co_X2_caseCount) rfl rfl rfl hd_X2_caseCount ⟨Nat.le_of_ble_eq_true rfl, Nat.le_of_ble_eq_true rfl⟩) (2 + t1) (cW_T cy ad u t1 (by omega)) rfl rfl (mX2_caseCount l D cy ad t1 _ _ (by omega) hw) rfl hl.1 rfl (Nat.le_of_ble_eq_true rfl) ⟨Nat.zero_le _, Nat.zero_le _⟩ dX5_start_2 (fun r_1 u_2 H locs hw h => ?_)
  refine lv_iconst (v := 1) hx hb dX5_start_5 (by decide) ?_
  refine lv_isub hx hb dX5_start_6 ?_
  refine kput C h 8 rfl rfl inBX5 tyX5_ok nmX5 3 (Nat.le_of_ble_eq_true rfl) wi_fl_X5_41 rfl rfl rfl (Nat.le_of_ble_eq_true rfl) (cS_WY_3 cy ad u_2 (r_1 - 1)) dX5_start_7 (fun H locs h => ?_)
  refine lv_iconst (v := 0) hx hb dX5_start_10 (by decide) ?_
  refine lv_istore_n (lv' := [(3, .int 0), (0, .ref (ad 8)), (1, .ref (aT ad t1)), (2, .int x2)]) hx hb dX5_start_11 rfl hl (by decide) rfl (fun ls hl => ?_)
  refine lv_iconst (v := 0) hx hb dX5_start_12 (by decide) ?_
  refine lv_istore (lv' := [(4, .int 0), (3, .int 0), (0, .ref (ad 8)), (1, .ref (aT ad t1)), (2, .int x2)]) hx hb dX5_start_13 hl (by decide) rfl (fun ls hl => ?_)
  obtain ⟨n, hw⟩ := hw
  exact kX5_start_L15 C hr hlk n t1 x2 0 0 _ _ _ _ hw (by omega) h (lv_sub hl [2, 3, 4, 1, 0] rfl)

def wX5_step_b78 (K41 : Int32 → Int32 → Nat → Nat → Nat → Int32 → Int32 → ST → Prop) (Q : ST → Prop) (x1 : Int32) (x2 : Int32) (k4 : Nat) (k5 : Nat) (k6 : Nat) (x7 : Int32) (x8 : Int32) (u : ST) : Prop :=
  K41 x1 x2 k4 k5 k6 x7 (x8 + 1) u
set_option maxHeartbeats 4000000 in
set_option maxRecDepth 100000 in
theorem kX5_step_b78 {p : Program} {l : Launch} {e : Env} {s : State} {m : MethodId} {args : Array Value} {below : List Frame} {meth : Method} {c : Code} {D : va_G} {cy : CY} {A : Nat → Prop} {ad : Nat → Nat} {K41 : Int32 → Int32 → Nat → Nat → Nat → Int32 → Int32 → ST → Prop} {Q : ST → Prop} (C : kC p m c cX5_step 9 s args RX5 D cy A) (hr : meth.sig.returnType = none) (hlk : meth.locks = false) (g41 : ∀ (x1 : Int32) (x2 : Int32) (k4 : Nat) (k5 : Nat) (k6 : Nat) (x7 : Int32) (x8 : Int32) (u : ST) (H : Heap) (locs : List Loc) (ls : Array Slot), K41 x1 x2 k4 k5 k6 x7 x8 u → ((k4 < 9 ∨ 16 ≤ k4) ∧ k4 < 33) → ((k5 < 9 ∨ 16 ≤ k5) ∧ k5 < 33) → ((k6 < 9 ∨ 16 ≤ k6) ∧ k6 < 33) → kH D (cW cy ad) A s u H locs → lv_has ls 9 [(0, .ref (ad 8)), (1, .int x1), (2, .int x2), (4, .ref (aR ad k4)), (5, .ref (aR ad k5)), (6, .ref (aR ad k6)), (7, .int x7), (8, .int x8)] → W p l e (kRm 0) s m args below meth c H locs 0 0 (MQ below (kQv D (cW cy ad) cy A Q) args s 0 0 A) (F0 m 41 ls [])) : ∀ (x1 : Int32) (x2 : Int32) (k4 : Nat) (k5 : Nat) (k6 : Nat) (x7 : Int32) (x8 : Int32) (u : ST) (H : Heap) (locs : List Loc) (ls : Array Slot), wX5_step_b78 K41 Q x1 x2 k4 k5 k6 x7 x8 u → ((k4 < 9 ∨ 16 ≤ k4) ∧ k4 < 33) → ((k5 < 9 ∨ 16 ≤ k5) ∧ k5 < 33) → ((k6 < 9 ∨ 16 ≤ k6) ∧ k6 < 33) → kH D (cW cy ad) A s u H locs → lv_has ls 9 [(0, .ref (ad 8)), (1, .int x1), (2, .int x2), (4, .ref (aR ad k4)), (5, .ref (aR ad k5)), (6, .ref (aR ad k6)), (7, .int x7), (8, .int x8)] → W p l e (kRm 0) s m args below meth c H locs 0 0 (MQ below (kQv D (cW cy ad) cy A Q) args s 0 0 A) (F0 m 78 ls []) := by
  intro x1 x2 k4 k5 k6 x7 x8 u H locs ls hw f_k4 f_k5 f_k6 h hl
  obtain ⟨⟨hx, hb, hml, hown, hts⟩, hK, hA⟩ := id C
  unfold wX5_step_b78 at hw
  refine lv_iinc (v := x8 + 1) (lv' := [(8, .int (x8 + 1)), (0, .ref (ad 8)), (1, .int x1), (2, .int x2), (4, .ref (aR ad k4)), (5, .ref (aR ad k5)), (6, .ref (aR ad k6)), (7, .int x7)]) hx hb dX5_step_78 hl (k := 7) rfl rfl (by decide) rfl (fun ls hl => ?_)
  refine lv_goto (tgt := 41) hx hb dX5_step_81 (by decide) ?_
  exact g41 x1 x2 k4 k5 k6 x7 (x8 + 1) _ _ _ _ hw (by omega) (by omega) (by omega) h (lv_sub hl [1, 2, 3, 4, 5, 6, 7, 0] rfl)
def wX5_step_B41 (K41 : Int32 → Int32 → Nat → Nat → Nat → Int32 → Int32 → ST → Prop) (Q : ST → Prop) (x1 : Int32) (x2 : Int32) (k4 : Nat) (k5 : Nat) (k6 : Nat) (x7 : Int32) (x8 : Int32) (u : ST) : Prop :=
  (vp_in x1 17 ∧ (((gR u 9 x1.toNatClampNeg) ≤ x8 → (vp_in (x1 + 1) 17 ∧ Q (sR u 9 (x1 + 1).toNatClampNeg x7))) ∧ (¬ (gR u 9 x1.toNatClampNeg) ≤ x8 → (vp_in x8 256 ∧ (vp_in (gR u k4 x8.toNatClampNeg) 256 ∧ ((¬ ((gR u k6 (gR u k4 x8.toNatClampNeg).toNatClampNeg) &&& x2) = 0 → wX5_step_b78 K41 Q x1 x2 k4 k5 k6 x7 x8 u) ∧ (((gR u k6 (gR u k4 x8.toNatClampNeg).toNatClampNeg) &&& x2) = 0 → (vp_in x8 256 ∧ (vp_in x7 256 ∧ wX5_step_b78 K41 Q x1 x2 k4 k5 k6 (x7 + 1) x8 (sR u k5 x7.toNatClampNeg (gR u k4 x8.toNatClampNeg)))))))))))
set_option maxHeartbeats 4000000 in
set_option maxRecDepth 100000 in
theorem kX5_step_B41 {p : Program} {l : Launch} {e : Env} {s : State} {m : MethodId} {args : Array Value} {below : List Frame} {meth : Method} {c : Code} {D : va_G} {cy : CY} {A : Nat → Prop} {ad : Nat → Nat} {K41 : Int32 → Int32 → Nat → Nat → Nat → Int32 → Int32 → ST → Prop} {Q : ST → Prop} (C : kC p m c cX5_step 9 s args RX5 D cy A) (hr : meth.sig.returnType = none) (hlk : meth.locks = false) (g41 : ∀ (x1 : Int32) (x2 : Int32) (k4 : Nat) (k5 : Nat) (k6 : Nat) (x7 : Int32) (x8 : Int32) (u : ST) (H : Heap) (locs : List Loc) (ls : Array Slot), K41 x1 x2 k4 k5 k6 x7 x8 u → ((k4 < 9 ∨ 16 ≤ k4) ∧ k4 < 33) → ((k5 < 9 ∨ 16 ≤ k5) ∧ k5 < 33) → ((k6 < 9 ∨ 16 ≤ k6) ∧ k6 < 33) → kH D (cW cy ad) A s u H locs → lv_has ls 9 [(0, .ref (ad 8)), (1, .int x1), (2, .int x2), (4, .ref (aR ad k4)), (5, .ref (aR ad k5)), (6, .ref (aR ad k6)), (7, .int x7), (8, .int x8)] → W p l e (kRm 0) s m args below meth c H locs 0 0 (MQ below (kQv D (cW cy ad) cy A Q) args s 0 0 A) (F0 m 41 ls [])) : ∀ (x1 : Int32) (x2 : Int32) (k4 : Nat) (k5 : Nat) (k6 : Nat) (x7 : Int32) (x8 : Int32) (u : ST) (H : Heap) (locs : List Loc) (ls : Array Slot), wX5_step_B41 K41 Q x1 x2 k4 k5 k6 x7 x8 u → ((k4 < 9 ∨ 16 ≤ k4) ∧ k4 < 33) → ((k5 < 9 ∨ 16 ≤ k5) ∧ k5 < 33) → ((k6 < 9 ∨ 16 ≤ k6) ∧ k6 < 33) → kH D (cW cy ad) A s u H locs → lv_has ls 9 [(0, .ref (ad 8)), (1, .int x1), (2, .int x2), (4, .ref (aR ad k4)), (5, .ref (aR ad k5)), (6, .ref (aR ad k6)), (7, .int x7), (8, .int x8)] → W p l e (kRm 0) s m args below meth c H locs 0 0 (MQ below (kQv D (cW cy ad) cy A Q) args s 0 0 A) (F0 m 41 ls []) := by
  intro x1 x2 k4 k5 k6 x7 x8 u H locs ls hw f_k4 f_k5 f_k6 h hl
  obtain ⟨⟨hx, hb, hml, hown, hts⟩, hK, hA⟩ := id C
  unfold wX5_step_B41 at hw
  refine lv_iload hx hb dX5_step_41 (lv_at hl 7 rfl) ?_
  refine lv_aload_n hx hb dX5_step_43 rfl (lv_at hl 0 rfl) ?_
  refine kget C h 8 rfl rfl inBX5 5 (Nat.le_of_ble_eq_true rfl) wi_fl_X5_26 rfl dX5_step_44 ?_
  refine lv_iload_n hx hb dX5_step_47 rfl (lv_at hl 1 rfl) ?_
  obtain ⟨i_48, hw⟩ := hw
  refine kiald C h 26 rfl i_48 dX5_step_48 ?_
  refine lv_icmp_ge (tgt := 84) hx hb dX5_step_49 (by decide) (fun c_49 => ?_) (fun c_49 => ?_)
  · have hw := hw.1 c_49
    refine lv_aload_n hx hb dX5_step_84 rfl (lv_at hl 0 rfl) ?_
    refine kget C h 8 rfl rfl inBX5 5 (Nat.le_of_ble_eq_true rfl) wi_fl_X5_26 rfl dX5_step_85 ?_
    refine lv_iload_n hx hb dX5_step_88 rfl (lv_at hl 1 rfl) ?_
    refine lv_iconst (v := 1) hx hb dX5_step_89 (by decide) ?_
    refine lv_iadd hx hb dX5_step_90 ?_
    refine lv_iload hx hb dX5_step_91 (lv_at hl 6 rfl) ?_
    obtain ⟨i_93, hw⟩ := hw
    refine kiast C h 26 rfl i_93 (cS_R cy ad u (x1 + 1).toNatClampNeg x7 9 (Nat.le_of_ble_eq_true rfl)) dX5_step_93 (fun H locs h => ?_)
    exact kretV C hr hlk h hw dX5_step_94
  · have hw := hw.2 c_49
    refine lv_aload hx hb dX5_step_52 (lv_at hl 5 rfl) ?_
    refine lv_aload hx hb dX5_step_54 (lv_at hl 3 rfl) ?_
    refine lv_iload hx hb dX5_step_56 (lv_at hl 7 rfl) ?_
    obtain ⟨i_58, hw⟩ := hw
    refine kiald C h (17 + k4) (cW_R cy ad u k4 (by omega)) (by rw [lenR_256 (by omega)]; exact i_58) dX5_step_58 ?_
    obtain ⟨i_59, hw⟩ := hw
    refine kiald C h (17 + k6) (cW_R cy ad u k6 (by omega)) (by rw [lenR_256 (by omega)]; exact i_59) dX5_step_59 ?_
    refine lv_iload_n hx hb dX5_step_60 rfl (lv_at hl 2 rfl) ?_
    refine lv_iand hx hb dX5_step_61 ?_
    refine lv_if_ne (tgt := 78) hx hb dX5_step_62 (by decide) (fun c_62 => ?_) (fun c_62 => ?_)
    · have hw := hw.1 c_62
      exact kX5_step_b78 C hr hlk g41 x1 x2 k4 k5 k6 x7 x8 _ _ _ _ hw (by omega) (by omega) (by omega) h (lv_sub hl [0, 1, 2, 3, 4, 5, 6, 7] rfl)
    · have hw := hw.2 c_62
      refine lv_aload hx hb dX5_step_65 (lv_at hl 4 rfl) ?_
      refine lv_iload hx hb dX5_step_67 (lv_at hl 6 rfl) ?_
      refine lv_aload hx hb dX5_step_69 (lv_at hl 3 rfl) ?_
      refine lv_iload hx hb dX5_step_71 (lv_at hl 7 rfl) ?_
      obtain ⟨i_73, hw⟩ := hw
      refine kiald C h (17 + k4) (cW_R cy ad u k4 (by omega)) (by rw [lenR_256 (by omega)]; exact i_73) dX5_step_73 ?_
      obtain ⟨i_74, hw⟩ := hw
      refine kiast C h (17 + k5) (cW_R cy ad u k5 (by omega)) (by rw [lenR_256 (by omega)]; exact i_74) (cS_R cy ad u x7.toNatClampNeg (gR u k4 x8.toNatClampNeg) k5 (by omega)) dX5_step_74 (fun H locs h => ?_)
      refine lv_iinc (v := x7 + 1) (lv' := [(7, .int (x7 + 1)), (0, .ref (ad 8)), (1, .int x1), (2, .int x2), (4, .ref (aR ad k4)), (5, .ref (aR ad k5)), (6, .ref (aR ad k6)), (8, .int x8)]) hx hb dX5_step_75 hl (k := 6) rfl rfl (by decide) rfl (fun ls hl => ?_)
      exact kX5_step_b78 C hr hlk g41 x1 x2 k4 k5 k6 (x7 + 1) x8 _ _ _ _ hw (by omega) (by omega) (by omega) h (lv_sub hl [1, 2, 3, 4, 5, 6, 0, 7] rfl)
def wX5_step_L41 (Q : ST → Prop) : Nat → Int32 → Int32 → Nat → Nat → Nat → Int32 → Int32 → ST → Prop
  | 0, _, _, _, _, _, _, _, _ => False
  | n + 1, x1, x2, k4, k5, k6, x7, x8, u => wX5_step_B41 (wX5_step_L41 Q n) Q x1 x2 k4 k5 k6 x7 x8 u
set_option maxHeartbeats 4000000 in
theorem kX5_step_L41 {p : Program} {l : Launch} {e : Env} {s : State} {m : MethodId} {args : Array Value} {below : List Frame} {meth : Method} {c : Code} {D : va_G} {cy : CY} {A : Nat → Prop} {ad : Nat → Nat} {Q : ST → Prop} (C : kC p m c cX5_step 9 s args RX5 D cy A) (hr : meth.sig.returnType = none) (hlk : meth.locks = false) : ∀ n : Nat, ∀ (x1 : Int32) (x2 : Int32) (k4 : Nat) (k5 : Nat) (k6 : Nat) (x7 : Int32) (x8 : Int32) (u : ST) (H : Heap) (locs : List Loc) (ls : Array Slot), wX5_step_L41 Q n x1 x2 k4 k5 k6 x7 x8 u → ((k4 < 9 ∨ 16 ≤ k4) ∧ k4 < 33) → ((k5 < 9 ∨ 16 ≤ k5) ∧ k5 < 33) → ((k6 < 9 ∨ 16 ≤ k6) ∧ k6 < 33) → kH D (cW cy ad) A s u H locs → lv_has ls 9 [(0, .ref (ad 8)), (1, .int x1), (2, .int x2), (4, .ref (aR ad k4)), (5, .ref (aR ad k5)), (6, .ref (aR ad k6)), (7, .int x7), (8, .int x8)] → W p l e (kRm 0) s m args below meth c H locs 0 0 (MQ below (kQv D (cW cy ad) cy A Q) args s 0 0 A) (F0 m 41 ls []) := by
  intro n
  induction n with
  | zero => intro x1 x2 k4 k5 k6 x7 x8 u H locs ls hw; exact False.elim hw
  | succ n ih => exact kX5_step_B41 C hr hlk ih
def wX5_step_b33 (Q : ST → Prop) (x1 : Int32) (x2 : Int32) (k4 : Nat) (k5 : Nat) (ks0 : Nat) (u : ST) : Prop :=
  (∃ n : Nat, wX5_step_L41 Q n x1 x2 k4 k5 ks0 0 0 u)
set_option maxHeartbeats 4000000 in
set_option maxRecDepth 100000 in
theorem kX5_step_b33 {p : Program} {l : Launch} {e : Env} {s : State} {m : MethodId} {args : Array Value} {below : List Frame} {meth : Method} {c : Code} {D : va_G} {cy : CY} {A : Nat → Prop} {ad : Nat → Nat} {Q : ST → Prop} (C : kC p m c cX5_step 9 s args RX5 D cy A) (hr : meth.sig.returnType = none) (hlk : meth.locks = false) : ∀ (x1 : Int32) (x2 : Int32) (k4 : Nat) (k5 : Nat) (ks0 : Nat) (u : ST) (H : Heap) (locs : List Loc) (ls : Array Slot), wX5_step_b33 Q x1 x2 k4 k5 ks0 u → ((k4 < 9 ∨ 16 ≤ k4) ∧ k4 < 33) → ((k5 < 9 ∨ 16 ≤ k5) ∧ k5 < 33) → ((ks0 < 9 ∨ 16 ≤ ks0) ∧ ks0 < 33) → kH D (cW cy ad) A s u H locs → lv_has ls 9 [(0, .ref (ad 8)), (1, .int x1), (2, .int x2), (4, .ref (aR ad k4)), (5, .ref (aR ad k5))] → W p l e (kRm 0) s m args below meth c H locs 0 0 (MQ below (kQv D (cW cy ad) cy A Q) args s 0 0 A) (F0 m 33 ls [.ref (aR ad ks0)]) := by
  intro x1 x2 k4 k5 ks0 u H locs ls hw f_k4 f_k5 f_ks0 h hl
  obtain ⟨⟨hx, hb, hml, hown, hts⟩, hK, hA⟩ := id C
  unfold wX5_step_b33 at hw
  refine lv_astore (lv' := [(6, .ref (aR ad ks0)), (0, .ref (ad 8)), (1, .int x1), (2, .int x2), (4, .ref (aR ad k4)), (5, .ref (aR ad k5))]) hx hb dX5_step_33 hl (by decide) rfl (fun ls hl => ?_)
  refine lv_iconst (v := 0) hx hb dX5_step_35 (by decide) ?_
  refine lv_istore (lv' := [(7, .int 0), (6, .ref (aR ad ks0)), (0, .ref (ad 8)), (1, .int x1), (2, .int x2), (4, .ref (aR ad k4)), (5, .ref (aR ad k5))]) hx hb dX5_step_36 hl (by decide) rfl (fun ls hl => ?_)
  refine lv_iconst (v := 0) hx hb dX5_step_38 (by decide) ?_
  refine lv_istore (lv' := [(8, .int 0), (7, .int 0), (6, .ref (aR ad ks0)), (0, .ref (ad 8)), (1, .int x1), (2, .int x2), (4, .ref (aR ad k4)), (5, .ref (aR ad k5))]) hx hb dX5_step_39 hl (by decide) rfl (fun ls hl => ?_)
  obtain ⟨n, hw⟩ := hw
  exact kX5_step_L41 C hr hlk n x1 x2 k4 k5 ks0 0 0 _ _ _ _ hw (by omega) (by omega) (by omega) h (lv_sub hl [3, 4, 5, 6, 7, 2, 1, 0] rfl)
def wX5_step (x1 : Int32) (x2 : Int32) (x3 : Int32) (u : ST) (Q : ST → Prop) : Prop :=
  (vp_in x1 17 ∧ (vp_in (x1 + 1) 17 ∧ ((x3 = 0 → wX5_step_b33 Q x1 x2 (16 + x1.toNatClampNeg) (16 + (x1 + 1).toNatClampNeg) 6 u) ∧ (¬ x3 = 0 → wX5_step_b33 Q x1 x2 (16 + x1.toNatClampNeg) (16 + (x1 + 1).toNatClampNeg) 7 u))))
set_option maxHeartbeats 4000000 in
set_option maxRecDepth 100000 in
theorem mX5_step (l : Launch) (D : va_G) (cy : CY) (ad : Nat → Nat) (x1 : Int32) (x2 : Int32) (x3 : Int32) (u : ST) (sz : Nat) {Q : ST → Prop} (hw : wX5_step x1 x2 x3 u Q) : Met l yX5_step (wM yX5_step cX5_step 9 none) (kRm 0) (kPc D (cW cy ad) cy u sz [.ref (ad 8), .int x1, .int x2, .int x3]) (kQv D (cW cy ad) cy (va_A (cW cy ad u) sz) Q) 0 0 (va_A (cW cy ad u) sz) := by
  refine kMet pn_X5_step (Nat.le_of_ble_eq_true rfl) (fun p e s m below meth c ls hsz C hr hlk hex h hl => ?_)
  have hl : lv_has ls 9 [(0, .ref (ad 8)), (1, .int x1), (2, .int x2), (3, .int x3)] := hl
  obtain ⟨⟨hx, hb, hml, hown, hts⟩, hK, hA⟩ := id C
  unfold wX5_step at hw
  have h : kH D (cW cy ad) (va_A (cW cy ad u) sz) s u s.heap [] := h
  refine lv_aload_n hx hb dX5_step_0 rfl (lv_at hl 0 rfl) ?_
  refine kget C h 8 rfl rfl inBX5 4 (Nat.le_of_ble_eq_true rfl) wi_fl_X5_23 rfl dX5_step_1 ?_
  refine lv_iload_n hx hb dX5_step_4 rfl (lv_at hl 1 rfl) ?_
  obtain ⟨i_5, hw⟩ := hw
  refine kaald C h 16 (f := fun d => aR ad (16 + d)) rfl i_5 dX5_step_5 ?_
  have b_5 := vp_lt i_5
  refine lv_astore (lv' := [(4, .ref (aR ad (16 + x1.toNatClampNeg))), (0, .ref (ad 8)), (1, .int x1), (2, .int x2), (3, .int x3)]) hx hb dX5_step_6 hl (by decide) rfl (fun ls hl => ?_)
  refine lv_aload_n hx hb dX5_step_8 rfl (lv_at hl 1 rfl) ?_
  refine kget C h 8 rfl rfl inBX5 4 (Nat.le_of_ble_eq_true rfl) wi_fl_X5_23 rfl dX5_step_9 ?_
  refine lv_iload_n hx hb dX5_step_12 rfl (lv_at hl 2 rfl) ?_
  refine lv_iconst (v := 1) hx hb dX5_step_13 (by decide) ?_
  refine lv_iadd hx hb dX5_step_14 ?_
  obtain ⟨i_15, hw⟩ := hw
  refine kaald C h 16 (f := fun d => aR ad (16 + d)) rfl i_15 dX5_step_15 ?_
  have b_15 := vp_lt i_15
  refine lv_astore (lv' := [(5, .ref (aR ad (16 + (x1 + 1).toNatClampNeg))), (4, .ref (aR ad (16 + x1.toNatClampNeg))), (0, .ref (ad 8)), (1, .int x1), (2, .int x2), (3, .int x3)]) hx hb dX5_step_16 hl (by decide) rfl (fun ls hl => ?_)
  refine lv_iload_n hx hb dX5_step_18 rfl (lv_at hl 5 rfl) ?_
  refine lv_if_eq (tgt := 29) hx hb dX5_step_19 (by decide) (fun c_19 => ?_) (fun c_19 => ?_)
  · have hw := hw.1 c_19
    refine lv_aload_n hx hb dX5_step_29 rfl (lv_at hl 2 rfl) ?_
    refine kget C h 8 rfl rfl inBX5 0 (Nat.le_of_ble_eq_true rfl) wi_fl_X5_9 rfl dX5_step_30 ?_
    exact kX5_step_b33 C hr hlk x1 x2 (16 + x1.toNatClampNeg) (16 + (x1 + 1).toNatClampNeg) 6 _ _ _ _ hw (by omega) (by omega) (by omega) h (lv_sub hl [2, 3, 4, 1, 0] rfl)
  · have hw := hw.2 c_19
    refine lv_aload_n hx hb dX5_step_22 rfl (lv_at hl 2 rfl) ?_
    refine kget C h 8 rfl rfl inBX5 1 (Nat.le_of_ble_eq_true rfl) wi_fl_X5_15 rfl dX5_step_23 ?_
    refine lv_goto (tgt := 33) hx hb dX5_step_26 (by decide) ?_
    exact kX5_step_b33 C hr hlk x1 x2 (16 + x1.toNatClampNeg) (16 + (x1 + 1).toNatClampNeg) 7 _ _ _ _ hw (by omega) (by omega) (by omega) h (lv_sub hl [2, 3, 4, 1, 0] rfl)

def wX5_splittingBit_B68 (K68 : Int32 → Int32 → ST → Prop) (Q : Int32 → ST → Prop) (x3 : Int32) (x4 : Int32) (u : ST) : Prop :=
  ((x4 ≤ 0 → Q x4 u) ∧ (¬ x4 ≤ 0 → ((¬ (x3 &&& x4) = 0 → Q x4 u) ∧ ((x3 &&& x4) = 0 → K68 x3 (x4 >>> (1 &&& 31)) u))))
set_option maxHeartbeats 4000000 in
set_option maxRecDepth 100000 in
theorem kX5_splittingBit_B68 {p : Program} {l : Launch} {e : Env} {s : State} {m : MethodId} {args : Array Value} {below : List Frame} {meth : Method} {c : Code} {D : va_G} {cy : CY} {A : Nat → Prop} {ad : Nat → Nat} {K68 : Int32 → Int32 → ST → Prop} {Q : Int32 → ST → Prop} (C : kC p m c cX5_splittingBit 7 s args RX5 D cy A) (hr : meth.sig.returnType = some .int) (hlk : meth.locks = false) (g68 : ∀ (x3 : Int32) (x4 : Int32) (u : ST) (H : Heap) (locs : List Loc) (ls : Array Slot), K68 x3 x4 u → kH D (cW cy ad) A s u H locs → lv_has ls 7 [(3, .int x3), (4, .int x4)] → W p l e (kRm 0) s m args below meth c H locs 0 0 (MQ below (kQi D (cW cy ad) cy A Q) args s 0 0 A) (F0 m 68 ls [])) : ∀ (x3 : Int32) (x4 : Int32) (u : ST) (H : Heap) (locs : List Loc) (ls : Array Slot), wX5_splittingBit_B68 K68 Q x3 x4 u → kH D (cW cy ad) A s u H locs → lv_has ls 7 [(3, .int x3), (4, .int x4)] → W p l e (kRm 0) s m args below meth c H locs 0 0 (MQ below (kQi D (cW cy ad) cy A Q) args s 0 0 A) (F0 m 68 ls []) := by
  intro x3 x4 u H locs ls hw h hl
  obtain ⟨⟨hx, hb, hml, hown, hts⟩, hK, hA⟩ := id C
  unfold wX5_splittingBit_B68 at hw
  refine lv_iload hx hb dX5_splittingBit_68 (lv_at hl 1 rfl) ?_
  refine lv_if_le (tgt := 89) hx hb dX5_splittingBit_70 (by decide) (fun c_70 => ?_) (fun c_70 => ?_)
  · have hw := hw.1 c_70
    refine lv_iload hx hb dX5_splittingBit_89 (lv_at hl 1 rfl) ?_
    exact kretI C hr hlk h hw dX5_splittingBit_91
  · have hw := hw.2 c_70
    refine lv_iload_n hx hb dX5_splittingBit_73 rfl (lv_at hl 0 rfl) ?_
    refine lv_iload hx hb dX5_splittingBit_74 (lv_at hl 1 rfl) ?_
    refine lv_iand hx hb dX5_splittingBit_76 ?_
    refine lv_if_ne (tgt := 89) hx hb dX5_splittingBit_77 (by decide) (fun c_77 => ?_) (fun c_77 => ?_)
    · have hw := hw.1 c_77
      refine lv_iload hx hb dX5_splittingBit_89 (lv_at hl 1 rfl) ?_
      exact kretI C hr hlk h hw dX5_splittingBit_91
    · have hw := hw.2 c_77
      refine lv_iload hx hb dX5_splittingBit_80 (lv_at hl 1 rfl) ?_
      refine lv_iconst (v := 1) hx hb dX5_splittingBit_82 (by decide) ?_
      refine lv_ishr hx hb dX5_splittingBit_83 ?_
      refine lv_istore (lv' := [(4, .int (x4 >>> (1 &&& 31))), (3, .int x3)]) hx hb dX5_splittingBit_84 hl (by decide) rfl (fun ls hl => ?_)
      refine lv_goto (tgt := 68) hx hb dX5_splittingBit_86 (by decide) ?_
      exact g68 x3 (x4 >>> (1 &&& 31)) _ _ _ _ hw h (lv_sub hl [1, 0] rfl)
def wX5_splittingBit_L68 (Q : Int32 → ST → Prop) : Nat → Int32 → Int32 → ST → Prop
  | 0, _, _, _ => False
  | n + 1, x3, x4, u => wX5_splittingBit_B68 (wX5_splittingBit_L68 Q n) Q x3 x4 u
set_option maxHeartbeats 4000000 in
theorem kX5_splittingBit_L68 {p : Program} {l : Launch} {e : Env} {s : State} {m : MethodId} {args : Array Value} {below : List Frame} {meth : Method} {c : Code} {D : va_G} {cy : CY} {A : Nat → Prop} {ad : Nat → Nat} {Q : Int32 → ST → Prop} (C : kC p m c cX5_splittingBit 7 s args RX5 D cy A) (hr : meth.sig.returnType = some .int) (hlk : meth.locks = false) : ∀ n : Nat, ∀ (x3 : Int32) (x4 : Int32) (u : ST) (H : Heap) (locs : List Loc) (ls : Array Slot), wX5_splittingBit_L68 Q n x3 x4 u → kH D (cW cy ad) A s u H locs → lv_has ls 7 [(3, .int x3), (4, .int x4)] → W p l e (kRm 0) s m args below meth c H locs 0 0 (MQ below (kQi D (cW cy ad) cy A Q) args s 0 0 A) (F0 m 68 ls []) := by
  intro n
  induction n with
  | zero => intro x3 x4 u H locs ls hw; exact False.elim hw
  | succ n ih => exact kX5_splittingBit_B68 C hr hlk ih
def wX5_splittingBit_B5 (K5 : Int32 → Int32 → Int32 → Int32 → ST → Prop) (Q : Int32 → ST → Prop) (x1 : Int32) (x2 : Int32) (x3 : Int32) (x4 : Int32) (u : ST) : Prop :=
  (vp_in x1 17 ∧ (((gR u 9 x1.toNatClampNeg) ≤ x4 → (∃ n : Nat, wX5_splittingBit_L68 Q n x3 32768 u)) ∧ (¬ (gR u 9 x1.toNatClampNeg) ≤ x4 → (vp_in x1 17 ∧ (vp_in x4 256 ∧ (vp_in (gR u (16 + x1.toNatClampNeg) x4.toNatClampNeg) 256 ∧ (vp_in (gR u (16 + x1.toNatClampNeg) x4.toNatClampNeg) 256 ∧ (∀ x6_1 : Int32, x6_1 = ((gR u 6 (gR u (16 + x1.toNatClampNeg) x4.toNatClampNeg).toNatClampNeg) ||| (gR u 7 (gR u (16 + x1.toNatClampNeg) x4.toNatClampNeg).toNatClampNeg)) &&& x2 → ((¬ x6_1 = 0 → K5 x1 x2 (x3 ||| x6_1) (x4 + 1) u) ∧ (x6_1 = 0 → Q 0 u))))))))))
set_option maxHeartbeats 4000000 in
set_option maxRecDepth 100000 in
theorem kX5_splittingBit_B5 {p : Program} {l : Launch} {e : Env} {s : State} {m : MethodId} {args : Array Value} {below : List Frame} {meth : Method} {c : Code} {D : va_G} {cy : CY} {A : Nat → Prop} {ad : Nat → Nat} {K5 : Int32 → Int32 → Int32 → Int32 → ST → Prop} {Q : Int32 → ST → Prop} (C : kC p m c cX5_splittingBit 7 s args RX5 D cy A) (hr : meth.sig.returnType = some .int) (hlk : meth.locks = false) (g5 : ∀ (x1 : Int32) (x2 : Int32) (x3 : Int32) (x4 : Int32) (u : ST) (H : Heap) (locs : List Loc) (ls : Array Slot), K5 x1 x2 x3 x4 u → kH D (cW cy ad) A s u H locs → lv_has ls 7 [(0, .ref (ad 8)), (1, .int x1), (2, .int x2), (3, .int x3), (4, .int x4)] → W p l e (kRm 0) s m args below meth c H locs 0 0 (MQ below (kQi D (cW cy ad) cy A Q) args s 0 0 A) (F0 m 5 ls [])) : ∀ (x1 : Int32) (x2 : Int32) (x3 : Int32) (x4 : Int32) (u : ST) (H : Heap) (locs : List Loc) (ls : Array Slot), wX5_splittingBit_B5 K5 Q x1 x2 x3 x4 u → kH D (cW cy ad) A s u H locs → lv_has ls 7 [(0, .ref (ad 8)), (1, .int x1), (2, .int x2), (3, .int x3), (4, .int x4)] → W p l e (kRm 0) s m args below meth c H locs 0 0 (MQ below (kQi D (cW cy ad) cy A Q) args s 0 0 A) (F0 m 5 ls []) := by
  intro x1 x2 x3 x4 u H locs ls hw h hl
  obtain ⟨⟨hx, hb, hml, hown, hts⟩, hK, hA⟩ := id C
  unfold wX5_splittingBit_B5 at hw
  refine lv_iload hx hb dX5_splittingBit_5 (lv_at hl 4 rfl) ?_
  refine lv_aload_n hx hb dX5_splittingBit_7 rfl (lv_at hl 0 rfl) ?_
  refine kget C h 8 rfl rfl inBX5 5 (Nat.le_of_ble_eq_true rfl) wi_fl_X5_26 rfl dX5_splittingBit_8 ?_
  refine lv_iload_n hx hb dX5_splittingBit_11 rfl (lv_at hl 1 rfl) ?_
  obtain ⟨i_12, hw⟩ := hw
  refine kiald C h 26 rfl i_12 dX5_splittingBit_12 ?_
  refine lv_icmp_ge (tgt := 64) hx hb dX5_splittingBit_13 (by decide) (fun c_13 => ?_) (fun c_13 => ?_)
  · have hw := hw.1 c_13
    refine lv_ldc hx hb hown (hts _ wi_ld_X5_51) dX5_splittingBit_64 ?_
    refine lv_istore (lv' := [(4, .int 32768), (0, .ref (ad 8)), (1, .int x1), (2, .int x2), (3, .int x3)]) hx hb dX5_splittingBit_66 hl (by decide) rfl (fun ls hl => ?_)
    obtain ⟨n, hw⟩ := hw
    exact kX5_splittingBit_L68 C hr hlk n x3 32768 _ _ _ _ hw h (lv_sub hl [4, 0] rfl)
  · have hw := hw.2 c_13
    refine lv_aload_n hx hb dX5_splittingBit_16 rfl (lv_at hl 0 rfl) ?_
    refine kget C h 8 rfl rfl inBX5 4 (Nat.le_of_ble_eq_true rfl) wi_fl_X5_23 rfl dX5_splittingBit_17 ?_
    refine lv_iload_n hx hb dX5_splittingBit_20 rfl (lv_at hl 1 rfl) ?_
    obtain ⟨i_21, hw⟩ := hw
    refine kaald C h 16 (f := fun d => aR ad (16 + d)) rfl i_21 dX5_splittingBit_21 ?_
    have b_21 := vp_lt i_21
    refine lv_iload hx hb dX5_splittingBit_22 (lv_at hl 4 rfl) ?_
    obtain ⟨i_24, hw⟩ := hw
    have b_24 := vp_lt i_21
    refine kiald C h (17 + (16 + x1.toNatClampNeg)) (cW_R cy ad u (16 + x1.toNatClampNeg) (by omega)) (by rw [lenR_256 (by omega)]; exact i_24) dX5_splittingBit_24 ?_
    refine lv_istore (lv' := [(5, .int (gR u (16 + x1.toNatClampNeg) x4.toNatClampNeg)), (0, .ref (ad 8)), (1, .int x1), (2, .int x2), (3, .int x3), (4, .int x4)]) hx hb dX5_splittingBit_25 hl (by decide) rfl (fun ls hl => ?_)
    refine lv_aload_n hx hb dX5_splittingBit_27 rfl (lv_at hl 1 rfl) ?_
    refine kget C h 8 rfl rfl inBX5 0 (Nat.le_of_ble_eq_true rfl) wi_fl_X5_9 rfl dX5_splittingBit_28 ?_
    refine lv_iload hx hb dX5_splittingBit_31 (lv_at hl 0 rfl) ?_
    obtain ⟨i_33, hw⟩ := hw
    refine kiald C h 23 rfl i_33 dX5_splittingBit_33 ?_
    refine lv_aload_n hx hb dX5_splittingBit_34 rfl (lv_at hl 1 rfl) ?_
    refine kget C h 8 rfl rfl inBX5 1 (Nat.le_of_ble_eq_true rfl) wi_fl_X5_15 rfl dX5_splittingBit_35 ?_
    refine lv_iload hx hb dX5_splittingBit_38 (lv_at hl 0 rfl) ?_
    obtain ⟨i_40, hw⟩ := hw
    refine kiald C h 24 rfl i_40 dX5_splittingBit_40 ?_
    refine lv_ior hx hb dX5_splittingBit_41 ?_
    refine lv_iload_n hx hb dX5_splittingBit_42 rfl (lv_at hl 3 rfl) ?_
    refine lv_iand hx hb dX5_splittingBit_43 ?_
    refine lv_topi (fun x6_1 ex6_1 => ?_)
    have hw := hw x6_1 ex6_1
    refine lv_istore (lv' := [(6, .int x6_1), (5, .int (gR u (16 + x1.toNatClampNeg) x4.toNatClampNeg)), (0, .ref (ad 8)), (1, .int x1), (2, .int x2), (3, .int x3), (4, .int x4)]) hx hb dX5_splittingBit_44 hl (by decide) rfl (fun ls hl => ?_)
    refine lv_iload hx hb dX5_splittingBit_46 (lv_at hl 0 rfl) ?_
    refine lv_if_ne (tgt := 53) hx hb dX5_splittingBit_48 (by decide) (fun c_48 => ?_) (fun c_48 => ?_)
    · have hw := hw.1 c_48
      refine lv_iload_n hx hb dX5_splittingBit_53 rfl (lv_at hl 5 rfl) ?_
      refine lv_iload hx hb dX5_splittingBit_54 (lv_at hl 0 rfl) ?_
      refine lv_ior hx hb dX5_splittingBit_56 ?_
      refine lv_istore_n (lv' := [(3, .int (x3 ||| x6_1)), (6, .int x6_1), (5, .int (gR u (16 + x1.toNatClampNeg) x4.toNatClampNeg)), (0, .ref (ad 8)), (1, .int x1), (2, .int x2), (4, .int x4)]) hx hb dX5_splittingBit_57 rfl hl (by decide) rfl (fun ls hl => ?_)
      refine lv_iinc (v := x4 + 1) (lv' := [(4, .int (x4 + 1)), (3, .int (x3 ||| x6_1)), (6, .int x6_1), (5, .int (gR u (16 + x1.toNatClampNeg) x4.toNatClampNeg)), (0, .ref (ad 8)), (1, .int x1), (2, .int x2)]) hx hb dX5_splittingBit_58 hl (k := 6) rfl rfl (by decide) rfl (fun ls hl => ?_)
      refine lv_goto (tgt := 5) hx hb dX5_splittingBit_61 (by decide) ?_
      exact g5 x1 x2 (x3 ||| x6_1) (x4 + 1) _ _ _ _ hw h (lv_sub hl [4, 5, 6, 1, 0] rfl)
    · have hw := hw.2 c_48
      refine lv_iconst (v := 0) hx hb dX5_splittingBit_51 (by decide) ?_
      exact kretI C hr hlk h hw dX5_splittingBit_52
def wX5_splittingBit_L5 (Q : Int32 → ST → Prop) : Nat → Int32 → Int32 → Int32 → Int32 → ST → Prop
  | 0, _, _, _, _, _ => False
  | n + 1, x1, x2, x3, x4, u => wX5_splittingBit_B5 (wX5_splittingBit_L5 Q n) Q x1 x2 x3 x4 u
set_option maxHeartbeats 4000000 in
theorem kX5_splittingBit_L5 {p : Program} {l : Launch} {e : Env} {s : State} {m : MethodId} {args : Array Value} {below : List Frame} {meth : Method} {c : Code} {D : va_G} {cy : CY} {A : Nat → Prop} {ad : Nat → Nat} {Q : Int32 → ST → Prop} (C : kC p m c cX5_splittingBit 7 s args RX5 D cy A) (hr : meth.sig.returnType = some .int) (hlk : meth.locks = false) : ∀ n : Nat, ∀ (x1 : Int32) (x2 : Int32) (x3 : Int32) (x4 : Int32) (u : ST) (H : Heap) (locs : List Loc) (ls : Array Slot), wX5_splittingBit_L5 Q n x1 x2 x3 x4 u → kH D (cW cy ad) A s u H locs → lv_has ls 7 [(0, .ref (ad 8)), (1, .int x1), (2, .int x2), (3, .int x3), (4, .int x4)] → W p l e (kRm 0) s m args below meth c H locs 0 0 (MQ below (kQi D (cW cy ad) cy A Q) args s 0 0 A) (F0 m 5 ls []) := by
  intro n
  induction n with
  | zero => intro x1 x2 x3 x4 u H locs ls hw; exact False.elim hw
  | succ n ih => exact kX5_splittingBit_B5 C hr hlk ih
def wX5_splittingBit (x1 : Int32) (x2 : Int32) (u : ST) (Q : Int32 → ST → Prop) : Prop :=
  (∃ n : Nat, wX5_splittingBit_L5 Q n x1 x2 0 0 u)
set_option maxHeartbeats 4000000 in
set_option maxRecDepth 100000 in
theorem mX5_splittingBit (l : Launch) (D : va_G) (cy : CY) (ad : Nat → Nat) (x1 : Int32) (x2 : Int32) (u : ST) (sz : Nat) {Q : Int32 → ST → Prop} (hw : wX5_splittingBit x1 x2 u Q) : Met l yX5_splittingBit (wM yX5_splittingBit cX5_splittingBit 7 (some .int)) (kRm 0) (kPc D (cW cy ad) cy u sz [.ref (ad 8), .int x1, .int x2]) (kQi D (cW cy ad) cy (va_A (cW cy ad u) sz) Q) 0 0 (va_A (cW cy ad u) sz) := by
  refine kMet pn_X5_splittingBit (Nat.le_of_ble_eq_true rfl) (fun p e s m below meth c ls hsz C hr hlk hex h hl => ?_)
  have hl : lv_has ls 7 [(0, .ref (ad 8)), (1, .int x1), (2, .int x2)] := hl
  obtain ⟨⟨hx, hb, hml, hown, hts⟩, hK, hA⟩ := id C
  unfold wX5_splittingBit at hw
  have h : kH D (cW cy ad) (va_A (cW cy ad u) sz) s u s.heap [] := h
  refine lv_iconst (v := 0) hx hb dX5_splittingBit_0 (by decide) ?_
  refine lv_istore_n (lv' := [(3, .int 0), (0, .ref (ad 8)), (1, .int x1), (2, .int x2)]) hx hb dX5_splittingBit_1 rfl hl (by decide) rfl (fun ls hl => ?_)
  refine lv_iconst (v := 0) hx hb dX5_splittingBit_2 (by decide) ?_
  refine lv_istore (lv' := [(4, .int 0), (3, .int 0), (0, .ref (ad 8)), (1, .int x1), (2, .int x2)]) hx hb dX5_splittingBit_3 hl (by decide) rfl (fun ls hl => ?_)
  obtain ⟨n, hw⟩ := hw
  exact kX5_splittingBit_L5 C hr hlk n x1 x2 0 0 _ _ _ _ hw h (lv_sub hl [2, 3, 4, 1, 0] rfl)

def wX5_leastGapFrom_E (F : Int32 → Int32 → Int32 → ST → (Int32 → ST → Prop) → Prop) (x1 : Int32) (x2 : Int32) (x3 : Int32) (u : ST) (Q : Int32 → ST → Prop) : Prop :=
  (vp_in x1 17 ∧ ((¬ (gR u 9 x1.toNatClampNeg) = 0 → wX5_splittingBit x1 x2 u (fun r_1 u_2 => ((r_1 = 0 → Q (-1) u_2) ∧ (¬ r_1 = 0 → ((x1 < 16 → wX5_step x1 r_1 0 u_2 (fun u_4 => F (x1 + 1) (x2 &&& (r_1 ^^^ (-1))) x3 u_4 (fun r_5 u_6 => ((r_5 = (-1) → wX5_step x1 r_1 1 u_6 (fun u_8 => F (x1 + 1) (x2 &&& (r_1 ^^^ (-1))) (x3 ||| r_1) u_8 (fun r_9 u_10 => Q r_9 u_10))) ∧ (¬ r_5 = (-1) → Q r_5 u_6))))) ∧ (¬ x1 < 16 → Q (-1) u_2)))))) ∧ ((gR u 9 x1.toNatClampNeg) = 0 → Q x3 u)))
set_option maxHeartbeats 4000000 in
set_option maxRecDepth 100000 in
theorem mX5_leastGapFrom_E (l : Launch) (D : va_G) (cy : CY) (ad : Nat → Nat) (d : Nat) {F : Int32 → Int32 → Int32 → ST → (Int32 → ST → Prop) → Prop} (hF : ∀ (x1 : Int32) (x2 : Int32) (x3 : Int32) (u : ST) (sz : Nat) (Q : Int32 → ST → Prop), F x1 x2 x3 u Q → Met l yX5_leastGapFrom (wM yX5_leastGapFrom cX5_leastGapFrom 6 (some .int)) (kRm (0 + d)) (kPc D (cW cy ad) cy u sz [.ref (ad 8), .int x1, .int x2, .int x3]) (kQi D (cW cy ad) cy (va_A (cW cy ad u) sz) Q) 0 0 (va_A (cW cy ad u) sz)) (x1 : Int32) (x2 : Int32) (x3 : Int32) (u : ST) (sz : Nat) {Q : Int32 → ST → Prop} (hw : wX5_leastGapFrom_E F x1 x2 x3 u Q) : Met l yX5_leastGapFrom (wM yX5_leastGapFrom cX5_leastGapFrom 6 (some .int)) (kRm (1 + d)) (kPc D (cW cy ad) cy u sz [.ref (ad 8), .int x1, .int x2, .int x3]) (kQi D (cW cy ad) cy (va_A (cW cy ad u) sz) Q) 0 0 (va_A (cW cy ad u) sz) := by
  refine kMet pn_X5_leastGapFrom (Nat.le_of_ble_eq_true rfl) (fun p e s m below meth c ls hsz C hr hlk hex h hl => ?_)
  have hl : lv_has ls 6 [(0, .ref (ad 8)), (1, .int x1), (2, .int x2), (3, .int x3)] := hl
  obtain ⟨⟨hx, hb, hml, hown, hts⟩, hK, hA⟩ := id C
  unfold wX5_leastGapFrom_E at hw
  have h : kH D (cW cy ad) (va_A (cW cy ad u) sz) s u s.heap [] := h
  refine lv_aload_n hx hb dX5_leastGapFrom_0 rfl (lv_at hl 0 rfl) ?_
  refine kget C h 8 rfl rfl inBX5 5 (Nat.le_of_ble_eq_true rfl) wi_fl_X5_26 rfl dX5_leastGapFrom_1 ?_
  refine lv_iload_n hx hb dX5_leastGapFrom_4 rfl (lv_at hl 1 rfl) ?_
  obtain ⟨i_5, hw⟩ := hw
  refine kiald C h 26 rfl i_5 dX5_leastGapFrom_5 ?_
  refine lv_if_ne (tgt := 11) hx hb dX5_leastGapFrom_6 (by decide) (fun c_6 => ?_) (fun c_6 => ?_)
  · have hw := hw.1 c_6
    refine lv_aload_n hx hb dX5_leastGapFrom_11 rfl (lv_at hl 0 rfl) ?_
    refine lv_iload_n hx hb dX5_leastGapFrom_12 rfl (lv_at hl 1 rfl) ?_
    refine lv_iload_n hx hb dX5_leastGapFrom_13 rfl (lv_at hl 2 rfl) ?_
    refine kVi (As := [.int x1, .int x2]) (rest := []) C h (cwV 2 hts (gd_V wi_ml_X5_56 wi_im_X5_splittingBit wi_se_X5_splittingBit wi_in_X5 wi_co_X5_splittingBit) rfl rfl rfl hd_X5_splittingBit ⟨(by show 0 + 1 ≤ 1 + d; omega), (by show 8 + (7 + 11) + 40 * 0 ≤ 40 * (1 + d); omega)⟩) 8 rfl rfl rfl (mX5_splittingBit l D cy ad x1 x2 _ _ hw) rfl hl.1 rfl (Nat.le_of_ble_eq_true rfl) ⟨Nat.zero_le _, Nat.zero_le _⟩ dX5_leastGapFrom_14 (fun r_1 u_2 H locs hw h => ?_)
    refine lv_istore (lv' := [(4, .int r_1), (0, .ref (ad 8)), (1, .int x1), (2, .int x2), (3, .int x3)]) hx hb dX5_leastGapFrom_17 hl (by decide) rfl (fun ls hl => ?_)
    refine lv_iload hx hb dX5_leastGapFrom_19 (lv_at hl 0 rfl) ?_
    refine lv_if_eq (tgt := 30) hx hb dX5_leastGapFrom_21 (by decide) (fun c_21 => ?_) (fun c_21 => ?_)
    · have hw := hw.1 c_21
      refine lv_iconst (v := (-1)) hx hb dX5_leastGapFrom_30 (by decide) ?_
      exact kretI C hr hlk h hw dX5_leastGapFrom_31
    · have hw := hw.2 c_21
      refine lv_iload_n hx hb dX5_leastGapFrom_24 rfl (lv_at hl 2 rfl) ?_
      refine lv_bipush (v := 16) hx hb dX5_leastGapFrom_25 (by decide) ?_
      refine lv_icmp_lt (tgt := 32) hx hb dX5_leastGapFrom_27 (by decide) (fun c_27 => ?_) (fun c_27 => ?_)
      · have hw := hw.1 c_27
        refine lv_aload_n hx hb dX5_leastGapFrom_32 rfl (lv_at hl 1 rfl) ?_
        refine lv_iload_n hx hb dX5_leastGapFrom_33 rfl (lv_at hl 2 rfl) ?_
        refine lv_iload hx hb dX5_leastGapFrom_34 (lv_at hl 0 rfl) ?_
        refine lv_iconst (v := 0) hx hb dX5_leastGapFrom_36 (by decide) ?_
        refine kVv (As := [.int x1, .int r_1, .int 0]) (rest := []) C h (cwV 3 hts (gd_V wi_ml_X5_60 wi_im_X5_step wi_se_X5_step wi_in_X5 wi_co_X5_step) rfl rfl rfl hd_X5_step ⟨(by show 0 + 1 ≤ 1 + d; omega), (by show 8 + (9 + 11) + 40 * 0 ≤ 40 * (1 + d); omega)⟩) 8 rfl rfl rfl (mX5_step l D cy ad x1 r_1 0 _ _ hw) rfl hl.1 rfl (Nat.le_of_ble_eq_true rfl) ⟨Nat.zero_le _, Nat.zero_le _⟩ dX5_leastGapFrom_37 (fun u_4 H locs hw h => ?_)
        refine lv_aload_n hx hb dX5_leastGapFrom_40 rfl (lv_at hl 1 rfl) ?_
        refine lv_iload_n hx hb dX5_leastGapFrom_41 rfl (lv_at hl 2 rfl) ?_
        refine lv_iconst (v := 1) hx hb dX5_leastGapFrom_42 (by decide) ?_
        refine lv_iadd hx hb dX5_leastGapFrom_43 ?_
        refine lv_iload_n hx hb dX5_leastGapFrom_44 rfl (lv_at hl 3 rfl) ?_
        refine lv_iload hx hb dX5_leastGapFrom_45 (lv_at hl 0 rfl) ?_
        refine lv_iconst (v := (-1)) hx hb dX5_leastGapFrom_47 (by decide) ?_
        refine lv_ixor hx hb dX5_leastGapFrom_48 ?_
        refine lv_iand hx hb dX5_leastGapFrom_49 ?_
        refine lv_iload_n hx hb dX5_leastGapFrom_50 rfl (lv_at hl 4 rfl) ?_
        refine kSi (As := [.ref (ad 8), .int (x1 + 1), .int (x2 &&& (r_1 ^^^ (-1))), .int x3]) (rest := []) C h (va_cwS 4 hts (gd_S wi_ml_X5_52 wi_st_X5_leastGapFrom wi_in_X5 wi_co_X5_leastGapFrom) rfl rfl rfl hd_X5_leastGapFrom.2 ⟨(by show 0 + d + 1 ≤ 1 + d; omega), (by show 8 + (6 + 11) + 40 * (0 + d) ≤ 40 * (1 + d); omega)⟩) (hF (x1 + 1) (x2 &&& (r_1 ^^^ (-1))) x3 _ _ _ hw) rfl hl.1 rfl (Nat.le_of_ble_eq_true rfl) ⟨Nat.zero_le _, Nat.zero_le _⟩ dX5_leastGapFrom_51 (fun r_5 u_6 H locs hw h => ?_)
        refine lv_istore (lv' := [(5, .int r_5), (4, .int r_1), (0, .ref (ad 8)), (1, .int x1), (2, .int x2), (3, .int x3)]) hx hb dX5_leastGapFrom_54 hl (by decide) rfl (fun ls hl => ?_)
        refine lv_iload hx hb dX5_leastGapFrom_56 (lv_at hl 0 rfl) ?_
        refine lv_iconst (v := (-1)) hx hb dX5_leastGapFrom_58 (by decide) ?_
        refine lv_icmp_eq (tgt := 65) hx hb dX5_leastGapFrom_59 (by decide) (fun c_59 => ?_) (fun c_59 => ?_)
        · have hw := hw.1 c_59
          refine lv_aload_n hx hb dX5_leastGapFrom_65 rfl (lv_at hl 2 rfl) ?_
          refine lv_iload_n hx hb dX5_leastGapFrom_66 rfl (lv_at hl 3 rfl) ?_
          refine lv_iload hx hb dX5_leastGapFrom_67 (lv_at hl 1 rfl) ?_
          refine lv_iconst (v := 1) hx hb dX5_leastGapFrom_69 (by decide) ?_
          refine kVv (As := [.int x1, .int r_1, .int 1]) (rest := []) C h (cwV 3 hts (gd_V wi_ml_X5_60 wi_im_X5_step wi_se_X5_step wi_in_X5 wi_co_X5_step) rfl rfl rfl hd_X5_step ⟨(by show 0 + 1 ≤ 1 + d; omega), (by show 8 + (9 + 11) + 40 * 0 ≤ 40 * (1 + d); omega)⟩) 8 rfl rfl rfl (mX5_step l D cy ad x1 r_1 1 _ _ hw) rfl hl.1 rfl (Nat.le_of_ble_eq_true rfl) ⟨Nat.zero_le _, Nat.zero_le _⟩ dX5_leastGapFrom_70 (fun u_8 H locs hw h => ?_)
          refine lv_aload_n hx hb dX5_leastGapFrom_73 rfl (lv_at hl 2 rfl) ?_
          refine lv_iload_n hx hb dX5_leastGapFrom_74 rfl (lv_at hl 3 rfl) ?_
          refine lv_iconst (v := 1) hx hb dX5_leastGapFrom_75 (by decide) ?_
          refine lv_iadd hx hb dX5_leastGapFrom_76 ?_
          refine lv_iload_n hx hb dX5_leastGapFrom_77 rfl (lv_at hl 4 rfl) ?_
          refine lv_iload hx hb dX5_leastGapFrom_78 (lv_at hl 1 rfl) ?_
          refine lv_iconst (v := (-1)) hx hb dX5_leastGapFrom_80 (by decide) ?_
          refine lv_ixor hx hb dX5_leastGapFrom_81 ?_
          refine lv_iand hx hb dX5_leastGapFrom_82 ?_
          refine lv_iload_n hx hb dX5_leastGapFrom_83 rfl (lv_at hl 5 rfl) ?_
          refine lv_iload hx hb dX5_leastGapFrom_84 (lv_at hl 1 rfl) ?_
          refine lv_ior hx hb dX5_leastGapFrom_86 ?_
          refine kSi (As := [.ref (ad 8), .int (x1 + 1), .int (x2 &&& (r_1 ^^^ (-1))), .int (x3 ||| r_1)]) (rest := []) C h (va_cwS 4 hts (gd_S wi_ml_X5_52 wi_st_X5_leastGapFrom wi_in_X5 wi_co_X5_leastGapFrom) rfl rfl rfl hd_X5_leastGapFrom.2 ⟨(by show 0 + d + 1 ≤ 1 + d; omega), (by show 8 + (6 + 11) + 40 * (0 + d) ≤ 40 * (1 + d); omega)⟩) (hF (x1 + 1) (x2 &&& (r_1 ^^^ (-1))) (x3 ||| r_1) _ _ _ hw) rfl hl.1 rfl (Nat.le_of_ble_eq_true rfl) ⟨Nat.zero_le _, Nat.zero_le _⟩ dX5_leastGapFrom_87 (fun r_9 u_10 H locs hw h => ?_)
          exact kretI C hr hlk h hw dX5_leastGapFrom_90
        · have hw := hw.2 c_59
          refine lv_iload hx hb dX5_leastGapFrom_62 (lv_at hl 0 rfl) ?_
          exact kretI C hr hlk h hw dX5_leastGapFrom_64
      · have hw := hw.2 c_27
        refine lv_iconst (v := (-1)) hx hb dX5_leastGapFrom_30 (by decide) ?_
        exact kretI C hr hlk h hw dX5_leastGapFrom_31
  · have hw := hw.2 c_6
    refine lv_iload_n hx hb dX5_leastGapFrom_9 rfl (lv_at hl 3 rfl) ?_
    exact kretI C hr hlk h hw dX5_leastGapFrom_10
def wX5_leastGapFrom : Nat → Int32 → Int32 → Int32 → ST → (Int32 → ST → Prop) → Prop
  | 0, _, _, _, _, _ => False
  | d + 1, x1, x2, x3, u, Q => wX5_leastGapFrom_E (wX5_leastGapFrom d) x1 x2 x3 u Q
theorem mX5_leastGapFrom (l : Launch) (D : va_G) (cy : CY) (ad : Nat → Nat) : ∀ (d : Nat) (x1 : Int32) (x2 : Int32) (x3 : Int32) (u : ST) (sz : Nat) (Q : Int32 → ST → Prop), wX5_leastGapFrom d x1 x2 x3 u Q → Met l yX5_leastGapFrom (wM yX5_leastGapFrom cX5_leastGapFrom 6 (some .int)) (kRm (0 + d)) (kPc D (cW cy ad) cy u sz [.ref (ad 8), .int x1, .int x2, .int x3]) (kQi D (cW cy ad) cy (va_A (cW cy ad u) sz) Q) 0 0 (va_A (cW cy ad u) sz) := by
  intro d
  induction d with
  | zero => intro x1 x2 x3 u sz Q hw; exact False.elim hw
  | succ d ih =>
    intro x1 x2 x3 u sz Q hw
    rw [show 0 + (d + 1) = 1 + d by omega]
    exact mX5_leastGapFrom_E l D cy ad d (fun x1 x2 x3 u sz Q hw => ih x1 x2 x3 u sz Q hw) x1 x2 x3 u sz hw

def wX5_leastGap (u : ST) (Q : Int32 → ST → Prop) : Prop :=
  (∃ dd : Nat, dd ≤ 20 ∧ wX5_leastGapFrom dd 0 (gI u 16) 0 u (fun r_1 u_2 => Q r_1 u_2))
set_option maxHeartbeats 4000000 in
set_option maxRecDepth 100000 in
theorem mX5_leastGap (l : Launch) (D : va_G) (cy : CY) (ad : Nat → Nat) (u : ST) (sz : Nat) {Q : Int32 → ST → Prop} (hw : wX5_leastGap  u Q) : Met l yX5_leastGap (wM yX5_leastGap cX5_leastGap 1 (some .int)) (kRm 22) (kPc D (cW cy ad) cy u sz [.ref (ad 8)]) (kQi D (cW cy ad) cy (va_A (cW cy ad u) sz) Q) 0 0 (va_A (cW cy ad u) sz) := by
  refine kMet pn_X5_leastGap (Nat.le_of_ble_eq_true rfl) (fun p e s m below meth c ls hsz C hr hlk hex h hl => ?_)
  have hl : lv_has ls 1 [(0, .ref (ad 8))] := hl
  obtain ⟨⟨hx, hb, hml, hown, hts⟩, hK, hA⟩ := id C
  unfold wX5_leastGap at hw
  have h : kH D (cW cy ad) (va_A (cW cy ad u) sz) s u s.heap [] := h
  refine lv_aload_n hx hb dX5_leastGap_0 rfl (lv_at hl 0 rfl) ?_
  refine lv_iconst (v := 0) hx hb dX5_leastGap_1 (by decide) ?_
  refine lv_aload_n hx hb dX5_leastGap_2 rfl (lv_at hl 0 rfl) ?_
  refine kget C h 8 rfl rfl inBX5 3 (Nat.le_of_ble_eq_true rfl) wi_fl_X5_41 rfl dX5_leastGap_3 ?_
  refine lv_iconst (v := 0) hx hb dX5_leastGap_6 (by decide) ?_
  obtain ⟨dd, hdd, hw⟩ := hw
  refine kSi (As := [.ref (ad 8), .int 0, .int (gI u 16), .int 0]) (rest := []) C h (va_cwS 4 hts (gd_S wi_ml_X5_52 wi_st_X5_leastGapFrom wi_in_X5 wi_co_X5_leastGapFrom) rfl rfl rfl hd_X5_leastGapFrom.2 ⟨(by show 0 + dd + 1 ≤ 22; omega), (by show 8 + (6 + 11) + 40 * (0 + dd) ≤ 40 * 22; omega)⟩) (mX5_leastGapFrom l D cy ad dd 0 (gI u 16) 0 _ _ _ hw) rfl hl.1 rfl (Nat.le_of_ble_eq_true rfl) ⟨Nat.zero_le _, Nat.zero_le _⟩ dX5_leastGap_7 (fun r_1 u_2 H locs hw h => ?_)
  exact kretI C hr hlk h hw dX5_leastGap_10

def wX5_casesMetFrom_b28 (F : Int32 → Int32 → ST → (Int32 → ST → Prop) → Prop) (Q : Int32 → ST → Prop) (x2 : Int32) (u : ST) : Prop :=
  wJ6_bitCount_0f7a4 x2 u (fun r_1 u_2 => Q (1 <<< (r_1 &&& 31)) u_2)
set_option maxHeartbeats 4000000 in
set_option maxRecDepth 100000 in
theorem kX5_casesMetFrom_b28 {p : Program} {l : Launch} {e : Env} {s : State} {m : MethodId} {args : Array Value} {below : List Frame} {meth : Method} {c : Code} {D : va_G} {cy : CY} {A : Nat → Prop} {ad : Nat → Nat} {d : Nat} {F : Int32 → Int32 → ST → (Int32 → ST → Prop) → Prop} {Q : Int32 → ST → Prop} (C : kC p m c cX5_casesMetFrom 5 s args RX5 D cy A) (hr : meth.sig.returnType = some .int) (hlk : meth.locks = false) (hF : ∀ (x1 : Int32) (x2 : Int32) (u : ST) (sz : Nat) (Q : Int32 → ST → Prop), F x1 x2 u Q → Met l yX5_casesMetFrom (wM yX5_casesMetFrom cX5_casesMetFrom 5 (some .int)) (kRm (0 + d)) (kPc D (cW cy ad) cy u sz [.ref (ad 8), .int x1, .int x2]) (kQi D (cW cy ad) cy (va_A (cW cy ad u) sz) Q) 0 0 (va_A (cW cy ad u) sz)) : ∀ (x2 : Int32) (u : ST) (H : Heap) (locs : List Loc) (ls : Array Slot), wX5_casesMetFrom_b28 F Q x2 u → kH D (cW cy ad) A s u H locs → lv_has ls 5 [(2, .int x2)] → W p l e (kRm (1 + d)) s m args below meth c H locs 0 0 (MQ below (kQi D (cW cy ad) cy A Q) args s 0 0 A) (F0 m 28 ls []) := by
  intro x2 u H locs ls hw h hl
  obtain ⟨⟨hx, hb, hml, hown, hts⟩, hK, hA⟩ := id C
  unfold wX5_casesMetFrom_b28 at hw
  refine lv_iconst (v := 1) hx hb dX5_casesMetFrom_28 (by decide) ?_
  refine lv_iload_n hx hb dX5_casesMetFrom_29 rfl (lv_at hl 0 rfl) ?_
  refine kSi (As := [.int x2]) (rest := [.int 1]) C h (va_cwS 1 hts (gd_S wi_ml_X5_68 wi_st_J6_bitCount_0f7a4 wi_in_J6 wi_co_J6_bitCount_0f7a4) rfl rfl rfl hd_J6_bitCount_0f7a4.2 ⟨(by show 0 + 1 ≤ 1 + d; omega), (by show 8 + (1 + 11) + 40 * 0 ≤ 40 * (1 + d); omega)⟩) (mJ6_bitCount_0f7a4 l D cy ad x2 _ _ hw) rfl hl.1 rfl (Nat.le_of_ble_eq_true rfl) ⟨Nat.zero_le _, Nat.zero_le _⟩ dX5_casesMetFrom_30 (fun r_1 u_2 H locs hw h => ?_)
  refine lv_ishl hx hb dX5_casesMetFrom_33 ?_
  exact kretI C hr hlk h hw dX5_casesMetFrom_34
def wX5_casesMetFrom_E (F : Int32 → Int32 → ST → (Int32 → ST → Prop) → Prop) (x1 : Int32) (x2 : Int32) (u : ST) (Q : Int32 → ST → Prop) : Prop :=
  (vp_in x1 17 ∧ ((¬ (gR u 9 x1.toNatClampNeg) = 0 → wX5_splittingBit x1 x2 u (fun r_1 u_2 => ((r_1 = 0 → wX5_casesMetFrom_b28 F Q x2 u_2) ∧ (¬ r_1 = 0 → ((x1 < 16 → wX5_step x1 r_1 1 u_2 (fun u_4 => F (x1 + 1) (x2 &&& (r_1 ^^^ (-1))) u_4 (fun r_5 u_6 => wX5_step x1 r_1 0 u_6 (fun u_8 => F (x1 + 1) (x2 &&& (r_1 ^^^ (-1))) u_8 (fun r_9 u_10 => Q (r_5 + r_9) u_10))))) ∧ (¬ x1 < 16 → wX5_casesMetFrom_b28 F Q x2 u_2)))))) ∧ ((gR u 9 x1.toNatClampNeg) = 0 → Q 0 u)))
set_option maxHeartbeats 4000000 in
set_option maxRecDepth 100000 in
theorem mX5_casesMetFrom_E (l : Launch) (D : va_G) (cy : CY) (ad : Nat → Nat) (d : Nat) {F : Int32 → Int32 → ST → (Int32 → ST → Prop) → Prop} (hF : ∀ (x1 : Int32) (x2 : Int32) (u : ST) (sz : Nat) (Q : Int32 → ST → Prop), F x1 x2 u Q → Met l yX5_casesMetFrom (wM yX5_casesMetFrom cX5_casesMetFrom 5 (some .int)) (kRm (0 + d)) (kPc D (cW cy ad) cy u sz [.ref (ad 8), .int x1, .int x2]) (kQi D (cW cy ad) cy (va_A (cW cy ad u) sz) Q) 0 0 (va_A (cW cy ad u) sz)) (x1 : Int32) (x2 : Int32) (u : ST) (sz : Nat) {Q : Int32 → ST → Prop} (hw : wX5_casesMetFrom_E F x1 x2 u Q) : Met l yX5_casesMetFrom (wM yX5_casesMetFrom cX5_casesMetFrom 5 (some .int)) (kRm (1 + d)) (kPc D (cW cy ad) cy u sz [.ref (ad 8), .int x1, .int x2]) (kQi D (cW cy ad) cy (va_A (cW cy ad u) sz) Q) 0 0 (va_A (cW cy ad u) sz) := by
  refine kMet pn_X5_casesMetFrom (Nat.le_of_ble_eq_true rfl) (fun p e s m below meth c ls hsz C hr hlk hex h hl => ?_)
  have hl : lv_has ls 5 [(0, .ref (ad 8)), (1, .int x1), (2, .int x2)] := hl
  obtain ⟨⟨hx, hb, hml, hown, hts⟩, hK, hA⟩ := id C
  unfold wX5_casesMetFrom_E at hw
  have h : kH D (cW cy ad) (va_A (cW cy ad u) sz) s u s.heap [] := h
  refine lv_aload_n hx hb dX5_casesMetFrom_0 rfl (lv_at hl 0 rfl) ?_
  refine kget C h 8 rfl rfl inBX5 5 (Nat.le_of_ble_eq_true rfl) wi_fl_X5_26 rfl dX5_casesMetFrom_1 ?_
  refine lv_iload_n hx hb dX5_casesMetFrom_4 rfl (lv_at hl 1 rfl) ?_
  obtain ⟨i_5, hw⟩ := hw
  refine kiald C h 26 rfl i_5 dX5_casesMetFrom_5 ?_
  refine lv_if_ne (tgt := 11) hx hb dX5_casesMetFrom_6 (by decide) (fun c_6 => ?_) (fun c_6 => ?_)
  · have hw := hw.1 c_6
    refine lv_aload_n hx hb dX5_casesMetFrom_11 rfl (lv_at hl 0 rfl) ?_
    refine lv_iload_n hx hb dX5_casesMetFrom_12 rfl (lv_at hl 1 rfl) ?_
    refine lv_iload_n hx hb dX5_casesMetFrom_13 rfl (lv_at hl 2 rfl) ?_
    refine kVi (As := [.int x1, .int x2]) (rest := []) C h (cwV 2 hts (gd_V wi_ml_X5_56 wi_im_X5_splittingBit wi_se_X5_splittingBit wi_in_X5 wi_co_X5_splittingBit) rfl rfl rfl hd_X5_splittingBit ⟨(by show 0 + 1 ≤ 1 + d; omega), (by show 8 + (7 + 11) + 40 * 0 ≤ 40 * (1 + d); omega)⟩) 8 rfl rfl rfl (mX5_splittingBit l D cy ad x1 x2 _ _ hw) rfl hl.1 rfl (Nat.le_of_ble_eq_true rfl) ⟨Nat.zero_le _, Nat.zero_le _⟩ dX5_casesMetFrom_14 (fun r_1 u_2 H locs hw h => ?_)
    refine lv_istore_n (lv' := [(3, .int r_1), (0, .ref (ad 8)), (1, .int x1), (2, .int x2)]) hx hb dX5_casesMetFrom_17 rfl hl (by decide) rfl (fun ls hl => ?_)
    refine lv_iload_n hx hb dX5_casesMetFrom_18 rfl (lv_at hl 0 rfl) ?_
    refine lv_if_eq (tgt := 28) hx hb dX5_casesMetFrom_19 (by decide) (fun c_19 => ?_) (fun c_19 => ?_)
    · have hw := hw.1 c_19
      exact kX5_casesMetFrom_b28 C hr hlk hF x2 _ _ _ _ hw h (lv_sub hl [3] rfl)
    · have hw := hw.2 c_19
      refine lv_iload_n hx hb dX5_casesMetFrom_22 rfl (lv_at hl 2 rfl) ?_
      refine lv_bipush (v := 16) hx hb dX5_casesMetFrom_23 (by decide) ?_
      refine lv_icmp_lt (tgt := 35) hx hb dX5_casesMetFrom_25 (by decide) (fun c_25 => ?_) (fun c_25 => ?_)
      · have hw := hw.1 c_25
        refine lv_aload_n hx hb dX5_casesMetFrom_35 rfl (lv_at hl 1 rfl) ?_
        refine lv_iload_n hx hb dX5_casesMetFrom_36 rfl (lv_at hl 2 rfl) ?_
        refine lv_iload_n hx hb dX5_casesMetFrom_37 rfl (lv_at hl 0 rfl) ?_
        refine lv_iconst (v := 1) hx hb dX5_casesMetFrom_38 (by decide) ?_
        refine kVv (As := [.int x1, .int r_1, .int 1]) (rest := []) C h (cwV 3 hts (gd_V wi_ml_X5_60 wi_im_X5_step wi_se_X5_step wi_in_X5 wi_co_X5_step) rfl rfl rfl hd_X5_step ⟨(by show 0 + 1 ≤ 1 + d; omega), (by show 8 + (9 + 11) + 40 * 0 ≤ 40 * (1 + d); omega)⟩) 8 rfl rfl rfl (mX5_step l D cy ad x1 r_1 1 _ _ hw) rfl hl.1 rfl (Nat.le_of_ble_eq_true rfl) ⟨Nat.zero_le _, Nat.zero_le _⟩ dX5_casesMetFrom_39 (fun u_4 H locs hw h => ?_)
        refine lv_aload_n hx hb dX5_casesMetFrom_42 rfl (lv_at hl 1 rfl) ?_
        refine lv_iload_n hx hb dX5_casesMetFrom_43 rfl (lv_at hl 2 rfl) ?_
        refine lv_iconst (v := 1) hx hb dX5_casesMetFrom_44 (by decide) ?_
        refine lv_iadd hx hb dX5_casesMetFrom_45 ?_
        refine lv_iload_n hx hb dX5_casesMetFrom_46 rfl (lv_at hl 3 rfl) ?_
        refine lv_iload_n hx hb dX5_casesMetFrom_47 rfl (lv_at hl 0 rfl) ?_
        refine lv_iconst (v := (-1)) hx hb dX5_casesMetFrom_48 (by decide) ?_
        refine lv_ixor hx hb dX5_casesMetFrom_49 ?_
        refine lv_iand hx hb dX5_casesMetFrom_50 ?_
        refine kSi (As := [.ref (ad 8), .int (x1 + 1), .int (x2 &&& (r_1 ^^^ (-1)))]) (rest := []) C h (va_cwS 3 hts (gd_S wi_ml_X5_64 wi_st_X5_casesMetFrom wi_in_X5 wi_co_X5_casesMetFrom) rfl rfl rfl hd_X5_casesMetFrom.2 ⟨(by show 0 + d + 1 ≤ 1 + d; omega), (by show 8 + (5 + 11) + 40 * (0 + d) ≤ 40 * (1 + d); omega)⟩) (hF (x1 + 1) (x2 &&& (r_1 ^^^ (-1))) _ _ _ hw) rfl hl.1 rfl (Nat.le_of_ble_eq_true rfl) ⟨Nat.zero_le _, Nat.zero_le _⟩ dX5_casesMetFrom_51 (fun r_5 u_6 H locs hw h => ?_)
        refine lv_istore (lv' := [(4, .int r_5), (3, .int r_1), (0, .ref (ad 8)), (1, .int x1), (2, .int x2)]) hx hb dX5_casesMetFrom_54 hl (by decide) rfl (fun ls hl => ?_)
        refine lv_aload_n hx hb dX5_casesMetFrom_56 rfl (lv_at hl 2 rfl) ?_
        refine lv_iload_n hx hb dX5_casesMetFrom_57 rfl (lv_at hl 3 rfl) ?_
        refine lv_iload_n hx hb dX5_casesMetFrom_58 rfl (lv_at hl 1 rfl) ?_
        refine lv_iconst (v := 0) hx hb dX5_casesMetFrom_59 (by decide) ?_
        refine kVv (As := [.int x1, .int r_1, .int 0]) (rest := []) C h (cwV 3 hts (gd_V wi_ml_X5_60 wi_im_X5_step wi_se_X5_step wi_in_X5 wi_co_X5_step) rfl rfl rfl hd_X5_step ⟨(by show 0 + 1 ≤ 1 + d; omega), (by show 8 + (9 + 11) + 40 * 0 ≤ 40 * (1 + d); omega)⟩) 8 rfl rfl rfl (mX5_step l D cy ad x1 r_1 0 _ _ hw) rfl hl.1 rfl (Nat.le_of_ble_eq_true rfl) ⟨Nat.zero_le _, Nat.zero_le _⟩ dX5_casesMetFrom_60 (fun u_8 H locs hw h => ?_)
        refine lv_iload hx hb dX5_casesMetFrom_63 (lv_at hl 0 rfl) ?_
        refine lv_aload_n hx hb dX5_casesMetFrom_65 rfl (lv_at hl 2 rfl) ?_
        refine lv_iload_n hx hb dX5_casesMetFrom_66 rfl (lv_at hl 3 rfl) ?_
        refine lv_iconst (v := 1) hx hb dX5_casesMetFrom_67 (by decide) ?_
        refine lv_iadd hx hb dX5_casesMetFrom_68 ?_
        refine lv_iload_n hx hb dX5_casesMetFrom_69 rfl (lv_at hl 4 rfl) ?_
        refine lv_iload_n hx hb dX5_casesMetFrom_70 rfl (lv_at hl 1 rfl) ?_
        refine lv_iconst (v := (-1)) hx hb dX5_casesMetFrom_71 (by decide) ?_
        refine lv_ixor hx hb dX5_casesMetFrom_72 ?_
        refine lv_iand hx hb dX5_casesMetFrom_73 ?_
        refine kSi (As := [.ref (ad 8), .int (x1 + 1), .int (x2 &&& (r_1 ^^^ (-1)))]) (rest := [.int r_5]) C h (va_cwS 3 hts (gd_S wi_ml_X5_64 wi_st_X5_casesMetFrom wi_in_X5 wi_co_X5_casesMetFrom) rfl rfl rfl hd_X5_casesMetFrom.2 ⟨(by show 0 + d + 1 ≤ 1 + d; omega), (by show 8 + (5 + 11) + 40 * (0 + d) ≤ 40 * (1 + d); omega)⟩) (hF (x1 + 1) (x2 &&& (r_1 ^^^ (-1))) _ _ _ hw) rfl hl.1 rfl (Nat.le_of_ble_eq_true rfl) ⟨Nat.zero_le _, Nat.zero_le _⟩ dX5_casesMetFrom_74 (fun r_9 u_10 H locs hw h => ?_)
        refine lv_iadd hx hb dX5_casesMetFrom_77 ?_
        exact kretI C hr hlk h hw dX5_casesMetFrom_78
      · have hw := hw.2 c_25
        exact kX5_casesMetFrom_b28 C hr hlk hF x2 _ _ _ _ hw h (lv_sub hl [3] rfl)
  · have hw := hw.2 c_6
    refine lv_iconst (v := 0) hx hb dX5_casesMetFrom_9 (by decide) ?_
    exact kretI C hr hlk h hw dX5_casesMetFrom_10
def wX5_casesMetFrom : Nat → Int32 → Int32 → ST → (Int32 → ST → Prop) → Prop
  | 0, _, _, _, _ => False
  | d + 1, x1, x2, u, Q => wX5_casesMetFrom_E (wX5_casesMetFrom d) x1 x2 u Q
theorem mX5_casesMetFrom (l : Launch) (D : va_G) (cy : CY) (ad : Nat → Nat) : ∀ (d : Nat) (x1 : Int32) (x2 : Int32) (u : ST) (sz : Nat) (Q : Int32 → ST → Prop), wX5_casesMetFrom d x1 x2 u Q → Met l yX5_casesMetFrom (wM yX5_casesMetFrom cX5_casesMetFrom 5 (some .int)) (kRm (0 + d)) (kPc D (cW cy ad) cy u sz [.ref (ad 8), .int x1, .int x2]) (kQi D (cW cy ad) cy (va_A (cW cy ad u) sz) Q) 0 0 (va_A (cW cy ad u) sz) := by
  intro d
  induction d with
  | zero => intro x1 x2 u sz Q hw; exact False.elim hw
  | succ d ih =>
    intro x1 x2 u sz Q hw
    rw [show 0 + (d + 1) = 1 + d by omega]
    exact mX5_casesMetFrom_E l D cy ad d (fun x1 x2 u sz Q hw => ih x1 x2 u sz Q hw) x1 x2 u sz hw

def wX5_casesMet (u : ST) (Q : Int32 → ST → Prop) : Prop :=
  (∃ dd : Nat, dd ≤ 20 ∧ wX5_casesMetFrom dd 0 (gI u 16) u (fun r_1 u_2 => Q r_1 u_2))
set_option maxHeartbeats 4000000 in
set_option maxRecDepth 100000 in
theorem mX5_casesMet (l : Launch) (D : va_G) (cy : CY) (ad : Nat → Nat) (u : ST) (sz : Nat) {Q : Int32 → ST → Prop} (hw : wX5_casesMet  u Q) : Met l yX5_casesMet (wM yX5_casesMet cX5_casesMet 1 (some .int)) (kRm 22) (kPc D (cW cy ad) cy u sz [.ref (ad 8)]) (kQi D (cW cy ad) cy (va_A (cW cy ad u) sz) Q) 0 0 (va_A (cW cy ad u) sz) := by
  refine kMet pn_X5_casesMet (Nat.le_of_ble_eq_true rfl) (fun p e s m below meth c ls hsz C hr hlk hex h hl => ?_)
  have hl : lv_has ls 1 [(0, .ref (ad 8))] := hl
  obtain ⟨⟨hx, hb, hml, hown, hts⟩, hK, hA⟩ := id C
  unfold wX5_casesMet at hw
  have h : kH D (cW cy ad) (va_A (cW cy ad u) sz) s u s.heap [] := h
  refine lv_aload_n hx hb dX5_casesMet_0 rfl (lv_at hl 0 rfl) ?_
  refine lv_iconst (v := 0) hx hb dX5_casesMet_1 (by decide) ?_
  refine lv_aload_n hx hb dX5_casesMet_2 rfl (lv_at hl 0 rfl) ?_
  refine kget C h 8 rfl rfl inBX5 3 (Nat.le_of_ble_eq_true rfl) wi_fl_X5_41 rfl dX5_casesMet_3 ?_
  obtain ⟨dd, hdd, hw⟩ := hw
  refine kSi (As := [.ref (ad 8), .int 0, .int (gI u 16)]) (rest := []) C h (va_cwS 3 hts (gd_S wi_ml_X5_64 wi_st_X5_casesMetFrom wi_in_X5 wi_co_X5_casesMetFrom) rfl rfl rfl hd_X5_casesMetFrom.2 ⟨(by show 0 + dd + 1 ≤ 22; omega), (by show 8 + (5 + 11) + 40 * (0 + dd) ≤ 40 * 22; omega)⟩) (mX5_casesMetFrom l D cy ad dd 0 (gI u 16) _ _ _ hw) rfl hl.1 rfl (Nat.le_of_ble_eq_true rfl) ⟨Nat.zero_le _, Nat.zero_le _⟩ dX5_casesMet_6 (fun r_1 u_2 H locs hw h => ?_)
  exact kretI C hr hlk h hw dX5_casesMet_9

def wX5_oneAction_B16 (K16 : Int32 → Int32 → Int32 → ST → Prop) (Q : Int32 → ST → Prop) (x1 : Int32) (x2 : Int32) (x3 : Int32) (u : ST) : Prop :=
  (vp_in x1 17 ∧ (((gR u 9 x1.toNatClampNeg) ≤ x3 → Q x2 u) ∧ (¬ (gR u 9 x1.toNatClampNeg) ≤ x3 → (vp_in x1 17 ∧ (vp_in x3 256 ∧ (vp_in (gR u (16 + x1.toNatClampNeg) x3.toNatClampNeg) 256 ∧ (((gR u 8 (gR u (16 + x1.toNatClampNeg) x3.toNatClampNeg).toNatClampNeg) = x2 → K16 x1 x2 (x3 + 1) u) ∧ (¬ (gR u 8 (gR u (16 + x1.toNatClampNeg) x3.toNatClampNeg).toNatClampNeg) = x2 → Q (-1) u))))))))
set_option maxHeartbeats 4000000 in
set_option maxRecDepth 100000 in
theorem kX5_oneAction_B16 {p : Program} {l : Launch} {e : Env} {s : State} {m : MethodId} {args : Array Value} {below : List Frame} {meth : Method} {c : Code} {D : va_G} {cy : CY} {A : Nat → Prop} {ad : Nat → Nat} {K16 : Int32 → Int32 → Int32 → ST → Prop} {Q : Int32 → ST → Prop} (C : kC p m c cX5_oneAction 4 s args RX5 D cy A) (hr : meth.sig.returnType = some .int) (hlk : meth.locks = false) (g16 : ∀ (x1 : Int32) (x2 : Int32) (x3 : Int32) (u : ST) (H : Heap) (locs : List Loc) (ls : Array Slot), K16 x1 x2 x3 u → kH D (cW cy ad) A s u H locs → lv_has ls 4 [(0, .ref (ad 8)), (1, .int x1), (2, .int x2), (3, .int x3)] → W p l e (kRm 0) s m args below meth c H locs 0 0 (MQ below (kQi D (cW cy ad) cy A Q) args s 0 0 A) (F0 m 16 ls [])) : ∀ (x1 : Int32) (x2 : Int32) (x3 : Int32) (u : ST) (H : Heap) (locs : List Loc) (ls : Array Slot), wX5_oneAction_B16 K16 Q x1 x2 x3 u → kH D (cW cy ad) A s u H locs → lv_has ls 4 [(0, .ref (ad 8)), (1, .int x1), (2, .int x2), (3, .int x3)] → W p l e (kRm 0) s m args below meth c H locs 0 0 (MQ below (kQi D (cW cy ad) cy A Q) args s 0 0 A) (F0 m 16 ls []) := by
  intro x1 x2 x3 u H locs ls hw h hl
  obtain ⟨⟨hx, hb, hml, hown, hts⟩, hK, hA⟩ := id C
  unfold wX5_oneAction_B16 at hw
  refine lv_iload_n hx hb dX5_oneAction_16 rfl (lv_at hl 3 rfl) ?_
  refine lv_aload_n hx hb dX5_oneAction_17 rfl (lv_at hl 0 rfl) ?_
  refine kget C h 8 rfl rfl inBX5 5 (Nat.le_of_ble_eq_true rfl) wi_fl_X5_26 rfl dX5_oneAction_18 ?_
  refine lv_iload_n hx hb dX5_oneAction_21 rfl (lv_at hl 1 rfl) ?_
  obtain ⟨i_22, hw⟩ := hw
  refine kiald C h 26 rfl i_22 dX5_oneAction_22 ?_
  refine lv_icmp_ge (tgt := 51) hx hb dX5_oneAction_23 (by decide) (fun c_23 => ?_) (fun c_23 => ?_)
  · have hw := hw.1 c_23
    refine lv_iload_n hx hb dX5_oneAction_51 rfl (lv_at hl 2 rfl) ?_
    exact kretI C hr hlk h hw dX5_oneAction_52
  · have hw := hw.2 c_23
    refine lv_aload_n hx hb dX5_oneAction_26 rfl (lv_at hl 0 rfl) ?_
    refine kget C h 8 rfl rfl inBX5 2 (Nat.le_of_ble_eq_true rfl) wi_fl_X5_18 rfl dX5_oneAction_27 ?_
    refine lv_aload_n hx hb dX5_oneAction_30 rfl (lv_at hl 0 rfl) ?_
    refine kget C h 8 rfl rfl inBX5 4 (Nat.le_of_ble_eq_true rfl) wi_fl_X5_23 rfl dX5_oneAction_31 ?_
    refine lv_iload_n hx hb dX5_oneAction_34 rfl (lv_at hl 1 rfl) ?_
    obtain ⟨i_35, hw⟩ := hw
    refine kaald C h 16 (f := fun d => aR ad (16 + d)) rfl i_35 dX5_oneAction_35 ?_
    have b_35 := vp_lt i_35
    refine lv_iload_n hx hb dX5_oneAction_36 rfl (lv_at hl 3 rfl) ?_
    obtain ⟨i_37, hw⟩ := hw
    have b_37 := vp_lt i_35
    refine kiald C h (17 + (16 + x1.toNatClampNeg)) (cW_R cy ad u (16 + x1.toNatClampNeg) (by omega)) (by rw [lenR_256 (by omega)]; exact i_37) dX5_oneAction_37 ?_
    obtain ⟨i_38, hw⟩ := hw
    refine kiald C h 25 rfl i_38 dX5_oneAction_38 ?_
    refine lv_iload_n hx hb dX5_oneAction_39 rfl (lv_at hl 2 rfl) ?_
    refine lv_icmp_eq (tgt := 45) hx hb dX5_oneAction_40 (by decide) (fun c_40 => ?_) (fun c_40 => ?_)
    · have hw := hw.1 c_40
      refine lv_iinc (v := x3 + 1) (lv' := [(3, .int (x3 + 1)), (0, .ref (ad 8)), (1, .int x1), (2, .int x2)]) hx hb dX5_oneAction_45 hl (k := 3) rfl rfl (by decide) rfl (fun ls hl => ?_)
      refine lv_goto (tgt := 16) hx hb dX5_oneAction_48 (by decide) ?_
      exact g16 x1 x2 (x3 + 1) _ _ _ _ hw h (lv_sub hl [1, 2, 3, 0] rfl)
    · have hw := hw.2 c_40
      refine lv_iconst (v := (-1)) hx hb dX5_oneAction_43 (by decide) ?_
      exact kretI C hr hlk h hw dX5_oneAction_44
def wX5_oneAction_L16 (Q : Int32 → ST → Prop) : Nat → Int32 → Int32 → Int32 → ST → Prop
  | 0, _, _, _, _ => False
  | n + 1, x1, x2, x3, u => wX5_oneAction_B16 (wX5_oneAction_L16 Q n) Q x1 x2 x3 u
set_option maxHeartbeats 4000000 in
theorem kX5_oneAction_L16 {p : Program} {l : Launch} {e : Env} {s : State} {m : MethodId} {args : Array Value} {below : List Frame} {meth : Method} {c : Code} {D : va_G} {cy : CY} {A : Nat → Prop} {ad : Nat → Nat} {Q : Int32 → ST → Prop} (C : kC p m c cX5_oneAction 4 s args RX5 D cy A) (hr : meth.sig.returnType = some .int) (hlk : meth.locks = false) : ∀ n : Nat, ∀ (x1 : Int32) (x2 : Int32) (x3 : Int32) (u : ST) (H : Heap) (locs : List Loc) (ls : Array Slot), wX5_oneAction_L16 Q n x1 x2 x3 u → kH D (cW cy ad) A s u H locs → lv_has ls 4 [(0, .ref (ad 8)), (1, .int x1), (2, .int x2), (3, .int x3)] → W p l e (kRm 0) s m args below meth c H locs 0 0 (MQ below (kQi D (cW cy ad) cy A Q) args s 0 0 A) (F0 m 16 ls []) := by
  intro n
  induction n with
  | zero => intro x1 x2 x3 u H locs ls hw; exact False.elim hw
  | succ n ih => exact kX5_oneAction_B16 C hr hlk ih
def wX5_oneAction (x1 : Int32) (u : ST) (Q : Int32 → ST → Prop) : Prop :=
  (vp_in x1 17 ∧ (vp_in (0 : Int32) 256 ∧ (vp_in (gR u (16 + x1.toNatClampNeg) (0 : Int32).toNatClampNeg) 256 ∧ (∀ x2_1 : Int32, x2_1 = gR u 8 (gR u (16 + x1.toNatClampNeg) (0 : Int32).toNatClampNeg).toNatClampNeg → (∃ n : Nat, wX5_oneAction_L16 Q n x1 x2_1 1 u)))))
set_option maxHeartbeats 4000000 in
set_option maxRecDepth 100000 in
theorem mX5_oneAction (l : Launch) (D : va_G) (cy : CY) (ad : Nat → Nat) (x1 : Int32) (u : ST) (sz : Nat) {Q : Int32 → ST → Prop} (hw : wX5_oneAction x1 u Q) : Met l yX5_oneAction (wM yX5_oneAction cX5_oneAction 4 (some .int)) (kRm 0) (kPc D (cW cy ad) cy u sz [.ref (ad 8), .int x1]) (kQi D (cW cy ad) cy (va_A (cW cy ad u) sz) Q) 0 0 (va_A (cW cy ad u) sz) := by
  refine kMet pn_X5_oneAction (Nat.le_of_ble_eq_true rfl) (fun p e s m below meth c ls hsz C hr hlk hex h hl => ?_)
  have hl : lv_has ls 4 [(0, .ref (ad 8)), (1, .int x1)] := hl
  obtain ⟨⟨hx, hb, hml, hown, hts⟩, hK, hA⟩ := id C
  unfold wX5_oneAction at hw
  have h : kH D (cW cy ad) (va_A (cW cy ad u) sz) s u s.heap [] := h
  refine lv_aload_n hx hb dX5_oneAction_0 rfl (lv_at hl 0 rfl) ?_
  refine kget C h 8 rfl rfl inBX5 2 (Nat.le_of_ble_eq_true rfl) wi_fl_X5_18 rfl dX5_oneAction_1 ?_
  refine lv_aload_n hx hb dX5_oneAction_4 rfl (lv_at hl 0 rfl) ?_
  refine kget C h 8 rfl rfl inBX5 4 (Nat.le_of_ble_eq_true rfl) wi_fl_X5_23 rfl dX5_oneAction_5 ?_
  refine lv_iload_n hx hb dX5_oneAction_8 rfl (lv_at hl 1 rfl) ?_
  obtain ⟨i_9, hw⟩ := hw
  refine kaald C h 16 (f := fun d => aR ad (16 + d)) rfl i_9 dX5_oneAction_9 ?_
  have b_9 := vp_lt i_9
  refine lv_iconst (v := 0) hx hb dX5_oneAction_10 (by decide) ?_
  obtain ⟨i_11, hw⟩ := hw
  have b_11 := vp_lt i_9
  refine kiald C h (17 + (16 + x1.toNatClampNeg)) (cW_R cy ad u (16 + x1.toNatClampNeg) (by omega)) (by rw [lenR_256 (by omega)]; exact i_11) dX5_oneAction_11 ?_
  obtain ⟨i_12, hw⟩ := hw
  refine kiald C h 25 rfl i_12 dX5_oneAction_12 ?_
  refine lv_topi (fun x2_1 ex2_1 => ?_)
  have hw := hw x2_1 ex2_1
  refine lv_istore_n (lv' := [(2, .int x2_1), (0, .ref (ad 8)), (1, .int x1)]) hx hb dX5_oneAction_13 rfl hl (by decide) rfl (fun ls hl => ?_)
  refine lv_iconst (v := 1) hx hb dX5_oneAction_14 (by decide) ?_
  refine lv_istore_n (lv' := [(3, .int 1), (2, .int x2_1), (0, .ref (ad 8)), (1, .int x1)]) hx hb dX5_oneAction_15 rfl hl (by decide) rfl (fun ls hl => ?_)
  obtain ⟨n, hw⟩ := hw
  exact kX5_oneAction_L16 C hr hlk n x1 x2_1 1 _ _ _ _ hw h (lv_sub hl [2, 3, 1, 0] rfl)

def wX5_isBetter (x1 : Int32) (x2 : Int32) (u : ST) (Q : Int32 → ST → Prop) : Prop :=
  (vp_in x1 16 ∧ (vp_in x2 16 ∧ (((gR u 10 x1.toNatClampNeg) = (gR u 10 x2.toNatClampNeg) → (vp_in x1 16 ∧ (vp_in x2 16 ∧ (((if 0 ≤ (gR u 11 x1.toNatClampNeg) then (gR u 11 x1.toNatClampNeg) else 0 - (gR u 11 x1.toNatClampNeg)) ≤ (if 0 ≤ (gR u 11 x2.toNatClampNeg) then (gR u 11 x2.toNatClampNeg) else 0 - (gR u 11 x2.toNatClampNeg)) → Q 0 u) ∧ (¬ (if 0 ≤ (gR u 11 x1.toNatClampNeg) then (gR u 11 x1.toNatClampNeg) else 0 - (gR u 11 x1.toNatClampNeg)) ≤ (if 0 ≤ (gR u 11 x2.toNatClampNeg) then (gR u 11 x2.toNatClampNeg) else 0 - (gR u 11 x2.toNatClampNeg)) → Q 1 u))))) ∧ (¬ (gR u 10 x1.toNatClampNeg) = (gR u 10 x2.toNatClampNeg) → (vp_in x1 16 ∧ (vp_in x2 16 ∧ (((gR u 10 x2.toNatClampNeg) ≤ (gR u 10 x1.toNatClampNeg) → Q 0 u) ∧ (¬ (gR u 10 x2.toNatClampNeg) ≤ (gR u 10 x1.toNatClampNeg) → Q 1 u))))))))
set_option maxHeartbeats 4000000 in
set_option maxRecDepth 100000 in
theorem mX5_isBetter (l : Launch) (D : va_G) (cy : CY) (ad : Nat → Nat) (x1 : Int32) (x2 : Int32) (u : ST) (sz : Nat) {Q : Int32 → ST → Prop} (hw : wX5_isBetter x1 x2 u Q) : Met l yX5_isBetter (wM yX5_isBetter cX5_isBetter 3 (some .boolean)) (kRm 1) (kPc D (cW cy ad) cy u sz [.ref (ad 8), .int x1, .int x2]) (kQi D (cW cy ad) cy (va_A (cW cy ad u) sz) Q) 0 0 (va_A (cW cy ad u) sz) := by
  refine kMet pn_X5_isBetter (Nat.le_of_ble_eq_true rfl) (fun p e s m below meth c ls hsz C hr hlk hex h hl => ?_)
  have hl : lv_has ls 3 [(0, .ref (ad 8)), (1, .int x1), (2, .int x2)] := hl
  obtain ⟨⟨hx, hb, hml, hown, hts⟩, hK, hA⟩ := id C
  unfold wX5_isBetter at hw
  have h : kH D (cW cy ad) (va_A (cW cy ad u) sz) s u s.heap [] := h
  refine lv_aload_n hx hb dX5_isBetter_0 rfl (lv_at hl 0 rfl) ?_
  refine kget C h 8 rfl rfl inBX5 6 (Nat.le_of_ble_eq_true rfl) wi_fl_X5_29 rfl dX5_isBetter_1 ?_
  refine lv_iload_n hx hb dX5_isBetter_4 rfl (lv_at hl 1 rfl) ?_
  obtain ⟨i_5, hw⟩ := hw
  refine kiald C h 27 rfl i_5 dX5_isBetter_5 ?_
  refine lv_aload_n hx hb dX5_isBetter_6 rfl (lv_at hl 0 rfl) ?_
  refine kget C h 8 rfl rfl inBX5 6 (Nat.le_of_ble_eq_true rfl) wi_fl_X5_29 rfl dX5_isBetter_7 ?_
  refine lv_iload_n hx hb dX5_isBetter_10 rfl (lv_at hl 2 rfl) ?_
  obtain ⟨i_11, hw⟩ := hw
  refine kiald C h 27 rfl i_11 dX5_isBetter_11 ?_
  refine lv_icmp_eq (tgt := 36) hx hb dX5_isBetter_12 (by decide) (fun c_12 => ?_) (fun c_12 => ?_)
  · have hw := hw.1 c_12
    refine lv_aload_n hx hb dX5_isBetter_36 rfl (lv_at hl 0 rfl) ?_
    refine kget C h 8 rfl rfl inBX5 7 (Nat.le_of_ble_eq_true rfl) wi_fl_X5_32 rfl dX5_isBetter_37 ?_
    refine lv_iload_n hx hb dX5_isBetter_40 rfl (lv_at hl 1 rfl) ?_
    obtain ⟨i_41, hw⟩ := hw
    refine kiald C h 28 rfl i_41 dX5_isBetter_41 ?_
    refine va_mabs hx hb (hml.trans hl.1.symm) hown (hts _ wi_ml_X5_82) (hts _ wi_st_J9_abs_0f7a4) (hts _ wi_in_J9) (hts _ wi_co_J9_abs_0f7a4) (Nat.le_of_ble_eq_true rfl) (Nat.le_of_ble_eq_true rfl) (Nat.zero_le _) (Nat.zero_le _) dX5_isBetter_42 ?_
    refine lv_aload_n hx hb dX5_isBetter_45 rfl (lv_at hl 0 rfl) ?_
    refine kget C h 8 rfl rfl inBX5 7 (Nat.le_of_ble_eq_true rfl) wi_fl_X5_32 rfl dX5_isBetter_46 ?_
    refine lv_iload_n hx hb dX5_isBetter_49 rfl (lv_at hl 2 rfl) ?_
    obtain ⟨i_50, hw⟩ := hw
    refine kiald C h 28 rfl i_50 dX5_isBetter_50 ?_
    refine va_mabs hx hb (hml.trans hl.1.symm) hown (hts _ wi_ml_X5_82) (hts _ wi_st_J9_abs_0f7a4) (hts _ wi_in_J9) (hts _ wi_co_J9_abs_0f7a4) (Nat.le_of_ble_eq_true rfl) (Nat.le_of_ble_eq_true rfl) (Nat.zero_le _) (Nat.zero_le _) dX5_isBetter_51 ?_
    refine lv_icmp_le (tgt := 61) hx hb dX5_isBetter_54 (by decide) (fun c_54 => ?_) (fun c_54 => ?_)
    · have hw := hw.1 c_54
      refine lv_iconst (v := 0) hx hb dX5_isBetter_61 (by decide) ?_
      exact kretZ C hr hlk h (Or.inl rfl) hw dX5_isBetter_62
    · have hw := hw.2 c_54
      refine lv_iconst (v := 1) hx hb dX5_isBetter_57 (by decide) ?_
      refine lv_goto (tgt := 62) hx hb dX5_isBetter_58 (by decide) ?_
      exact kretZ C hr hlk h (Or.inr rfl) hw dX5_isBetter_62
  · have hw := hw.2 c_12
    refine lv_aload_n hx hb dX5_isBetter_15 rfl (lv_at hl 0 rfl) ?_
    refine kget C h 8 rfl rfl inBX5 6 (Nat.le_of_ble_eq_true rfl) wi_fl_X5_29 rfl dX5_isBetter_16 ?_
    refine lv_iload_n hx hb dX5_isBetter_19 rfl (lv_at hl 1 rfl) ?_
    obtain ⟨i_20, hw⟩ := hw
    refine kiald C h 27 rfl i_20 dX5_isBetter_20 ?_
    refine lv_aload_n hx hb dX5_isBetter_21 rfl (lv_at hl 0 rfl) ?_
    refine kget C h 8 rfl rfl inBX5 6 (Nat.le_of_ble_eq_true rfl) wi_fl_X5_29 rfl dX5_isBetter_22 ?_
    refine lv_iload_n hx hb dX5_isBetter_25 rfl (lv_at hl 2 rfl) ?_
    obtain ⟨i_26, hw⟩ := hw
    refine kiald C h 27 rfl i_26 dX5_isBetter_26 ?_
    refine lv_icmp_ge (tgt := 34) hx hb dX5_isBetter_27 (by decide) (fun c_27 => ?_) (fun c_27 => ?_)
    · have hw := hw.1 c_27
      refine lv_iconst (v := 0) hx hb dX5_isBetter_34 (by decide) ?_
      exact kretZ C hr hlk h (Or.inl rfl) hw dX5_isBetter_35
    · have hw := hw.2 c_27
      refine lv_iconst (v := 1) hx hb dX5_isBetter_30 (by decide) ?_
      refine lv_goto (tgt := 35) hx hb dX5_isBetter_31 (by decide) ?_
      exact kretZ C hr hlk h (Or.inr rfl) hw dX5_isBetter_35

def wX5_addWeight_b73 (K2 : Int32 → Int32 → Int32 → ST → Prop) (Q : ST → Prop) (x1 : Int32) (x2 : Int32) (x3 : Int32) (u : ST) : Prop :=
  K2 x1 x2 (x3 + 1) u
set_option maxHeartbeats 4000000 in
set_option maxRecDepth 100000 in
theorem kX5_addWeight_b73 {p : Program} {l : Launch} {e : Env} {s : State} {m : MethodId} {args : Array Value} {below : List Frame} {meth : Method} {c : Code} {D : va_G} {cy : CY} {A : Nat → Prop} {ad : Nat → Nat} {K2 : Int32 → Int32 → Int32 → ST → Prop} {Q : ST → Prop} (C : kC p m c cX5_addWeight 5 s args RX5 D cy A) (hr : meth.sig.returnType = none) (hlk : meth.locks = false) (g2 : ∀ (x1 : Int32) (x2 : Int32) (x3 : Int32) (u : ST) (H : Heap) (locs : List Loc) (ls : Array Slot), K2 x1 x2 x3 u → kH D (cW cy ad) A s u H locs → lv_has ls 5 [(0, .ref (ad 8)), (1, .int x1), (2, .int x2), (3, .int x3)] → W p l e (kRm 0) s m args below meth c H locs 0 0 (MQ below (kQv D (cW cy ad) cy A Q) args s 0 0 A) (F0 m 2 ls [])) : ∀ (x1 : Int32) (x2 : Int32) (x3 : Int32) (u : ST) (H : Heap) (locs : List Loc) (ls : Array Slot), wX5_addWeight_b73 K2 Q x1 x2 x3 u → kH D (cW cy ad) A s u H locs → lv_has ls 5 [(0, .ref (ad 8)), (1, .int x1), (2, .int x2), (3, .int x3)] → W p l e (kRm 0) s m args below meth c H locs 0 0 (MQ below (kQv D (cW cy ad) cy A Q) args s 0 0 A) (F0 m 73 ls []) := by
  intro x1 x2 x3 u H locs ls hw h hl
  obtain ⟨⟨hx, hb, hml, hown, hts⟩, hK, hA⟩ := id C
  unfold wX5_addWeight_b73 at hw
  refine lv_iinc (v := x3 + 1) (lv' := [(3, .int (x3 + 1)), (0, .ref (ad 8)), (1, .int x1), (2, .int x2)]) hx hb dX5_addWeight_73 hl (k := 3) rfl rfl (by decide) rfl (fun ls hl => ?_)
  refine lv_goto (tgt := 2) hx hb dX5_addWeight_76 (by decide) ?_
  exact g2 x1 x2 (x3 + 1) _ _ _ _ hw h (lv_sub hl [1, 2, 3, 0] rfl)
def wX5_addWeight_B2 (K2 : Int32 → Int32 → Int32 → ST → Prop) (Q : ST → Prop) (x1 : Int32) (x2 : Int32) (x3 : Int32) (u : ST) : Prop :=
  ((16 ≤ x3 → Q u) ∧ (¬ 16 ≤ x3 → (vp_in x1 256 ∧ ((((gR u 6 x1.toNatClampNeg) &&& (1 <<< (x3 &&& 31))) = 0 → (vp_in x1 256 ∧ ((((gR u 7 x1.toNatClampNeg) &&& (1 <<< (x3 &&& 31))) = 0 → (vp_in x3 16 ∧ (vp_in x3 16 ∧ wX5_addWeight_b73 K2 Q x1 x2 x3 (sR u 10 x3.toNatClampNeg ((gR u 10 x3.toNatClampNeg) + x2))))) ∧ (¬ ((gR u 7 x1.toNatClampNeg) &&& (1 <<< (x3 &&& 31))) = 0 → (vp_in x3 16 ∧ (vp_in x3 16 ∧ wX5_addWeight_b73 K2 Q x1 x2 x3 (sR u 11 x3.toNatClampNeg ((gR u 11 x3.toNatClampNeg) - x2)))))))) ∧ (¬ ((gR u 6 x1.toNatClampNeg) &&& (1 <<< (x3 &&& 31))) = 0 → (vp_in x3 16 ∧ (vp_in x3 16 ∧ wX5_addWeight_b73 K2 Q x1 x2 x3 (sR u 11 x3.toNatClampNeg ((gR u 11 x3.toNatClampNeg) + x2)))))))))
set_option maxHeartbeats 4000000 in
set_option maxRecDepth 100000 in
theorem kX5_addWeight_B2 {p : Program} {l : Launch} {e : Env} {s : State} {m : MethodId} {args : Array Value} {below : List Frame} {meth : Method} {c : Code} {D : va_G} {cy : CY} {A : Nat → Prop} {ad : Nat → Nat} {K2 : Int32 → Int32 → Int32 → ST → Prop} {Q : ST → Prop} (C : kC p m c cX5_addWeight 5 s args RX5 D cy A) (hr : meth.sig.returnType = none) (hlk : meth.locks = false) (g2 : ∀ (x1 : Int32) (x2 : Int32) (x3 : Int32) (u : ST) (H : Heap) (locs : List Loc) (ls : Array Slot), K2 x1 x2 x3 u → kH D (cW cy ad) A s u H locs → lv_has ls 5 [(0, .ref (ad 8)), (1, .int x1), (2, .int x2), (3, .int x3)] → W p l e (kRm 0) s m args below meth c H locs 0 0 (MQ below (kQv D (cW cy ad) cy A Q) args s 0 0 A) (F0 m 2 ls [])) : ∀ (x1 : Int32) (x2 : Int32) (x3 : Int32) (u : ST) (H : Heap) (locs : List Loc) (ls : Array Slot), wX5_addWeight_B2 K2 Q x1 x2 x3 u → kH D (cW cy ad) A s u H locs → lv_has ls 5 [(0, .ref (ad 8)), (1, .int x1), (2, .int x2), (3, .int x3)] → W p l e (kRm 0) s m args below meth c H locs 0 0 (MQ below (kQv D (cW cy ad) cy A Q) args s 0 0 A) (F0 m 2 ls []) := by
  intro x1 x2 x3 u H locs ls hw h hl
  obtain ⟨⟨hx, hb, hml, hown, hts⟩, hK, hA⟩ := id C
  unfold wX5_addWeight_B2 at hw
  refine lv_iload_n hx hb dX5_addWeight_2 rfl (lv_at hl 3 rfl) ?_
  refine lv_bipush (v := 16) hx hb dX5_addWeight_3 (by decide) ?_
  refine lv_icmp_ge (tgt := 79) hx hb dX5_addWeight_5 (by decide) (fun c_5 => ?_) (fun c_5 => ?_)
  · have hw := hw.1 c_5
    exact kretV C hr hlk h hw dX5_addWeight_79
  · have hw := hw.2 c_5
    refine lv_iconst (v := 1) hx hb dX5_addWeight_8 (by decide) ?_
    refine lv_iload_n hx hb dX5_addWeight_9 rfl (lv_at hl 3 rfl) ?_
    refine lv_ishl hx hb dX5_addWeight_10 ?_
    refine lv_istore (lv' := [(4, .int (1 <<< (x3 &&& 31))), (0, .ref (ad 8)), (1, .int x1), (2, .int x2), (3, .int x3)]) hx hb dX5_addWeight_11 hl (by decide) rfl (fun ls hl => ?_)
    refine lv_aload_n hx hb dX5_addWeight_13 rfl (lv_at hl 1 rfl) ?_
    refine kget C h 8 rfl rfl inBX5 0 (Nat.le_of_ble_eq_true rfl) wi_fl_X5_9 rfl dX5_addWeight_14 ?_
    refine lv_iload_n hx hb dX5_addWeight_17 rfl (lv_at hl 2 rfl) ?_
    obtain ⟨i_18, hw⟩ := hw
    refine kiald C h 23 rfl i_18 dX5_addWeight_18 ?_
    refine lv_iload hx hb dX5_addWeight_19 (lv_at hl 0 rfl) ?_
    refine lv_iand hx hb dX5_addWeight_21 ?_
    refine lv_if_eq (tgt := 38) hx hb dX5_addWeight_22 (by decide) (fun c_22 => ?_) (fun c_22 => ?_)
    · have hw := hw.1 c_22
      refine lv_aload_n hx hb dX5_addWeight_38 rfl (lv_at hl 1 rfl) ?_
      refine kget C h 8 rfl rfl inBX5 1 (Nat.le_of_ble_eq_true rfl) wi_fl_X5_15 rfl dX5_addWeight_39 ?_
      refine lv_iload_n hx hb dX5_addWeight_42 rfl (lv_at hl 2 rfl) ?_
      obtain ⟨i_43, hw⟩ := hw
      refine kiald C h 24 rfl i_43 dX5_addWeight_43 ?_
      refine lv_iload hx hb dX5_addWeight_44 (lv_at hl 0 rfl) ?_
      refine lv_iand hx hb dX5_addWeight_46 ?_
      refine lv_if_eq (tgt := 63) hx hb dX5_addWeight_47 (by decide) (fun c_47 => ?_) (fun c_47 => ?_)
      · have hw := hw.1 c_47
        refine lv_aload_n hx hb dX5_addWeight_63 rfl (lv_at hl 1 rfl) ?_
        refine kget C h 8 rfl rfl inBX5 6 (Nat.le_of_ble_eq_true rfl) wi_fl_X5_29 rfl dX5_addWeight_64 ?_
        refine lv_iload_n hx hb dX5_addWeight_67 rfl (lv_at hl 4 rfl) ?_
        refine lv_dup2_11 hx hb dX5_addWeight_68 rfl rfl ?_
        obtain ⟨i_69, hw⟩ := hw
        refine kiald C h 27 rfl i_69 dX5_addWeight_69 ?_
        refine lv_iload_n hx hb dX5_addWeight_70 rfl (lv_at hl 3 rfl) ?_
        refine lv_iadd hx hb dX5_addWeight_71 ?_
        obtain ⟨i_72, hw⟩ := hw
        refine kiast C h 27 rfl i_72 (cS_R cy ad u x3.toNatClampNeg ((gR u 10 x3.toNatClampNeg) + x2) 10 (Nat.le_of_ble_eq_true rfl)) dX5_addWeight_72 (fun H locs h => ?_)
        exact kX5_addWeight_b73 C hr hlk g2 x1 x2 x3 _ _ _ _ hw h (lv_sub hl [1, 2, 3, 4] rfl)
      · have hw := hw.2 c_47
        refine lv_aload_n hx hb dX5_addWeight_50 rfl (lv_at hl 1 rfl) ?_
        refine kget C h 8 rfl rfl inBX5 7 (Nat.le_of_ble_eq_true rfl) wi_fl_X5_32 rfl dX5_addWeight_51 ?_
        refine lv_iload_n hx hb dX5_addWeight_54 rfl (lv_at hl 4 rfl) ?_
        refine lv_dup2_11 hx hb dX5_addWeight_55 rfl rfl ?_
        obtain ⟨i_56, hw⟩ := hw
        refine kiald C h 28 rfl i_56 dX5_addWeight_56 ?_
        refine lv_iload_n hx hb dX5_addWeight_57 rfl (lv_at hl 3 rfl) ?_
        refine lv_isub hx hb dX5_addWeight_58 ?_
        obtain ⟨i_59, hw⟩ := hw
        refine kiast C h 28 rfl i_59 (cS_R cy ad u x3.toNatClampNeg ((gR u 11 x3.toNatClampNeg) - x2) 11 (Nat.le_of_ble_eq_true rfl)) dX5_addWeight_59 (fun H locs h => ?_)
        refine lv_goto (tgt := 73) hx hb dX5_addWeight_60 (by decide) ?_
        exact kX5_addWeight_b73 C hr hlk g2 x1 x2 x3 _ _ _ _ hw h (lv_sub hl [1, 2, 3, 4] rfl)
    · have hw := hw.2 c_22
      refine lv_aload_n hx hb dX5_addWeight_25 rfl (lv_at hl 1 rfl) ?_
      refine kget C h 8 rfl rfl inBX5 7 (Nat.le_of_ble_eq_true rfl) wi_fl_X5_32 rfl dX5_addWeight_26 ?_
      refine lv_iload_n hx hb dX5_addWeight_29 rfl (lv_at hl 4 rfl) ?_
      refine lv_dup2_11 hx hb dX5_addWeight_30 rfl rfl ?_
      obtain ⟨i_31, hw⟩ := hw
      refine kiald C h 28 rfl i_31 dX5_addWeight_31 ?_
      refine lv_iload_n hx hb dX5_addWeight_32 rfl (lv_at hl 3 rfl) ?_
      refine lv_iadd hx hb dX5_addWeight_33 ?_
      obtain ⟨i_34, hw⟩ := hw
      refine kiast C h 28 rfl i_34 (cS_R cy ad u x3.toNatClampNeg ((gR u 11 x3.toNatClampNeg) + x2) 11 (Nat.le_of_ble_eq_true rfl)) dX5_addWeight_34 (fun H locs h => ?_)
      refine lv_goto (tgt := 73) hx hb dX5_addWeight_35 (by decide) ?_
      exact kX5_addWeight_b73 C hr hlk g2 x1 x2 x3 _ _ _ _ hw h (lv_sub hl [1, 2, 3, 4] rfl)
def wX5_addWeight_L2 (Q : ST → Prop) : Nat → Int32 → Int32 → Int32 → ST → Prop
  | 0, _, _, _, _ => False
  | n + 1, x1, x2, x3, u => wX5_addWeight_B2 (wX5_addWeight_L2 Q n) Q x1 x2 x3 u
set_option maxHeartbeats 4000000 in
theorem kX5_addWeight_L2 {p : Program} {l : Launch} {e : Env} {s : State} {m : MethodId} {args : Array Value} {below : List Frame} {meth : Method} {c : Code} {D : va_G} {cy : CY} {A : Nat → Prop} {ad : Nat → Nat} {Q : ST → Prop} (C : kC p m c cX5_addWeight 5 s args RX5 D cy A) (hr : meth.sig.returnType = none) (hlk : meth.locks = false) : ∀ n : Nat, ∀ (x1 : Int32) (x2 : Int32) (x3 : Int32) (u : ST) (H : Heap) (locs : List Loc) (ls : Array Slot), wX5_addWeight_L2 Q n x1 x2 x3 u → kH D (cW cy ad) A s u H locs → lv_has ls 5 [(0, .ref (ad 8)), (1, .int x1), (2, .int x2), (3, .int x3)] → W p l e (kRm 0) s m args below meth c H locs 0 0 (MQ below (kQv D (cW cy ad) cy A Q) args s 0 0 A) (F0 m 2 ls []) := by
  intro n
  induction n with
  | zero => intro x1 x2 x3 u H locs ls hw; exact False.elim hw
  | succ n ih => exact kX5_addWeight_B2 C hr hlk ih
def wX5_addWeight (x1 : Int32) (x2 : Int32) (u : ST) (Q : ST → Prop) : Prop :=
  (∃ n : Nat, wX5_addWeight_L2 Q n x1 x2 0 u)
set_option maxHeartbeats 4000000 in
set_option maxRecDepth 100000 in
theorem mX5_addWeight (l : Launch) (D : va_G) (cy : CY) (ad : Nat → Nat) (x1 : Int32) (x2 : Int32) (u : ST) (sz : Nat) {Q : ST → Prop} (hw : wX5_addWeight x1 x2 u Q) : Met l yX5_addWeight (wM yX5_addWeight cX5_addWeight 5 none) (kRm 0) (kPc D (cW cy ad) cy u sz [.ref (ad 8), .int x1, .int x2]) (kQv D (cW cy ad) cy (va_A (cW cy ad u) sz) Q) 0 0 (va_A (cW cy ad u) sz) := by
  refine kMet pn_X5_addWeight (Nat.le_of_ble_eq_true rfl) (fun p e s m below meth c ls hsz C hr hlk hex h hl => ?_)
  have hl : lv_has ls 5 [(0, .ref (ad 8)), (1, .int x1), (2, .int x2)] := hl
  obtain ⟨⟨hx, hb, hml, hown, hts⟩, hK, hA⟩ := id C
  unfold wX5_addWeight at hw
  have h : kH D (cW cy ad) (va_A (cW cy ad u) sz) s u s.heap [] := h
  refine lv_iconst (v := 0) hx hb dX5_addWeight_0 (by decide) ?_
  refine lv_istore_n (lv' := [(3, .int 0), (0, .ref (ad 8)), (1, .int x1), (2, .int x2)]) hx hb dX5_addWeight_1 rfl hl (by decide) rfl (fun ls hl => ?_)
  obtain ⟨n, hw⟩ := hw
  exact kX5_addWeight_L2 C hr hlk n x1 x2 0 _ _ _ _ hw h (lv_sub hl [1, 2, 3, 0] rfl)

def wX5_weigh_B30 (K30 : Int32 → Int32 → Int32 → ST → Prop) (Q : ST → Prop) (x1 : Int32) (x2 : Int32) (x3 : Int32) (u : ST) : Prop :=
  (vp_in x1 17 ∧ (((gR u 9 x1.toNatClampNeg) ≤ x3 → Q u) ∧ (¬ (gR u 9 x1.toNatClampNeg) ≤ x3 → (vp_in x1 17 ∧ (vp_in x3 256 ∧ (vp_in (gR u (16 + x1.toNatClampNeg) x3.toNatClampNeg) 256 ∧ (vp_in (gR u (16 + x1.toNatClampNeg) x3.toNatClampNeg) 256 ∧ wJ6_bitCount_0f7a4 (x2 &&& (((gR u 6 (gR u (16 + x1.toNatClampNeg) x3.toNatClampNeg).toNatClampNeg) ||| (gR u 7 (gR u (16 + x1.toNatClampNeg) x3.toNatClampNeg).toNatClampNeg)) ^^^ (-1))) u (fun r_1 u_2 => wX5_addWeight (gR u (16 + x1.toNatClampNeg) x3.toNatClampNeg) (1 <<< (r_1 &&& 31)) u_2 (fun u_4 => K30 x1 x2 (x3 + 1) u_4)))))))))
set_option maxHeartbeats 4000000 in
set_option maxRecDepth 100000 in
theorem kX5_weigh_B30 {p : Program} {l : Launch} {e : Env} {s : State} {m : MethodId} {args : Array Value} {below : List Frame} {meth : Method} {c : Code} {D : va_G} {cy : CY} {A : Nat → Prop} {ad : Nat → Nat} {K30 : Int32 → Int32 → Int32 → ST → Prop} {Q : ST → Prop} (C : kC p m c cX5_weigh 5 s args RX5 D cy A) (hr : meth.sig.returnType = none) (hlk : meth.locks = false) (g30 : ∀ (x1 : Int32) (x2 : Int32) (x3 : Int32) (u : ST) (H : Heap) (locs : List Loc) (ls : Array Slot), K30 x1 x2 x3 u → kH D (cW cy ad) A s u H locs → lv_has ls 5 [(0, .ref (ad 8)), (1, .int x1), (2, .int x2), (3, .int x3)] → W p l e (kRm 1) s m args below meth c H locs 0 0 (MQ below (kQv D (cW cy ad) cy A Q) args s 0 0 A) (F0 m 30 ls [])) : ∀ (x1 : Int32) (x2 : Int32) (x3 : Int32) (u : ST) (H : Heap) (locs : List Loc) (ls : Array Slot), wX5_weigh_B30 K30 Q x1 x2 x3 u → kH D (cW cy ad) A s u H locs → lv_has ls 5 [(0, .ref (ad 8)), (1, .int x1), (2, .int x2), (3, .int x3)] → W p l e (kRm 1) s m args below meth c H locs 0 0 (MQ below (kQv D (cW cy ad) cy A Q) args s 0 0 A) (F0 m 30 ls []) := by
  intro x1 x2 x3 u H locs ls hw h hl
  obtain ⟨⟨hx, hb, hml, hown, hts⟩, hK, hA⟩ := id C
  unfold wX5_weigh_B30 at hw
  refine lv_iload_n hx hb dX5_weigh_30 rfl (lv_at hl 3 rfl) ?_
  refine lv_aload_n hx hb dX5_weigh_31 rfl (lv_at hl 0 rfl) ?_
  refine kget C h 8 rfl rfl inBX5 5 (Nat.le_of_ble_eq_true rfl) wi_fl_X5_26 rfl dX5_weigh_32 ?_
  refine lv_iload_n hx hb dX5_weigh_35 rfl (lv_at hl 1 rfl) ?_
  obtain ⟨i_36, hw⟩ := hw
  refine kiald C h 26 rfl i_36 dX5_weigh_36 ?_
  refine lv_icmp_ge (tgt := 86) hx hb dX5_weigh_37 (by decide) (fun c_37 => ?_) (fun c_37 => ?_)
  · have hw := hw.1 c_37
    exact kretV C hr hlk h hw dX5_weigh_86
  · have hw := hw.2 c_37
    refine lv_aload_n hx hb dX5_weigh_40 rfl (lv_at hl 0 rfl) ?_
    refine kget C h 8 rfl rfl inBX5 4 (Nat.le_of_ble_eq_true rfl) wi_fl_X5_23 rfl dX5_weigh_41 ?_
    refine lv_iload_n hx hb dX5_weigh_44 rfl (lv_at hl 1 rfl) ?_
    obtain ⟨i_45, hw⟩ := hw
    refine kaald C h 16 (f := fun d => aR ad (16 + d)) rfl i_45 dX5_weigh_45 ?_
    have b_45 := vp_lt i_45
    refine lv_iload_n hx hb dX5_weigh_46 rfl (lv_at hl 3 rfl) ?_
    obtain ⟨i_47, hw⟩ := hw
    have b_47 := vp_lt i_45
    refine kiald C h (17 + (16 + x1.toNatClampNeg)) (cW_R cy ad u (16 + x1.toNatClampNeg) (by omega)) (by rw [lenR_256 (by omega)]; exact i_47) dX5_weigh_47 ?_
    refine lv_istore (lv' := [(4, .int (gR u (16 + x1.toNatClampNeg) x3.toNatClampNeg)), (0, .ref (ad 8)), (1, .int x1), (2, .int x2), (3, .int x3)]) hx hb dX5_weigh_48 hl (by decide) rfl (fun ls hl => ?_)
    refine lv_aload_n hx hb dX5_weigh_50 rfl (lv_at hl 1 rfl) ?_
    refine lv_iload hx hb dX5_weigh_51 (lv_at hl 0 rfl) ?_
    refine lv_iconst (v := 1) hx hb dX5_weigh_53 (by decide) ?_
    refine lv_iload_n hx hb dX5_weigh_54 rfl (lv_at hl 3 rfl) ?_
    refine lv_aload_n hx hb dX5_weigh_55 rfl (lv_at hl 1 rfl) ?_
    refine kget C h 8 rfl rfl inBX5 0 (Nat.le_of_ble_eq_true rfl) wi_fl_X5_9 rfl dX5_weigh_56 ?_
    refine lv_iload hx hb dX5_weigh_59 (lv_at hl 0 rfl) ?_
    obtain ⟨i_61, hw⟩ := hw
    refine kiald C h 23 rfl i_61 dX5_weigh_61 ?_
    refine lv_aload_n hx hb dX5_weigh_62 rfl (lv_at hl 1 rfl) ?_
    refine kget C h 8 rfl rfl inBX5 1 (Nat.le_of_ble_eq_true rfl) wi_fl_X5_15 rfl dX5_weigh_63 ?_
    refine lv_iload hx hb dX5_weigh_66 (lv_at hl 0 rfl) ?_
    obtain ⟨i_68, hw⟩ := hw
    refine kiald C h 24 rfl i_68 dX5_weigh_68 ?_
    refine lv_ior hx hb dX5_weigh_69 ?_
    refine lv_iconst (v := (-1)) hx hb dX5_weigh_70 (by decide) ?_
    refine lv_ixor hx hb dX5_weigh_71 ?_
    refine lv_iand hx hb dX5_weigh_72 ?_
    refine kSi (As := [.int (x2 &&& (((gR u 6 (gR u (16 + x1.toNatClampNeg) x3.toNatClampNeg).toNatClampNeg) ||| (gR u 7 (gR u (16 + x1.toNatClampNeg) x3.toNatClampNeg).toNatClampNeg)) ^^^ (-1)))]) (rest := [.int 1, .int (gR u (16 + x1.toNatClampNeg) x3.toNatClampNeg), .ref (ad 8)]) C h (va_cwS 1 hts (gd_S wi_ml_X5_68 wi_st_J6_bitCount_0f7a4 wi_in_J6 wi_co_J6_bitCount_0f7a4) rfl rfl rfl hd_J6_bitCount_0f7a4.2 ⟨Nat.le_of_ble_eq_true rfl, Nat.le_of_ble_eq_true rfl⟩) (mJ6_bitCount_0f7a4 l D cy ad (x2 &&& (((gR u 6 (gR u (16 + x1.toNatClampNeg) x3.toNatClampNeg).toNatClampNeg) ||| (gR u 7 (gR u (16 + x1.toNatClampNeg) x3.toNatClampNeg).toNatClampNeg)) ^^^ (-1))) _ _ hw) rfl hl.1 rfl (Nat.le_of_ble_eq_true rfl) ⟨Nat.zero_le _, Nat.zero_le _⟩ dX5_weigh_73 (fun r_1 u_2 H locs hw h => ?_)
    refine lv_ishl hx hb dX5_weigh_76 ?_
    refine kVv (As := [.int (gR u (16 + x1.toNatClampNeg) x3.toNatClampNeg), .int (1 <<< (r_1 &&& 31))]) (rest := []) C h (cwV 2 hts (gd_V wi_ml_X5_87 wi_im_X5_addWeight wi_se_X5_addWeight wi_in_X5 wi_co_X5_addWeight) rfl rfl rfl hd_X5_addWeight ⟨Nat.le_of_ble_eq_true rfl, Nat.le_of_ble_eq_true rfl⟩) 8 rfl rfl rfl (mX5_addWeight l D cy ad (gR u (16 + x1.toNatClampNeg) x3.toNatClampNeg) (1 <<< (r_1 &&& 31)) _ _ hw) rfl hl.1 rfl (Nat.le_of_ble_eq_true rfl) ⟨Nat.zero_le _, Nat.zero_le _⟩ dX5_weigh_77 (fun u_4 H locs hw h => ?_)
    refine lv_iinc (v := x3 + 1) (lv' := [(3, .int (x3 + 1)), (4, .int (gR u (16 + x1.toNatClampNeg) x3.toNatClampNeg)), (0, .ref (ad 8)), (1, .int x1), (2, .int x2)]) hx hb dX5_weigh_80 hl (k := 4) rfl rfl (by decide) rfl (fun ls hl => ?_)
    refine lv_goto (tgt := 30) hx hb dX5_weigh_83 (by decide) ?_
    exact g30 x1 x2 (x3 + 1) _ _ _ _ hw h (lv_sub hl [2, 3, 4, 0] rfl)
def wX5_weigh_L30 (Q : ST → Prop) : Nat → Int32 → Int32 → Int32 → ST → Prop
  | 0, _, _, _, _ => False
  | n + 1, x1, x2, x3, u => wX5_weigh_B30 (wX5_weigh_L30 Q n) Q x1 x2 x3 u
set_option maxHeartbeats 4000000 in
theorem kX5_weigh_L30 {p : Program} {l : Launch} {e : Env} {s : State} {m : MethodId} {args : Array Value} {below : List Frame} {meth : Method} {c : Code} {D : va_G} {cy : CY} {A : Nat → Prop} {ad : Nat → Nat} {Q : ST → Prop} (C : kC p m c cX5_weigh 5 s args RX5 D cy A) (hr : meth.sig.returnType = none) (hlk : meth.locks = false) : ∀ n : Nat, ∀ (x1 : Int32) (x2 : Int32) (x3 : Int32) (u : ST) (H : Heap) (locs : List Loc) (ls : Array Slot), wX5_weigh_L30 Q n x1 x2 x3 u → kH D (cW cy ad) A s u H locs → lv_has ls 5 [(0, .ref (ad 8)), (1, .int x1), (2, .int x2), (3, .int x3)] → W p l e (kRm 1) s m args below meth c H locs 0 0 (MQ below (kQv D (cW cy ad) cy A Q) args s 0 0 A) (F0 m 30 ls []) := by
  intro n
  induction n with
  | zero => intro x1 x2 x3 u H locs ls hw; exact False.elim hw
  | succ n ih => exact kX5_weigh_B30 C hr hlk ih
def wX5_weigh_B2 (K2 : Int32 → Int32 → Int32 → ST → Prop) (Q : ST → Prop) (x1 : Int32) (x2 : Int32) (x3 : Int32) (u : ST) : Prop :=
  ((16 ≤ x3 → (∃ n : Nat, wX5_weigh_L30 Q n x1 x2 0 u)) ∧ (¬ 16 ≤ x3 → (vp_in x3 16 ∧ (vp_in x3 16 ∧ K2 x1 x2 (x3 + 1) (sR (sR u 10 x3.toNatClampNeg 0) 11 x3.toNatClampNeg 0)))))
set_option maxHeartbeats 4000000 in
set_option maxRecDepth 100000 in
theorem kX5_weigh_B2 {p : Program} {l : Launch} {e : Env} {s : State} {m : MethodId} {args : Array Value} {below : List Frame} {meth : Method} {c : Code} {D : va_G} {cy : CY} {A : Nat → Prop} {ad : Nat → Nat} {K2 : Int32 → Int32 → Int32 → ST → Prop} {Q : ST → Prop} (C : kC p m c cX5_weigh 5 s args RX5 D cy A) (hr : meth.sig.returnType = none) (hlk : meth.locks = false) (g2 : ∀ (x1 : Int32) (x2 : Int32) (x3 : Int32) (u : ST) (H : Heap) (locs : List Loc) (ls : Array Slot), K2 x1 x2 x3 u → kH D (cW cy ad) A s u H locs → lv_has ls 5 [(0, .ref (ad 8)), (1, .int x1), (2, .int x2), (3, .int x3)] → W p l e (kRm 1) s m args below meth c H locs 0 0 (MQ below (kQv D (cW cy ad) cy A Q) args s 0 0 A) (F0 m 2 ls [])) : ∀ (x1 : Int32) (x2 : Int32) (x3 : Int32) (u : ST) (H : Heap) (locs : List Loc) (ls : Array Slot), wX5_weigh_B2 K2 Q x1 x2 x3 u → kH D (cW cy ad) A s u H locs → lv_has ls 5 [(0, .ref (ad 8)), (1, .int x1), (2, .int x2), (3, .int x3)] → W p l e (kRm 1) s m args below meth c H locs 0 0 (MQ below (kQv D (cW cy ad) cy A Q) args s 0 0 A) (F0 m 2 ls []) := by
  intro x1 x2 x3 u H locs ls hw h hl
  obtain ⟨⟨hx, hb, hml, hown, hts⟩, hK, hA⟩ := id C
  unfold wX5_weigh_B2 at hw
  refine lv_iload_n hx hb dX5_weigh_2 rfl (lv_at hl 3 rfl) ?_
  refine lv_bipush (v := 16) hx hb dX5_weigh_3 (by decide) ?_
  refine lv_icmp_ge (tgt := 28) hx hb dX5_weigh_5 (by decide) (fun c_5 => ?_) (fun c_5 => ?_)
  · have hw := hw.1 c_5
    refine lv_iconst (v := 0) hx hb dX5_weigh_28 (by decide) ?_
    refine lv_istore_n (lv' := [(3, .int 0), (0, .ref (ad 8)), (1, .int x1), (2, .int x2)]) hx hb dX5_weigh_29 rfl hl (by decide) rfl (fun ls hl => ?_)
    obtain ⟨n, hw⟩ := hw
    exact kX5_weigh_L30 C hr hlk n x1 x2 0 _ _ _ _ hw h (lv_sub hl [1, 2, 3, 0] rfl)
  · have hw := hw.2 c_5
    refine lv_aload_n hx hb dX5_weigh_8 rfl (lv_at hl 0 rfl) ?_
    refine kget C h 8 rfl rfl inBX5 6 (Nat.le_of_ble_eq_true rfl) wi_fl_X5_29 rfl dX5_weigh_9 ?_
    refine lv_iload_n hx hb dX5_weigh_12 rfl (lv_at hl 3 rfl) ?_
    refine lv_iconst (v := 0) hx hb dX5_weigh_13 (by decide) ?_
    obtain ⟨i_14, hw⟩ := hw
    refine kiast C h 27 rfl i_14 (cS_R cy ad u x3.toNatClampNeg 0 10 (Nat.le_of_ble_eq_true rfl)) dX5_weigh_14 (fun H locs h => ?_)
    refine lv_aload_n hx hb dX5_weigh_15 rfl (lv_at hl 0 rfl) ?_
    refine kget C h 8 rfl rfl inBX5 7 (Nat.le_of_ble_eq_true rfl) wi_fl_X5_32 rfl dX5_weigh_16 ?_
    refine lv_iload_n hx hb dX5_weigh_19 rfl (lv_at hl 3 rfl) ?_
    refine lv_iconst (v := 0) hx hb dX5_weigh_20 (by decide) ?_
    obtain ⟨i_21, hw⟩ := hw
    refine kiast C h 28 rfl i_21 (cS_R cy ad (sR u 10 x3.toNatClampNeg 0) x3.toNatClampNeg 0 11 (Nat.le_of_ble_eq_true rfl)) dX5_weigh_21 (fun H locs h => ?_)
    refine lv_iinc (v := x3 + 1) (lv' := [(3, .int (x3 + 1)), (0, .ref (ad 8)), (1, .int x1), (2, .int x2)]) hx hb dX5_weigh_22 hl (k := 3) rfl rfl (by decide) rfl (fun ls hl => ?_)
    refine lv_goto (tgt := 2) hx hb dX5_weigh_25 (by decide) ?_
    exact g2 x1 x2 (x3 + 1) _ _ _ _ hw h (lv_sub hl [1, 2, 3, 0] rfl)
def wX5_weigh_L2 (Q : ST → Prop) : Nat → Int32 → Int32 → Int32 → ST → Prop
  | 0, _, _, _, _ => False
  | n + 1, x1, x2, x3, u => wX5_weigh_B2 (wX5_weigh_L2 Q n) Q x1 x2 x3 u
set_option maxHeartbeats 4000000 in
theorem kX5_weigh_L2 {p : Program} {l : Launch} {e : Env} {s : State} {m : MethodId} {args : Array Value} {below : List Frame} {meth : Method} {c : Code} {D : va_G} {cy : CY} {A : Nat → Prop} {ad : Nat → Nat} {Q : ST → Prop} (C : kC p m c cX5_weigh 5 s args RX5 D cy A) (hr : meth.sig.returnType = none) (hlk : meth.locks = false) : ∀ n : Nat, ∀ (x1 : Int32) (x2 : Int32) (x3 : Int32) (u : ST) (H : Heap) (locs : List Loc) (ls : Array Slot), wX5_weigh_L2 Q n x1 x2 x3 u → kH D (cW cy ad) A s u H locs → lv_has ls 5 [(0, .ref (ad 8)), (1, .int x1), (2, .int x2), (3, .int x3)] → W p l e (kRm 1) s m args below meth c H locs 0 0 (MQ below (kQv D (cW cy ad) cy A Q) args s 0 0 A) (F0 m 2 ls []) := by
  intro n
  induction n with
  | zero => intro x1 x2 x3 u H locs ls hw; exact False.elim hw
  | succ n ih => exact kX5_weigh_B2 C hr hlk ih
def wX5_weigh (x1 : Int32) (x2 : Int32) (u : ST) (Q : ST → Prop) : Prop :=
  (∃ n : Nat, wX5_weigh_L2 Q n x1 x2 0 u)
set_option maxHeartbeats 4000000 in
set_option maxRecDepth 100000 in
theorem mX5_weigh (l : Launch) (D : va_G) (cy : CY) (ad : Nat → Nat) (x1 : Int32) (x2 : Int32) (u : ST) (sz : Nat) {Q : ST → Prop} (hw : wX5_weigh x1 x2 u Q) : Met l yX5_weigh (wM yX5_weigh cX5_weigh 5 none) (kRm 1) (kPc D (cW cy ad) cy u sz [.ref (ad 8), .int x1, .int x2]) (kQv D (cW cy ad) cy (va_A (cW cy ad u) sz) Q) 0 0 (va_A (cW cy ad u) sz) := by
  refine kMet pn_X5_weigh (Nat.le_of_ble_eq_true rfl) (fun p e s m below meth c ls hsz C hr hlk hex h hl => ?_)
  have hl : lv_has ls 5 [(0, .ref (ad 8)), (1, .int x1), (2, .int x2)] := hl
  obtain ⟨⟨hx, hb, hml, hown, hts⟩, hK, hA⟩ := id C
  unfold wX5_weigh at hw
  have h : kH D (cW cy ad) (va_A (cW cy ad u) sz) s u s.heap [] := h
  refine lv_iconst (v := 0) hx hb dX5_weigh_0 (by decide) ?_
  refine lv_istore_n (lv' := [(3, .int 0), (0, .ref (ad 8)), (1, .int x1), (2, .int x2)]) hx hb dX5_weigh_1 rfl hl (by decide) rfl (fun ls hl => ?_)
  obtain ⟨n, hw⟩ := hw
  exact kX5_weigh_L2 C hr hlk n x1 x2 0 _ _ _ _ hw h (lv_sub hl [1, 2, 3, 0] rfl)

def wX5_choose_b45 (K11 : Int32 → Int32 → Int32 → ST → Prop) (Q : Int32 → ST → Prop) (x2 : Int32) (x3 : Int32) (x4 : Int32) (u : ST) : Prop :=
  K11 x2 x3 (x4 + 1) u
set_option maxHeartbeats 4000000 in
set_option maxRecDepth 100000 in
theorem kX5_choose_b45 {p : Program} {l : Launch} {e : Env} {s : State} {m : MethodId} {args : Array Value} {below : List Frame} {meth : Method} {c : Code} {D : va_G} {cy : CY} {A : Nat → Prop} {ad : Nat → Nat} {K11 : Int32 → Int32 → Int32 → ST → Prop} {Q : Int32 → ST → Prop} (C : kC p m c cX5_choose 5 s args RX5 D cy A) (hr : meth.sig.returnType = some .int) (hlk : meth.locks = false) (g11 : ∀ (x2 : Int32) (x3 : Int32) (x4 : Int32) (u : ST) (H : Heap) (locs : List Loc) (ls : Array Slot), K11 x2 x3 x4 u → kH D (cW cy ad) A s u H locs → lv_has ls 5 [(0, .ref (ad 8)), (2, .int x2), (3, .int x3), (4, .int x4)] → W p l e (kRm 2) s m args below meth c H locs 0 0 (MQ below (kQi D (cW cy ad) cy A Q) args s 0 0 A) (F0 m 11 ls [])) : ∀ (x2 : Int32) (x3 : Int32) (x4 : Int32) (u : ST) (H : Heap) (locs : List Loc) (ls : Array Slot), wX5_choose_b45 K11 Q x2 x3 x4 u → kH D (cW cy ad) A s u H locs → lv_has ls 5 [(0, .ref (ad 8)), (2, .int x2), (3, .int x3), (4, .int x4)] → W p l e (kRm 2) s m args below meth c H locs 0 0 (MQ below (kQi D (cW cy ad) cy A Q) args s 0 0 A) (F0 m 45 ls []) := by
  intro x2 x3 x4 u H locs ls hw h hl
  obtain ⟨⟨hx, hb, hml, hown, hts⟩, hK, hA⟩ := id C
  unfold wX5_choose_b45 at hw
  refine lv_iinc (v := x4 + 1) (lv' := [(4, .int (x4 + 1)), (0, .ref (ad 8)), (2, .int x2), (3, .int x3)]) hx hb dX5_choose_45 hl (k := 3) rfl rfl (by decide) rfl (fun ls hl => ?_)
  refine lv_goto (tgt := 11) hx hb dX5_choose_48 (by decide) ?_
  exact g11 x2 x3 (x4 + 1) _ _ _ _ hw h (lv_sub hl [1, 2, 3, 0] rfl)
def wX5_choose_b42 (K11 : Int32 → Int32 → Int32 → ST → Prop) (Q : Int32 → ST → Prop) (x2 : Int32) (x4 : Int32) (u : ST) : Prop :=
  wX5_choose_b45 K11 Q x2 x4 x4 u
set_option maxHeartbeats 4000000 in
set_option maxRecDepth 100000 in
theorem kX5_choose_b42 {p : Program} {l : Launch} {e : Env} {s : State} {m : MethodId} {args : Array Value} {below : List Frame} {meth : Method} {c : Code} {D : va_G} {cy : CY} {A : Nat → Prop} {ad : Nat → Nat} {K11 : Int32 → Int32 → Int32 → ST → Prop} {Q : Int32 → ST → Prop} (C : kC p m c cX5_choose 5 s args RX5 D cy A) (hr : meth.sig.returnType = some .int) (hlk : meth.locks = false) (g11 : ∀ (x2 : Int32) (x3 : Int32) (x4 : Int32) (u : ST) (H : Heap) (locs : List Loc) (ls : Array Slot), K11 x2 x3 x4 u → kH D (cW cy ad) A s u H locs → lv_has ls 5 [(0, .ref (ad 8)), (2, .int x2), (3, .int x3), (4, .int x4)] → W p l e (kRm 2) s m args below meth c H locs 0 0 (MQ below (kQi D (cW cy ad) cy A Q) args s 0 0 A) (F0 m 11 ls [])) : ∀ (x2 : Int32) (x4 : Int32) (u : ST) (H : Heap) (locs : List Loc) (ls : Array Slot), wX5_choose_b42 K11 Q x2 x4 u → kH D (cW cy ad) A s u H locs → lv_has ls 5 [(0, .ref (ad 8)), (2, .int x2), (4, .int x4)] → W p l e (kRm 2) s m args below meth c H locs 0 0 (MQ below (kQi D (cW cy ad) cy A Q) args s 0 0 A) (F0 m 42 ls []) := by
  intro x2 x4 u H locs ls hw h hl
  obtain ⟨⟨hx, hb, hml, hown, hts⟩, hK, hA⟩ := id C
  unfold wX5_choose_b42 at hw
  refine lv_iload hx hb dX5_choose_42 (lv_at hl 2 rfl) ?_
  refine lv_istore_n (lv' := [(3, .int x4), (0, .ref (ad 8)), (2, .int x2), (4, .int x4)]) hx hb dX5_choose_44 rfl hl (by decide) rfl (fun ls hl => ?_)
  exact kX5_choose_b45 C hr hlk g11 x2 x4 x4 _ _ _ _ hw h (lv_sub hl [1, 2, 0, 3] rfl)
def wX5_choose_B11 (K11 : Int32 → Int32 → Int32 → ST → Prop) (Q : Int32 → ST → Prop) (x2 : Int32) (x3 : Int32) (x4 : Int32) (u : ST) : Prop :=
  ((16 ≤ x4 → Q x3 u) ∧ (¬ 16 ≤ x4 → (((x2 &&& (1 <<< (x4 &&& 31))) = 0 → wX5_choose_b45 K11 Q x2 x3 x4 u) ∧ (¬ (x2 &&& (1 <<< (x4 &&& 31))) = 0 → ((x3 = (-1) → wX5_choose_b42 K11 Q x2 x4 u) ∧ (¬ x3 = (-1) → wX5_isBetter x4 x3 u (fun r_1 u_2 => ((r_1 = 0 → wX5_choose_b45 K11 Q x2 x3 x4 u_2) ∧ (¬ r_1 = 0 → wX5_choose_b42 K11 Q x2 x4 u_2)))))))))
set_option maxHeartbeats 4000000 in
set_option maxRecDepth 100000 in
theorem kX5_choose_B11 {p : Program} {l : Launch} {e : Env} {s : State} {m : MethodId} {args : Array Value} {below : List Frame} {meth : Method} {c : Code} {D : va_G} {cy : CY} {A : Nat → Prop} {ad : Nat → Nat} {K11 : Int32 → Int32 → Int32 → ST → Prop} {Q : Int32 → ST → Prop} (C : kC p m c cX5_choose 5 s args RX5 D cy A) (hr : meth.sig.returnType = some .int) (hlk : meth.locks = false) (g11 : ∀ (x2 : Int32) (x3 : Int32) (x4 : Int32) (u : ST) (H : Heap) (locs : List Loc) (ls : Array Slot), K11 x2 x3 x4 u → kH D (cW cy ad) A s u H locs → lv_has ls 5 [(0, .ref (ad 8)), (2, .int x2), (3, .int x3), (4, .int x4)] → W p l e (kRm 2) s m args below meth c H locs 0 0 (MQ below (kQi D (cW cy ad) cy A Q) args s 0 0 A) (F0 m 11 ls [])) : ∀ (x2 : Int32) (x3 : Int32) (x4 : Int32) (u : ST) (H : Heap) (locs : List Loc) (ls : Array Slot), wX5_choose_B11 K11 Q x2 x3 x4 u → kH D (cW cy ad) A s u H locs → lv_has ls 5 [(0, .ref (ad 8)), (2, .int x2), (3, .int x3), (4, .int x4)] → W p l e (kRm 2) s m args below meth c H locs 0 0 (MQ below (kQi D (cW cy ad) cy A Q) args s 0 0 A) (F0 m 11 ls []) := by
  intro x2 x3 x4 u H locs ls hw h hl
  obtain ⟨⟨hx, hb, hml, hown, hts⟩, hK, hA⟩ := id C
  unfold wX5_choose_B11 at hw
  refine lv_iload hx hb dX5_choose_11 (lv_at hl 3 rfl) ?_
  refine lv_bipush (v := 16) hx hb dX5_choose_13 (by decide) ?_
  refine lv_icmp_ge (tgt := 51) hx hb dX5_choose_15 (by decide) (fun c_15 => ?_) (fun c_15 => ?_)
  · have hw := hw.1 c_15
    refine lv_iload_n hx hb dX5_choose_51 rfl (lv_at hl 2 rfl) ?_
    exact kretI C hr hlk h hw dX5_choose_52
  · have hw := hw.2 c_15
    refine lv_iload_n hx hb dX5_choose_18 rfl (lv_at hl 1 rfl) ?_
    refine lv_iconst (v := 1) hx hb dX5_choose_19 (by decide) ?_
    refine lv_iload hx hb dX5_choose_20 (lv_at hl 3 rfl) ?_
    refine lv_ishl hx hb dX5_choose_22 ?_
    refine lv_iand hx hb dX5_choose_23 ?_
    refine lv_if_eq (tgt := 45) hx hb dX5_choose_24 (by decide) (fun c_24 => ?_) (fun c_24 => ?_)
    · have hw := hw.1 c_24
      exact kX5_choose_b45 C hr hlk g11 x2 x3 x4 _ _ _ _ hw h (lv_sub hl [0, 1, 2, 3] rfl)
    · have hw := hw.2 c_24
      refine lv_iload_n hx hb dX5_choose_27 rfl (lv_at hl 2 rfl) ?_
      refine lv_iconst (v := (-1)) hx hb dX5_choose_28 (by decide) ?_
      refine lv_icmp_eq (tgt := 42) hx hb dX5_choose_29 (by decide) (fun c_29 => ?_) (fun c_29 => ?_)
      · have hw := hw.1 c_29
        exact kX5_choose_b42 C hr hlk g11 x2 x4 _ _ _ _ hw h (lv_sub hl [0, 1, 3] rfl)
      · have hw := hw.2 c_29
        refine lv_aload_n hx hb dX5_choose_32 rfl (lv_at hl 0 rfl) ?_
        refine lv_iload hx hb dX5_choose_33 (lv_at hl 3 rfl) ?_
        refine lv_iload_n hx hb dX5_choose_35 rfl (lv_at hl 2 rfl) ?_
        refine kVi (As := [.int x4, .int x3]) (rest := []) C h (cwV 2 hts (gd_V wi_ml_X5_78 wi_im_X5_isBetter wi_se_X5_isBetter wi_in_X5 wi_co_X5_isBetter) rfl rfl rfl hd_X5_isBetter ⟨Nat.le_of_ble_eq_true rfl, Nat.le_of_ble_eq_true rfl⟩) 8 rfl rfl rfl (mX5_isBetter l D cy ad x4 x3 _ _ hw) rfl hl.1 rfl (Nat.le_of_ble_eq_true rfl) ⟨Nat.zero_le _, Nat.zero_le _⟩ dX5_choose_36 (fun r_1 u_2 H locs hw h => ?_)
        refine lv_if_eq (tgt := 45) hx hb dX5_choose_39 (by decide) (fun c_39 => ?_) (fun c_39 => ?_)
        · have hw := hw.1 c_39
          exact kX5_choose_b45 C hr hlk g11 x2 x3 x4 _ _ _ _ hw h (lv_sub hl [0, 1, 2, 3] rfl)
        · have hw := hw.2 c_39
          exact kX5_choose_b42 C hr hlk g11 x2 x4 _ _ _ _ hw h (lv_sub hl [0, 1, 3] rfl)
def wX5_choose_L11 (Q : Int32 → ST → Prop) : Nat → Int32 → Int32 → Int32 → ST → Prop
  | 0, _, _, _, _ => False
  | n + 1, x2, x3, x4, u => wX5_choose_B11 (wX5_choose_L11 Q n) Q x2 x3 x4 u
set_option maxHeartbeats 4000000 in
theorem kX5_choose_L11 {p : Program} {l : Launch} {e : Env} {s : State} {m : MethodId} {args : Array Value} {below : List Frame} {meth : Method} {c : Code} {D : va_G} {cy : CY} {A : Nat → Prop} {ad : Nat → Nat} {Q : Int32 → ST → Prop} (C : kC p m c cX5_choose 5 s args RX5 D cy A) (hr : meth.sig.returnType = some .int) (hlk : meth.locks = false) : ∀ n : Nat, ∀ (x2 : Int32) (x3 : Int32) (x4 : Int32) (u : ST) (H : Heap) (locs : List Loc) (ls : Array Slot), wX5_choose_L11 Q n x2 x3 x4 u → kH D (cW cy ad) A s u H locs → lv_has ls 5 [(0, .ref (ad 8)), (2, .int x2), (3, .int x3), (4, .int x4)] → W p l e (kRm 2) s m args below meth c H locs 0 0 (MQ below (kQi D (cW cy ad) cy A Q) args s 0 0 A) (F0 m 11 ls []) := by
  intro n
  induction n with
  | zero => intro x2 x3 x4 u H locs ls hw; exact False.elim hw
  | succ n ih => exact kX5_choose_B11 C hr hlk ih
def wX5_choose (x1 : Int32) (x2 : Int32) (u : ST) (Q : Int32 → ST → Prop) : Prop :=
  wX5_weigh x1 x2 u (fun u_2 => (∃ n : Nat, wX5_choose_L11 Q n x2 (-1) 0 u_2))
set_option maxHeartbeats 4000000 in
set_option maxRecDepth 100000 in
theorem mX5_choose (l : Launch) (D : va_G) (cy : CY) (ad : Nat → Nat) (x1 : Int32) (x2 : Int32) (u : ST) (sz : Nat) {Q : Int32 → ST → Prop} (hw : wX5_choose x1 x2 u Q) : Met l yX5_choose (wM yX5_choose cX5_choose 5 (some .int)) (kRm 2) (kPc D (cW cy ad) cy u sz [.ref (ad 8), .int x1, .int x2]) (kQi D (cW cy ad) cy (va_A (cW cy ad u) sz) Q) 0 0 (va_A (cW cy ad u) sz) := by
  refine kMet pn_X5_choose (Nat.le_of_ble_eq_true rfl) (fun p e s m below meth c ls hsz C hr hlk hex h hl => ?_)
  have hl : lv_has ls 5 [(0, .ref (ad 8)), (1, .int x1), (2, .int x2)] := hl
  obtain ⟨⟨hx, hb, hml, hown, hts⟩, hK, hA⟩ := id C
  unfold wX5_choose at hw
  have h : kH D (cW cy ad) (va_A (cW cy ad u) sz) s u s.heap [] := h
  refine lv_aload_n hx hb dX5_choose_0 rfl (lv_at hl 0 rfl) ?_
  refine lv_iload_n hx hb dX5_choose_1 rfl (lv_at hl 1 rfl) ?_
  refine lv_iload_n hx hb dX5_choose_2 rfl (lv_at hl 2 rfl) ?_
  refine kVv (As := [.int x1, .int x2]) (rest := []) C h (cwV 2 hts (gd_V wi_ml_X5_74 wi_im_X5_weigh wi_se_X5_weigh wi_in_X5 wi_co_X5_weigh) rfl rfl rfl hd_X5_weigh ⟨Nat.le_of_ble_eq_true rfl, Nat.le_of_ble_eq_true rfl⟩) 8 rfl rfl rfl (mX5_weigh l D cy ad x1 x2 _ _ hw) rfl hl.1 rfl (Nat.le_of_ble_eq_true rfl) ⟨Nat.zero_le _, Nat.zero_le _⟩ dX5_choose_3 (fun u_2 H locs hw h => ?_)
  refine lv_iconst (v := (-1)) hx hb dX5_choose_6 (by decide) ?_
  refine lv_istore_n (lv' := [(3, .int (-1)), (0, .ref (ad 8)), (1, .int x1), (2, .int x2)]) hx hb dX5_choose_7 rfl hl (by decide) rfl (fun ls hl => ?_)
  refine lv_iconst (v := 0) hx hb dX5_choose_8 (by decide) ?_
  refine lv_istore (lv' := [(4, .int 0), (3, .int (-1)), (0, .ref (ad 8)), (1, .int x1), (2, .int x2)]) hx hb dX5_choose_9 hl (by decide) rfl (fun ls hl => ?_)
  obtain ⟨n, hw⟩ := hw
  exact kX5_choose_L11 C hr hlk n x2 (-1) 0 _ _ _ _ hw h (lv_sub hl [2, 4, 1, 0] rfl)
