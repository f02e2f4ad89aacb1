def wX3_append (x1 : Int32) (u : ST) (Q : ST → Prop) : Prop :=
  (vp_in ((gI u 5) >>> (3 &&& 31)) 1000 ∧ (∀ x3_1 : Int64, x3_1 = (gB u 0 ((gI u 5) >>> (3 &&& 31)).toNatClampNeg) &&& (((255 : Int64) <<< ((8 * ((gI u 5) &&& 7) : Int32).toInt64 &&& 63)) ^^^ (-1)) → (vp_in ((gI u 5) >>> (3 &&& 31)) 1000 ∧ Q (sI (sB u 0 ((gI u 5) >>> (3 &&& 31)).toNatClampNeg (x3_1 ||| (((x1 : Int32).toInt64 : Int64) <<< ((8 * ((gI u 5) &&& 7) : Int32).toInt64 &&& 63)))) 5 ((gI (sB u 0 ((gI u 5) >>> (3 &&& 31)).toNatClampNeg (x3_1 ||| (((x1 : Int32).toInt64 : Int64) <<< ((8 * ((gI u 5) &&& 7) : Int32).toInt64 &&& 63)))) 5) + 1)))))
set_option maxHeartbeats 4000000 in
set_option maxRecDepth 100000 in
theorem mX3_append (l : Launch) (D : va_G) (cy : CY) (ad : Nat → Nat) (x1 : Int32) (u : ST) (sz : Nat) {Q : ST → Prop} (hw : wX3_append x1 u Q) : Met l yX3_append (wM yX3_append cX3_append 5 none) (kRm 0) (kPc D (cW cy ad) cy u sz [.ref (ad 1), .int x1]) (kQv D (cW cy ad) cy (va_A (cW cy ad u) sz) Q) 0 0 (va_A (cW cy ad u) sz) := by
  refine kMet pn_X3_append (Nat.le_of_ble_eq_true rfl) (fun p e s m below meth c ls hsz C hr hlk hex h hl => ?_)
  have hl : lv_has ls 5 [(0, .ref (ad 1)), (1, .int x1)] := hl
  obtain ⟨⟨hx, hb, hml, hown, hts⟩, hK, hA⟩ := id C
  unfold wX3_append at hw
  have h : kH D (cW cy ad) (va_A (cW cy ad u) sz) s u s.heap [] := h
  refine lv_bipush (v := 8) hx hb dX3_append_0 (by decide) ?_
  refine lv_aload_n hx hb dX3_append_2 rfl (lv_at hl 0 rfl) ?_
  refine kget C h 1 rfl rfl inBX3 1 (Nat.le_of_ble_eq_true rfl) wi_fl_X3_15 rfl dX3_append_3 ?_
  refine lv_bipush (v := 7) hx hb dX3_append_6 (by decide) ?_
  refine lv_iand hx hb dX3_append_8 ?_
  refine lv_imul hx hb dX3_append_9 ?_
  refine lv_istore_n (lv' := [(2, .int (8 * ((gI u 5) &&& 7))), (0, .ref (ad 1)), (1, .int x1)]) hx hb dX3_append_10 rfl hl (by decide) rfl (fun ls hl => ?_)
  refine lv_aload_n hx hb dX3_append_11 rfl (lv_at hl 1 rfl) ?_
  refine kget C h 1 rfl rfl inBX3 0 (Nat.le_of_ble_eq_true rfl) wi_fl_X3_9 rfl dX3_append_12 ?_
  refine lv_aload_n hx hb dX3_append_15 rfl (lv_at hl 1 rfl) ?_
  refine kget C h 1 rfl rfl inBX3 1 (Nat.le_of_ble_eq_true rfl) wi_fl_X3_15 rfl dX3_append_16 ?_
  refine lv_iconst (v := 3) hx hb dX3_append_19 (by decide) ?_
  refine lv_ishr hx hb dX3_append_20 ?_
  obtain ⟨i_21, hw⟩ := hw
  refine klald C h 11 rfl i_21 dX3_append_21 ?_
  refine lv_ldc2 hx hb hown (hts _ wi_ld_X3_19) dX3_append_22 ?_
  refine lv_iload_n hx hb dX3_append_25 rfl (lv_at hl 0 rfl) ?_
  refine lv_lshl hx hb dX3_append_26 rfl ?_
  refine lv_ldc2 hx hb hown (hts _ wi_ld_X3_21) dX3_append_27 ?_
  refine lv_lxor hx hb dX3_append_30 ?_
  refine lv_land hx hb dX3_append_31 ?_
  refine lv_topl (fun x3_1 ex3_1 => ?_)
  have hw := hw x3_1 ex3_1
  refine lv_lstore_n (lv' := [(3, .long x3_1), (2, .int (8 * ((gI u 5) &&& 7))), (0, .ref (ad 1)), (1, .int x1)]) hx hb dX3_append_32 rfl hl (by decide) rfl (fun ls hl => ?_)
  refine lv_aload_n hx hb dX3_append_33 rfl (lv_at hl 2 rfl) ?_
  refine kget C h 1 rfl rfl inBX3 0 (Nat.le_of_ble_eq_true rfl) wi_fl_X3_9 rfl dX3_append_34 ?_
  refine lv_aload_n hx hb dX3_append_37 rfl (lv_at hl 2 rfl) ?_
  refine kget C h 1 rfl rfl inBX3 1 (Nat.le_of_ble_eq_true rfl) wi_fl_X3_15 rfl dX3_append_38 ?_
  refine lv_iconst (v := 3) hx hb dX3_append_41 (by decide) ?_
  refine lv_ishr hx hb dX3_append_42 ?_
  refine lv_lload_n hx hb dX3_append_43 rfl (lv_at hl 0 rfl) ?_
  refine lv_iload_n hx hb dX3_append_44 rfl (lv_at hl 3 rfl) ?_
  refine lv_i2l hx hb dX3_append_45 rfl ?_
  refine lv_iload_n hx hb dX3_append_46 rfl (lv_at hl 1 rfl) ?_
  refine lv_lshl hx hb dX3_append_47 rfl ?_
  refine lv_lor hx hb dX3_append_48 ?_
  obtain ⟨i_49, hw⟩ := hw
  refine klast C h 11 rfl i_49 (cS_L cy ad u ((gI u 5) >>> (3 &&& 31)).toNatClampNeg (x3_1 ||| (((x1 : Int32).toInt64 : Int64) <<< ((8 * ((gI u 5) &&& 7) : Int32).toInt64 &&& 63))) 0 (Nat.le_of_ble_eq_true rfl)) dX3_append_49 (fun H locs h => ?_)
  refine lv_aload_n hx hb dX3_append_50 rfl (lv_at hl 2 rfl) ?_
  refine lv_dup hx hb dX3_append_51 rfl ?_
  refine kget C h 1 rfl rfl inBX3 1 (Nat.le_of_ble_eq_true rfl) wi_fl_X3_15 rfl dX3_append_52 ?_
  refine lv_iconst (v := 1) hx hb dX3_append_55 (by decide) ?_
  refine lv_iadd hx hb dX3_append_56 ?_
  refine kput C h 1 rfl rfl inBX3 tyX3_ok nmX3 1 (Nat.le_of_ble_eq_true rfl) wi_fl_X3_15 rfl rfl rfl (Nat.le_of_ble_eq_true rfl) (cS_TP_1 cy ad (sB u 0 ((gI u 5) >>> (3 &&& 31)).toNatClampNeg (x3_1 ||| (((x1 : Int32).toInt64 : Int64) <<< ((8 * ((gI u 5) &&& 7) : Int32).toInt64 &&& 63)))) ((gI (sB u 0 ((gI u 5) >>> (3 &&& 31)).toNatClampNeg (x3_1 ||| (((x1 : Int32).toInt64 : Int64) <<< ((8 * ((gI u 5) &&& 7) : Int32).toInt64 &&& 63)))) 5) + 1)) dX3_append_57 (fun H locs h => ?_)
  exact kretV C hr hlk h hw dX3_append_60

def wX3_byteAt (x1 : Int32) (u : ST) (Q : Int32 → ST → Prop) : Prop :=
  (vp_in (x1 >>> (3 &&& 31)) 1000 ∧ Q (((((gB u 0 (x1 >>> (3 &&& 31)).toNatClampNeg : Int64).toUInt64 >>> ((8 * (x1 &&& 7) : Int32).toInt64.toUInt64 &&& Int64.toUInt64 63)).toInt64 : Int64).toInt32) &&& 255) u)
set_option maxHeartbeats 4000000 in
set_option maxRecDepth 100000 in
theorem mX3_byteAt (l : Launch) (D : va_G) (cy : CY) (ad : Nat → Nat) (x1 : Int32) (u : ST) (sz : Nat) {Q : Int32 → ST → Prop} (hw : wX3_byteAt x1 u Q) : Met l yX3_byteAt (wM yX3_byteAt cX3_byteAt 2 (some .int)) (kRm 0) (kPc D (cW cy ad) cy u sz [.ref (ad 1), .int x1]) (kQi D (cW cy ad) cy (va_A (cW cy ad u) sz) Q) 0 0 (va_A (cW cy ad u) sz) := by
  refine kMet pn_X3_byteAt (Nat.le_of_ble_eq_true rfl) (fun p e s m below meth c ls hsz C hr hlk hex h hl => ?_)
  have hl : lv_has ls 2 [(0, .ref (ad 1)), (1, .int x1)] := hl
  obtain ⟨⟨hx, hb, hml, hown, hts⟩, hK, hA⟩ := id C
  unfold wX3_byteAt at hw
  have h : kH D (cW cy ad) (va_A (cW cy ad u) sz) s u s.heap [] := h
  refine lv_aload_n hx hb dX3_byteAt_0 rfl (lv_at hl 0 rfl) ?_
  refine kget C h 1 rfl rfl inBX3 0 (Nat.le_of_ble_eq_true rfl) wi_fl_X3_9 rfl dX3_byteAt_1 ?_
  refine lv_iload_n hx hb dX3_byteAt_4 rfl (lv_at hl 1 rfl) ?_
  refine lv_iconst (v := 3) hx hb dX3_byteAt_5 (by decide) ?_
  refine lv_ishr hx hb dX3_byteAt_6 ?_
  obtain ⟨i_7, hw⟩ := hw
  refine klald C h 11 rfl i_7 dX3_byteAt_7 ?_
  refine lv_bipush (v := 8) hx hb dX3_byteAt_8 (by decide) ?_
  refine lv_iload_n hx hb dX3_byteAt_10 rfl (lv_at hl 1 rfl) ?_
  refine lv_bipush (v := 7) hx hb dX3_byteAt_11 (by decide) ?_
  refine lv_iand hx hb dX3_byteAt_13 ?_
  refine lv_imul hx hb dX3_byteAt_14 ?_
  refine lv_lushr hx hb dX3_byteAt_15 rfl ?_
  refine lv_l2i hx hb dX3_byteAt_16 rfl ?_
  refine lv_sipush (v := 255) hx hb dX3_byteAt_17 (by decide) ?_
  refine lv_iand hx hb dX3_byteAt_20 ?_
  exact kretI C hr hlk h hw dX3_byteAt_21

def wX3_fail (x1 : Int32) (x2 : Int32) (u : ST) (Q : Int32 → ST → Prop) : Prop :=
  Q 0 (sI (sI u 8 x1) 9 x2)
set_option maxHeartbeats 4000000 in
set_option maxRecDepth 100000 in
theorem mX3_fail (l : Launch) (D : va_G) (cy : CY) (ad : Nat → Nat) (x1 : Int32) (x2 : Int32) (u : ST) (sz : Nat) {Q : Int32 → ST → Prop} (hw : wX3_fail x1 x2 u Q) : Met l yX3_fail (wM yX3_fail cX3_fail 3 (some .boolean)) (kRm 0) (kPc D (cW cy ad) cy u sz [.ref (ad 1), .int x1, .int x2]) (kQi D (cW cy ad) cy (va_A (cW cy ad u) sz) Q) 0 0 (va_A (cW cy ad u) sz) := by
  refine kMet pn_X3_fail (Nat.le_of_ble_eq_true rfl) (fun p e s m below meth c ls hsz C hr hlk hex h hl => ?_)
  have hl : lv_has ls 3 [(0, .ref (ad 1)), (1, .int x1), (2, .int x2)] := hl
  obtain ⟨⟨hx, hb, hml, hown, hts⟩, hK, hA⟩ := id C
  unfold wX3_fail at hw
  have h : kH D (cW cy ad) (va_A (cW cy ad u) sz) s u s.heap [] := h
  refine lv_aload_n hx hb dX3_fail_0 rfl (lv_at hl 0 rfl) ?_
  refine lv_iload_n hx hb dX3_fail_1 rfl (lv_at hl 1 rfl) ?_
  refine kput C h 1 rfl rfl inBX3 tyX3_ok nmX3 5 (Nat.le_of_ble_eq_true rfl) wi_fl_X3_26 rfl rfl rfl (Nat.le_of_ble_eq_true rfl) (cS_TP_5 cy ad u x1) dX3_fail_2 (fun H locs h => ?_)
  refine lv_aload_n hx hb dX3_fail_5 rfl (lv_at hl 0 rfl) ?_
  refine lv_iload_n hx hb dX3_fail_6 rfl (lv_at hl 2 rfl) ?_
  refine kput C h 1 rfl rfl inBX3 tyX3_ok nmX3 6 (Nat.le_of_ble_eq_true rfl) wi_fl_X3_51 rfl rfl rfl (Nat.le_of_ble_eq_true rfl) (cS_TP_6 cy ad (sI u 8 x1) x2) dX3_fail_7 (fun H locs h => ?_)
  refine lv_iconst (v := 0) hx hb dX3_fail_10 (by decide) ?_
  exact kretZ C hr hlk h (Or.inl rfl) hw dX3_fail_11

def wX3_look_b46 (K0 : ST → Prop) (Q : Int32 → ST → Prop) (u : ST) : Prop :=
  K0  (sI u 6 ((gI u 6) + 1))
set_option maxHeartbeats 4000000 in
set_option maxRecDepth 100000 in
theorem kX3_look_b46 {p : Program} {l : Launch} {e : Env} {s : State} {m : MethodId} {args : Array Value} {below : List Frame} {meth : Method} {c : Code} {D : va_G} {cy : CY} {A : Nat → Prop} {ad : Nat → Nat} {K0 : ST → Prop} {Q : Int32 → ST → Prop} (C : kC p m c cX3_look 2 s args RX3 D cy A) (hr : meth.sig.returnType = some .int) (hlk : meth.locks = false) (g0 : ∀ (u : ST) (H : Heap) (locs : List Loc) (ls : Array Slot), K0  u → kH D (cW cy ad) A s u H locs → lv_has ls 2 [(0, .ref (ad 1))] → W p l e (kRm 1) s m args below meth c H locs 0 0 (MQ below (kQi D (cW cy ad) cy A Q) args s 0 0 A) (F0 m 0 ls [])) : ∀ (u : ST) (H : Heap) (locs : List Loc) (ls : Array Slot), wX3_look_b46 K0 Q  u → kH D (cW cy ad) A s u H locs → lv_has ls 2 [(0, .ref (ad 1))] → W p l e (kRm 1) s m args below meth c H locs 0 0 (MQ below (kQi D (cW cy ad) cy A Q) args s 0 0 A) (F0 m 46 ls []) := by
  intro  u H locs ls hw h hl
  obtain ⟨⟨hx, hb, hml, hown, hts⟩, hK, hA⟩ := id C
  unfold wX3_look_b46 at hw
  refine lv_aload_n hx hb dX3_look_46 rfl (lv_at hl 0 rfl) ?_
  refine lv_dup hx hb dX3_look_47 rfl ?_
  refine kget C h 1 rfl rfl inBX3 2 (Nat.le_of_ble_eq_true rfl) wi_fl_X3_23 rfl dX3_look_48 ?_
  refine lv_iconst (v := 1) hx hb dX3_look_51 (by decide) ?_
  refine lv_iadd hx hb dX3_look_52 ?_
  refine kput C h 1 rfl rfl inBX3 tyX3_ok nmX3 2 (Nat.le_of_ble_eq_true rfl) wi_fl_X3_23 rfl rfl rfl (Nat.le_of_ble_eq_true rfl) (cS_TP_2 cy ad u ((gI u 6) + 1)) dX3_look_53 (fun H locs h => ?_)
  refine lv_goto (tgt := 0) hx hb dX3_look_56 (by decide) ?_
  exact g0  _ _ _ _ hw h (lv_sub hl [0] rfl)
def wX3_look_B0 (K0 : ST → Prop) (Q : Int32 → ST → Prop) (u : ST) : Prop :=
  (((gI u 5) ≤ (gI u 6) → Q (-1) u) ∧ (¬ (gI u 5) ≤ (gI u 6) → wX3_byteAt (gI u 6) u (fun r_1 u_2 => ((r_1 = 9 → wX3_look_b46 K0 Q  u_2) ∧ (¬ r_1 = 9 → ((r_1 = 10 → wX3_look_b46 K0 Q  u_2) ∧ (¬ r_1 = 10 → ((r_1 = 13 → wX3_look_b46 K0 Q  u_2) ∧ (¬ r_1 = 13 → ((r_1 = 32 → wX3_look_b46 K0 Q  u_2) ∧ (¬ r_1 = 32 → Q r_1 u_2)))))))))))
set_option maxHeartbeats 4000000 in
set_option maxRecDepth 100000 in
theorem kX3_look_B0 {p : Program} {l : Launch} {e : Env} {s : State} {m : MethodId} {args : Array Value} {below : List Frame} {meth : Method} {c : Code} {D : va_G} {cy : CY} {A : Nat → Prop} {ad : Nat → Nat} {K0 : ST → Prop} {Q : Int32 → ST → Prop} (C : kC p m c cX3_look 2 s args RX3 D cy A) (hr : meth.sig.returnType = some .int) (hlk : meth.locks = false) (g0 : ∀ (u : ST) (H : Heap) (locs : List Loc) (ls : Array Slot), K0  u → kH D (cW cy ad) A s u H locs → lv_has ls 2 [(0, .ref (ad 1))] → W p l e (kRm 1) s m args below meth c H locs 0 0 (MQ below (kQi D (cW cy ad) cy A Q) args s 0 0 A) (F0 m 0 ls [])) : ∀ (u : ST) (H : Heap) (locs : List Loc) (ls : Array Slot), wX3_look_B0 K0 Q  u → kH D (cW cy ad) A s u H locs → lv_has ls 2 [(0, .ref (ad 1))] → W p l e (kRm 1) s m args below meth c H locs 0 0 (MQ below (kQi D (cW cy ad) cy A Q) args s 0 0 A) (F0 m 0 ls []) := by
  intro  u H locs ls hw h hl
  obtain ⟨⟨hx, hb, hml, hown, hts⟩, hK, hA⟩ := id C
  unfold wX3_look_B0 at hw
  refine lv_aload_n hx hb dX3_look_0 rfl (lv_at hl 0 rfl) ?_
  refine kget C h 1 rfl rfl inBX3 2 (Nat.le_of_ble_eq_true rfl) wi_fl_X3_23 rfl dX3_look_1 ?_
  refine lv_aload_n hx hb dX3_look_4 rfl (lv_at hl 0 rfl) ?_
  refine kget C h 1 rfl rfl inBX3 1 (Nat.le_of_ble_eq_true rfl) wi_fl_X3_15 rfl dX3_look_5 ?_
  refine lv_icmp_ge (tgt := 59) hx hb dX3_look_8 (by decide) (fun c_8 => ?_) (fun c_8 => ?_)
  · have hw := hw.1 c_8
    refine lv_iconst (v := (-1)) hx hb dX3_look_59 (by decide) ?_
    exact kretI C hr hlk h hw dX3_look_60
  · have hw := hw.2 c_8
    refine lv_aload_n hx hb dX3_look_11 rfl (lv_at hl 0 rfl) ?_
    refine lv_aload_n hx hb dX3_look_12 rfl (lv_at hl 0 rfl) ?_
    refine kget C h 1 rfl rfl inBX3 2 (Nat.le_of_ble_eq_true rfl) wi_fl_X3_23 rfl dX3_look_13 ?_
    refine kVi (As := [.int (gI u 6)]) (rest := []) C h (cwV 1 hts (gd_V wi_ml_X3_54 wi_im_X3_byteAt wi_se_X3_byteAt wi_in_X3 wi_co_X3_byteAt) rfl rfl rfl hd_X3_byteAt ⟨Nat.le_of_ble_eq_true rfl, Nat.le_of_ble_eq_true rfl⟩) 1 rfl rfl rfl (mX3_byteAt l D cy ad (gI u 6) _ _ hw) rfl hl.1 rfl (Nat.le_of_ble_eq_true rfl) ⟨Nat.zero_le _, Nat.zero_le _⟩ dX3_look_16 (fun r_1 u_2 H locs hw h => ?_)
    refine lv_istore_n (lv' := [(1, .int r_1), (0, .ref (ad 1))]) hx hb dX3_look_19 rfl hl (by decide) rfl (fun ls hl => ?_)
    refine lv_iload_n hx hb dX3_look_20 rfl (lv_at hl 0 rfl) ?_
    refine lv_bipush (v := 9) hx hb dX3_look_21 (by decide) ?_
    refine lv_icmp_eq (tgt := 46) hx hb dX3_look_23 (by decide) (fun c_23 => ?_) (fun c_23 => ?_)
    · have hw := hw.1 c_23
      exact kX3_look_b46 C hr hlk g0  _ _ _ _ hw h (lv_sub hl [1] rfl)
    · have hw := hw.2 c_23
      refine lv_iload_n hx hb dX3_look_26 rfl (lv_at hl 0 rfl) ?_
      refine lv_bipush (v := 10) hx hb dX3_look_27 (by decide) ?_
      refine lv_icmp_eq (tgt := 46) hx hb dX3_look_29 (by decide) (fun c_29 => ?_) (fun c_29 => ?_)
      · have hw := hw.1 c_29
        exact kX3_look_b46 C hr hlk g0  _ _ _ _ hw h (lv_sub hl [1] rfl)
      · have hw := hw.2 c_29
        refine lv_iload_n hx hb dX3_look_32 rfl (lv_at hl 0 rfl) ?_
        refine lv_bipush (v := 13) hx hb dX3_look_33 (by decide) ?_
        refine lv_icmp_eq (tgt := 46) hx hb dX3_look_35 (by decide) (fun c_35 => ?_) (fun c_35 => ?_)
        · have hw := hw.1 c_35
          exact kX3_look_b46 C hr hlk g0  _ _ _ _ hw h (lv_sub hl [1] rfl)
        · have hw := hw.2 c_35
          refine lv_iload_n hx hb dX3_look_38 rfl (lv_at hl 0 rfl) ?_
          refine lv_bipush (v := 32) hx hb dX3_look_39 (by decide) ?_
          refine lv_icmp_eq (tgt := 46) hx hb dX3_look_41 (by decide) (fun c_41 => ?_) (fun c_41 => ?_)
          · have hw := hw.1 c_41
            exact kX3_look_b46 C hr hlk g0  _ _ _ _ hw h (lv_sub hl [1] rfl)
          · have hw := hw.2 c_41
            refine lv_iload_n hx hb dX3_look_44 rfl (lv_at hl 0 rfl) ?_
            exact kretI C hr hlk h hw dX3_look_45
def wX3_look_L0 (Q : Int32 → ST → Prop) : Nat → ST → Prop
  | 0, _ => False
  | n + 1, u => wX3_look_B0 (wX3_look_L0 Q n) Q  u
set_option maxHeartbeats 4000000 in
theorem kX3_look_L0 {p : Program} {l : Launch} {e : Env} {s : State} {m : MethodId} {args : Array Value} {below : List Frame} {meth : Method} {c : Code} {D : va_G} {cy : CY} {A : Nat → Prop} {ad : Nat → Nat} {Q : Int32 → ST → Prop} (C : kC p m c cX3_look 2 s args RX3 D cy A) (hr : meth.sig.returnType = some .int) (hlk : meth.locks = false) : ∀ n : Nat, ∀ (u : ST) (H : Heap) (locs : List Loc) (ls : Array Slot), wX3_look_L0 Q n  u → kH D (cW cy ad) A s u H locs → lv_has ls 2 [(0, .ref (ad 1))] → W p l e (kRm 1) s m args below meth c H locs 0 0 (MQ below (kQi D (cW cy ad) cy A Q) args s 0 0 A) (F0 m 0 ls []) := by
  intro n
  induction n with
  | zero => intro  u H locs ls hw; exact False.elim hw
  | succ n ih => exact kX3_look_B0 C hr hlk ih
def wX3_look (u : ST) (Q : Int32 → ST → Prop) : Prop :=
  (∃ n : Nat, wX3_look_L0 Q n  u)
set_option maxHeartbeats 4000000 in
set_option maxRecDepth 100000 in
theorem mX3_look (l : Launch) (D : va_G) (cy : CY) (ad : Nat → Nat) (u : ST) (sz : Nat) {Q : Int32 → ST → Prop} (hw : wX3_look  u Q) : Met l yX3_look (wM yX3_look cX3_look 2 (some .int)) (kRm 1) (kPc D (cW cy ad) cy u sz [.ref (ad 1)]) (kQi D (cW cy ad) cy (va_A (cW cy ad u) sz) Q) 0 0 (va_A (cW cy ad u) sz) := by
  refine kMet pn_X3_look (Nat.le_of_ble_eq_true rfl) (fun p e s m below meth c ls hsz C hr hlk hex h hl => ?_)
  have hl : lv_has ls 2 [(0, .ref (ad 1))] := hl
  obtain ⟨⟨hx, hb, hml, hown, hts⟩, hK, hA⟩ := id C
  unfold wX3_look at hw
  have h : kH D (cW cy ad) (va_A (cW cy ad u) sz) s u s.heap [] := h
  obtain ⟨n, hw⟩ := hw
  exact kX3_look_L0 C hr hlk n  _ _ _ _ hw h (lv_sub hl [0] rfl)

def wX3_passByte (x1 : Int32) (u : ST) (Q : Int32 → ST → Prop) : Prop :=
  wX3_look  u (fun r_1 u_2 => ((r_1 = x1 → Q 1 (sI u_2 6 ((gI u_2 6) + 1))) ∧ (¬ r_1 = x1 → wX3_fail 1 (gI u_2 6) u_2 (fun r_3 u_4 => ((r_3 = 0 ∨ r_3 = 1) ∧ Q r_3 u_4)))))
set_option maxHeartbeats 4000000 in
set_option maxRecDepth 100000 in
theorem mX3_passByte (l : Launch) (D : va_G) (cy : CY) (ad : Nat → Nat) (x1 : Int32) (u : ST) (sz : Nat) {Q : Int32 → ST → Prop} (hw : wX3_passByte x1 u Q) : Met l yX3_passByte (wM yX3_passByte cX3_passByte 2 (some .boolean)) (kRm 2) (kPc D (cW cy ad) cy u sz [.ref (ad 1), .int x1]) (kQi D (cW cy ad) cy (va_A (cW cy ad u) sz) Q) 0 0 (va_A (cW cy ad u) sz) := by
  refine kMet pn_X3_passByte (Nat.le_of_ble_eq_true rfl) (fun p e s m below meth c ls hsz C hr hlk hex h hl => ?_)
  have hl : lv_has ls 2 [(0, .ref (ad 1)), (1, .int x1)] := hl
  obtain ⟨⟨hx, hb, hml, hown, hts⟩, hK, hA⟩ := id C
  unfold wX3_passByte at hw
  have h : kH D (cW cy ad) (va_A (cW cy ad u) sz) s u s.heap [] := h
  refine lv_aload_n hx hb dX3_passByte_0 rfl (lv_at hl 0 rfl) ?_
  refine kVi (As := []) (rest := []) C h (cwV 0 hts (gd_V wi_ml_X3_58 wi_im_X3_look wi_se_X3_look wi_in_X3 wi_co_X3_look) rfl rfl rfl hd_X3_look ⟨Nat.le_of_ble_eq_true rfl, Nat.le_of_ble_eq_true rfl⟩) 1 rfl rfl rfl (mX3_look l D cy ad  _ _ hw) rfl hl.1 rfl (Nat.le_of_ble_eq_true rfl) ⟨Nat.zero_le _, Nat.zero_le _⟩ dX3_passByte_1 (fun r_1 u_2 H locs hw h => ?_)
  refine lv_iload_n hx hb dX3_passByte_4 rfl (lv_at hl 1 rfl) ?_
  refine lv_icmp_eq (tgt := 18) hx hb dX3_passByte_5 (by decide) (fun c_5 => ?_) (fun c_5 => ?_)
  · have hw := hw.1 c_5
    refine lv_aload_n hx hb dX3_passByte_18 rfl (lv_at hl 0 rfl) ?_
    refine lv_dup hx hb dX3_passByte_19 rfl ?_
    refine kget C h 1 rfl rfl inBX3 2 (Nat.le_of_ble_eq_true rfl) wi_fl_X3_23 rfl dX3_passByte_20 ?_
    refine lv_iconst (v := 1) hx hb dX3_passByte_23 (by decide) ?_
    refine lv_iadd hx hb dX3_passByte_24 ?_
    refine kput C h 1 rfl rfl inBX3 tyX3_ok nmX3 2 (Nat.le_of_ble_eq_true rfl) wi_fl_X3_23 rfl rfl rfl (Nat.le_of_ble_eq_true rfl) (cS_TP_2 cy ad u_2 ((gI u_2 6) + 1)) dX3_passByte_25 (fun H locs h => ?_)
    refine lv_iconst (v := 1) hx hb dX3_passByte_28 (by decide) ?_
    exact kretZ C hr hlk h (Or.inr rfl) hw dX3_passByte_29
  · have hw := hw.2 c_5
    refine lv_aload_n hx hb dX3_passByte_8 rfl (lv_at hl 0 rfl) ?_
    refine lv_iconst (v := 1) hx hb dX3_passByte_9 (by decide) ?_
    refine lv_aload_n hx hb dX3_passByte_10 rfl (lv_at hl 0 rfl) ?_
    refine kget C h 1 rfl rfl inBX3 2 (Nat.le_of_ble_eq_true rfl) wi_fl_X3_23 rfl dX3_passByte_11 ?_
    refine kVi (As := [.int 1, .int (gI u_2 6)]) (rest := []) C h (cwV 2 hts (gd_V wi_ml_X3_62 wi_im_X3_fail wi_se_X3_fail wi_in_X3 wi_co_X3_fail) rfl rfl rfl hd_X3_fail ⟨Nat.le_of_ble_eq_true rfl, Nat.le_of_ble_eq_true rfl⟩) 1 rfl rfl rfl (mX3_fail l D cy ad 1 (gI u_2 6) _ _ hw) rfl hl.1 rfl (Nat.le_of_ble_eq_true rfl) ⟨Nat.zero_le _, Nat.zero_le _⟩ dX3_passByte_14 (fun r_3 u_4 H locs hw h => ?_)
    exact kretZ C hr hlk h hw.1 hw.2 dX3_passByte_17

def wX3_passName_b17 (Q : Int32 → ST → Prop) (u : ST) : Prop :=
  wX3_fail 1 (gI u 6) u (fun r_1 u_2 => ((r_1 = 0 ∨ r_1 = 1) ∧ Q r_1 u_2))
set_option maxHeartbeats 4000000 in
set_option maxRecDepth 100000 in
theorem kX3_passName_b17 {p : Program} {l : Launch} {e : Env} {s : State} {m : MethodId} {args : Array Value} {below : List Frame} {meth : Method} {c : Code} {D : va_G} {cy : CY} {A : Nat → Prop} {ad : Nat → Nat} {Q : Int32 → ST → Prop} (C : kC p m c cX3_passName 2 s args RX3 D cy A) (hr : meth.sig.returnType = some .boolean) (hlk : meth.locks = false) : ∀ (u : ST) (H : Heap) (locs : List Loc) (ls : Array Slot), wX3_passName_b17 Q  u → kH D (cW cy ad) A s u H locs → lv_has ls 2 [(0, .ref (ad 1))] → W p l e (kRm 2) s m args below meth c H locs 0 0 (MQ below (kQi D (cW cy ad) cy A Q) args s 0 0 A) (F0 m 17 ls []) := by
  intro  u H locs ls hw h hl
  obtain ⟨⟨hx, hb, hml, hown, hts⟩, hK, hA⟩ := id C
  unfold wX3_passName_b17 at hw
  refine lv_aload_n hx hb dX3_passName_17 rfl (lv_at hl 0 rfl) ?_
  refine lv_iconst (v := 1) hx hb dX3_passName_18 (by decide) ?_
  refine lv_aload_n hx hb dX3_passName_19 rfl (lv_at hl 0 rfl) ?_
  refine kget C h 1 rfl rfl inBX3 2 (Nat.le_of_ble_eq_true rfl) wi_fl_X3_23 rfl dX3_passName_20 ?_
  refine kVi (As := [.int 1, .int (gI u 6)]) (rest := []) C h (cwV 2 hts (gd_V wi_ml_X3_62 wi_im_X3_fail wi_se_X3_fail wi_in_X3 wi_co_X3_fail) rfl rfl rfl hd_X3_fail ⟨Nat.le_of_ble_eq_true rfl, Nat.le_of_ble_eq_true rfl⟩) 1 rfl rfl rfl (mX3_fail l D cy ad 1 (gI u 6) _ _ hw) rfl hl.1 rfl (Nat.le_of_ble_eq_true rfl) ⟨Nat.zero_le _, Nat.zero_le _⟩ dX3_passName_23 (fun r_1 u_2 H locs hw h => ?_)
  exact kretZ C hr hlk h hw.1 hw.2 dX3_passName_26
def wX3_passName_b113 (K40 : ST → Prop) (Q : Int32 → ST → Prop) (u : ST) : Prop :=
  K40  (sI u 6 ((gI u 6) + 1))
set_option maxHeartbeats 4000000 in
set_option maxRecDepth 100000 in
theorem kX3_passName_b113 {p : Program} {l : Launch} {e : Env} {s : State} {m : MethodId} {args : Array Value} {below : List Frame} {meth : Method} {c : Code} {D : va_G} {cy : CY} {A : Nat → Prop} {ad : Nat → Nat} {K40 : ST → Prop} {Q : Int32 → ST → Prop} (C : kC p m c cX3_passName 2 s args RX3 D cy A) (hr : meth.sig.returnType = some .boolean) (hlk : meth.locks = false) (g40 : ∀ (u : ST) (H : Heap) (locs : List Loc) (ls : Array Slot), K40  u → kH D (cW cy ad) A s u H locs → lv_has ls 2 [(0, .ref (ad 1))] → W p l e (kRm 2) s m args below meth c H locs 0 0 (MQ below (kQi D (cW cy ad) cy A Q) args s 0 0 A) (F0 m 40 ls [])) : ∀ (u : ST) (H : Heap) (locs : List Loc) (ls : Array Slot), wX3_passName_b113 K40 Q  u → kH D (cW cy ad) A s u H locs → lv_has ls 2 [(0, .ref (ad 1))] → W p l e (kRm 2) s m args below meth c H locs 0 0 (MQ below (kQi D (cW cy ad) cy A Q) args s 0 0 A) (F0 m 113 ls []) := by
  intro  u H locs ls hw h hl
  obtain ⟨⟨hx, hb, hml, hown, hts⟩, hK, hA⟩ := id C
  unfold wX3_passName_b113 at hw
  refine lv_aload_n hx hb dX3_passName_113 rfl (lv_at hl 0 rfl) ?_
  refine lv_dup hx hb dX3_passName_114 rfl ?_
  refine kget C h 1 rfl rfl inBX3 2 (Nat.le_of_ble_eq_true rfl) wi_fl_X3_23 rfl dX3_passName_115 ?_
  refine lv_iconst (v := 1) hx hb dX3_passName_118 (by decide) ?_
  refine lv_iadd hx hb dX3_passName_119 ?_
  refine kput C h 1 rfl rfl inBX3 tyX3_ok nmX3 2 (Nat.le_of_ble_eq_true rfl) wi_fl_X3_23 rfl rfl rfl (Nat.le_of_ble_eq_true rfl) (cS_TP_2 cy ad u ((gI u 6) + 1)) dX3_passName_120 (fun H locs h => ?_)
  refine lv_goto (tgt := 40) hx hb dX3_passName_123 (by decide) ?_
  exact g40  _ _ _ _ hw h (lv_sub hl [0] rfl)
def wX3_passName_b126 (Q : Int32 → ST → Prop) (u : ST) : Prop :=
  ((((gI u 6) - (gI u 7)) ≤ 10 → Q 1 u) ∧ (¬ ((gI u 6) - (gI u 7)) ≤ 10 → wX3_fail 1 (gI u 7) u (fun r_1 u_2 => ((r_1 = 0 → Q 0 u_2) ∧ (¬ r_1 = 0 → Q 1 u_2)))))
set_option maxHeartbeats 4000000 in
set_option maxRecDepth 100000 in
theorem kX3_passName_b126 {p : Program} {l : Launch} {e : Env} {s : State} {m : MethodId} {args : Array Value} {below : List Frame} {meth : Method} {c : Code} {D : va_G} {cy : CY} {A : Nat → Prop} {ad : Nat → Nat} {Q : Int32 → ST → Prop} (C : kC p m c cX3_passName 2 s args RX3 D cy A) (hr : meth.sig.returnType = some .boolean) (hlk : meth.locks = false) : ∀ (u : ST) (H : Heap) (locs : List Loc) (ls : Array Slot), wX3_passName_b126 Q  u → kH D (cW cy ad) A s u H locs → lv_has ls 2 [(0, .ref (ad 1))] → W p l e (kRm 2) s m args below meth c H locs 0 0 (MQ below (kQi D (cW cy ad) cy A Q) args s 0 0 A) (F0 m 126 ls []) := by
  intro  u H locs ls hw h hl
  obtain ⟨⟨hx, hb, hml, hown, hts⟩, hK, hA⟩ := id C
  unfold wX3_passName_b126 at hw
  refine lv_aload_n hx hb dX3_passName_126 rfl (lv_at hl 0 rfl) ?_
  refine kget C h 1 rfl rfl inBX3 2 (Nat.le_of_ble_eq_true rfl) wi_fl_X3_23 rfl dX3_passName_127 ?_
  refine lv_aload_n hx hb dX3_passName_130 rfl (lv_at hl 0 rfl) ?_
  refine kget C h 1 rfl rfl inBX3 3 (Nat.le_of_ble_eq_true rfl) wi_fl_X3_66 rfl dX3_passName_131 ?_
  refine lv_isub hx hb dX3_passName_134 ?_
  refine lv_bipush (v := 10) hx hb dX3_passName_135 (by decide) ?_
  refine lv_icmp_le (tgt := 152) hx hb dX3_passName_137 (by decide) (fun c_137 => ?_) (fun c_137 => ?_)
  · have hw := hw.1 c_137
    refine lv_iconst (v := 1) hx hb dX3_passName_152 (by decide) ?_
    refine lv_goto (tgt := 157) hx hb dX3_passName_153 (by decide) ?_
    exact kretZ C hr hlk h (Or.inr rfl) hw dX3_passName_157
  · have hw := hw.2 c_137
    refine lv_aload_n hx hb dX3_passName_140 rfl (lv_at hl 0 rfl) ?_
    refine lv_iconst (v := 1) hx hb dX3_passName_141 (by decide) ?_
    refine lv_aload_n hx hb dX3_passName_142 rfl (lv_at hl 0 rfl) ?_
    refine kget C h 1 rfl rfl inBX3 3 (Nat.le_of_ble_eq_true rfl) wi_fl_X3_66 rfl dX3_passName_143 ?_
    refine kVi (As := [.int 1, .int (gI u 7)]) (rest := []) C h (cwV 2 hts (gd_V wi_ml_X3_62 wi_im_X3_fail wi_se_X3_fail wi_in_X3 wi_co_X3_fail) rfl rfl rfl hd_X3_fail ⟨Nat.le_of_ble_eq_true rfl, Nat.le_of_ble_eq_true rfl⟩) 1 rfl rfl rfl (mX3_fail l D cy ad 1 (gI u 7) _ _ hw) rfl hl.1 rfl (Nat.le_of_ble_eq_true rfl) ⟨Nat.zero_le _, Nat.zero_le _⟩ dX3_passName_146 (fun r_1 u_2 H locs hw h => ?_)
    refine lv_if_eq (tgt := 156) hx hb dX3_passName_149 (by decide) (fun c_149 => ?_) (fun c_149 => ?_)
    · have hw := hw.1 c_149
      refine lv_iconst (v := 0) hx hb dX3_passName_156 (by decide) ?_
      exact kretZ C hr hlk h (Or.inl rfl) hw dX3_passName_157
    · have hw := hw.2 c_149
      refine lv_iconst (v := 1) hx hb dX3_passName_152 (by decide) ?_
      refine lv_goto (tgt := 157) hx hb dX3_passName_153 (by decide) ?_
      exact kretZ C hr hlk h (Or.inr rfl) hw dX3_passName_157
def wX3_passName_B40 (K40 : ST → Prop) (Q : Int32 → ST → Prop) (u : ST) : Prop :=
  (((gI u 5) ≤ (gI u 6) → wX3_passName_b126 Q  u) ∧ (¬ (gI u 5) ≤ (gI u 6) → wX3_byteAt (gI u 6) u (fun r_1 u_2 => wX1_letterOf r_1 u_2 (fun r_3 u_4 => ((r_3 = 0 → wX3_passName_b126 Q  u_4) ∧ (¬ r_3 = 0 → ((10 ≤ ((gI u_4 6) - (gI u_4 7)) → wX3_passName_b113 K40 Q  u_4) ∧ (¬ 10 ≤ ((gI u_4 6) - (gI u_4 7)) → wX3_byteAt (gI u_4 6) u_4 (fun r_5 u_6 => wX1_letterOf r_5 u_6 (fun r_7 u_8 => wX3_passName_b113 K40 Q  (sJ u_8 0 ((gJ u_4 0) ||| (((r_7 : Int32).toInt64 : Int64) <<< ((6 * ((gI u_8 6) - (gI u_8 7)) : Int32).toInt64 &&& 63))))))))))))))
set_option maxHeartbeats 4000000 in
set_option maxRecDepth 100000 in
theorem kX3_passName_B40 {p : Program} {l : Launch} {e : Env} {s : State} {m : MethodId} {args : Array Value} {below : List Frame} {meth : Method} {c : Code} {D : va_G} {cy : CY} {A : Nat → Prop} {ad : Nat → Nat} {K40 : ST → Prop} {Q : Int32 → ST → Prop} (C : kC p m c cX3_passName 2 s args RX3 D cy A) (hr : meth.sig.returnType = some .boolean) (hlk : meth.locks = false) (g40 : ∀ (u : ST) (H : Heap) (locs : List Loc) (ls : Array Slot), K40  u → kH D (cW cy ad) A s u H locs → lv_has ls 2 [(0, .ref (ad 1))] → W p l e (kRm 2) s m args below meth c H locs 0 0 (MQ below (kQi D (cW cy ad) cy A Q) args s 0 0 A) (F0 m 40 ls [])) : ∀ (u : ST) (H : Heap) (locs : List Loc) (ls : Array Slot), wX3_passName_B40 K40 Q  u → kH D (cW cy ad) A s u H locs → lv_has ls 2 [(0, .ref (ad 1))] → W p l e (kRm 2) s m args below meth c H locs 0 0 (MQ below (kQi D (cW cy ad) cy A Q) args s 0 0 A) (F0 m 40 ls []) := by
  intro  u H locs ls hw h hl
  obtain ⟨⟨hx, hb, hml, hown, hts⟩, hK, hA⟩ := id C
  unfold wX3_passName_B40 at hw
  refine lv_aload_n hx hb dX3_passName_40 rfl (lv_at hl 0 rfl) ?_
  refine kget C h 1 rfl rfl inBX3 2 (Nat.le_of_ble_eq_true rfl) wi_fl_X3_23 rfl dX3_passName_41 ?_
  refine lv_aload_n hx hb dX3_passName_44 rfl (lv_at hl 0 rfl) ?_
  refine kget C h 1 rfl rfl inBX3 1 (Nat.le_of_ble_eq_true rfl) wi_fl_X3_15 rfl dX3_passName_45 ?_
  refine lv_icmp_ge (tgt := 126) hx hb dX3_passName_48 (by decide) (fun c_48 => ?_) (fun c_48 => ?_)
  · have hw := hw.1 c_48
    exact kX3_passName_b126 C hr hlk  _ _ _ _ hw h (lv_sub hl [0] rfl)
  · have hw := hw.2 c_48
    refine lv_aload_n hx hb dX3_passName_51 rfl (lv_at hl 0 rfl) ?_
    refine lv_aload_n hx hb dX3_passName_52 rfl (lv_at hl 0 rfl) ?_
    refine kget C h 1 rfl rfl inBX3 2 (Nat.le_of_ble_eq_true rfl) wi_fl_X3_23 rfl dX3_passName_53 ?_
    refine kVi (As := [.int (gI u 6)]) (rest := []) C h (cwV 1 hts (gd_V wi_ml_X3_54 wi_im_X3_byteAt wi_se_X3_byteAt wi_in_X3 wi_co_X3_byteAt) rfl rfl rfl hd_X3_byteAt ⟨Nat.le_of_ble_eq_true rfl, Nat.le_of_ble_eq_true rfl⟩) 1 rfl rfl rfl (mX3_byteAt l D cy ad (gI u 6) _ _ hw) rfl hl.1 rfl (Nat.le_of_ble_eq_true rfl) ⟨Nat.zero_le _, Nat.zero_le _⟩ dX3_passName_56 (fun r_1 u_2 H locs hw h => ?_)
    refine kSi (As := [.int r_1]) (rest := []) C h (va_cwS 1 hts (gd_S wi_ml_X3_73 wi_st_X1_letterOf wi_in_X1 wi_co_X1_letterOf) rfl rfl rfl hd_X1_letterOf.2 ⟨Nat.le_of_ble_eq_true rfl, Nat.le_of_ble_eq_true rfl⟩) (mX1_letterOf l D cy ad r_1 _ _ hw) rfl hl.1 rfl (Nat.le_of_ble_eq_true rfl) ⟨Nat.zero_le _, Nat.zero_le _⟩ dX3_passName_59 (fun r_3 u_4 H locs hw h => ?_)
    refine lv_if_eq (tgt := 126) hx hb dX3_passName_62 (by decide) (fun c_62 => ?_) (fun c_62 => ?_)
    · have hw := hw.1 c_62
      exact kX3_passName_b126 C hr hlk  _ _ _ _ hw h (lv_sub hl [0] rfl)
    · have hw := hw.2 c_62
      refine lv_aload_n hx hb dX3_passName_65 rfl (lv_at hl 0 rfl) ?_
      refine kget C h 1 rfl rfl inBX3 2 (Nat.le_of_ble_eq_true rfl) wi_fl_X3_23 rfl dX3_passName_66 ?_
      refine lv_aload_n hx hb dX3_passName_69 rfl (lv_at hl 0 rfl) ?_
      refine kget C h 1 rfl rfl inBX3 3 (Nat.le_of_ble_eq_true rfl) wi_fl_X3_66 rfl dX3_passName_70 ?_
      refine lv_isub hx hb dX3_passName_73 ?_
      refine lv_bipush (v := 10) hx hb dX3_passName_74 (by decide) ?_
      refine lv_icmp_ge (tgt := 113) hx hb dX3_passName_76 (by decide) (fun c_76 => ?_) (fun c_76 => ?_)
      · have hw := hw.1 c_76
        exact kX3_passName_b113 C hr hlk g40  _ _ _ _ hw h (lv_sub hl [0] rfl)
      · have hw := hw.2 c_76
        refine lv_aload_n hx hb dX3_passName_79 rfl (lv_at hl 0 rfl) ?_
        refine lv_dup hx hb dX3_passName_80 rfl ?_
        refine kget C h 1 rfl rfl inBX3 4 (Nat.le_of_ble_eq_true rfl) wi_fl_X3_69 rfl dX3_passName_81 ?_
        refine lv_aload_n hx hb dX3_passName_84 rfl (lv_at hl 0 rfl) ?_
        refine lv_aload_n hx hb dX3_passName_85 rfl (lv_at hl 0 rfl) ?_
        refine kget C h 1 rfl rfl inBX3 2 (Nat.le_of_ble_eq_true rfl) wi_fl_X3_23 rfl dX3_passName_86 ?_
        refine kVi (As := [.int (gI u_4 6)]) (rest := [.long (gJ u_4 0), .ref (ad 1)]) C h (cwV 1 hts (gd_V wi_ml_X3_54 wi_im_X3_byteAt wi_se_X3_byteAt wi_in_X3 wi_co_X3_byteAt) rfl rfl rfl hd_X3_byteAt ⟨Nat.le_of_ble_eq_true rfl, Nat.le_of_ble_eq_true rfl⟩) 1 rfl rfl rfl (mX3_byteAt l D cy ad (gI u_4 6) _ _ hw) rfl hl.1 rfl (Nat.le_of_ble_eq_true rfl) ⟨Nat.zero_le _, Nat.zero_le _⟩ dX3_passName_89 (fun r_5 u_6 H locs hw h => ?_)
        refine kSi (As := [.int r_5]) (rest := [.long (gJ u_4 0), .ref (ad 1)]) C h (va_cwS 1 hts (gd_S wi_ml_X3_73 wi_st_X1_letterOf wi_in_X1 wi_co_X1_letterOf) rfl rfl rfl hd_X1_letterOf.2 ⟨Nat.le_of_ble_eq_true rfl, Nat.le_of_ble_eq_true rfl⟩) (mX1_letterOf l D cy ad r_5 _ _ hw) rfl hl.1 rfl (Nat.le_of_ble_eq_true rfl) ⟨Nat.zero_le _, Nat.zero_le _⟩ dX3_passName_92 (fun r_7 u_8 H locs hw h => ?_)
        refine lv_i2l hx hb dX3_passName_95 rfl ?_
        refine lv_bipush (v := 6) hx hb dX3_passName_96 (by decide) ?_
        refine lv_aload_n hx hb dX3_passName_98 rfl (lv_at hl 0 rfl) ?_
        refine kget C h 1 rfl rfl inBX3 2 (Nat.le_of_ble_eq_true rfl) wi_fl_X3_23 rfl dX3_passName_99 ?_
        refine lv_aload_n hx hb dX3_passName_102 rfl (lv_at hl 0 rfl) ?_
        refine kget C h 1 rfl rfl inBX3 3 (Nat.le_of_ble_eq_true rfl) wi_fl_X3_66 rfl dX3_passName_103 ?_
        refine lv_isub hx hb dX3_passName_106 ?_
        refine lv_imul hx hb dX3_passName_107 ?_
        refine lv_lshl hx hb dX3_passName_108 rfl ?_
        refine lv_lor hx hb dX3_passName_109 ?_
        refine kput C h 1 rfl rfl inBX3 tyX3_ok nmX3 4 (Nat.le_of_ble_eq_true rfl) wi_fl_X3_69 rfl rfl rfl (Nat.le_of_ble_eq_true rfl) (cS_TP_4 cy ad u_8 ((gJ u_4 0) ||| (((r_7 : Int32).toInt64 : Int64) <<< ((6 * ((gI u_8 6) - (gI u_8 7)) : Int32).toInt64 &&& 63)))) dX3_passName_110 (fun H locs h => ?_)
        exact kX3_passName_b113 C hr hlk g40  _ _ _ _ hw h (lv_sub hl [0] rfl)
def wX3_passName_L40 (Q : Int32 → ST → Prop) : Nat → ST → Prop
  | 0, _ => False
  | n + 1, u => wX3_passName_B40 (wX3_passName_L40 Q n) Q  u
set_option maxHeartbeats 4000000 in
theorem kX3_passName_L40 {p : Program} {l : Launch} {e : Env} {s : State} {m : MethodId} {args : Array Value} {below : List Frame} {meth : Method} {c : Code} {D : va_G} {cy : CY} {A : Nat → Prop} {ad : Nat → Nat} {Q : Int32 → ST → Prop} (C : kC p m c cX3_passName 2 s args RX3 D cy A) (hr : meth.sig.returnType = some .boolean) (hlk : meth.locks = false) : ∀ n : Nat, ∀ (u : ST) (H : Heap) (locs : List Loc) (ls : Array Slot), wX3_passName_L40 Q n  u → kH D (cW cy ad) A s u H locs → lv_has ls 2 [(0, .ref (ad 1))] → W p l e (kRm 2) s m args below meth c H locs 0 0 (MQ below (kQi D (cW cy ad) cy A Q) args s 0 0 A) (F0 m 40 ls []) := by
  intro n
  induction n with
  | zero => intro  u H locs ls hw; exact False.elim hw
  | succ n ih => exact kX3_passName_B40 C hr hlk ih
def wX3_passName (u : ST) (Q : Int32 → ST → Prop) : Prop :=
  wX3_look  u (fun r_1 u_2 => ((r_1 < 97 → wX3_passName_b17 Q  u_2) ∧ (¬ r_1 < 97 → ((r_1 ≤ 122 → (∃ n : Nat, wX3_passName_L40 Q n  (sJ (sI u_2 7 (gI u_2 6)) 0 0))) ∧ (¬ r_1 ≤ 122 → wX3_passName_b17 Q  u_2)))))
set_option maxHeartbeats 4000000 in
set_option maxRecDepth 100000 in
theorem mX3_passName (l : Launch) (D : va_G) (cy : CY) (ad : Nat → Nat) (u : ST) (sz : Nat) {Q : Int32 → ST → Prop} (hw : wX3_passName  u Q) : Met l yX3_passName (wM yX3_passName cX3_passName 2 (some .boolean)) (kRm 2) (kPc D (cW cy ad) cy u sz [.ref (ad 1)]) (kQi D (cW cy ad) cy (va_A (cW cy ad u) sz) Q) 0 0 (va_A (cW cy ad u) sz) := by
  refine kMet pn_X3_passName (Nat.le_of_ble_eq_true rfl) (fun p e s m below meth c ls hsz C hr hlk hex h hl => ?_)
  have hl : lv_has ls 2 [(0, .ref (ad 1))] := hl
  obtain ⟨⟨hx, hb, hml, hown, hts⟩, hK, hA⟩ := id C
  unfold wX3_passName at hw
  have h : kH D (cW cy ad) (va_A (cW cy ad u) sz) s u s.heap [] := h
  refine lv_aload_n hx hb dX3_passName_0 rfl (lv_at hl 0 rfl) ?_
  refine kVi (As := []) (rest := []) C h (cwV 0 hts (gd_V wi_ml_X3_58 wi_im_X3_look wi_se_X3_look wi_in_X3 wi_co_X3_look) rfl rfl rfl hd_X3_look ⟨Nat.le_of_ble_eq_true rfl, Nat.le_of_ble_eq_true rfl⟩) 1 rfl rfl rfl (mX3_look l D cy ad  _ _ hw) rfl hl.1 rfl (Nat.le_of_ble_eq_true rfl) ⟨Nat.zero_le _, Nat.zero_le _⟩ dX3_passName_1 (fun r_1 u_2 H locs hw h => ?_)
  refine lv_istore_n (lv' := [(1, .int r_1), (0, .ref (ad 1))]) hx hb dX3_passName_4 rfl hl (by decide) rfl (fun ls hl => ?_)
  refine lv_iload_n hx hb dX3_passName_5 rfl (lv_at hl 0 rfl) ?_
  refine lv_bipush (v := 97) hx hb dX3_passName_6 (by decide) ?_
  refine lv_icmp_lt (tgt := 17) hx hb dX3_passName_8 (by decide) (fun c_8 => ?_) (fun c_8 => ?_)
  · have hw := hw.1 c_8
    exact kX3_passName_b17 C hr hlk  _ _ _ _ hw h (lv_sub hl [1] rfl)
  · have hw := hw.2 c_8
    refine lv_iload_n hx hb dX3_passName_11 rfl (lv_at hl 0 rfl) ?_
    refine lv_bipush (v := 122) hx hb dX3_passName_12 (by decide) ?_
    refine lv_icmp_le (tgt := 27) hx hb dX3_passName_14 (by decide) (fun c_14 => ?_) (fun c_14 => ?_)
    · have hw := hw.1 c_14
      refine lv_aload_n hx hb dX3_passName_27 rfl (lv_at hl 1 rfl) ?_
      refine lv_aload_n hx hb dX3_passName_28 rfl (lv_at hl 1 rfl) ?_
      refine kget C h 1 rfl rfl inBX3 2 (Nat.le_of_ble_eq_true rfl) wi_fl_X3_23 rfl dX3_passName_29 ?_
      refine kput C h 1 rfl rfl inBX3 tyX3_ok nmX3 3 (Nat.le_of_ble_eq_true rfl) wi_fl_X3_66 rfl rfl rfl (Nat.le_of_ble_eq_true rfl) (cS_TP_3 cy ad u_2 (gI u_2 6)) dX3_passName_32 (fun H locs h => ?_)
      refine lv_aload_n hx hb dX3_passName_35 rfl (lv_at hl 1 rfl) ?_
      refine lv_lconst (v := 0) hx hb dX3_passName_36 rfl ?_
      refine kput C h 1 rfl rfl inBX3 tyX3_ok nmX3 4 (Nat.le_of_ble_eq_true rfl) wi_fl_X3_69 rfl rfl rfl (Nat.le_of_ble_eq_true rfl) (cS_TP_4 cy ad (sI u_2 7 (gI u_2 6)) 0) dX3_passName_37 (fun H locs h => ?_)
      obtain ⟨n, hw⟩ := hw
      exact kX3_passName_L40 C hr hlk n  _ _ _ _ hw h (lv_sub hl [1] rfl)
    · have hw := hw.2 c_14
      exact kX3_passName_b17 C hr hlk  _ _ _ _ hw h (lv_sub hl [1] rfl)

def wX3_isWord (y1 : Int64) (u : ST) (Q : Int32 → ST → Prop) : Prop :=
  (((lg_cmp (gJ u 0) y1) = 0 → Q 1 u) ∧ (¬ (lg_cmp (gJ u 0) y1) = 0 → wX3_fail 1 (gI u 7) u (fun r_1 u_2 => ((r_1 = 0 → Q 0 u_2) ∧ (¬ r_1 = 0 → Q 1 u_2)))))
set_option maxHeartbeats 4000000 in
set_option maxRecDepth 100000 in
theorem mX3_isWord (l : Launch) (D : va_G) (cy : CY) (ad : Nat → Nat) (y1 : Int64) (u : ST) (sz : Nat) {Q : Int32 → ST → Prop} (hw : wX3_isWord y1 u Q) : Met l yX3_isWord (wM yX3_isWord cX3_isWord 3 (some .boolean)) (kRm 1) (kPc D (cW cy ad) cy u sz [.ref (ad 1), .long y1]) (kQi D (cW cy ad) cy (va_A (cW cy ad u) sz) Q) 0 0 (va_A (cW cy ad u) sz) := by
  refine kMet pn_X3_isWord (Nat.le_of_ble_eq_true rfl) (fun p e s m below meth c ls hsz C hr hlk hex h hl => ?_)
  have hl : lv_has ls 3 [(0, .ref (ad 1)), (1, .long y1)] := hl
  obtain ⟨⟨hx, hb, hml, hown, hts⟩, hK, hA⟩ := id C
  unfold wX3_isWord at hw
  have h : kH D (cW cy ad) (va_A (cW cy ad u) sz) s u s.heap [] := h
  refine lv_aload_n hx hb dX3_isWord_0 rfl (lv_at hl 0 rfl) ?_
  refine kget C h 1 rfl rfl inBX3 4 (Nat.le_of_ble_eq_true rfl) wi_fl_X3_69 rfl dX3_isWord_1 ?_
  refine lv_lload_n hx hb dX3_isWord_4 rfl (lv_at hl 1 rfl) ?_
  refine W.lcmp hx hb dX3_isWord_5 ?_
  refine lv_if_eq (tgt := 21) hx hb dX3_isWord_6 (by decide) (fun c_6 => ?_) (fun c_6 => ?_)
  · have hw := hw.1 c_6
    refine lv_iconst (v := 1) hx hb dX3_isWord_21 (by decide) ?_
    refine lv_goto (tgt := 26) hx hb dX3_isWord_22 (by decide) ?_
    exact kretZ C hr hlk h (Or.inr rfl) hw dX3_isWord_26
  · have hw := hw.2 c_6
    refine lv_aload_n hx hb dX3_isWord_9 rfl (lv_at hl 0 rfl) ?_
    refine lv_iconst (v := 1) hx hb dX3_isWord_10 (by decide) ?_
    refine lv_aload_n hx hb dX3_isWord_11 rfl (lv_at hl 0 rfl) ?_
    refine kget C h 1 rfl rfl inBX3 3 (Nat.le_of_ble_eq_true rfl) wi_fl_X3_66 rfl dX3_isWord_12 ?_
    refine kVi (As := [.int 1, .int (gI u 7)]) (rest := []) C h (cwV 2 hts (gd_V wi_ml_X3_62 wi_im_X3_fail wi_se_X3_fail wi_in_X3 wi_co_X3_fail) rfl rfl rfl hd_X3_fail ⟨Nat.le_of_ble_eq_true rfl, Nat.le_of_ble_eq_true rfl⟩) 1 rfl rfl rfl (mX3_fail l D cy ad 1 (gI u 7) _ _ hw) rfl hl.1 rfl (Nat.le_of_ble_eq_true rfl) ⟨Nat.zero_le _, Nat.zero_le _⟩ dX3_isWord_15 (fun r_1 u_2 H locs hw h => ?_)
    refine lv_if_eq (tgt := 25) hx hb dX3_isWord_18 (by decide) (fun c_18 => ?_) (fun c_18 => ?_)
    · have hw := hw.1 c_18
      refine lv_iconst (v := 0) hx hb dX3_isWord_25 (by decide) ?_
      exact kretZ C hr hlk h (Or.inl rfl) hw dX3_isWord_26
    · have hw := hw.2 c_18
      refine lv_iconst (v := 1) hx hb dX3_isWord_21 (by decide) ?_
      refine lv_goto (tgt := 26) hx hb dX3_isWord_22 (by decide) ?_
      exact kretZ C hr hlk h (Or.inr rfl) hw dX3_isWord_26

def wX3_passCondition (t1 : Nat) (u : ST) (Q : Int32 → ST → Prop) : Prop :=
  wX3_passName  u (fun r_1 u_2 => ((¬ r_1 = 0 → wX1_find t1 (gJ u_2 0) u_2 (fun r_3 u_4 => ((r_3 = (-1) → wX1_add t1 (gJ u_4 0) u_4 (fun r_5 u_6 => ((¬ r_5 = 0 → Q 1 u_6) ∧ (r_5 = 0 → wX3_fail 3 (gI u_6 7) u_6 (fun r_7 u_8 => ((r_7 = 0 → Q 0 u_8) ∧ (¬ r_7 = 0 → Q 1 u_8))))))) ∧ (¬ r_3 = (-1) → wX3_fail 2 (gI u_4 7) u_4 (fun r_9 u_10 => ((r_9 = 0 ∨ r_9 = 1) ∧ Q r_9 u_10)))))) ∧ (r_1 = 0 → Q 0 u_2)))
set_option maxHeartbeats 4000000 in
set_option maxRecDepth 100000 in
theorem mX3_passCondition (l : Launch) (D : va_G) (cy : CY) (ad : Nat → Nat) (t1 : Nat) (u : ST) (sz : Nat) {Q : Int32 → ST → Prop} (f_t1 : t1 < 4) (hw : wX3_passCondition t1 u Q) : Met l yX3_passCondition (wM yX3_passCondition cX3_passCondition 2 (some .boolean)) (kRm 3) (kPc D (cW cy ad) cy u sz [.ref (ad 1), .ref (aN ad t1)]) (kQi D (cW cy ad) cy (va_A (cW cy ad u) sz) Q) 0 0 (va_A (cW cy ad u) sz) := by
  refine kMet pn_X3_passCondition (Nat.le_of_ble_eq_true rfl) (fun p e s m below meth c ls hsz C hr hlk hex h hl => ?_)
  have hl : lv_has ls 2 [(0, .ref (ad 1)), (1, .ref (aN ad t1))] := hl
  obtain ⟨⟨hx, hb, hml, hown, hts⟩, hK, hA⟩ := id C
  unfold wX3_passCondition at hw
  have h : kH D (cW cy ad) (va_A (cW cy ad u) sz) s u s.heap [] := h
  refine lv_aload_n hx hb dX3_passCondition_0 rfl (lv_at hl 0 rfl) ?_
  refine kVi (As := []) (rest := []) C h (cwV 0 hts (gd_V wi_ml_X3_34 wi_im_X3_passName wi_se_X3_passName wi_in_X3 wi_co_X3_passName) rfl rfl rfl hd_X3_passName ⟨Nat.le_of_ble_eq_true rfl, Nat.le_of_ble_eq_true rfl⟩) 1 rfl rfl rfl (mX3_passName l D cy ad  _ _ hw) rfl hl.1 rfl (Nat.le_of_ble_eq_true rfl) ⟨Nat.zero_le _, Nat.zero_le _⟩ dX3_passCondition_1 (fun r_1 u_2 H locs hw h => ?_)
  refine lv_if_ne (tgt := 9) hx hb dX3_passCondition_4 (by decide) (fun c_4 => ?_) (fun c_4 => ?_)
  · have hw := hw.1 c_4
    refine lv_aload_n hx hb dX3_passCondition_9 rfl (lv_at hl 1 rfl) ?_
    refine lv_aload_n hx hb dX3_passCondition_10 rfl (lv_at hl 0 rfl) ?_
    refine kget C h 1 rfl rfl inBX3 4 (Nat.le_of_ble_eq_true rfl) wi_fl_X3_69 rfl dX3_passCondition_11 ?_
    refine kVi (As := [.long (gJ u_2 0)]) (rest := []) C h (cwV 1 hts (gd_V wi_ml_X3_90 wi_im_X1_find wi_se_X1_find wi_in_X1 wi_co_X1_find) rfl rfl rfl hd_X1_find ⟨Nat.le_of_ble_eq_true rfl, Nat.le_of_ble_eq_true rfl⟩) (4 + t1) (cW_N cy ad u_2 t1 (by omega)) rfl rfl (mX1_find l D cy ad t1 (gJ u_2 0) _ _ (by omega) hw) rfl hl.1 rfl (Nat.le_of_ble_eq_true rfl) ⟨Nat.zero_le _, Nat.zero_le _⟩ dX3_passCondition_14 (fun r_3 u_4 H locs hw h => ?_)
    refine lv_iconst (v := (-1)) hx hb dX3_passCondition_17 (by decide) ?_
    refine lv_icmp_eq (tgt := 31) hx hb dX3_passCondition_18 (by decide) (fun c_18 => ?_) (fun c_18 => ?_)
    · have hw := hw.1 c_18
      refine lv_aload_n hx hb dX3_passCondition_31 rfl (lv_at hl 1 rfl) ?_
      refine lv_aload_n hx hb dX3_passCondition_32 rfl (lv_at hl 0 rfl) ?_
      refine kget C h 1 rfl rfl inBX3 4 (Nat.le_of_ble_eq_true rfl) wi_fl_X3_69 rfl dX3_passCondition_33 ?_
      refine kVi (As := [.long (gJ u_4 0)]) (rest := []) C h (cwV 1 hts (gd_V wi_ml_X3_94 wi_im_X1_add wi_se_X1_add wi_in_X1 wi_co_X1_add) rfl rfl rfl hd_X1_add ⟨Nat.le_of_ble_eq_true rfl, Nat.le_of_ble_eq_true rfl⟩) (4 + t1) (cW_N cy ad u_4 t1 (by omega)) rfl rfl (mX1_add l D cy ad t1 (gJ u_4 0) _ _ (by omega) hw) rfl hl.1 rfl (Nat.le_of_ble_eq_true rfl) ⟨Nat.zero_le _, Nat.zero_le _⟩ dX3_passCondition_36 (fun r_5 u_6 H locs hw h => ?_)
      refine lv_if_ne (tgt := 54) hx hb dX3_passCondition_39 (by decide) (fun c_39 => ?_) (fun c_39 => ?_)
      · have hw := hw.1 c_39
        refine lv_iconst (v := 1) hx hb dX3_passCondition_54 (by decide) ?_
        refine lv_goto (tgt := 59) hx hb dX3_passCondition_55 (by decide) ?_
        exact kretZ C hr hlk h (Or.inr rfl) hw dX3_passCondition_59
      · have hw := hw.2 c_39
        refine lv_aload_n hx hb dX3_passCondition_42 rfl (lv_at hl 0 rfl) ?_
        refine lv_iconst (v := 3) hx hb dX3_passCondition_43 (by decide) ?_
        refine lv_aload_n hx hb dX3_passCondition_44 rfl (lv_at hl 0 rfl) ?_
        refine kget C h 1 rfl rfl inBX3 3 (Nat.le_of_ble_eq_true rfl) wi_fl_X3_66 rfl dX3_passCondition_45 ?_
        refine kVi (As := [.int 3, .int (gI u_6 7)]) (rest := []) C h (cwV 2 hts (gd_V wi_ml_X3_62 wi_im_X3_fail wi_se_X3_fail wi_in_X3 wi_co_X3_fail) rfl rfl rfl hd_X3_fail ⟨Nat.le_of_ble_eq_true rfl, Nat.le_of_ble_eq_true rfl⟩) 1 rfl rfl rfl (mX3_fail l D cy ad 3 (gI u_6 7) _ _ hw) rfl hl.1 rfl (Nat.le_of_ble_eq_true rfl) ⟨Nat.zero_le _, Nat.zero_le _⟩ dX3_passCondition_48 (fun r_7 u_8 H locs hw h => ?_)
        refine lv_if_eq (tgt := 58) hx hb dX3_passCondition_51 (by decide) (fun c_51 => ?_) (fun c_51 => ?_)
        · have hw := hw.1 c_51
          refine lv_iconst (v := 0) hx hb dX3_passCondition_58 (by decide) ?_
          exact kretZ C hr hlk h (Or.inl rfl) hw dX3_passCondition_59
        · have hw := hw.2 c_51
          refine lv_iconst (v := 1) hx hb dX3_passCondition_54 (by decide) ?_
          refine lv_goto (tgt := 59) hx hb dX3_passCondition_55 (by decide) ?_
          exact kretZ C hr hlk h (Or.inr rfl) hw dX3_passCondition_59
    · have hw := hw.2 c_18
      refine lv_aload_n hx hb dX3_passCondition_21 rfl (lv_at hl 0 rfl) ?_
      refine lv_iconst (v := 2) hx hb dX3_passCondition_22 (by decide) ?_
      refine lv_aload_n hx hb dX3_passCondition_23 rfl (lv_at hl 0 rfl) ?_
      refine kget C h 1 rfl rfl inBX3 3 (Nat.le_of_ble_eq_true rfl) wi_fl_X3_66 rfl dX3_passCondition_24 ?_
      refine kVi (As := [.int 2, .int (gI u_4 7)]) (rest := []) C h (cwV 2 hts (gd_V wi_ml_X3_62 wi_im_X3_fail wi_se_X3_fail wi_in_X3 wi_co_X3_fail) rfl rfl rfl hd_X3_fail ⟨Nat.le_of_ble_eq_true rfl, Nat.le_of_ble_eq_true rfl⟩) 1 rfl rfl rfl (mX3_fail l D cy ad 2 (gI u_4 7) _ _ hw) rfl hl.1 rfl (Nat.le_of_ble_eq_true rfl) ⟨Nat.zero_le _, Nat.zero_le _⟩ dX3_passCondition_27 (fun r_9 u_10 H locs hw h => ?_)
      exact kretZ C hr hlk h hw.1 hw.2 dX3_passCondition_30
  · have hw := hw.2 c_4
    refine lv_iconst (v := 0) hx hb dX3_passCondition_7 (by decide) ?_
    exact kretZ C hr hlk h (Or.inl rfl) hw dX3_passCondition_8

def wX3_passConditions_B2 (K2 : Nat → Int32 → ST → Prop) (Q : Int32 → ST → Prop) (t1 : Nat) (x2 : Int32) (u : ST) : Prop :=
  ((16 < x2 → wX3_fail 3 (gI u 7) u (fun r_1 u_2 => ((r_1 = 0 ∨ r_1 = 1) ∧ Q r_1 u_2))) ∧ (¬ 16 < x2 → wX3_passCondition (2 * t1) u (fun r_3 u_4 => ((¬ r_3 = 0 → wX3_look  u_4 (fun r_5 u_6 => ((r_5 = 44 → K2 t1 (x2 + 1) (sI u_6 6 ((gI u_6 6) + 1))) ∧ (¬ r_5 = 44 → wX3_passByte 59 u_6 (fun r_7 u_8 => ((r_7 = 0 ∨ r_7 = 1) ∧ Q r_7 u_8)))))) ∧ (r_3 = 0 → Q 0 u_4)))))
set_option maxHeartbeats 4000000 in
set_option maxRecDepth 100000 in
theorem kX3_passConditions_B2 {p : Program} {l : Launch} {e : Env} {s : State} {m : MethodId} {args : Array Value} {below : List Frame} {meth : Method} {c : Code} {D : va_G} {cy : CY} {A : Nat → Prop} {ad : Nat → Nat} {K2 : Nat → Int32 → ST → Prop} {Q : Int32 → ST → Prop} (C : kC p m c cX3_passConditions 3 s args RX3 D cy A) (hr : meth.sig.returnType = some .boolean) (hlk : meth.locks = false) (g2 : ∀ (t1 : Nat) (x2 : Int32) (u : ST) (H : Heap) (locs : List Loc) (ls : Array Slot), K2 t1 x2 u → t1 < 2 → kH D (cW cy ad) A s u H locs → lv_has ls 3 [(0, .ref (ad 1)), (1, .ref (aT ad t1)), (2, .int x2)] → W p l e (kRm 4) s m args below meth c H locs 0 0 (MQ below (kQi D (cW cy ad) cy A Q) args s 0 0 A) (F0 m 2 ls [])) : ∀ (t1 : Nat) (x2 : Int32) (u : ST) (H : Heap) (locs : List Loc) (ls : Array Slot), wX3_passConditions_B2 K2 Q t1 x2 u → t1 < 2 → kH D (cW cy ad) A s u H locs → lv_has ls 3 [(0, .ref (ad 1)), (1, .ref (aT ad t1)), (2, .int x2)] → W p l e (kRm 4) s m args below meth c H locs 0 0 (MQ below (kQi D (cW cy ad) cy A Q) args s 0 0 A) (F0 m 2 ls []) := by
  intro t1 x2 u H locs ls hw f_t1 h hl
  obtain ⟨⟨hx, hb, hml, hown, hts⟩, hK, hA⟩ := id C
  unfold wX3_passConditions_B2 at hw
  refine lv_iload_n hx hb dX3_passConditions_2 rfl (lv_at hl 2 rfl) ?_
  refine lv_bipush (v := 16) hx hb dX3_passConditions_3 (by decide) ?_
  refine lv_icmp_gt (tgt := 53) hx hb dX3_passConditions_5 (by decide) (fun c_5 => ?_) (fun c_5 => ?_)
  · have hw := hw.1 c_5
    refine lv_aload_n hx hb dX3_passConditions_53 rfl (lv_at hl 0 rfl) ?_
    refine lv_iconst (v := 3) hx hb dX3_passConditions_54 (by decide) ?_
    refine lv_aload_n hx hb dX3_passConditions_55 rfl (lv_at hl 0 rfl) ?_
    refine kget C h 1 rfl rfl inBX3 3 (Nat.le_of_ble_eq_true rfl) wi_fl_X3_66 rfl dX3_passConditions_56 ?_
    refine kVi (As := [.int 3, .int (gI u 7)]) (rest := []) C h (cwV 2 hts (gd_V wi_ml_X3_62 wi_im_X3_fail wi_se_X3_fail wi_in_X3 wi_co_X3_fail) rfl rfl rfl hd_X3_fail ⟨Nat.le_of_ble_eq_true rfl, Nat.le_of_ble_eq_true rfl⟩) 1 rfl rfl rfl (mX3_fail l D cy ad 3 (gI u 7) _ _ hw) rfl hl.1 rfl (Nat.le_of_ble_eq_true rfl) ⟨Nat.zero_le _, Nat.zero_le _⟩ dX3_passConditions_59 (fun r_1 u_2 H locs hw h => ?_)
    exact kretZ C hr hlk h hw.1 hw.2 dX3_passConditions_62
  · have hw := hw.2 c_5
    refine lv_aload_n hx hb dX3_passConditions_8 rfl (lv_at hl 0 rfl) ?_
    refine lv_aload_n hx hb dX3_passConditions_9 rfl (lv_at hl 1 rfl) ?_
    refine kget C h (2 + t1) (cW_T cy ad u t1 (by omega)) rfl inBX2 0 (Nat.le_of_ble_eq_true rfl) wi_fl_X3_78 rfl dX3_passConditions_10 ?_
    refine kVi (As := [.ref (aN ad (2 * t1))]) (rest := []) C h (cwV 1 hts (gd_V wi_ml_X3_82 wi_im_X3_passCondition wi_se_X3_passCondition wi_in_X3 wi_co_X3_passCondition) rfl rfl rfl hd_X3_passCondition ⟨Nat.le_of_ble_eq_true rfl, Nat.le_of_ble_eq_true rfl⟩) 1 rfl rfl rfl (mX3_passCondition l D cy ad (2 * t1) _ _ (by omega) hw) rfl hl.1 rfl (Nat.le_of_ble_eq_true rfl) ⟨Nat.zero_le _, Nat.zero_le _⟩ dX3_passConditions_13 (fun r_3 u_4 H locs hw h => ?_)
    refine lv_if_ne (tgt := 21) hx hb dX3_passConditions_16 (by decide) (fun c_16 => ?_) (fun c_16 => ?_)
    · have hw := hw.1 c_16
      refine lv_aload_n hx hb dX3_passConditions_21 rfl (lv_at hl 0 rfl) ?_
      refine kVi (As := []) (rest := []) C h (cwV 0 hts (gd_V wi_ml_X3_58 wi_im_X3_look wi_se_X3_look wi_in_X3 wi_co_X3_look) rfl rfl rfl hd_X3_look ⟨Nat.le_of_ble_eq_true rfl, Nat.le_of_ble_eq_true rfl⟩) 1 rfl rfl rfl (mX3_look l D cy ad  _ _ hw) rfl hl.1 rfl (Nat.le_of_ble_eq_true rfl) ⟨Nat.zero_le _, Nat.zero_le _⟩ dX3_passConditions_22 (fun r_5 u_6 H locs hw h => ?_)
      refine lv_bipush (v := 44) hx hb dX3_passConditions_25 (by decide) ?_
      refine lv_icmp_eq (tgt := 37) hx hb dX3_passConditions_27 (by decide) (fun c_27 => ?_) (fun c_27 => ?_)
      · have hw := hw.1 c_27
        refine lv_aload_n hx hb dX3_passConditions_37 rfl (lv_at hl 0 rfl) ?_
        refine lv_dup hx hb dX3_passConditions_38 rfl ?_
        refine kget C h 1 rfl rfl inBX3 2 (Nat.le_of_ble_eq_true rfl) wi_fl_X3_23 rfl dX3_passConditions_39 ?_
        refine lv_iconst (v := 1) hx hb dX3_passConditions_42 (by decide) ?_
        refine lv_iadd hx hb dX3_passConditions_43 ?_
        refine kput C h 1 rfl rfl inBX3 tyX3_ok nmX3 2 (Nat.le_of_ble_eq_true rfl) wi_fl_X3_23 rfl rfl rfl (Nat.le_of_ble_eq_true rfl) (cS_TP_2 cy ad u_6 ((gI u_6 6) + 1)) dX3_passConditions_44 (fun H locs h => ?_)
        refine lv_iinc (v := x2 + 1) (lv' := [(2, .int (x2 + 1)), (0, .ref (ad 1)), (1, .ref (aT ad t1))]) hx hb dX3_passConditions_47 hl (k := 2) rfl rfl (by decide) rfl (fun ls hl => ?_)
        refine lv_goto (tgt := 2) hx hb dX3_passConditions_50 (by decide) ?_
        exact g2 t1 (x2 + 1) _ _ _ _ hw (by omega) h (lv_sub hl [1, 2, 0] rfl)
      · have hw := hw.2 c_27
        refine lv_aload_n hx hb dX3_passConditions_30 rfl (lv_at hl 0 rfl) ?_
        refine lv_bipush (v := 59) hx hb dX3_passConditions_31 (by decide) ?_
        refine kVi (As := [.int 59]) (rest := []) C h (cwV 1 hts (gd_V wi_ml_X3_86 wi_im_X3_passByte wi_se_X3_passByte wi_in_X3 wi_co_X3_passByte) rfl rfl rfl hd_X3_passByte ⟨Nat.le_of_ble_eq_true rfl, Nat.le_of_ble_eq_true rfl⟩) 1 rfl rfl rfl (mX3_passByte l D cy ad 59 _ _ hw) rfl hl.1 rfl (Nat.le_of_ble_eq_true rfl) ⟨Nat.zero_le _, Nat.zero_le _⟩ dX3_passConditions_33 (fun r_7 u_8 H locs hw h => ?_)
        exact kretZ C hr hlk h hw.1 hw.2 dX3_passConditions_36
    · have hw := hw.2 c_16
      refine lv_iconst (v := 0) hx hb dX3_passConditions_19 (by decide) ?_
      exact kretZ C hr hlk h (Or.inl rfl) hw dX3_passConditions_20
def wX3_passConditions_L2 (Q : Int32 → ST → Prop) : Nat → Nat → Int32 → ST → Prop
  | 0, _, _, _ => False
  | n + 1, t1, x2, u => wX3_passConditions_B2 (wX3_passConditions_L2 Q n) Q t1 x2 u
set_option maxHeartbeats 4000000 in
theorem kX3_passConditions_L2 {p : Program} {l : Launch} {e : Env} {s : State} {m : MethodId} {args : Array Value} {below : List Frame} {meth : Method} {c : Code} {D : va_G} {cy : CY} {A : Nat → Prop} {ad : Nat → Nat} {Q : Int32 → ST → Prop} (C : kC p m c cX3_passConditions 3 s args RX3 D cy A) (hr : meth.sig.returnType = some .boolean) (hlk : meth.locks = false) : ∀ n : Nat, ∀ (t1 : Nat) (x2 : Int32) (u : ST) (H : Heap) (locs : List Loc) (ls : Array Slot), wX3_passConditions_L2 Q n t1 x2 u → t1 < 2 → kH D (cW cy ad) A s u H locs → lv_has ls 3 [(0, .ref (ad 1)), (1, .ref (aT ad t1)), (2, .int x2)] → W p l e (kRm 4) s m args below meth c H locs 0 0 (MQ below (kQi D (cW cy ad) cy A Q) args s 0 0 A) (F0 m 2 ls []) := by
  intro n
  induction n with
  | zero => intro t1 x2 u H locs ls hw; exact False.elim hw
  | succ n ih => exact kX3_passConditions_B2 C hr hlk ih
def wX3_passConditions (t1 : Nat) (u : ST) (Q : Int32 → ST → Prop) : Prop :=
  (∃ n : Nat, wX3_passConditions_L2 Q n t1 0 u)
set_option maxHeartbeats 4000000 in
set_option maxRecDepth 100000 in
theorem mX3_passConditions (l : Launch) (D : va_G) (cy : CY) (ad : Nat → Nat) (t1 : Nat) (u : ST) (sz : Nat) {Q : Int32 → ST → Prop} (f_t1 : t1 < 2) (hw : wX3_passConditions t1 u Q) : Met l yX3_passConditions (wM yX3_passConditions cX3_passConditions 3 (some .boolean)) (kRm 4) (kPc D (cW cy ad) cy u sz [.ref (ad 1), .ref (aT ad t1)]) (kQi D (cW cy ad) cy (va_A (cW cy ad u) sz) Q) 0 0 (va_A (cW cy ad u) sz) := by
  refine kMet pn_X3_passConditions (Nat.le_of_ble_eq_true rfl) (fun p e s m below meth c ls hsz C hr hlk hex h hl => ?_)
  have hl : lv_has ls 3 [(0, .ref (ad 1)), (1, .ref (aT ad t1))] := hl
  obtain ⟨⟨hx, hb, hml, hown, hts⟩, hK, hA⟩ := id C
  unfold wX3_passConditions at hw
  have h : kH D (cW cy ad) (va_A (cW cy ad u) sz) s u s.heap [] := h
  refine lv_iconst (v := 0) hx hb dX3_passConditions_0 (by decide) ?_
  refine lv_istore_n (lv' := [(2, .int 0), (0, .ref (ad 1)), (1, .ref (aT ad t1))]) hx hb dX3_passConditions_1 rfl hl (by decide) rfl (fun ls hl => ?_)
  obtain ⟨n, hw⟩ := hw
  exact kX3_passConditions_L2 C hr hlk n t1 0 _ _ _ _ hw (by omega) h (lv_sub hl [1, 2, 0] rfl)

def wX3_passAction (t1 : Nat) (u : ST) (Q : Int32 → ST → Prop) : Prop :=
  wX3_passName  u (fun r_1 u_2 => ((¬ r_1 = 0 → wX1_find t1 (gJ u_2 0) u_2 (fun r_3 u_4 => ((¬ r_3 = (-1) → Q 1 u_4) ∧ (r_3 = (-1) → wX1_add t1 (gJ u_4 0) u_4 (fun r_5 u_6 => ((¬ r_5 = 0 → Q 1 u_6) ∧ (r_5 = 0 → wX3_fail 3 (gI u_6 7) u_6 (fun r_7 u_8 => ((r_7 = 0 → Q 0 u_8) ∧ (¬ r_7 = 0 → Q 1 u_8)))))))))) ∧ (r_1 = 0 → Q 0 u_2)))
set_option maxHeartbeats 4000000 in
set_option maxRecDepth 100000 in
theorem mX3_passAction (l : Launch) (D : va_G) (cy : CY) (ad : Nat → Nat) (t1 : Nat) (u : ST) (sz : Nat) {Q : Int32 → ST → Prop} (f_t1 : t1 < 4) (hw : wX3_passAction t1 u Q) : Met l yX3_passAction (wM yX3_passAction cX3_passAction 2 (some .boolean)) (kRm 3) (kPc D (cW cy ad) cy u sz [.ref (ad 1), .ref (aN ad t1)]) (kQi D (cW cy ad) cy (va_A (cW cy ad u) sz) Q) 0 0 (va_A (cW cy ad u) sz) := by
  refine kMet pn_X3_passAction (Nat.le_of_ble_eq_true rfl) (fun p e s m below meth c ls hsz C hr hlk hex h hl => ?_)
  have hl : lv_has ls 2 [(0, .ref (ad 1)), (1, .ref (aN ad t1))] := hl
  obtain ⟨⟨hx, hb, hml, hown, hts⟩, hK, hA⟩ := id C
  unfold wX3_passAction at hw
  have h : kH D (cW cy ad) (va_A (cW cy ad u) sz) s u s.heap [] := h
  refine lv_aload_n hx hb dX3_passAction_0 rfl (lv_at hl 0 rfl) ?_
  refine kVi (As := []) (rest := []) C h (cwV 0 hts (gd_V wi_ml_X3_34 wi_im_X3_passName wi_se_X3_passName wi_in_X3 wi_co_X3_passName) rfl rfl rfl hd_X3_passName ⟨Nat.le_of_ble_eq_true rfl, Nat.le_of_ble_eq_true rfl⟩) 1 rfl rfl rfl (mX3_passName l D cy ad  _ _ hw) rfl hl.1 rfl (Nat.le_of_ble_eq_true rfl) ⟨Nat.zero_le _, Nat.zero_le _⟩ dX3_passAction_1 (fun r_1 u_2 H locs hw h => ?_)
  refine lv_if_ne (tgt := 9) hx hb dX3_passAction_4 (by decide) (fun c_4 => ?_) (fun c_4 => ?_)
  · have hw := hw.1 c_4
    refine lv_aload_n hx hb dX3_passAction_9 rfl (lv_at hl 1 rfl) ?_
    refine lv_aload_n hx hb dX3_passAction_10 rfl (lv_at hl 0 rfl) ?_
    refine kget C h 1 rfl rfl inBX3 4 (Nat.le_of_ble_eq_true rfl) wi_fl_X3_69 rfl dX3_passAction_11 ?_
    refine kVi (As := [.long (gJ u_2 0)]) (rest := []) C h (cwV 1 hts (gd_V wi_ml_X3_90 wi_im_X1_find wi_se_X1_find wi_in_X1 wi_co_X1_find) rfl rfl rfl hd_X1_find ⟨Nat.le_of_ble_eq_true rfl, Nat.le_of_ble_eq_true rfl⟩) (4 + t1) (cW_N cy ad u_2 t1 (by omega)) rfl rfl (mX1_find l D cy ad t1 (gJ u_2 0) _ _ (by omega) hw) rfl hl.1 rfl (Nat.le_of_ble_eq_true rfl) ⟨Nat.zero_le _, Nat.zero_le _⟩ dX3_passAction_14 (fun r_3 u_4 H locs hw h => ?_)
    refine lv_iconst (v := (-1)) hx hb dX3_passAction_17 (by decide) ?_
    refine lv_icmp_ne (tgt := 44) hx hb dX3_passAction_18 (by decide) (fun c_18 => ?_) (fun c_18 => ?_)
    · have hw := hw.1 c_18
      refine lv_iconst (v := 1) hx hb dX3_passAction_44 (by decide) ?_
      refine lv_goto (tgt := 49) hx hb dX3_passAction_45 (by decide) ?_
      exact kretZ C hr hlk h (Or.inr rfl) hw dX3_passAction_49
    · have hw := hw.2 c_18
      refine lv_aload_n hx hb dX3_passAction_21 rfl (lv_at hl 1 rfl) ?_
      refine lv_aload_n hx hb dX3_passAction_22 rfl (lv_at hl 0 rfl) ?_
      refine kget C h 1 rfl rfl inBX3 4 (Nat.le_of_ble_eq_true rfl) wi_fl_X3_69 rfl dX3_passAction_23 ?_
      refine kVi (As := [.long (gJ u_4 0)]) (rest := []) C h (cwV 1 hts (gd_V wi_ml_X3_94 wi_im_X1_add wi_se_X1_add wi_in_X1 wi_co_X1_add) rfl rfl rfl hd_X1_add ⟨Nat.le_of_ble_eq_true rfl, Nat.le_of_ble_eq_true rfl⟩) (4 + t1) (cW_N cy ad u_4 t1 (by omega)) rfl rfl (mX1_add l D cy ad t1 (gJ u_4 0) _ _ (by omega) hw) rfl hl.1 rfl (Nat.le_of_ble_eq_true rfl) ⟨Nat.zero_le _, Nat.zero_le _⟩ dX3_passAction_26 (fun r_5 u_6 H locs hw h => ?_)
      refine lv_if_ne (tgt := 44) hx hb dX3_passAction_29 (by decide) (fun c_29 => ?_) (fun c_29 => ?_)
      · have hw := hw.1 c_29
        refine lv_iconst (v := 1) hx hb dX3_passAction_44 (by decide) ?_
        refine lv_goto (tgt := 49) hx hb dX3_passAction_45 (by decide) ?_
        exact kretZ C hr hlk h (Or.inr rfl) hw dX3_passAction_49
      · have hw := hw.2 c_29
        refine lv_aload_n hx hb dX3_passAction_32 rfl (lv_at hl 0 rfl) ?_
        refine lv_iconst (v := 3) hx hb dX3_passAction_33 (by decide) ?_
        refine lv_aload_n hx hb dX3_passAction_34 rfl (lv_at hl 0 rfl) ?_
        refine kget C h 1 rfl rfl inBX3 3 (Nat.le_of_ble_eq_true rfl) wi_fl_X3_66 rfl dX3_passAction_35 ?_
        refine kVi (As := [.int 3, .int (gI u_6 7)]) (rest := []) C h (cwV 2 hts (gd_V wi_ml_X3_62 wi_im_X3_fail wi_se_X3_fail wi_in_X3 wi_co_X3_fail) rfl rfl rfl hd_X3_fail ⟨Nat.le_of_ble_eq_true rfl, Nat.le_of_ble_eq_true rfl⟩) 1 rfl rfl rfl (mX3_fail l D cy ad 3 (gI u_6 7) _ _ hw) rfl hl.1 rfl (Nat.le_of_ble_eq_true rfl) ⟨Nat.zero_le _, Nat.zero_le _⟩ dX3_passAction_38 (fun r_7 u_8 H locs hw h => ?_)
        refine lv_if_eq (tgt := 48) hx hb dX3_passAction_41 (by decide) (fun c_41 => ?_) (fun c_41 => ?_)
        · have hw := hw.1 c_41
          refine lv_iconst (v := 0) hx hb dX3_passAction_48 (by decide) ?_
          exact kretZ C hr hlk h (Or.inl rfl) hw dX3_passAction_49
        · have hw := hw.2 c_41
          refine lv_iconst (v := 1) hx hb dX3_passAction_44 (by decide) ?_
          refine lv_goto (tgt := 49) hx hb dX3_passAction_45 (by decide) ?_
          exact kretZ C hr hlk h (Or.inr rfl) hw dX3_passAction_49
  · have hw := hw.2 c_4
    refine lv_iconst (v := 0) hx hb dX3_passAction_7 (by decide) ?_
    exact kretZ C hr hlk h (Or.inl rfl) hw dX3_passAction_8

def wX3_passRule_b110 (K7 : Nat → Int32 → Int32 → Int32 → ST → Prop) (Q : Int32 → ST → Prop) (t1 : Nat) (x2 : Int32) (x4 : Int32) (xs0 : Int32) (xs1 : Int32) (u : ST) : Prop :=
  K7 t1 x2 (xs0 ||| xs1) (x4 + 1) (sI u 6 ((gI u 6) + 1))
set_option maxHeartbeats 4000000 in
set_option maxRecDepth 100000 in
theorem kX3_passRule_b110 {p : Program} {l : Launch} {e : Env} {s : State} {m : MethodId} {args : Array Value} {below : List Frame} {meth : Method} {c : Code} {D : va_G} {cy : CY} {A : Nat → Prop} {ad : Nat → Nat} {K7 : Nat → Int32 → Int32 → Int32 → ST → Prop} {Q : Int32 → ST → Prop} (C : kC p m c cX3_passRule 6 s args RX3 D cy A) (hr : meth.sig.returnType = some .boolean) (hlk : meth.locks = false) (g7 : ∀ (t1 : Nat) (x2 : Int32) (x3 : Int32) (x4 : Int32) (u : ST) (H : Heap) (locs : List Loc) (ls : Array Slot), K7 t1 x2 x3 x4 u → t1 < 2 → kH D (cW cy ad) A s u H locs → lv_has ls 6 [(0, .ref (ad 1)), (1, .ref (aT ad t1)), (2, .int x2), (3, .int x3), (4, .int x4)] → W p l e (kRm 4) s m args below meth c H locs 0 0 (MQ below (kQi D (cW cy ad) cy A Q) args s 0 0 A) (F0 m 7 ls [])) : ∀ (t1 : Nat) (x2 : Int32) (x4 : Int32) (xs0 : Int32) (xs1 : Int32) (u : ST) (H : Heap) (locs : List Loc) (ls : Array Slot), wX3_passRule_b110 K7 Q t1 x2 x4 xs0 xs1 u → t1 < 2 → kH D (cW cy ad) A s u H locs → lv_has ls 6 [(0, .ref (ad 1)), (1, .ref (aT ad t1)), (2, .int x2), (4, .int x4)] → W p l e (kRm 4) s m args below meth c H locs 0 0 (MQ below (kQi D (cW cy ad) cy A Q) args s 0 0 A) (F0 m 110 ls [.int xs1, .int xs0]) := by
  intro t1 x2 x4 xs0 xs1 u H locs ls hw f_t1 h hl
  obtain ⟨⟨hx, hb, hml, hown, hts⟩, hK, hA⟩ := id C
  unfold wX3_passRule_b110 at hw
  refine lv_ior hx hb dX3_passRule_110 ?_
  refine lv_istore_n (lv' := [(3, .int (xs0 ||| xs1)), (0, .ref (ad 1)), (1, .ref (aT ad t1)), (2, .int x2), (4, .int x4)]) hx hb dX3_passRule_111 rfl hl (by decide) rfl (fun ls hl => ?_)
  refine lv_aload_n hx hb dX3_passRule_112 rfl (lv_at hl 1 rfl) ?_
  refine lv_dup hx hb dX3_passRule_113 rfl ?_
  refine kget C h 1 rfl rfl inBX3 2 (Nat.le_of_ble_eq_true rfl) wi_fl_X3_23 rfl dX3_passRule_114 ?_
  refine lv_iconst (v := 1) hx hb dX3_passRule_117 (by decide) ?_
  refine lv_iadd hx hb dX3_passRule_118 ?_
  refine kput C h 1 rfl rfl inBX3 tyX3_ok nmX3 2 (Nat.le_of_ble_eq_true rfl) wi_fl_X3_23 rfl rfl rfl (Nat.le_of_ble_eq_true rfl) (cS_TP_2 cy ad u ((gI u 6) + 1)) dX3_passRule_119 (fun H locs h => ?_)
  refine lv_iinc (v := x4 + 1) (lv' := [(4, .int (x4 + 1)), (3, .int (xs0 ||| xs1)), (0, .ref (ad 1)), (1, .ref (aT ad t1)), (2, .int x2)]) hx hb dX3_passRule_122 hl (k := 4) rfl rfl (by decide) rfl (fun ls hl => ?_)
  refine lv_goto (tgt := 7) hx hb dX3_passRule_125 (by decide) ?_
  exact g7 t1 x2 (xs0 ||| xs1) (x4 + 1) _ _ _ _ hw (by omega) h (lv_sub hl [2, 3, 4, 1, 0] rfl)
def wX3_passRule_b92 (K7 : Nat → Int32 → Int32 → Int32 → ST → Prop) (Q : Int32 → ST → Prop) (t1 : Nat) (x3 : Int32) (x4 : Int32) (x5 : Int32) (xs0 : Int32) (xs1 : Int32) (u : ST) : Prop :=
  ((¬ x5 = 78 → wX3_passRule_b110 K7 Q t1 (xs0 ||| xs1) x4 x3 0 u) ∧ (x5 = 78 → wX3_passRule_b110 K7 Q t1 (xs0 ||| xs1) x4 x3 (1 <<< (x4 &&& 31)) u))
set_option maxHeartbeats 4000000 in
set_option maxRecDepth 100000 in
theorem kX3_passRule_b92 {p : Program} {l : Launch} {e : Env} {s : State} {m : MethodId} {args : Array Value} {below : List Frame} {meth : Method} {c : Code} {D : va_G} {cy : CY} {A : Nat → Prop} {ad : Nat → Nat} {K7 : Nat → Int32 → Int32 → Int32 → ST → Prop} {Q : Int32 → ST → Prop} (C : kC p m c cX3_passRule 6 s args RX3 D cy A) (hr : meth.sig.returnType = some .boolean) (hlk : meth.locks = false) (g7 : ∀ (t1 : Nat) (x2 : Int32) (x3 : Int32) (x4 : Int32) (u : ST) (H : Heap) (locs : List Loc) (ls : Array Slot), K7 t1 x2 x3 x4 u → t1 < 2 → kH D (cW cy ad) A s u H locs → lv_has ls 6 [(0, .ref (ad 1)), (1, .ref (aT ad t1)), (2, .int x2), (3, .int x3), (4, .int x4)] → W p l e (kRm 4) s m args below meth c H locs 0 0 (MQ below (kQi D (cW cy ad) cy A Q) args s 0 0 A) (F0 m 7 ls [])) : ∀ (t1 : Nat) (x3 : Int32) (x4 : Int32) (x5 : Int32) (xs0 : Int32) (xs1 : Int32) (u : ST) (H : Heap) (locs : List Loc) (ls : Array Slot), wX3_passRule_b92 K7 Q t1 x3 x4 x5 xs0 xs1 u → t1 < 2 → kH D (cW cy ad) A s u H locs → lv_has ls 6 [(0, .ref (ad 1)), (1, .ref (aT ad t1)), (3, .int x3), (4, .int x4), (5, .int x5)] → W p l e (kRm 4) s m args below meth c H locs 0 0 (MQ below (kQi D (cW cy ad) cy A Q) args s 0 0 A) (F0 m 92 ls [.int xs1, .int xs0]) := by
  intro t1 x3 x4 x5 xs0 xs1 u H locs ls hw f_t1 h hl
  obtain ⟨⟨hx, hb, hml, hown, hts⟩, hK, hA⟩ := id C
  unfold wX3_passRule_b92 at hw
  refine lv_ior hx hb dX3_passRule_92 ?_
  refine lv_istore_n (lv' := [(2, .int (xs0 ||| xs1)), (0, .ref (ad 1)), (1, .ref (aT ad t1)), (3, .int x3), (4, .int x4), (5, .int x5)]) hx hb dX3_passRule_93 rfl hl (by decide) rfl (fun ls hl => ?_)
  refine lv_iload_n hx hb dX3_passRule_94 rfl (lv_at hl 3 rfl) ?_
  refine lv_iload hx hb dX3_passRule_95 (lv_at hl 5 rfl) ?_
  refine lv_bipush (v := 78) hx hb dX3_passRule_97 (by decide) ?_
  refine lv_icmp_ne (tgt := 109) hx hb dX3_passRule_99 (by decide) (fun c_99 => ?_) (fun c_99 => ?_)
  · have hw := hw.1 c_99
    refine lv_iconst (v := 0) hx hb dX3_passRule_109 (by decide) ?_
    exact kX3_passRule_b110 C hr hlk g7 t1 (xs0 ||| xs1) x4 x3 0 _ _ _ _ hw (by omega) h (lv_sub hl [1, 2, 0, 4] rfl)
  · have hw := hw.2 c_99
    refine lv_iconst (v := 1) hx hb dX3_passRule_102 (by decide) ?_
    refine lv_iload hx hb dX3_passRule_103 (lv_at hl 4 rfl) ?_
    refine lv_ishl hx hb dX3_passRule_105 ?_
    refine lv_goto (tgt := 110) hx hb dX3_passRule_106 (by decide) ?_
    exact kX3_passRule_b110 C hr hlk g7 t1 (xs0 ||| xs1) x4 x3 (1 <<< (x4 &&& 31)) _ _ _ _ hw (by omega) h (lv_sub hl [1, 2, 0, 4] rfl)
def wX3_passRule_b56 (K7 : Nat → Int32 → Int32 → Int32 → ST → Prop) (Q : Int32 → ST → Prop) (t1 : Nat) (x2 : Int32) (x3 : Int32) (x4 : Int32) (x5 : Int32) (u : ST) : Prop :=
  (((gI u (10 + t1)) < 256 → ((¬ x5 = 89 → wX3_passRule_b92 K7 Q t1 x3 x4 x5 x2 0 u) ∧ (x5 = 89 → wX3_passRule_b92 K7 Q t1 x3 x4 x5 x2 (1 <<< (x4 &&& 31)) u))) ∧ (¬ (gI u (10 + t1)) < 256 → wX3_fail 3 (gI u 6) u (fun r_1 u_2 => ((r_1 = 0 ∨ r_1 = 1) ∧ Q r_1 u_2))))
set_option maxHeartbeats 4000000 in
set_option maxRecDepth 100000 in
theorem kX3_passRule_b56 {p : Program} {l : Launch} {e : Env} {s : State} {m : MethodId} {args : Array Value} {below : List Frame} {meth : Method} {c : Code} {D : va_G} {cy : CY} {A : Nat → Prop} {ad : Nat → Nat} {K7 : Nat → Int32 → Int32 → Int32 → ST → Prop} {Q : Int32 → ST → Prop} (C : kC p m c cX3_passRule 6 s args RX3 D cy A) (hr : meth.sig.returnType = some .boolean) (hlk : meth.locks = false) (g7 : ∀ (t1 : Nat) (x2 : Int32) (x3 : Int32) (x4 : Int32) (u : ST) (H : Heap) (locs : List Loc) (ls : Array Slot), K7 t1 x2 x3 x4 u → t1 < 2 → kH D (cW cy ad) A s u H locs → lv_has ls 6 [(0, .ref (ad 1)), (1, .ref (aT ad t1)), (2, .int x2), (3, .int x3), (4, .int x4)] → W p l e (kRm 4) s m args below meth c H locs 0 0 (MQ below (kQi D (cW cy ad) cy A Q) args s 0 0 A) (F0 m 7 ls [])) : ∀ (t1 : Nat) (x2 : Int32) (x3 : Int32) (x4 : Int32) (x5 : Int32) (u : ST) (H : Heap) (locs : List Loc) (ls : Array Slot), wX3_passRule_b56 K7 Q t1 x2 x3 x4 x5 u → t1 < 2 → kH D (cW cy ad) A s u H locs → lv_has ls 6 [(0, .ref (ad 1)), (1, .ref (aT ad t1)), (2, .int x2), (3, .int x3), (4, .int x4), (5, .int x5)] → W p l e (kRm 4) s m args below meth c H locs 0 0 (MQ below (kQi D (cW cy ad) cy A Q) args s 0 0 A) (F0 m 56 ls []) := by
  intro t1 x2 x3 x4 x5 u H locs ls hw f_t1 h hl
  obtain ⟨⟨hx, hb, hml, hown, hts⟩, hK, hA⟩ := id C
  unfold wX3_passRule_b56 at hw
  refine lv_aload_n hx hb dX3_passRule_56 rfl (lv_at hl 1 rfl) ?_
  refine kget C h (2 + t1) (cW_T cy ad u t1 (by omega)) rfl inBX2 5 (Nat.le_of_ble_eq_true rfl) wi_fl_X3_103 rfl dX3_passRule_57 ?_
  refine lv_sipush (v := 256) hx hb dX3_passRule_60 (by decide) ?_
  refine lv_icmp_lt (tgt := 76) hx hb dX3_passRule_63 (by decide) (fun c_63 => ?_) (fun c_63 => ?_)
  · have hw := hw.1 c_63
    refine lv_iload_n hx hb dX3_passRule_76 rfl (lv_at hl 2 rfl) ?_
    refine lv_iload hx hb dX3_passRule_77 (lv_at hl 5 rfl) ?_
    refine lv_bipush (v := 89) hx hb dX3_passRule_79 (by decide) ?_
    refine lv_icmp_ne (tgt := 91) hx hb dX3_passRule_81 (by decide) (fun c_81 => ?_) (fun c_81 => ?_)
    · have hw := hw.1 c_81
      refine lv_iconst (v := 0) hx hb dX3_passRule_91 (by decide) ?_
      exact kX3_passRule_b92 C hr hlk g7 t1 x3 x4 x5 x2 0 _ _ _ _ hw (by omega) h (lv_sub hl [0, 1, 3, 4, 5] rfl)
    · have hw := hw.2 c_81
      refine lv_iconst (v := 1) hx hb dX3_passRule_84 (by decide) ?_
      refine lv_iload hx hb dX3_passRule_85 (lv_at hl 4 rfl) ?_
      refine lv_ishl hx hb dX3_passRule_87 ?_
      refine lv_goto (tgt := 92) hx hb dX3_passRule_88 (by decide) ?_
      exact kX3_passRule_b92 C hr hlk g7 t1 x3 x4 x5 x2 (1 <<< (x4 &&& 31)) _ _ _ _ hw (by omega) h (lv_sub hl [0, 1, 3, 4, 5] rfl)
  · have hw := hw.2 c_63
    refine lv_aload_n hx hb dX3_passRule_66 rfl (lv_at hl 0 rfl) ?_
    refine lv_iconst (v := 3) hx hb dX3_passRule_67 (by decide) ?_
    refine lv_aload_n hx hb dX3_passRule_68 rfl (lv_at hl 0 rfl) ?_
    refine kget C h 1 rfl rfl inBX3 2 (Nat.le_of_ble_eq_true rfl) wi_fl_X3_23 rfl dX3_passRule_69 ?_
    refine kVi (As := [.int 3, .int (gI u 6)]) (rest := []) C h (cwV 2 hts (gd_V wi_ml_X3_62 wi_im_X3_fail wi_se_X3_fail wi_in_X3 wi_co_X3_fail) rfl rfl rfl hd_X3_fail ⟨Nat.le_of_ble_eq_true rfl, Nat.le_of_ble_eq_true rfl⟩) 1 rfl rfl rfl (mX3_fail l D cy ad 3 (gI u 6) _ _ hw) rfl hl.1 rfl (Nat.le_of_ble_eq_true rfl) ⟨Nat.zero_le _, Nat.zero_le _⟩ dX3_passRule_72 (fun r_1 u_2 H locs hw h => ?_)
    exact kretZ C hr hlk h hw.1 hw.2 dX3_passRule_75
def wX3_passRule_B7 (K7 : Nat → Int32 → Int32 → Int32 → ST → Prop) (Q : Int32 → ST → Prop) (t1 : Nat) (x2 : Int32) (x3 : Int32) (x4 : Int32) (u : ST) : Prop :=
  (((gI u (12 + (2 * t1))) ≤ x4 → wX3_passName  u (fun r_1 u_2 => ((r_1 = 0 → Q 0 u_2) ∧ (¬ r_1 = 0 → wX3_isWord 964 u_2 (fun r_3 u_4 => ((r_3 = 0 → Q 0 u_4) ∧ (¬ r_3 = 0 → wX3_passAction (2 * t1 + 1) u_4 (fun r_5 u_6 => ((¬ r_5 = 0 → wX1_find (2 * t1 + 1) (gJ u_6 0) u_6 (fun r_7 u_8 => wX2_add t1 x2 x3 r_7 u_8 (fun u_10 => wX3_passByte 59 u_10 (fun r_11 u_12 => ((r_11 = 0 ∨ r_11 = 1) ∧ Q r_11 u_12))))) ∧ (r_5 = 0 → Q 0 u_6)))))))))) ∧ (¬ (gI u (12 + (2 * t1))) ≤ x4 → wX3_look  u (fun r_13 u_14 => ((r_13 = 89 → wX3_passRule_b56 K7 Q t1 x2 x3 x4 r_13 u_14) ∧ (¬ r_13 = 89 → ((r_13 = 78 → wX3_passRule_b56 K7 Q t1 x2 x3 x4 r_13 u_14) ∧ (¬ r_13 = 78 → ((r_13 = 45 → wX3_passRule_b56 K7 Q t1 x2 x3 x4 r_13 u_14) ∧ (¬ r_13 = 45 → wX3_fail 1 (gI u_14 6) u_14 (fun r_15 u_16 => ((r_15 = 0 ∨ r_15 = 1) ∧ Q r_15 u_16)))))))))))
set_option maxHeartbeats 4000000 in
set_option maxRecDepth 100000 in
theorem kX3_passRule_B7 {p : Program} {l : Launch} {e : Env} {s : State} {m : MethodId} {args : Array Value} {below : List Frame} {meth : Method} {c : Code} {D : va_G} {cy : CY} {A : Nat → Prop} {ad : Nat → Nat} {K7 : Nat → Int32 → Int32 → Int32 → ST → Prop} {Q : Int32 → ST → Prop} (C : kC p m c cX3_passRule 6 s args RX3 D cy A) (hr : meth.sig.returnType = some .boolean) (hlk : meth.locks = false) (g7 : ∀ (t1 : Nat) (x2 : Int32) (x3 : Int32) (x4 : Int32) (u : ST) (H : Heap) (locs : List Loc) (ls : Array Slot), K7 t1 x2 x3 x4 u → t1 < 2 → kH D (cW cy ad) A s u H locs → lv_has ls 6 [(0, .ref (ad 1)), (1, .ref (aT ad t1)), (2, .int x2), (3, .int x3), (4, .int x4)] → W p l e (kRm 4) s m args below meth c H locs 0 0 (MQ below (kQi D (cW cy ad) cy A Q) args s 0 0 A) (F0 m 7 ls [])) : ∀ (t1 : Nat) (x2 : Int32) (x3 : Int32) (x4 : Int32) (u : ST) (H : Heap) (locs : List Loc) (ls : Array Slot), wX3_passRule_B7 K7 Q t1 x2 x3 x4 u → t1 < 2 → kH D (cW cy ad) A s u H locs → lv_has ls 6 [(0, .ref (ad 1)), (1, .ref (aT ad t1)), (2, .int x2), (3, .int x3), (4, .int x4)] → W p l e (kRm 4) s m args below meth c H locs 0 0 (MQ below (kQi D (cW cy ad) cy A Q) args s 0 0 A) (F0 m 7 ls []) := by
  intro t1 x2 x3 x4 u H locs ls hw f_t1 h hl
  obtain ⟨⟨hx, hb, hml, hown, hts⟩, hK, hA⟩ := id C
  unfold wX3_passRule_B7 at hw
  refine lv_iload hx hb dX3_passRule_7 (lv_at hl 4 rfl) ?_
  refine lv_aload_n hx hb dX3_passRule_9 rfl (lv_at hl 1 rfl) ?_
  refine kget C h (2 + t1) (cW_T cy ad u t1 (by omega)) rfl inBX2 0 (Nat.le_of_ble_eq_true rfl) wi_fl_X3_78 rfl dX3_passRule_10 ?_
  refine kget C h (4 + (2 * t1)) (cW_N cy ad u (2 * t1) (by omega)) rfl inBX1 1 (Nat.le_of_ble_eq_true rfl) wi_fl_X3_100 rfl dX3_passRule_13 ?_
  refine lv_icmp_ge (tgt := 128) hx hb dX3_passRule_16 (by decide) (fun c_16 => ?_) (fun c_16 => ?_)
  · have hw := hw.1 c_16
    refine lv_aload_n hx hb dX3_passRule_128 rfl (lv_at hl 0 rfl) ?_
    refine kVi (As := []) (rest := []) C h (cwV 0 hts (gd_V wi_ml_X3_34 wi_im_X3_passName wi_se_X3_passName wi_in_X3 wi_co_X3_passName) rfl rfl rfl hd_X3_passName ⟨Nat.le_of_ble_eq_true rfl, Nat.le_of_ble_eq_true rfl⟩) 1 rfl rfl rfl (mX3_passName l D cy ad  _ _ hw) rfl hl.1 rfl (Nat.le_of_ble_eq_true rfl) ⟨Nat.zero_le _, Nat.zero_le _⟩ dX3_passRule_129 (fun r_1 u_2 H locs hw h => ?_)
    refine lv_if_eq (tgt := 156) hx hb dX3_passRule_132 (by decide) (fun c_132 => ?_) (fun c_132 => ?_)
    · have hw := hw.1 c_132
      refine lv_iconst (v := 0) hx hb dX3_passRule_156 (by decide) ?_
      exact kretZ C hr hlk h (Or.inl rfl) hw dX3_passRule_157
    · have hw := hw.2 c_132
      refine lv_aload_n hx hb dX3_passRule_135 rfl (lv_at hl 0 rfl) ?_
      refine lv_ldc2 hx hb hown (hts _ wi_ld_X3_106) dX3_passRule_136 ?_
      refine kVi (As := [.long 964]) (rest := []) C h (cwV 1 hts (gd_V wi_ml_X3_40 wi_im_X3_isWord wi_se_X3_isWord wi_in_X3 wi_co_X3_isWord) rfl rfl rfl hd_X3_isWord ⟨Nat.le_of_ble_eq_true rfl, Nat.le_of_ble_eq_true rfl⟩) 1 rfl rfl rfl (mX3_isWord l D cy ad 964 _ _ hw) rfl hl.1 rfl (Nat.le_of_ble_eq_true rfl) ⟨Nat.zero_le _, Nat.zero_le _⟩ dX3_passRule_139 (fun r_3 u_4 H locs hw h => ?_)
      refine lv_if_eq (tgt := 156) hx hb dX3_passRule_142 (by decide) (fun c_142 => ?_) (fun c_142 => ?_)
      · have hw := hw.1 c_142
        refine lv_iconst (v := 0) hx hb dX3_passRule_156 (by decide) ?_
        exact kretZ C hr hlk h (Or.inl rfl) hw dX3_passRule_157
      · have hw := hw.2 c_142
        refine lv_aload_n hx hb dX3_passRule_145 rfl (lv_at hl 0 rfl) ?_
        refine lv_aload_n hx hb dX3_passRule_146 rfl (lv_at hl 1 rfl) ?_
        refine kget C h (2 + t1) (cW_T cy ad u_4 t1 (by omega)) rfl inBX2 1 (Nat.le_of_ble_eq_true rfl) wi_fl_X3_108 rfl dX3_passRule_147 ?_
        refine kVi (As := [.ref (aN ad (2 * t1 + 1))]) (rest := []) C h (cwV 1 hts (gd_V wi_ml_X3_111 wi_im_X3_passAction wi_se_X3_passAction wi_in_X3 wi_co_X3_passAction) rfl rfl rfl hd_X3_passAction ⟨Nat.le_of_ble_eq_true rfl, Nat.le_of_ble_eq_true rfl⟩) 1 rfl rfl rfl (mX3_passAction l D cy ad (2 * t1 + 1) _ _ (by omega) hw) rfl hl.1 rfl (Nat.le_of_ble_eq_true rfl) ⟨Nat.zero_le _, Nat.zero_le _⟩ dX3_passRule_150 (fun r_5 u_6 H locs hw h => ?_)
        refine lv_if_ne (tgt := 158) hx hb dX3_passRule_153 (by decide) (fun c_153 => ?_) (fun c_153 => ?_)
        · have hw := hw.1 c_153
          refine lv_aload_n hx hb dX3_passRule_158 rfl (lv_at hl 1 rfl) ?_
          refine lv_iload_n hx hb dX3_passRule_159 rfl (lv_at hl 2 rfl) ?_
          refine lv_iload_n hx hb dX3_passRule_160 rfl (lv_at hl 3 rfl) ?_
          refine lv_aload_n hx hb dX3_passRule_161 rfl (lv_at hl 1 rfl) ?_
          refine kget C h (2 + t1) (cW_T cy ad u_6 t1 (by omega)) rfl inBX2 1 (Nat.le_of_ble_eq_true rfl) wi_fl_X3_108 rfl dX3_passRule_162 ?_
          refine lv_aload_n hx hb dX3_passRule_165 rfl (lv_at hl 0 rfl) ?_
          refine kget C h 1 rfl rfl inBX3 4 (Nat.le_of_ble_eq_true rfl) wi_fl_X3_69 rfl dX3_passRule_166 ?_
          refine kVi (As := [.long (gJ u_6 0)]) (rest := [.int x3, .int x2, .ref (aT ad t1)]) C h (cwV 1 hts (gd_V wi_ml_X3_90 wi_im_X1_find wi_se_X1_find wi_in_X1 wi_co_X1_find) rfl rfl rfl hd_X1_find ⟨Nat.le_of_ble_eq_true rfl, Nat.le_of_ble_eq_true rfl⟩) (4 + (2 * t1 + 1)) (cW_N cy ad u_6 (2 * t1 + 1) (by omega)) rfl rfl (mX1_find l D cy ad (2 * t1 + 1) (gJ u_6 0) _ _ (by omega) hw) rfl hl.1 rfl (Nat.le_of_ble_eq_true rfl) ⟨Nat.zero_le _, Nat.zero_le _⟩ dX3_passRule_169 (fun r_7 u_8 H locs hw h => ?_)
          refine kVv (As := [.int x2, .int x3, .int r_7]) (rest := []) C h (cwV 3 hts (gd_V wi_ml_X3_114 wi_im_X2_add wi_se_X2_add wi_in_X2 wi_co_X2_add) rfl rfl rfl hd_X2_add ⟨Nat.le_of_ble_eq_true rfl, Nat.le_of_ble_eq_true rfl⟩) (2 + t1) (cW_T cy ad u_8 t1 (by omega)) rfl rfl (mX2_add l D cy ad t1 x2 x3 r_7 _ _ (by omega) hw) rfl hl.1 rfl (Nat.le_of_ble_eq_true rfl) ⟨Nat.zero_le _, Nat.zero_le _⟩ dX3_passRule_172 (fun u_10 H locs hw h => ?_)
          refine lv_aload_n hx hb dX3_passRule_175 rfl (lv_at hl 0 rfl) ?_
          refine lv_bipush (v := 59) hx hb dX3_passRule_176 (by decide) ?_
          refine kVi (As := [.int 59]) (rest := []) C h (cwV 1 hts (gd_V wi_ml_X3_86 wi_im_X3_passByte wi_se_X3_passByte wi_in_X3 wi_co_X3_passByte) rfl rfl rfl hd_X3_passByte ⟨Nat.le_of_ble_eq_true rfl, Nat.le_of_ble_eq_true rfl⟩) 1 rfl rfl rfl (mX3_passByte l D cy ad 59 _ _ hw) rfl hl.1 rfl (Nat.le_of_ble_eq_true rfl) ⟨Nat.zero_le _, Nat.zero_le _⟩ dX3_passRule_178 (fun r_11 u_12 H locs hw h => ?_)
          exact kretZ C hr hlk h hw.1 hw.2 dX3_passRule_181
        · have hw := hw.2 c_153
          refine lv_iconst (v := 0) hx hb dX3_passRule_156 (by decide) ?_
          exact kretZ C hr hlk h (Or.inl rfl) hw dX3_passRule_157
  · have hw := hw.2 c_16
    refine lv_aload_n hx hb dX3_passRule_19 rfl (lv_at hl 0 rfl) ?_
    refine kVi (As := []) (rest := []) C h (cwV 0 hts (gd_V wi_ml_X3_58 wi_im_X3_look wi_se_X3_look wi_in_X3 wi_co_X3_look) rfl rfl rfl hd_X3_look ⟨Nat.le_of_ble_eq_true rfl, Nat.le_of_ble_eq_true rfl⟩) 1 rfl rfl rfl (mX3_look l D cy ad  _ _ hw) rfl hl.1 rfl (Nat.le_of_ble_eq_true rfl) ⟨Nat.zero_le _, Nat.zero_le _⟩ dX3_passRule_20 (fun r_13 u_14 H locs hw h => ?_)
    refine lv_istore (lv' := [(5, .int r_13), (0, .ref (ad 1)), (1, .ref (aT ad t1)), (2, .int x2), (3, .int x3), (4, .int x4)]) hx hb dX3_passRule_23 hl (by decide) rfl (fun ls hl => ?_)
    refine lv_iload hx hb dX3_passRule_25 (lv_at hl 0 rfl) ?_
    refine lv_bipush (v := 89) hx hb dX3_passRule_27 (by decide) ?_
    refine lv_icmp_eq (tgt := 56) hx hb dX3_passRule_29 (by decide) (fun c_29 => ?_) (fun c_29 => ?_)
    · have hw := hw.1 c_29
      exact kX3_passRule_b56 C hr hlk g7 t1 x2 x3 x4 r_13 _ _ _ _ hw (by omega) h (lv_sub hl [1, 2, 3, 4, 5, 0] rfl)
    · have hw := hw.2 c_29
      refine lv_iload hx hb dX3_passRule_32 (lv_at hl 0 rfl) ?_
      refine lv_bipush (v := 78) hx hb dX3_passRule_34 (by decide) ?_
      refine lv_icmp_eq (tgt := 56) hx hb dX3_passRule_36 (by decide) (fun c_36 => ?_) (fun c_36 => ?_)
      · have hw := hw.1 c_36
        exact kX3_passRule_b56 C hr hlk g7 t1 x2 x3 x4 r_13 _ _ _ _ hw (by omega) h (lv_sub hl [1, 2, 3, 4, 5, 0] rfl)
      · have hw := hw.2 c_36
        refine lv_iload hx hb dX3_passRule_39 (lv_at hl 0 rfl) ?_
        refine lv_bipush (v := 45) hx hb dX3_passRule_41 (by decide) ?_
        refine lv_icmp_eq (tgt := 56) hx hb dX3_passRule_43 (by decide) (fun c_43 => ?_) (fun c_43 => ?_)
        · have hw := hw.1 c_43
          exact kX3_passRule_b56 C hr hlk g7 t1 x2 x3 x4 r_13 _ _ _ _ hw (by omega) h (lv_sub hl [1, 2, 3, 4, 5, 0] rfl)
        · have hw := hw.2 c_43
          refine lv_aload_n hx hb dX3_passRule_46 rfl (lv_at hl 1 rfl) ?_
          refine lv_iconst (v := 1) hx hb dX3_passRule_47 (by decide) ?_
          refine lv_aload_n hx hb dX3_passRule_48 rfl (lv_at hl 1 rfl) ?_
          refine kget C h 1 rfl rfl inBX3 2 (Nat.le_of_ble_eq_true rfl) wi_fl_X3_23 rfl dX3_passRule_49 ?_
          refine kVi (As := [.int 1, .int (gI u_14 6)]) (rest := []) C h (cwV 2 hts (gd_V wi_ml_X3_62 wi_im_X3_fail wi_se_X3_fail wi_in_X3 wi_co_X3_fail) rfl rfl rfl hd_X3_fail ⟨Nat.le_of_ble_eq_true rfl, Nat.le_of_ble_eq_true rfl⟩) 1 rfl rfl rfl (mX3_fail l D cy ad 1 (gI u_14 6) _ _ hw) rfl hl.1 rfl (Nat.le_of_ble_eq_true rfl) ⟨Nat.zero_le _, Nat.zero_le _⟩ dX3_passRule_52 (fun r_15 u_16 H locs hw h => ?_)
          exact kretZ C hr hlk h hw.1 hw.2 dX3_passRule_55
def wX3_passRule_L7 (Q : Int32 → ST → Prop) : Nat → Nat → Int32 → Int32 → Int32 → ST → Prop
  | 0, _, _, _, _, _ => False
  | n + 1, t1, x2, x3, x4, u => wX3_passRule_B7 (wX3_passRule_L7 Q n) Q t1 x2 x3 x4 u
set_option maxHeartbeats 4000000 in
theorem kX3_passRule_L7 {p : Program} {l : Launch} {e : Env} {s : State} {m : MethodId} {args : Array Value} {below : List Frame} {meth : Method} {c : Code} {D : va_G} {cy : CY} {A : Nat → Prop} {ad : Nat → Nat} {Q : Int32 → ST → Prop} (C : kC p m c cX3_passRule 6 s args RX3 D cy A) (hr : meth.sig.returnType = some .boolean) (hlk : meth.locks = false) : ∀ n : Nat, ∀ (t1 : Nat) (x2 : Int32) (x3 : Int32) (x4 : Int32) (u : ST) (H : Heap) (locs : List Loc) (ls : Array Slot), wX3_passRule_L7 Q n t1 x2 x3 x4 u → t1 < 2 → kH D (cW cy ad) A s u H locs → lv_has ls 6 [(0, .ref (ad 1)), (1, .ref (aT ad t1)), (2, .int x2), (3, .int x3), (4, .int x4)] → W p l e (kRm 4) s m args below meth c H locs 0 0 (MQ below (kQi D (cW cy ad) cy A Q) args s 0 0 A) (F0 m 7 ls []) := by
  intro n
  induction n with
  | zero => intro t1 x2 x3 x4 u H locs ls hw; exact False.elim hw
  | succ n ih => exact kX3_passRule_B7 C hr hlk ih
def wX3_passRule (t1 : Nat) (u : ST) (Q : Int32 → ST → Prop) : Prop :=
  (∃ n : Nat, wX3_passRule_L7 Q n t1 0 0 0 u)
set_option maxHeartbeats 4000000 in
set_option maxRecDepth 100000 in
theorem mX3_passRule (l : Launch) (D : va_G) (cy : CY) (ad : Nat → Nat) (t1 : Nat) (u : ST) (sz : Nat) {Q : Int32 → ST → Prop} (f_t1 : t1 < 2) (hw : wX3_passRule t1 u Q) : Met l yX3_passRule (wM yX3_passRule cX3_passRule 6 (some .boolean)) (kRm 4) (kPc D (cW cy ad) cy u sz [.ref (ad 1), .ref (aT ad t1)]) (kQi D (cW cy ad) cy (va_A (cW cy ad u) sz) Q) 0 0 (va_A (cW cy ad u) sz) := by
  refine kMet pn_X3_passRule (Nat.le_of_ble_eq_true rfl) (fun p e s m below meth c ls hsz C hr hlk hex h hl => ?_)
  have hl : lv_has ls 6 [(0, .ref (ad 1)), (1, .ref (aT ad t1))] := hl
  obtain ⟨⟨hx, hb, hml, hown, hts⟩, hK, hA⟩ := id C
  unfold wX3_passRule at hw
  have h : kH D (cW cy ad) (va_A (cW cy ad u) sz) s u s.heap [] := h
  refine lv_iconst (v := 0) hx hb dX3_passRule_0 (by decide) ?_
  refine lv_istore_n (lv' := [(2, .int 0), (0, .ref (ad 1)), (1, .ref (aT ad t1))]) hx hb dX3_passRule_1 rfl hl (by decide) rfl (fun ls hl => ?_)
  refine lv_iconst (v := 0) hx hb dX3_passRule_2 (by decide) ?_
  refine lv_istore_n (lv' := [(3, .int 0), (2, .int 0), (0, .ref (ad 1)), (1, .ref (aT ad t1))]) hx hb dX3_passRule_3 rfl hl (by decide) rfl (fun ls hl => ?_)
  refine lv_iconst (v := 0) hx hb dX3_passRule_4 (by decide) ?_
  refine lv_istore (lv' := [(4, .int 0), (3, .int 0), (2, .int 0), (0, .ref (ad 1)), (1, .ref (aT ad t1))]) hx hb dX3_passRule_5 hl (by decide) rfl (fun ls hl => ?_)
  obtain ⟨n, hw⟩ := hw
  exact kX3_passRule_L7 C hr hlk n t1 0 0 0 _ _ _ _ hw (by omega) h (lv_sub hl [3, 4, 2, 1, 0] rfl)

def wX3_passRules_b23 (K2 : Nat → Int32 → ST → Prop) (Q : Int32 → ST → Prop) (t1 : Nat) (x2 : Int32) (u : ST) : Prop :=
  wX3_passRule t1 u (fun r_1 u_2 => ((¬ r_1 = 0 → K2 t1 (x2 + 1) u_2) ∧ (r_1 = 0 → Q 0 u_2)))
set_option maxHeartbeats 4000000 in
set_option maxRecDepth 100000 in
theorem kX3_passRules_b23 {p : Program} {l : Launch} {e : Env} {s : State} {m : MethodId} {args : Array Value} {below : List Frame} {meth : Method} {c : Code} {D : va_G} {cy : CY} {A : Nat → Prop} {ad : Nat → Nat} {K2 : Nat → Int32 → ST → Prop} {Q : Int32 → ST → Prop} (C : kC p m c cX3_passRules 3 s args RX3 D cy A) (hr : meth.sig.returnType = some .boolean) (hlk : meth.locks = false) (g2 : ∀ (t1 : Nat) (x2 : Int32) (u : ST) (H : Heap) (locs : List Loc) (ls : Array Slot), K2 t1 x2 u → t1 < 2 → kH D (cW cy ad) A s u H locs → lv_has ls 3 [(0, .ref (ad 1)), (1, .ref (aT ad t1)), (2, .int x2)] → W p l e (kRm 5) s m args below meth c H locs 0 0 (MQ below (kQi D (cW cy ad) cy A Q) args s 0 0 A) (F0 m 2 ls [])) : ∀ (t1 : Nat) (x2 : Int32) (u : ST) (H : Heap) (locs : List Loc) (ls : Array Slot), wX3_passRules_b23 K2 Q t1 x2 u → t1 < 2 → kH D (cW cy ad) A s u H locs → lv_has ls 3 [(0, .ref (ad 1)), (1, .ref (aT ad t1)), (2, .int x2)] → W p l e (kRm 5) s m args below meth c H locs 0 0 (MQ below (kQi D (cW cy ad) cy A Q) args s 0 0 A) (F0 m 23 ls []) := by
  intro t1 x2 u H locs ls hw f_t1 h hl
  obtain ⟨⟨hx, hb, hml, hown, hts⟩, hK, hA⟩ := id C
  unfold wX3_passRules_b23 at hw
  refine lv_aload_n hx hb dX3_passRules_23 rfl (lv_at hl 0 rfl) ?_
  refine lv_aload_n hx hb dX3_passRules_24 rfl (lv_at hl 1 rfl) ?_
  refine kVi (As := [.ref (aT ad t1)]) (rest := []) C h (cwV 1 hts (gd_V wi_ml_X3_97 wi_im_X3_passRule wi_se_X3_passRule wi_in_X3 wi_co_X3_passRule) rfl rfl rfl hd_X3_passRule ⟨Nat.le_of_ble_eq_true rfl, Nat.le_of_ble_eq_true rfl⟩) 1 rfl rfl rfl (mX3_passRule l D cy ad t1 _ _ (by omega) hw) rfl hl.1 rfl (Nat.le_of_ble_eq_true rfl) ⟨Nat.zero_le _, Nat.zero_le _⟩ dX3_passRules_25 (fun r_1 u_2 H locs hw h => ?_)
  refine lv_if_ne (tgt := 33) hx hb dX3_passRules_28 (by decide) (fun c_28 => ?_) (fun c_28 => ?_)
  · have hw := hw.1 c_28
    refine lv_iinc (v := x2 + 1) (lv' := [(2, .int (x2 + 1)), (0, .ref (ad 1)), (1, .ref (aT ad t1))]) hx hb dX3_passRules_33 hl (k := 2) rfl rfl (by decide) rfl (fun ls hl => ?_)
    refine lv_goto (tgt := 2) hx hb dX3_passRules_36 (by decide) ?_
    exact g2 t1 (x2 + 1) _ _ _ _ hw (by omega) h (lv_sub hl [1, 2, 0] rfl)
  · have hw := hw.2 c_28
    refine lv_iconst (v := 0) hx hb dX3_passRules_31 (by decide) ?_
    exact kretZ C hr hlk h (Or.inl rfl) hw dX3_passRules_32
def wX3_passRules_B2 (K2 : Nat → Int32 → ST → Prop) (Q : Int32 → ST → Prop) (t1 : Nat) (x2 : Int32) (u : ST) : Prop :=
  ((256 < x2 → wX3_fail 3 (gI u 6) u (fun r_1 u_2 => ((r_1 = 0 ∨ r_1 = 1) ∧ Q r_1 u_2))) ∧ (¬ 256 < x2 → ((x2 ≤ 0 → wX3_passRules_b23 K2 Q t1 x2 u) ∧ (¬ x2 ≤ 0 → wX3_look  u (fun r_3 u_4 => ((¬ r_3 = (-1) → wX3_passRules_b23 K2 Q t1 x2 u_4) ∧ (r_3 = (-1) → Q 1 u_4)))))))
set_option maxHeartbeats 4000000 in
set_option maxRecDepth 100000 in
theorem kX3_passRules_B2 {p : Program} {l : Launch} {e : Env} {s : State} {m : MethodId} {args : Array Value} {below : List Frame} {meth : Method} {c : Code} {D : va_G} {cy : CY} {A : Nat → Prop} {ad : Nat → Nat} {K2 : Nat → Int32 → ST → Prop} {Q : Int32 → ST → Prop} (C : kC p m c cX3_passRules 3 s args RX3 D cy A) (hr : meth.sig.returnType = some .boolean) (hlk : meth.locks = false) (g2 : ∀ (t1 : Nat) (x2 : Int32) (u : ST) (H : Heap) (locs : List Loc) (ls : Array Slot), K2 t1 x2 u → t1 < 2 → kH D (cW cy ad) A s u H locs → lv_has ls 3 [(0, .ref (ad 1)), (1, .ref (aT ad t1)), (2, .int x2)] → W p l e (kRm 5) s m args below meth c H locs 0 0 (MQ below (kQi D (cW cy ad) cy A Q) args s 0 0 A) (F0 m 2 ls [])) : ∀ (t1 : Nat) (x2 : Int32) (u : ST) (H : Heap) (locs : List Loc) (ls : Array Slot), wX3_passRules_B2 K2 Q t1 x2 u → t1 < 2 → kH D (cW cy ad) A s u H locs → lv_has ls 3 [(0, .ref (ad 1)), (1, .ref (aT ad t1)), (2, .int x2)] → W p l e (kRm 5) s m args below meth c H locs 0 0 (MQ below (kQi D (cW cy ad) cy A Q) args s 0 0 A) (F0 m 2 ls []) := by
  intro t1 x2 u H locs ls hw f_t1 h hl
  obtain ⟨⟨hx, hb, hml, hown, hts⟩, hK, hA⟩ := id C
  unfold wX3_passRules_B2 at hw
  refine lv_iload_n hx hb dX3_passRules_2 rfl (lv_at hl 2 rfl) ?_
  refine lv_sipush (v := 256) hx hb dX3_passRules_3 (by decide) ?_
  refine lv_icmp_gt (tgt := 39) hx hb dX3_passRules_6 (by decide) (fun c_6 => ?_) (fun c_6 => ?_)
  · have hw := hw.1 c_6
    refine lv_aload_n hx hb dX3_passRules_39 rfl (lv_at hl 0 rfl) ?_
    refine lv_iconst (v := 3) hx hb dX3_passRules_40 (by decide) ?_
    refine lv_aload_n hx hb dX3_passRules_41 rfl (lv_at hl 0 rfl) ?_
    refine kget C h 1 rfl rfl inBX3 2 (Nat.le_of_ble_eq_true rfl) wi_fl_X3_23 rfl dX3_passRules_42 ?_
    refine kVi (As := [.int 3, .int (gI u 6)]) (rest := []) C h (cwV 2 hts (gd_V wi_ml_X3_62 wi_im_X3_fail wi_se_X3_fail wi_in_X3 wi_co_X3_fail) rfl rfl rfl hd_X3_fail ⟨Nat.le_of_ble_eq_true rfl, Nat.le_of_ble_eq_true rfl⟩) 1 rfl rfl rfl (mX3_fail l D cy ad 3 (gI u 6) _ _ hw) rfl hl.1 rfl (Nat.le_of_ble_eq_true rfl) ⟨Nat.zero_le _, Nat.zero_le _⟩ dX3_passRules_45 (fun r_1 u_2 H locs hw h => ?_)
    exact kretZ C hr hlk h hw.1 hw.2 dX3_passRules_48
  · have hw := hw.2 c_6
    refine lv_iload_n hx hb dX3_passRules_9 rfl (lv_at hl 2 rfl) ?_
    refine lv_if_le (tgt := 23) hx hb dX3_passRules_10 (by decide) (fun c_10 => ?_) (fun c_10 => ?_)
    · have hw := hw.1 c_10
      exact kX3_passRules_b23 C hr hlk g2 t1 x2 _ _ _ _ hw (by omega) h (lv_sub hl [0, 1, 2] rfl)
    · have hw := hw.2 c_10
      refine lv_aload_n hx hb dX3_passRules_13 rfl (lv_at hl 0 rfl) ?_
      refine kVi (As := []) (rest := []) C h (cwV 0 hts (gd_V wi_ml_X3_58 wi_im_X3_look wi_se_X3_look wi_in_X3 wi_co_X3_look) rfl rfl rfl hd_X3_look ⟨Nat.le_of_ble_eq_true rfl, Nat.le_of_ble_eq_true rfl⟩) 1 rfl rfl rfl (mX3_look l D cy ad  _ _ hw) rfl hl.1 rfl (Nat.le_of_ble_eq_true rfl) ⟨Nat.zero_le _, Nat.zero_le _⟩ dX3_passRules_14 (fun r_3 u_4 H locs hw h => ?_)
      refine lv_iconst (v := (-1)) hx hb dX3_passRules_17 (by decide) ?_
      refine lv_icmp_ne (tgt := 23) hx hb dX3_passRules_18 (by decide) (fun c_18 => ?_) (fun c_18 => ?_)
      · have hw := hw.1 c_18
        exact kX3_passRules_b23 C hr hlk g2 t1 x2 _ _ _ _ hw (by omega) h (lv_sub hl [0, 1, 2] rfl)
      · have hw := hw.2 c_18
        refine lv_iconst (v := 1) hx hb dX3_passRules_21 (by decide) ?_
        exact kretZ C hr hlk h (Or.inr rfl) hw dX3_passRules_22
def wX3_passRules_L2 (Q : Int32 → ST → Prop) : Nat → Nat → Int32 → ST → Prop
  | 0, _, _, _ => False
  | n + 1, t1, x2, u => wX3_passRules_B2 (wX3_passRules_L2 Q n) Q t1 x2 u
set_option maxHeartbeats 4000000 in
theorem kX3_passRules_L2 {p : Program} {l : Launch} {e : Env} {s : State} {m : MethodId} {args : Array Value} {below : List Frame} {meth : Method} {c : Code} {D : va_G} {cy : CY} {A : Nat → Prop} {ad : Nat → Nat} {Q : Int32 → ST → Prop} (C : kC p m c cX3_passRules 3 s args RX3 D cy A) (hr : meth.sig.returnType = some .boolean) (hlk : meth.locks = false) : ∀ n : Nat, ∀ (t1 : Nat) (x2 : Int32) (u : ST) (H : Heap) (locs : List Loc) (ls : Array Slot), wX3_passRules_L2 Q n t1 x2 u → t1 < 2 → kH D (cW cy ad) A s u H locs → lv_has ls 3 [(0, .ref (ad 1)), (1, .ref (aT ad t1)), (2, .int x2)] → W p l e (kRm 5) s m args below meth c H locs 0 0 (MQ below (kQi D (cW cy ad) cy A Q) args s 0 0 A) (F0 m 2 ls []) := by
  intro n
  induction n with
  | zero => intro t1 x2 u H locs ls hw; exact False.elim hw
  | succ n ih => exact kX3_passRules_B2 C hr hlk ih
def wX3_passRules (t1 : Nat) (u : ST) (Q : Int32 → ST → Prop) : Prop :=
  (∃ n : Nat, wX3_passRules_L2 Q n t1 0 u)
set_option maxHeartbeats 4000000 in
set_option maxRecDepth 100000 in
theorem mX3_passRules (l : Launch) (D : va_G) (cy : CY) (ad : Nat → Nat) (t1 : Nat) (u : ST) (sz : Nat) {Q : Int32 → ST → Prop} (f_t1 : t1 < 2) (hw : wX3_passRules t1 u Q) : Met l yX3_passRules (wM yX3_passRules cX3_passRules 3 (some .boolean)) (kRm 5) (kPc D (cW cy ad) cy u sz [.ref (ad 1), .ref (aT ad t1)]) (kQi D (cW cy ad) cy (va_A (cW cy ad u) sz) Q) 0 0 (va_A (cW cy ad u) sz) := by
  refine kMet pn_X3_passRules (Nat.le_of_ble_eq_true rfl) (fun p e s m below meth c ls hsz C hr hlk hex h hl => ?_)
  have hl : lv_has ls 3 [(0, .ref (ad 1)), (1, .ref (aT ad t1))] := hl
  obtain ⟨⟨hx, hb, hml, hown, hts⟩, hK, hA⟩ := id C
  unfold wX3_passRules at hw
  have h : kH D (cW cy ad) (va_A (cW cy ad u) sz) s u s.heap [] := h
  refine lv_iconst (v := 0) hx hb dX3_passRules_0 (by decide) ?_
  refine lv_istore_n (lv' := [(2, .int 0), (0, .ref (ad 1)), (1, .ref (aT ad t1))]) hx hb dX3_passRules_1 rfl hl (by decide) rfl (fun ls hl => ?_)
  obtain ⟨n, hw⟩ := hw
  exact kX3_passRules_L2 C hr hlk n t1 0 _ _ _ _ hw (by omega) h (lv_sub hl [1, 2, 0] rfl)

def wX3_parse (t1 : Nat) (u : ST) (Q : Int32 → ST → Prop) : Prop :=
  wX2_clear t1 (sI (sI u 6 0) 8 0) (fun u_2 => wX3_passName  u_2 (fun r_3 u_4 => ((r_3 = 0 → Q 0 u_4) ∧ (¬ r_3 = 0 → wX3_isWord 393 u_4 (fun r_5 u_6 => ((r_5 = 0 → Q 0 u_6) ∧ (¬ r_5 = 0 → wX3_passConditions t1 u_6 (fun r_7 u_8 => ((r_7 = 0 → Q 0 u_8) ∧ (¬ r_7 = 0 → wX3_passRules t1 u_8 (fun r_9 u_10 => ((r_9 = 0 → Q 0 u_10) ∧ (¬ r_9 = 0 → Q 1 u_10)))))))))))))
set_option maxHeartbeats 4000000 in
set_option maxRecDepth 100000 in
theorem mX3_parse (l : Launch) (D : va_G) (cy : CY) (ad : Nat → Nat) (t1 : Nat) (u : ST) (sz : Nat) {Q : Int32 → ST → Prop} (f_t1 : t1 < 2) (hw : wX3_parse t1 u Q) : Met l yX3_parse (wM yX3_parse cX3_parse 2 (some .boolean)) (kRm 6) (kPc D (cW cy ad) cy u sz [.ref (ad 1), .ref (aT ad t1)]) (kQi D (cW cy ad) cy (va_A (cW cy ad u) sz) Q) 0 0 (va_A (cW cy ad u) sz) := by
  refine kMet pn_X3_parse (Nat.le_of_ble_eq_true rfl) (fun p e s m below meth c ls hsz C hr hlk hex h hl => ?_)
  have hl : lv_has ls 2 [(0, .ref (ad 1)), (1, .ref (aT ad t1))] := hl
  obtain ⟨⟨hx, hb, hml, hown, hts⟩, hK, hA⟩ := id C
  unfold wX3_parse at hw
  have h : kH D (cW cy ad) (va_A (cW cy ad u) sz) s u s.heap [] := h
  refine lv_aload_n hx hb dX3_parse_0 rfl (lv_at hl 0 rfl) ?_
  refine lv_iconst (v := 0) hx hb dX3_parse_1 (by decide) ?_
  refine kput C h 1 rfl rfl inBX3 tyX3_ok nmX3 2 (Nat.le_of_ble_eq_true rfl) wi_fl_X3_23 rfl rfl rfl (Nat.le_of_ble_eq_true rfl) (cS_TP_2 cy ad u 0) dX3_parse_2 (fun H locs h => ?_)
  refine lv_aload_n hx hb dX3_parse_5 rfl (lv_at hl 0 rfl) ?_
  refine lv_iconst (v := 0) hx hb dX3_parse_6 (by decide) ?_
  refine kput C h 1 rfl rfl inBX3 tyX3_ok nmX3 5 (Nat.le_of_ble_eq_true rfl) wi_fl_X3_26 rfl rfl rfl (Nat.le_of_ble_eq_true rfl) (cS_TP_5 cy ad (sI u 6 0) 0) dX3_parse_7 (fun H locs h => ?_)
  refine lv_aload_n hx hb dX3_parse_10 rfl (lv_at hl 1 rfl) ?_
  refine kVv (As := []) (rest := []) C h (cwV 0 hts (gd_V wi_ml_X3_29 wi_im_X2_clear wi_se_X2_clear wi_in_X2 wi_co_X2_clear) rfl rfl rfl hd_X2_clear ⟨Nat.le_of_ble_eq_true rfl, Nat.le_of_ble_eq_true rfl⟩) (2 + t1) (cW_T cy ad (sI (sI u 6 0) 8 0) t1 (by omega)) rfl rfl (mX2_clear l D cy ad t1 _ _ (by omega) hw) rfl hl.1 rfl (Nat.le_of_ble_eq_true rfl) ⟨Nat.zero_le _, Nat.zero_le _⟩ dX3_parse_11 (fun u_2 H locs hw h => ?_)
  refine lv_aload_n hx hb dX3_parse_14 rfl (lv_at hl 0 rfl) ?_
  refine kVi (As := []) (rest := []) C h (cwV 0 hts (gd_V wi_ml_X3_34 wi_im_X3_passName wi_se_X3_passName wi_in_X3 wi_co_X3_passName) rfl rfl rfl hd_X3_passName ⟨Nat.le_of_ble_eq_true rfl, Nat.le_of_ble_eq_true rfl⟩) 1 rfl rfl rfl (mX3_passName l D cy ad  _ _ hw) rfl hl.1 rfl (Nat.le_of_ble_eq_true rfl) ⟨Nat.zero_le _, Nat.zero_le _⟩ dX3_parse_15 (fun r_3 u_4 H locs hw h => ?_)
  refine lv_if_eq (tgt := 51) hx hb dX3_parse_18 (by decide) (fun c_18 => ?_) (fun c_18 => ?_)
  · have hw := hw.1 c_18
    refine lv_iconst (v := 0) hx hb dX3_parse_51 (by decide) ?_
    exact kretZ C hr hlk h (Or.inl rfl) hw dX3_parse_52
  · have hw := hw.2 c_18
    refine lv_aload_n hx hb dX3_parse_21 rfl (lv_at hl 0 rfl) ?_
    refine lv_ldc2 hx hb hown (hts _ wi_ld_X3_38) dX3_parse_22 ?_
    refine kVi (As := [.long 393]) (rest := []) C h (cwV 1 hts (gd_V wi_ml_X3_40 wi_im_X3_isWord wi_se_X3_isWord wi_in_X3 wi_co_X3_isWord) rfl rfl rfl hd_X3_isWord ⟨Nat.le_of_ble_eq_true rfl, Nat.le_of_ble_eq_true rfl⟩) 1 rfl rfl rfl (mX3_isWord l D cy ad 393 _ _ hw) rfl hl.1 rfl (Nat.le_of_ble_eq_true rfl) ⟨Nat.zero_le _, Nat.zero_le _⟩ dX3_parse_25 (fun r_5 u_6 H locs hw h => ?_)
    refine lv_if_eq (tgt := 51) hx hb dX3_parse_28 (by decide) (fun c_28 => ?_) (fun c_28 => ?_)
    · have hw := hw.1 c_28
      refine lv_iconst (v := 0) hx hb dX3_parse_51 (by decide) ?_
      exact kretZ C hr hlk h (Or.inl rfl) hw dX3_parse_52
    · have hw := hw.2 c_28
      refine lv_aload_n hx hb dX3_parse_31 rfl (lv_at hl 0 rfl) ?_
      refine lv_aload_n hx hb dX3_parse_32 rfl (lv_at hl 1 rfl) ?_
      refine kVi (As := [.ref (aT ad t1)]) (rest := []) C h (cwV 1 hts (gd_V wi_ml_X3_44 wi_im_X3_passConditions wi_se_X3_passConditions wi_in_X3 wi_co_X3_passConditions) rfl rfl rfl hd_X3_passConditions ⟨Nat.le_of_ble_eq_true rfl, Nat.le_of_ble_eq_true rfl⟩) 1 rfl rfl rfl (mX3_passConditions l D cy ad t1 _ _ (by omega) hw) rfl hl.1 rfl (Nat.le_of_ble_eq_true rfl) ⟨Nat.zero_le _, Nat.zero_le _⟩ dX3_parse_33 (fun r_7 u_8 H locs hw h => ?_)
      refine lv_if_eq (tgt := 51) hx hb dX3_parse_36 (by decide) (fun c_36 => ?_) (fun c_36 => ?_)
      · have hw := hw.1 c_36
        refine lv_iconst (v := 0) hx hb dX3_parse_51 (by decide) ?_
        exact kretZ C hr hlk h (Or.inl rfl) hw dX3_parse_52
      · have hw := hw.2 c_36
        refine lv_aload_n hx hb dX3_parse_39 rfl (lv_at hl 0 rfl) ?_
        refine lv_aload_n hx hb dX3_parse_40 rfl (lv_at hl 1 rfl) ?_
        refine kVi (As := [.ref (aT ad t1)]) (rest := []) C h (cwV 1 hts (gd_V wi_ml_X3_48 wi_im_X3_passRules wi_se_X3_passRules wi_in_X3 wi_co_X3_passRules) rfl rfl rfl hd_X3_passRules ⟨Nat.le_of_ble_eq_true rfl, Nat.le_of_ble_eq_true rfl⟩) 1 rfl rfl rfl (mX3_passRules l D cy ad t1 _ _ (by omega) hw) rfl hl.1 rfl (Nat.le_of_ble_eq_true rfl) ⟨Nat.zero_le _, Nat.zero_le _⟩ dX3_parse_41 (fun r_9 u_10 H locs hw h => ?_)
        refine lv_if_eq (tgt := 51) hx hb dX3_parse_44 (by decide) (fun c_44 => ?_) (fun c_44 => ?_)
        · have hw := hw.1 c_44
          refine lv_iconst (v := 0) hx hb dX3_parse_51 (by decide) ?_
          exact kretZ C hr hlk h (Or.inl rfl) hw dX3_parse_52
        · have hw := hw.2 c_44
          refine lv_iconst (v := 1) hx hb dX3_parse_47 (by decide) ?_
          refine lv_goto (tgt := 52) hx hb dX3_parse_48 (by decide) ?_
          exact kretZ C hr hlk h (Or.inr rfl) hw dX3_parse_52
