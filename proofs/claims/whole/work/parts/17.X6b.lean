theorem xat_51 : ∀ w ∈ vx_atS RX6 51 xIAE xNames, w ∈ wB ∨ (∃ n ∈ xDecl, w = .declares ⟨n, "<init>", "(Ljava/lang/String;)V"⟩) ∨ (∃ n ∈ xCast, w = .castable n n) := xat (by decide +kernel)
theorem xgo_47_51 : ∀ w ∈ Cond.classLink RX6 47 xIAE :: Cond.initialized xIAE :: vx_atS RX6 51 xIAE xNames, vx_ot w = true := by decide +kernel
theorem xat_62 : ∀ w ∈ vx_atS RX6 62 xUOE xNames, w ∈ wB ∨ (∃ n ∈ xDecl, w = .declares ⟨n, "<init>", "(Ljava/lang/String;)V"⟩) ∨ (∃ n ∈ xCast, w = .castable n n) := xat (by decide +kernel)
theorem xgo_58_62 : ∀ w ∈ Cond.classLink RX6 58 xUOE :: Cond.initialized xUOE :: vx_atS RX6 62 xUOE xNames, vx_ot w = true := by decide +kernel
theorem xat_106 : ∀ w ∈ vx_atS RX6 106 xIOB xNames, w ∈ wB ∨ (∃ n ∈ xDecl, w = .declares ⟨n, "<init>", "(Ljava/lang/String;)V"⟩) ∨ (∃ n ∈ xCast, w = .castable n n) := xat (by decide +kernel)
theorem xgo_102_106 : ∀ w ∈ Cond.classLink RX6 102 xIOB :: Cond.initialized xIOB :: vx_atS RX6 106 xIOB xNames, vx_ot w = true := by decide +kernel
theorem xat_203 : ∀ w ∈ vx_atS RX6 203 xISE xNames, w ∈ wB ∨ (∃ n ∈ xDecl, w = .declares ⟨n, "<init>", "(Ljava/lang/String;)V"⟩) ∨ (∃ n ∈ xCast, w = .castable n n) := xat (by decide +kernel)
theorem xgo_199_203 : ∀ w ∈ Cond.classLink RX6 199 xISE :: Cond.initialized xISE :: vx_atS RX6 203 xISE xNames, vx_ot w = true := by decide +kernel
def wX6_needTable (u : ST) (Q : ST → Prop) (X : String → ST → Prop) : Prop :=
  ((¬ (gI u 0) = 0 → Q u) ∧ ((gI u 0) = 0 → X xISE u))
set_option maxHeartbeats 4000000 in
set_option maxRecDepth 100000 in
theorem mX6_needTable (l : Launch) (hst : l.stackTraces = false) (D : va_G) (cy : CY) (ad sa : Nat → Nat) (u : ST) (sz : Nat) {Q : ST → Prop} {X : String → ST → Prop} (hw : wX6_needTable  u Q X) : vx_Met l yX6_needTable (wM yX6_needTable cX6_needTable 1 none) (kRx 6 1 6) (kPx D (cW cy ad) cy sa u sz [.ref (ad 0)]) (kQv D (cW cy ad) cy (va_A (cW cy ad u) sz) Q) (kXC D (cW cy ad) cy (va_A (cW cy ad u) sz) X) 1 6 (va_A (cW cy ad u) sz) := by
  refine kMetX pn_X6_needTable (Nat.le_of_ble_eq_true rfl) (fun p e s m below meth c ls hsz C hT hr hlk hex h hl => ?_)
  have hl : lv_has ls 1 [(0, .ref (ad 0))] := hl
  obtain ⟨⟨hx, hb, hml, hown, hts⟩, hK, hA⟩ := id C
  unfold wX6_needTable at hw
  have h : kH D (cW cy ad) (va_A (cW cy ad u) sz) s u s.heap [] := h
  refine lv_aload_n hx hb dX6_needTable_0 rfl (lv_at hl 0 rfl) ?_
  refine kget C h 0 rfl rfl inBX6 3 (Nat.le_of_ble_eq_true rfl) wi_fl_X6_82 rfl dX6_needTable_1 ?_
  refine lv_if_ne (tgt := 17) hx hb dX6_needTable_4 (by decide) (fun c_4 => ?_) (fun c_4 => ?_)
  · have hw := hw.1 c_4
    exact kxretV C hr hlk h hw (by decide) (by decide) dX6_needTable_17
  · have hw := hw.2 c_4
    exact kthrow C hst hT h xISE hw xfit_ISE wi_cl_X6_199 xini_ISE (is := 201) (List.mem_of_getElem? (i := 3) rfl) xat_203 xgo_199_203 hl.1 dX6_needTable_7 dX6_needTable_10 dX6_needTable_11 dX6_needTable_13 dX6_needTable_16 hex (by decide) (by decide) (by decide) (by decide) hlk (by decide) (by decide)

def wX6_needTree (u : ST) (Q : ST → Prop) (X : String → ST → Prop) : Prop :=
  ((¬ (gI u 17) = 0 → Q u) ∧ ((gI u 17) = 0 → X xISE u))
set_option maxHeartbeats 4000000 in
set_option maxRecDepth 100000 in
theorem mX6_needTree (l : Launch) (hst : l.stackTraces = false) (D : va_G) (cy : CY) (ad sa : Nat → Nat) (u : ST) (sz : Nat) {Q : ST → Prop} {X : String → ST → Prop} (hw : wX6_needTree  u Q X) : vx_Met l yX6_needTree (wM yX6_needTree cX6_needTree 1 none) (kRx 6 1 6) (kPx D (cW cy ad) cy sa u sz [.ref (ad 0)]) (kQv D (cW cy ad) cy (va_A (cW cy ad u) sz) Q) (kXC D (cW cy ad) cy (va_A (cW cy ad u) sz) X) 1 6 (va_A (cW cy ad u) sz) := by
  refine kMetX pn_X6_needTree (Nat.le_of_ble_eq_true rfl) (fun p e s m below meth c ls hsz C hT hr hlk hex h hl => ?_)
  have hl : lv_has ls 1 [(0, .ref (ad 0))] := hl
  obtain ⟨⟨hx, hb, hml, hown, hts⟩, hK, hA⟩ := id C
  unfold wX6_needTree at hw
  have h : kH D (cW cy ad) (va_A (cW cy ad u) sz) s u s.heap [] := h
  refine lv_aload_n hx hb dX6_needTree_0 rfl (lv_at hl 0 rfl) ?_
  refine kget C h 0 rfl rfl inBX6 9 (Nat.le_of_ble_eq_true rfl) wi_fl_X6_36 rfl dX6_needTree_1 ?_
  refine kget C h 9 rfl rfl inBX4 2 (Nat.le_of_ble_eq_true rfl) wi_fl_X6_122 rfl dX6_needTree_4 ?_
  refine lv_if_ne (tgt := 20) hx hb dX6_needTree_7 (by decide) (fun c_7 => ?_) (fun c_7 => ?_)
  · have hw := hw.1 c_7
    exact kxretV C hr hlk h hw (by decide) (by decide) dX6_needTree_20
  · have hw := hw.2 c_7
    exact kthrow C hst hT h xISE hw xfit_ISE wi_cl_X6_199 xini_ISE (is := 204) (List.mem_of_getElem? (i := 11) rfl) xat_203 xgo_199_203 hl.1 dX6_needTree_10 dX6_needTree_13 dX6_needTree_14 dX6_needTree_16 dX6_needTree_19 hex (by decide) (by decide) (by decide) (by decide) hlk (by decide) (by decide)

def wX6_needCase_b15 (Q : ST → Prop) (X : String → ST → Prop) (u : ST) : Prop :=
  X xIOB u
set_option maxHeartbeats 4000000 in
set_option maxRecDepth 100000 in
theorem kX6_needCase_b15 {p : Program} {l : Launch} {e : Env} {s : State} {m : MethodId} {args : Array Value} {below : List Frame} {meth : Method} {c : Code} {D : va_G} {cy : CY} {A : Nat → Prop} {ad : Nat → Nat} {Q : ST → Prop} {sa : Nat → Nat} {X : String → ST → Prop} (C : kC p m c cX6_needCase 2 s args RX6 D cy A) (hr : meth.sig.returnType = none) (hlk : meth.locks = false) (hst : l.stackTraces = false) (hT : kTh A sa s s.heap) (hex : ∀ x ∈ c.exceptionTable.toList, False) : ∀ (u : ST) (H : Heap) (locs : List Loc) (ls : Array Slot), wX6_needCase_b15 Q X  u → kH D (cW cy ad) A s u H locs → lv_has ls 2 [] → W p l e (kRx 6 1 6) s m args below meth c H locs 0 0 (vx_MQ below (kQv D (cW cy ad) cy A Q) (kXC D (cW cy ad) cy A X) args s 1 6 A) (F0 m 15 ls []) := by
  intro  u H locs ls hw h hl
  obtain ⟨⟨hx, hb, hml, hown, hts⟩, hK, hA⟩ := id C
  unfold wX6_needCase_b15 at hw
  exact kthrow C hst hT h xIOB hw xfit_IOB wi_cl_X6_102 xini_IOB (is := 206) (List.mem_of_getElem? (i := 9) rfl) xat_106 xgo_102_106 hl.1 dX6_needCase_15 dX6_needCase_18 dX6_needCase_19 dX6_needCase_21 dX6_needCase_24 hex (by decide) (by decide) (by decide) (by decide) hlk (by decide) (by decide)
def wX6_needCase (x1 : Int32) (u : ST) (Q : ST → Prop) (X : String → ST → Prop) : Prop :=
  ((x1 < 0 → wX6_needCase_b15 Q X  u) ∧ (¬ x1 < 0 → (gZ u 0 < 2 ∧ wX2_caseCount (gZ u 0) u (fun r_1 u_2 => ((x1 < r_1 → Q u_2) ∧ (¬ x1 < r_1 → wX6_needCase_b15 Q X  u_2))))))
set_option maxHeartbeats 4000000 in
set_option maxRecDepth 100000 in
theorem mX6_needCase (l : Launch) (hst : l.stackTraces = false) (D : va_G) (cy : CY) (ad sa : Nat → Nat) (x1 : Int32) (u : ST) (sz : Nat) {Q : ST → Prop} {X : String → ST → Prop} (hw : wX6_needCase x1 u Q X) : vx_Met l yX6_needCase (wM yX6_needCase cX6_needCase 2 none) (kRx 6 1 6) (kPx D (cW cy ad) cy sa u sz [.ref (ad 0), .int x1]) (kQv D (cW cy ad) cy (va_A (cW cy ad u) sz) Q) (kXC D (cW cy ad) cy (va_A (cW cy ad u) sz) X) 1 6 (va_A (cW cy ad u) sz) := by
  refine kMetX pn_X6_needCase (Nat.le_of_ble_eq_true rfl) (fun p e s m below meth c ls hsz C hT hr hlk hex h hl => ?_)
  have hl : lv_has ls 2 [(0, .ref (ad 0)), (1, .int x1)] := hl
  obtain ⟨⟨hx, hb, hml, hown, hts⟩, hK, hA⟩ := id C
  unfold wX6_needCase at hw
  have h : kH D (cW cy ad) (va_A (cW cy ad u) sz) s u s.heap [] := h
  refine lv_iload_n hx hb dX6_needCase_0 rfl (lv_at hl 1 rfl) ?_
  refine lv_if_lt (tgt := 15) hx hb dX6_needCase_1 (by decide) (fun c_1 => ?_) (fun c_1 => ?_)
  · have hw := hw.1 c_1
    refine W.widen (k := 0) (n := 0) (by decide) (by decide) ?_
    exact kX6_needCase_b15 C hr hlk hst hT hex  _ _ _ _ hw h (lv_sub hl [] rfl)
  · have hw := hw.2 c_1
    refine lv_iload_n hx hb dX6_needCase_4 rfl (lv_at hl 1 rfl) ?_
    refine lv_aload_n hx hb dX6_needCase_5 rfl (lv_at hl 0 rfl) ?_
    obtain ⟨z_6, hw⟩ := hw
    refine kget C h 0 rfl rfl inBX6 1 (Nat.le_of_ble_eq_true rfl) wi_fl_X6_19 rfl dX6_needCase_6 ?_
    refine kVi (As := []) (rest := [.int x1]) C h (cwV 0 hts (gd_V wi_ml_X6_168 wi_im_X2_caseCount wi_se_X2_caseCount wi_in_X2 wi_co_X2_caseCount) rfl rfl rfl hd_X2_caseCount ⟨Nat.le_of_ble_eq_true rfl, Nat.le_of_ble_eq_true rfl⟩) (2 + (gZ u 0)) (cW_T cy ad u (gZ u 0) (by omega)) rfl rfl (mX2_caseCount l D cy ad (gZ u 0) _ _ (by omega) hw) rfl hl.1 rfl (Nat.le_of_ble_eq_true rfl) ⟨Nat.le_of_ble_eq_true rfl, Nat.le_of_ble_eq_true rfl⟩ dX6_needCase_9 (fun r_1 u_2 H locs hw h => ?_)
    refine lv_icmp_lt (tgt := 25) hx hb dX6_needCase_12 (by decide) (fun c_12 => ?_) (fun c_12 => ?_)
    · have hw := hw.1 c_12
      exact kxretV C hr hlk h hw (by decide) (by decide) dX6_needCase_25
    · have hw := hw.2 c_12
      refine W.widen (k := 0) (n := 0) (by decide) (by decide) ?_
      exact kX6_needCase_b15 C hr hlk hst hT hex  _ _ _ _ hw h (lv_sub hl [] rfl)

def wX6_type_b11 (Q : Int32 → ST → Prop) (X : String → ST → Prop) (u : ST) : Prop :=
  X xIAE u
set_option maxHeartbeats 4000000 in
set_option maxRecDepth 100000 in
theorem kX6_type_b11 {p : Program} {l : Launch} {e : Env} {s : State} {m : MethodId} {args : Array Value} {below : List Frame} {meth : Method} {c : Code} {D : va_G} {cy : CY} {A : Nat → Prop} {ad : Nat → Nat} {Q : Int32 → ST → Prop} {sa : Nat → Nat} {X : String → ST → Prop} (C : kC p m c cX6_type 5 s args RX6 D cy A) (hr : meth.sig.returnType = some .int) (hlk : meth.locks = false) (hst : l.stackTraces = false) (hT : kTh A sa s s.heap) (hex : ∀ x ∈ c.exceptionTable.toList, False) : ∀ (u : ST) (H : Heap) (locs : List Loc) (ls : Array Slot), wX6_type_b11 Q X  u → kH D (cW cy ad) A s u H locs → lv_has ls 5 [] → W p l e (kRx 7 2 12) s m args below meth c H locs 0 0 (vx_MQ below (kQi D (cW cy ad) cy A Q) (kXC D (cW cy ad) cy A X) args s 2 12 A) (F0 m 11 ls []) := by
  intro  u H locs ls hw h hl
  obtain ⟨⟨hx, hb, hml, hown, hts⟩, hK, hA⟩ := id C
  unfold wX6_type_b11 at hw
  exact kthrow C hst hT h xIAE hw xfit_IAE wi_cl_X6_47 xini_IAE (is := 49) (List.mem_of_getElem? (i := 0) rfl) xat_51 xgo_47_51 hl.1 dX6_type_11 dX6_type_14 dX6_type_15 dX6_type_17 dX6_type_20 hex (by decide) (by decide) (by decide) (by decide) hlk (by decide) (by decide)
def wX6_type_B51 (K51 : Int64 → Int32 → ST → Prop) (Q : Int32 → ST → Prop) (X : String → ST → Prop) (y1 : Int64) (x4 : Int32) (u : ST) : Prop :=
  ((x4 < 0 → Q (gI u 5) u) ∧ (¬ x4 < 0 → wX3_append (((((y1 : Int64).toUInt64 >>> ((8 * x4 : Int32).toInt64.toUInt64 &&& Int64.toUInt64 63)).toInt64 : Int64).toInt32) &&& 255) u (fun u_2 => K51 y1 (x4 + (-1)) u_2)))
set_option maxHeartbeats 4000000 in
set_option maxRecDepth 100000 in
theorem kX6_type_B51 {p : Program} {l : Launch} {e : Env} {s : State} {m : MethodId} {args : Array Value} {below : List Frame} {meth : Method} {c : Code} {D : va_G} {cy : CY} {A : Nat → Prop} {ad : Nat → Nat} {K51 : Int64 → Int32 → ST → Prop} {Q : Int32 → ST → Prop} {sa : Nat → Nat} {X : String → ST → Prop} (C : kC p m c cX6_type 5 s args RX6 D cy A) (hr : meth.sig.returnType = some .int) (hlk : meth.locks = false) (hst : l.stackTraces = false) (hT : kTh A sa s s.heap) (hex : ∀ x ∈ c.exceptionTable.toList, False) (g51 : ∀ (y1 : Int64) (x4 : Int32) (u : ST) (H : Heap) (locs : List Loc) (ls : Array Slot), K51 y1 x4 u → kH D (cW cy ad) A s u H locs → lv_has ls 5 [(0, .ref (ad 0)), (1, .long y1), (4, .int x4)] → W p l e (kRx 7 2 12) s m args below meth c H locs 0 0 (vx_MQ below (kQi D (cW cy ad) cy A Q) (kXC D (cW cy ad) cy A X) args s 2 12 A) (F0 m 51 ls [])) : ∀ (y1 : Int64) (x4 : Int32) (u : ST) (H : Heap) (locs : List Loc) (ls : Array Slot), wX6_type_B51 K51 Q X y1 x4 u → kH D (cW cy ad) A s u H locs → lv_has ls 5 [(0, .ref (ad 0)), (1, .long y1), (4, .int x4)] → W p l e (kRx 7 2 12) s m args below meth c H locs 0 0 (vx_MQ below (kQi D (cW cy ad) cy A Q) (kXC D (cW cy ad) cy A X) args s 2 12 A) (F0 m 51 ls []) := by
  intro y1 x4 u H locs ls hw h hl
  obtain ⟨⟨hx, hb, hml, hown, hts⟩, hK, hA⟩ := id C
  unfold wX6_type_B51 at hw
  refine lv_iload hx hb dX6_type_51 (lv_at hl 2 rfl) ?_
  refine lv_if_lt (tgt := 81) hx hb dX6_type_53 (by decide) (fun c_53 => ?_) (fun c_53 => ?_)
  · have hw := hw.1 c_53
    refine lv_aload_n hx hb dX6_type_81 rfl (lv_at hl 0 rfl) ?_
    refine kget C h 0 rfl rfl inBX6 0 (Nat.le_of_ble_eq_true rfl) wi_fl_X6_12 rfl dX6_type_82 ?_
    refine kget C h 1 rfl rfl inBX3 1 (Nat.le_of_ble_eq_true rfl) wi_fl_X6_54 rfl dX6_type_85 ?_
    exact kxretI C hr hlk h hw (by decide) (by decide) dX6_type_88
  · have hw := hw.2 c_53
    refine lv_aload_n hx hb dX6_type_56 rfl (lv_at hl 0 rfl) ?_
    refine kget C h 0 rfl rfl inBX6 0 (Nat.le_of_ble_eq_true rfl) wi_fl_X6_12 rfl dX6_type_57 ?_
    refine lv_lload_n hx hb dX6_type_60 rfl (lv_at hl 1 rfl) ?_
    refine lv_bipush (v := 8) hx hb dX6_type_61 (by decide) ?_
    refine lv_iload hx hb dX6_type_63 (lv_at hl 2 rfl) ?_
    refine lv_imul hx hb dX6_type_65 ?_
    refine lv_lushr hx hb dX6_type_66 rfl ?_
    refine lv_l2i hx hb dX6_type_67 rfl ?_
    refine lv_sipush (v := 255) hx hb dX6_type_68 (by decide) ?_
    refine lv_iand hx hb dX6_type_71 ?_
    refine kVv (As := [.int (((((y1 : Int64).toUInt64 >>> ((8 * x4 : Int32).toInt64.toUInt64 &&& Int64.toUInt64 63)).toInt64 : Int64).toInt32) &&& 255)]) (rest := []) C h (cwV 1 hts (gd_V wi_ml_X6_63 wi_im_X3_append wi_se_X3_append wi_in_X3 wi_co_X3_append) rfl rfl rfl hd_X3_append ⟨Nat.le_of_ble_eq_true rfl, Nat.le_of_ble_eq_true rfl⟩) 1 rfl rfl rfl (mX3_append l D cy ad (((((y1 : Int64).toUInt64 >>> ((8 * x4 : Int32).toInt64.toUInt64 &&& Int64.toUInt64 63)).toInt64 : Int64).toInt32) &&& 255) _ _ hw) rfl hl.1 rfl (Nat.le_of_ble_eq_true rfl) ⟨Nat.le_of_ble_eq_true rfl, Nat.le_of_ble_eq_true rfl⟩ dX6_type_72 (fun u_2 H locs hw h => ?_)
    refine lv_iinc (v := x4 + (-1)) (lv' := [(4, .int (x4 + (-1))), (0, .ref (ad 0)), (1, .long y1)]) hx hb dX6_type_75 hl (k := 2) rfl rfl (by decide) rfl (fun ls hl => ?_)
    refine lv_goto (tgt := 51) hx hb dX6_type_78 (by decide) ?_
    refine W.widen (k := 0) (n := 0) (by decide) (by decide) ?_
    exact g51 y1 (x4 + (-1)) _ _ _ _ hw h (lv_sub hl [1, 2, 0] rfl)
def wX6_type_L51 (Q : Int32 → ST → Prop) (X : String → ST → Prop) : Nat → Int64 → Int32 → ST → Prop
  | 0, _, _, _ => False
  | n + 1, y1, x4, u => wX6_type_B51 (wX6_type_L51 Q X n) Q X y1 x4 u
set_option maxHeartbeats 4000000 in
theorem kX6_type_L51 {p : Program} {l : Launch} {e : Env} {s : State} {m : MethodId} {args : Array Value} {below : List Frame} {meth : Method} {c : Code} {D : va_G} {cy : CY} {A : Nat → Prop} {ad : Nat → Nat} {Q : Int32 → ST → Prop} {sa : Nat → Nat} {X : String → ST → Prop} (C : kC p m c cX6_type 5 s args RX6 D cy A) (hr : meth.sig.returnType = some .int) (hlk : meth.locks = false) (hst : l.stackTraces = false) (hT : kTh A sa s s.heap) (hex : ∀ x ∈ c.exceptionTable.toList, False) : ∀ n : Nat, ∀ (y1 : Int64) (x4 : Int32) (u : ST) (H : Heap) (locs : List Loc) (ls : Array Slot), wX6_type_L51 Q X n y1 x4 u → kH D (cW cy ad) A s u H locs → lv_has ls 5 [(0, .ref (ad 0)), (1, .long y1), (4, .int x4)] → W p l e (kRx 7 2 12) s m args below meth c H locs 0 0 (vx_MQ below (kQi D (cW cy ad) cy A Q) (kXC D (cW cy ad) cy A X) args s 2 12 A) (F0 m 51 ls []) := by
  intro n
  induction n with
  | zero => intro y1 x4 u H locs ls hw; exact False.elim hw
  | succ n ih => exact kX6_type_B51 C hr hlk hst hT hex ih
def wX6_type (y1 : Int64) (x3 : Int32) (u : ST) (Q : Int32 → ST → Prop) (X : String → ST → Prop) : Prop :=
  ((x3 < 1 → wX6_type_b11 Q X  u) ∧ (¬ x3 < 1 → ((x3 ≤ 8 → ((((gI u 5) + x3) ≤ 8000 → (∃ n : Nat, wX6_type_L51 Q X n y1 (x3 - 1) u)) ∧ (¬ ((gI u 5) + x3) ≤ 8000 → X xUOE u))) ∧ (¬ x3 ≤ 8 → wX6_type_b11 Q X  u))))
set_option maxHeartbeats 4000000 in
set_option maxRecDepth 100000 in
theorem mX6_type (l : Launch) (hst : l.stackTraces = false) (D : va_G) (cy : CY) (ad sa : Nat → Nat) (y1 : Int64) (x3 : Int32) (u : ST) (sz : Nat) {Q : Int32 → ST → Prop} {X : String → ST → Prop} (hw : wX6_type y1 x3 u Q X) : vx_Met l yX6_type (wM yX6_type cX6_type 5 (some .int)) (kRx 7 2 12) (kPx D (cW cy ad) cy sa u sz [.ref (ad 0), .long y1, .int x3]) (kQi D (cW cy ad) cy (va_A (cW cy ad u) sz) Q) (kXC D (cW cy ad) cy (va_A (cW cy ad u) sz) X) 2 12 (va_A (cW cy ad u) sz) := by
  refine kMetX pn_X6_type (Nat.le_of_ble_eq_true rfl) (fun p e s m below meth c ls hsz C hT hr hlk hex h hl => ?_)
  have hl : lv_has ls 5 [(0, .ref (ad 0)), (1, .long y1), (3, .int x3)] := hl
  obtain ⟨⟨hx, hb, hml, hown, hts⟩, hK, hA⟩ := id C
  unfold wX6_type at hw
  have h : kH D (cW cy ad) (va_A (cW cy ad u) sz) s u s.heap [] := h
  refine lv_iload_n hx hb dX6_type_0 rfl (lv_at hl 2 rfl) ?_
  refine lv_iconst (v := 1) hx hb dX6_type_1 (by decide) ?_
  refine lv_icmp_lt (tgt := 11) hx hb dX6_type_2 (by decide) (fun c_2 => ?_) (fun c_2 => ?_)
  · have hw := hw.1 c_2
    refine W.widen (k := 0) (n := 0) (by decide) (by decide) ?_
    exact kX6_type_b11 C hr hlk hst hT hex  _ _ _ _ hw h (lv_sub hl [] rfl)
  · have hw := hw.2 c_2
    refine lv_iload_n hx hb dX6_type_5 rfl (lv_at hl 2 rfl) ?_
    refine lv_bipush (v := 8) hx hb dX6_type_6 (by decide) ?_
    refine lv_icmp_le (tgt := 21) hx hb dX6_type_8 (by decide) (fun c_8 => ?_) (fun c_8 => ?_)
    · have hw := hw.1 c_8
      refine lv_aload_n hx hb dX6_type_21 rfl (lv_at hl 0 rfl) ?_
      refine kget C h 0 rfl rfl inBX6 0 (Nat.le_of_ble_eq_true rfl) wi_fl_X6_12 rfl dX6_type_22 ?_
      refine kget C h 1 rfl rfl inBX3 1 (Nat.le_of_ble_eq_true rfl) wi_fl_X6_54 rfl dX6_type_25 ?_
      refine lv_iload_n hx hb dX6_type_28 rfl (lv_at hl 2 rfl) ?_
      refine lv_iadd hx hb dX6_type_29 ?_
      refine lv_sipush (v := 8000) hx hb dX6_type_30 (by decide) ?_
      refine lv_icmp_le (tgt := 46) hx hb dX6_type_33 (by decide) (fun c_33 => ?_) (fun c_33 => ?_)
      · have hw := hw.1 c_33
        refine lv_iload_n hx hb dX6_type_46 rfl (lv_at hl 2 rfl) ?_
        refine lv_iconst (v := 1) hx hb dX6_type_47 (by decide) ?_
        refine lv_isub hx hb dX6_type_48 ?_
        refine lv_istore (lv' := [(4, .int (x3 - 1)), (0, .ref (ad 0)), (1, .long y1), (3, .int x3)]) hx hb dX6_type_49 hl (by decide) rfl (fun ls hl => ?_)
        refine W.widen (k := 0) (n := 0) (by decide) (by decide) ?_
        obtain ⟨n, hw⟩ := hw
        exact kX6_type_L51 C hr hlk hst hT hex n y1 (x3 - 1) _ _ _ _ hw h (lv_sub hl [1, 2, 0] rfl)
      · have hw := hw.2 c_33
        exact kthrow C hst hT h xUOE hw xfit_UOE wi_cl_X6_58 xini_UOE (is := 60) (List.mem_of_getElem? (i := 1) rfl) xat_62 xgo_58_62 hl.1 dX6_type_36 dX6_type_39 dX6_type_40 dX6_type_42 dX6_type_45 hex (by decide) (by decide) (by decide) (by decide) hlk (by decide) (by decide)
    · have hw := hw.2 c_8
      refine W.widen (k := 0) (n := 0) (by decide) (by decide) ?_
      exact kX6_type_b11 C hr hlk hst hT hex  _ _ _ _ hw h (lv_sub hl [] rfl)

def wX6_keep_b15 (Q : ST → Prop) (X : String → ST → Prop) (u : ST) : Prop :=
  X xIAE u
set_option maxHeartbeats 4000000 in
set_option maxRecDepth 100000 in
theorem kX6_keep_b15 {p : Program} {l : Launch} {e : Env} {s : State} {m : MethodId} {args : Array Value} {below : List Frame} {meth : Method} {c : Code} {D : va_G} {cy : CY} {A : Nat → Prop} {ad : Nat → Nat} {Q : ST → Prop} {sa : Nat → Nat} {X : String → ST → Prop} (C : kC p m c cX6_keep 2 s args RX6 D cy A) (hr : meth.sig.returnType = none) (hlk : meth.locks = false) (hst : l.stackTraces = false) (hT : kTh A sa s s.heap) (hex : ∀ x ∈ c.exceptionTable.toList, False) : ∀ (u : ST) (H : Heap) (locs : List Loc) (ls : Array Slot), wX6_keep_b15 Q X  u → kH D (cW cy ad) A s u H locs → lv_has ls 2 [] → W p l e (kRx 7 2 12) s m args below meth c H locs 0 0 (vx_MQ below (kQv D (cW cy ad) cy A Q) (kXC D (cW cy ad) cy A X) args s 2 12 A) (F0 m 15 ls []) := by
  intro  u H locs ls hw h hl
  obtain ⟨⟨hx, hb, hml, hown, hts⟩, hK, hA⟩ := id C
  unfold wX6_keep_b15 at hw
  exact kthrow C hst hT h xIAE hw xfit_IAE wi_cl_X6_47 xini_IAE (is := 67) (List.mem_of_getElem? (i := 2) rfl) xat_51 xgo_47_51 hl.1 dX6_keep_15 dX6_keep_18 dX6_keep_19 dX6_keep_21 dX6_keep_24 hex (by decide) (by decide) (by decide) (by decide) hlk (by decide) (by decide)
def wX6_keep (x1 : Int32) (u : ST) (Q : ST → Prop) (X : String → ST → Prop) : Prop :=
  ((x1 < 0 → wX6_keep_b15 Q X  u) ∧ (¬ x1 < 0 → ((x1 ≤ (gI u 5) → Q (sI u 5 x1)) ∧ (¬ x1 ≤ (gI u 5) → wX6_keep_b15 Q X  u))))
set_option maxHeartbeats 4000000 in
set_option maxRecDepth 100000 in
theorem mX6_keep (l : Launch) (hst : l.stackTraces = false) (D : va_G) (cy : CY) (ad sa : Nat → Nat) (x1 : Int32) (u : ST) (sz : Nat) {Q : ST → Prop} {X : String → ST → Prop} (hw : wX6_keep x1 u Q X) : vx_Met l yX6_keep (wM yX6_keep cX6_keep 2 none) (kRx 7 2 12) (kPx D (cW cy ad) cy sa u sz [.ref (ad 0), .int x1]) (kQv D (cW cy ad) cy (va_A (cW cy ad u) sz) Q) (kXC D (cW cy ad) cy (va_A (cW cy ad u) sz) X) 2 12 (va_A (cW cy ad u) sz) := by
  refine kMetX pn_X6_keep (Nat.le_of_ble_eq_true rfl) (fun p e s m below meth c ls hsz C hT hr hlk hex h hl => ?_)
  have hl : lv_has ls 2 [(0, .ref (ad 0)), (1, .int x1)] := hl
  obtain ⟨⟨hx, hb, hml, hown, hts⟩, hK, hA⟩ := id C
  unfold wX6_keep at hw
  have h : kH D (cW cy ad) (va_A (cW cy ad u) sz) s u s.heap [] := h
  refine lv_iload_n hx hb dX6_keep_0 rfl (lv_at hl 1 rfl) ?_
  refine lv_if_lt (tgt := 15) hx hb dX6_keep_1 (by decide) (fun c_1 => ?_) (fun c_1 => ?_)
  · have hw := hw.1 c_1
    refine W.widen (k := 0) (n := 0) (by decide) (by decide) ?_
    exact kX6_keep_b15 C hr hlk hst hT hex  _ _ _ _ hw h (lv_sub hl [] rfl)
  · have hw := hw.2 c_1
    refine lv_iload_n hx hb dX6_keep_4 rfl (lv_at hl 1 rfl) ?_
    refine lv_aload_n hx hb dX6_keep_5 rfl (lv_at hl 0 rfl) ?_
    refine kget C h 0 rfl rfl inBX6 0 (Nat.le_of_ble_eq_true rfl) wi_fl_X6_12 rfl dX6_keep_6 ?_
    refine kget C h 1 rfl rfl inBX3 1 (Nat.le_of_ble_eq_true rfl) wi_fl_X6_54 rfl dX6_keep_9 ?_
    refine lv_icmp_le (tgt := 25) hx hb dX6_keep_12 (by decide) (fun c_12 => ?_) (fun c_12 => ?_)
    · have hw := hw.1 c_12
      refine lv_aload_n hx hb dX6_keep_25 rfl (lv_at hl 0 rfl) ?_
      refine kget C h 0 rfl rfl inBX6 0 (Nat.le_of_ble_eq_true rfl) wi_fl_X6_12 rfl dX6_keep_26 ?_
      refine lv_iload_n hx hb dX6_keep_29 rfl (lv_at hl 1 rfl) ?_
      refine kput C h 1 rfl rfl inBX3 tyX3_ok nmX3 1 (Nat.le_of_ble_eq_true rfl) wi_fl_X6_54 rfl rfl rfl (Nat.le_of_ble_eq_true rfl) (cS_TP_1 cy ad u x1) dX6_keep_30 (fun H locs h => ?_)
      exact kxretV C hr hlk h hw (by decide) (by decide) dX6_keep_33
    · have hw := hw.2 c_12
      refine W.widen (k := 0) (n := 0) (by decide) (by decide) ?_
      exact kX6_keep_b15 C hr hlk hst hT hex  _ _ _ _ hw h (lv_sub hl [] rfl)

def wX6_amiss (x1 : Int32) (u : ST) (Q : Int32 → ST → Prop) (X : String → ST → Prop) : Prop :=
  wX6_needTable  u (fun u_2 => (((x1.toInt < 0 ∨ (2 : Int) < x1.toInt) → X xIOB u_2) ∧ (x1 = 0 → Q (gI u_2 2) u_2) ∧ (x1 = 1 → Q (gI u_2 3) u_2) ∧ (x1 = 2 → Q (gI u_2 4) u_2))) X
set_option maxHeartbeats 4000000 in
set_option maxRecDepth 100000 in
theorem mX6_amiss (l : Launch) (hst : l.stackTraces = false) (D : va_G) (cy : CY) (ad sa : Nat → Nat) (x1 : Int32) (u : ST) (sz : Nat) {Q : Int32 → ST → Prop} {X : String → ST → Prop} (hw : wX6_amiss x1 u Q X) : vx_Met l yX6_amiss (wM yX6_amiss cX6_amiss 2 (some .int)) (kRx 7 2 12) (kPx D (cW cy ad) cy sa u sz [.ref (ad 0), .int x1]) (kQi D (cW cy ad) cy (va_A (cW cy ad u) sz) Q) (kXC D (cW cy ad) cy (va_A (cW cy ad u) sz) X) 2 12 (va_A (cW cy ad u) sz) := by
  refine kMetX pn_X6_amiss (Nat.le_of_ble_eq_true rfl) (fun p e s m below meth c ls hsz C hT hr hlk hex h hl => ?_)
  have hl : lv_has ls 2 [(0, .ref (ad 0)), (1, .int x1)] := hl
  obtain ⟨⟨hx, hb, hml, hown, hts⟩, hK, hA⟩ := id C
  unfold wX6_amiss at hw
  have h : kH D (cW cy ad) (va_A (cW cy ad u) sz) s u s.heap [] := h
  refine lv_aload_n hx hb dX6_amiss_0 rfl (lv_at hl 0 rfl) ?_
  refine kXv (As := []) (rest := []) C hT h (cwV 0 hts (gd_V wi_ml_X6_90 wi_im_X6_needTable wi_se_X6_needTable wi_in_X6 wi_co_X6_needTable) rfl rfl rfl hd_X6_needTable ⟨Nat.le_of_ble_eq_true rfl, Nat.le_of_ble_eq_true rfl⟩) 0 rfl rfl rfl (mX6_needTable l hst D cy ad sa  _ _ hw) rfl hl.1 rfl (Nat.le_of_ble_eq_true rfl) ⟨Nat.le_of_ble_eq_true rfl, Nat.le_of_ble_eq_true rfl⟩ dX6_amiss_1 hex hlk (by decide) (by decide) (fun u_2 H locs hw h => ?_)
  refine lv_iload_n hx hb dX6_amiss_4 rfl (lv_at hl 1 rfl) ?_
  by_cases c_5 : x1.toInt < 0 ∨ (2 : Int) < x1.toInt
  · refine lv_tableOut (tgt := 47) hx hb dX6_amiss_5 c_5 (by decide) ?_
    have hw := hw.1 c_5
    exact kthrow C hst hT h xIOB hw xfit_IOB wi_cl_X6_102 xini_IOB (is := 104) (List.mem_of_getElem? (i := 4) rfl) xat_106 xgo_102_106 hl.1 dX6_amiss_47 dX6_amiss_50 dX6_amiss_51 dX6_amiss_53 dX6_amiss_56 hex (by decide) (by decide) (by decide) (by decide) hlk (by decide) (by decide)
  · obtain ⟨j, hj, ej⟩ := sw_of (n := 2) c_5 (by decide)
    rcases (show j = 0 ∨ j = 1 ∨ j = 2 by omega) with rfl | rfl | rfl
    · have ek : x1 = 0 := ej
      refine lv_tableIn (tgt := 32) hx hb dX6_amiss_5 (by rw [ek]; decide) (by rw [ek]; decide) (by rw [ek]; rfl) (by decide) ?_
      have hw := hw.2.1 ek
      refine lv_aload_n hx hb dX6_amiss_32 rfl (lv_at hl 0 rfl) ?_
      refine kget C h 0 rfl rfl inBX6 5 (Nat.le_of_ble_eq_true rfl) wi_fl_X6_93 rfl dX6_amiss_33 ?_
      exact kxretI C hr hlk h hw (by decide) (by decide) dX6_amiss_36
    · have ek : x1 = 1 := ej
      refine lv_tableIn (tgt := 37) hx hb dX6_amiss_5 (by rw [ek]; decide) (by rw [ek]; decide) (by rw [ek]; rfl) (by decide) ?_
      have hw := hw.2.2.1 ek
      refine lv_aload_n hx hb dX6_amiss_37 rfl (lv_at hl 0 rfl) ?_
      refine kget C h 0 rfl rfl inBX6 6 (Nat.le_of_ble_eq_true rfl) wi_fl_X6_96 rfl dX6_amiss_38 ?_
      exact kxretI C hr hlk h hw (by decide) (by decide) dX6_amiss_41
    · have ek : x1 = 2 := ej
      refine lv_tableIn (tgt := 42) hx hb dX6_amiss_5 (by rw [ek]; decide) (by rw [ek]; decide) (by rw [ek]; rfl) (by decide) ?_
      have hw := hw.2.2.2 ek
      refine lv_aload_n hx hb dX6_amiss_42 rfl (lv_at hl 0 rfl) ?_
      refine kget C h 0 rfl rfl inBX6 7 (Nat.le_of_ble_eq_true rfl) wi_fl_X6_99 rfl dX6_amiss_43 ?_
      exact kxretI C hr hlk h hw (by decide) (by decide) dX6_amiss_46

def wX6_count (x1 : Int32) (u : ST) (Q : Int32 → ST → Prop) (X : String → ST → Prop) : Prop :=
  (((x1.toInt < 0 ∨ (7 : Int) < x1.toInt) → X xIOB u) ∧ (x1 = 0 → (((gI u 0) = 0 → Q 0 u) ∧ (¬ (gI u 0) = 0 → (gZ u 0 < 2 ∧ Q (gI u (12 + (2 * (gZ u 0)))) u)))) ∧ (x1 = 1 → (((gI u 0) = 0 → Q 0 u) ∧ (¬ (gI u 0) = 0 → (gZ u 0 < 2 ∧ Q (gI u (10 + (gZ u 0))) u)))) ∧ (x1 = 2 → (((gI u 0) = 0 → Q 0 u) ∧ (¬ (gI u 0) = 0 → (gZ u 0 < 2 ∧ Q (gI u (12 + (2 * (gZ u 0) + 1))) u)))) ∧ (x1 = 3 → Q (gI u 17) u) ∧ (x1 = 4 → Q (gI u 18) u) ∧ (x1 = 5 → Q (gI u 21) u) ∧ (x1 = 6 → Q (gI u 19) u) ∧ (x1 = 7 → Q (gI u 5) u))
set_option maxHeartbeats 4000000 in
set_option maxRecDepth 100000 in
theorem mX6_count (l : Launch) (hst : l.stackTraces = false) (D : va_G) (cy : CY) (ad sa : Nat → Nat) (x1 : Int32) (u : ST) (sz : Nat) {Q : Int32 → ST → Prop} {X : String → ST → Prop} (hw : wX6_count x1 u Q X) : vx_Met l yX6_count (wM yX6_count cX6_count 2 (some .int)) (kRx 7 2 12) (kPx D (cW cy ad) cy sa u sz [.ref (ad 0), .int x1]) (kQi D (cW cy ad) cy (va_A (cW cy ad u) sz) Q) (kXC D (cW cy ad) cy (va_A (cW cy ad u) sz) X) 2 12 (va_A (cW cy ad u) sz) := by
  refine kMetX pn_X6_count (Nat.le_of_ble_eq_true rfl) (fun p e s m below meth c ls hsz C hT hr hlk hex h hl => ?_)
  have hl : lv_has ls 2 [(0, .ref (ad 0)), (1, .int x1)] := hl
  obtain ⟨⟨hx, hb, hml, hown, hts⟩, hK, hA⟩ := id C
  unfold wX6_count at hw
  have h : kH D (cW cy ad) (va_A (cW cy ad u) sz) s u s.heap [] := h
  refine lv_iload_n hx hb dX6_count_0 rfl (lv_at hl 1 rfl) ?_
  by_cases c_1 : x1.toInt < 0 ∨ (7 : Int) < x1.toInt
  · refine lv_tableOut (tgt := 151) hx hb dX6_count_1 c_1 (by decide) ?_
    have hw := hw.1 c_1
    exact kthrow C hst hT h xIOB hw xfit_IOB wi_cl_X6_102 xini_IOB (is := 104) (List.mem_of_getElem? (i := 4) rfl) xat_106 xgo_102_106 hl.1 dX6_count_151 dX6_count_154 dX6_count_155 dX6_count_157 dX6_count_160 hex (by decide) (by decide) (by decide) (by decide) hlk (by decide) (by decide)
  · obtain ⟨j, hj, ej⟩ := sw_of (n := 7) c_1 (by decide)
    rcases (show j = 0 ∨ j = 1 ∨ j = 2 ∨ j = 3 ∨ j = 4 ∨ j = 5 ∨ j = 6 ∨ j = 7 by omega) with rfl | rfl | rfl | rfl | rfl | rfl | rfl | rfl
    · have ek : x1 = 0 := ej
      refine lv_tableIn (tgt := 48) hx hb dX6_count_1 (by rw [ek]; decide) (by rw [ek]; decide) (by rw [ek]; rfl) (by decide) ?_
      have hw := hw.2.1 ek
      refine lv_aload_n hx hb dX6_count_48 rfl (lv_at hl 0 rfl) ?_
      refine kget C h 0 rfl rfl inBX6 3 (Nat.le_of_ble_eq_true rfl) wi_fl_X6_82 rfl dX6_count_49 ?_
      refine lv_if_eq (tgt := 68) hx hb dX6_count_52 (by decide) (fun c_52 => ?_) (fun c_52 => ?_)
      · have hw := hw.1 c_52
        refine lv_iconst (v := 0) hx hb dX6_count_68 (by decide) ?_
        exact kxretI C hr hlk h hw (by decide) (by decide) dX6_count_69
      · have hw := hw.2 c_52
        refine lv_aload_n hx hb dX6_count_55 rfl (lv_at hl 0 rfl) ?_
        obtain ⟨z_56, hw⟩ := hw
        refine kget C h 0 rfl rfl inBX6 1 (Nat.le_of_ble_eq_true rfl) wi_fl_X6_19 rfl dX6_count_56 ?_
        refine kget C h (2 + (gZ u 0)) (cW_T cy ad u (gZ u 0) (by omega)) rfl inBX2 0 (Nat.le_of_ble_eq_true rfl) wi_fl_X6_107 rfl dX6_count_59 ?_
        refine kget C h (4 + (2 * (gZ u 0))) (cW_N cy ad u (2 * (gZ u 0)) (by omega)) rfl inBX1 1 (Nat.le_of_ble_eq_true rfl) wi_fl_X6_111 rfl dX6_count_62 ?_
        refine lv_goto (tgt := 69) hx hb dX6_count_65 (by decide) ?_
        exact kxretI C hr hlk h hw (by decide) (by decide) dX6_count_69
    · have ek : x1 = 1 := ej
      refine lv_tableIn (tgt := 70) hx hb dX6_count_1 (by rw [ek]; decide) (by rw [ek]; decide) (by rw [ek]; rfl) (by decide) ?_
      have hw := hw.2.2.1 ek
      refine lv_aload_n hx hb dX6_count_70 rfl (lv_at hl 0 rfl) ?_
      refine kget C h 0 rfl rfl inBX6 3 (Nat.le_of_ble_eq_true rfl) wi_fl_X6_82 rfl dX6_count_71 ?_
      refine lv_if_eq (tgt := 87) hx hb dX6_count_74 (by decide) (fun c_74 => ?_) (fun c_74 => ?_)
      · have hw := hw.1 c_74
        refine lv_iconst (v := 0) hx hb dX6_count_87 (by decide) ?_
        exact kxretI C hr hlk h hw (by decide) (by decide) dX6_count_88
      · have hw := hw.2 c_74
        refine lv_aload_n hx hb dX6_count_77 rfl (lv_at hl 0 rfl) ?_
        obtain ⟨z_78, hw⟩ := hw
        refine kget C h 0 rfl rfl inBX6 1 (Nat.le_of_ble_eq_true rfl) wi_fl_X6_19 rfl dX6_count_78 ?_
        refine kget C h (2 + (gZ u 0)) (cW_T cy ad u (gZ u 0) (by omega)) rfl inBX2 5 (Nat.le_of_ble_eq_true rfl) wi_fl_X6_116 rfl dX6_count_81 ?_
        refine lv_goto (tgt := 88) hx hb dX6_count_84 (by decide) ?_
        exact kxretI C hr hlk h hw (by decide) (by decide) dX6_count_88
    · have ek : x1 = 2 := ej
      refine lv_tableIn (tgt := 89) hx hb dX6_count_1 (by rw [ek]; decide) (by rw [ek]; decide) (by rw [ek]; rfl) (by decide) ?_
      have hw := hw.2.2.2.1 ek
      refine lv_aload_n hx hb dX6_count_89 rfl (lv_at hl 0 rfl) ?_
      refine kget C h 0 rfl rfl inBX6 3 (Nat.le_of_ble_eq_true rfl) wi_fl_X6_82 rfl dX6_count_90 ?_
      refine lv_if_eq (tgt := 109) hx hb dX6_count_93 (by decide) (fun c_93 => ?_) (fun c_93 => ?_)
      · have hw := hw.1 c_93
        refine lv_iconst (v := 0) hx hb dX6_count_109 (by decide) ?_
        exact kxretI C hr hlk h hw (by decide) (by decide) dX6_count_110
      · have hw := hw.2 c_93
        refine lv_aload_n hx hb dX6_count_96 rfl (lv_at hl 0 rfl) ?_
        obtain ⟨z_97, hw⟩ := hw
        refine kget C h 0 rfl rfl inBX6 1 (Nat.le_of_ble_eq_true rfl) wi_fl_X6_19 rfl dX6_count_97 ?_
        refine kget C h (2 + (gZ u 0)) (cW_T cy ad u (gZ u 0) (by omega)) rfl inBX2 1 (Nat.le_of_ble_eq_true rfl) wi_fl_X6_119 rfl dX6_count_100 ?_
        refine kget C h (4 + (2 * (gZ u 0) + 1)) (cW_N cy ad u (2 * (gZ u 0) + 1) (by omega)) rfl inBX1 1 (Nat.le_of_ble_eq_true rfl) wi_fl_X6_111 rfl dX6_count_103 ?_
        refine lv_goto (tgt := 110) hx hb dX6_count_106 (by decide) ?_
        exact kxretI C hr hlk h hw (by decide) (by decide) dX6_count_110
    · have ek : x1 = 3 := ej
      refine lv_tableIn (tgt := 111) hx hb dX6_count_1 (by rw [ek]; decide) (by rw [ek]; decide) (by rw [ek]; rfl) (by decide) ?_
      have hw := hw.2.2.2.2.1 ek
      refine lv_aload_n hx hb dX6_count_111 rfl (lv_at hl 0 rfl) ?_
      refine kget C h 0 rfl rfl inBX6 9 (Nat.le_of_ble_eq_true rfl) wi_fl_X6_36 rfl dX6_count_112 ?_
      refine kget C h 9 rfl rfl inBX4 2 (Nat.le_of_ble_eq_true rfl) wi_fl_X6_122 rfl dX6_count_115 ?_
      exact kxretI C hr hlk h hw (by decide) (by decide) dX6_count_118
    · have ek : x1 = 4 := ej
      refine lv_tableIn (tgt := 119) hx hb dX6_count_1 (by rw [ek]; decide) (by rw [ek]; decide) (by rw [ek]; rfl) (by decide) ?_
      have hw := hw.2.2.2.2.2.1 ek
      refine lv_aload_n hx hb dX6_count_119 rfl (lv_at hl 0 rfl) ?_
      refine kget C h 0 rfl rfl inBX6 9 (Nat.le_of_ble_eq_true rfl) wi_fl_X6_36 rfl dX6_count_120 ?_
      refine kget C h 9 rfl rfl inBX4 3 (Nat.le_of_ble_eq_true rfl) wi_fl_X6_123 rfl dX6_count_123 ?_
      exact kxretI C hr hlk h hw (by decide) (by decide) dX6_count_126
    · have ek : x1 = 5 := ej
      refine lv_tableIn (tgt := 127) hx hb dX6_count_1 (by rw [ek]; decide) (by rw [ek]; decide) (by rw [ek]; rfl) (by decide) ?_
      have hw := hw.2.2.2.2.2.2.1 ek
      refine lv_aload_n hx hb dX6_count_127 rfl (lv_at hl 0 rfl) ?_
      refine kget C h 0 rfl rfl inBX6 10 (Nat.le_of_ble_eq_true rfl) wi_fl_X6_43 rfl dX6_count_128 ?_
      refine kget C h 10 rfl rfl inBX0 2 (Nat.le_of_ble_eq_true rfl) wi_fl_X6_126 rfl dX6_count_131 ?_
      exact kxretI C hr hlk h hw (by decide) (by decide) dX6_count_134
    · have ek : x1 = 6 := ej
      refine lv_tableIn (tgt := 135) hx hb dX6_count_1 (by rw [ek]; decide) (by rw [ek]; decide) (by rw [ek]; rfl) (by decide) ?_
      have hw := hw.2.2.2.2.2.2.2.1 ek
      refine lv_aload_n hx hb dX6_count_135 rfl (lv_at hl 0 rfl) ?_
      refine kget C h 0 rfl rfl inBX6 9 (Nat.le_of_ble_eq_true rfl) wi_fl_X6_36 rfl dX6_count_136 ?_
      refine kget C h 9 rfl rfl inBX4 4 (Nat.le_of_ble_eq_true rfl) wi_fl_X6_127 rfl dX6_count_139 ?_
      exact kxretI C hr hlk h hw (by decide) (by decide) dX6_count_142
    · have ek : x1 = 7 := ej
      refine lv_tableIn (tgt := 143) hx hb dX6_count_1 (by rw [ek]; decide) (by rw [ek]; decide) (by rw [ek]; rfl) (by decide) ?_
      have hw := hw.2.2.2.2.2.2.2.2 ek
      refine lv_aload_n hx hb dX6_count_143 rfl (lv_at hl 0 rfl) ?_
      refine kget C h 0 rfl rfl inBX6 0 (Nat.le_of_ble_eq_true rfl) wi_fl_X6_12 rfl dX6_count_144 ?_
      refine kget C h 1 rfl rfl inBX3 1 (Nat.le_of_ble_eq_true rfl) wi_fl_X6_54 rfl dX6_count_147 ?_
      exact kxretI C hr hlk h hw (by decide) (by decide) dX6_count_150

def wX6_rule_b22 (Q : Int32 → ST → Prop) (X : String → ST → Prop) (u : ST) : Prop :=
  X xIOB u
set_option maxHeartbeats 4000000 in
set_option maxRecDepth 100000 in
theorem kX6_rule_b22 {p : Program} {l : Launch} {e : Env} {s : State} {m : MethodId} {args : Array Value} {below : List Frame} {meth : Method} {c : Code} {D : va_G} {cy : CY} {A : Nat → Prop} {ad : Nat → Nat} {Q : Int32 → ST → Prop} {sa : Nat → Nat} {X : String → ST → Prop} (C : kC p m c cX6_rule 3 s args RX6 D cy A) (hr : meth.sig.returnType = some .int) (hlk : meth.locks = false) (hst : l.stackTraces = false) (hT : kTh A sa s s.heap) (hex : ∀ x ∈ c.exceptionTable.toList, False) : ∀ (u : ST) (H : Heap) (locs : List Loc) (ls : Array Slot), wX6_rule_b22 Q X  u → kH D (cW cy ad) A s u H locs → lv_has ls 3 [] → W p l e (kRx 7 2 12) s m args below meth c H locs 0 0 (vx_MQ below (kQi D (cW cy ad) cy A Q) (kXC D (cW cy ad) cy A X) args s 2 12 A) (F0 m 22 ls []) := by
  intro  u H locs ls hw h hl
  obtain ⟨⟨hx, hb, hml, hown, hts⟩, hK, hA⟩ := id C
  unfold wX6_rule_b22 at hw
  exact kthrow C hst hT h xIOB hw xfit_IOB wi_cl_X6_102 xini_IOB (is := 130) (List.mem_of_getElem? (i := 5) rfl) xat_106 xgo_102_106 hl.1 dX6_rule_22 dX6_rule_25 dX6_rule_26 dX6_rule_28 dX6_rule_31 hex (by decide) (by decide) (by decide) (by decide) hlk (by decide) (by decide)
def wX6_rule_b65 (Q : Int32 → ST → Prop) (X : String → ST → Prop) (u : ST) : Prop :=
  X xIOB u
set_option maxHeartbeats 4000000 in
set_option maxRecDepth 100000 in
theorem kX6_rule_b65 {p : Program} {l : Launch} {e : Env} {s : State} {m : MethodId} {args : Array Value} {below : List Frame} {meth : Method} {c : Code} {D : va_G} {cy : CY} {A : Nat → Prop} {ad : Nat → Nat} {Q : Int32 → ST → Prop} {sa : Nat → Nat} {X : String → ST → Prop} (C : kC p m c cX6_rule 3 s args RX6 D cy A) (hr : meth.sig.returnType = some .int) (hlk : meth.locks = false) (hst : l.stackTraces = false) (hT : kTh A sa s s.heap) (hex : ∀ x ∈ c.exceptionTable.toList, False) : ∀ (u : ST) (H : Heap) (locs : List Loc) (ls : Array Slot), wX6_rule_b65 Q X  u → kH D (cW cy ad) A s u H locs → lv_has ls 3 [] → W p l e (kRx 7 2 12) s m args below meth c H locs 0 0 (vx_MQ below (kQi D (cW cy ad) cy A Q) (kXC D (cW cy ad) cy A X) args s 2 12 A) (F0 m 65 ls []) := by
  intro  u H locs ls hw h hl
  obtain ⟨⟨hx, hb, hml, hown, hts⟩, hK, hA⟩ := id C
  unfold wX6_rule_b65 at hw
  exact kthrow C hst hT h xIOB hw xfit_IOB wi_cl_X6_102 xini_IOB (is := 136) (List.mem_of_getElem? (i := 6) rfl) xat_106 xgo_102_106 hl.1 dX6_rule_65 dX6_rule_68 dX6_rule_69 dX6_rule_71 dX6_rule_74 hex (by decide) (by decide) (by decide) (by decide) hlk (by decide) (by decide)
def wX6_rule (x1 : Int32) (x2 : Int32) (u : ST) (Q : Int32 → ST → Prop) (X : String → ST → Prop) : Prop :=
  (((gI u 0) = 0 → wX6_rule_b22 Q X  u) ∧ (¬ (gI u 0) = 0 → ((x1 < 0 → wX6_rule_b22 Q X  u) ∧ (¬ x1 < 0 → (gZ u 0 < 2 ∧ ((x1 < (gI u (10 + (gZ u 0))) → ((¬ x2 = (-1) → ((x2 < 0 → wX6_rule_b65 Q X  u) ∧ (¬ x2 < 0 → (gZ u 0 < 2 ∧ ((x2 < (gI u (12 + (2 * (gZ u 0)))) → (gZ u 0 < 2 ∧ wX2_markOf (gZ u 0) x1 (1 <<< (x2 &&& 31)) u (fun r_1 u_2 => Q r_1 u_2))) ∧ (¬ x2 < (gI u (12 + (2 * (gZ u 0)))) → wX6_rule_b65 Q X  u)))))) ∧ (x2 = (-1) → (gZ u 0 < 2 ∧ (vp_in x1 256 ∧ Q (gR u (3 * (gZ u 0) + 2) x1.toNatClampNeg) u))))) ∧ (¬ x1 < (gI u (10 + (gZ u 0))) → wX6_rule_b22 Q X  u)))))))
set_option maxHeartbeats 4000000 in
set_option maxRecDepth 100000 in
theorem mX6_rule (l : Launch) (hst : l.stackTraces = false) (D : va_G) (cy : CY) (ad sa : Nat → Nat) (x1 : Int32) (x2 : Int32) (u : ST) (sz : Nat) {Q : Int32 → ST → Prop} {X : String → ST → Prop} (hw : wX6_rule x1 x2 u Q X) : vx_Met l yX6_rule (wM yX6_rule cX6_rule 3 (some .int)) (kRx 7 2 12) (kPx D (cW cy ad) cy sa u sz [.ref (ad 0), .int x1, .int x2]) (kQi D (cW cy ad) cy (va_A (cW cy ad u) sz) Q) (kXC D (cW cy ad) cy (va_A (cW cy ad u) sz) X) 2 12 (va_A (cW cy ad u) sz) := by
  refine kMetX pn_X6_rule (Nat.le_of_ble_eq_true rfl) (fun p e s m below meth c ls hsz C hT hr hlk hex h hl => ?_)
  have hl : lv_has ls 3 [(0, .ref (ad 0)), (1, .int x1), (2, .int x2)] := hl
  obtain ⟨⟨hx, hb, hml, hown, hts⟩, hK, hA⟩ := id C
  unfold wX6_rule at hw
  have h : kH D (cW cy ad) (va_A (cW cy ad u) sz) s u s.heap [] := h
  refine lv_aload_n hx hb dX6_rule_0 rfl (lv_at hl 0 rfl) ?_
  refine kget C h 0 rfl rfl inBX6 3 (Nat.le_of_ble_eq_true rfl) wi_fl_X6_82 rfl dX6_rule_1 ?_
  refine lv_if_eq (tgt := 22) hx hb dX6_rule_4 (by decide) (fun c_4 => ?_) (fun c_4 => ?_)
  · have hw := hw.1 c_4
    refine W.widen (k := 0) (n := 0) (by decide) (by decide) ?_
    exact kX6_rule_b22 C hr hlk hst hT hex  _ _ _ _ hw h (lv_sub hl [] rfl)
  · have hw := hw.2 c_4
    refine lv_iload_n hx hb dX6_rule_7 rfl (lv_at hl 1 rfl) ?_
    refine lv_if_lt (tgt := 22) hx hb dX6_rule_8 (by decide) (fun c_8 => ?_) (fun c_8 => ?_)
    · have hw := hw.1 c_8
      refine W.widen (k := 0) (n := 0) (by decide) (by decide) ?_
      exact kX6_rule_b22 C hr hlk hst hT hex  _ _ _ _ hw h (lv_sub hl [] rfl)
    · have hw := hw.2 c_8
      refine lv_iload_n hx hb dX6_rule_11 rfl (lv_at hl 1 rfl) ?_
      refine lv_aload_n hx hb dX6_rule_12 rfl (lv_at hl 0 rfl) ?_
      obtain ⟨z_13, hw⟩ := hw
      refine kget C h 0 rfl rfl inBX6 1 (Nat.le_of_ble_eq_true rfl) wi_fl_X6_19 rfl dX6_rule_13 ?_
      refine kget C h (2 + (gZ u 0)) (cW_T cy ad u (gZ u 0) (by omega)) rfl inBX2 5 (Nat.le_of_ble_eq_true rfl) wi_fl_X6_116 rfl dX6_rule_16 ?_
      refine lv_icmp_lt (tgt := 32) hx hb dX6_rule_19 (by decide) (fun c_19 => ?_) (fun c_19 => ?_)
      · have hw := hw.1 c_19
        refine lv_iload_n hx hb dX6_rule_32 rfl (lv_at hl 2 rfl) ?_
        refine lv_iconst (v := (-1)) hx hb dX6_rule_33 (by decide) ?_
        refine lv_icmp_ne (tgt := 47) hx hb dX6_rule_34 (by decide) (fun c_34 => ?_) (fun c_34 => ?_)
        · have hw := hw.1 c_34
          refine lv_iload_n hx hb dX6_rule_47 rfl (lv_at hl 2 rfl) ?_
          refine lv_if_lt (tgt := 65) hx hb dX6_rule_48 (by decide) (fun c_48 => ?_) (fun c_48 => ?_)
          · have hw := hw.1 c_48
            refine W.widen (k := 0) (n := 0) (by decide) (by decide) ?_
            exact kX6_rule_b65 C hr hlk hst hT hex  _ _ _ _ hw h (lv_sub hl [] rfl)
          · have hw := hw.2 c_48
            refine lv_iload_n hx hb dX6_rule_51 rfl (lv_at hl 2 rfl) ?_
            refine lv_aload_n hx hb dX6_rule_52 rfl (lv_at hl 0 rfl) ?_
            obtain ⟨z_53, hw⟩ := hw
            refine kget C h 0 rfl rfl inBX6 1 (Nat.le_of_ble_eq_true rfl) wi_fl_X6_19 rfl dX6_rule_53 ?_
            refine kget C h (2 + (gZ u 0)) (cW_T cy ad u (gZ u 0) (by omega)) rfl inBX2 0 (Nat.le_of_ble_eq_true rfl) wi_fl_X6_107 rfl dX6_rule_56 ?_
            refine kget C h (4 + (2 * (gZ u 0))) (cW_N cy ad u (2 * (gZ u 0)) (by omega)) rfl inBX1 1 (Nat.le_of_ble_eq_true rfl) wi_fl_X6_111 rfl dX6_rule_59 ?_
            refine lv_icmp_lt (tgt := 75) hx hb dX6_rule_62 (by decide) (fun c_62 => ?_) (fun c_62 => ?_)
            · have hw := hw.1 c_62
              refine lv_aload_n hx hb dX6_rule_75 rfl (lv_at hl 0 rfl) ?_
              obtain ⟨z_76, hw⟩ := hw
              refine kget C h 0 rfl rfl inBX6 1 (Nat.le_of_ble_eq_true rfl) wi_fl_X6_19 rfl dX6_rule_76 ?_
              refine lv_iload_n hx hb dX6_rule_79 rfl (lv_at hl 1 rfl) ?_
              refine lv_iconst (v := 1) hx hb dX6_rule_80 (by decide) ?_
              refine lv_iload_n hx hb dX6_rule_81 rfl (lv_at hl 2 rfl) ?_
              refine lv_ishl hx hb dX6_rule_82 ?_
              refine kVi (As := [.int x1, .int (1 <<< (x2 &&& 31))]) (rest := []) C h (cwV 2 hts (gd_V wi_ml_X6_138 wi_im_X2_markOf wi_se_X2_markOf wi_in_X2 wi_co_X2_markOf) rfl rfl rfl hd_X2_markOf ⟨Nat.le_of_ble_eq_true rfl, Nat.le_of_ble_eq_true rfl⟩) (2 + (gZ u 0)) (cW_T cy ad u (gZ u 0) (by omega)) rfl rfl (mX2_markOf l D cy ad (gZ u 0) x1 (1 <<< (x2 &&& 31)) _ _ (by omega) hw) rfl hl.1 rfl (Nat.le_of_ble_eq_true rfl) ⟨Nat.le_of_ble_eq_true rfl, Nat.le_of_ble_eq_true rfl⟩ dX6_rule_83 (fun r_1 u_2 H locs hw h => ?_)
              exact kxretI C hr hlk h hw (by decide) (by decide) dX6_rule_86
            · have hw := hw.2 c_62
              refine W.widen (k := 0) (n := 0) (by decide) (by decide) ?_
              exact kX6_rule_b65 C hr hlk hst hT hex  _ _ _ _ hw h (lv_sub hl [] rfl)
        · have hw := hw.2 c_34
          refine lv_aload_n hx hb dX6_rule_37 rfl (lv_at hl 0 rfl) ?_
          obtain ⟨z_38, hw⟩ := hw
          refine kget C h 0 rfl rfl inBX6 1 (Nat.le_of_ble_eq_true rfl) wi_fl_X6_19 rfl dX6_rule_38 ?_
          refine kget C h (2 + (gZ u 0)) (cW_T cy ad u (gZ u 0) (by omega)) rfl inBX2 4 (Nat.le_of_ble_eq_true rfl) wi_fl_X6_132 rfl dX6_rule_41 ?_
          refine lv_iload_n hx hb dX6_rule_44 rfl (lv_at hl 1 rfl) ?_
          obtain ⟨i_45, hw⟩ := hw
          refine kiald C h (17 + (3 * (gZ u 0) + 2)) (cW_R cy ad u (3 * (gZ u 0) + 2) (by omega)) (by rw [lenR_256 (by omega)]; exact i_45) dX6_rule_45 ?_
          exact kxretI C hr hlk h hw (by decide) (by decide) dX6_rule_46
      · have hw := hw.2 c_19
        refine W.widen (k := 0) (n := 0) (by decide) (by decide) ?_
        exact kX6_rule_b22 C hr hlk hst hT hex  _ _ _ _ hw h (lv_sub hl [] rfl)

def wX6_name_b43 (Q : Int32 → ST → Prop) (X : String → ST → Prop) (u : ST) : Prop :=
  X xIOB u
set_option maxHeartbeats 4000000 in
set_option maxRecDepth 100000 in
theorem kX6_name_b43 {p : Program} {l : Launch} {e : Env} {s : State} {m : MethodId} {args : Array Value} {below : List Frame} {meth : Method} {c : Code} {D : va_G} {cy : CY} {A : Nat → Prop} {ad : Nat → Nat} {Q : Int32 → ST → Prop} {sa : Nat → Nat} {X : String → ST → Prop} (C : kC p m c cX6_name 6 s args RX6 D cy A) (hr : meth.sig.returnType = some .int) (hlk : meth.locks = false) (hst : l.stackTraces = false) (hT : kTh A sa s s.heap) (hex : ∀ x ∈ c.exceptionTable.toList, False) : ∀ (u : ST) (H : Heap) (locs : List Loc) (ls : Array Slot), wX6_name_b43 Q X  u → kH D (cW cy ad) A s u H locs → lv_has ls 6 [] → W p l e (kRx 7 2 12) s m args below meth c H locs 0 0 (vx_MQ below (kQi D (cW cy ad) cy A Q) (kXC D (cW cy ad) cy A X) args s 2 12 A) (F0 m 43 ls []) := by
  intro  u H locs ls hw h hl
  obtain ⟨⟨hx, hb, hml, hown, hts⟩, hK, hA⟩ := id C
  unfold wX6_name_b43 at hw
  exact kthrow C hst hT h xIOB hw xfit_IOB wi_cl_X6_102 xini_IOB (is := 142) (List.mem_of_getElem? (i := 7) rfl) xat_106 xgo_102_106 hl.1 dX6_name_43 dX6_name_46 dX6_name_47 dX6_name_49 dX6_name_52 hex (by decide) (by decide) (by decide) (by decide) hlk (by decide) (by decide)
def wX6_name_b79 (Q : Int32 → ST → Prop) (X : String → ST → Prop) (u : ST) : Prop :=
  X xIOB u
set_option maxHeartbeats 4000000 in
set_option maxRecDepth 100000 in
theorem kX6_name_b79 {p : Program} {l : Launch} {e : Env} {s : State} {m : MethodId} {args : Array Value} {below : List Frame} {meth : Method} {c : Code} {D : va_G} {cy : CY} {A : Nat → Prop} {ad : Nat → Nat} {Q : Int32 → ST → Prop} {sa : Nat → Nat} {X : String → ST → Prop} (C : kC p m c cX6_name 6 s args RX6 D cy A) (hr : meth.sig.returnType = some .int) (hlk : meth.locks = false) (hst : l.stackTraces = false) (hT : kTh A sa s s.heap) (hex : ∀ x ∈ c.exceptionTable.toList, False) : ∀ (u : ST) (H : Heap) (locs : List Loc) (ls : Array Slot), wX6_name_b79 Q X  u → kH D (cW cy ad) A s u H locs → lv_has ls 6 [] → W p l e (kRx 7 2 12) s m args below meth c H locs 0 0 (vx_MQ below (kQi D (cW cy ad) cy A Q) (kXC D (cW cy ad) cy A X) args s 2 12 A) (F0 m 79 ls []) := by
  intro  u H locs ls hw h hl
  obtain ⟨⟨hx, hb, hml, hown, hts⟩, hK, hA⟩ := id C
  unfold wX6_name_b79 at hw
  exact kthrow C hst hT h xIOB hw xfit_IOB wi_cl_X6_102 xini_IOB (is := 148) (List.mem_of_getElem? (i := 8) rfl) xat_106 xgo_102_106 hl.1 dX6_name_79 dX6_name_82 dX6_name_83 dX6_name_85 dX6_name_88 hex (by decide) (by decide) (by decide) (by decide) hlk (by decide) (by decide)
def wX6_name_b21 (Q : Int32 → ST → Prop) (X : String → ST → Prop) (x2 : Int32) (x3 : Int32) (ts0 : Nat) (u : ST) : Prop :=
  (((gI u 0) = 0 → wX6_name_b43 Q X  u) ∧ (¬ (gI u 0) = 0 → ((x2 < 0 → wX6_name_b43 Q X  u) ∧ (¬ x2 < 0 → ((x2 < (gI u (12 + ts0)) → wX1_lengthOf ts0 x2 u (fun r_1 u_2 => ((¬ x3 = (-1) → ((x3 < 0 → wX6_name_b79 Q X  u_2) ∧ (¬ x3 < 0 → ((x3 < r_1 → wX1_byteOf ts0 x2 x3 u_2 (fun r_3 u_4 => Q r_3 u_4)) ∧ (¬ x3 < r_1 → wX6_name_b79 Q X  u_2))))) ∧ (x3 = (-1) → Q r_1 u_2)))) ∧ (¬ x2 < (gI u (12 + ts0)) → wX6_name_b43 Q X  u))))))
set_option maxHeartbeats 4000000 in
set_option maxRecDepth 100000 in
theorem kX6_name_b21 {p : Program} {l : Launch} {e : Env} {s : State} {m : MethodId} {args : Array Value} {below : List Frame} {meth : Method} {c : Code} {D : va_G} {cy : CY} {A : Nat → Prop} {ad : Nat → Nat} {Q : Int32 → ST → Prop} {sa : Nat → Nat} {X : String → ST → Prop} (C : kC p m c cX6_name 6 s args RX6 D cy A) (hr : meth.sig.returnType = some .int) (hlk : meth.locks = false) (hst : l.stackTraces = false) (hT : kTh A sa s s.heap) (hex : ∀ x ∈ c.exceptionTable.toList, False) : ∀ (x2 : Int32) (x3 : Int32) (ts0 : Nat) (u : ST) (H : Heap) (locs : List Loc) (ls : Array Slot), wX6_name_b21 Q X x2 x3 ts0 u → ts0 < 4 → kH D (cW cy ad) A s u H locs → lv_has ls 6 [(0, .ref (ad 0)), (2, .int x2), (3, .int x3)] → W p l e (kRx 7 2 12) s m args below meth c H locs 0 0 (vx_MQ below (kQi D (cW cy ad) cy A Q) (kXC D (cW cy ad) cy A X) args s 2 12 A) (F0 m 21 ls [.ref (aN ad ts0)]) := by
  intro x2 x3 ts0 u H locs ls hw f_ts0 h hl
  obtain ⟨⟨hx, hb, hml, hown, hts⟩, hK, hA⟩ := id C
  unfold wX6_name_b21 at hw
  refine lv_astore (lv' := [(4, .ref (aN ad ts0)), (0, .ref (ad 0)), (2, .int x2), (3, .int x3)]) hx hb dX6_name_21 hl (by decide) rfl (fun ls hl => ?_)
  refine lv_aload_n hx hb dX6_name_23 rfl (lv_at hl 1 rfl) ?_
  refine kget C h 0 rfl rfl inBX6 3 (Nat.le_of_ble_eq_true rfl) wi_fl_X6_82 rfl dX6_name_24 ?_
  refine lv_if_eq (tgt := 43) hx hb dX6_name_27 (by decide) (fun c_27 => ?_) (fun c_27 => ?_)
  · have hw := hw.1 c_27
    refine W.widen (k := 0) (n := 0) (by decide) (by decide) ?_
    exact kX6_name_b43 C hr hlk hst hT hex  _ _ _ _ hw h (lv_sub hl [] rfl)
  · have hw := hw.2 c_27
    refine lv_iload_n hx hb dX6_name_30 rfl (lv_at hl 2 rfl) ?_
    refine lv_if_lt (tgt := 43) hx hb dX6_name_31 (by decide) (fun c_31 => ?_) (fun c_31 => ?_)
    · have hw := hw.1 c_31
      refine W.widen (k := 0) (n := 0) (by decide) (by decide) ?_
      exact kX6_name_b43 C hr hlk hst hT hex  _ _ _ _ hw h (lv_sub hl [] rfl)
    · have hw := hw.2 c_31
      refine lv_iload_n hx hb dX6_name_34 rfl (lv_at hl 2 rfl) ?_
      refine lv_aload hx hb dX6_name_35 (lv_at hl 0 rfl) ?_
      refine kget C h (4 + ts0) (cW_N cy ad u ts0 (by omega)) rfl inBX1 1 (Nat.le_of_ble_eq_true rfl) wi_fl_X6_111 rfl dX6_name_37 ?_
      refine lv_icmp_lt (tgt := 53) hx hb dX6_name_40 (by decide) (fun c_40 => ?_) (fun c_40 => ?_)
      · have hw := hw.1 c_40
        refine lv_aload hx hb dX6_name_53 (lv_at hl 0 rfl) ?_
        refine lv_iload_n hx hb dX6_name_55 rfl (lv_at hl 2 rfl) ?_
        refine kVi (As := [.int x2]) (rest := []) C h (cwV 1 hts (gd_V wi_ml_X6_144 wi_im_X1_lengthOf wi_se_X1_lengthOf wi_in_X1 wi_co_X1_lengthOf) rfl rfl rfl hd_X1_lengthOf ⟨Nat.le_of_ble_eq_true rfl, Nat.le_of_ble_eq_true rfl⟩) (4 + ts0) (cW_N cy ad u ts0 (by omega)) rfl rfl (mX1_lengthOf l D cy ad ts0 x2 _ _ (by omega) hw) rfl hl.1 rfl (Nat.le_of_ble_eq_true rfl) ⟨Nat.le_of_ble_eq_true rfl, Nat.le_of_ble_eq_true rfl⟩ dX6_name_56 (fun r_1 u_2 H locs hw h => ?_)
        refine lv_istore (lv' := [(5, .int r_1), (4, .ref (aN ad ts0)), (0, .ref (ad 0)), (2, .int x2), (3, .int x3)]) hx hb dX6_name_59 hl (by decide) rfl (fun ls hl => ?_)
        refine lv_iload_n hx hb dX6_name_61 rfl (lv_at hl 4 rfl) ?_
        refine lv_iconst (v := (-1)) hx hb dX6_name_62 (by decide) ?_
        refine lv_icmp_ne (tgt := 69) hx hb dX6_name_63 (by decide) (fun c_63 => ?_) (fun c_63 => ?_)
        · have hw := hw.1 c_63
          refine lv_iload_n hx hb dX6_name_69 rfl (lv_at hl 4 rfl) ?_
          refine lv_if_lt (tgt := 79) hx hb dX6_name_70 (by decide) (fun c_70 => ?_) (fun c_70 => ?_)
          · have hw := hw.1 c_70
            refine W.widen (k := 0) (n := 0) (by decide) (by decide) ?_
            exact kX6_name_b79 C hr hlk hst hT hex  _ _ _ _ hw h (lv_sub hl [] rfl)
          · have hw := hw.2 c_70
            refine lv_iload_n hx hb dX6_name_73 rfl (lv_at hl 4 rfl) ?_
            refine lv_iload hx hb dX6_name_74 (lv_at hl 0 rfl) ?_
            refine lv_icmp_lt (tgt := 89) hx hb dX6_name_76 (by decide) (fun c_76 => ?_) (fun c_76 => ?_)
            · have hw := hw.1 c_76
              refine lv_aload hx hb dX6_name_89 (lv_at hl 1 rfl) ?_
              refine lv_iload_n hx hb dX6_name_91 rfl (lv_at hl 3 rfl) ?_
              refine lv_iload_n hx hb dX6_name_92 rfl (lv_at hl 4 rfl) ?_
              refine kVi (As := [.int x2, .int x3]) (rest := []) C h (cwV 2 hts (gd_V wi_ml_X6_150 wi_im_X1_byteOf wi_se_X1_byteOf wi_in_X1 wi_co_X1_byteOf) rfl rfl rfl hd_X1_byteOf ⟨Nat.le_of_ble_eq_true rfl, Nat.le_of_ble_eq_true rfl⟩) (4 + ts0) (cW_N cy ad u_2 ts0 (by omega)) rfl rfl (mX1_byteOf l D cy ad ts0 x2 x3 _ _ (by omega) hw) rfl hl.1 rfl (Nat.le_of_ble_eq_true rfl) ⟨Nat.le_of_ble_eq_true rfl, Nat.le_of_ble_eq_true rfl⟩ dX6_name_93 (fun r_3 u_4 H locs hw h => ?_)
              exact kxretI C hr hlk h hw (by decide) (by decide) dX6_name_96
            · have hw := hw.2 c_76
              refine W.widen (k := 0) (n := 0) (by decide) (by decide) ?_
              exact kX6_name_b79 C hr hlk hst hT hex  _ _ _ _ hw h (lv_sub hl [] rfl)
        · have hw := hw.2 c_63
          refine lv_iload hx hb dX6_name_66 (lv_at hl 0 rfl) ?_
          exact kxretI C hr hlk h hw (by decide) (by decide) dX6_name_68
      · have hw := hw.2 c_40
        refine W.widen (k := 0) (n := 0) (by decide) (by decide) ?_
        exact kX6_name_b43 C hr hlk hst hT hex  _ _ _ _ hw h (lv_sub hl [] rfl)
def wX6_name (x1 : Int32) (x2 : Int32) (x3 : Int32) (u : ST) (Q : Int32 → ST → Prop) (X : String → ST → Prop) : Prop :=
  ((x1 = 0 → (gZ u 0 < 2 ∧ wX6_name_b21 Q X x2 x3 (2 * (gZ u 0)) u)) ∧ (¬ x1 = 0 → (gZ u 0 < 2 ∧ wX6_name_b21 Q X x2 x3 (2 * (gZ u 0) + 1) u)))
set_option maxHeartbeats 4000000 in
set_option maxRecDepth 100000 in
theorem mX6_name (l : Launch) (hst : l.stackTraces = false) (D : va_G) (cy : CY) (ad sa : Nat → Nat) (x1 : Int32) (x2 : Int32) (x3 : Int32) (u : ST) (sz : Nat) {Q : Int32 → ST → Prop} {X : String → ST → Prop} (hw : wX6_name x1 x2 x3 u Q X) : vx_Met l yX6_name (wM yX6_name cX6_name 6 (some .int)) (kRx 7 2 12) (kPx D (cW cy ad) cy sa u sz [.ref (ad 0), .int x1, .int x2, .int x3]) (kQi D (cW cy ad) cy (va_A (cW cy ad u) sz) Q) (kXC D (cW cy ad) cy (va_A (cW cy ad u) sz) X) 2 12 (va_A (cW cy ad u) sz) := by
  refine kMetX pn_X6_name (Nat.le_of_ble_eq_true rfl) (fun p e s m below meth c ls hsz C hT hr hlk hex h hl => ?_)
  have hl : lv_has ls 6 [(0, .ref (ad 0)), (1, .int x1), (2, .int x2), (3, .int x3)] := hl
  obtain ⟨⟨hx, hb, hml, hown, hts⟩, hK, hA⟩ := id C
  unfold wX6_name at hw
  have h : kH D (cW cy ad) (va_A (cW cy ad u) sz) s u s.heap [] := h
  refine lv_iload_n hx hb dX6_name_0 rfl (lv_at hl 1 rfl) ?_
  refine lv_if_eq (tgt := 14) hx hb dX6_name_1 (by decide) (fun c_1 => ?_) (fun c_1 => ?_)
  · have hw := hw.1 c_1
    refine lv_aload_n hx hb dX6_name_14 rfl (lv_at hl 0 rfl) ?_
    obtain ⟨z_15, hw⟩ := hw
    refine kget C h 0 rfl rfl inBX6 1 (Nat.le_of_ble_eq_true rfl) wi_fl_X6_19 rfl dX6_name_15 ?_
    refine kget C h (2 + (gZ u 0)) (cW_T cy ad u (gZ u 0) (by omega)) rfl inBX2 0 (Nat.le_of_ble_eq_true rfl) wi_fl_X6_107 rfl dX6_name_18 ?_
    refine W.widen (k := 0) (n := 0) (by decide) (by decide) ?_
    exact kX6_name_b21 C hr hlk hst hT hex x2 x3 (2 * (gZ u 0)) _ _ _ _ hw (by omega) h (lv_sub hl [0, 2, 3] rfl)
  · have hw := hw.2 c_1
    refine lv_aload_n hx hb dX6_name_4 rfl (lv_at hl 0 rfl) ?_
    obtain ⟨z_5, hw⟩ := hw
    refine kget C h 0 rfl rfl inBX6 1 (Nat.le_of_ble_eq_true rfl) wi_fl_X6_19 rfl dX6_name_5 ?_
    refine kget C h (2 + (gZ u 0)) (cW_T cy ad u (gZ u 0) (by omega)) rfl inBX2 1 (Nat.le_of_ble_eq_true rfl) wi_fl_X6_119 rfl dX6_name_8 ?_
    refine lv_goto (tgt := 21) hx hb dX6_name_11 (by decide) ?_
    refine W.widen (k := 0) (n := 0) (by decide) (by decide) ?_
    exact kX6_name_b21 C hr hlk hst hT hex x2 x3 (2 * (gZ u 0) + 1) _ _ _ _ hw (by omega) h (lv_sub hl [0, 2, 3] rfl)

def wX6_meets (x1 : Int32) (u : ST) (Q : Int32 → ST → Prop) (X : String → ST → Prop) : Prop :=
  wX6_needTable  u (fun u_2 => wX6_needCase x1 u_2 (fun u_4 => (gZ u_4 0 < 2 ∧ wX2_firstThatMeets (gZ u_4 0) x1 u_4 (fun r_5 u_6 => Q r_5 u_6))) X) X
set_option maxHeartbeats 4000000 in
set_option maxRecDepth 100000 in
theorem mX6_meets (l : Launch) (hst : l.stackTraces = false) (D : va_G) (cy : CY) (ad sa : Nat → Nat) (x1 : Int32) (u : ST) (sz : Nat) {Q : Int32 → ST → Prop} {X : String → ST → Prop} (hw : wX6_meets x1 u Q X) : vx_Met l yX6_meets (wM yX6_meets cX6_meets 2 (some .int)) (kRx 7 2 12) (kPx D (cW cy ad) cy sa u sz [.ref (ad 0), .int x1]) (kQi D (cW cy ad) cy (va_A (cW cy ad u) sz) Q) (kXC D (cW cy ad) cy (va_A (cW cy ad u) sz) X) 2 12 (va_A (cW cy ad u) sz) := by
  refine kMetX pn_X6_meets (Nat.le_of_ble_eq_true rfl) (fun p e s m below meth c ls hsz C hT hr hlk hex h hl => ?_)
  have hl : lv_has ls 2 [(0, .ref (ad 0)), (1, .int x1)] := hl
  obtain ⟨⟨hx, hb, hml, hown, hts⟩, hK, hA⟩ := id C
  unfold wX6_meets at hw
  have h : kH D (cW cy ad) (va_A (cW cy ad u) sz) s u s.heap [] := h
  refine lv_aload_n hx hb dX6_meets_0 rfl (lv_at hl 0 rfl) ?_
  refine kXv (As := []) (rest := []) C hT h (cwV 0 hts (gd_V wi_ml_X6_90 wi_im_X6_needTable wi_se_X6_needTable wi_in_X6 wi_co_X6_needTable) rfl rfl rfl hd_X6_needTable ⟨Nat.le_of_ble_eq_true rfl, Nat.le_of_ble_eq_true rfl⟩) 0 rfl rfl rfl (mX6_needTable l hst D cy ad sa  _ _ hw) rfl hl.1 rfl (Nat.le_of_ble_eq_true rfl) ⟨Nat.le_of_ble_eq_true rfl, Nat.le_of_ble_eq_true rfl⟩ dX6_meets_1 hex hlk (by decide) (by decide) (fun u_2 H locs hw h => ?_)
  refine lv_aload_n hx hb dX6_meets_4 rfl (lv_at hl 0 rfl) ?_
  refine lv_iload_n hx hb dX6_meets_5 rfl (lv_at hl 1 rfl) ?_
  refine kXv (As := [.int x1]) (rest := []) C hT h (cwV 1 hts (gd_V wi_ml_X6_153 wi_im_X6_needCase wi_se_X6_needCase wi_in_X6 wi_co_X6_needCase) rfl rfl rfl hd_X6_needCase ⟨Nat.le_of_ble_eq_true rfl, Nat.le_of_ble_eq_true rfl⟩) 0 rfl rfl rfl (mX6_needCase l hst D cy ad sa x1 _ _ hw) rfl hl.1 rfl (Nat.le_of_ble_eq_true rfl) ⟨Nat.le_of_ble_eq_true rfl, Nat.le_of_ble_eq_true rfl⟩ dX6_meets_6 hex hlk (by decide) (by decide) (fun u_4 H locs hw h => ?_)
  refine lv_aload_n hx hb dX6_meets_9 rfl (lv_at hl 0 rfl) ?_
  obtain ⟨z_10, hw⟩ := hw
  refine kget C h 0 rfl rfl inBX6 1 (Nat.le_of_ble_eq_true rfl) wi_fl_X6_19 rfl dX6_meets_10 ?_
  refine lv_iload_n hx hb dX6_meets_13 rfl (lv_at hl 1 rfl) ?_
  refine kVi (As := [.int x1]) (rest := []) C h (cwV 1 hts (gd_V wi_ml_X6_156 wi_im_X2_firstThatMeets wi_se_X2_firstThatMeets wi_in_X2 wi_co_X2_firstThatMeets) rfl rfl rfl hd_X2_firstThatMeets ⟨Nat.le_of_ble_eq_true rfl, Nat.le_of_ble_eq_true rfl⟩) (2 + (gZ u_4 0)) (cW_T cy ad u_4 (gZ u_4 0) (by omega)) rfl rfl (mX2_firstThatMeets l D cy ad (gZ u_4 0) x1 _ _ (by omega) hw) rfl hl.1 rfl (Nat.le_of_ble_eq_true rfl) ⟨Nat.le_of_ble_eq_true rfl, Nat.le_of_ble_eq_true rfl⟩ dX6_meets_14 (fun r_5 u_6 H locs hw h => ?_)
  exact kxretI C hr hlk h hw (by decide) (by decide) dX6_meets_17

def wX6_cases_b23 (Q : Int32 → ST → Prop) (X : String → ST → Prop) (u : ST) : Prop :=
  X xIOB u
set_option maxHeartbeats 4000000 in
set_option maxRecDepth 100000 in
theorem kX6_cases_b23 {p : Program} {l : Launch} {e : Env} {s : State} {m : MethodId} {args : Array Value} {below : List Frame} {meth : Method} {c : Code} {D : va_G} {cy : CY} {A : Nat → Prop} {ad : Nat → Nat} {Q : Int32 → ST → Prop} {sa : Nat → Nat} {X : String → ST → Prop} (C : kC p m c cX6_cases 3 s args RX6 D cy A) (hr : meth.sig.returnType = some .int) (hlk : meth.locks = false) (hst : l.stackTraces = false) (hT : kTh A sa s s.heap) (hex : ∀ x ∈ c.exceptionTable.toList, False) : ∀ (u : ST) (H : Heap) (locs : List Loc) (ls : Array Slot), wX6_cases_b23 Q X  u → kH D (cW cy ad) A s u H locs → lv_has ls 3 [] → W p l e (kRx 23 2 12) s m args below meth c H locs 1 6 (vx_MQ below (kQi D (cW cy ad) cy A Q) (kXC D (cW cy ad) cy A X) args s 2 12 A) (F0 m 23 ls []) := by
  intro  u H locs ls hw h hl
  obtain ⟨⟨hx, hb, hml, hown, hts⟩, hK, hA⟩ := id C
  unfold wX6_cases_b23 at hw
  exact kthrow C hst hT h xIOB hw xfit_IOB wi_cl_X6_102 xini_IOB (is := 159) (List.mem_of_getElem? (i := 10) rfl) xat_106 xgo_102_106 hl.1 dX6_cases_23 dX6_cases_26 dX6_cases_27 dX6_cases_29 dX6_cases_32 hex (by decide) (by decide) (by decide) (by decide) hlk (by decide) (by decide)
def wX6_cases (x1 : Int32) (u : ST) (Q : Int32 → ST → Prop) (X : String → ST → Prop) : Prop :=
  wX6_needTable  u (fun u_2 => ((x1 < (-1) → wX6_cases_b23 Q X  u_2) ∧ (¬ x1 < (-1) → (gZ u_2 0 < 2 ∧ ((x1 < (gI u_2 (12 + (2 * (gZ u_2 0) + 1))) → (gZ u_2 0 < 2 ∧ wX5_start (gZ u_2 0) x1 u_2 (fun u_4 => wX5_casesMet  u_4 (fun r_5 u_6 => ((¬ x1 = (-1) → Q r_5 u_6) ∧ (x1 = (-1) → (gZ u_6 0 < 2 ∧ wX2_caseCount (gZ u_6 0) u_6 (fun r_7 u_8 => Q (r_7 - r_5) u_8)))))))) ∧ (¬ x1 < (gI u_2 (12 + (2 * (gZ u_2 0) + 1))) → wX6_cases_b23 Q X  u_2)))))) X
set_option maxHeartbeats 4000000 in
set_option maxRecDepth 100000 in
theorem mX6_cases (l : Launch) (hst : l.stackTraces = false) (D : va_G) (cy : CY) (ad sa : Nat → Nat) (x1 : Int32) (u : ST) (sz : Nat) {Q : Int32 → ST → Prop} {X : String → ST → Prop} (hw : wX6_cases x1 u Q X) : vx_Met l yX6_cases (wM yX6_cases cX6_cases 3 (some .int)) (kRx 23 2 12) (kPx D (cW cy ad) cy sa u sz [.ref (ad 0), .int x1]) (kQi D (cW cy ad) cy (va_A (cW cy ad u) sz) Q) (kXC D (cW cy ad) cy (va_A (cW cy ad u) sz) X) 2 12 (va_A (cW cy ad u) sz) := by
  refine kMetX pn_X6_cases (Nat.le_of_ble_eq_true rfl) (fun p e s m below meth c ls hsz C hT hr hlk hex h hl => ?_)
  have hl : lv_has ls 3 [(0, .ref (ad 0)), (1, .int x1)] := hl
  obtain ⟨⟨hx, hb, hml, hown, hts⟩, hK, hA⟩ := id C
  unfold wX6_cases at hw
  have h : kH D (cW cy ad) (va_A (cW cy ad u) sz) s u s.heap [] := h
  refine lv_aload_n hx hb dX6_cases_0 rfl (lv_at hl 0 rfl) ?_
  refine kXv (As := []) (rest := []) C hT h (cwV 0 hts (gd_V wi_ml_X6_90 wi_im_X6_needTable wi_se_X6_needTable wi_in_X6 wi_co_X6_needTable) rfl rfl rfl hd_X6_needTable ⟨Nat.le_of_ble_eq_true rfl, Nat.le_of_ble_eq_true rfl⟩) 0 rfl rfl rfl (mX6_needTable l hst D cy ad sa  _ _ hw) rfl hl.1 rfl (Nat.le_of_ble_eq_true rfl) ⟨Nat.le_of_ble_eq_true rfl, Nat.le_of_ble_eq_true rfl⟩ dX6_cases_1 hex hlk (by decide) (by decide) (fun u_2 H locs hw h => ?_)
  refine lv_iload_n hx hb dX6_cases_4 rfl (lv_at hl 1 rfl) ?_
  refine lv_iconst (v := (-1)) hx hb dX6_cases_5 (by decide) ?_
  refine lv_icmp_lt (tgt := 23) hx hb dX6_cases_6 (by decide) (fun c_6 => ?_) (fun c_6 => ?_)
  · have hw := hw.1 c_6
    refine W.widen (k := 1) (n := 6) (by decide) (by decide) ?_
    exact kX6_cases_b23 C hr hlk hst hT hex  _ _ _ _ hw h (lv_sub hl [] rfl)
  · have hw := hw.2 c_6
    refine lv_iload_n hx hb dX6_cases_9 rfl (lv_at hl 1 rfl) ?_
    refine lv_aload_n hx hb dX6_cases_10 rfl (lv_at hl 0 rfl) ?_
    obtain ⟨z_11, hw⟩ := hw
    refine kget C h 0 rfl rfl inBX6 1 (Nat.le_of_ble_eq_true rfl) wi_fl_X6_19 rfl dX6_cases_11 ?_
    refine kget C h (2 + (gZ u_2 0)) (cW_T cy ad u_2 (gZ u_2 0) (by omega)) rfl inBX2 1 (Nat.le_of_ble_eq_true rfl) wi_fl_X6_119 rfl dX6_cases_14 ?_
    refine kget C h (4 + (2 * (gZ u_2 0) + 1)) (cW_N cy ad u_2 (2 * (gZ u_2 0) + 1) (by omega)) rfl inBX1 1 (Nat.le_of_ble_eq_true rfl) wi_fl_X6_111 rfl dX6_cases_17 ?_
    refine lv_icmp_lt (tgt := 33) hx hb dX6_cases_20 (by decide) (fun c_20 => ?_) (fun c_20 => ?_)
    · have hw := hw.1 c_20
      refine lv_aload_n hx hb dX6_cases_33 rfl (lv_at hl 0 rfl) ?_
      refine kget C h 0 rfl rfl inBX6 8 (Nat.le_of_ble_eq_true rfl) wi_fl_X6_29 rfl dX6_cases_34 ?_
      refine lv_aload_n hx hb dX6_cases_37 rfl (lv_at hl 0 rfl) ?_
      obtain ⟨z_38, hw⟩ := hw
      refine kget C h 0 rfl rfl inBX6 1 (Nat.le_of_ble_eq_true rfl) wi_fl_X6_19 rfl dX6_cases_38 ?_
      refine lv_iload_n hx hb dX6_cases_41 rfl (lv_at hl 1 rfl) ?_
      refine kVv (As := [.ref (aT ad (gZ u_2 0)), .int x1]) (rest := []) C h (cwV 2 hts (gd_V wi_ml_X6_161 wi_im_X5_start wi_se_X5_start wi_in_X5 wi_co_X5_start) rfl rfl rfl hd_X5_start ⟨Nat.le_of_ble_eq_true rfl, Nat.le_of_ble_eq_true rfl⟩) 8 rfl rfl rfl (mX5_start l D cy ad (gZ u_2 0) x1 _ _ (by omega) hw) rfl hl.1 rfl (Nat.le_of_ble_eq_true rfl) ⟨Nat.le_of_ble_eq_true rfl, Nat.le_of_ble_eq_true rfl⟩ dX6_cases_42 (fun u_4 H locs hw h => ?_)
      refine lv_aload_n hx hb dX6_cases_45 rfl (lv_at hl 0 rfl) ?_
      refine kget C h 0 rfl rfl inBX6 8 (Nat.le_of_ble_eq_true rfl) wi_fl_X6_29 rfl dX6_cases_46 ?_
      refine kVi (As := []) (rest := []) C h (cwV 0 hts (gd_V wi_ml_X6_165 wi_im_X5_casesMet wi_se_X5_casesMet wi_in_X5 wi_co_X5_casesMet) rfl rfl rfl hd_X5_casesMet ⟨Nat.le_of_ble_eq_true rfl, Nat.le_of_ble_eq_true rfl⟩) 8 rfl rfl rfl (mX5_casesMet l D cy ad  _ _ hw) rfl hl.1 rfl (Nat.le_of_ble_eq_true rfl) ⟨Nat.le_of_ble_eq_true rfl, Nat.le_of_ble_eq_true rfl⟩ dX6_cases_49 (fun r_5 u_6 H locs hw h => ?_)
      refine lv_istore_n (lv' := [(2, .int r_5), (0, .ref (ad 0)), (1, .int x1)]) hx hb dX6_cases_52 rfl hl (by decide) rfl (fun ls hl => ?_)
      refine lv_iload_n hx hb dX6_cases_53 rfl (lv_at hl 2 rfl) ?_
      refine lv_iconst (v := (-1)) hx hb dX6_cases_54 (by decide) ?_
      refine lv_icmp_ne (tgt := 70) hx hb dX6_cases_55 (by decide) (fun c_55 => ?_) (fun c_55 => ?_)
      · have hw := hw.1 c_55
        refine lv_iload_n hx hb dX6_cases_70 rfl (lv_at hl 0 rfl) ?_
        exact kxretI C hr hlk h hw (by decide) (by decide) dX6_cases_71
      · have hw := hw.2 c_55
        refine lv_aload_n hx hb dX6_cases_58 rfl (lv_at hl 1 rfl) ?_
        obtain ⟨z_59, hw⟩ := hw
        refine kget C h 0 rfl rfl inBX6 1 (Nat.le_of_ble_eq_true rfl) wi_fl_X6_19 rfl dX6_cases_59 ?_
        refine kVi (As := []) (rest := []) C h (cwV 0 hts (gd_V wi_ml_X6_168 wi_im_X2_caseCount wi_se_X2_caseCount wi_in_X2 wi_co_X2_caseCount) rfl rfl rfl hd_X2_caseCount ⟨Nat.le_of_ble_eq_true rfl, Nat.le_of_ble_eq_true rfl⟩) (2 + (gZ u_6 0)) (cW_T cy ad u_6 (gZ u_6 0) (by omega)) rfl rfl (mX2_caseCount l D cy ad (gZ u_6 0) _ _ (by omega) hw) rfl hl.1 rfl (Nat.le_of_ble_eq_true rfl) ⟨Nat.le_of_ble_eq_true rfl, Nat.le_of_ble_eq_true rfl⟩ dX6_cases_62 (fun r_7 u_8 H locs hw h => ?_)
        refine lv_iload_n hx hb dX6_cases_65 rfl (lv_at hl 0 rfl) ?_
        refine lv_isub hx hb dX6_cases_66 ?_
        refine lv_goto (tgt := 71) hx hb dX6_cases_67 (by decide) ?_
        exact kxretI C hr hlk h hw (by decide) (by decide) dX6_cases_71
    · have hw := hw.2 c_20
      refine W.widen (k := 1) (n := 6) (by decide) (by decide) ?_
      exact kX6_cases_b23 C hr hlk hst hT hex  _ _ _ _ hw h (lv_sub hl [] rfl)

def wX6_node_b19 (Q : Int32 → ST → Prop) (X : String → ST → Prop) (u : ST) : Prop :=
  X xIOB u
set_option maxHeartbeats 4000000 in
set_option maxRecDepth 100000 in
theorem kX6_node_b19 {p : Program} {l : Launch} {e : Env} {s : State} {m : MethodId} {args : Array Value} {below : List Frame} {meth : Method} {c : Code} {D : va_G} {cy : CY} {A : Nat → Prop} {ad : Nat → Nat} {Q : Int32 → ST → Prop} {sa : Nat → Nat} {X : String → ST → Prop} (C : kC p m c cX6_node 3 s args RX6 D cy A) (hr : meth.sig.returnType = some .int) (hlk : meth.locks = false) (hst : l.stackTraces = false) (hT : kTh A sa s s.heap) (hex : ∀ x ∈ c.exceptionTable.toList, False) : ∀ (u : ST) (H : Heap) (locs : List Loc) (ls : Array Slot), wX6_node_b19 Q X  u → kH D (cW cy ad) A s u H locs → lv_has ls 3 [] → W p l e (kRx 7 2 12) s m args below meth c H locs 1 6 (vx_MQ below (kQi D (cW cy ad) cy A Q) (kXC D (cW cy ad) cy A X) args s 2 12 A) (F0 m 19 ls []) := by
  intro  u H locs ls hw h hl
  obtain ⟨⟨hx, hb, hml, hown, hts⟩, hK, hA⟩ := id C
  unfold wX6_node_b19 at hw
  exact kthrow C hst hT h xIOB hw xfit_IOB wi_cl_X6_102 xini_IOB (is := 174) (List.mem_of_getElem? (i := 12) rfl) xat_106 xgo_102_106 hl.1 dX6_node_19 dX6_node_22 dX6_node_23 dX6_node_25 dX6_node_28 hex (by decide) (by decide) (by decide) (by decide) hlk (by decide) (by decide)
def wX6_node (x1 : Int32) (x2 : Int32) (u : ST) (Q : Int32 → ST → Prop) (X : String → ST → Prop) : Prop :=
  wX6_needTree  u (fun u_2 => ((x1 < 0 → wX6_node_b19 Q X  u_2) ∧ (¬ x1 < 0 → ((x1 < (gI u_2 17) → (((x2.toInt < 0 ∨ (3 : Int) < x2.toInt) → X xIOB u_2) ∧ (x2 = 0 → wX4_isLeaf x1 u_2 (fun r_3 u_4 => ((r_3 = 0 → (vp_in x1 1000 ∧ Q (gR u_4 12 x1.toNatClampNeg) u_4)) ∧ (¬ r_3 = 0 → Q (-1) u_4)))) ∧ (x2 = 1 → wX4_isLeaf x1 u_2 (fun r_5 u_6 => ((r_5 = 0 → Q (x1 + 1) u_6) ∧ (¬ r_5 = 0 → Q (-1) u_6)))) ∧ (x2 = 2 → (vp_in x1 1000 ∧ Q (gR u_2 13 x1.toNatClampNeg) u_2)) ∧ (x2 = 3 → wX4_isLeaf x1 u_2 (fun r_7 u_8 => ((r_7 = 0 → Q (-1) u_8) ∧ (¬ r_7 = 0 → (vp_in x1 1000 ∧ Q ((gR u_8 12 x1.toNatClampNeg) - 128) u_8))))))) ∧ (¬ x1 < (gI u_2 17) → wX6_node_b19 Q X  u_2))))) X
set_option maxHeartbeats 4000000 in
set_option maxRecDepth 100000 in
theorem mX6_node (l : Launch) (hst : l.stackTraces = false) (D : va_G) (cy : CY) (ad sa : Nat → Nat) (x1 : Int32) (x2 : Int32) (u : ST) (sz : Nat) {Q : Int32 → ST → Prop} {X : String → ST → Prop} (hw : wX6_node x1 x2 u Q X) : vx_Met l yX6_node (wM yX6_node cX6_node 3 (some .int)) (kRx 7 2 12) (kPx D (cW cy ad) cy sa u sz [.ref (ad 0), .int x1, .int x2]) (kQi D (cW cy ad) cy (va_A (cW cy ad u) sz) Q) (kXC D (cW cy ad) cy (va_A (cW cy ad u) sz) X) 2 12 (va_A (cW cy ad u) sz) := by
  refine kMetX pn_X6_node (Nat.le_of_ble_eq_true rfl) (fun p e s m below meth c ls hsz C hT hr hlk hex h hl => ?_)
  have hl : lv_has ls 3 [(0, .ref (ad 0)), (1, .int x1), (2, .int x2)] := hl
  obtain ⟨⟨hx, hb, hml, hown, hts⟩, hK, hA⟩ := id C
  unfold wX6_node at hw
  have h : kH D (cW cy ad) (va_A (cW cy ad u) sz) s u s.heap [] := h
  refine lv_aload_n hx hb dX6_node_0 rfl (lv_at hl 0 rfl) ?_
  refine kXv (As := []) (rest := []) C hT h (cwV 0 hts (gd_V wi_ml_X6_171 wi_im_X6_needTree wi_se_X6_needTree wi_in_X6 wi_co_X6_needTree) rfl rfl rfl hd_X6_needTree ⟨Nat.le_of_ble_eq_true rfl, Nat.le_of_ble_eq_true rfl⟩) 0 rfl rfl rfl (mX6_needTree l hst D cy ad sa  _ _ hw) rfl hl.1 rfl (Nat.le_of_ble_eq_true rfl) ⟨Nat.le_of_ble_eq_true rfl, Nat.le_of_ble_eq_true rfl⟩ dX6_node_1 hex hlk (by decide) (by decide) (fun u_2 H locs hw h => ?_)
  refine lv_iload_n hx hb dX6_node_4 rfl (lv_at hl 1 rfl) ?_
  refine lv_if_lt (tgt := 19) hx hb dX6_node_5 (by decide) (fun c_5 => ?_) (fun c_5 => ?_)
  · have hw := hw.1 c_5
    refine W.widen (k := 1) (n := 6) (by decide) (by decide) ?_
    exact kX6_node_b19 C hr hlk hst hT hex  _ _ _ _ hw h (lv_sub hl [] rfl)
  · have hw := hw.2 c_5
    refine lv_iload_n hx hb dX6_node_8 rfl (lv_at hl 1 rfl) ?_
    refine lv_aload_n hx hb dX6_node_9 rfl (lv_at hl 0 rfl) ?_
    refine kget C h 0 rfl rfl inBX6 9 (Nat.le_of_ble_eq_true rfl) wi_fl_X6_36 rfl dX6_node_10 ?_
    refine kget C h 9 rfl rfl inBX4 2 (Nat.le_of_ble_eq_true rfl) wi_fl_X6_122 rfl dX6_node_13 ?_
    refine lv_icmp_lt (tgt := 29) hx hb dX6_node_16 (by decide) (fun c_16 => ?_) (fun c_16 => ?_)
    · have hw := hw.1 c_16
      refine lv_iload_n hx hb dX6_node_29 rfl (lv_at hl 2 rfl) ?_
      by_cases c_30 : x2.toInt < 0 ∨ (3 : Int) < x2.toInt
      · refine lv_tableOut (tgt := 143) hx hb dX6_node_30 c_30 (by decide) ?_
        have hw := hw.1 c_30
        exact kthrow C hst hT h xIOB hw xfit_IOB wi_cl_X6_102 xini_IOB (is := 104) (List.mem_of_getElem? (i := 4) rfl) xat_106 xgo_102_106 hl.1 dX6_node_143 dX6_node_146 dX6_node_147 dX6_node_149 dX6_node_152 hex (by decide) (by decide) (by decide) (by decide) hlk (by decide) (by decide)
      · obtain ⟨j, hj, ej⟩ := sw_of (n := 3) c_30 (by decide)
        rcases (show j = 0 ∨ j = 1 ∨ j = 2 ∨ j = 3 by omega) with rfl | rfl | rfl | rfl
        · have ek : x2 = 0 := ej
          refine lv_tableIn (tgt := 60) hx hb dX6_node_30 (by rw [ek]; decide) (by rw [ek]; decide) (by rw [ek]; rfl) (by decide) ?_
          have hw := hw.2.1 ek
          refine lv_aload_n hx hb dX6_node_60 rfl (lv_at hl 0 rfl) ?_
          refine kget C h 0 rfl rfl inBX6 9 (Nat.le_of_ble_eq_true rfl) wi_fl_X6_36 rfl dX6_node_61 ?_
          refine lv_iload_n hx hb dX6_node_64 rfl (lv_at hl 1 rfl) ?_
          refine kVi (As := [.int x1]) (rest := []) C h (cwV 1 hts (gd_V wi_ml_X6_176 wi_im_X4_isLeaf wi_se_X4_isLeaf wi_in_X4 wi_co_X4_isLeaf) rfl rfl rfl hd_X4_isLeaf ⟨Nat.le_of_ble_eq_true rfl, Nat.le_of_ble_eq_true rfl⟩) 9 rfl rfl rfl (mX4_isLeaf l D cy ad x1 _ _ hw) rfl hl.1 rfl (Nat.le_of_ble_eq_true rfl) ⟨Nat.le_of_ble_eq_true rfl, Nat.le_of_ble_eq_true rfl⟩ dX6_node_65 (fun r_3 u_4 H locs hw h => ?_)
          refine lv_if_eq (tgt := 75) hx hb dX6_node_68 (by decide) (fun c_68 => ?_) (fun c_68 => ?_)
          · have hw := hw.1 c_68
            refine lv_aload_n hx hb dX6_node_75 rfl (lv_at hl 0 rfl) ?_
            refine kget C h 0 rfl rfl inBX6 9 (Nat.le_of_ble_eq_true rfl) wi_fl_X6_36 rfl dX6_node_76 ?_
            refine kget C h 9 rfl rfl inBX4 0 (Nat.le_of_ble_eq_true rfl) wi_fl_X6_180 rfl dX6_node_79 ?_
            refine lv_iload_n hx hb dX6_node_82 rfl (lv_at hl 1 rfl) ?_
            obtain ⟨i_83, hw⟩ := hw
            refine kiald C h 29 rfl i_83 dX6_node_83 ?_
            exact kxretI C hr hlk h hw (by decide) (by decide) dX6_node_84
          · have hw := hw.2 c_68
            refine lv_iconst (v := (-1)) hx hb dX6_node_71 (by decide) ?_
            refine lv_goto (tgt := 84) hx hb dX6_node_72 (by decide) ?_
            exact kxretI C hr hlk h hw (by decide) (by decide) dX6_node_84
        · have ek : x2 = 1 := ej
          refine lv_tableIn (tgt := 85) hx hb dX6_node_30 (by rw [ek]; decide) (by rw [ek]; decide) (by rw [ek]; rfl) (by decide) ?_
          have hw := hw.2.2.1 ek
          refine lv_aload_n hx hb dX6_node_85 rfl (lv_at hl 0 rfl) ?_
          refine kget C h 0 rfl rfl inBX6 9 (Nat.le_of_ble_eq_true rfl) wi_fl_X6_36 rfl dX6_node_86 ?_
          refine lv_iload_n hx hb dX6_node_89 rfl (lv_at hl 1 rfl) ?_
          refine kVi (As := [.int x1]) (rest := []) C h (cwV 1 hts (gd_V wi_ml_X6_176 wi_im_X4_isLeaf wi_se_X4_isLeaf wi_in_X4 wi_co_X4_isLeaf) rfl rfl rfl hd_X4_isLeaf ⟨Nat.le_of_ble_eq_true rfl, Nat.le_of_ble_eq_true rfl⟩) 9 rfl rfl rfl (mX4_isLeaf l D cy ad x1 _ _ hw) rfl hl.1 rfl (Nat.le_of_ble_eq_true rfl) ⟨Nat.le_of_ble_eq_true rfl, Nat.le_of_ble_eq_true rfl⟩ dX6_node_90 (fun r_5 u_6 H locs hw h => ?_)
          refine lv_if_eq (tgt := 100) hx hb dX6_node_93 (by decide) (fun c_93 => ?_) (fun c_93 => ?_)
          · have hw := hw.1 c_93
            refine lv_iload_n hx hb dX6_node_100 rfl (lv_at hl 1 rfl) ?_
            refine lv_iconst (v := 1) hx hb dX6_node_101 (by decide) ?_
            refine lv_iadd hx hb dX6_node_102 ?_
            exact kxretI C hr hlk h hw (by decide) (by decide) dX6_node_103
          · have hw := hw.2 c_93
            refine lv_iconst (v := (-1)) hx hb dX6_node_96 (by decide) ?_
            refine lv_goto (tgt := 103) hx hb dX6_node_97 (by decide) ?_
            exact kxretI C hr hlk h hw (by decide) (by decide) dX6_node_103
        · have ek : x2 = 2 := ej
          refine lv_tableIn (tgt := 104) hx hb dX6_node_30 (by rw [ek]; decide) (by rw [ek]; decide) (by rw [ek]; rfl) (by decide) ?_
          have hw := hw.2.2.2.1 ek
          refine lv_aload_n hx hb dX6_node_104 rfl (lv_at hl 0 rfl) ?_
          refine kget C h 0 rfl rfl inBX6 9 (Nat.le_of_ble_eq_true rfl) wi_fl_X6_36 rfl dX6_node_105 ?_
          refine kget C h 9 rfl rfl inBX4 1 (Nat.le_of_ble_eq_true rfl) wi_fl_X6_183 rfl dX6_node_108 ?_
          refine lv_iload_n hx hb dX6_node_111 rfl (lv_at hl 1 rfl) ?_
          obtain ⟨i_112, hw⟩ := hw
          refine kiald C h 30 rfl i_112 dX6_node_112 ?_
          exact kxretI C hr hlk h hw (by decide) (by decide) dX6_node_113
        · have ek : x2 = 3 := ej
          refine lv_tableIn (tgt := 114) hx hb dX6_node_30 (by rw [ek]; decide) (by rw [ek]; decide) (by rw [ek]; rfl) (by decide) ?_
          have hw := hw.2.2.2.2 ek
          refine lv_aload_n hx hb dX6_node_114 rfl (lv_at hl 0 rfl) ?_
          refine kget C h 0 rfl rfl inBX6 9 (Nat.le_of_ble_eq_true rfl) wi_fl_X6_36 rfl dX6_node_115 ?_
          refine lv_iload_n hx hb dX6_node_118 rfl (lv_at hl 1 rfl) ?_
          refine kVi (As := [.int x1]) (rest := []) C h (cwV 1 hts (gd_V wi_ml_X6_176 wi_im_X4_isLeaf wi_se_X4_isLeaf wi_in_X4 wi_co_X4_isLeaf) rfl rfl rfl hd_X4_isLeaf ⟨Nat.le_of_ble_eq_true rfl, Nat.le_of_ble_eq_true rfl⟩) 9 rfl rfl rfl (mX4_isLeaf l D cy ad x1 _ _ hw) rfl hl.1 rfl (Nat.le_of_ble_eq_true rfl) ⟨Nat.le_of_ble_eq_true rfl, Nat.le_of_ble_eq_true rfl⟩ dX6_node_119 (fun r_7 u_8 H locs hw h => ?_)
          refine lv_if_eq (tgt := 141) hx hb dX6_node_122 (by decide) (fun c_122 => ?_) (fun c_122 => ?_)
          · have hw := hw.1 c_122
            refine lv_iconst (v := (-1)) hx hb dX6_node_141 (by decide) ?_
            exact kxretI C hr hlk h hw (by decide) (by decide) dX6_node_142
          · have hw := hw.2 c_122
            refine lv_aload_n hx hb dX6_node_125 rfl (lv_at hl 0 rfl) ?_
            refine kget C h 0 rfl rfl inBX6 9 (Nat.le_of_ble_eq_true rfl) wi_fl_X6_36 rfl dX6_node_126 ?_
            refine kget C h 9 rfl rfl inBX4 0 (Nat.le_of_ble_eq_true rfl) wi_fl_X6_180 rfl dX6_node_129 ?_
            refine lv_iload_n hx hb dX6_node_132 rfl (lv_at hl 1 rfl) ?_
            obtain ⟨i_133, hw⟩ := hw
            refine kiald C h 29 rfl i_133 dX6_node_133 ?_
            refine lv_sipush (v := 128) hx hb dX6_node_134 (by decide) ?_
            refine lv_isub hx hb dX6_node_137 ?_
            refine lv_goto (tgt := 142) hx hb dX6_node_138 (by decide) ?_
            exact kxretI C hr hlk h hw (by decide) (by decide) dX6_node_142
    · have hw := hw.2 c_16
      refine W.widen (k := 1) (n := 6) (by decide) (by decide) ?_
      exact kX6_node_b19 C hr hlk hst hT hex  _ _ _ _ hw h (lv_sub hl [] rfl)

def wX6_code_b19 (Q : Int32 → ST → Prop) (X : String → ST → Prop) (u : ST) : Prop :=
  X xIOB u
set_option maxHeartbeats 4000000 in
set_option maxRecDepth 100000 in
theorem kX6_code_b19 {p : Program} {l : Launch} {e : Env} {s : State} {m : MethodId} {args : Array Value} {below : List Frame} {meth : Method} {c : Code} {D : va_G} {cy : CY} {A : Nat → Prop} {ad : Nat → Nat} {Q : Int32 → ST → Prop} {sa : Nat → Nat} {X : String → ST → Prop} (C : kC p m c cX6_code 2 s args RX6 D cy A) (hr : meth.sig.returnType = some .int) (hlk : meth.locks = false) (hst : l.stackTraces = false) (hT : kTh A sa s s.heap) (hex : ∀ x ∈ c.exceptionTable.toList, False) : ∀ (u : ST) (H : Heap) (locs : List Loc) (ls : Array Slot), wX6_code_b19 Q X  u → kH D (cW cy ad) A s u H locs → lv_has ls 2 [] → W p l e (kRx 7 2 12) s m args below meth c H locs 1 6 (vx_MQ below (kQi D (cW cy ad) cy A Q) (kXC D (cW cy ad) cy A X) args s 2 12 A) (F0 m 19 ls []) := by
  intro  u H locs ls hw h hl
  obtain ⟨⟨hx, hb, hml, hown, hts⟩, hK, hA⟩ := id C
  unfold wX6_code_b19 at hw
  exact kthrow C hst hT h xIOB hw xfit_IOB wi_cl_X6_102 xini_IOB (is := 186) (List.mem_of_getElem? (i := 13) rfl) xat_106 xgo_102_106 hl.1 dX6_code_19 dX6_code_22 dX6_code_23 dX6_code_25 dX6_code_28 hex (by decide) (by decide) (by decide) (by decide) hlk (by decide) (by decide)
def wX6_code (x1 : Int32) (u : ST) (Q : Int32 → ST → Prop) (X : String → ST → Prop) : Prop :=
  wX6_needTree  u (fun u_2 => ((x1 < 0 → wX6_code_b19 Q X  u_2) ∧ (¬ x1 < 0 → ((x1 < (gI u_2 21) → (vp_in x1 2000 ∧ Q (gR u_2 14 x1.toNatClampNeg) u_2)) ∧ (¬ x1 < (gI u_2 21) → wX6_code_b19 Q X  u_2))))) X
set_option maxHeartbeats 4000000 in
set_option maxRecDepth 100000 in
theorem mX6_code (l : Launch) (hst : l.stackTraces = false) (D : va_G) (cy : CY) (ad sa : Nat → Nat) (x1 : Int32) (u : ST) (sz : Nat) {Q : Int32 → ST → Prop} {X : String → ST → Prop} (hw : wX6_code x1 u Q X) : vx_Met l yX6_code (wM yX6_code cX6_code 2 (some .int)) (kRx 7 2 12) (kPx D (cW cy ad) cy sa u sz [.ref (ad 0), .int x1]) (kQi D (cW cy ad) cy (va_A (cW cy ad u) sz) Q) (kXC D (cW cy ad) cy (va_A (cW cy ad u) sz) X) 2 12 (va_A (cW cy ad u) sz) := by
  refine kMetX pn_X6_code (Nat.le_of_ble_eq_true rfl) (fun p e s m below meth c ls hsz C hT hr hlk hex h hl => ?_)
  have hl : lv_has ls 2 [(0, .ref (ad 0)), (1, .int x1)] := hl
  obtain ⟨⟨hx, hb, hml, hown, hts⟩, hK, hA⟩ := id C
  unfold wX6_code at hw
  have h : kH D (cW cy ad) (va_A (cW cy ad u) sz) s u s.heap [] := h
  refine lv_aload_n hx hb dX6_code_0 rfl (lv_at hl 0 rfl) ?_
  refine kXv (As := []) (rest := []) C hT h (cwV 0 hts (gd_V wi_ml_X6_171 wi_im_X6_needTree wi_se_X6_needTree wi_in_X6 wi_co_X6_needTree) rfl rfl rfl hd_X6_needTree ⟨Nat.le_of_ble_eq_true rfl, Nat.le_of_ble_eq_true rfl⟩) 0 rfl rfl rfl (mX6_needTree l hst D cy ad sa  _ _ hw) rfl hl.1 rfl (Nat.le_of_ble_eq_true rfl) ⟨Nat.le_of_ble_eq_true rfl, Nat.le_of_ble_eq_true rfl⟩ dX6_code_1 hex hlk (by decide) (by decide) (fun u_2 H locs hw h => ?_)
  refine lv_iload_n hx hb dX6_code_4 rfl (lv_at hl 1 rfl) ?_
  refine lv_if_lt (tgt := 19) hx hb dX6_code_5 (by decide) (fun c_5 => ?_) (fun c_5 => ?_)
  · have hw := hw.1 c_5
    refine W.widen (k := 1) (n := 6) (by decide) (by decide) ?_
    exact kX6_code_b19 C hr hlk hst hT hex  _ _ _ _ hw h (lv_sub hl [] rfl)
  · have hw := hw.2 c_5
    refine lv_iload_n hx hb dX6_code_8 rfl (lv_at hl 1 rfl) ?_
    refine lv_aload_n hx hb dX6_code_9 rfl (lv_at hl 0 rfl) ?_
    refine kget C h 0 rfl rfl inBX6 10 (Nat.le_of_ble_eq_true rfl) wi_fl_X6_43 rfl dX6_code_10 ?_
    refine kget C h 10 rfl rfl inBX0 2 (Nat.le_of_ble_eq_true rfl) wi_fl_X6_126 rfl dX6_code_13 ?_
    refine lv_icmp_lt (tgt := 29) hx hb dX6_code_16 (by decide) (fun c_16 => ?_) (fun c_16 => ?_)
    · have hw := hw.1 c_16
      refine lv_aload_n hx hb dX6_code_29 rfl (lv_at hl 0 rfl) ?_
      refine kget C h 0 rfl rfl inBX6 10 (Nat.le_of_ble_eq_true rfl) wi_fl_X6_43 rfl dX6_code_30 ?_
      refine kget C h 10 rfl rfl inBX0 0 (Nat.le_of_ble_eq_true rfl) wi_fl_X6_188 rfl dX6_code_33 ?_
      refine lv_iload_n hx hb dX6_code_36 rfl (lv_at hl 1 rfl) ?_
      obtain ⟨i_37, hw⟩ := hw
      refine kiald C h 31 rfl i_37 dX6_code_37 ?_
      exact kxretI C hr hlk h hw (by decide) (by decide) dX6_code_38
    · have hw := hw.2 c_16
      refine W.widen (k := 1) (n := 6) (by decide) (by decide) ?_
      exact kX6_code_b19 C hr hlk hst hT hex  _ _ _ _ hw h (lv_sub hl [] rfl)

def wX6_run (x1 : Int32) (x2 : Int32) (u : ST) (Q : Int32 → ST → Prop) (X : String → ST → Prop) : Prop :=
  wX6_needTree  u (fun u_2 => wX6_needCase x1 u_2 (fun u_4 => wX0_follow x1 x2 u_4 (fun r_5 u_6 => Q r_5 u_6)) X) X
set_option maxHeartbeats 4000000 in
set_option maxRecDepth 100000 in
theorem mX6_run (l : Launch) (hst : l.stackTraces = false) (D : va_G) (cy : CY) (ad sa : Nat → Nat) (x1 : Int32) (x2 : Int32) (u : ST) (sz : Nat) {Q : Int32 → ST → Prop} {X : String → ST → Prop} (hw : wX6_run x1 x2 u Q X) : vx_Met l yX6_run (wM yX6_run cX6_run 3 (some .int)) (kRx 7 2 12) (kPx D (cW cy ad) cy sa u sz [.ref (ad 0), .int x1, .int x2]) (kQi D (cW cy ad) cy (va_A (cW cy ad u) sz) Q) (kXC D (cW cy ad) cy (va_A (cW cy ad u) sz) X) 2 12 (va_A (cW cy ad u) sz) := by
  refine kMetX pn_X6_run (Nat.le_of_ble_eq_true rfl) (fun p e s m below meth c ls hsz C hT hr hlk hex h hl => ?_)
  have hl : lv_has ls 3 [(0, .ref (ad 0)), (1, .int x1), (2, .int x2)] := hl
  obtain ⟨⟨hx, hb, hml, hown, hts⟩, hK, hA⟩ := id C
  unfold wX6_run at hw
  have h : kH D (cW cy ad) (va_A (cW cy ad u) sz) s u s.heap [] := h
  refine lv_aload_n hx hb dX6_run_0 rfl (lv_at hl 0 rfl) ?_
  refine kXv (As := []) (rest := []) C hT h (cwV 0 hts (gd_V wi_ml_X6_171 wi_im_X6_needTree wi_se_X6_needTree wi_in_X6 wi_co_X6_needTree) rfl rfl rfl hd_X6_needTree ⟨Nat.le_of_ble_eq_true rfl, Nat.le_of_ble_eq_true rfl⟩) 0 rfl rfl rfl (mX6_needTree l hst D cy ad sa  _ _ hw) rfl hl.1 rfl (Nat.le_of_ble_eq_true rfl) ⟨Nat.le_of_ble_eq_true rfl, Nat.le_of_ble_eq_true rfl⟩ dX6_run_1 hex hlk (by decide) (by decide) (fun u_2 H locs hw h => ?_)
  refine lv_aload_n hx hb dX6_run_4 rfl (lv_at hl 0 rfl) ?_
  refine lv_iload_n hx hb dX6_run_5 rfl (lv_at hl 1 rfl) ?_
  refine kXv (As := [.int x1]) (rest := []) C hT h (cwV 1 hts (gd_V wi_ml_X6_153 wi_im_X6_needCase wi_se_X6_needCase wi_in_X6 wi_co_X6_needCase) rfl rfl rfl hd_X6_needCase ⟨Nat.le_of_ble_eq_true rfl, Nat.le_of_ble_eq_true rfl⟩) 0 rfl rfl rfl (mX6_needCase l hst D cy ad sa x1 _ _ hw) rfl hl.1 rfl (Nat.le_of_ble_eq_true rfl) ⟨Nat.le_of_ble_eq_true rfl, Nat.le_of_ble_eq_true rfl⟩ dX6_run_6 hex hlk (by decide) (by decide) (fun u_4 H locs hw h => ?_)
  refine lv_aload_n hx hb dX6_run_9 rfl (lv_at hl 0 rfl) ?_
  refine kget C h 0 rfl rfl inBX6 10 (Nat.le_of_ble_eq_true rfl) wi_fl_X6_43 rfl dX6_run_10 ?_
  refine lv_iload_n hx hb dX6_run_13 rfl (lv_at hl 1 rfl) ?_
  refine lv_iload_n hx hb dX6_run_14 rfl (lv_at hl 2 rfl) ?_
  refine kVi (As := [.int x1, .int x2]) (rest := []) C h (cwV 2 hts (gd_V wi_ml_X6_191 wi_im_X0_follow wi_se_X0_follow wi_in_X0 wi_co_X0_follow) rfl rfl rfl hd_X0_follow ⟨Nat.le_of_ble_eq_true rfl, Nat.le_of_ble_eq_true rfl⟩) 10 rfl rfl rfl (mX0_follow l D cy ad x1 x2 _ _ hw) rfl hl.1 rfl (Nat.le_of_ble_eq_true rfl) ⟨Nat.le_of_ble_eq_true rfl, Nat.le_of_ble_eq_true rfl⟩ dX6_run_15 (fun r_5 u_6 H locs hw h => ?_)
  exact kxretI C hr hlk h hw (by decide) (by decide) dX6_run_18

def wX6_tests (u : ST) (Q : Int64 → ST → Prop) (X : String → ST → Prop) : Prop :=
  wX6_needTree  u (fun u_2 => Q (gJ u_2 1) u_2) X
set_option maxHeartbeats 4000000 in
set_option maxRecDepth 100000 in
theorem mX6_tests (l : Launch) (hst : l.stackTraces = false) (D : va_G) (cy : CY) (ad sa : Nat → Nat) (u : ST) (sz : Nat) {Q : Int64 → ST → Prop} {X : String → ST → Prop} (hw : wX6_tests  u Q X) : vx_Met l yX6_tests (wM yX6_tests cX6_tests 1 (some .long)) (kRx 7 2 12) (kPx D (cW cy ad) cy sa u sz [.ref (ad 0)]) (kQl D (cW cy ad) cy (va_A (cW cy ad u) sz) Q) (kXC D (cW cy ad) cy (va_A (cW cy ad u) sz) X) 2 12 (va_A (cW cy ad u) sz) := by
  refine kMetX pn_X6_tests (Nat.le_of_ble_eq_true rfl) (fun p e s m below meth c ls hsz C hT hr hlk hex h hl => ?_)
  have hl : lv_has ls 1 [(0, .ref (ad 0))] := hl
  obtain ⟨⟨hx, hb, hml, hown, hts⟩, hK, hA⟩ := id C
  unfold wX6_tests at hw
  have h : kH D (cW cy ad) (va_A (cW cy ad u) sz) s u s.heap [] := h
  refine lv_aload_n hx hb dX6_tests_0 rfl (lv_at hl 0 rfl) ?_
  refine kXv (As := []) (rest := []) C hT h (cwV 0 hts (gd_V wi_ml_X6_171 wi_im_X6_needTree wi_se_X6_needTree wi_in_X6 wi_co_X6_needTree) rfl rfl rfl hd_X6_needTree ⟨Nat.le_of_ble_eq_true rfl, Nat.le_of_ble_eq_true rfl⟩) 0 rfl rfl rfl (mX6_needTree l hst D cy ad sa  _ _ hw) rfl hl.1 rfl (Nat.le_of_ble_eq_true rfl) ⟨Nat.le_of_ble_eq_true rfl, Nat.le_of_ble_eq_true rfl⟩ dX6_tests_1 hex hlk (by decide) (by decide) (fun u_2 H locs hw h => ?_)
  refine lv_aload_n hx hb dX6_tests_4 rfl (lv_at hl 0 rfl) ?_
  refine kget C h 0 rfl rfl inBX6 9 (Nat.le_of_ble_eq_true rfl) wi_fl_X6_36 rfl dX6_tests_5 ?_
  refine kget C h 9 rfl rfl inBX4 5 (Nat.le_of_ble_eq_true rfl) wi_fl_X6_195 rfl dX6_tests_8 ?_
  exact kxretL C hr hlk h hw (by decide) (by decide) dX6_tests_11
