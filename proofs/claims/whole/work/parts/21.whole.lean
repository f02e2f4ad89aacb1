/-! THE CLAIM OUT OF ONE WALK OF THE LAW'S BODY. Your part is whole_start (and what it stands on); all else here is the same for every law, but numbers. -/
def R_law : String := "RuleTablesLaw"
def lw_P (b : Addr) (xs : List Int32) (args : Array Value) (s : State) : Prop := args = #[.ref b] ∧ s.IntsAt b xs ∧ xs.length ≤ 2048 ∧ (Jvm.Cond.and given_1 narrow_1).before args s = true
def lw_Q (_ : Array Value) (s : State) (o : Outcome) (t : State) : Prop := o = .returned (some (.int 1)) ∧ Framed s o t [] 601024 7293034
def lw_Z (below : List Frame) (a : Array Value) (s : State) : State → Prop := fun t => ∃ o, t.status = .running ∧ Ended t below o ∧ lw_Q a s o t
/-- the law's own end, with 1 on the stack, nothing written that was there before, its room as the claim has it -/
theorem lw_ret {p : Program} {l : Launch} {e : Env} {s : State} {m : MethodId} {below : List Frame} {meth : Method} {c : Code} {b : Nat} (hx : p.tables.exec = Jvm.exec) (hb : c.code = code) (hr : meth.sig.returnType = ret) (hlocks : meth.locks = false) {pc : Nat} {H : Heap} {ls : Array Slot} (hdg : decode code pc = .ok (.ireturn, 1)) : W p l e room_1 s m #[Value.ref b] below meth c H [] 601024 7293034 (lw_Z below #[Value.ref b] s) (F0 m pc ls [.int 1]) := by
  intro T hT X
  obtain ⟨fs, hret, hrun, hended, hW, hframe⟩ := X.leave (v := some (.int 1)) (hlocks := hlocks) (fun h => by rw [hr] at h; cases h)
  have hmeth' : T.vm.method? m = some meth := X.method'
  refine ⟨T.setFrames fs, ?_, .returned (some (.int 1)), hrun, hended, rfl, ⟨_, rfl⟩, hW, hframe⟩
  jvm_step X.here [X.here.top, hx, hb, hdg, hmeth', hr, ret, narrow_b1]
  (try refine ⟨rfl, ?_⟩); (try refine ⟨rfl, ?_⟩)
  first | (intro acts; rw [hret _ acts rfl rfl rfl]) | rw [hret _ _ rfl rfl rfl]
  exact Steps.refl _
/-- what holds at the law's entry: the machine, the code, the tables' words (any of lw_tbl by 'hts w (by decide +kernel)'), the script of L ints xs at the cell b, what the Statement gives of the start (any of its parts by flat_of_before) -/
def lw_At (p : Program) (s : State) (m : MethodId) (meth : Method) (c : Code) (b L : Nat) (xs : Nat → Int32) : Prop :=
  p.tables.exec = Jvm.exec ∧ c.code = code ∧ meth.sig.returnType = ret ∧ c.maxLocals = 8 ∧ s.vm.findClass R_law = some m.cls ∧ (∀ w ∈ lw_tbl, w.before #[Value.ref b] s = true) ∧ va_X b L xs s s.heap ∧ b < s.heap.size ∧ meth.locks = false ∧ (Jvm.Cond.and given_1 narrow_1).before #[Value.ref b] s = true

theorem vp_inS {i k L : Nat} (h : i + k < L) (hL : L ≤ 2048) : vp_in (nI i + nI k) L := by
  rw [nI_add]
  exact vp_in_nI h (by omega)
set_option maxHeartbeats 4000000 in
set_option maxRecDepth 100000 in
/-- THE LAW'S LOOP, over an invariant that every turn keeps -/
theorem law_loop {p : Program} {l : Launch} {e : Env} {s : State} {m : MethodId} {below : List Frame} {meth : Method} {c : Code} {D : va_G} {cy : CY} {ad am sa : Nat → Nat} {b L : Nat} {xs : Nat → Int32} (Inv : Nat → ST → ST → Prop) (hstep : ∀ (i : Nat) (uc um : ST), i < 512 → Inv i uc um → ∀ a0 a1 a2 a3 : Int32, wLaw a0 a1 a2 a3 uc um (fun uc1 um1 => Inv (i + 1) uc1 um1)) (hst : l.stackTraces = false) (hL : L ≤ 2048) (C : kC p m c cL_law 8 s #[Value.ref b] RL D cy (fun q => s.heap.size ≤ q)) (hT : kTh (fun q => s.heap.size ≤ q) sa s s.heap) (hX : va_X b L xs s s.heap) (hbl : b < s.heap.size) (hr : meth.sig.returnType = ret) (hlk : meth.locks = false) :
    ∀ (n i : Nat) (x4 : Int32) (uc um : ST) (H : Heap) (locs : List Loc) (ls : Array Slot), i + n = 513 → x4 = nI (4 * i) → Inv i uc um → lH D cy ad am (fun q => s.heap.size ≤ q) s uc um H locs → lv_has ls 8 [(0, .ref b), (1, .ref (ad 0)), (2, .ref (am 0)), (3, .ref (ad 50)), (4, .int x4)] → W p l e room_1 s m #[Value.ref b] below meth c H locs (69 + 2 * i) (33429 + 12 * i) (lw_Z below #[Value.ref b] s) (F0 m 23 ls []) := by
  obtain ⟨⟨hx, hb, hml, hown, hts⟩, hK, hA⟩ := id C
  have hbA : ¬ (fun q : Nat => s.heap.size ≤ q) b := Nat.not_le.mpr hbl
  intro n
  induction n with
  | zero =>
    intro i x4 uc um H locs ls hin ex4 hI h hl
    refine lv_iload hx hb dL_law_23 (lv_at hl 4 rfl) ?_
    refine lv_aload_n hx hb dL_law_25 rfl (lv_at hl 0 rfl) ?_
    refine va_slen hx hb hX hbl hbA h.2.2 dL_law_26 ?_
    refine lv_iconst (v := 4) hx hb dL_law_27 (by decide) ?_
    refine lv_isub hx hb dL_law_28 ?_
    refine lv_icmp_gt (tgt := 915) hx hb dL_law_29 (by decide) (fun c_29 => ?_) (fun c_29 => ?_)
    · refine lv_iconst (v := 1) hx hb dL_law_915 (by decide) ?_
      refine va_forget (fun q hq => h.2.2.2.2 q hq) ?_
      refine W.widen (k := 601024) (n := 7293034) (by omega) (by omega) ?_
      exact lw_ret hx hb hr hlk dL_law_916
    · refine absurd ?_ c_29
      have h1 : (Int32.ofNat L - 4).toInt = (L : Int) - 4 := pk_sub_toInt (a := L) (b := 4) (by omega) (by omega)
      rw [Int32.lt_iff_toInt_lt, ex4, nI_toInt (by omega), h1]
      omega
  | succ n ih =>
    intro i x4 uc um H locs ls hin ex4 hI h hl
    refine lv_iload hx hb dL_law_23 (lv_at hl 4 rfl) ?_
    refine lv_aload_n hx hb dL_law_25 rfl (lv_at hl 0 rfl) ?_
    refine va_slen hx hb hX hbl hbA h.2.2 dL_law_26 ?_
    refine lv_iconst (v := 4) hx hb dL_law_27 (by decide) ?_
    refine lv_isub hx hb dL_law_28 ?_
    refine lv_icmp_gt (tgt := 915) hx hb dL_law_29 (by decide) (fun c_29 => ?_) (fun c_29 => ?_)
    · refine lv_iconst (v := 1) hx hb dL_law_915 (by decide) ?_
      refine va_forget (fun q hq => h.2.2.2.2 q hq) ?_
      refine W.widen (k := 601024) (n := 7293034) (by omega) (by omega) ?_
      exact lw_ret hx hb hr hlk dL_law_916
    · have hlt : 4 * i + 4 ≤ L := by
        have h1 : (Int32.ofNat L - 4).toInt = (L : Int) - 4 := pk_sub_toInt (a := L) (b := 4) (by omega) (by omega)
        rw [Int32.lt_iff_toInt_lt, ex4, nI_toInt (by omega), h1] at c_29
        omega
      have hi0 : vp_in x4 L := by rw [ex4]; exact vp_in_nI (by omega) (by omega)
      have hi1 : vp_in (x4 + 1) L := by rw [ex4]; exact vp_inS (k := 1) (by omega) hL
      have hi2 : vp_in (x4 + 2) L := by rw [ex4]; exact vp_inS (k := 2) (by omega) hL
      have hi3 : vp_in (x4 + 3) L := by rw [ex4]; exact vp_inS (k := 3) (by omega) hL
      have hw := hstep i uc um (by omega) hI (xs x4.toNatClampNeg) (xs (x4 + 1).toNatClampNeg) (xs (x4 + 2).toNatClampNeg) (xs (x4 + 3).toNatClampNeg)
      have hroom : (69 + 2 * i) + 2 ≤ room_1.cells ∧ (33429 + 12 * i) + 12 ≤ room_1.slots := ⟨by show _ ≤ 601024; omega, by show _ ≤ 7293034; omega⟩
      have kend : ∀ (uc um : ST) (H : Heap) (locs : List Loc) (ls : Array Slot), Inv (i + 1) uc um → lH D cy ad am (fun q => s.heap.size ≤ q) s uc um H locs → lv_has ls 8 [(0, .ref b), (1, .ref (ad 0)), (2, .ref (am 0)), (3, .ref (ad 50)), (4, .int x4)] → W p l e room_1 s m #[Value.ref b] below meth c H locs ((69 + 2 * i) + 2) ((33429 + 12 * i) + 12) (lw_Z below #[Value.ref b] s) (F0 m 909 ls []) := by
        intro uc um H locs ls hI h hl
        refine lv_iinc (v := x4 + 4) (lv' := [(4, .int (x4 + 4)), (0, .ref b), (1, .ref (ad 0)), (2, .ref (am 0)), (3, .ref (ad 50))]) hx hb dL_law_909 hl (k := 4) rfl rfl (by decide) rfl (fun ls hl => ?_)
        refine lv_goto (tgt := 23) hx hb dL_law_912 (by decide) ?_
        rw [show 69 + 2 * i + 2 = 69 + 2 * (i + 1) by omega, show 33429 + 12 * i + 12 = 33429 + 12 * (i + 1) by omega]
        exact ih (i + 1) (x4 + 4) uc um H locs ls (by omega) (by rw [ex4]; exact nI_add (4 * i) 4) hI h (lv_sub hl [1, 2, 3, 4, 0] rfl)
      refine lv_aload_n hx hb dL_law_32 rfl (lv_at hl 0 rfl) ?_
      refine lv_iload hx hb dL_law_33 (lv_at hl 4 rfl) ?_
      refine va_sld hx hb hX hbl hbA h.2.2 hi0 dL_law_35 ?_
      refine lv_bipush (v := 15) hx hb dL_law_36 (by decide) ?_
      refine lv_iand hx hb dL_law_38 ?_
      obtain ⟨j, hj, ej⟩ := pk_andE (xs x4.toNatClampNeg) (m := 15) 4 (by decide)
      by_cases h13 : j ≤ 13
      · rcases (show j = 0 ∨ j = 1 ∨ j = 2 ∨ j = 3 ∨ j = 4 ∨ j = 5 ∨ j = 6 ∨ j = 7 ∨ j = 8 ∨ j = 9 ∨ j = 10 ∨ j = 11 ∨ j = 12 ∨ j = 13 by omega) with rfl | rfl | rfl | rfl | rfl | rfl | rfl | rfl | rfl | rfl | rfl | rfl | rfl | rfl
        · refine lv_tableIn (tgt := 108) hx hb dL_law_39 (by rw [ej]; decide) (by rw [ej]; decide) (by rw [ej]; rfl) (by decide) ?_
          exact lC0 hst C hT hX hbl hroom x4 hi0 hi1 hi2 hi3 kend uc um _ _ _ (hw.1 ej) h hl
        · refine lv_tableIn (tgt := 208) hx hb dL_law_39 (by rw [ej]; decide) (by rw [ej]; decide) (by rw [ej]; rfl) (by decide) ?_
          exact lC1 hst C hT hX hbl hroom x4 hi0 hi1 hi2 hi3 kend uc um _ _ _ (hw.2.1 ej) h hl
        · refine lv_tableIn (tgt := 244) hx hb dL_law_39 (by rw [ej]; decide) (by rw [ej]; decide) (by rw [ej]; rfl) (by decide) ?_
          exact lC2 hst C hT hX hbl hroom x4 hi0 hi1 hi2 hi3 kend uc um _ _ _ (hw.2.2.1 ej) h hl
        · refine lv_tableIn (tgt := 257) hx hb dL_law_39 (by rw [ej]; decide) (by rw [ej]; decide) (by rw [ej]; rfl) (by decide) ?_
          exact lC3 hst C hT hX hbl hroom x4 hi0 hi1 hi2 hi3 kend uc um _ _ _ (hw.2.2.2.1 ej) h hl
        · refine lv_tableIn (tgt := 270) hx hb dL_law_39 (by rw [ej]; decide) (by rw [ej]; decide) (by rw [ej]; rfl) (by decide) ?_
          exact lC4 hst C hT hX hbl hroom x4 hi0 hi1 hi2 hi3 kend uc um _ _ _ (hw.2.2.2.2.1 ej) h hl
        · refine lv_tableIn (tgt := 326) hx hb dL_law_39 (by rw [ej]; decide) (by rw [ej]; decide) (by rw [ej]; rfl) (by decide) ?_
          exact lC5 hst C hT hX hbl hroom x4 hi0 hi1 hi2 hi3 kend uc um _ _ _ (hw.2.2.2.2.2.1 ej) h hl
        · refine lv_tableIn (tgt := 382) hx hb dL_law_39 (by rw [ej]; decide) (by rw [ej]; decide) (by rw [ej]; rfl) (by decide) ?_
          exact lC6 hst C hT hX hbl hroom x4 hi0 hi1 hi2 hi3 kend uc um _ _ _ (hw.2.2.2.2.2.2.1 ej) h hl
        · refine lv_tableIn (tgt := 450) hx hb dL_law_39 (by rw [ej]; decide) (by rw [ej]; decide) (by rw [ej]; rfl) (by decide) ?_
          exact lC7 hst C hT hX hbl hroom x4 hi0 hi1 hi2 hi3 kend uc um _ _ _ (hw.2.2.2.2.2.2.2.1 ej) h hl
        · refine lv_tableIn (tgt := 546) hx hb dL_law_39 (by rw [ej]; decide) (by rw [ej]; decide) (by rw [ej]; rfl) (by decide) ?_
          exact lC8 hst C hT hX hbl hroom x4 hi0 hi1 hi2 hi3 kend uc um _ _ _ (hw.2.2.2.2.2.2.2.2.1 ej) h hl
        · refine lv_tableIn (tgt := 602) hx hb dL_law_39 (by rw [ej]; decide) (by rw [ej]; decide) (by rw [ej]; rfl) (by decide) ?_
          exact lC9 hst C hT hX hbl hroom x4 hi0 hi1 hi2 hi3 kend uc um _ _ _ (hw.2.2.2.2.2.2.2.2.2.1 ej) h hl
        · refine lv_tableIn (tgt := 658) hx hb dL_law_39 (by rw [ej]; decide) (by rw [ej]; decide) (by rw [ej]; rfl) (by decide) ?_
          exact lC10 hst C hT hX hbl hroom x4 hi0 hi1 hi2 hi3 kend uc um _ _ _ (hw.2.2.2.2.2.2.2.2.2.2.1 ej) h hl
        · refine lv_tableIn (tgt := 726) hx hb dL_law_39 (by rw [ej]; decide) (by rw [ej]; decide) (by rw [ej]; rfl) (by decide) ?_
          exact lC11 hst C hT hX hbl hroom x4 hi0 hi1 hi2 hi3 kend uc um _ _ _ (hw.2.2.2.2.2.2.2.2.2.2.2.1 ej) h hl
        · refine lv_tableIn (tgt := 782) hx hb dL_law_39 (by rw [ej]; decide) (by rw [ej]; decide) (by rw [ej]; rfl) (by decide) ?_
          exact lC12 hst C hT hX hbl hroom x4 hi0 hi1 hi2 hi3 kend uc um _ _ _ (hw.2.2.2.2.2.2.2.2.2.2.2.2.1 ej) h hl
        · refine lv_tableIn (tgt := 866) hx hb dL_law_39 (by rw [ej]; decide) (by rw [ej]; decide) (by rw [ej]; rfl) (by decide) ?_
          exact lC13 hst C hT hX hbl hroom x4 hi0 hi1 hi2 hi3 kend uc um _ _ _ (hw.2.2.2.2.2.2.2.2.2.2.2.2.2.1 ej) h hl
      · have hgt : (13 : Int) < (xs x4.toNatClampNeg &&& 15).toInt := by
          rw [ej, nI_toInt (by omega)]; omega
        refine lv_tableOut (tgt := 909) hx hb dL_law_39 (Or.inr hgt) (by decide) ?_
        exact W.widen (k := (69 + 2 * i) + 2) (n := (33429 + 12 * i) + 12) (by omega) (by omega) (kend _ _ _ _ _ (hw.2.2.2.2.2.2.2.2.2.2.2.2.2.2 hgt) h hl)
theorem w_tm {s : State} {args : Array Value} (h : (Jvm.Cond.and given_1 narrow_1).before args s = true) (w : Cond) (hw : w ∈ flatC (Jvm.Cond.and given_1 narrow_1)) : w.before args s = true := flat_of_before _ h w hw
set_option maxRecDepth 100000 in
theorem w_strs : ∀ q ∈ xStr, Cond.exactly (.string "RuleTables" q.1) "java/lang/String" ∈ flatC (Jvm.Cond.and given_1 narrow_1) ∧ Cond.stringRef "RuleTables" q.1 q.2 ∈ tables_1 := by decide +kernel
set_option maxRecDepth 100000 in
theorem w_decl : ∀ n ∈ xDecl, Cond.declares ⟨n, "<init>", "(Ljava/lang/String;)V"⟩ ∈ tables_1 := by decide +kernel
set_option maxRecDepth 100000 in
theorem w_cast : ∀ n ∈ xCast, Cond.castable n n ∈ tables_1 := by decide +kernel
set_option maxRecDepth 100000 in
theorem w_nest : ∀ q ∈ xNest, Cond.methodLinkNest RX6 q.1 q.2 RX6 ∈ tables_1 := by decide +kernel
set_option maxRecDepth 100000 in
theorem w_more : Cond.arrayOver (.array .int) ∈ tables_1 ∧ Cond.laysStatic Bundle.tN "UNASSIGNED_STACK" Bundle.steD ∈ tables_1 ∧ Cond.laysStatic Bundle.tN "SUPPRESSED_SENTINEL" Bundle.listD ∈ tables_1 ∧ Cond.initialized Bundle.tN ∈ tables_1 := by decide +kernel
set_option maxRecDepth 100000 in
theorem w_nar : Cond.isRef (.static Bundle.tN "UNASSIGNED_STACK" Bundle.steD) ∈ flatC (Jvm.Cond.and given_1 narrow_1) ∧ Cond.isRef (.static Bundle.tN "SUPPRESSED_SENTINEL" Bundle.listD) ∈ flatC (Jvm.Cond.and given_1 narrow_1) ∧ Cond.not (.castable xUOE xIAE) ∈ flatC (Jvm.Cond.and given_1 narrow_1) ∧ Cond.not (.castable xIOB xISE) ∈ flatC (Jvm.Cond.and given_1 narrow_1) := by decide +kernel
theorem w_th {s : State} {b : Nat} (hts : ∀ w ∈ lw_tbl, w.before #[Value.ref b] s = true) (hgv : (Jvm.Cond.and given_1 narrow_1).before #[Value.ref b] s = true) : ∃ sa : Nat → Nat, kTh (fun q => s.heap.size ≤ q) sa s s.heap := by
  have ht : ∀ w ∈ tables_1, w.before #[Value.ref b] s = true := fun w hw => hts w (List.mem_append_right _ hw)
  have hn : ∀ w ∈ flatC (Jvm.Cond.and given_1 narrow_1), w.before #[Value.ref b] s = true := fun w hw => w_tm hgv w hw
  have hs : ∀ k : Nat, ∃ a : Nat, ∀ q ∈ xStr, q.1 = k → (Term.string "RuleTables" k).eval #[Value.ref b] s none [] s = some (.ref a) := by
    intro k
    by_cases hk : ∃ q ∈ xStr, q.1 = k
    · obtain ⟨q, hq, rfl⟩ := hk
      obtain ⟨a, cell, cc, kk, h1, h2⟩ := Cond.exactly_spec (hn _ (w_strs q hq).1)
      exact ⟨a, fun _ _ _ => h1⟩
    · exact ⟨0, fun q hq e => absurd ⟨q, hq, e⟩ hk⟩
  refine ⟨fun k => Classical.choose (hs k), ?_⟩
  refine ⟨vx_Zqof (ht _ w_more.2.1) (ht _ w_more.2.2.2) (hn _ w_nar.1) (fun a ha => by omega), vx_Zqof (ht _ w_more.2.2.1) (ht _ w_more.2.2.2) (hn _ w_nar.2.1) (fun a ha => by omega), fun q hq => ?_, fun n hn' => va_Nw.of rfl (ht _ (w_decl n hn')), fun n hn' => va_Nw.of rfl (ht _ (w_cast n hn')), va_Nc.of (hn _ w_nar.2.2.1), va_Nc.of (hn _ w_nar.2.2.2)⟩
  exact vk_R.of (A := #[Value.ref b]) (ht _ (w_strs q hq).2) (Classical.choose_spec (hs q.1) q hq rfl)
theorem w_iN {s : State} {b : Nat} (hts : ∀ w ∈ lw_tbl, w.before #[Value.ref b] s = true) : iN s := ⟨fun q hq => va_Nw.of rfl (hts _ (List.mem_append_right _ (w_nest q hq))), hts _ (List.mem_append_right _ w_more.1)⟩
theorem w_cy {s : State} {b : Nat} (hts : ∀ w ∈ wB, w.before #[Value.ref b] s = true) (hN : iN s) : ∃ cy : CY, ∀ (k : Nat) (q : ClassId × FieldType), (tyS cy)[k]? = some q → ArrOfT s q.1 q.2 ∧ va_RA s q.1 q.2 := by
  obtain ⟨cB, kB, pB, b1, b2, b3⟩ := Cond.arrayClass_spec (hts _ wi_ac_byte)
  obtain ⟨cI, kI, pI, i1, i2, i3⟩ := Cond.arrayClass_spec (hts _ wi_ac_int)
  obtain ⟨cJ, kJ, pJ, j1, j2, j3⟩ := Cond.arrayClass_spec (hts _ wi_ac_long)
  obtain ⟨pO, cO, kO, o0, o2, o3, o1⟩ := Cond.arrayOver_specA hN.2
  refine ⟨(cB, cI, cJ, cO), fun k q hk => ?_⟩
  match k, hk with
  | 0, hk => cases hk; exact ⟨fun n z => ⟨fun k h => (by cases h), kB, b2, pB, b3⟩, b1⟩
  | 1, hk => cases hk; exact ⟨fun n z => ⟨fun k h => (by cases h), kI, i2, pI, i3⟩, i1⟩
  | 2, hk => cases hk; exact ⟨fun n z => ⟨fun k h => (by cases h), kJ, j2, pJ, j3⟩, j1⟩
  | 3, hk => cases hk; exact ⟨fun n z => ⟨fun k h => (by cases h), kO, o2, pO, o3⟩, o1⟩
  | k + 4, hk => simp [tyS] at hk
set_option maxHeartbeats 8000000 in
set_option maxRecDepth 100000 in
/-- THE LAW, from its entry, over an invariant -/
theorem whole_inv (Inv : Nat → ST → ST → Prop) (h0 : Inv 0 u0 u0) (hstep : ∀ (i : Nat) (uc um : ST), i < 512 → Inv i uc um → ∀ a0 a1 a2 a3 : Int32, wLaw a0 a1 a2 a3 uc um (fun uc1 um1 => Inv (i + 1) uc1 um1)) {p : Program} {e : Env} {s : State} {m : MethodId} {below : List Frame} {meth : Method} {c : Code} (l : Launch) (hst : l.stackTraces = false) {b L : Nat} {xs : Nat → Int32} (hL : L ≤ 2048) (C0 : lw_At p s m meth c b L xs) : W p l e room_1 s m #[Value.ref b] below meth c s.heap [] 0 0 (lw_Z below #[Value.ref b] s) (entryFrame m ([Value.ref b] : List Value).toArray 8) := by
  obtain ⟨hx, hb, hr, hml, hown, hts, hX, hbl, hlocks, hgv⟩ := id C0
  have hA : ∀ q : Nat, s.heap.size ≤ q → (fun q : Nat => s.heap.size ≤ q) q := fun _ h => h
  have hbA : ¬ (fun q : Nat => s.heap.size ≤ q) b := Nat.not_le.mpr hbl
  have hwB : ∀ w ∈ wB, w.before #[Value.ref b] s = true := fun w hw => hts w (List.mem_filter.mp hw).1
  obtain ⟨sa, hT⟩ := w_th hts hgv
  have hN := w_iN hts
  obtain ⟨cy, hcy⟩ := w_cy hwB hN
  obtain ⟨c0, iS0, hKn0⟩ := u_known (C := RX0) (T := TX0) (N := 3) (n := 3) hwB inBX0 (hwB _ wi_it_X0)
  obtain ⟨c1, iS1, hKn1⟩ := u_known (C := RX1) (T := TX1) (N := 2) (n := 2) hwB inBX1 (hwB _ wi_it_X1)
  obtain ⟨c2, iS2, hKn2⟩ := u_known (C := RX2) (T := TX2) (N := 6) (n := 6) hwB inBX2 (hwB _ wi_it_X2)
  obtain ⟨c3, iS3, hKn3⟩ := u_known (C := RX3) (T := TX3) (N := 7) (n := 7) hwB inBX3 (hwB _ wi_it_X3)
  obtain ⟨c4, iS4, hKn4⟩ := u_known (C := RX4) (T := TX4) (N := 7) (n := 7) hwB inBX4 (hwB _ wi_it_X4)
  obtain ⟨c5, iS5, hKn5⟩ := u_known (C := RX5) (T := TX5) (N := 8) (n := 8) hwB inBX5 (hwB _ wi_it_X5)
  obtain ⟨c6, iS6, hKn6⟩ := u_known (C := RX6) (T := TX6) (N := 11) (n := 11) hwB inBX6 (hwB _ wi_it_X6)
  obtain ⟨c7, iS7, hKn7⟩ := u_known (C := RX7) (T := TX7) (N := 34) (n := 34) hwB inBX7 (hwB _ wi_it_X7)
  obtain ⟨dC, dI, hKc⟩ : ∃ (dC : Nat → ClassId) (dI : Nat → Nat → Nat), ∀ (k : Nat) (q : vw_C), vwCl[k]? = some q → u_Kn s q.1 q.2.1 q.2.2 (dC k) (dI k) := by
    refine ⟨fun k => if k = 0 then c0 else if k = 1 then c1 else if k = 2 then c2 else if k = 3 then c3 else if k = 4 then c4 else if k = 5 then c5 else if k = 6 then c6 else c7, fun k => if k = 0 then iS0 else if k = 1 then iS1 else if k = 2 then iS2 else if k = 3 then iS3 else if k = 4 then iS4 else if k = 5 then iS5 else if k = 6 then iS6 else iS7, ?_⟩
    intro k q hq
    match k, hq with
    | 0, hq => cases hq; exact hKn0
    | 1, hq => cases hq; exact hKn1
    | 2, hq => cases hq; exact hKn2
    | 3, hq => cases hq; exact hKn3
    | 4, hq => cases hq; exact hKn4
    | 5, hq => cases hq; exact hKn5
    | 6, hq => cases hq; exact hKn6
    | 7, hq => cases hq; exact hKn7
    | k + 8, hq => simp [vwCl] at hq
  have hK : va_K (dC, dI) vwCl (tyS cy) s := ⟨hKc, hcy⟩
  have C : kC p m c cL_law 8 s #[Value.ref b] RL (dC, dI) cy (fun q => s.heap.size ≤ q) := ⟨⟨hx, hb, hml, hown, hwB⟩, hK, hA⟩
  have h : iH (dC, dI) (fun q => s.heap.size ≤ q) s [] s.heap [] := ⟨fun k q h => by simp at h, ⟨fun i j p q h => by simp at h, fun k q h => by simp at h⟩, va_S.rf⟩
  have hl := lv_entry ([.ref b]) (n := 8) (Nat.le_of_ble_eq_true rfl)
  rw [lg_entry_eq]
  generalize (lg_sl ([.ref b]) ++ List.replicate (8 - (lg_sl ([.ref b])).length) Slot.unset).toArray = ls at hl ⊢
  have hl : lv_has ls 8 [(0, .ref b)] := hl
  refine inewo C h (ci := 6) (fs := [.null, .null, .null, .int 0, .int 0, .int 0, .int 0, .int 0, .null, .null, .null]) rfl inBX6 tyX6_ok wi_cl_L_8 wi_it_X6 wi_in_X6 (fun j hj => by rcases (show j = 0 ∨ j = 1 ∨ j = 2 ∨ j = 3 ∨ j = 4 ∨ j = 5 ∨ j = 6 ∨ j = 7 ∨ j = 8 ∨ j = 9 ∨ j = 10 by omega) with rfl | rfl | rfl | rfl | rfl | rfl | rfl | rfl | rfl | rfl | rfl <;> rfl) (Nat.le_of_ble_eq_true rfl) (Nat.le_of_ble_eq_true rfl) dL_law_0 (fun q0 H h => ?_)
  refine lv_dup hx hb dL_law_3 rfl ?_
  have h : iH (dC, dI) _ s ([] ++ [(q0, .inr (6, [.null, .null, .null, .int 0, .int 0, .int 0, .int 0, .int 0, .null, .null, .null]))]) H _ := h
  refine irunI (As := []) (rest := [.ref q0]) C hN h (mX6_init l (dC, dI) cy q0 _) wi_co_X6_init wi_ml_L_60 wi_im_X6_init wi_in_X6 rfl hd_X6_init rfl rfl ⟨Nat.le_of_ble_eq_true rfl, Nat.le_of_ble_eq_true rfl⟩ rfl hl.1 rfl (Nat.le_of_ble_eq_true rfl) ⟨Nat.le_of_ble_eq_true rfl, Nat.le_of_ble_eq_true rfl⟩ dL_law_4 (fun ad1 H locs h => ?_)
  refine lv_astore_n (lv' := [(1, .ref q0), (0, .ref b)]) hx hb dL_law_7 rfl hl (by decide) rfl (fun ls hl => ?_)
  refine inewo C h (ci := 7) (fs := [.int 0, .null, .int 0, .int 0, .int 0, .null, .null, .null, .null, .null, .int 0, .int 0, .int 0, .int 0, .int 0, .int 0, .int 0, .int 0, .int 0, .int 0, .int 0, .int 0, .null, .null, .null, .null, .null, .null, .null, .null, .null, .null, .null, .int 0]) rfl inBX7 tyX7_ok wi_cl_L_61 wi_it_X7 wi_in_X7 (fun j hj => by rcases (show j = 0 ∨ j = 1 ∨ j = 2 ∨ j = 3 ∨ j = 4 ∨ j = 5 ∨ j = 6 ∨ j = 7 ∨ j = 8 ∨ j = 9 ∨ j = 10 ∨ j = 11 ∨ j = 12 ∨ j = 13 ∨ j = 14 ∨ j = 15 ∨ j = 16 ∨ j = 17 ∨ j = 18 ∨ j = 19 ∨ j = 20 ∨ j = 21 ∨ j = 22 ∨ j = 23 ∨ j = 24 ∨ j = 25 ∨ j = 26 ∨ j = 27 ∨ j = 28 ∨ j = 29 ∨ j = 30 ∨ j = 31 ∨ j = 32 ∨ j = 33 by omega) with rfl | rfl | rfl | rfl | rfl | rfl | rfl | rfl | rfl | rfl | rfl | rfl | rfl | rfl | rfl | rfl | rfl | rfl | rfl | rfl | rfl | rfl | rfl | rfl | rfl | rfl | rfl | rfl | rfl | rfl | rfl | rfl | rfl | rfl <;> rfl) (Nat.le_of_ble_eq_true rfl) (Nat.le_of_ble_eq_true rfl) dL_law_8 (fun q1 H h => ?_)
  refine lv_dup hx hb dL_law_11 rfl ?_
  refine irunI (As := []) (rest := [.ref q1]) C hN h (mX7_init l (dC, dI) cy q1 _) wi_co_X7_init wi_ml_L_63 wi_im_X7_init wi_in_X7 rfl hd_X7_init rfl rfl ⟨Nat.le_of_ble_eq_true rfl, Nat.le_of_ble_eq_true rfl⟩ rfl hl.1 rfl (Nat.le_of_ble_eq_true rfl) ⟨Nat.le_of_ble_eq_true rfl, Nat.le_of_ble_eq_true rfl⟩ dL_law_12 (fun am1 H locs h => ?_)
  refine lv_astore_n (lv' := [(2, .ref q1), (1, .ref q0), (0, .ref b)]) hx hb dL_law_15 rfl hl (by decide) rfl (fun ls hl => ?_)
  refine lv_iconst (v := 1) hx hb dL_law_16 (by decide) ?_
  refine inewR C h (ty := .long) rfl wi_ac_long 2 rfl (ira (by simp)) (N := 1) (a0 := (1, .inr (.inl (fun _ => 0)))) (fun _ => rfl) (by decide) (by decide) (by decide) (Nat.le_of_ble_eq_true rfl) (Nat.le_of_ble_eq_true rfl) dL_law_17 (fun qo H h => ?_)
  refine lv_astore_n (lv' := [(3, .ref qo), (2, .ref q1), (1, .ref q0), (0, .ref b)]) hx hb dL_law_19 rfl hl (by decide) rfl (fun ls hl => ?_)
  refine lv_iconst (v := 0) hx hb dL_law_20 (by decide) ?_
  refine lv_istore (lv' := [(4, .int 0), (3, .ref qo), (2, .ref q1), (1, .ref q0), (0, .ref b)]) hx hb dL_law_21 hl (by decide) rfl (fun ls hl => ?_)
  obtain ⟨ad, had⟩ : ∃ ad : Nat → Nat, ad = fun k => if k = 0 then q0 else if k = 50 then qo else ad1 k := ⟨_, rfl⟩
  obtain ⟨am, ham⟩ : ∃ am : Nat → Nat, am = fun k => if k = 0 then q1 else am1 k := ⟨_, rfl⟩
  have hP2 := va_P.repl 16 (ad1 16) _ (eO cy ad) rfl (fun hz => by
    have hz' : H[ad1 16]? = some (arrV cy.2.2.2 17 (fun j => va_rf (some (if 17 + (16 + j) = 0 then q0 else ad1 (17 + (16 + j)))))) := hz
    show H[ad1 16]? = some (arrV cy.2.2.2 17 (fun j => va_rf (some (ad (17 + (16 + j))))))
    rw [hz']
    refine congrArg some (arrV_congr (fun i hi => ?_))
    rw [had]
    show va_rf (some (if 17 + (16 + i) = 0 then q0 else ad1 (17 + (16 + i)))) = va_rf (some (if 17 + (16 + i) = 0 then q0 else if 17 + (16 + i) = 50 then qo else ad1 (17 + (16 + i))))
    rw [if_neg (show ¬ 17 + (16 + i) = 50 by omega)]) h.1
  have hD2 := h.2.1.set (e := eO cy ad) (p := 16) (a := ad1 16) rfl
  have hlh : lH (dC, dI) cy ad am (fun q => s.heap.size ≤ q) s u0 u0 H locs := by
    subst had; subst ham
    exact ⟨hP2.sub [0, 1, 2, 3, 4, 5, 6, 7, 8, 9, 10, 11, 12, 13, 14, 15, 16, 17, 18, 19, 20, 21, 22, 23, 24, 25, 26, 27, 28, 29, 30, 31, 32, 33, 34, 35, 36, 37, 38, 39, 40, 41, 42, 43, 44, 45, 46, 47, 48, 49, 68, 50, 51, 52, 53, 54, 55, 56, 57, 58, 59, 60, 61, 62, 63, 64, 65, 66, 67] rfl, hD2.sub [0, 1, 2, 3, 4, 5, 6, 7, 8, 9, 10, 11, 12, 13, 14, 15, 16, 17, 18, 19, 20, 21, 22, 23, 24, 25, 26, 27, 28, 29, 30, 31, 32, 33, 34, 35, 36, 37, 38, 39, 40, 41, 42, 43, 44, 45, 46, 47, 48, 49, 68, 50, 51, 52, 53, 54, 55, 56, 57, 58, 59, 60, 61, 62, 63, 64, 65, 66, 67] (by decide) rfl, h.2.2⟩
  have eq0 : q0 = ad 0 := by rw [had]; rfl
  have eq1 : q1 = am 0 := by rw [ham]; rfl
  have eqo : qo = ad 50 := by rw [had]; rfl
  rw [eq0, eq1, eqo] at hl
  exact law_loop Inv hstep hst hL C hT hX hbl hr hlocks 513 0 0 u0 u0 _ _ _ rfl nI_0.symm h0 hlh (lv_sub hl [4, 3, 2, 1, 0] rfl)
-- ===== YOUR PART ENDS =====
set_option maxHeartbeats 4000000 in
theorem lw_walk (Inv : Nat → ST → ST → Prop) (h0 : Inv 0 u0 u0) (hstep : ∀ (i : Nat) (uc um : ST), i < 512 → Inv i uc um → ∀ a0 a1 a2 a3 : Int32, wLaw a0 a1 a2 a3 uc um (fun uc1 um1 => Inv (i + 1) uc1 um1)) (l : Launch) (hst : l.stackTraces = false) (b : Addr) (xs : List Int32) : MetFree l x (headSpec (Jvm.Cond.code x code maxLocals ret :: tables_1) room_1) (lw_P b xs) (fun _ _ _ _ _ => True) lw_Q := by
  refine MetFree.of_bodyS (code := code) (maxLocals := maxLocals) (ret := ret) (by decide) ?_ ?_
  · intro args s m h hn
    obtain ⟨meth, c, h1, h2, h3, h4, h5, h6, -, -⟩ := Cond.code_spec hn (atoms_spec (ws := Jvm.Cond.code x code maxLocals ret :: tables_1) h _ List.mem_cons_self)
    exact ⟨meth, c, h1, h2, h3, h4, h5, h6⟩
  · intro p e s m args below meth c s₁ B hml0 hP _
    obtain ⟨rfl, hx, hbd, hgv⟩ := hP
    obtain ⟨scr, harrAt, hlist, hof, hsmall⟩ := hx
    obtain ⟨hcb, hkn, -, -⟩ := State.arrayAt?_spec harrAt
    have hown : s.vm.findClass R_law = some m.cls := findClass_of_methodNamed B.named
    have hts0 : ∀ c ∈ (Jvm.Cond.code x code maxLocals ret :: tables_1), c.before #[Value.ref b] s = true := atoms_spec (ws := Jvm.Cond.code x code maxLocals ret :: tables_1) B.pre
    have hts : ∀ w ∈ lw_tbl, w.before #[Value.ref b] s = true := k2_hts_sels lw_privs (fun w hw => hts0 w (List.mem_cons_of_mem _ hw)) lw_privs_ok
    have hml : c.maxLocals = 8 := B.maxLocals_eq (hts0 _ List.mem_cons_self)
    have X₀ : Stand p l e room_1 s m #[Value.ref b] below meth c s₁ [] 0 0 := Stand.of_body B
    have hh0 : s₁.heap = s.heap := by rw [B.state]; rfl
    have hsz : scr.slots.size = xs.length := by rw [← Array.length_toList, hlist, List.length_map]
    have hval : ∀ j : Nat, j < xs.length → scr.slots[j]? = some (.int (xs.getD j 0)) := fun j hj => by
      rw [← Array.getElem?_toList, hlist]
      simp [hj]
    have hbl : b < s.heap.size := (Array.getElem?_eq_some_iff.mp hcb).1
    have hX : va_X b xs.length (fun j => xs.getD j 0) s s.heap := ⟨scr, hcb, hof, hkn, hsz, hval⟩
    have K : W p l e room_1 s m #[Value.ref b] below meth c s₁.heap [] 0 0 (lw_Z below #[Value.ref b] s) (entryFrame m ([Value.ref b] : List Value).toArray 8) := by
      rw [hh0]
      exact whole_inv Inv h0 hstep l hst hbd ⟨B.exec, B.bytes, B.returns, hml, hown, hts, hX, hbl, B.notSynchronized, hgv⟩
    obtain ⟨t, a1, o, b1, b2, b3⟩ := K s₁ rfl X₀
    exact ⟨t, o, a1, b1, b2, b3⟩
theorem lw_pre_spec {args : Array Value} {s : State} (h : (Jvm.Cond.and given_1 narrow_1).before args s = true) (hr : rest_1_c.before args s = true) : ∃ (b : Addr) (xs : List Int32), lw_P b xs args s := by
  have hs := flat_of_before _ h
  have hq := flat_of_before _ hr
  have hc : (Cond.count 1).before args s = true := hs _ (by decide +kernel)
  have harr : (Cond.arrayOf (.arg 0) .int).before args s = true := hs _ (by decide +kernel)
  have hle : (Cond.le (.length (.arg 0)) (.int 2048)).before args s = true := hs _ (by decide +kernel)
  have hlen : (Cond.isInt (.length (.arg 0))).before args s = true := hq _ (by decide +kernel)
  have hall : (Cond.all (.arg 0) (.isInt (.elem (.arg 0) (.index 0)))).before args s = true := hq _ (by decide +kernel)
  obtain ⟨b, xs, hb, hx⟩ := State.ints_of_pre rfl harr hlen hall
  have hsm : xs.length < 2 ^ 31 := hx.choose_spec.2.2.2
  have hev : (Term.length (.arg 0)).eval args s none [] s = some (.int xs.length.toInt32) := hx.length_eval hb
  have hv := Cond.le_ints hev (show (Term.int 2048).eval args s none [] s = some (.int 2048) from rfl)
  have hd : xs.length.toInt32 ≤ 2048 := by
    simpa [Cond.before, Cond.holds, hv] using hle
  have hN : xs.length ≤ 2048 := (Int32.ofNat_le_ofNat hsm (by decide)).mp (show Int32.ofNat xs.length ≤ Int32.ofNat 2048 from hd)
  exact ⟨b, xs, Cond.one_arg hc (show args[0]? = some (.ref b) from hb), hx, hN, h⟩
theorem lw_comes (Inv : Nat → ST → ST → Prop) (h0 : Inv 0 u0 u0) (hstep : ∀ (i : Nat) (uc um : ST), i < 512 → Inv i uc um → ∀ a0 a1 a2 a3 : Int32, wLaw a0 a1 a2 a3 uc um (fun uc1 um1 => Inv (i + 1) uc1 um1)) (l : Launch) (hst : l.stackTraces = false) : Comes l x (Jvm.Cond.code x code maxLocals ret :: tables_1) room_1 (fun tb e args s => Calls_1 tb e args s ∧ rest_1 tb e args s ∧ Pre_1 tb e args s)
    (fun _ _ args s o t => lw_Q args s o t) := by
  intro p e ha hc hk s m args below hf hfit hheap happ hpre
  obtain ⟨b, xs, hP⟩ := lw_pre_spec hpre.2.2 hpre.2.1
  obtain ⟨k, o, h1, h2, h3, hQ⟩ := lw_walk Inv h0 hstep l hst b xs p e ha hc hk s m args below hf ((Spec.applies_iff_loose hf).mp happ).1 hP trivial
  exact ⟨k, o, h1, h2, h3, hQ⟩
theorem lw_frame {s t : State} {o : Outcome} {args : Array Value} (h : Framed s o t [] 601024 7293034) :
    Framed s o t (fieldLocs frame_1_writes args s ++ arrayLocs frame_1_arrays args s ++ staticLocs frame_1_statics s) 601024 7293034 := h
theorem lw_flag {l : Launch} (h : l.flags = flags0) : l.stackTraces = false := by
  unfold Launch.stackTraces
  rw [h]
  decide +kernel
theorem lw_limb (Inv : Nat → ST → ST → Prop) (h0 : Inv 0 u0 u0) (hstep : ∀ (i : Nat) (uc um : ST), i < 512 → Inv i uc um → ∀ a0 a1 a2 a3 : Int32, wLaw a0 a1 a2 a3 uc um (fun uc1 um1 => Inv (i + 1) uc1 um1)) (L : Cond) (hL : ∀ (args : Array Value) (s t : State), L.after args s (.returned (some (.int 1))) t = true) :
    ArmFor flags0 classFile x code maxLocals ret World_1 tables_1 room_1 Calls_1 rest_1 Pre_1
      (fun tb e a s o t => postC L tb e a s o t ∧ Framed s o t (fieldLocs frame_1_writes a s ++ arrayLocs frame_1_arrays a s ++ staticLocs frame_1_statics s) 601024 7293034) := by
  intro l hfl _ _ p e ha hc hk s m args below hf hfit hheap happ hpre
  obtain ⟨k, o, h1, h2, h3, rfl, hF⟩ := lw_comes Inv h0 hstep l (lw_flag hfl) p e ha hc hk s m args below hf hfit hheap happ hpre
  exact ⟨k, _, h1, h2, h3, hL args s _, lw_frame hF⟩
