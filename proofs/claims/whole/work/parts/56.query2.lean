/-! rule -/
theorem t00 (um : ST) (x : Int32) : gI (sI um 0 x) 0 = x := by rw [gI_sI, if_pos rfl]
theorem t0k (um : ST) (x : Int32) (k : Nat) (hk : k ≠ 0) : gI (sI um 0 x) k = gI um k := by rw [gI_sI, if_neg hk]
theorem q_rule {uc um : ST} {K : ST → ST → Prop} (x1 x2 : Int32) (hz : gZ uc 0 < 2) (h : relN uc um ∨ relY uc um) (hK : ∀ uc1 um1, qC uc uc1 → qM um um1 → K uc1 um1) : wC6 x1 x2 uc um K := by
  unfold wC6 wL_rule wX6_rule
  have b33 : wX7_rule_b33 (FIN K 1 (sO uc (gB uc 5))) x1 x2 um := by
    unfold wX7_rule_b33 wX7_rule_b38
    exact ⟨fun c => absurd c (by rw [t00]; decide), fun _ => fin_bad (by decide) (qC.rf uc) hK⟩
  rcases h with h | ⟨cs, rs, as, L, nc, hO, hC, hM, a1, a2, a3⟩
  · exact ⟨fun _ => ⟨rfl, fun _ => b33, fun c => absurd h.2.2.2.2.2.1 c⟩, fun c => absurd h.1 c⟩
  have hT := hC.2.1
  have hnc := hO.1
  have hn := hO.2.1
  have hl := hO.2.2.2.2.1
  refine ⟨fun c => absurd c (c0 hC), fun _ => ⟨fun h1 => ⟨rfl, fun _ => b33, fun _ => ⟨fun _ => b33, fun c => absurd h1 c⟩⟩, fun h1 => ⟨hz, ?_⟩⟩⟩
  rw [hT.2.2.1, hT.1.1, hnc]
  obtain ⟨k, hk31, rfl⟩ := nI_of h1
  have h12 : gI um 12 = nI rs.length := hM.1.2.2.1
  have h11 : gI um 11 = nI nc := by rw [hM.1.2.1, hnc]
  -- the reference, once the rule's number is good
  have ref : ∀ P : Int32 → ST → Prop, k < rs.length → (x2 < -1 → wX7_rule_b33 P (nI k) x2 um) → (¬ x2 < -1 → ((x2 < nI nc → wX7_rule_b38 P (nI k) x2 0 um) ∧ (¬ x2 < nI nc → wX7_rule_b33 P (nI k) x2 um))) → wX7_rule (nI k) x2 um P := by
    intro P hk p1 p2
    unfold wX7_rule
    rw [h12, h11]
    exact ⟨fun c => absurd c (r10 hM), fun _ => ⟨fun c => absurd c h1, fun _ => pk_le rs.length k (fun c => absurd c (by omega)) (fun _ => ⟨p1, p2⟩)⟩⟩
  refine pk_lt k rs.length (fun hk => ?_) (fun hk => ?_)
  · obtain ⟨r, hr⟩ : ∃ r, rs[k]? = some r := ⟨_, List.getElem?_eq_getElem hk⟩
    have hc := hT.2.2.2.2 k r hr
    have hm := hM.1.2.2.2.2.2.2 k r hr
    have hb := hO.2.2.2.1 r (List.mem_of_getElem? hr)
    have v512 : vp_in (nI k) 512 := vp_in_nI (by omega) (by omega)
    have v256 : vp_in (nI k) 256 := vp_in_nI (by omega) (by omega)
    refine ⟨fun hne => ⟨fun h0 => ⟨rfl, ?_⟩, fun h0 => ⟨hz, ?_⟩⟩, fun he => ⟨hz, v256, ?_⟩⟩
    · exact ref _ hk (fun _ => b33) (fun c => absurd (lt_m1.mpr ⟨h0, hne⟩) c)
    · obtain ⟨c, hc31, rfl⟩ := nI_of h0
      have nlt : ¬ nI c < -1 := fun q => h0 (lt_m1.mp q).1
      refine pk_lt c nc (fun hcn => ⟨hz, ?_⟩) (fun hcn => ⟨rfl, ?_⟩)
      · unfold wX2_markOf
        rw [cl_nI (by omega), hc.1, hc.2.1, nI_pow (by omega), nI_tst hb.1, nI_tst hb.2.1]
        have rr : ∀ x : Int32, (¬ r.1.testBit c = true → (vp_in (nI k) 512 ∧ ((¬ r.2.1.testBit c = true → x = 2) ∧ (r.2.1.testBit c = true → x = 0)))) → (r.1.testBit c = true → x = 1) → wX7_rule (nI k) (nI c) um (FIN K 0 (sB (sO uc (gB uc 5)) 5 (0 : Int32).toNatClampNeg (x : Int32).toInt64)) := by
          intro x hx1 hx2
          refine ref _ hk (fun q => absurd q nlt) (fun _ => pk_lt c nc (fun _ => ?_) (fun q => absurd q (by omega)))
          unfold wX7_rule_b38
          refine ⟨fun _ => ⟨fun _ => ⟨v512, ?_⟩, fun q => absurd q.symm (m1_ne c hc31)⟩, fun q => absurd (by rw [t00]; decide) q⟩
          rw [cl_nI (by omega)]
          show (¬ ((gR um 7 k >>> (nI c &&& 31)) &&& 1) = 1 → (vp_in (nI k) 512 ∧ ((¬ ((gR um 8 k >>> (nI c &&& 31)) &&& 1) = 1 → _) ∧ (((gR um 8 k >>> (nI c &&& 31)) &&& 1) = 1 → _)))) ∧ (((gR um 7 k >>> (nI c &&& 31)) &&& 1) = 1 → _)
          rw [hm.1, hm.2.1, nI_shb (by omega) (by omega), nI_shb (by omega) (by omega), nI_b1, nI_b1]
          refine ⟨fun hy => ⟨v512, fun hn' => ?_, fun hn' => ?_⟩, fun hy => ?_⟩
          · have e := (hx1 hy).2.1 hn'
            subst e
            exact fin_ok (qC.rf uc) hK
          · have e := (hx1 hy).2.2 hn'
            subst e
            exact fin_ok (qC.rf uc) hK
          · have e := hx2 hy
            subst e
            exact fin_ok (qC.rf uc) hK
        refine ⟨v256, fun hy => ⟨v256, fun hn' => rr 2 (fun _ => ⟨v512, fun _ => rfl, fun q => by rw [hn'] at q; cases q⟩) (fun q => by rw [hy] at q; cases q), fun hn' => rr 0 (fun _ => ⟨v512, fun q => absurd (by simpa using hn') q, fun _ => rfl⟩) (fun q => by rw [hy] at q; cases q)⟩, fun hy => rr 1 (fun q => absurd (by simpa using hy) q) (fun _ => rfl)⟩
      · exact ref _ hk (fun _ => b33) (fun _ => pk_lt c nc (fun q => absurd q (by omega)) (fun _ => b33))
    · subst he
      rw [cl_nI (by omega), hc.2.2]
      refine ref _ hk (fun q => absurd q (by decide)) (fun _ => ⟨fun _ => ?_, fun q => absurd (Int32.lt_of_lt_of_le (by decide) (nI_pos' (by omega))) q⟩)
      unfold wX7_rule_b38
      refine ⟨fun _ => ⟨fun q => absurd rfl q, fun _ => ⟨v512, ?_⟩⟩, fun q => absurd (by rw [t00]; decide) q⟩
      rw [cl_nI (by omega)]
      show FIN K 0 _ (gR um 9 k) _
      rw [hm.2.2]
      exact fin_ok (qC.rf uc) hK
  · refine ⟨rfl, ?_⟩
    unfold wX7_rule
    rw [h12]
    exact ⟨fun c => absurd c (r10 hM), fun _ => ⟨fun c => absurd c h1, fun _ => pk_le rs.length k (fun _ => b33) (fun c => absurd c (by omega))⟩⟩
/-! names -/
theorem pk_at : ∀ (l : List Nat), (∀ b ∈ l, isLD b = true) → ∀ i, pkL l / 64 ^ i % 64 = (match l[i]? with | some b => lcod b | none => 0) := by
  intro l
  induction l with
  | nil => intro _ i; simp [pkL]
  | cons a l ih =>
    intro h i
    have ha := lcod_in (h a List.mem_cons_self)
    cases i with
    | zero =>
      show (lcod a + 64 * pkL l) / 64 ^ 0 % 64 = lcod a
      simp
      omega
    | succ i =>
      have e : (lcod a + 64 * pkL l) / 64 ^ (i + 1) = pkL l / 64 ^ i := by
        rw [show 64 ^ (i + 1) = 64 * 64 ^ i from by rw [Nat.pow_succ, Nat.mul_comm], ← Nat.div_div_eq_div_mul, show (lcod a + 64 * pkL l) / 64 = pkL l by omega]
      show (lcod a + 64 * pkL l) / 64 ^ (i + 1) % 64 = _
      rw [e, ih (fun b hb => h b (List.mem_cons_of_mem _ hb)) i]
      simp
theorem s_letterAt {u : ST} {m k i : Nat} {cs : List (List Nat)} {nm : List Nat} {Q : Int32 → ST → Prop} (hN : cNames u m cs) (hl : lenL (1 + m) ≤ 64) (hk : cs[k]? = some nm) (hi : i < 10) (h : Q (nI (match nm[i]? with | some b => lcod b | none => 0)) u) : wX1_letterAt m (nI k) (nI i) u Q := by
  have hkl := (List.getElem?_eq_some_iff.mp hk).1
  have hok := hN.2.2.1 nm (List.mem_of_getElem? hk)
  have h60 := okNm_60 hok
  unfold wX1_letterAt
  refine ⟨vp_in_nI (by have := hN.2.1; omega) (by omega), ?_⟩
  rw [cl_nI (by have := hN.2.1; omega), hN.2.2.2 k nm hk, show (6 : Int32) = nI 6 from rfl, pk_mul, wb_shr (by omega) (by omega), lN_i, nI_andm _ 6 (by decide) (by decide)]
  have e : pkL nm / 2 ^ (6 * i) % 2 ^ 6 = (match nm[i]? with | some b => lcod b | none => 0) := by
    rw [Nat.pow_mul]
    exact pk_at nm hok.2.2 i
  rw [e]
  exact h
theorem s_lengthOf {u : ST} {m k : Nat} {cs : List (List Nat)} {nm : List Nat} {Q : Int32 → ST → Prop} (hN : cNames u m cs) (hl : lenL (1 + m) ≤ 64) (hk : cs[k]? = some nm) (h : Q (nI nm.length) u) : wX1_lengthOf m (nI k) u Q := by
  have hok := hN.2.2.1 nm (List.mem_of_getElem? hk)
  have key : ∀ (f i : Nat), 10 - i < f → i ≤ nm.length → wX1_lengthOf_L2 Q f m (nI k) (nI i) u := by
    intro f
    induction f with
    | zero => intro i h; omega
    | succ f ih =>
      intro i hf hi
      have h10 := hok.2.1
      show wX1_lengthOf_B2 (wX1_lengthOf_L2 Q f) Q m (nI k) (nI i) u
      unfold wX1_lengthOf_B2
      refine pk_le 10 i (fun hge => by rw [show i = nm.length by omega]; exact h) (fun hlt => ?_)
      refine s_letterAt hN hl hk hlt ?_
      rcases Nat.lt_or_ge i nm.length with g | g
      · obtain ⟨b, hb⟩ : ∃ b, nm[i]? = some b := ⟨_, List.getElem?_eq_getElem g⟩
        rw [hb]
        have hbl := lcod_in (hok.2.2 b (List.mem_of_getElem? hb))
        refine ⟨fun e => absurd e (nI_ne0 (by dsimp only; omega) (by dsimp only; omega)), fun _ => ?_⟩
        rw [nI_1]
        exact ih (i + 1) (by omega) (by omega)
      · rw [List.getElem?_eq_none g]
        refine ⟨fun _ => by rw [show i = nm.length by omega]; exact h, fun c => absurd rfl c⟩
  exact ⟨11, key 11 0 (by omega) (by omega)⟩
theorem s_byteOf {u : ST} {m k i b : Nat} {cs : List (List Nat)} {nm : List Nat} {Q : Int32 → ST → Prop} (hN : cNames u m cs) (hl : lenL (1 + m) ≤ 64) (hk : cs[k]? = some nm) (hi : nm[i]? = some b) (h : Q (nI b) u) : wX1_byteOf m (nI k) (nI i) u Q := by
  have hok := hN.2.2.1 nm (List.mem_of_getElem? hk)
  have hil := (List.getElem?_eq_some_iff.mp hi).1
  have hld := hok.2.2 b (List.mem_of_getElem? hi)
  unfold wX1_byteOf
  refine s_letterAt hN hl hk (by have := hok.2.1; omega) ?_
  rw [hi]
  dsimp only
  have hbl := lcod_in hld
  refine pk_lt 26 (lcod b) (fun hgt => ?_) (fun hle => ?_)
  · have e : 48 + lcod b - 27 = b := by
      unfold lcod isLD isLet isDig at *
      simp only [Bool.or_eq_true, decide_eq_true_eq] at *
      repeat' split at hgt
      all_goals repeat' split
      all_goals omega
    rw [show (48 : Int32) = nI 48 from rfl, nI_add, show (27 : Int32) = nI 27 from rfl, pk_sub (by omega), e]
    exact h
  · have e : 97 + lcod b - 1 = b := by
      unfold lcod isLD isLet isDig at *
      simp only [Bool.or_eq_true, decide_eq_true_eq] at *
      repeat' split at hle
      all_goals repeat' split
      all_goals omega
    rw [show (97 : Int32) = nI 97 from rfl, nI_add, show (1 : Int32) = nI 1 from rfl, pk_sub (by omega), e]
    exact h
theorem q_name {uc um : ST} {K : ST → ST → Prop} (a1 x2 x3 : Int32) (hz : gZ uc 0 < 2) (h : relN uc um ∨ relY uc um) (hK : ∀ uc1 um1, qC uc uc1 → qM um um1 → K uc1 um1) : wC7 a1 x2 x3 uc um K := by
  unfold wC7
  generalize hx1 : (if a1 = 0 then (0 : Int32) else 1) = x1
  unfold wL_name wX6_name
  have b61 : ∀ x4, wX7_name_b61 (FIN K 1 (sO uc (gB uc 5))) x3 x4 um := by
    intro x4
    unfold wX7_name_b61 wX7_name_b66
    exact ⟨fun c => absurd c (by rw [t00]; decide), fun _ => fin_bad (by decide) (qC.rf uc) hK⟩
  rcases h with h | ⟨cs, rs, as, L, nc, hO, hC, hM, a1', a2, a3⟩
  · have e : ∀ x4, wX7_name_b12 (FIN K 1 (sO uc (gB uc 5))) x1 x2 x3 x4 um := fun x4 => ⟨fun _ => b61 x4, fun c => absurd h.2.2.2.2.2.1 c⟩
    have e2 : wX7_name x1 x2 x3 um (FIN K 1 (sO uc (gB uc 5))) := ⟨fun _ => e _, fun _ => e _⟩
    exact ⟨fun _ => ⟨hz, fun _ => ⟨rfl, e2⟩, fun c => absurd h.1 c⟩, fun _ => ⟨hz, fun _ => ⟨rfl, e2⟩, fun c => absurd h.1 c⟩⟩
  have hT := hC.2.1
  have hM1 := hM.1
  -- one of the two lists
  have one : ∀ (m base : Nat) (l : List (List Nat)) (x4 tot : Int32), cNames uc m l → lenL (1 + m) ≤ 64 → mNm um base l → base + l.length ≤ 80 → tot = nI l.length → (∀ k, x2 = nI k → k < l.length → x4 = nI (base + k)) → (∀ P : Int32 → ST → Prop, (¬ x2 < 0 → wX7_name_b42 P x3 x4 x2 tot um) → (x2 < 0 → wX7_name_b61 P x3 x4 um) → wX7_name x1 x2 x3 um P) → wX6_name_b21 (fun r u1 => wX7_name x1 x2 x3 um (FIN K 0 (sB (sO u1 (gB uc 5)) 5 (0 : Int32).toNatClampNeg (r : Int32).toInt64))) (fun E u1 => (E = xIOB ∧ wX7_name x1 x2 x3 um (FIN K 1 (sO u1 (gB uc 5))))) x2 x3 m uc := by
    intro m base l x4 tot hN hl hNm hbl htot hx4 ref
    unfold wX6_name_b21
    refine ⟨fun c => absurd c (c0 hC), fun _ => ⟨fun h2 => ⟨rfl, ref _ (fun c => absurd h2 c) (fun _ => b61 _)⟩, fun h2 => ?_⟩⟩
    obtain ⟨k, hk31, rfl⟩ := nI_of h2
    have h64 := hN.2.1
    rw [hN.1]
    refine pk_lt k l.length (fun hk => ?_) (fun hk => ⟨rfl, ref _ (fun _ => ⟨fun _ => b61 _, fun c => absurd (by rw [htot, n_le (by omega) hk31]; exact hk) c⟩) (fun c => absurd c h2)⟩)
    obtain ⟨nm, hnm⟩ : ∃ nm, l[k]? = some nm := ⟨_, List.getElem?_eq_getElem hk⟩
    have hok := hN.2.2.1 nm (List.mem_of_getElem? hnm)
    have h10 := hok.2.1
    have e4 := hx4 k rfl hk
    have hmn := hNm.2 k nm hnm
    have v160 : vp_in x4 160 := by rw [e4]; exact vp_in_nI (by omega) (by omega)
    have ref2 : ∀ P : Int32 → ST → Prop, (x3 < -1 → wX7_name_b61 P x3 x4 um) → (¬ x3 < -1 → ((x3 < nI nm.length → wX7_name_b66 P x3 x4 0 um) ∧ (¬ x3 < nI nm.length → wX7_name_b61 P x3 x4 um))) → wX7_name x1 (nI k) x3 um P := by
      intro P p1 p2
      refine ref P (fun _ => ⟨fun c => absurd c (by rw [htot, n_le (by omega) hk31]; omega), fun _ => ⟨p1, fun q => ⟨v160, ?_⟩⟩⟩) (fun c => absurd c h2)
      rw [e4, cl_nI (by omega), hmn.1]
      rw [e4] at p2
      exact p2 q
    refine s_lengthOf hN hl hnm ⟨fun hne => ⟨fun h0 => ⟨rfl, ref2 _ (fun _ => b61 _) (fun c => absurd (lt_m1.mpr ⟨h0, hne⟩) c)⟩, fun h0 => ?_⟩, fun he => ?_⟩
    · obtain ⟨i, hi31, rfl⟩ := nI_of h0
      have nlt : ¬ nI i < -1 := fun q => h0 (lt_m1.mp q).1
      refine pk_lt i nm.length (fun hi => ?_) (fun hi => ⟨rfl, ref2 _ (fun _ => b61 _) (fun _ => pk_lt i nm.length (fun q => absurd q (by omega)) (fun _ => b61 _))⟩)
      obtain ⟨b, hb⟩ : ∃ b, nm[i]? = some b := ⟨_, List.getElem?_eq_getElem hi⟩
      refine s_byteOf hN hl hnm hb ?_
      refine ref2 _ (fun q => absurd q nlt) (fun _ => pk_lt i nm.length (fun _ => ?_) (fun q => absurd q (by omega)))
      unfold wX7_name_b66
      refine ⟨fun _ => ⟨fun _ => ?_, fun q => absurd q.symm (m1_ne i hi31)⟩, fun q => absurd (by rw [t00]; decide) q⟩
      rw [e4, show (10 : Int32) = nI 10 from rfl, pk_mul, nI_add]
      refine ⟨vp_in_nI (by omega) (by omega), ?_⟩
      rw [cl_nI (by omega)]
      show FIN K 0 _ (gR um 5 (10 * (base + k) + i)) _
      rw [hmn.2 i b hb]
      exact fin_ok (qC.rf uc) hK
    · subst he
      refine ref2 _ (fun q => absurd q (by decide)) (fun _ => ⟨fun _ => ?_, fun q => absurd (Int32.lt_of_lt_of_le (by decide) (nI_pos' (by omega))) q⟩)
      unfold wX7_name_b66
      refine ⟨fun _ => ⟨fun q => absurd rfl q, fun _ => ⟨v160, ?_⟩⟩, fun q => absurd (by rw [t00]; decide) q⟩
      rw [e4, cl_nI (by omega)]
      show FIN K 0 _ (gR um 6 (base + k)) _
      rw [hmn.1]
      exact fin_ok (qC.rf uc) hK
  have hc16 : cs.length ≤ 16 := by have := hO.1; have := hO.2.1; omega
  have ha64 := hO.2.2.2.2.2.1
  refine ⟨fun e => ⟨hz, ?_⟩, fun e => ⟨hz, ?_⟩⟩
  · refine one (2 * gZ uc 0) 0 cs x2 (gI um 11) hT.1 (by rw [lenL_c hz]; omega) hM1.2.2.2.2.1 (by omega) hM1.2.1 (fun k hk _ => by rw [hk, Nat.zero_add]) (fun P p1 p2 => ⟨fun _ => ⟨fun c => absurd c (r10 hM), fun _ => ⟨p2, fun q => ⟨fun _ => p1 q, fun c => absurd e c⟩⟩⟩, fun c => absurd e c⟩)
  · refine one (2 * gZ uc 0 + 1) 16 as (16 + x2) (gI um 13) hT.2.1 (by rw [lenL_a hz]; omega) hM1.2.2.2.2.2.1 (by omega) hM1.2.2.2.1 (fun k hk _ => by rw [hk]; exact nI_add 16 k) (fun P p1 p2 => ⟨fun c => absurd c e, fun _ => ⟨fun c => absurd c (r10 hM), fun _ => ⟨p2, fun q => ⟨fun c => absurd c e, fun _ => p1 q⟩⟩⟩⟩)
