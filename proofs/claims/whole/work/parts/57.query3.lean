/-! meets -/
theorem s_firstMeets {t : Nat} {u : ST} {cs as : List (List Nat)} {rs : List RU} {X : Nat} {Q : Int32 → ST → Prop} (hT : cTb u t cs rs as) (hB : rB rs) (hX : X < 2 ^ 31) (h : Q (fmF X rs 0) u) : wX2_firstThatMeets t (nI X) u Q := by
  have hl := hT.2.2.2.1
  have key : ∀ (B A : List RU) (f : Nat), rs = A ++ B → B.length < f → Q (fmF X B A.length) u → wX2_firstThatMeets_L2 Q f t (nI X) (nI A.length) u := by
    intro B
    induction B with
    | nil =>
      intro A f hM hf hQ
      obtain ⟨f, rfl⟩ : ∃ f', f = f' + 1 := ⟨f - 1, by omega⟩
      show wX2_firstThatMeets_B2 (wX2_firstThatMeets_L2 Q f) Q t (nI X) (nI A.length) u
      rw [List.append_nil] at hM
      subst hM
      unfold wX2_firstThatMeets_B2
      rw [hT.2.2.1]
      exact pk_le rs.length rs.length (fun _ => hQ) (fun c => absurd c (by omega))
    | cons r B ih =>
      intro A f hM hf hQ
      obtain ⟨f, rfl⟩ : ∃ f', f = f' + 1 := ⟨f - 1, by omega⟩
      show wX2_firstThatMeets_B2 (wX2_firstThatMeets_L2 Q f) Q t (nI X) (nI A.length) u
      have hlen : rs.length = A.length + (B.length + 1) := by rw [hM]; simp
      have hat : rs[A.length]? = some r := by rw [hM]; exact at_mid A r B
      have hr := hT.2.2.2.2 _ _ hat
      have hb := hB r (List.mem_of_getElem? hat)
      unfold wX2_firstThatMeets_B2
      rw [hT.2.2.1, cl_nI (by omega)]
      refine pk_le rs.length A.length (fun c => absurd c (by omega)) (fun _ => ?_)
      refine mb_wp hb.1 hb.2.1 hX rfl hr.1 hr.2.1 (vp_in_nI (by omega) (by omega)) (fun hm => ?_) (fun hm => ?_)
      · unfold wX2_firstThatMeets_b40
        rw [nI_1, show A.length + 1 = (A ++ [r]).length by simp]
        refine ih (A ++ [r]) f (by rw [hM]; simp) (by simp at hf; omega) ?_
        unfold fmF at hQ
        rw [hm] at hQ
        simpa using hQ
      · unfold fmF at hQ
        rw [if_pos hm] at hQ
        exact hQ
  exact ⟨rs.length + 1, key rs [] _ rfl (by omega) h⟩
theorem s_case {uc : ST} {cs as : List (List Nat)} {rs : List RU} {nc : Nat} {x1 : Int32} {Q : ST → Prop} {X : String → ST → Prop} (hz : gZ uc 0 < 2) (hT : cTb uc (gZ uc 0) cs rs as) (hnc : cs.length = nc) (hn : nc ≤ 16) (yes : ∀ k, k < 2 ^ nc → x1 = nI k → Q uc) (no : (x1 < 0 ∨ ¬ x1 < 0 ∧ nI (2 ^ nc) ≤ x1) → X xIOB uc) : wX6_needCase x1 uc Q X := by
  unfold wX6_needCase wX6_needCase_b15 wX2_caseCount
  have := p16 hn
  refine ⟨fun h => no (Or.inl h), fun h => ⟨hz, ?_⟩⟩
  rw [hT.1.1, hnc, nI_pow (by omega)]
  obtain ⟨k, hk31, rfl⟩ := nI_of h
  exact pk_lt k (2 ^ nc) (fun hk => yes k hk rfl) (fun hk => no (Or.inr ⟨h, by rw [n_le (by omega) hk31]; exact hk⟩))
theorem r_case {um : ST} {nc : Nat} {x1 : Int32} {Q : Int32 → ST → Prop} (h11 : gI um 11 = nI nc) (hn : nc ≤ 16) (yes : ∀ k, k < 2 ^ nc → x1 = nI k → Q 1 um) (no : (x1 < 0 ∨ ¬ x1 < 0 ∧ nI (2 ^ nc) ≤ x1) → Q 0 um) : wX7_isCase x1 um Q := by
  unfold wX7_isCase wX7_allCases
  have := p16 hn
  refine ⟨fun h => no (Or.inl h), fun h => ?_⟩
  rw [h11, nI_pow (by omega)]
  obtain ⟨k, hk31, rfl⟩ := nI_of h
  exact pk_le (2 ^ nc) k (fun hk => no (Or.inr ⟨h, by rw [n_le (by omega) hk31]; exact hk⟩)) (fun hk => yes k hk rfl)
theorem case_x {nc k : Nat} (hn : nc ≤ 16) (hk : k < 2 ^ nc) : ¬ (nI k < 0 ∨ ¬ nI k < 0 ∧ nI (2 ^ nc) ≤ nI k) := by
  have := p16 hn
  rintro (c | ⟨-, c⟩)
  · exact nI_pos (by omega) c
  · rw [n_le (by omega) (by omega)] at c; omega
theorem q_meets {uc um : ST} {K : ST → ST → Prop} (x1 : Int32) (hz : gZ uc 0 < 2) (h : relN uc um ∨ relY uc um) (hK : ∀ uc1 um1, qC uc uc1 → qM um um1 → K uc1 um1) : wC8 x1 uc um K := by
  unfold wC8 wL_meets wX6_meets wX6_needTable
  rcases h with h | ⟨cs, rs, as, L, nc, hO, hC, hM, a1, a2, a3⟩
  · refine ⟨fun c => absurd h.1 c, fun _ => Or.inl ⟨rfl, ?_⟩⟩
    refine ⟨fun c => absurd h.2.2.2.2.2.1 c, fun _ => ⟨fun c => absurd c (by rw [t00]; decide), fun _ => fin_bad (by decide) (qC.rf uc) hK⟩⟩
  have hn := hO.2.1
  have h216 := p16 hn
  have h11 : gI um 11 = nI nc := by rw [hM.1.2.1, hO.1]
  refine ⟨fun _ => s_case hz hC.2.1 hO.1 hn (fun k hk e => ⟨hz, ?_⟩) (fun hno => Or.inr ⟨rfl, ?_⟩), fun c => absurd c (c0 hC)⟩
  · subst e
    refine s_firstMeets hC.2.1 hO.2.2.2.1 (by omega) ?_
    refine ⟨fun _ => r_case h11 hn (fun k' hk' e => ⟨fun _ => ⟨fun _ => ?_, fun c => absurd (by rw [t00]; decide) c⟩, fun c => absurd c (by decide)⟩) (fun hno => absurd hno (case_x hn hk)), fun c => absurd c (r10 hM)⟩
    exact r_firstMet (rs := rs) (by rw [t0k um 0 12 (by decide)]; exact hM.1.2.2.1) hO.2.2.2.2.1 hM.1.2.2.2.2.2.2 hO.2.2.2.1 (by omega) (fin_ok (qC.rf uc) hK)
  · refine ⟨fun _ => r_case h11 hn (fun k hk e => absurd hno (by rw [e]; exact case_x hn hk)) (fun _ => ⟨fun c => absurd rfl c, fun _ => ⟨fun c => absurd c (by rw [t00]; decide), fun _ => fin_bad (by decide) (qC.rf uc) hK⟩⟩), fun c => absurd c (r10 hM)⟩
/-! node, code -/
theorem len0 {cs as : List (List Nat)} {rs L : List RU} {nc : Nat} {uc um : ST} (hO : tOK cs rs as L nc) (hC : cSt uc cs rs as L nc) (hM : mSt um cs rs as L) : (gI uc 17 = 0 ∧ gI um 20 = 0 ∧ L.length = 0) ∨ (¬ gI uc 17 = 0 ∧ ¬ gI um 20 = 0 ∧ L.length ≠ 0) := by
  have h1000 := hO.2.2.2.2.2.2.1.2.1
  by_cases h : L.length = 0
  · left
    refine ⟨by rw [hC.2.2.1, h]; rfl, by rw [hM.2.1, if_pos h], h⟩
  · right
    refine ⟨by rw [hC.2.2.1]; exact nI_ne0 (by omega) (by omega), by rw [hM.2.1, if_neg h]; decide, h⟩
theorem q_node {uc um : ST} {K : ST → ST → Prop} (x1 x2 : Int32) (h : relN uc um ∨ relY uc um) (hK : ∀ uc1 um1, qC uc uc1 → qM um um1 → K uc1 um1) : wC10 x1 x2 uc um K := by
  unfold wC10 wL_node wX6_node wX6_needTree
  have none : ∀ {P : Prop}, gI uc 17 = 0 → gI um 20 = 0 → ((¬ (gI uc 17) = 0 → P) ∧ ((gI uc 17) = 0 → ((xISE = xISE ∧ wX7_node x1 x2 um (FIN K 1 (sO uc (gB uc 5)))) ∨ (xISE = xIOB ∧ wX7_node x1 x2 um (FIN K 2 (sO uc (gB uc 5))))))) := fun e1 e2 => ⟨fun c => absurd e1 c, fun _ => Or.inl ⟨rfl, fun c => absurd e2 c, fun _ => ⟨fun c => absurd c (by rw [t00]; decide), fun _ => fin_bad (by decide) (qC.rf uc) hK⟩⟩⟩
  rcases h with h | ⟨cs, rs, as, L, nc, hO, hC, hM, a1, a2, a3⟩
  · exact none h.2.1 h.2.2.2.2.2.2
  have hok := hO.2.2.2.2.2.2.1
  have h1000 := hok.2.1
  have hn := hO.2.1
  rcases len0 hO hC hM with ⟨e1, e2, -⟩ | ⟨e1, e2, hL⟩
  · exact none e1 e2
  have b33 : wX7_node_b33 (FIN K 2 (sO uc (gB uc 5))) x1 x2 um := by
    unfold wX7_node_b33 wX7_node_b38
    exact ⟨fun c => absurd c (by rw [t00]; decide), fun _ => fin_bad (by decide) (qC.rf uc) hK⟩
  refine ⟨fun _ => ⟨fun h1 => Or.inr ⟨rfl, fun _ => ⟨fun _ => b33, fun c => absurd h1 c⟩, fun c => absurd c e2⟩, fun h1 => ?_⟩, fun c => absurd c e1⟩
  obtain ⟨k, hk31, rfl⟩ := nI_of h1
  rw [hC.2.2.1]
  have h21 := hM.2.2.1
  refine pk_lt k L.length (fun hk => ?_) (fun hk => Or.inr ⟨rfl, fun _ => ⟨fun c => absurd c h1, fun _ => ⟨fun _ => b33, fun c => absurd (by rw [h21, n_le (by omega) hk31]; exact hk) c⟩⟩, fun c => absurd c e2⟩)
  obtain ⟨z, hz⟩ : ∃ z, L[k]? = some z := ⟨_, List.getElem?_eq_getElem hk⟩
  have ct := hC.2.2.2.2.2.2.1 k z hz
  have mt := hM.2.2.2.1 k z hz
  rw [Nat.zero_add] at ct mt
  unfold nod at mt
  have vk : vp_in (nI k) 1000 := vp_in_nI (by omega) (by omega)
  have nle : ¬ gI um 21 ≤ nI k := by rw [h21, n_le (by omega) hk31]; omega
  by_cases hs : x2.toInt < 0 ∨ (3 : Int) < x2.toInt
  · refine ⟨fun _ => Or.inr ⟨rfl, fun _ => ⟨fun c => absurd c h1, fun _ => ⟨fun c => absurd c nle, fun _ => ⟨fun _ => b33, fun h0 => ⟨fun h3 => ?_, fun _ => b33⟩⟩⟩⟩, fun c => absurd c e2⟩, fun e => ?_, fun e => ?_, fun e => ?_, fun e => ?_⟩
    · rcases sw_out (n := 3) (by decide) hs with g | g
      · exact absurd g h0
      · exact absurd h3 g
    · rw [e] at hs; exact absurd hs (by decide)
    · rw [e] at hs; exact absurd hs (by decide)
    · rw [e] at hs; exact absurd hs (by decide)
    · rw [e] at hs; exact absurd hs (by decide)
  · have ref : ∀ r : Int32, (∀ Q' : Int32 → ST → Prop, Q' r (sI um 0 0) → wX7_node_b38 Q' (nI k) x2 0 um) → ¬ x2 < 0 → x2 ≤ 3 → wX7_node (nI k) x2 um (FIN K 0 (sB (sO uc (gB uc 5)) 5 (0 : Int32).toNatClampNeg (r : Int32).toInt64)) := by
      intro r hr h0 h3
      exact ⟨fun _ => ⟨fun c => absurd c h1, fun _ => ⟨fun c => absurd c nle, fun _ => ⟨fun c => absurd c h0, fun _ => ⟨fun _ => hr _ (fin_ok (qC.rf uc) hK), fun c => absurd h3 c⟩⟩⟩⟩, fun c => absurd c e2⟩
    have nrow : ∀ j, gR (sI um 0 0) j = gR um j := fun _ => rfl
    refine ⟨fun c => absurd c hs, fun e => ?_, fun e => ?_, fun e => ?_, fun e => ?_⟩
    · subst e
      refine s_isLeaf hok hC.2.2.2.2.2.2.1 hz (fun h0 => ⟨fun c => absurd c (by decide), fun _ => ?_⟩) (fun h0 _ _ => ⟨fun _ => ⟨vk, ?_⟩, fun c => absurd rfl c⟩)
      · refine ref _ (fun Q' hq => ⟨fun _ => ⟨fun c => absurd rfl c, fun _ => ⟨vk, ?_⟩⟩, fun c => absurd (by rw [t00]; decide) c⟩) (by decide) (by decide)
        rw [cl_nI (by omega), nrow, mt.1.1, if_pos h0]; exact hq
      · rw [cl_nI (by omega), ct.1]
        refine ref _ (fun Q' hq => ⟨fun _ => ⟨fun c => absurd rfl c, fun _ => ⟨vk, ?_⟩⟩, fun c => absurd (by rw [t00]; decide) c⟩) (by decide) (by decide)
        rw [cl_nI (by omega), nrow, mt.1.1, if_neg h0]; exact hq
    · subst e
      refine s_isLeaf hok hC.2.2.2.2.2.2.1 hz (fun h0 => ⟨fun c => absurd c (by decide), fun _ => ?_⟩) (fun h0 _ _ => ⟨fun _ => ?_, fun c => absurd rfl c⟩)
      · refine ref _ (fun Q' hq => ⟨fun _ => ⟨fun _ => ⟨fun c => absurd rfl c, fun _ => ⟨vk, ?_⟩⟩, fun c => absurd c (by decide)⟩, fun c => absurd (by rw [t00]; decide) c⟩) (by decide) (by decide)
        rw [cl_nI (by omega), nrow, mt.2.1, if_pos h0]; exact hq
      · rw [nI_1]
        refine ref _ (fun Q' hq => ⟨fun _ => ⟨fun _ => ⟨fun c => absurd rfl c, fun _ => ⟨vk, ?_⟩⟩, fun c => absurd c (by decide)⟩, fun c => absurd (by rw [t00]; decide) c⟩) (by decide) (by decide)
        rw [cl_nI (by omega), nrow, mt.2.1, if_neg h0]; exact hq
    · subst e
      refine ⟨vk, ?_⟩
      rw [cl_nI (by omega), ct.2]
      refine ref _ (fun Q' hq => ⟨fun _ => ⟨fun _ => ⟨fun _ => ⟨fun c => absurd rfl c, fun _ => ⟨vk, ?_⟩⟩, fun c => absurd c (by decide)⟩, fun c => absurd c (by decide)⟩, fun c => absurd (by rw [t00]; decide) c⟩) (by decide) (by decide)
      rw [cl_nI (by omega), nrow, mt.2.2]; exact hq
    · subst e
      refine s_isLeaf hok hC.2.2.2.2.2.2.1 hz (fun h0 => ⟨fun c => absurd c (by decide), fun _ => ⟨vk, ?_⟩⟩) (fun h0 _ _ => ⟨fun _ => ?_, fun c => absurd rfl c⟩)
      · have h128 : 128 ≤ z.1 := by
          rcases hok.1 k z hz with g | g
          · exact g.2.1
          · omega
        rw [cl_nI (by omega), ct.1, show (128 : Int32) = nI 128 from rfl, pk_sub h128]
        refine ref _ (fun Q' hq => ⟨fun _ => ⟨fun _ => ⟨fun _ => ⟨fun _ => ⟨vk, ?_⟩, fun c => absurd c (by decide)⟩, fun c => absurd c (by decide)⟩, fun c => absurd c (by decide)⟩, fun c => absurd (by rw [t00]; decide) c⟩) (by decide) (by decide)
        rw [cl_nI (by omega), nrow, mt.1.2.1, if_pos h0]; exact hq
      · refine ref _ (fun Q' hq => ⟨fun _ => ⟨fun _ => ⟨fun _ => ⟨fun _ => ⟨vk, ?_⟩, fun c => absurd c (by decide)⟩, fun c => absurd c (by decide)⟩, fun c => absurd c (by decide)⟩, fun c => absurd (by rw [t00]; decide) c⟩) (by decide) (by decide)
        rw [cl_nI (by omega), nrow, mt.1.2.1, if_neg h0]; exact hq
theorem q_code {uc um : ST} {K : ST → ST → Prop} (x1 : Int32) (h : relN uc um ∨ relY uc um) (hK : ∀ uc1 um1, qC uc uc1 → qM um um1 → K uc1 um1) : wC11 x1 uc um K := by
  unfold wC11 wL_code wX6_code wX6_needTree
  have none : ∀ {P : Prop}, gI uc 17 = 0 → gI um 20 = 0 → ((¬ (gI uc 17) = 0 → P) ∧ ((gI uc 17) = 0 → ((xISE = xISE ∧ wX7_code x1 um (FIN K 1 (sO uc (gB uc 5)))) ∨ (xISE = xIOB ∧ wX7_code x1 um (FIN K 2 (sO uc (gB uc 5))))))) := fun e1 e2 => ⟨fun c => absurd e1 c, fun _ => Or.inl ⟨rfl, fun c => absurd e2 c, fun _ => ⟨fun c => absurd c (by rw [t00]; decide), fun _ => fin_bad (by decide) (qC.rf uc) hK⟩⟩⟩
  rcases h with h | ⟨cs, rs, as, L, nc, hO, hC, hM, a1, a2, a3⟩
  · exact none h.2.1 h.2.2.2.2.2.2
  have hok := hO.2.2.2.2.2.2.1
  have h1997 := hok.2.2
  rcases len0 hO hC hM with ⟨e1, e2, -⟩ | ⟨e1, e2, hL⟩
  · exact none e1 e2
  have b24 : wX7_code_b24 (FIN K 2 (sO uc (gB uc 5))) x1 um := by
    unfold wX7_code_b24 wX7_code_b29
    exact ⟨fun c => absurd c (by rw [t00]; decide), fun _ => fin_bad (by decide) (qC.rf uc) hK⟩
  refine ⟨fun _ => ⟨fun h1 => Or.inr ⟨rfl, fun _ => ⟨fun _ => b24, fun c => absurd h1 c⟩, fun c => absurd c e2⟩, fun h1 => ?_⟩, fun c => absurd c e1⟩
  obtain ⟨k, hk31, rfl⟩ := nI_of h1
  rw [hC.2.2.2.2.2.2.2.1]
  refine pk_lt k (csz L) (fun hk => ⟨vp_in_nI (by omega) (by omega), ?_⟩) (fun hk => Or.inr ⟨rfl, fun _ => ⟨fun c => absurd c h1, fun _ => ⟨fun c => absurd c (by rw [hM.2.2.2.2.1, n_lt hk31 (by omega)]; omega), fun _ => b24⟩⟩, fun c => absurd c e2⟩)
  rw [cl_nI (by omega), cd_eq hC.2.2.2.2.2.2.2.2 hM.2.2.2.2.2 hk]
  refine ⟨fun _ => ⟨fun c => absurd c h1, fun _ => ⟨fun _ => ⟨fun _ => ⟨vp_in_nI (by omega) (by omega), ?_⟩, fun c => absurd (by rw [t00]; decide) c⟩, fun c => absurd (by rw [hM.2.2.2.2.1, n_lt hk31 (by omega)]; exact hk) c⟩⟩, fun c => absurd c e2⟩
  rw [cl_nI (by omega)]
  exact fin_ok (qC.rf uc) hK
/-! tests -/
theorem r_tstL {nc : Nat} {L : List RU} {u : ST} {Q : Int64 → ST → Prop} (hn : nc ≤ 16) (hok : okL nc L) (h0 : gI u 0 = 0) (h11 : gI u 11 = nI nc) (h21 : gI u 21 = nI L.length) (hT : mTr u 0 L) (h : Q (lN (lds nc L)) u) : ∃ f, wX7_tests_L20 Q f 0 0 u := by
  have h1000 := hok.2.1
  have key : ∀ (B A : List RU) (f : Nat), L = A ++ B → B.length < f → wX7_tests_L20 Q f (lN (lds nc A)) (nI A.length) u := by
    intro B
    induction B with
    | nil =>
      intro A f hM hf
      obtain ⟨f, rfl⟩ : ∃ f', f = f' + 1 := ⟨f - 1, by omega⟩
      rw [List.append_nil] at hM
      subst hM
      show wX7_tests_B20 (wX7_tests_L20 Q f) Q _ _ u
      unfold wX7_tests_B20
      rw [h21]
      exact pk_le L.length L.length (fun _ => h) (fun c => absurd c (by omega))
    | cons z B ih =>
      intro A f hM hf
      obtain ⟨f, rfl⟩ : ∃ f', f = f' + 1 := ⟨f - 1, by omega⟩
      have hlen : L.length = A.length + (B.length + 1) := by rw [hM]; simp
      have hat : L[A.length]? = some z := by rw [hM]; exact at_mid A z B
      have ht := hT _ _ hat
      rw [Nat.zero_add] at ht
      unfold nod at ht
      show wX7_tests_B20 (wX7_tests_L20 Q f) Q _ _ u
      unfold wX7_tests_B20
      rw [h21, cl_nI (by omega), ht.1.1, ht.1.2.2, h11]
      have va : vp_in (nI A.length) 1000 := vp_in_nI (by omega) (by omega)
      have go : ∀ n, lds nc (A ++ [z]) = lds nc A + n → wX7_tests_b68 (wX7_tests_L20 Q f) Q (nI A.length) (lN (lds nc A)) (lN n) u := by
        intro n hn'
        unfold wX7_tests_b68
        rw [lN_add, nI_1, ← hn', show A.length + 1 = (A ++ [z]).length by simp]
        exact ih (A ++ [z]) f (by rw [hM]; simp) (by simp at hf; omega)
      refine pk_le L.length A.length (fun c => absurd c (by omega)) (fun _ => ⟨fun c => absurd h0 c, fun _ => ⟨va, ?_⟩⟩)
      by_cases hz : z.2.2 = 0
      · rw [if_pos hz]
        have hd : z.2.1 ≤ nc := by
          rcases hok.1 _ z hat with g | g <;> omega
        refine ⟨fun c => absurd c (by decide), fun _ => ⟨va, va, ?_⟩⟩
        rw [pk_sub hd, nI_l (by omega), wb_shl _ (by omega)]
        exact go _ (by rw [lds_app]; simp [lds, hz])
      · rw [if_neg hz]
        have hz16 : z.1 < 16 := by
          rcases hok.1 _ z hat with g | g
          · exact absurd g.1 hz
          · omega
        exact ⟨fun _ => go 0 (by rw [lds_app]; simp [lds, hz]), fun c => absurd (nI_pos' (by omega)) c⟩
  exact ⟨L.length + 1, key L [] _ rfl (by omega)⟩
theorem q_tests {uc um : ST} {K : ST → ST → Prop} (h : relN uc um ∨ relY uc um) (hK : ∀ uc1 um1, qC uc uc1 → qM um um1 → K uc1 um1) : wC13 uc um K := by
  unfold wC13 wL_tests wX6_tests wX6_needTree
  have bad : gI um 20 = 0 → wX7_tests um (fun r6 um1 => wX7_thrown um1 (fun r7 um2 => r7 = 1 ∧ (((1 : Int32) = 0 → lg_cmp (gB (sO uc (gB uc 5)) 5 (0 : Int32).toNatClampNeg) r6 = 0) ∧ K (sO uc (gB uc 5)) um2))) := by
    intro e
    have fin : ∀ r6 : Int64, wX7_thrown (sI um 0 1) (fun r7 um2 => r7 = 1 ∧ (((1 : Int32) = 0 → lg_cmp (gB (sO uc (gB uc 5)) 5 (0 : Int32).toNatClampNeg) r6 = 0) ∧ K (sO uc (gB uc 5)) um2)) := fun r6 => ⟨t00 um 1, fun c => absurd c (by decide), hK _ _ ((qC.rf uc).o _) (qM.s um 1)⟩
    exact ⟨fun c => absurd e c, fun _ => ⟨1, fun _ => fin _, fun _ => ⟨fun _ => fin _, fun c => absurd c (by rw [t00]; decide)⟩⟩⟩
  rcases h with h | ⟨cs, rs, as, L, nc, hO, hC, hM, a1, a2, a3⟩
  · exact ⟨fun c => absurd h.2.1 c, fun _ => ⟨rfl, bad h.2.2.2.2.2.2⟩⟩
  rcases len0 hO hC hM with ⟨e1, e2, -⟩ | ⟨e1, e2, hL⟩
  · exact ⟨fun c => absurd e1 c, fun _ => ⟨rfl, bad e2⟩⟩
  refine ⟨fun _ => ⟨fun _ => ?_, fun c => absurd c e2⟩, fun c => absurd c e1⟩
  refine r_tstL hO.2.1 hO.2.2.2.2.2.2.1 (t00 um 0) (by rw [t0k um 0 11 (by decide), hM.1.2.1, hO.1]) (by rw [t0k um 0 21 (by decide)]; exact hM.2.2.1) hM.2.2.2.1 ?_
  refine ⟨t00 um 0, fun _ => ?_, hK _ _ (((qC.rf uc).o _).b _ _) (qM.s um 0)⟩
  rw [out0, (tree_facts hO).2, hC.2.2.2.2.2.1, lg_cmp_self]
