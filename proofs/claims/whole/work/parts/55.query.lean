/-! WHAT BOTH KEEP BETWEEN CALLS -/
def tOK (cs : List (List Nat)) (rs : List RU) (as : List (List Nat)) (L : List RU) (nc : Nat) : Prop := cs.length = nc ∧ nc ≤ 16 ∧ rN nc rs ∧ rB rs ∧ rs.length ≤ 256 ∧ as.length ≤ 64 ∧ okL nc L ∧ (L.length ≠ 0 → snd rs nc ∧ L = tree rs nc)
def cSt (u : ST) (cs : List (List Nat)) (rs : List RU) (as : List (List Nat)) (L : List RU) (nc : Nat) : Prop := gI u 0 = 1 ∧ cTb u (gZ u 0) cs rs as ∧ gI u 17 = nI L.length ∧ gI u 18 = nI (lvs L) ∧ gI u 19 = nI (mxd L 0) ∧ gJ u 1 = lN (tst nc L) ∧ cTr u 0 L ∧ gI u 21 = nI (csz L) ∧ cdK (gR u 14) L L.length
def mSt (u : ST) (cs : List (List Nat)) (rs : List RU) (as : List (List Nat)) (L : List RU) : Prop := mTab u cs rs as ∧ gI u 20 = (if L.length = 0 then 0 else 1) ∧ gI u 21 = nI L.length ∧ mTr u 0 L ∧ gI u 33 = nI (csz L) ∧ cdK (gR u 32) L L.length
def relY (uc um : ST) : Prop := ∃ cs rs as L nc, tOK cs rs as L nc ∧ cSt uc cs rs as L nc ∧ mSt um cs rs as L ∧ gI uc 2 = gI um 17 ∧ gI uc 3 = gI um 18 ∧ gI uc 4 = gI um 19
def relN (uc um : ST) : Prop := gI uc 0 = 0 ∧ gI uc 17 = 0 ∧ gI uc 18 = 0 ∧ gI uc 19 = 0 ∧ gI uc 21 = 0 ∧ gI um 10 = 0 ∧ gI um 20 = 0
/-- what a call that asks may change -/
def qC (u v : ST) : Prop := (∀ k, k ≠ 16 → gI v k = gI u k) ∧ gJ v 1 = gJ u 1 ∧ (∀ k, k < 6 ∨ 11 < k ∧ k < 16 → gR v k = gR u k) ∧ (∀ k, k ≤ 4 → gB v k = gB u k) ∧ (∀ k, gZ v k = gZ u k)
def qM (u v : ST) : Prop := (∀ k, k ≠ 0 → gI v k = gI u k) ∧ ∀ k, gR v k = gR u k
theorem qC.rf (u : ST) : qC u u := ⟨fun _ _ => rfl, rfl, fun _ _ => rfl, fun _ _ => rfl, fun _ => rfl⟩
theorem qC.o {u v : ST} (h : qC u v) (f : Nat → Int64) : qC u (sO v f) := ⟨h.1, h.2.1, h.2.2.1, fun k hk => by show (if k = 5 then f else gB v k) = gB u k; rw [if_neg (by omega)]; exact h.2.2.2.1 k hk, h.2.2.2.2⟩
theorem qC.b {u v : ST} (h : qC u v) (i : Nat) (x : Int64) : qC u (sB v 5 i x) := ⟨h.1, h.2.1, h.2.2.1, fun k hk => by rw [gB_sB, if_neg (by omega)]; exact h.2.2.2.1 k hk, h.2.2.2.2⟩
theorem wayF.q {u v : ST} (h : wayF u v) : qC u v := ⟨h.1, h.2.1 1, h.2.2.2.2, fun k _ => h.2.2.1 k, h.2.2.2.1⟩
theorem qM.s (u : ST) (x : Int32) : qM u (sI u 0 x) := ⟨fun k hk => by rw [gI_sI, if_neg hk], fun _ => rfl⟩
/-- what the law does with both answers -/
abbrev FIN (K : ST → ST → Prop) (r5 : Int32) (uc1 : ST) : Int32 → ST → Prop := fun r6 um1 => wX7_thrown um1 (fun r7 um2 => r7 = r5 ∧ ((r5 = 0 → lg_cmp (gB uc1 5 (0 : Int32).toNatClampNeg) ((r6 : Int32).toInt64) = 0) ∧ K uc1 um2))
theorem fin_ok {uc um u1 : ST} {K : ST → ST → Prop} {f : Nat → Int64} {r : Int32} (hq : qC uc u1) (hK : ∀ uc1 um1, qC uc uc1 → qM um um1 → K uc1 um1) : FIN K 0 (sB (sO u1 f) 5 (0 : Int32).toNatClampNeg (r : Int32).toInt64) r (sI um 0 0) := by
  refine ⟨by rw [gI_sI, if_pos rfl], fun _ => ?_, hK _ _ ((hq.o f).b _ _) (qM.s um 0)⟩
  rw [out0, lg_cmp_self]
theorem fin_bad {uc um u1 : ST} {K : ST → ST → Prop} {f : Nat → Int64} {r x : Int32} (hx : x ≠ 0) (hq : qC uc u1) (hK : ∀ uc1 um1, qC uc uc1 → qM um um1 → K uc1 um1) : FIN K x (sO u1 f) r (sI um 0 x) :=
  ⟨by rw [gI_sI, if_pos rfl], fun c => absurd c hx, hK _ _ (hq.o f) (qM.s um x)⟩
/-! switches -/
theorem sw_in {x : Int32} {n : Nat} (h : ¬ (x.toInt < 0 ∨ (n : Int) < x.toInt)) : ∃ j, j ≤ n ∧ j < 2 ^ 31 ∧ x = nI j := by
  obtain ⟨j, hj, rfl⟩ := nI_of (x := x) (fun c => h (Or.inl (by rw [Int32.lt_iff_toInt_lt] at c; simpa using c)))
  rw [nI_toInt hj] at h
  exact ⟨j, by omega, hj, rfl⟩
theorem sw_out {x : Int32} {n : Nat} (hn : n < 2 ^ 31) (h : x.toInt < 0 ∨ (n : Int) < x.toInt) : x < 0 ∨ ¬ x ≤ nI n := by
  rcases h with h | h
  · left; rw [Int32.lt_iff_toInt_lt]; simpa using h
  · right; rw [Int32.le_iff_toInt_le, nI_toInt hn]; omega
theorem lt_m1 {x : Int32} : x < -1 ↔ x < 0 ∧ x ≠ -1 := by
  rw [Int32.lt_iff_toInt_lt, Int32.lt_iff_toInt_lt, show (-1 : Int32).toInt = -1 from by decide, show (0 : Int32).toInt = 0 from by decide]
  constructor
  · intro h
    refine ⟨by omega, fun e => ?_⟩
    rw [e, show (-1 : Int32).toInt = -1 from by decide] at h
    omega
  · intro h
    have h2 : x.toInt ≠ -1 := fun e => h.2 (Int32.toInt_inj.mp (by rw [e]; decide))
    omega
theorem q_fault {uc um : ST} {K : ST → ST → Prop} (h : gI uc 1 = gI um 4) (hK : ∀ uc1 um1, qC uc uc1 → qM um um1 → K uc1 um1) : wC3 uc um K := by
  unfold wC3 wX6_fault wX7_fault
  exact ⟨by rw [gI_sI, if_neg (by decide)]; exact h, hK _ _ ((qC.rf uc).o _) (qM.s um 0)⟩
/-- no table: the asking calls throw -/
theorem r10 {um : ST} {cs as : List (List Nat)} {rs L : List RU} (h : mSt um cs rs as L) : ¬ gI um 10 = 0 := by rw [h.1.1]; decide
theorem c0 {uc : ST} {cs as : List (List Nat)} {rs L : List RU} {nc : Nat} (h : cSt uc cs rs as L nc) : ¬ gI uc 0 = 0 := by rw [h.1]; decide
theorem q_amiss {uc um : ST} {K : ST → ST → Prop} (x1 : Int32) (h : relN uc um ∨ relY uc um) (hK : ∀ uc1 um1, qC uc uc1 → qM um um1 → K uc1 um1) : wC4 x1 uc um K := by
  unfold wC4 wL_amiss wX6_amiss wX6_needTable
  rcases h with h | ⟨cs, rs, as, L, nc, hO, hC, hM, a1, a2, a3⟩
  · refine ⟨fun c => absurd h.1 c, fun _ => Or.inl ⟨rfl, ?_⟩⟩
    unfold wX7_amiss
    refine ⟨fun c => absurd h.2.2.2.2.2.1 c, fun _ => ?_⟩
    unfold wX7_amiss_b26
    exact ⟨fun c => absurd c (by rw [gI_sI, if_pos rfl]; decide), fun _ => fin_bad (by decide) (qC.rf uc) hK⟩
  · refine ⟨fun _ => ?_, fun c => absurd c (c0 hC)⟩
    have ok : ∀ r : Int32, (∀ Q' : Int32 → ST → Prop, Q' r (sI um 0 0) → wX7_amiss_b26 Q' x1 0 um) → ¬ x1 < 0 → x1 ≤ 2 → wX7_amiss x1 um (FIN K 0 (sB (sO uc (gB uc 5)) 5 (0 : Int32).toNatClampNeg (r : Int32).toInt64)) := by
      intro r hr h0 h2
      exact ⟨fun _ => ⟨fun c => absurd c h0, fun _ => ⟨fun _ => hr _ (fin_ok (qC.rf uc) hK), fun c => absurd h2 c⟩⟩, fun c => absurd c (r10 hM)⟩
    by_cases hs : x1.toInt < 0 ∨ (2 : Int) < x1.toInt
    · refine ⟨fun _ => Or.inr ⟨rfl, ?_⟩, fun e => ?_, fun e => ?_, fun e => ?_⟩
      · have hb : wX7_amiss_b21 (FIN K 2 (sO uc (gB uc 5))) x1 um := by
          unfold wX7_amiss_b21 wX7_amiss_b26
          exact ⟨fun c => absurd c (by rw [gI_sI, if_pos rfl]; decide), fun _ => fin_bad (by decide) (qC.rf uc) hK⟩
        refine ⟨fun _ => ⟨fun _ => hb, fun h0 => ⟨fun h2 => ?_, fun _ => hb⟩⟩, fun c => absurd c (r10 hM)⟩
        rcases sw_out (n := 2) (by decide) hs with g | g
        · exact absurd g h0
        · exact absurd h2 g
      · rw [e] at hs; exact absurd hs (by decide)
      · rw [e] at hs; exact absurd hs (by decide)
      · rw [e] at hs; exact absurd hs (by decide)
    · refine ⟨fun c => absurd c hs, fun e => ?_, fun e => ?_, fun e => ?_⟩
      · subst e
        exact ok _ (fun Q' hq => ⟨fun _ => ⟨fun c => absurd rfl c, fun _ => by rw [gI_sI, if_neg (by decide), ← a1]; exact hq⟩, fun c => absurd (by rw [gI_sI, if_pos rfl]; decide) c⟩) (by decide) (by decide)
      · subst e
        exact ok _ (fun Q' hq => ⟨fun _ => ⟨fun _ => ⟨fun c => absurd rfl c, fun _ => by rw [gI_sI, if_neg (by decide), ← a2]; exact hq⟩, fun c => absurd c (by decide)⟩, fun c => absurd (by rw [gI_sI, if_pos rfl]; decide) c⟩) (by decide) (by decide)
      · subst e
        exact ok _ (fun Q' hq => ⟨fun _ => ⟨fun _ => ⟨fun _ => by rw [gI_sI, if_neg (by decide), ← a3]; exact hq, fun c => absurd c (by decide)⟩, fun c => absurd c (by decide)⟩, fun c => absurd (by rw [gI_sI, if_pos rfl]; decide) c⟩) (by decide) (by decide)
/-! count -/
theorem r_cntL {nc : Nat} {L : List RU} {u : ST} {Q : Int32 → ST → Prop} (hn : nc ≤ 16) (hok : okL nc L) (h21 : gI u 21 = nI L.length) (hT : mTr u 0 L) (h : Q (nI (lvs L)) u) : ∃ f, wX7_count_L110 Q f 0 0 u := by
  have h1000 := hok.2.1
  have key : ∀ (B A : List RU) (f : Nat), L = A ++ B → B.length < f → wX7_count_L110 Q f (nI (lvs A)) (nI A.length) u := by
    intro B
    induction B with
    | nil =>
      intro A f hM hf
      obtain ⟨f, rfl⟩ : ∃ f', f = f' + 1 := ⟨f - 1, by omega⟩
      rw [List.append_nil] at hM
      subst hM
      show wX7_count_B110 (wX7_count_L110 Q f) Q _ _ u
      unfold wX7_count_B110
      rw [h21]
      exact pk_le L.length L.length (fun _ => h) (fun c => absurd c (by omega))
    | cons z B ih =>
      intro A f hM hf
      obtain ⟨f, rfl⟩ : ∃ f', f = f' + 1 := ⟨f - 1, by omega⟩
      have hlen : L.length = A.length + (B.length + 1) := by rw [hM]; simp
      have hat : L[A.length]? = some z := by rw [hM]; exact at_mid A z B
      have ht := hT _ _ hat
      rw [Nat.zero_add] at ht
      unfold nod at ht
      show wX7_count_B110 (wX7_count_L110 Q f) Q _ _ u
      unfold wX7_count_B110
      rw [h21, cl_nI (by omega), ht.1.1]
      have go : ∀ n, lvs (A ++ [z]) = lvs A + n → wX7_count_b133 (wX7_count_L110 Q f) Q (nI A.length) (nI (lvs A)) (nI n) u := by
        intro n hn'
        unfold wX7_count_b133
        rw [nI_add, nI_1, ← hn', show A.length + 1 = (A ++ [z]).length by simp]
        exact ih (A ++ [z]) f (by rw [hM]; simp) (by simp at hf; omega)
      refine pk_le L.length A.length (fun c => absurd c (by omega)) (fun _ => ⟨vp_in_nI (by omega) (by omega), ?_⟩)
      by_cases h0 : z.2.2 = 0
      · rw [if_pos h0]
        exact ⟨fun c => absurd c (by decide), fun _ => go 1 (by rw [lvs_app]; simp [lvs, h0])⟩
      · rw [if_neg h0]
        have hz16 : z.1 < 16 := by
          rcases hok.1 _ z hat with g | g
          · exact absurd g.1 h0
          · omega
        exact ⟨fun _ => go 0 (by rw [lvs_app]; simp [lvs, h0]), fun c => absurd (nI_pos' (by omega)) c⟩
  exact ⟨L.length + 1, key L [] _ rfl (by omega)⟩
theorem r_mxL {nc : Nat} {L : List RU} {u : ST} {Q : Int32 → ST → Prop} (hn : nc ≤ 16) (hok : okL nc L) (h21 : gI u 21 = nI L.length) (hT : mTr u 0 L) (h : Q (nI (mxA L 0)) u) : ∃ f, wX7_count_L150 Q f 0 0 u := by
  have h1000 := hok.2.1
  have key : ∀ (B A : List RU) (f : Nat), L = A ++ B → B.length < f → mxA A 0 ≤ 16 → wX7_count_L150 Q f (nI (mxA A 0)) (nI A.length) u := by
    intro B
    induction B with
    | nil =>
      intro A f hM hf _
      obtain ⟨f, rfl⟩ : ∃ f', f = f' + 1 := ⟨f - 1, by omega⟩
      rw [List.append_nil] at hM
      subst hM
      show wX7_count_B150 (wX7_count_L150 Q f) Q _ _ u
      unfold wX7_count_B150
      rw [h21]
      exact pk_le L.length L.length (fun _ => h) (fun c => absurd c (by omega))
    | cons z B ih =>
      intro A f hM hf hA
      obtain ⟨f, rfl⟩ : ∃ f', f = f' + 1 := ⟨f - 1, by omega⟩
      have hlen : L.length = A.length + (B.length + 1) := by rw [hM]; simp
      have hat : L[A.length]? = some z := by rw [hM]; exact at_mid A z B
      have ht := hT _ _ hat
      rw [Nat.zero_add] at ht
      unfold nod at ht
      have hz : z.2.1 ≤ 16 := by
        rcases hok.1 _ z hat with g | g <;> omega
      show wX7_count_B150 (wX7_count_L150 Q f) Q _ _ u
      unfold wX7_count_B150
      rw [h21, cl_nI (by omega), ht.1.2.2]
      have e : mxA (A ++ [z]) 0 = max (mxA A 0) z.2.1 := by rw [mxA_app]; rfl
      have go : ∀ n, mxA (A ++ [z]) 0 = n → wX7_count_b178 (wX7_count_L150 Q f) Q (nI A.length) (nI n) u := by
        intro n hn'
        unfold wX7_count_b178
        rw [nI_1, ← hn', show A.length + 1 = (A ++ [z]).length by simp]
        exact ih (A ++ [z]) f (by rw [hM]; simp) (by simp at hf; omega) (by rw [e]; omega)
      have va : vp_in (nI A.length) 1000 := vp_in_nI (by omega) (by omega)
      refine pk_le L.length A.length (fun c => absurd c (by omega)) (fun _ => ⟨va, pk_le z.2.1 (mxA A 0) (fun hle => go _ (by rw [e]; omega)) (fun hgt => ⟨va, go _ (by rw [e]; omega)⟩)⟩)
  exact ⟨L.length + 1, key L [] _ rfl (by omega) (by show (0 : Nat) ≤ 16; omega)⟩
theorem tree_facts {cs as : List (List Nat)} {rs L : List RU} {nc : Nat} (hO : tOK cs rs as L nc) : mxA L 0 = mxd L 0 ∧ lds nc L = tst nc L := by
  by_cases h0 : L.length = 0
  · have : L = [] := List.eq_nil_of_length_eq_zero h0
    subst this
    exact ⟨rfl, rfl⟩
  · obtain ⟨hs, hL⟩ := hO.2.2.2.2.2.2.2 h0
    have := tl_facts hO.2.1 hO.2.2.1 hO.2.2.2.1 hs (nc + 1) 0 0 0 (by omega) (plc_0 hO.2.1)
    rw [show tl rs nc (nc + 1) 0 0 0 = L from hL.symm] at this
    refine ⟨this.2.2.1 0 0 rfl, ?_⟩
    rw [this.2.2.2]; omega
theorem q_count {uc um : ST} {N : Nat} {K : ST → ST → Prop} (x1 : Int32) (ht : tRel uc um N) (hz : gZ uc 0 < 2) (h : relN uc um ∨ relY uc um) (hK : ∀ uc1 um1, qC uc uc1 → qM um um1 → K uc1 um1) : wC5 x1 uc um K := by
  unfold wC5 wL_count wX6_count
  have h75 : gI uc 5 = gI um 2 := by obtain ⟨tb, n, -, a, b⟩ := ht; rw [a.1, b.1]
  have t0 : ∀ x : Int32, gI (sI um 0 x) 0 = x := fun x => by rw [gI_sI, if_pos rfl]
  have tk : ∀ (x : Int32) (k : Nat), k ≠ 0 → gI (sI um 0 x) k = gI um k := fun x k hk => by rw [gI_sI, if_neg hk]
  by_cases hs : x1.toInt < 0 ∨ (7 : Int) < x1.toInt
  · have ne : ∀ j : Nat, j ≤ 7 → ¬ x1 = nI j := by
      intro j hj e
      rw [e, nI_toInt (by omega)] at hs
      omega
    refine ⟨fun _ => ⟨rfl, ?_⟩, fun e => absurd e (ne 0 (by omega)), fun e => absurd e (ne 1 (by omega)), fun e => absurd e (ne 2 (by omega)), fun e => absurd e (ne 3 (by omega)), fun e => absurd e (ne 4 (by omega)), fun e => absurd e (ne 5 (by omega)), fun e => absurd e (ne 6 (by omega)), fun e => absurd e (ne 7 (by omega))⟩
    have hb : wX7_count_b11 (FIN K 1 (sO uc (gB uc 5))) x1 um := by
      unfold wX7_count_b11 wX7_count_b16
      refine ⟨fun _ => ⟨fun _ => fin_bad (by decide) (qC.rf uc) hK, fun c => absurd (by rw [t0]; decide) c⟩, fun e => absurd e (ne 7 (by omega))⟩
    refine ⟨fun _ => hb, fun h0 => ⟨fun h7 => ?_, fun _ => hb⟩⟩
    rcases sw_out (n := 7) (by decide) hs with g | g
    · exact absurd g h0
    · exact absurd h7 g
  · obtain ⟨j, hj, hj31, rfl⟩ := sw_in (n := 7) hs
    -- the reference's way to its answer
    have ref : ∀ r : Int32, (∀ Q' : Int32 → ST → Prop, Q' r (sI um 0 0) → wX7_count_b16 Q' (nI j) 0 um) → wX7_count (nI j) um (FIN K 0 (sB (sO uc (gB uc 5)) 5 (0 : Int32).toNatClampNeg (r : Int32).toInt64)) := by
      intro r hr
      refine ⟨fun c => absurd c (nI_pos hj31), fun _ => ⟨fun _ => hr _ (fin_ok (qC.rf uc) hK), fun c => absurd ?_ c⟩⟩
      rw [show (7 : Int32) = nI 7 from rfl, n_le hj31 (by decide)]; exact hj
    have out : ∀ {P : Prop}, ((nI j).toInt < 0 ∨ (7 : Int) < (nI j).toInt) → P := fun c => absurd c hs
    have b16 : ∀ (r : Int32) (Q' : Int32 → ST → Prop), j ≠ 7 → (gI um 10 = 0 → Q' r (sI um 0 0) → Q' 0 (sI um 0 0)) → (¬ gI um 10 = 0 → Q' r (sI um 0 0) → ((((nI j).toInt < 0 ∨ (5 : Int) < (nI j).toInt) → (∃ n : Nat, wX7_count_L150 Q' n 0 0 (sI um 0 0))) ∧ (nI j = 0 → Q' (gI (sI um 0 0) 11) (sI um 0 0)) ∧ (nI j = 1 → Q' (gI (sI um 0 0) 12) (sI um 0 0)) ∧ (nI j = 2 → Q' (gI (sI um 0 0) 13) (sI um 0 0)) ∧ (nI j = 3 → Q' (gI (sI um 0 0) 21) (sI um 0 0)) ∧ (nI j = 4 → (∃ n : Nat, wX7_count_L110 Q' n 0 0 (sI um 0 0))) ∧ (nI j = 5 → Q' (gI (sI um 0 0) 33) (sI um 0 0)))) → Q' r (sI um 0 0) → wX7_count_b16 Q' (nI j) 0 um := by
      intro r Q' h7 hN hY hq
      refine ⟨fun _ => ⟨fun c => absurd c (by rw [t0]; decide), fun _ => ⟨fun h10 => hY (by rw [tk 0 10 (by decide)] at h10; exact h10) hq, fun h10 => hN (by rw [tk 0 10 (by decide)] at h10; exact h10) hq⟩⟩, fun e => ?_⟩
      rw [show (7 : Int32) = nI 7 from rfl, n_eq hj31 (by decide)] at e
      exact absurd e h7
    have eqj : ∀ k : Nat, k < 100 → (nI j = nI k) = (j = k) := fun k hk => n_eq hj31 (by omega)
    have e5 : ((nI j).toInt < 0 ∨ (5 : Int) < (nI j).toInt) = (5 < j) := by
      rw [nI_toInt hj31]; exact propext ⟨fun q => by omega, fun q => by omega⟩
    rcases (show j = 0 ∨ j = 1 ∨ j = 2 ∨ j = 3 ∨ j = 4 ∨ j = 5 ∨ j = 6 ∨ j = 7 by omega) with rfl | rfl | rfl | rfl | rfl | rfl | rfl | rfl
    all_goals refine ⟨out, ?_⟩
    · refine ⟨fun _ => ?_, fun e => absurd e (by decide), fun e => absurd e (by decide), fun e => absurd e (by decide), fun e => absurd e (by decide), fun e => absurd e (by decide), fun e => absurd e (by decide), fun e => absurd e (by decide)⟩
      rcases h with h | ⟨cs, rs, as, L, nc, hO, hC, hM, a1, a2, a3⟩
      · exact ⟨fun _ => ref _ (fun Q' hq => b16 0 Q' (by decide) (fun _ q => q) (fun c => absurd h.2.2.2.2.2.1 c) hq), fun c => absurd h.1 c⟩
      · refine ⟨fun c => absurd c (c0 hC), fun _ => ⟨hz, ref _ (fun Q' hq => b16 _ Q' (by decide) (fun c => absurd c (r10 hM)) (fun _ _ => ⟨fun c => absurd c (by decide), fun _ => ?_, fun e => absurd e (by decide), fun e => absurd e (by decide), fun e => absurd e (by decide), fun e => absurd e (by decide), fun e => absurd e (by decide)⟩) hq)⟩⟩
        rw [tk 0 11 (by decide), hM.1.2.1, ← hC.2.1.1.1]; exact hq
    · refine ⟨fun e => absurd e (by decide), fun _ => ?_, fun e => absurd e (by decide), fun e => absurd e (by decide), fun e => absurd e (by decide), fun e => absurd e (by decide), fun e => absurd e (by decide), fun e => absurd e (by decide)⟩
      rcases h with h | ⟨cs, rs, as, L, nc, hO, hC, hM, a1, a2, a3⟩
      · exact ⟨fun _ => ref _ (fun Q' hq => b16 0 Q' (by decide) (fun _ q => q) (fun c => absurd h.2.2.2.2.2.1 c) hq), fun c => absurd h.1 c⟩
      · refine ⟨fun c => absurd c (c0 hC), fun _ => ⟨hz, ref _ (fun Q' hq => b16 _ Q' (by decide) (fun c => absurd c (r10 hM)) (fun _ _ => ⟨fun c => absurd c (by decide), fun e => absurd e (by decide), fun _ => ?_, fun e => absurd e (by decide), fun e => absurd e (by decide), fun e => absurd e (by decide), fun e => absurd e (by decide)⟩) hq)⟩⟩
        rw [tk 0 12 (by decide), hM.1.2.2.1, ← hC.2.1.2.2.1]; exact hq
    · refine ⟨fun e => absurd e (by decide), fun e => absurd e (by decide), fun _ => ?_, fun e => absurd e (by decide), fun e => absurd e (by decide), fun e => absurd e (by decide), fun e => absurd e (by decide), fun e => absurd e (by decide)⟩
      rcases h with h | ⟨cs, rs, as, L, nc, hO, hC, hM, a1, a2, a3⟩
      · exact ⟨fun _ => ref _ (fun Q' hq => b16 0 Q' (by decide) (fun _ q => q) (fun c => absurd h.2.2.2.2.2.1 c) hq), fun c => absurd h.1 c⟩
      · refine ⟨fun c => absurd c (c0 hC), fun _ => ⟨hz, ref _ (fun Q' hq => b16 _ Q' (by decide) (fun c => absurd c (r10 hM)) (fun _ _ => ⟨fun c => absurd c (by decide), fun e => absurd e (by decide), fun e => absurd e (by decide), fun _ => ?_, fun e => absurd e (by decide), fun e => absurd e (by decide), fun e => absurd e (by decide)⟩) hq)⟩⟩
        rw [tk 0 13 (by decide), hM.1.2.2.2.1, ← hC.2.1.2.1.1]; exact hq
    · refine ⟨fun e => absurd e (by decide), fun e => absurd e (by decide), fun e => absurd e (by decide), fun _ => ?_, fun e => absurd e (by decide), fun e => absurd e (by decide), fun e => absurd e (by decide), fun e => absurd e (by decide)⟩
      rcases h with h | ⟨cs, rs, as, L, nc, hO, hC, hM, a1, a2, a3⟩
      · rw [h.2.1]
        exact ref _ (fun Q' hq => b16 0 Q' (by decide) (fun _ q => q) (fun c => absurd h.2.2.2.2.2.1 c) hq)
      · refine ref _ (fun Q' hq => b16 _ Q' (by decide) (fun c => absurd c (r10 hM)) (fun _ _ => ⟨fun c => absurd c (by decide), fun e => absurd e (by decide), fun e => absurd e (by decide), fun e => absurd e (by decide), fun _ => ?_, fun e => absurd e (by decide), fun e => absurd e (by decide)⟩) hq)
        rw [tk 0 21 (by decide), hM.2.2.1, ← hC.2.2.1]; exact hq
    · refine ⟨fun e => absurd e (by decide), fun e => absurd e (by decide), fun e => absurd e (by decide), fun e => absurd e (by decide), fun _ => ?_, fun e => absurd e (by decide), fun e => absurd e (by decide), fun e => absurd e (by decide)⟩
      rcases h with h | ⟨cs, rs, as, L, nc, hO, hC, hM, a1, a2, a3⟩
      · rw [h.2.2.1]
        exact ref _ (fun Q' hq => b16 0 Q' (by decide) (fun _ q => q) (fun c => absurd h.2.2.2.2.2.1 c) hq)
      · refine ref _ (fun Q' hq => b16 _ Q' (by decide) (fun c => absurd c (r10 hM)) (fun _ _ => ⟨fun c => absurd c (by decide), fun e => absurd e (by decide), fun e => absurd e (by decide), fun e => absurd e (by decide), fun e => absurd e (by decide), fun _ => ?_, fun e => absurd e (by decide)⟩) hq)
        refine r_cntL hO.2.1 hO.2.2.2.2.2.2.1 (by rw [tk 0 21 (by decide)]; exact hM.2.2.1) hM.2.2.2.1 ?_
        rw [← hC.2.2.2.1]; exact hq
    · refine ⟨fun e => absurd e (by decide), fun e => absurd e (by decide), fun e => absurd e (by decide), fun e => absurd e (by decide), fun e => absurd e (by decide), fun _ => ?_, fun e => absurd e (by decide), fun e => absurd e (by decide)⟩
      rcases h with h | ⟨cs, rs, as, L, nc, hO, hC, hM, a1, a2, a3⟩
      · rw [h.2.2.2.2.1]
        exact ref _ (fun Q' hq => b16 0 Q' (by decide) (fun _ q => q) (fun c => absurd h.2.2.2.2.2.1 c) hq)
      · refine ref _ (fun Q' hq => b16 _ Q' (by decide) (fun c => absurd c (r10 hM)) (fun _ _ => ⟨fun c => absurd c (by decide), fun e => absurd e (by decide), fun e => absurd e (by decide), fun e => absurd e (by decide), fun e => absurd e (by decide), fun e => absurd e (by decide), fun _ => ?_⟩) hq)
        rw [tk 0 33 (by decide), hM.2.2.2.2.1, ← hC.2.2.2.2.2.2.2.1]; exact hq
    · refine ⟨fun e => absurd e (by decide), fun e => absurd e (by decide), fun e => absurd e (by decide), fun e => absurd e (by decide), fun e => absurd e (by decide), fun e => absurd e (by decide), fun _ => ?_, fun e => absurd e (by decide)⟩
      rcases h with h | ⟨cs, rs, as, L, nc, hO, hC, hM, a1, a2, a3⟩
      · rw [h.2.2.2.1]
        exact ref _ (fun Q' hq => b16 0 Q' (by decide) (fun _ q => q) (fun c => absurd h.2.2.2.2.2.1 c) hq)
      · refine ref _ (fun Q' hq => b16 _ Q' (by decide) (fun c => absurd c (r10 hM)) (fun _ _ => ⟨fun _ => ?_, fun e => absurd e (by decide), fun e => absurd e (by decide), fun e => absurd e (by decide), fun e => absurd e (by decide), fun e => absurd e (by decide), fun e => absurd e (by decide)⟩) hq)
        refine r_mxL hO.2.1 hO.2.2.2.2.2.2.1 (by rw [tk 0 21 (by decide)]; exact hM.2.2.1) hM.2.2.2.1 ?_
        rw [(tree_facts hO).1, ← hC.2.2.2.2.1]; exact hq
    · refine ⟨fun e => absurd e (by decide), fun e => absurd e (by decide), fun e => absurd e (by decide), fun e => absurd e (by decide), fun e => absurd e (by decide), fun e => absurd e (by decide), fun e => absurd e (by decide), fun _ => ?_⟩
      refine ref _ (fun Q' hq => ⟨fun c => absurd rfl c, fun _ => ?_⟩)
      rw [tk 0 2 (by decide), ← h75]; exact hq
