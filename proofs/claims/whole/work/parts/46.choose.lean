/-! ACTIONS AND WEIGHTS -/
def oneA : List RU → Int32
  | [] => -1
  | r :: M => if M.all (fun x => decide (x.2.2 = r.2.2)) = true then nI r.2.2 else -1
theorem oneA_same {M : List RU} {a : Nat} (hM : M ≠ []) (h : ∀ x ∈ M, x.2.2 = a) : oneA M = nI a := by
  cases M with
  | nil => exact absurd rfl hM
  | cons r M =>
    show (if M.all (fun x => decide (x.2.2 = r.2.2)) = true then nI r.2.2 else -1) = nI a
    rw [if_pos, h r List.mem_cons_self]
    rw [List.all_eq_true]
    intro x hx
    rw [h x (List.mem_cons_of_mem _ hx), h r List.mem_cons_self]
    simp
theorem oneA_diff {M : List RU} {x y : RU} (hx : x ∈ M) (hy : y ∈ M) (h : x.2.2 ≠ y.2.2) : oneA M = -1 := by
  cases M with
  | nil => cases hx
  | cons r M =>
    show (if M.all (fun x => decide (x.2.2 = r.2.2)) = true then nI r.2.2 else -1) = -1
    rw [if_neg]
    intro hall
    rw [List.all_eq_true] at hall
    have q : ∀ z ∈ r :: M, z.2.2 = r.2.2 := by
      intro z hz
      rcases List.mem_cons.mp hz with e | e
      · rw [e]
      · simpa using hall z e
    exact h ((q x hx).trans (q y hy).symm)
theorem oneA_cases (M : List RU) : M = [] ∨ (∃ a, M ≠ [] ∧ (∀ x ∈ M, x.2.2 = a) ∧ oneA M = nI a) ∨ (oneA M = -1 ∧ ∃ x ∈ M, ∃ y ∈ M, x.2.2 ≠ y.2.2) := by
  cases M with
  | nil => exact Or.inl rfl
  | cons r M =>
    by_cases h : ∀ x ∈ r :: M, x.2.2 = r.2.2
    · exact Or.inr (Or.inl ⟨r.2.2, by simp, h, oneA_same (by simp) h⟩)
    · obtain ⟨x, hx⟩ := Classical.not_forall.mp h
      have hx2 : x ∈ r :: M ∧ ¬ x.2.2 = r.2.2 := by
        by_cases hm : x ∈ r :: M
        · exact ⟨hm, fun e => hx (fun _ => e)⟩
        · exact absurd (fun hm2 => absurd hm2 hm) hx
      exact Or.inr (Or.inr ⟨oneA_diff hx2.1 List.mem_cons_self hx2.2, x, hx2.1, r, List.mem_cons_self, hx2.2⟩)
theorem w_oneA {RS M : List RU} {d : Nat} {u : ST} {Q : Int32 → ST → Prop} (hd : d ≤ 16) (hR : wRul u RS) (hB : rB RS) (hL : wLst u RS d M) (hM : M ≠ []) (h : Q (oneA M) u) : wX5_oneAction (nI d) u Q := by
  have h256 := hL.2.1
  have h256' := hR.1
  cases M with
  | nil => exact absurd rfl hM
  | cons r0 M =>
  obtain ⟨k0, hk0, hg0⟩ := hL.2.2 0 r0 rfl
  have hk0l := (List.getElem?_eq_some_iff.mp hk0).1
  have hr0 := hR.2 k0 r0 hk0
  have key : ∀ (B A : List RU) (f : Nat), r0 :: M = A ++ B → A ≠ [] → (∀ x ∈ A, x.2.2 = r0.2.2) → B.length < f → wX5_oneAction_L16 Q f (nI d) (nI r0.2.2) (nI A.length) u := by
    intro B
    induction B with
    | nil =>
      intro A f hMA hA hall hf
      obtain ⟨f, rfl⟩ : ∃ f', f = f' + 1 := ⟨f - 1, by omega⟩
      show wX5_oneAction_B16 (wX5_oneAction_L16 Q f) Q (nI d) (nI r0.2.2) (nI A.length) u
      unfold wX5_oneAction_B16
      rw [List.append_nil] at hMA
      rw [cl_nI (by omega), hL.1, ← hMA]
      rw [← hMA] at hall
      rw [oneA_same (by simp) hall] at h
      exact ⟨vp_in_nI (by omega) (by omega), pk_le (r0 :: M).length (r0 :: M).length (fun _ => h) (fun c => absurd c (by omega))⟩
    | cons r B ih =>
      intro A f hMA hA hall hf
      obtain ⟨f, rfl⟩ : ∃ f', f = f' + 1 := ⟨f - 1, by omega⟩
      show wX5_oneAction_B16 (wX5_oneAction_L16 Q f) Q (nI d) (nI r0.2.2) (nI A.length) u
      unfold wX5_oneAction_B16
      have hlen : (r0 :: M).length = A.length + (B.length + 1) := by rw [hMA]; simp
      have hat : (r0 :: M)[A.length]? = some r := by rw [hMA]; exact at_mid A r B
      obtain ⟨k, hk, hgk⟩ := hL.2.2 _ _ hat
      have hkl := (List.getElem?_eq_some_iff.mp hk).1
      have hr := hR.2 k r hk
      have b1 := hB r (List.mem_of_getElem? hk)
      have b0 := hB r0 (List.mem_of_getElem? hk0)
      rw [cl_nI (show d < 2 ^ 31 by omega), hL.1, cl_nI (show A.length < 2 ^ 31 by omega), hgk, cl_nI (show k < 2 ^ 31 by omega), hr.2.2, n_eq (a := r.2.2) (b := r0.2.2) (by omega) (by omega)]
      have vd : vp_in (nI d) 17 := vp_in_nI (by omega) (by omega)
      refine ⟨vd, pk_le (r0 :: M).length A.length (fun c => absurd c (by omega)) (fun _ => ⟨vd, vp_in_nI (by omega) (by omega), vp_in_nI (by omega) (by omega), fun he => ?_, fun hne => ?_⟩)⟩
      · rw [nI_1, show A.length + 1 = (A ++ [r]).length by simp]
        refine ih (A ++ [r]) f (by rw [hMA]; simp) (by simp) (fun x hx => ?_) (by simp at hf; omega)
        rcases List.mem_append.mp hx with e | e
        · exact hall x e
        · rw [List.mem_singleton.mp e]; exact he
      · rw [oneA_diff (List.mem_of_getElem? hat) (List.mem_cons_self (a := r0)) hne] at h
        exact h
  unfold wX5_oneAction
  have e0 : (0 : Int32).toNatClampNeg = 0 := by decide
  rw [cl_nI (by omega), e0, hg0, cl_nI (by omega)]
  refine ⟨vp_in_nI (by omega) (by omega), vp_in_nI (n := 0) (by omega) (by omega), vp_in_nI (by omega) (by omega), ?_⟩
  intro x2 e2
  rw [e2, hr0.2.2]
  exact ⟨M.length + 1, key M [r0] _ rfl (by simp) (fun x hx => by rw [List.mem_singleton.mp hx]) (by omega)⟩
theorem r_can {u : ST} {rs : List RU} {k H F : Nat} {r : RU} {Q : Int32 → ST → Prop} (hl : rs.length ≤ 256) (hT : mRul u rs) (hB : rB rs) (hk : rs[k]? = some r) (no : can H F r = false → Q 0 u) (yes : can H F r = true → Q 1 u) : wX7_canMeet (nI k) (nI H) (nI F) u Q := by
  have hkl := (List.getElem?_eq_some_iff.mp hk).1
  have hr := hT k r hk
  have hb := hB r (List.mem_of_getElem? hk)
  unfold wX7_canMeet
  rw [cl_nI (by omega), hr.1, hr.2.1, nI_and, nI_and, nI_is0 (Nat.lt_of_le_of_lt Nat.and_le_left (by omega)), nI_is0 (Nat.lt_of_le_of_lt Nat.and_le_left (by omega))]
  have v : vp_in (nI k) 512 := vp_in_nI (by omega) (by omega)
  exact ⟨v, fun e => no (by unfold can; simp [e]), fun e1 => ⟨v, fun e => no (by unfold can; simp [e]), fun e2 => yes (by unfold can; simp [e1, e2])⟩⟩
theorem r_oneA {u : ST} {rs : List RU} {H F : Nat} {Q : Int32 → ST → Prop} (h12 : gI u 12 = nI rs.length) (hl : rs.length ≤ 256) (hT : mRul u rs) (hB : rB rs) (h : Q (oneA (rs.filter (can H F))) u) : wX7_onlyAction (nI H) (nI F) u Q := by
  have key : ∀ (B A : List RU) (f : Nat) (x3 : Int32), rs = A ++ B → B.length < f → (A.filter (can H F) = [] ∧ x3 = -1 ∨ ∃ a, a < 64 ∧ A.filter (can H F) ≠ [] ∧ (∀ x ∈ A.filter (can H F), x.2.2 = a) ∧ x3 = nI a) → wX7_onlyAction_L5 Q f (nI H) (nI F) x3 (nI A.length) u := by
    intro B
    induction B with
    | nil =>
      intro A f x3 hM hf hx
      obtain ⟨f, rfl⟩ : ∃ f', f = f' + 1 := ⟨f - 1, by omega⟩
      show wX7_onlyAction_B5 (wX7_onlyAction_L5 Q f) Q (nI H) (nI F) x3 (nI A.length) u
      unfold wX7_onlyAction_B5
      rw [List.append_nil] at hM
      subst hM
      rw [h12]
      refine pk_le rs.length rs.length (fun _ => ?_) (fun c => absurd c (by omega))
      rcases hx with ⟨e, e3⟩ | ⟨a, -, hne, hall, e3⟩
      · rw [e] at h; rw [e3]; exact h
      · rw [oneA_same hne hall] at h; rw [e3]; exact h
    | cons r B ih =>
      intro A f x3 hM hf hx
      obtain ⟨f, rfl⟩ : ∃ f', f = f' + 1 := ⟨f - 1, by omega⟩
      show wX7_onlyAction_B5 (wX7_onlyAction_L5 Q f) Q (nI H) (nI F) x3 (nI A.length) u
      unfold wX7_onlyAction_B5
      have hlen : rs.length = A.length + (B.length + 1) := by rw [hM]; simp
      have hat : rs[A.length]? = some r := by rw [hM]; exact at_mid A r B
      have hr := hT _ _ hat
      have hb := hB r (List.mem_of_getElem? hat)
      rw [h12]
      have v : vp_in (nI A.length) 512 := vp_in_nI (by omega) (by omega)
      refine pk_le rs.length A.length (fun c => absurd c (by omega)) (fun _ => r_can hl hT hB hat (fun hc => ⟨fun _ => ?_, fun c => absurd rfl c⟩) (fun hc => ⟨fun c => absurd c (by decide), fun _ => ?_⟩))
      · unfold wX7_onlyAction_b50
        rw [nI_1, show A.length + 1 = (A ++ [r]).length by simp]
        refine ih (A ++ [r]) f x3 (by rw [hM]; simp) (by simp at hf; omega) ?_
        have hft : (A ++ [r]).filter (can H F) = A.filter (can H F) := by rw [List.filter_append]; simp [hc]
        rw [hft]; exact hx
      · have hft : (A ++ [r]).filter (can H F) = A.filter (can H F) ++ [r] := by rw [List.filter_append]; simp [hc]
        have go : (∀ x ∈ A.filter (can H F), x.2.2 = r.2.2) → wX7_onlyAction_b42 (wX7_onlyAction_L5 Q f) Q (nI H) (nI F) (nI A.length) u := by
          intro hall
          unfold wX7_onlyAction_b42 wX7_onlyAction_b50
          rw [cl_nI (by omega), hr.2.2, nI_1, show A.length + 1 = (A ++ [r]).length by simp]
          refine ⟨v, ih (A ++ [r]) f _ (by rw [hM]; simp) (by simp at hf; omega) (Or.inr ⟨r.2.2, hb.2.2, ?_, ?_, rfl⟩)⟩
          · rw [hft]; simp
          · rw [hft]
            intro x hx2
            rcases List.mem_append.mp hx2 with e | e
            · exact hall x e
            · rw [List.mem_singleton.mp e]
        rcases hx with ⟨e, e3⟩ | ⟨a, ha, hne, hall, e3⟩
        · refine ⟨fun _ => go (fun x hx2 => by rw [e] at hx2; cases hx2), fun c => absurd (by rw [e3]; decide) c⟩
        · refine ⟨fun c => absurd c (by rw [e3]; exact nI_pos (by omega)), fun _ => ⟨v, ?_⟩⟩
          rw [cl_nI (by omega), hr.2.2, e3, n_eq (by omega) (by omega)]
          refine ⟨fun he => go (fun x hx2 => by rw [hall x hx2, he]), fun hne2 => ?_⟩
          have hfull : rs.filter (can H F) = A.filter (can H F) ++ r :: B.filter (can H F) := by
            rw [hM, List.filter_append]; simp [hc]
          obtain ⟨y, hy⟩ := List.exists_mem_of_ne_nil _ hne
          have : oneA (rs.filter (can H F)) = -1 := by
            rw [hfull]
            refine oneA_diff (x := y) (y := r) (List.mem_append_left _ hy) (by simp) ?_
            rw [hall y hy]; exact hne2
          rw [this] at h
          exact h
  exact ⟨rs.length + 1, key rs [] _ (-1) rfl (by omega) (Or.inl ⟨rfl, rfl⟩)⟩
/-! sums of weights -/
def sm (f : RU → Nat) : List RU → Nat
  | [] => 0
  | r :: l => f r + sm f l
theorem sm_app (f : RU → Nat) (a b : List RU) : sm f (a ++ b) = sm f a + sm f b := by
  induction a with
  | nil => simp [sm]
  | cons r a ih => simp only [List.cons_append, sm, ih]; omega
theorem sm_le {f : RU → Nat} {K : Nat} (h : ∀ r, f r ≤ K) (l : List RU) : sm f l ≤ l.length * K := by
  induction l with
  | nil => simp [sm]
  | cons r l ih =>
    simp only [sm, List.length_cons, Nat.add_mul, Nat.one_mul]
    have := h r
    omega
def wt (op : Nat) (r : RU) : Nat := 2 ^ pc (ndn op (r.1 ||| r.2.1))
def fB (op c : Nat) (r : RU) : Nat := if r.1.testBit c = true then 0 else if r.2.1.testBit c = true then 0 else wt op r
def fY (op c : Nat) (r : RU) : Nat := if r.1.testBit c = true then wt op r else 0
def fN (op c : Nat) (r : RU) : Nat := if r.1.testBit c = true then 0 else if r.2.1.testBit c = true then wt op r else 0
theorem wt_le (op : Nat) (r : RU) : wt op r ≤ 65536 := Nat.pow_le_pow_right (by decide) (pc_le _)
theorem fB_le (op c : Nat) (r : RU) : fB op c r ≤ 65536 := by
  have := wt_le op r
  unfold fB; repeat' split
  all_goals omega
theorem fY_le (op c : Nat) (r : RU) : fY op c r ≤ 65536 := by
  have := wt_le op r
  unfold fY; repeat' split
  all_goals omega
theorem fN_le (op c : Nat) (r : RU) : fN op c r ≤ 65536 := by
  have := wt_le op r
  unfold fN; repeat' split
  all_goals omega
theorem sm_lt {f : RU → Nat} (h : ∀ r, f r ≤ 65536) {l : List RU} (hl : l.length ≤ 256) : sm f l ≤ 16777216 := by
  have := sm_le h l
  have : l.length * 65536 ≤ 256 * 65536 := Nat.mul_le_mul_right _ hl
  omega
/-- by how much holding and failing differ -/
def df (op : Nat) (M : List RU) (c : Nat) : Nat := (sm (fY op c) M - sm (fN op c) M) + (sm (fN op c) M - sm (fY op c) M)
def bet (op : Nat) (M : List RU) (c b : Nat) : Prop := sm (fB op c) M < sm (fB op b) M ∨ sm (fB op c) M = sm (fB op b) M ∧ df op M b < df op M c
theorem i_sa (x y z : Int32) : x - y + z = x + z - y := by
  rw [Int32.sub_eq_add_neg, Int32.sub_eq_add_neg, Int32.add_assoc, Int32.add_assoc, Int32.add_comm (-y) z]
theorem i_ss (x y z : Int32) : x - y - z = x - (y + z) := by
  rw [Int32.sub_eq_add_neg, Int32.sub_eq_add_neg, Int32.sub_eq_add_neg, Int32.neg_add, Int32.add_assoc, Int32.sub_eq_add_neg]
theorem i_ns (x y : Int32) : 0 - (x - y) = y - x := by
  rw [Int32.zero_sub, Int32.neg_sub]
theorem l_sa (x y z : Int64) : x - y + z = x + z - y := by
  rw [Int64.sub_eq_add_neg, Int64.sub_eq_add_neg, Int64.add_assoc, Int64.add_assoc, Int64.add_comm (-y) z]
theorem l_ss (x y z : Int64) : x - y - z = x - (y + z) := by
  rw [Int64.sub_eq_add_neg, Int64.sub_eq_add_neg, Int64.sub_eq_add_neg, Int64.neg_add, Int64.add_assoc, Int64.sub_eq_add_neg]
theorem l_ns (x y : Int64) : -(x - y) = y - x := Int64.neg_sub
