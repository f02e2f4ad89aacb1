/-! THE CLASS'S WAY -/
abbrev RU : Type := Nat × Nat × Nat
/-- the rules of interest stand in the way's rows -/
def wRul (u : ST) (RS : List RU) : Prop := RS.length ≤ 256 ∧ ∀ (k : Nat) (r : RU), RS[k]? = some r → gR u 6 k = nI r.1 ∧ gR u 7 k = nI r.2.1 ∧ gR u 8 k = nI r.2.2
/-- the list at depth d holds these of them -/
def wLst (u : ST) (RS : List RU) (d : Nat) (M : List RU) : Prop := gR u 9 d = nI M.length ∧ M.length ≤ 256 ∧ ∀ (i : Nat) (r : RU), M[i]? = some r → ∃ k, RS[k]? = some r ∧ gR u (16 + d) i = nI k
/-- nothing has changed but weights and what lies deeper than d -/
def wFr (d : Nat) (u v : ST) : Prop := (∀ k, gI v k = gI u k) ∧ (∀ k, gJ v k = gJ u k) ∧ (∀ k, gB v k = gB u k) ∧ (∀ k, gZ v k = gZ u k) ∧ (∀ k, k ≠ 9 → k ≠ 10 → k ≠ 11 → k ≤ 16 + d → gR v k = gR u k) ∧ (∀ i, i ≤ d → gR v 9 i = gR u 9 i)
theorem wFr.rf (d : Nat) (u : ST) : wFr d u u := ⟨fun _ => rfl, fun _ => rfl, fun _ => rfl, fun _ => rfl, fun _ _ _ _ _ => rfl, fun _ _ => rfl⟩
theorem wFr.tr {d : Nat} {u v w : ST} (h : wFr d u v) (g : wFr d v w) : wFr d u w := ⟨fun k => (g.1 k).trans (h.1 k), fun k => (g.2.1 k).trans (h.2.1 k), fun k => (g.2.2.1 k).trans (h.2.2.1 k), fun k => (g.2.2.2.1 k).trans (h.2.2.2.1 k), fun k a b c e => (g.2.2.2.2.1 k a b c e).trans (h.2.2.2.2.1 k a b c e), fun i hi => (g.2.2.2.2.2 i hi).trans (h.2.2.2.2.2 i hi)⟩
theorem wFr.up {d e : Nat} {u v : ST} (h : wFr e u v) (hd : d ≤ e) : wFr d u v := ⟨h.1, h.2.1, h.2.2.1, h.2.2.2.1, fun k a b c f => h.2.2.2.2.1 k a b c (by omega), fun i hi => h.2.2.2.2.2 i (by omega)⟩
theorem wRul.fr {u v : ST} {RS : List RU} {d : Nat} (h : wRul u RS) (g : wFr d u v) : wRul v RS := ⟨h.1, fun k r hk => by rw [g.2.2.2.2.1 6 (by decide) (by decide) (by decide) (by omega), g.2.2.2.2.1 7 (by decide) (by decide) (by decide) (by omega), g.2.2.2.2.1 8 (by decide) (by decide) (by decide) (by omega)]; exact h.2 k r hk⟩
theorem wLst.fr {u v : ST} {RS M : List RU} {d e : Nat} (h : wLst u RS d M) (g : wFr e u v) (hd : d ≤ e) : wLst v RS d M := ⟨(g.2.2.2.2.2 d hd).trans h.1, h.2.1, fun i r hi => by rw [g.2.2.2.2.1 (16 + d) (by omega) (by omega) (by omega) (by omega)]; exact h.2.2 i r hi⟩
theorem at_mid {α : Type} (A : List α) (r : α) (B : List α) : (A ++ r :: B)[A.length]? = some r := by simp
theorem snoc_at {α : Type} {A : List α} {r x : α} {k : Nat} (h : (A ++ [r])[k]? = some x) : k < A.length ∧ A[k]? = some x ∨ k = A.length ∧ x = r := by
  have hk := (List.getElem?_eq_some_iff.mp h).1
  simp at hk
  by_cases e : k = A.length
  · subst e
    simp at h
    exact Or.inr ⟨rfl, h.symm⟩
  · have hlt : k < A.length := by omega
    rw [List.getElem?_append_left hlt] at h
    exact Or.inl ⟨hlt, h⟩
theorem w_stepL {RS M : List RU} {d c k6 : Nat} {sel : RU → Nat} {u0 : ST} {Q : ST → Prop} (hd : d < 16) (hR : RS.length ≤ 256) (hsel : ∀ (k : Nat) (r : RU), RS[k]? = some r → gR u0 k6 k = nI (sel r) ∧ sel r < 2 ^ 16) (h6 : k6 = 6 ∨ k6 = 7) (hL : wLst u0 RS d M) (hQ : ∀ v, wFr d u0 v → wLst v RS (d + 1) (M.filter (fun r => decide ((sel r).testBit c = false))) → Q v) : ∀ (B A : List RU) (f : Nat) (u : ST), M = A ++ B → B.length < f → (∀ k, gI u k = gI u0 k) → (∀ k, gJ u k = gJ u0 k) → (∀ k, gB u k = gB u0 k) → (∀ k, gZ u k = gZ u0 k) → (∀ k, k ≠ 17 + d → gR u k = gR u0 k) → (∀ (i : Nat) (r : RU), (A.filter (fun r => decide ((sel r).testBit c = false)))[i]? = some r → ∃ k, RS[k]? = some r ∧ gR u (17 + d) i = nI k) → wX5_step_L41 Q f (nI d) (nI (2 ^ c)) (16 + d) (17 + d) k6 (nI (A.filter (fun r => decide ((sel r).testBit c = false))).length) (nI A.length) u := by
  intro B
  induction B with
  | nil =>
    intro A f u hM hf aI aJ aB aZ aR aL
    obtain ⟨f, rfl⟩ : ∃ f', f = f' + 1 := ⟨f - 1, by omega⟩
    show wX5_step_B41 (wX5_step_L41 Q f) Q (nI d) (nI (2 ^ c)) (16 + d) (17 + d) k6 _ _ u
    unfold wX5_step_B41
    rw [List.append_nil] at hM
    subst hM
    have h256 := hL.2.1
    rw [cl_nI (by omega), aR 9 (by omega), hL.1, nI_1, cl_nI (by omega)]
    refine ⟨vp_in_nI (by omega) (by omega), pk_le M.length M.length (fun _ => ⟨vp_in_nI (by omega) (by omega), ?_⟩) (fun c => absurd c (by omega))⟩
    have hle := List.length_filter_le (fun r => decide ((sel r).testBit c = false)) M
    refine hQ _ ⟨aI, aJ, aB, aZ, fun k a _ _ e => ?_, fun i hi => ?_⟩ ⟨?_, by omega, fun i r hi => ?_⟩
    · rw [gR_sR, if_neg a]; exact aR k (by omega)
    · rw [gR_sR, if_pos rfl, pk_un (by omega)]; rw [aR 9 (by omega)]
    · rw [gR_sR, if_pos rfl, pk_us]
    · rw [gR_sR, if_neg (by omega)]
      have := aL i r hi
      rw [show 16 + (d + 1) = 17 + d by omega]
      exact this
  | cons r B ih =>
    intro A f u hM hf aI aJ aB aZ aR aL
    obtain ⟨f, rfl⟩ : ∃ f', f = f' + 1 := ⟨f - 1, by omega⟩
    show wX5_step_B41 (wX5_step_L41 Q f) Q (nI d) (nI (2 ^ c)) (16 + d) (17 + d) k6 _ _ u
    unfold wX5_step_B41
    have h256 := hL.2.1
    have hlen : M.length = A.length + (B.length + 1) := by rw [hM]; simp
    have hat : M[A.length]? = some r := by rw [hM]; exact at_mid A r B
    obtain ⟨k, hk, hgk⟩ := hL.2.2 _ _ hat
    have hkl := (List.getElem?_eq_some_iff.mp hk).1
    have hs := hsel k r hk
    have hle := List.length_filter_le (fun r => decide ((sel r).testBit c = false)) A
    rw [cl_nI (show d < 2 ^ 31 by omega), cl_nI (show A.length < 2 ^ 31 by omega), aR 9 (by omega), hL.1, aR (16 + d) (by omega), hgk, cl_nI (show k < 2 ^ 31 by omega), aR k6 (by omega), hs.1, nI_tst hs.2]
    refine ⟨vp_in_nI (by omega) (by omega), pk_le M.length A.length (fun c => absurd c (by omega)) (fun _ => ⟨vp_in_nI (by omega) (by omega), vp_in_nI (by omega) (by omega), fun hb => ?_, fun hb => ⟨vp_in_nI (by omega) (by omega), vp_in_nI (by omega) (by omega), ?_⟩⟩)⟩
    · have hft : (A ++ [r]).filter (fun r => decide ((sel r).testBit c = false)) = A.filter (fun r => decide ((sel r).testBit c = false)) := by
        rw [List.filter_append]; simp [hb]
      unfold wX5_step_b78
      rw [nI_1]
      have := ih (A ++ [r]) f u (by rw [hM]; simp) (by simp at hf; omega) aI aJ aB aZ aR (by rw [hft]; exact aL)
      rw [hft] at this
      rw [show A.length + 1 = (A ++ [r]).length by simp]
      exact this
    · have hft : (A ++ [r]).filter (fun r => decide ((sel r).testBit c = false)) = A.filter (fun r => decide ((sel r).testBit c = false)) ++ [r] := by
        rw [List.filter_append]; simp [hb]
      unfold wX5_step_b78
      rw [nI_1, nI_1, cl_nI (by omega)]
      have := ih (A ++ [r]) f (sR u (17 + d) (A.filter (fun r => decide ((sel r).testBit c = false))).length (nI k)) (by rw [hM]; simp) (by simp at hf; omega) aI aJ aB aZ (fun j hj => by rw [gR_sR, if_neg hj]; exact aR j hj) (by
        rw [hft]
        intro i x hi
        rw [gR_sR, if_pos rfl]
        rcases snoc_at hi with ⟨h1, h2⟩ | ⟨h1, h2⟩
        · rw [pk_un (by omega)]; exact aL i x h2
        · rw [h1, pk_us, h2]; exact ⟨k, hk, rfl⟩)
      rw [hft] at this
      rw [show (A.filter (fun r => decide ((sel r).testBit c = false))).length + 1 = (A.filter (fun r => decide ((sel r).testBit c = false)) ++ [r]).length by simp]
      rw [show A.length + 1 = (A ++ [r]).length by simp]
      exact this
/-- rules with masks of 16 bits -/
def r16 (RS : List RU) : Prop := ∀ r ∈ RS, r.1 < 2 ^ 16 ∧ r.2.1 < 2 ^ 16
theorem w_step0 {RS M : List RU} {d c : Nat} {u : ST} {Q : ST → Prop} (hd : d < 16) (h16 : r16 RS) (hR : wRul u RS) (hL : wLst u RS d M) (hQ : ∀ v, wFr d u v → wLst v RS (d + 1) (M.filter (fun r => decide (r.1.testBit c = false))) → Q v) : wX5_step (nI d) (nI (2 ^ c)) 0 u Q := by
  unfold wX5_step
  rw [nI_1, cl_nI (by omega), cl_nI (by omega)]
  refine ⟨vp_in_nI (by omega) (by omega), vp_in_nI (by omega) (by omega), fun _ => ⟨M.length + 1, ?_⟩, fun c => absurd rfl c⟩
  rw [show 16 + (d + 1) = 17 + d by omega]
  exact w_stepL (sel := fun r => r.1) hd hR.1 (fun k r hk => ⟨(hR.2 k r hk).1, (h16 r (List.mem_of_getElem? hk)).1⟩) (Or.inl rfl) hL hQ M [] (M.length + 1) u rfl (by omega) (fun _ => rfl) (fun _ => rfl) (fun _ => rfl) (fun _ => rfl) (fun _ _ => rfl) (fun i r hi => by simp at hi)
theorem w_step1 {RS M : List RU} {d c : Nat} {u : ST} {Q : ST → Prop} (hd : d < 16) (h16 : r16 RS) (hR : wRul u RS) (hL : wLst u RS d M) (hQ : ∀ v, wFr d u v → wLst v RS (d + 1) (M.filter (fun r => decide (r.2.1.testBit c = false))) → Q v) : wX5_step (nI d) (nI (2 ^ c)) 1 u Q := by
  unfold wX5_step
  rw [nI_1, cl_nI (by omega), cl_nI (by omega)]
  refine ⟨vp_in_nI (by omega) (by omega), vp_in_nI (by omega) (by omega), fun c => absurd c (by decide), fun _ => ⟨M.length + 1, ?_⟩⟩
  rw [show 16 + (d + 1) = 17 + d by omega]
  exact w_stepL (sel := fun r => r.2.1) hd hR.1 (fun k r hk => ⟨(hR.2 k r hk).2.1, (h16 r (List.mem_of_getElem? hk)).2⟩) (Or.inr rfl) hL hQ M [] (M.length + 1) u rfl (by omega) (fun _ => rfl) (fun _ => rfl) (fun _ => rfl) (fun _ => rfl) (fun _ _ => rfl) (fun i r hi => by simp at hi)
theorem flt_H {RS : List RU} {H F c : Nat} : (RS.filter (can H F)).filter (fun r => decide (r.2.1.testBit c = false)) = RS.filter (can (H ||| 2 ^ c) F) := by
  rw [List.filter_filter]
  congr 1
  funext r
  rw [can_H]
theorem flt_F {RS : List RU} {H F c : Nat} : (RS.filter (can H F)).filter (fun r => decide (r.1.testBit c = false)) = RS.filter (can H (F ||| 2 ^ c)) := by
  rw [List.filter_filter]
  congr 1
  funext r
  rw [can_F]
/-! splittingBit -/
theorem w_sbB {m : Nat} {u : ST} {Q : Int32 → ST → Prop} (hm : m < 2 ^ 16) (hm0 : m ≠ 0) (h : ∀ b, b < 16 → m.testBit b = true → (∀ i, b < i → m.testBit i = false) → Q (nI (2 ^ b)) u) : ∀ (f b : Nat), b < f → b < 16 → (∀ i, b < i → m.testBit i = false) → wX5_splittingBit_L68 Q f (nI m) (nI (2 ^ b)) u := by
  intro f
  induction f with
  | zero => intro b h; omega
  | succ f ih =>
    intro b hf hb hi
    show wX5_splittingBit_B68 (wX5_splittingBit_L68 Q f) Q (nI m) (nI (2 ^ b)) u
    unfold wX5_splittingBit_B68
    have hp := pw16 hb
    have hp0 := Nat.two_pow_pos b
    refine ⟨fun c => absurd c (nI_nle hp0 (by omega)), fun _ => ?_⟩
    rw [nI_tst hm]
    refine ⟨fun ht => h b hb (by simpa using ht) hi, fun ht => ?_⟩
    cases b with
    | zero =>
      exfalso
      apply hm0
      apply bitx
      intro i
      rw [Nat.zero_testBit]
      cases i with
      | zero => exact ht
      | succ i => exact hi _ (by omega)
    | succ b =>
      have e : nI (2 ^ (b + 1)) >>> (1 &&& 31) = nI (2 ^ b) := by
        rw [pk_shrN (by omega) (1 &&& 31) 1 (by decide)]
        congr 1
        rw [Nat.pow_succ]
        omega
      rw [e]
      refine ih b (by omega) (by omega) (fun i hib => ?_)
      by_cases he : i = b + 1
      · rw [he]; exact ht
      · exact hi i (by omega)
theorem w_sbL {RS M : List RU} {d op : Nat} {u : ST} {Q : Int32 → ST → Prop} (hd : d ≤ 16) (h16 : r16 RS) (hR : wRul u RS) (hL : wLst u RS d M) (hM : M ≠ []) (ho : op < 2 ^ 16) (h0 : (∃ r ∈ M, (r.1 ||| r.2.1) &&& op = 0) → Q 0 u) (h1 : ∀ b, b < 16 → op.testBit b = true → (∀ r ∈ M, ∀ i, b < i → ((r.1 ||| r.2.1) &&& op).testBit i = false) → Q (nI (2 ^ b)) u) : ∀ (B A : List RU) (f m : Nat), M = A ++ B → B.length < f → (m < 2 ^ 16 ∧ (A ≠ [] → m ≠ 0) ∧ ∀ i, m.testBit i = true → op.testBit i = true) → (∀ r ∈ A, ∀ i, ((r.1 ||| r.2.1) &&& op).testBit i = true → m.testBit i = true) → wX5_splittingBit_L5 Q f (nI d) (nI op) (nI m) (nI A.length) u := by
  intro B
  induction B with
  | nil =>
    intro A f m hMA hf hm hA
    obtain ⟨f, rfl⟩ : ∃ f', f = f' + 1 := ⟨f - 1, by omega⟩
    show wX5_splittingBit_B5 (wX5_splittingBit_L5 Q f) Q (nI d) (nI op) (nI m) (nI A.length) u
    unfold wX5_splittingBit_B5
    rw [List.append_nil] at hMA
    subst hMA
    have h256 := hL.2.1
    rw [cl_nI (by omega), hL.1]
    refine ⟨vp_in_nI (by omega) (by omega), pk_le M.length M.length (fun _ => ⟨16, ?_⟩) (fun c => absurd c (by omega))⟩
    rw [show (32768 : Int32) = nI (2 ^ 15) from rfl]
    refine w_sbB hm.1 (hm.2.1 hM) (fun b hb hbm hbi => h1 b hb (hm.2.2 b hbm) (fun r hr i hi => ?_)) 16 15 (by omega) (by omega) (fun i hi => bit_hi hm.1 (by omega))
    cases ht : ((r.1 ||| r.2.1) &&& op).testBit i
    · rfl
    · have := hA r hr i ht
      rw [hbi i hi] at this
      exact this.symm
  | cons r B ih =>
    intro A f m hMA hf hm hA
    obtain ⟨f, rfl⟩ : ∃ f', f = f' + 1 := ⟨f - 1, by omega⟩
    show wX5_splittingBit_B5 (wX5_splittingBit_L5 Q f) Q (nI d) (nI op) (nI m) (nI A.length) u
    unfold wX5_splittingBit_B5
    have h256 := hL.2.1
    have hlen : M.length = A.length + (B.length + 1) := by rw [hMA]; simp
    have hat : M[A.length]? = some r := by rw [hMA]; exact at_mid A r B
    obtain ⟨k, hk, hgk⟩ := hL.2.2 _ _ hat
    have hkl := (List.getElem?_eq_some_iff.mp hk).1
    have h256' := hR.1
    have hr := hR.2 k r hk
    have hr16 := h16 r (List.mem_of_getElem? hk)
    rw [cl_nI (show d < 2 ^ 31 by omega), cl_nI (show A.length < 2 ^ 31 by omega), hL.1, hgk, cl_nI (show k < 2 ^ 31 by omega), hr.1, hr.2.1, nI_or, nI_and]
    refine ⟨vp_in_nI (by omega) (by omega), pk_le M.length A.length (fun c => absurd c (by omega)) (fun _ => ⟨vp_in_nI (by omega) (by omega), vp_in_nI (by omega) (by omega), vp_in_nI (by omega) (by omega), vp_in_nI (by omega) (by omega), ?_⟩)⟩
    intro x6 e6
    have hlt : (r.1 ||| r.2.1) &&& op < 2 ^ 16 := Nat.lt_of_le_of_lt Nat.and_le_right ho
    rw [e6, nI_is0 (by omega), nI_or, nI_1]
    refine ⟨fun hne => ?_, fun he => h0 ⟨r, List.mem_of_getElem? hat, he⟩⟩
    rw [show A.length + 1 = (A ++ [r]).length by simp]
    refine ih (A ++ [r]) f _ (by rw [hMA]; simp) (by simp at hf; omega) ⟨Nat.or_lt_two_pow hm.1 hlt, fun _ hc => ?_, fun i hi => ?_⟩ (fun x hx i hi => ?_)
    · have := (Nat.or_eq_zero_iff.mp hc).2
      exact hne this
    · rw [Nat.testBit_or, Nat.testBit_and] at hi
      rcases (by simpa using hi : m.testBit i = true ∨ ((r.1 ||| r.2.1).testBit i = true ∧ op.testBit i = true)) with e | e
      · exact hm.2.2 i e
      · exact e.2
    · rw [Nat.testBit_or]
      rcases List.mem_append.mp hx with e | e
      · rw [hA x e i hi]; rfl
      · rw [List.mem_singleton.mp e] at hi
        rw [hi]; simp
theorem w_sb {RS M : List RU} {d op : Nat} {u : ST} {Q : Int32 → ST → Prop} (hd : d ≤ 16) (h16 : r16 RS) (hR : wRul u RS) (hL : wLst u RS d M) (hM : M ≠ []) (ho : op < 2 ^ 16) (h0 : (∃ r ∈ M, (r.1 ||| r.2.1) &&& op = 0) → Q 0 u) (h1 : ∀ b, b < 16 → op.testBit b = true → (∀ r ∈ M, ∀ i, b < i → ((r.1 ||| r.2.1) &&& op).testBit i = false) → Q (nI (2 ^ b)) u) : wX5_splittingBit (nI d) (nI op) u Q :=
  ⟨M.length + 1, w_sbL hd h16 hR hL hM ho h0 h1 M [] (M.length + 1) 0 rfl (by omega) ⟨by decide, fun c => absurd rfl c, fun i hi => by simp at hi⟩ (fun r hr => by cases hr)⟩
/-- a rule here without an open mark meets every case here -/
theorem met_all {nc H F X : Nat} {r : RU} (hn : nc ≤ 16) (hr : r.1 < 2 ^ nc ∧ r.2.1 < 2 ^ nc) (hc : can H F r = true) (ho : (r.1 ||| r.2.1) &&& opn nc H F = 0) (hx : mb H F X = true) : mb r.1 r.2.1 X = true := by
  rw [mb_iff] at hx ⊢
  rw [can_iff] at hc
  rw [and0] at ho
  intro i
  have h1 := ho i
  rw [opn_bit hn, Nat.testBit_or] at h1
  refine ⟨fun hy => ?_, fun hy => ?_⟩
  · have hi := bit_lt hr.1 hy
    have h2 := (hc i).2
    cases hF : F.testBit i
    · cases hH : H.testBit i
      · exact absurd (by simp [hy, hi, hF, hH]) h1
      · exact (hx i).1 hH
    · exact absurd ⟨hy, hF⟩ h2
  · have hi := bit_lt hr.2 hy
    have h2 := (hc i).1
    cases hH : H.testBit i
    · cases hF : F.testBit i
      · exact absurd (by simp [hy, hi, hF, hH]) h1
      · exact (hx i).2 hF
    · exact absurd ⟨hy, hH⟩ h2
