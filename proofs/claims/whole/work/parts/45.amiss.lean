/-! START -/
/-- only the way has changed -/
def wayF (u v : ST) : Prop := (∀ k, k ≠ 16 → gI v k = gI u k) ∧ (∀ k, gJ v k = gJ u k) ∧ (∀ k, gB v k = gB u k) ∧ (∀ k, gZ v k = gZ u k) ∧ (∀ k, k < 6 ∨ 11 < k ∧ k < 16 → gR v k = gR u k)
theorem wayF.tr {u v w : ST} (h : wayF u v) (g : wayF v w) : wayF u w := ⟨fun k a => (g.1 k a).trans (h.1 k a), fun k => (g.2.1 k).trans (h.2.1 k), fun k => (g.2.2.1 k).trans (h.2.2.1 k), fun k => (g.2.2.2.1 k).trans (h.2.2.2.1 k), fun k a => (g.2.2.2.2 k a).trans (h.2.2.2.2 k a)⟩
theorem wayF.rf (u : ST) : wayF u u := ⟨fun _ _ => rfl, fun _ => rfl, fun _ => rfl, fun _ => rfl, fun _ _ => rfl⟩
theorem wFr.way {d : Nat} {u v : ST} (h : wFr d u v) : wayF u v := ⟨fun k _ => h.1 k, h.2.1, h.2.2.1, h.2.2.2.1, fun k hk => h.2.2.2.2.1 k (by omega) (by omega) (by omega) (by omega)⟩
theorem cTb.way {u v : ST} {t : Nat} {cs as : List (List Nat)} {rs : List RU} (ht : t < 2) (h : cTb u t cs rs as) (g : wayF u v) : cTb v t cs rs as := ⟨h.1.congr (g.1 _ (by omega)) (g.2.2.1 _), h.2.1.congr (g.1 _ (by omega)) (g.2.2.1 _), (g.1 _ (by omega)).trans h.2.2.1, h.2.2.2.1, fun k r hk => by rw [g.2.2.2.2 _ (by omega), g.2.2.2.2 _ (by omega), g.2.2.2.2 _ (by omega)]; exact h.2.2.2.2 k r hk⟩
theorem s_startL {t : Nat} {u0 : ST} {cs as : List (List Nat)} {rs : List RU} {x2 : Int32} {p : RU → Bool} {Q : ST → Prop} (ht : t < 2) (hT : cTb u0 t cs rs as) (hp : ∀ r ∈ rs, (p r = true ↔ (x2 = -1 ∨ nI r.2.2 = x2))) (hQ : ∀ v, wayF u0 v → gI v 16 = gI u0 16 → wRul v (rs.filter p) → wLst v (rs.filter p) 0 (rs.filter p) → Q v) : ∀ (B A : List RU) (f : Nat) (u : ST), rs = A ++ B → B.length < f → wayF u0 u → gI u 16 = gI u0 16 → (∀ (k : Nat) (r : RU), (A.filter p)[k]? = some r → gR u 6 k = nI r.1 ∧ gR u 7 k = nI r.2.1 ∧ gR u 8 k = nI r.2.2 ∧ gR u 16 k = nI k) → wX5_start_L15 Q f t x2 (nI (A.filter p).length) (nI A.length) u := by
  intro B
  induction B with
  | nil =>
    intro A f u hM hf hF h16 aL
    obtain ⟨f, rfl⟩ : ∃ f', f = f' + 1 := ⟨f - 1, by omega⟩
    show wX5_start_B15 (wX5_start_L15 Q f) Q t x2 _ _ u
    unfold wX5_start_B15
    rw [List.append_nil] at hM
    subst hM
    have h256 := hT.2.2.2.1
    have hle := List.length_filter_le p rs
    rw [(hT.way ht hF).2.2.1]
    refine pk_le rs.length rs.length (fun _ => ⟨vp_in_nI (n := 0) (by omega) (by omega), ?_⟩) (fun c => absurd c (by omega))
    refine hQ _ ⟨hF.1, hF.2.1, hF.2.2.1, hF.2.2.2.1, fun k hk => ?_⟩ h16 ⟨by omega, fun k r hk => ?_⟩ ⟨?_, by omega, fun i r hi => ⟨i, hi, ?_⟩⟩
    · rw [gR_sR, if_neg (by omega)]; exact hF.2.2.2.2 k hk
    · rw [gR_sR, if_neg (by decide), gR_sR, if_neg (by decide), gR_sR, if_neg (by decide)]
      have := aL k r hk
      exact ⟨this.1, this.2.1, this.2.2.1⟩
    · rw [gR_sR, if_pos rfl]; exact pk_us
    · rw [gR_sR, if_neg (by decide)]; exact (aL i r hi).2.2.2
  | cons r B ih =>
    intro A f u hM hf hF h16 aL
    obtain ⟨f, rfl⟩ : ∃ f', f = f' + 1 := ⟨f - 1, by omega⟩
    show wX5_start_B15 (wX5_start_L15 Q f) Q t x2 _ _ u
    unfold wX5_start_B15
    have h256 := hT.2.2.2.1
    have hlen : rs.length = A.length + (B.length + 1) := by rw [hM]; simp
    have hat : rs[A.length]? = some r := by rw [hM]; exact at_mid A r B
    have hle := List.length_filter_le p A
    have hTu := hT.way ht hF
    have hr := hTu.2.2.2.2 _ _ hat
    have hpr := hp r (List.mem_of_getElem? hat)
    rw [hTu.2.2.1, cl_nI (by omega), hr.2.2]
    have vA : vp_in (nI A.length) 256 := vp_in_nI (by omega) (by omega)
    have yes : p r = true → wX5_start_b40 (wX5_start_L15 Q f) Q t x2 (nI (A.filter p).length) (nI A.length) u := by
      intro hy
      have hft : (A ++ [r]).filter p = A.filter p ++ [r] := by rw [List.filter_append]; simp [hy]
      unfold wX5_start_b40 wX5_start_b91
      have vB : vp_in (nI (A.filter p).length) 256 := vp_in_nI (by omega) (by omega)
      refine ⟨vA, vB, vA, vB, vA, vB, vp_in_nI (n := 0) (by omega) (by omega), vB, ?_⟩
      rw [nI_1, nI_1, cl_nI (by omega), cl_nI (by omega)]
      simp only [gR_sR]
      rw [if_neg (show ¬ 3 * t + 1 = 6 by omega), if_neg (show ¬ 3 * t + 2 = 7 by omega), if_neg (show ¬ 3 * t + 2 = 6 by omega), hr.1, hr.2.1, hr.2.2]
      have := ih (A ++ [r]) f (sR (sR (sR (sR u 6 (A.filter p).length (nI r.1)) 7 (A.filter p).length (nI r.2.1)) 8 (A.filter p).length (nI r.2.2)) 16 (A.filter p).length (nI (A.filter p).length)) (by rw [hM]; simp) (by simp at hf; omega) ⟨hF.1, hF.2.1, hF.2.2.1, hF.2.2.2.1, fun k hk => by
        rw [gR_sR, if_neg (by omega), gR_sR, if_neg (by omega), gR_sR, if_neg (by omega), gR_sR, if_neg (by omega)]; exact hF.2.2.2.2 k hk⟩ h16 (by
        rw [hft]
        intro k x hk
        simp only [gR_sR]
        rw [if_neg (by decide), if_neg (by decide), if_neg (by decide), if_pos trivial, if_neg (by decide), if_neg (by decide), if_pos trivial, if_neg (by decide), if_neg (by decide), if_pos trivial, if_neg (by decide), if_neg (by decide), if_pos trivial, if_neg (by decide), if_neg (by decide), if_neg (by decide)]
        rcases snoc_at hk with ⟨h1, h2⟩ | ⟨h1, h2⟩
        · rw [pk_un (by omega), pk_un (by omega), pk_un (by omega), pk_un (by omega)]; exact aL k x h2
        · rw [h1, h2, pk_us, pk_us, pk_us, pk_us]; exact ⟨rfl, rfl, rfl, rfl⟩)
      rw [hft] at this
      rw [show (A.filter p).length + 1 = (A.filter p ++ [r]).length by simp, show A.length + 1 = (A ++ [r]).length by simp]
      exact this
    have no : p r = false → wX5_start_b91 (wX5_start_L15 Q f) Q t x2 (nI (A.filter p).length) (nI A.length) u := by
      intro hy
      have hft : (A ++ [r]).filter p = A.filter p := by rw [List.filter_append]; simp [hy]
      unfold wX5_start_b91
      rw [nI_1]
      have := ih (A ++ [r]) f u (by rw [hM]; simp) (by simp at hf; omega) hF h16 (by rw [hft]; exact aL)
      rw [hft] at this
      rw [show A.length + 1 = (A ++ [r]).length by simp]
      exact this
    refine pk_le rs.length A.length (fun c => absurd c (by omega)) (fun _ => ⟨fun hx => yes (hpr.mpr (Or.inl hx)), fun hx => ⟨vA, fun hne => no ?_, fun he => yes (hpr.mpr (Or.inr he))⟩⟩)
    cases hy : p r
    · rfl
    · rcases hpr.mp hy with e | e
      · exact absurd e hx
      · exact absurd e hne
theorem s_start {t : Nat} {u : ST} {cs as : List (List Nat)} {rs : List RU} {x2 : Int32} {p : RU → Bool} {Q : ST → Prop} (ht : t < 2) (hT : cTb u t cs rs as) (hp : ∀ r ∈ rs, (p r = true ↔ (x2 = -1 ∨ nI r.2.2 = x2))) (hQ : ∀ v, wayF u v → gI v 16 = nI (2 ^ cs.length - 1) → wRul v (rs.filter p) → wLst v (rs.filter p) 0 (rs.filter p) → Q v) : wX5_start t x2 u Q := by
  unfold wX5_start wX2_caseCount
  have hc := hT.1.2.1
  rw [lenL_c ht] at hc
  rw [hT.1.1, nI_pow (by omega)]
  dsimp only
  rw [show (1 : Int32) = nI 1 from rfl, pk_sub Nat.one_le_two_pow]
  have hw : wayF u (sI u 16 (nI (2 ^ cs.length - 1))) := ⟨fun k hk => by rw [gI_sI, if_neg hk], fun _ => rfl, fun _ => rfl, fun _ => rfl, fun _ _ => rfl⟩
  refine ⟨rs.length + 1, s_startL (u0 := sI u 16 (nI (2 ^ cs.length - 1))) ht (hT.way ht hw) hp (fun v hv h16 hR hL => hQ v (hw.tr hv) (by rw [h16, gI_sI, if_pos rfl]) hR hL) rs [] (rs.length + 1) _ rfl (by omega) (wayF.rf _) rfl (fun k r hk => by simp at hk)⟩
/-! CONTRADICTIONS -/
def ctd (a b : RU) : Bool := !decide (a.2.2 = b.2.2) && (decide (a.1 &&& b.2.1 = 0) && decide (a.2.1 &&& b.1 = 0))
def Cat (rs : List RU) (i j : Nat) : Prop := ∃ a b, rs[i]? = some a ∧ rs[j]? = some b ∧ ctd a b = true
/-- the first contradiction -/
def fstC (rs : List RU) (i j : Nat) : Prop := i < j ∧ Cat rs i j ∧ (∀ j', i < j' → j' < j → ¬ Cat rs i j') ∧ ∀ i' j', i' < i → i' < j' → ¬ Cat rs i' j'
def noC (rs : List RU) : Prop := ∀ i j, i < j → ¬ Cat rs i j
theorem fstC_uniq {rs : List RU} {i j i' j' : Nat} (h : fstC rs i j) (h' : fstC rs i' j') : i = i' ∧ j = j' := by
  have hi : i = i' := by
    rcases Nat.lt_trichotomy i i' with g | g | g
    · exact absurd h.2.1 (h'.2.2.2 i j g h.1)
    · exact g
    · exact absurd h'.2.1 (h.2.2.2 i' j' g h'.1)
  subst hi
  refine ⟨rfl, ?_⟩
  rcases Nat.lt_trichotomy j j' with g | g | g
  · exact absurd h.2.1 (h'.2.2.1 j h.1 g)
  · exact g
  · exact absurd h'.2.1 (h.2.2.1 j' h'.1 g)
theorem fstC_noC {rs : List RU} {i j : Nat} (h : fstC rs i j) (g : noC rs) : False := g i j h.1 h.2.1
theorem Cat_lt {rs : List RU} {i j : Nat} (h : Cat rs i j) : i < rs.length ∧ j < rs.length := by
  obtain ⟨a, b, ha, hb, -⟩ := h
  exact ⟨(List.getElem?_eq_some_iff.mp ha).1, (List.getElem?_eq_some_iff.mp hb).1⟩
theorem Cat_at {rs : List RU} {i j : Nat} {a b : RU} (ha : rs[i]? = some a) (hb : rs[j]? = some b) : Cat rs i j ↔ ctd a b = true := by
  constructor
  · rintro ⟨a', b', h1, h2, h3⟩
    rw [ha] at h1; rw [hb] at h2
    rw [Option.some.inj h1, Option.some.inj h2]; exact h3
  · intro h
    exact ⟨a, b, ha, hb, h⟩
/-- numbers of a rule within bounds -/
def rB (rs : List RU) : Prop := ∀ r ∈ rs, r.1 < 2 ^ 16 ∧ r.2.1 < 2 ^ 16 ∧ r.2.2 < 64
/-- contradict(i, j), in both programs' order of tests -/
theorem ctd_wp {a b : RU} {x y z w p q : Int32} {A B C D : Prop} (ha : a.1 < 2 ^ 16 ∧ a.2.1 < 2 ^ 16 ∧ a.2.2 < 64) (hb : b.1 < 2 ^ 16 ∧ b.2.1 < 2 ^ 16 ∧ b.2.2 < 64) (hp : p = nI a.2.2) (hq : q = nI b.2.2) (hx : x = nI a.1) (hy : y = nI b.2.1) (hz : z = nI a.2.1) (hw : w = nI b.1) (v1 : A) (v2 : B) (no : ctd a b = false → C) (yes : ctd a b = true → D) : (A ∧ (B ∧ ((p = q → C) ∧ (¬ p = q → (A ∧ (B ∧ ((¬ (x &&& y) = 0 → C) ∧ ((x &&& y) = 0 → (A ∧ (B ∧ ((¬ (z &&& w) = 0 → C) ∧ ((z &&& w) = 0 → D)))))))))))) := by
  subst hp hq hx hy hz hw
  rw [n_eq (by omega) (by omega), nI_and, nI_and, nI_is0 (Nat.lt_of_le_of_lt Nat.and_le_left (by omega)), nI_is0 (Nat.lt_of_le_of_lt Nat.and_le_left (by omega))]
  refine ⟨v1, v2, fun e => no (by unfold ctd; simp [e]), fun e1 => ⟨v1, v2, fun e => no (by unfold ctd; simp [e]), fun e2 => ⟨v1, v2, fun e => no (by unfold ctd; simp [e]), fun e3 => yes (by unfold ctd; simp [e1, e2, e3])⟩⟩⟩
theorem s_ctd17 {t i : Nat} {u : ST} {cs as : List (List Nat)} {rs : List RU} {K2 : Int32 → ST → Prop} {Q : Int32 → ST → Prop} (hz : gZ u 0 = t) (ht : t < 2) (hT : cTb u t cs rs as) (hB : rB rs) (hi : i < rs.length) (hc : (∀ j', i < j' → ¬ Cat rs i j') → K2 (nI (i + 1)) u) (hf : ∀ j a b, i < j → rs[i]? = some a → rs[j]? = some b → Cat rs i j → (∀ j', i < j' → j' < j → ¬ Cat rs i j') → Q 1 (sI (sI (sI u 2 (nI i)) 3 (nI j)) 4 (nI (a.1 ||| b.1)))) : ∀ (f j : Nat), rs.length - j < f → i < j → j ≤ rs.length → (∀ j', i < j' → j' < j → ¬ Cat rs i j') → wX6_findContradiction_L17 K2 Q f (nI i) (nI j) u := by
  intro f
  induction f with
  | zero => intro j h; omega
  | succ f ih =>
    intro j hfj hij hj hno
    show wX6_findContradiction_B17 K2 (wX6_findContradiction_L17 K2 Q f) Q (nI i) (nI j) u
    unfold wX6_findContradiction_B17
    have h256 := hT.2.2.2.1
    rw [hz, hT.2.2.1]
    refine ⟨ht, pk_le rs.length j (fun hge => ?_) (fun hlt => ?_)⟩
    · rw [nI_1]
      exact hc (fun j' h1 h2 => by have := (Cat_lt h2).2; exact hno j' h1 (by omega) h2)
    · obtain ⟨a, ha⟩ : ∃ a, rs[i]? = some a := ⟨_, List.getElem?_eq_getElem hi⟩
      obtain ⟨b, hb⟩ : ∃ b, rs[j]? = some b := ⟨_, List.getElem?_eq_getElem hlt⟩
      have ra := hT.2.2.2.2 i a ha
      have rb := hT.2.2.2.2 j b hb
      refine ⟨ht, ?_⟩
      unfold wX2_contradict
      rw [cl_nI (show i < 2 ^ 31 by omega), cl_nI (show j < 2 ^ 31 by omega)]
      refine ctd_wp (hB a (List.mem_of_getElem? ha)) (hB b (List.mem_of_getElem? hb)) ra.2.2 rb.2.2 ra.1 rb.2.1 ra.2.1 rb.1 (vp_in_nI (by omega) (by omega)) (vp_in_nI (by omega) (by omega)) (fun hn => ⟨fun _ => ?_, fun c => absurd rfl c⟩) (fun hy => ⟨fun c => absurd c (by decide), fun _ => ?_⟩)
      · rw [nI_1]
        refine ih (j + 1) (by omega) (by omega) (by omega) (fun j' h1 h2 => ?_)
        by_cases he : j' = j
        · rw [he, Cat_at ha hb, hn]; decide
        · exact hno j' h1 (by omega)
      · have hz2 : gZ (sI (sI u 2 (nI i)) 3 (nI j)) 0 = t := hz
        rw [hz2]
        refine ⟨ht, vp_in_nI (by omega) (by omega), ht, vp_in_nI (by omega) (by omega), ?_⟩
        rw [gR_sI, gR_sI, ra.1, rb.1, nI_or]
        exact hf j a b hij ha hb ((Cat_at ha hb).mpr hy) hno
theorem s_ctd {t : Nat} {u : ST} {cs as : List (List Nat)} {rs : List RU} {Q : Int32 → ST → Prop} (hz : gZ u 0 = t) (ht : t < 2) (hT : cTb u t cs rs as) (hB : rB rs) (hf : ∀ i j a b, rs[i]? = some a → rs[j]? = some b → fstC rs i j → Q 1 (sI (sI (sI u 2 (nI i)) 3 (nI j)) 4 (nI (a.1 ||| b.1)))) (hn : noC rs → Q 0 u) : wX6_findContradiction u Q := by
  have key : ∀ (f i : Nat), rs.length - i < f → i ≤ rs.length → (∀ i' j', i' < i → i' < j' → ¬ Cat rs i' j') → wX6_findContradiction_L2 Q f (nI i) u := by
    intro f
    induction f with
    | zero => intro i h; omega
    | succ f ih =>
      intro i hfi hi hno
      show wX6_findContradiction_B2 (wX6_findContradiction_L2 Q f) Q (nI i) u
      unfold wX6_findContradiction_B2
      have h256 := hT.2.2.2.1
      rw [hz, hT.2.2.1]
      refine ⟨ht, pk_le rs.length i (fun hge => hn (fun i' j' h1 h2 => ?_)) (fun hlt => ⟨rs.length + 1, ?_⟩)⟩
      · have := (Cat_lt h2).1
        exact hno i' j' (by omega) h1 h2
      · rw [nI_1]
        refine s_ctd17 hz ht hT hB hlt (fun hall => ih (i + 1) (by omega) (by omega) (fun i' j' h1 h2 => ?_)) (fun j a b hij ha hb hC hj => hf i j a b ha hb ⟨hij, hC, hj, hno⟩) (rs.length + 1) (i + 1) (by omega) (by omega) (by omega) (fun j' h1 h2 => by omega)
        by_cases he : i' = i
        · rw [he]; exact hall j' (by omega)
        · exact hno i' j' (by omega) h2
  exact ⟨rs.length + 1, key _ 0 (by omega) (by omega) (fun i' j' h => by omega)⟩
/-! THE REFERENCE JUDGES -/
theorem r_ctd44 {i : Nat} {u : ST} {rs : List RU} {K32 : Int32 → ST → Prop} {Q : Int32 → ST → Prop} (h12 : gI u 12 = nI rs.length) (hl : rs.length ≤ 256) (hT : mRul u rs) (hB : rB rs) (hi : i < rs.length) (hc : (∀ j', i < j' → ¬ Cat rs i j') → K32 (nI (i + 1)) u) (hf : ∀ j a b, i < j → rs[i]? = some a → rs[j]? = some b → Cat rs i j → (∀ j', i < j' → j' < j → ¬ Cat rs i j') → Q 1 (sI (sI (sI u 17 (nI i)) 18 (nI j)) 19 (nI (a.1 ||| b.1)))) : ∀ (f j : Nat), rs.length - j < f → i < j → j ≤ rs.length → (∀ j', i < j' → j' < j → ¬ Cat rs i j') → wX7_judge_L44 K32 Q f (nI i) (nI j) u := by
  intro f
  induction f with
  | zero => intro j h; omega
  | succ f ih =>
    intro j hfj hij hj hno
    show wX7_judge_B44 K32 (wX7_judge_L44 K32 Q f) Q (nI i) (nI j) u
    unfold wX7_judge_B44
    rw [h12]
    refine pk_le rs.length j (fun hge => ?_) (fun hlt => ?_)
    · rw [nI_1]
      exact hc (fun j' h1 h2 => by have := (Cat_lt h2).2; exact hno j' h1 (by omega) h2)
    · obtain ⟨a, ha⟩ : ∃ a, rs[i]? = some a := ⟨_, List.getElem?_eq_getElem hi⟩
      obtain ⟨b, hb⟩ : ∃ b, rs[j]? = some b := ⟨_, List.getElem?_eq_getElem hlt⟩
      have ra := hT i a ha
      have rb := hT j b hb
      rw [cl_nI (show i < 2 ^ 31 by omega), cl_nI (show j < 2 ^ 31 by omega)]
      have v1 : vp_in (nI i) 512 := vp_in_nI (by omega) (by omega)
      have v2 : vp_in (nI j) 512 := vp_in_nI (by omega) (by omega)
      refine ctd_wp (hB a (List.mem_of_getElem? ha)) (hB b (List.mem_of_getElem? hb)) ra.2.2 rb.2.2 ra.1 rb.2.1 ra.2.1 rb.1 v1 v2 (fun hn => ?_) (fun hy => ⟨v1, v2, ?_⟩)
      · unfold wX7_judge_b128
        rw [nI_1]
        refine ih (j + 1) (by omega) (by omega) (by omega) (fun j' h1 h2 => ?_)
        by_cases he : j' = j
        · rw [he, Cat_at ha hb, hn]; decide
        · exact hno j' h1 (by omega)
      · rw [gR_sI, gR_sI, ra.1, rb.1, nI_or]
        exact hf j a b hij ha hb ((Cat_at ha hb).mpr hy) hno
/-- the number of the first rule that meets -/
def fmF (X : Nat) : List RU → Nat → Int32
  | [], _ => -1
  | r :: l, k => if mb r.1 r.2.1 X = true then nI k else fmF X l (k + 1)
theorem fmF_neg {X : Nat} : ∀ (l : List RU) (k : Nat), k + l.length < 2 ^ 31 → (0 ≤ fmF X l k ↔ ¬ gapA l X) := by
  intro l
  induction l with
  | nil => intro k _; exact ⟨fun h => absurd (show (0 : Int32) ≤ -1 from h) (by decide), fun h => absurd (fun x hx => by cases hx) h⟩
  | cons r l ih =>
    intro k hk
    simp only [List.length_cons] at hk
    unfold fmF
    cases hm : mb r.1 r.2.1 X
    · rw [if_neg (by decide), ih (k + 1) (by omega)]
      constructor
      · intro h g
        exact h (fun x hx => g x (List.mem_cons_of_mem _ hx))
      · intro h g
        refine h (fun x hx => ?_)
        rcases List.mem_cons.mp hx with e | e
        · rw [e]; exact hm
        · exact g x e
    · rw [if_pos rfl]
      refine ⟨fun _ g => ?_, fun _ => nI_pos' (by omega)⟩
      have := g r List.mem_cons_self
      rw [hm] at this
      cases this
/-- is rule A.length met: both programs' order of tests -/
theorem mb_wp {y n X : Nat} {a b c : Int32} {V A B : Prop} (hy : y < 2 ^ 16) (hn : n < 2 ^ 16) (hX : X < 2 ^ 31) (ha : a = nI X) (hb : b = nI y) (hc : c = nI n) (v : V) (no : mb y n X = false → A) (yes : mb y n X = true → B) : V ∧ (V ∧ ((¬ (a &&& b) = b → A) ∧ ((a &&& b) = b → (V ∧ ((¬ (a &&& c) = 0 → A) ∧ ((a &&& c) = 0 → B)))))) := by
  subst ha hb hc
  rw [nI_and, nI_and, n_eq (Nat.lt_of_le_of_lt Nat.and_le_right (by omega)) (by omega), nI_is0 (Nat.lt_of_le_of_lt Nat.and_le_right (by omega))]
  refine ⟨v, v, fun e => no (by unfold mb; simp [e]), fun e1 => ⟨v, fun e => no (by unfold mb; simp [e]), fun e2 => yes (by unfold mb; simp [e1, e2])⟩⟩
theorem r_isMet {u : ST} {rs : List RU} {k X : Nat} {r : RU} {Q : Int32 → ST → Prop} (hl : rs.length ≤ 256) (hT : mRul u rs) (hB : rB rs) (hk : rs[k]? = some r) (hX : X < 2 ^ 31) (no : mb r.1 r.2.1 X = false → Q 0 u) (yes : mb r.1 r.2.1 X = true → Q 1 u) : wX7_isMet (nI k) (nI X) u Q := by
  have hkl := (List.getElem?_eq_some_iff.mp hk).1
  have hr := hT k r hk
  have hb := hB r (List.mem_of_getElem? hk)
  unfold wX7_isMet
  rw [cl_nI (by omega)]
  exact mb_wp hb.1 hb.2.1 hX rfl hr.1 hr.2.1 (vp_in_nI (by omega) (by omega)) no yes
theorem r_firstMet {u : ST} {rs : List RU} {X : Nat} {Q : Int32 → ST → Prop} (h12 : gI u 12 = nI rs.length) (hl : rs.length ≤ 256) (hT : mRul u rs) (hB : rB rs) (hX : X < 2 ^ 31) (h : Q (fmF X rs 0) u) : wX7_firstMet (nI X) u Q := by
  have key : ∀ (B A : List RU) (f : Nat), rs = A ++ B → B.length < f → Q (fmF X B A.length) u → wX7_firstMet_L2 Q f (nI X) (nI A.length) u := by
    intro B
    induction B with
    | nil =>
      intro A f hM hf hQ
      obtain ⟨f, rfl⟩ : ∃ f', f = f' + 1 := ⟨f - 1, by omega⟩
      show wX7_firstMet_B2 (wX7_firstMet_L2 Q f) Q (nI X) (nI A.length) u
      rw [List.append_nil] at hM
      subst hM
      unfold wX7_firstMet_B2
      rw [h12]
      refine pk_le rs.length rs.length (fun _ => ?_) (fun c => absurd c (by omega))
      unfold wX7_firstMet_b25
      rw [h12]
      exact pk_le rs.length rs.length (fun _ => hQ) (fun c => absurd c (by omega))
    | cons r B ih =>
      intro A f hM hf hQ
      obtain ⟨f, rfl⟩ : ∃ f', f = f' + 1 := ⟨f - 1, by omega⟩
      show wX7_firstMet_B2 (wX7_firstMet_L2 Q f) Q (nI X) (nI A.length) u
      have hlen : rs.length = A.length + (B.length + 1) := by rw [hM]; simp
      have hat : rs[A.length]? = some r := by rw [hM]; exact at_mid A r B
      unfold wX7_firstMet_B2
      rw [h12]
      refine pk_le rs.length A.length (fun c => absurd c (by omega)) (fun _ => ?_)
      refine r_isMet hl hT hB hat hX (fun hm => ⟨fun c => absurd rfl c, fun _ => ?_⟩) (fun hm => ⟨fun _ => ?_, fun c => absurd c (by decide)⟩)
      · rw [nI_1, show A.length + 1 = (A ++ [r]).length by simp]
        refine ih (A ++ [r]) f (by rw [hM]; simp) (by simp at hf; omega) ?_
        unfold fmF at hQ
        rw [hm] at hQ
        simpa using hQ
      · unfold wX7_firstMet_b25
        rw [h12]
        refine pk_le rs.length A.length (fun c => absurd c (by omega)) (fun _ => ?_)
        unfold fmF at hQ
        rw [if_pos hm] at hQ
        exact hQ
  exact ⟨rs.length + 1, key rs [] _ rfl (by omega) h⟩
/-- the reference's judge, up to the tree -/
theorem r_judge {u : ST} {cs as : List (List Nat)} {rs : List RU} {nc : Nat} {Q : Int32 → ST → Prop} (hT : mTab u cs rs as) (hl : rs.length ≤ 256) (hnc : cs.length = nc) (hn : nc ≤ 16) (hB : rB rs)
    (hf : ∀ i j a b v, rs[i]? = some a → rs[j]? = some b → fstC rs i j → v = sI (sI (sI (sI (sI (sI u 17 (-1)) 18 (-1)) 19 (-1)) 20 0) 21 0) 33 0 → Q 1 (sI (sI (sI v 17 (nI i)) 18 (nI j)) 19 (nI (a.1 ||| b.1))))
    (hg : ∀ X v, noC rs → X < 2 ^ nc → gapA rs X → (∀ X', X' < X → ¬ gapA rs X') → v = sI (sI (sI (sI (sI (sI u 17 (-1)) 18 (-1)) 19 (-1)) 20 0) 21 0) 33 0 → Q 2 (sI v 19 (nI X)))
    (ht : ∀ v, noC rs → (∀ X, X < 2 ^ nc → ¬ gapA rs X) → v = sI (sI (sI (sI (sI (sI u 17 (-1)) 18 (-1)) 19 (-1)) 20 0) 21 0) 33 0 → wX7_grow v (fun u_4 => (((gI u_4 20) = 0 → Q 3 u_4) ∧ (¬ (gI u_4 20) = 0 → Q 0 u_4)))) : wX7_judge u Q := by
  unfold wX7_judge
  generalize hv : sI (sI (sI (sI (sI (sI u 17 (-1)) 18 (-1)) 19 (-1)) 20 0) 21 0) 33 0 = v
  have g11 : gI v 11 = nI nc := by rw [← hv, ← hnc]; exact hT.2.1
  have g12 : gI v 12 = nI rs.length := by rw [← hv]; exact hT.2.2.1
  have hR : mRul v rs := by rw [← hv]; exact hT.2.2.2.2.2.2
  have h216 := p16 hn
  have gaps : noC rs → ∀ (f X : Nat), 2 ^ nc - X < f → X ≤ 2 ^ nc → (∀ X', X' < X → ¬ gapA rs X') → wX7_judge_L142 Q f (nI X) v := by
    intro hno f
    induction f with
    | zero => intro X h; omega
    | succ f ih =>
      intro X hf hX hall
      show wX7_judge_B142 (wX7_judge_L142 Q f) Q (nI X) v
      unfold wX7_judge_B142 wX7_allCases
      rw [g11, nI_pow (by omega)]
      refine pk_le (2 ^ nc) X (fun hge => ht v hno (fun X' hX' => hall X' (by omega)) hv.symm) (fun hlt => ?_)
      refine r_firstMet g12 hl hR hB (by omega) ?_
      have hfm := fmF_neg (X := X) rs 0 (by omega)
      refine ⟨fun hp => ?_, fun hp => hg X v hno hlt ?_ hall hv.symm⟩
      · rw [nI_1]
        refine ih (X + 1) (by omega) (by omega) (fun X' hX' => ?_)
        by_cases he : X' = X
        · rw [he]; exact hfm.mp hp
        · exact hall X' (by omega)
      · apply Classical.byContradiction
        intro h
        exact hp (hfm.mpr h)
  have key : ∀ (f i : Nat), rs.length - i < f → i ≤ rs.length → (∀ i' j', i' < i → i' < j' → ¬ Cat rs i' j') → wX7_judge_L32 Q f (nI i) v := by
    intro f
    induction f with
    | zero => intro i h; omega
    | succ f ih =>
      intro i hfi hi hno
      show wX7_judge_B32 (wX7_judge_L32 Q f) Q (nI i) v
      unfold wX7_judge_B32
      rw [g12]
      refine pk_le rs.length i (fun hge => ⟨2 ^ nc + 1, gaps (fun i' j' h1 h2 => ?_) (2 ^ nc + 1) 0 (Nat.lt_succ_self _) (Nat.zero_le _) (fun X' h => by omega)⟩) (fun hlt => ⟨rs.length + 1, ?_⟩)
      · have := (Cat_lt h2).1
        exact hno i' j' (by omega) h1 h2
      · rw [nI_1]
        refine r_ctd44 g12 hl hR hB hlt (fun hall => ih (i + 1) (by omega) (by omega) (fun i' j' h1 h2 => ?_)) (fun j a b hij ha hb hC hj => hf i j a b v ha hb ⟨hij, hC, hj, hno⟩ hv.symm) (rs.length + 1) (i + 1) (by omega) (by omega) (by omega) (fun j' h1 h2 => by omega)
        by_cases he : i' = i
        · rw [he]; exact hall j' (by omega)
        · exact hno i' j' (by omega) h2
  exact ⟨rs.length + 1, key _ 0 (by omega) (by omega) (fun i' j' h => by omega)⟩
