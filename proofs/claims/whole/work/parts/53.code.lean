/-! WHAT HOLDS OF A TREE'S LIST -/
def okN (nc len i : Nat) (z : RU) : Prop := (z.2.2 = 0 ∧ 128 ≤ z.1 ∧ z.1 < 192 ∧ z.2.1 ≤ nc) ∨ (0 < z.2.2 ∧ z.1 < nc ∧ z.2.1 < nc ∧ i + z.2.2 < len)
/-- the greatest depth of all nodes -/
def mxA : List RU → Nat → Nat
  | [], m => m
  | z :: L, m => mxA L (max m z.2.1)
theorem mxA_app (a b : List RU) : ∀ m, mxA (a ++ b) m = mxA b (mxA a m) := by
  induction a with
  | nil => intro m; rfl
  | cons z a ih => intro m; simp only [List.cons_append, mxA, ih]
/-- tests of all cases, by leaves -/
def lds (nc : Nat) : List RU → Nat
  | [] => 0
  | z :: L => (if z.2.2 = 0 then z.2.1 * 2 ^ (nc - z.2.1) else 0) + lds nc L
theorem lds_app (nc : Nat) (a b : List RU) : lds nc (a ++ b) = lds nc a + lds nc b := by
  induction a with
  | nil => simp [lds]
  | cons z a ih => simp only [List.cons_append, lds, ih]; omega
theorem tl_facts {rs : List RU} {nc : Nat} (hn : nc ≤ 16) (hRN : rN nc rs) (hB : rB rs) (hs : snd rs nc) : ∀ (g d H F : Nat), nc - d < g → plc nc H F d → (∀ (i : Nat) (z : RU), (tl rs nc g H F d)[i]? = some z → okN nc (tl rs nc g H F d).length i z) ∧ (tl rs nc g H F d).length + 1 = 2 * lvs (tl rs nc g H F d) ∧ (∀ m m', max m' d = max m d → mxA (tl rs nc g H F d) m' = mxd (tl rs nc g H F d) m) ∧ lds nc (tl rs nc g H F d) = tst nc (tl rs nc g H F d) + d * 2 ^ (nc - d) := by
  intro g
  induction g with
  | zero => intro d H F h; omega
  | succ g ih =>
    intro d H F hg hp
    have hdn : d ≤ nc := by have := hp.2.2.2; omega
    rcases tl_step (g := g) hn hRN hB hs hp with ⟨a, ha, hone, e⟩ | ⟨c, ho, hcn, hd, hm1, hc, hpH, hpF, e⟩
    · rw [e]
      refine ⟨fun i z hi => ?_, by simp [lvs], fun m m' hm => ?_, by simp [lds, tst]⟩
      · cases i with
        | zero =>
          simp at hi
          subst hi
          exact Or.inl ⟨rfl, by simp, by simp; omega, hdn⟩
        | succ i => simp at hi
      · simp [mxA, mxd, hm]
    · obtain ⟨t1, t2, t3, t4⟩ := ih (d + 1) (H ||| 2 ^ c) F (by omega) hpH
      obtain ⟨e1, e2, e3, e4⟩ := ih (d + 1) H (F ||| 2 ^ c) (by omega) hpF
      rw [e]
      generalize tl rs nc g (H ||| 2 ^ c) F (d + 1) = T at *
      generalize tl rs nc g H (F ||| 2 ^ c) (d + 1) = E at *
      have o0 : ¬ T.length + 1 = 0 := by omega
      have hE1 : 1 ≤ E.length := by omega
      refine ⟨fun i z hi => ?_, ?_, fun m m' hm => ?_, ?_⟩
      · cases i with
        | zero =>
          simp at hi
          subst hi
          exact Or.inr ⟨by simp, hcn, hd, by simp; omega⟩
        | succ i =>
          simp only [List.getElem?_cons_succ] at hi
          simp only [List.length_cons, List.length_append]
          rcases Nat.lt_or_ge i T.length with q | q
          · rw [List.getElem?_append_left q] at hi
            rcases t1 i z hi with h | h
            · exact Or.inl h
            · exact Or.inr ⟨h.1, h.2.1, h.2.2.1, by omega⟩
          · rw [List.getElem?_append_right q] at hi
            rcases e1 _ z hi with h | h
            · exact Or.inl h
            · exact Or.inr ⟨h.1, h.2.1, h.2.2.1, by omega⟩
      · simp only [lvs, lvs_app, List.length_cons, List.length_append]
        rw [if_neg o0]; omega
      · simp only [mxA, mxd, mxA_app, mxd_app]
        rw [if_neg o0, t3 m (max m' d) (by omega), e3 _ _ rfl]
      · simp only [lds, tst, lds_app, tst_app]
        rw [if_neg o0, if_neg o0, t4, e4]
        have h2 : 2 ^ (nc - d) = 2 ^ (nc - (d + 1)) + 2 ^ (nc - (d + 1)) := by
          rw [show nc - d = nc - (d + 1) + 1 by omega, Nat.pow_succ]; omega
        rw [h2, Nat.mul_add, Nat.add_mul]
        omega
/-! PLACES IN THE CODE -/
def szN (z : RU) : Nat := if z.2.2 = 0 then 1 else 3
def pls : List RU → Nat → Nat
  | [], _ => 0
  | _ :: _, 0 => 0
  | z :: L, i + 1 => szN z + pls L i
theorem pls_0 (L : List RU) : pls L 0 = 0 := by cases L <;> rfl
theorem pls_s : ∀ (L : List RU) (i : Nat) (z : RU), L[i]? = some z → pls L (i + 1) = pls L i + szN z := by
  intro L
  induction L with
  | nil => intro i z h; simp at h
  | cons y L ih =>
    intro i z h
    cases i with
    | zero =>
      simp at h
      subst h
      show szN y + pls L 0 = 0 + szN y
      rw [pls_0]; omega
    | succ i =>
      simp at h
      show szN y + pls L (i + 1) = szN y + pls L i + szN z
      rw [ih i z h]; omega
theorem pls_mono {L : List RU} : ∀ (j i : Nat), i ≤ j → j ≤ L.length → pls L i ≤ pls L j := by
  intro j
  induction j with
  | zero => intro i h _; rw [show i = 0 by omega]; exact Nat.le_refl _
  | succ j ih =>
    intro i h hj
    by_cases he : i = j + 1
    · rw [he]; exact Nat.le_refl _
    · obtain ⟨z, hz⟩ : ∃ z, L[j]? = some z := ⟨_, List.getElem?_eq_getElem (by omega)⟩
      rw [pls_s L j z hz]
      have := ih i (by omega) (by omega)
      omega
def csz (L : List RU) : Nat := pls L L.length
theorem csz_lvs : ∀ (L : List RU), csz L + 2 * lvs L = 3 * L.length := by
  intro L
  induction L with
  | nil => rfl
  | cons z L ih =>
    unfold csz at ih ⊢
    simp only [List.length_cons, pls, lvs]
    unfold szN
    split <;> omega
/-- the code in a row, of the first k nodes -/
def cdK (R : Nat → Int32) (L : List RU) (k : Nat) : Prop := ∀ (i : Nat) (z : RU), i < k → L[i]? = some z → R (pls L i) = nI z.1 ∧ (z.2.2 ≠ 0 → R (pls L i + 1) = nI (pls L (i + z.2.2) / 256) ∧ R (pls L i + 2) = nI (pls L (i + z.2.2) % 256))
theorem cdK_s {R R' : Nat → Int32} {L : List RU} {k : Nat} {z : RU} (h : cdK R L k) (hz : L[k]? = some z) (hlo : ∀ q, q < pls L k → R' q = R q) (h1 : R' (pls L k) = nI z.1) (h2 : z.2.2 ≠ 0 → R' (pls L k + 1) = nI (pls L (k + z.2.2) / 256) ∧ R' (pls L k + 2) = nI (pls L (k + z.2.2) % 256)) : cdK R' L (k + 1) := by
  have hkl := (List.getElem?_eq_some_iff.mp hz).1
  intro i y hi hy
  by_cases he : i = k
  · subst he
    rw [hz] at hy
    rw [← Option.some.inj hy]
    exact ⟨h1, h2⟩
  · have hsz := pls_s L i y hy
    have hm := pls_mono (L := L) k (i + 1) (by omega) (by omega)
    have := h i y (by omega) hy
    unfold szN at hsz
    by_cases h0 : y.2.2 = 0
    · rw [if_pos h0] at hsz
      exact ⟨by rw [hlo _ (by omega)]; exact this.1, fun c => absurd h0 c⟩
    · rw [if_neg h0] at hsz
      refine ⟨by rw [hlo _ (by omega)]; exact this.1, fun _ => ?_⟩
      rw [hlo _ (by omega), hlo _ (by omega)]
      exact this.2 h0
/-- every place of the code belongs to a node -/
theorem cd_node {L : List RU} : ∀ (k q : Nat), k ≤ L.length → q < pls L k → ∃ i z, i < k ∧ L[i]? = some z ∧ (q = pls L i ∨ z.2.2 ≠ 0 ∧ (q = pls L i + 1 ∨ q = pls L i + 2)) := by
  intro k
  induction k with
  | zero => intro q _ h; rw [pls_0] at h; omega
  | succ k ih =>
    intro q hk h
    obtain ⟨z, hz⟩ : ∃ z, L[k]? = some z := ⟨_, List.getElem?_eq_getElem (by omega)⟩
    rcases Nat.lt_or_ge q (pls L k) with g | g
    · obtain ⟨i, y, h1, h2, h3⟩ := ih q (by omega) g
      exact ⟨i, y, by omega, h2, h3⟩
    · rw [pls_s L k z hz] at h
      refine ⟨k, z, by omega, hz, ?_⟩
      unfold szN at h
      split at h
      · left; omega
      · rename_i h0
        rcases (show q = pls L k ∨ q = pls L k + 1 ∨ q = pls L k + 2 by omega) with e | e
        · exact Or.inl e
        · exact Or.inr ⟨h0, e⟩
theorem cd_eq {R R' : Nat → Int32} {L : List RU} (h : cdK R L L.length) (h' : cdK R' L L.length) {q : Nat} (hq : q < csz L) : R q = R' q := by
  obtain ⟨i, z, hi, hz, hc⟩ := cd_node L.length q (Nat.le_refl _) hq
  have a := h i z hi hz
  have b := h' i z hi hz
  rcases hc with e | ⟨h0, e | e⟩
  · rw [e, a.1, b.1]
  · rw [e, (a.2 h0).1, (b.2 h0).1]
  · rw [e, (a.2 h0).2, (b.2 h0).2]
/-- a list that is a tree's, or none -/
def okL (nc : Nat) (L : List RU) : Prop := (∀ (i : Nat) (z : RU), L[i]? = some z → okN nc L.length i z) ∧ L.length ≤ 1000 ∧ csz L ≤ 1997
theorem sh8 {p : Nat} (h : p < 2 ^ 31) : nI p >>> (8 &&& 31) = nI (p / 256) := pk_shrN h (8 &&& 31) 8 (by decide)
theorem an255 (p : Nat) : nI p &&& 255 = nI (p % 256) := nI_andm p 8 (by decide) (by decide)
/-! THE CLASS WRITES -/
/-- only the code has changed -/
def coF (u v : ST) : Prop := (∀ k, k ≠ 21 → gI v k = gI u k) ∧ (∀ k, gJ v k = gJ u k) ∧ (∀ k, gB v k = gB u k) ∧ (∀ k, gZ v k = gZ u k) ∧ (∀ k, k ≠ 14 → k ≠ 15 → gR v k = gR u k)
theorem coF.rf (u : ST) : coF u u := ⟨fun _ _ => rfl, fun _ => rfl, fun _ => rfl, fun _ => rfl, fun _ _ _ => rfl⟩
theorem coF.tr {u v w : ST} (h : coF u v) (g : coF v w) : coF u w := ⟨fun k a => (g.1 k a).trans (h.1 k a), fun k => (g.2.1 k).trans (h.2.1 k), fun k => (g.2.2.1 k).trans (h.2.2.1 k), fun k => (g.2.2.2.1 k).trans (h.2.2.2.1 k), fun k a b => (g.2.2.2.2 k a b).trans (h.2.2.2.2 k a b)⟩
theorem coF.s {u v : ST} (h : coF u v) {j i : Nat} {x : Int32} (hj : j = 14 ∨ j = 15) : coF u (sR v j i x) := ⟨h.1, h.2.1, h.2.2.1, h.2.2.2.1, fun k a b => by rw [gR_sR, if_neg (by omega)]; exact h.2.2.2.2 k a b⟩
theorem coF.n {u v : ST} (h : coF u v) {x : Int32} : coF u (sI v 21 x) := ⟨fun k a => by rw [gI_sI, if_neg a]; exact h.1 k a, h.2.1, h.2.2.1, h.2.2.2.1, h.2.2.2.2⟩
theorem s_isLeaf {nc : Nat} {L : List RU} {u : ST} {k : Nat} {z : RU} {Q : Int32 → ST → Prop} (hok : okL nc L) (hT : cTr u 0 L) (hk : L[k]? = some z) (yes : z.2.2 = 0 → Q 1 u) (no : z.2.2 ≠ 0 → gR u 13 k = nI (k + z.2.2) → k + z.2.2 < L.length → Q 0 u) : wX4_isLeaf (nI k) u Q := by
  have hkl := (List.getElem?_eq_some_iff.mp hk).1
  have h1000 := hok.2.1
  have ht := hT k z hk
  rw [Nat.zero_add] at ht
  unfold wX4_isLeaf
  rw [cl_nI (by omega), ht.2]
  refine ⟨vp_in_nI (by omega) (by omega), fun hne => ?_, fun he => ?_⟩
  · by_cases h0 : z.2.2 = 0
    · rw [if_pos h0] at hne; exact absurd rfl hne
    · rw [if_neg h0] at ht
      rcases hok.1 k z hk with h | h
      · exact absurd h.1 h0
      · exact no h0 ht.2 h.2.2.2
  · by_cases h0 : z.2.2 = 0
    · exact yes h0
    · rw [if_neg h0] at he
      rcases hok.1 k z hk with h | h
      · exact absurd h.1 h0
      · exact absurd he.symm (m1_ne _ (by omega))
theorem cTr.co {u v : ST} {s : Nat} {L : List RU} (h : cTr u s L) (g : coF u v) : cTr v s L := fun i z hi => by rw [g.2.2.2.2 12 (by decide) (by decide), g.2.2.2.2 13 (by decide) (by decide)]; exact h i z hi
theorem s_setPl {nc : Nat} {L : List RU} {u0 : ST} {Q : ST → Prop} (hok : okL nc L) (hT : cTr u0 0 L) (h17 : gI u0 17 = nI L.length) (hQ : ∀ v, coF u0 v → (∀ k, k < L.length → gR v 15 k = nI (pls L k)) → Q v) : wX0_setPlaces u0 Q := by
  have h1000 := hok.2.1
  have key : ∀ (f k : Nat) (u : ST), L.length - k < f → k ≤ L.length → coF u0 u → (∀ j, j < k → gR u 15 j = nI (pls L j)) → wX0_setPlaces_L4 Q f (nI (pls L k)) (nI k) u := by
    intro f
    induction f with
    | zero => intro k u h; omega
    | succ f ih =>
      intro k u hf hk hF hp
      show wX0_setPlaces_B4 (wX0_setPlaces_L4 Q f) Q (nI (pls L k)) (nI k) u
      unfold wX0_setPlaces_B4
      rw [hF.1 17 (by decide), h17]
      refine pk_le L.length k (fun hge => hQ u hF (fun j hj => hp j (by omega))) (fun hlt => ?_)
      obtain ⟨z, hz⟩ : ∃ z, L[k]? = some z := ⟨_, List.getElem?_eq_getElem hlt⟩
      rw [cl_nI (by omega)]
      refine ⟨vp_in_nI (by omega) (by omega), ?_⟩
      have hF1 : coF u0 (sR u 15 k (nI (pls L k))) := hF.s (Or.inr rfl)
      have go : ∀ n, szN z = n → wX0_setPlaces_b33 (wX0_setPlaces_L4 Q f) Q (nI k) (nI (pls L k)) (nI n) (sR u 15 k (nI (pls L k))) := by
        intro n hn'
        unfold wX0_setPlaces_b33
        rw [nI_add, nI_1, ← hn', ← pls_s L k z hz]
        refine ih (k + 1) _ (by omega) (by omega) hF1 (fun j hj => ?_)
        rw [gR_sR, if_pos rfl]
        by_cases he : j = k
        · rw [he, pk_us]
        · rw [pk_un he]; exact hp j (by omega)
      exact s_isLeaf hok (hT.co hF1) hz (fun h0 => ⟨fun c => absurd c (by decide), fun _ => go 1 (by unfold szN; rw [if_pos h0])⟩) (fun h0 _ _ => ⟨fun _ => go 3 (by unfold szN; rw [if_neg h0]), fun c => absurd rfl c⟩)
  have := key (L.length + 1) 0 u0 (by omega) (by omega) (coF.rf u0) (fun j hj => by omega)
  rw [pls_0] at this
  exact ⟨L.length + 1, this⟩
theorem s_app {u : ST} {q : Nat} {x : Int32} {Q : ST → Prop} (h21 : gI u 21 = nI q) (hq : q < 2000) (h : Q (sI (sR u 14 q x) 21 (nI (q + 1)))) : wX0_append x u Q := by
  unfold wX0_append
  rw [gI_sR, h21, cl_nI (by omega), nI_1]
  exact pk_le 2000 q (fun c => absurd c (by omega)) (fun _ => ⟨vp_in_nI hq (by omega), h⟩)
theorem s_write {nc : Nat} {L : List RU} {u0 : ST} {Q : ST → Prop} (hok : okL nc L) (hT : cTr u0 0 L) (h17 : gI u0 17 = nI L.length) (hQ : ∀ v, coF u0 v → gI v 21 = nI (csz L) → cdK (gR v 14) L L.length → Q v) : wX0_write u0 Q := by
  have h1000 := hok.2.1
  have h1997 := hok.2.2
  unfold wX0_write
  refine s_setPl hok hT h17 (fun u1 hF1 hpl => ?_)
  have key : ∀ (f k : Nat) (u : ST), L.length - k < f → k ≤ L.length → coF u0 u → (∀ j, j < L.length → gR u 15 j = nI (pls L j)) → gI u 21 = nI (pls L k) → cdK (gR u 14) L k → wX0_write_L12 Q f (nI k) u := by
    intro f
    induction f with
    | zero => intro k u h; omega
    | succ f ih =>
      intro k u hf hk hF hp h21 hcd
      show wX0_write_B12 (wX0_write_L12 Q f) Q (nI k) u
      unfold wX0_write_B12
      rw [hF.1 17 (by decide), h17]
      refine pk_le L.length k (fun hge => ?_) (fun hlt => ?_)
      · rw [show k = L.length by omega] at h21 hcd
        exact hQ u hF h21 hcd
      · obtain ⟨z, hz⟩ : ∃ z, L[k]? = some z := ⟨_, List.getElem?_eq_getElem hlt⟩
        have ht := (hT.co hF) k z hz
        rw [Nat.zero_add] at ht
        have hsz := pls_s L k z hz
        have hms := pls_mono (L := L) L.length (k + 1) (by omega) (Nat.le_refl _)
        have hcs : pls L L.length = csz L := rfl
        rw [cl_nI (by omega), ht.1]
        refine ⟨vp_in_nI (by omega) (by omega), ?_⟩
        have hsz1 : 1 ≤ szN z := by unfold szN; split <;> omega
        refine s_app h21 (by omega) ?_
        generalize hu2 : sI (sR u 14 (pls L k) (nI z.1)) 21 (nI (pls L k + 1)) = u2
        have hF2 : coF u0 u2 := by rw [← hu2]; exact (hF.s (Or.inl rfl)).n
        have e14 : gR u2 14 = upd (gR u 14) (pls L k) (nI z.1) := by rw [← hu2, gR_sI, gR_sR, if_pos rfl]
        have e15 : gR u2 15 = gR u 15 := by rw [← hu2, gR_sI, gR_sR, if_neg (by decide)]
        have e21 : gI u2 21 = nI (pls L k + 1) := by rw [← hu2, gI_sI, if_pos rfl]
        refine s_isLeaf hok (hT.co hF2) hz (fun h0 => ⟨fun _ => ?_, fun c => absurd c (by decide)⟩) (fun h0 h13 hko => ⟨fun c => absurd rfl c, fun _ => ?_⟩)
        · unfold wX0_write_b67
          rw [nI_1]
          have hz1 : szN z = 1 := by unfold szN; rw [if_pos h0]
          refine ih (k + 1) u2 (by omega) (by omega) hF2 (fun j hj => by rw [e15]; exact hp j hj) (by rw [e21, hsz, hz1]) (cdK_s hcd hz (fun q hq => by rw [e14, pk_un (by omega)]) (by rw [e14, pk_us]) (fun c => absurd h0 c))
        · have hz3 : szN z = 3 := by unfold szN; rw [if_neg h0]
          have hpo := pls_mono (L := L) L.length (k + z.2.2) (by omega) (Nat.le_refl _)
          rw [h13, cl_nI (by omega)]
          refine ⟨vp_in_nI (by omega) (by omega), vp_in_nI (by omega) (by omega), ?_⟩
          intro x3 ex
          rw [e15, hp _ hko] at ex
          rw [ex, sh8 (by omega), an255]
          refine s_app e21 (by omega) ?_
          refine s_app (q := pls L k + 2) (by rw [gI_sI, if_pos rfl]) (by omega) ?_
          unfold wX0_write_b67
          rw [nI_1]
          generalize hu3 : sI (sR (sI (sR u2 14 (pls L k + 1) (nI (pls L (k + z.2.2) / 256))) 21 (nI (pls L k + 1 + 1))) 14 (pls L k + 2) (nI (pls L (k + z.2.2) % 256))) 21 (nI (pls L k + 2 + 1)) = u3
          have hF3 : coF u0 u3 := by rw [← hu3]; exact (((hF2.s (Or.inl rfl)).n).s (Or.inl rfl)).n
          have f14 : gR u3 14 = upd (upd (upd (gR u 14) (pls L k) (nI z.1)) (pls L k + 1) (nI (pls L (k + z.2.2) / 256))) (pls L k + 2) (nI (pls L (k + z.2.2) % 256)) := by
            rw [← hu3, gR_sI, gR_sR, if_pos rfl, gR_sI, gR_sR, if_pos rfl, e14]
          have f15 : gR u3 15 = gR u 15 := by rw [← hu3, gR_sI, gR_sR, if_neg (by decide), gR_sI, gR_sR, if_neg (by decide), e15]
          refine ih (k + 1) u3 (by omega) (by omega) hF3 (fun j hj => by rw [f15]; exact hp j hj) ?_ (cdK_s hcd hz (fun q hq => by rw [f14, pk_un (by omega), pk_un (by omega), pk_un (by omega)]) (by rw [f14, pk_un (by omega), pk_un (by omega), pk_us]) (fun _ => ?_))
          · rw [← hu3, gI_sI, if_pos rfl, hsz, hz3]
          · rw [f14]
            exact ⟨by rw [pk_un (by omega), pk_us], by rw [pk_us]⟩
  refine ⟨L.length + 1, key (L.length + 1) 0 _ (by omega) (by omega) hF1.n (fun j hj => hpl j hj) (by rw [gI_sI, if_pos rfl, pls_0]; rfl) (fun i z hi => by omega)⟩
