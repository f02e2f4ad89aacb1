/-! THE REFERENCE'S TREE GROWS -/
/-- only nodes and the stack have changed -/
def hFr (u v : ST) : Prop := (∀ k, k ≠ 21 → gI v k = gI u k) ∧ (∀ k, k < 22 ∨ k = 27 ∨ 31 < k → gR v k = gR u k)
theorem hFr.rf (u : ST) : hFr u u := ⟨fun _ _ => rfl, fun _ _ => rfl⟩
theorem hFr.tr {u v w : ST} (h : hFr u v) (g : hFr v w) : hFr u w := ⟨fun k a => (g.1 k a).trans (h.1 k a), fun k a => (g.2 k a).trans (h.2 k a)⟩
theorem hFr.s {u v : ST} (h : hFr u v) {j i : Nat} {x : Int32} (hj : 22 ≤ j ∧ j ≤ 26 ∨ 28 ≤ j ∧ j ≤ 31) : hFr u (sR v j i x) := ⟨h.1, fun k a => by rw [gR_sR, if_neg (by omega)]; exact h.2 k a⟩
theorem hFr.n {u v : ST} (h : hFr u v) {x : Int32} : hFr u (sI v 21 x) := ⟨fun k a => by rw [gI_sI, if_neg a]; exact h.1 k a, h.2⟩
theorem hFr.rul {u v : ST} {rs : List RU} (g : hFr u v) (h : mRul u rs) : mRul v rs := fun k r hk => by rw [g.2 7 (by omega), g.2 8 (by omega), g.2 9 (by omega)]; exact h k r hk
/-- what the reference's stack and links see of a node -/
def lkd (u v : ST) (pr : Option Nat) (s j : Nat) : Prop := gR v 22 j = gR u 22 j ∧ gR v 25 j = gR u 25 j ∧ gR v 26 j = gR u 26 j ∧ gR v 23 j = (if pr = some j ∧ s = j + 1 then nI s else gR u 23 j) ∧ gR v 24 j = (if pr = some j ∧ s ≠ j + 1 then nI s else gR u 24 j)
def stk (u : ST) (w H F d : Nat) (pr : Option Nat) : Prop := gR u 28 w = nI H ∧ gR u 29 w = nI F ∧ gR u 31 w = nI d ∧ gR u 30 w = oI pr
def sameS (u v : ST) (w : Nat) : Prop := ∀ k j, 28 ≤ k → k ≤ 31 → j < w → gR v k j = gR u k j
def nod (v : ST) (s : Nat) (z : RU) : Prop := gR v 22 s = (if z.2.2 = 0 then -1 else nI z.1) ∧ gR v 25 s = (if z.2.2 = 0 then nI (z.1 - 128) else -1) ∧ gR v 26 s = nI z.2.1
theorem r_node {rs : List RU} {nc H F d w s c : Nat} {pr : Option Nat} {u : ST} {K35 : Int32 → ST → Prop} {Q : ST → Prop} (hn : nc ≤ 16) (hB : rB rs) (hl : rs.length ≤ 256) (h11 : gI u 11 = nI nc) (h12 : gI u 12 = nI rs.length) (hT : mRul u rs) (hp : plc nc H F d) (hst : stk u w H F d pr) (hw : w < 38) (hd : d ≤ 16) (h20 : gI u 20 = 1) (h21 : gI u 21 = nI s) (hs : s < 1000) (hpr : ∀ p, pr = some p → p < s)
    (hleaf : ∀ a v, a < 64 → oneA (rs.filter (can H F)) = nI a → hFr u v → gI v 21 = nI (s + 1) → nod v s (128 + a, d, 0) → gR v 23 s = -1 → gR v 24 s = -1 → (∀ j, j < s → lkd u v pr s j) → (∀ k j, 28 ≤ k → k ≤ 31 → gR v k j = gR u k j) → K35 (nI w) v)
    (htest : ∀ v, oneA (rs.filter (can H F)) = -1 → bst (opn nc H F) (rs.filter (can H F)) nc = some c → hFr u v → gI v 21 = nI (s + 1) → (∀ o, o ≠ 0 → nod v s (c, d, o)) → gR v 23 s = -1 → gR v 24 s = -1 → (∀ j, j < s → lkd u v pr s j) → sameS u v w → stk v w H (F ||| 2 ^ c) (d + 1) (some s) → stk v (w + 1) (H ||| 2 ^ c) F (d + 1) (some s) → K35 (nI (w + 2)) v)
    (hone : (∃ a, a < 64 ∧ oneA (rs.filter (can H F)) = nI a) ∨ oneA (rs.filter (can H F)) = -1 ∧ bst (opn nc H F) (rs.filter (can H F)) nc = some c ∧ c < nc) : wX7_grow_B35 K35 Q (nI (w + 1)) u := by
  unfold wX7_grow_B35
  rw [pk_m1, h20, h21, cl_nI (by omega), hst.1, hst.2.1, hst.2.2.1, hst.2.2.2, nI_1]
  have vw : vp_in (nI w) 40 := vp_in_nI (by omega) (by omega)
  refine ⟨fun c => absurd c (nI_nle (by omega) (by omega)), fun _ => ⟨fun c => absurd c (by decide), fun _ => ?_⟩⟩
  -- the node itself, from any state with the link set
  have node : ∀ x : ST, hFr u x → gI x 21 = nI (s + 1) → (∀ j, j < s → lkd u x pr s j) → (∀ k j, 28 ≤ k → k ≤ 31 → gR x k j = gR u k j) → wX7_grow_b158 K35 Q (nI w) (nI H) (nI F) (nI d) (nI s) x := by
    intro x hx x21 xl xs
    unfold wX7_grow_b158
    have v1 : vp_in (nI s) 1000 := vp_in_nI (by omega) (by omega)
    rw [cl_nI (by omega)]
    refine ⟨v1, ?_⟩
    have hx1 : hFr u (sR x 26 s (nI d)) := hx.s (Or.inl (by omega))
    refine r_oneA (rs := rs) ((hx1.1 12 (by decide)).trans h12) hl (hx1.rul hT) hB ⟨v1, v1, ?_⟩
    rw [gR_sR, if_pos rfl, pk_us]
    -- the end of the node
    have fin : ∀ (y : ST) (xs2 : Int32), y = sR (sR (sR (sR (sR x 26 s (nI d)) 25 s (oneA (rs.filter (can H F)))) 22 s xs2) 23 s (-1)) 24 s (-1) → hFr u y ∧ gI y 21 = nI (s + 1) ∧ gR y 22 s = xs2 ∧ gR y 25 s = oneA (rs.filter (can H F)) ∧ gR y 26 s = nI d ∧ gR y 23 s = -1 ∧ gR y 24 s = -1 ∧ (∀ j, j < s → lkd u y pr s j) ∧ (∀ k j, 28 ≤ k → k ≤ 31 → gR y k j = gR u k j) := by
      intro y xs2 hy
      subst hy
      refine ⟨(((hx1.s (Or.inl (by omega))).s (Or.inl (by omega))).s (Or.inl (by omega))).s (Or.inl (by omega)), x21, ?_, ?_, ?_, ?_, ?_, fun j hj => ?_, fun k j h1 h2 => ?_⟩
      · simp only [gR_sR]
        rw [if_neg (by decide), if_neg (by decide), if_pos trivial, pk_us]
      · simp only [gR_sR]
        rw [if_neg (by decide), if_neg (by decide), if_neg (by decide), if_pos trivial, pk_us]
      · simp only [gR_sR]
        rw [if_neg (by decide), if_neg (by decide), if_neg (by decide), if_neg (by decide), if_pos trivial, pk_us]
      · simp only [gR_sR]
        rw [if_neg (by decide), if_pos trivial, pk_us]
      · simp only [gR_sR]
        rw [if_pos trivial, pk_us]
      · have hj' : j ≠ s := by omega
        have := xl j hj
        unfold lkd at this ⊢
        simp only [gR_sR]
        simp only [if_true, reduceIte, Nat.reduceEqDiff]
        rw [pk_un hj', pk_un hj', pk_un hj', pk_un hj', pk_un hj']
        exact this
      · rw [gR_sR, if_neg (by omega), gR_sR, if_neg (by omega), gR_sR, if_neg (by omega), gR_sR, if_neg (by omega), gR_sR, if_neg (by omega)]
        exact xs k j h1 h2
    rcases hone with ⟨a, ha, hoa⟩ | ⟨hm1, hbc, hcn⟩
    · rw [hoa]
      refine ⟨fun _ => ?_, fun c => absurd (nI_pos' (by omega)) c⟩
      unfold wX7_grow_b206
      rw [cl_nI (by omega)]
      refine ⟨v1, v1, v1, v1, ?_⟩
      obtain ⟨f1, f2, f3, f4, f5, f6, f7, f8, f9⟩ := fin _ (-1) rfl
      rw [hoa] at f1 f2 f3 f4 f5 f6 f7 f8 f9
      rw [f3]
      refine ⟨fun _ => hleaf a _ ha hoa f1 f2 ⟨?_, ?_, f5⟩ f6 f7 f8 f9, fun c => absurd (by decide) c⟩
      · rw [f3]; rfl
      · rw [f4]; show nI a = nI (128 + a - 128); rw [show 128 + a - 128 = a by omega]
    · rw [hm1]
      refine ⟨fun c => absurd c (by decide), fun _ => ?_⟩
      have hx2 : hFr u (sR (sR x 26 s (nI d)) 25 s (-1)) := hx1.s (Or.inl (by omega))
      refine r_best (nc := nc) (rs := rs) ((hx2.1 11 (by decide)).trans h11) hn hp.1 hp.2.1 ((hx2.1 12 (by decide)).trans h12) hl (hx2.rul hT) hB ?_
      rw [hbc, show oI (some c) = nI c from rfl]
      unfold wX7_grow_b206
      rw [cl_nI (by omega)]
      refine ⟨v1, v1, v1, v1, ?_⟩
      obtain ⟨f1, f2, f3, f4, f5, f6, f7, f8, f9⟩ := fin _ (nI c) rfl
      rw [hm1] at f1 f2 f3 f4 f5 f6 f7 f8 f9
      rw [f3]
      refine ⟨fun e => absurd e (nI_pos (by omega)), fun _ => ⟨v1, ?_⟩⟩
      intro x7 e7
      have v2 : vp_in (nI (w + 1)) 40 := vp_in_nI (by omega) (by omega)
      rw [e7, nI_pow (by omega), nI_or, nI_or, nI_1, cl_nI (by omega), cl_nI (show w + 1 < 2 ^ 31 by omega)]
      refine ⟨vw, vw, v2, v2, ?_⟩
      generalize hy : sR (sR (sR (sR (sR x 26 s (nI d)) 25 s (-1)) 22 s (nI c)) 23 s (-1)) 24 s (-1) = y at *
      -- the pushed places, and the loop that sets their parents
      have vw0 : vp_in (nI w) 40 := vw
      have eW : nI w + 2 = nI (w + 2) := nI_add w 2
      refine ⟨3, ?_⟩
      show wX7_grow_B285 K35 (wX7_grow_L285 K35 Q 2) Q (nI w) (nI d) (nI s) (nI w) _
      unfold wX7_grow_B285
      rw [eW, nI_1, nI_1, cl_nI (by omega)]
      refine pk_le (w + 2) w (fun c => absurd c (by omega)) (fun _ => ⟨vw, vw, ?_⟩)
      show wX7_grow_B285 K35 (wX7_grow_L285 K35 Q 1) Q (nI w) (nI d) (nI s) (nI (w + 1)) _
      unfold wX7_grow_B285
      rw [eW, nI_1, nI_1, cl_nI (by omega)]
      refine pk_le (w + 2) (w + 1) (fun c => absurd c (by omega)) (fun _ => ⟨v2, v2, ?_⟩)
      show wX7_grow_B285 K35 (wX7_grow_L285 K35 Q 0) Q (nI w) (nI d) (nI s) (nI (w + 1 + 1)) _
      unfold wX7_grow_B285
      rw [eW]
      refine pk_le (w + 2) (w + 1 + 1) (fun _ => ?_) (fun c => absurd c (by omega))
      unfold wX7_grow_b322
      generalize hq : sR (sR (sR (sR (sR (sR (sR (sR y 28 w (nI H)) 29 w (nI (F ||| 2 ^ c))) 28 (w + 1) (nI (H ||| 2 ^ c))) 29 (w + 1) (nI F)) 30 w (nI s)) 31 w (nI (d + 1))) 30 (w + 1) (nI s)) 31 (w + 1) (nI (d + 1)) = q
      have qlo : ∀ k, k < 28 ∨ 31 < k → gR q k = gR y k := by
        intro k hk
        rw [← hq]
        simp only [gR_sR]
        rw [if_neg (by omega), if_neg (by omega), if_neg (by omega), if_neg (by omega), if_neg (by omega), if_neg (by omega), if_neg (by omega), if_neg (by omega)]
      have qI : ∀ k, gI q k = gI y k := by intro k; rw [← hq]; rfl
      have e28 : gR q 28 = upd (upd (gR y 28) w (nI H)) (w + 1) (nI (H ||| 2 ^ c)) := by
        rw [← hq]; simp only [gR_sR]; simp only [if_true, reduceIte, Nat.reduceEqDiff]
      have e29 : gR q 29 = upd (upd (gR y 29) w (nI (F ||| 2 ^ c))) (w + 1) (nI F) := by
        rw [← hq]; simp only [gR_sR]; simp only [if_true, reduceIte, Nat.reduceEqDiff]
      have e30 : gR q 30 = upd (upd (gR y 30) w (nI s)) (w + 1) (nI s) := by
        rw [← hq]; simp only [gR_sR]; simp only [if_true, reduceIte, Nat.reduceEqDiff]
      have e31 : gR q 31 = upd (upd (gR y 31) w (nI (d + 1))) (w + 1) (nI (d + 1)) := by
        rw [← hq]; simp only [gR_sR]; simp only [if_true, reduceIte, Nat.reduceEqDiff]
      have hqF : hFr u q := ⟨fun k hk => by rw [qI]; exact f1.1 k hk, fun k hk => by rw [qlo k (by omega)]; exact f1.2 k hk⟩
      refine htest q hm1 hbc hqF (by rw [qI]; exact f2) (fun o ho => ⟨?_, ?_, ?_⟩) ?_ ?_ (fun j hj => ?_) (fun k j h1 h2 hj => ?_) ⟨?_, ?_, ?_, ?_⟩ ⟨?_, ?_, ?_, ?_⟩
      · rw [qlo 22 (by omega), f3, if_neg ho]
      · rw [qlo 25 (by omega), f4, if_neg ho]
      · rw [qlo 26 (by omega), f5]
      · rw [qlo 23 (by omega), f6]
      · rw [qlo 24 (by omega), f7]
      · have := f8 j hj
        unfold lkd at this ⊢
        rw [qlo 22 (by omega), qlo 23 (by omega), qlo 24 (by omega), qlo 25 (by omega), qlo 26 (by omega)]
        exact this
      · rcases (show k = 28 ∨ k = 29 ∨ k = 30 ∨ k = 31 by omega) with e | e | e | e
        · subst e; rw [e28, pk_un (by omega), pk_un (by omega)]; exact f9 28 j (by omega) (by omega)
        · subst e; rw [e29, pk_un (by omega), pk_un (by omega)]; exact f9 29 j (by omega) (by omega)
        · subst e; rw [e30, pk_un (by omega), pk_un (by omega)]; exact f9 30 j (by omega) (by omega)
        · subst e; rw [e31, pk_un (by omega), pk_un (by omega)]; exact f9 31 j (by omega) (by omega)
      · rw [e28, pk_un (by omega), pk_us]
      · rw [e29, pk_un (by omega), pk_us]
      · rw [e31, pk_un (by omega), pk_us]
      · rw [e30, pk_un (by omega), pk_us]; rfl
      · rw [e28, pk_us]
      · rw [e29, pk_us]
      · rw [e31, pk_us]
      · rw [e30, pk_us]; rfl
  have hu1 : hFr u (sI u 21 (nI (s + 1))) := (hFr.rf u).n
  have e21 : gI (sI u 21 (nI (s + 1))) 21 = nI (s + 1) := by rw [gI_sI, if_pos rfl]
  refine ne_eq s 1000 (fun _ => ⟨vw, vw, vw, vw, ?_⟩) (fun c => absurd c (by omega))
  cases hpc : pr with
  | none =>
    rw [hpc] at node
    refine ⟨fun _ => ?_, fun c => absurd (by decide) c⟩
    unfold wX7_grow_b144
    refine ⟨fun _ => node _ hu1 e21 (fun j hj => ?_) (fun _ _ _ _ => rfl), fun c => absurd (by decide) c⟩
    unfold lkd
    rw [if_neg (fun h => by cases h.1), if_neg (fun h => by cases h.1)]
    exact ⟨rfl, rfl, rfl, rfl, rfl⟩
  | some p =>
    rw [hpc] at node
    have hps := hpr p hpc
    rw [show oI (some p) = nI p from rfl, nI_1]
    have vp : vp_in (nI p) 1000 := vp_in_nI (by omega) (by omega)
    refine ⟨fun c => absurd c (nI_pos (by omega)), fun _ => ne_eq s (p + 1) (fun hne => ?_) (fun he => ⟨vp, ?_⟩)⟩
    · unfold wX7_grow_b144
      refine ⟨fun c => absurd c (nI_pos (by omega)), fun _ => ⟨vp, ?_⟩⟩
      rw [cl_nI (by omega)]
      refine node _ (hu1.s (Or.inl (by omega))) e21 (fun j hj => ?_) (fun k j h1 h2 => by rw [gR_sR, if_neg (by omega)]; rfl)
      unfold lkd
      simp only [gR_sR]
      simp only [if_true, reduceIte, Nat.reduceEqDiff]
      refine ⟨rfl, rfl, rfl, ?_, ?_⟩
      · rw [if_neg (fun h => hne (by rw [Option.some.inj h.1]; exact h.2))]; rfl
      · by_cases hj2 : j = p
        · rw [hj2, pk_us, if_pos ⟨rfl, hne⟩]
        · rw [pk_un hj2, if_neg (fun h => hj2 (Option.some.inj h.1).symm)]; rfl
    · rw [cl_nI (by omega)]
      refine node _ (hu1.s (Or.inl (by omega))) e21 (fun j hj => ?_) (fun k j h1 h2 => by rw [gR_sR, if_neg (by omega)]; rfl)
      unfold lkd
      simp only [gR_sR]
      simp only [if_true, reduceIte, Nat.reduceEqDiff]
      refine ⟨rfl, rfl, rfl, ?_, ?_⟩
      · by_cases hj2 : j = p
        · rw [hj2, pk_us, if_pos ⟨rfl, he⟩]
        · rw [pk_un hj2, if_neg (fun h => hj2 (Option.some.inj h.1).symm)]; rfl
      · rw [if_neg (fun h => h.2 (by rw [← Option.some.inj h.1]; exact he))]; rfl
/-- nodes of the reference from place s on -/
def mTr (u : ST) (s : Nat) (L : List RU) : Prop := ∀ (i : Nat) (z : RU), L[i]? = some z → nod u (s + i) z ∧ gR u 23 (s + i) = (if z.2.2 = 0 then -1 else nI (s + i + 1)) ∧ gR u 24 (s + i) = (if z.2.2 = 0 then -1 else nI (s + i + z.2.2))
theorem mTr_app {u : ST} {s : Nat} {a b : List RU} (h1 : mTr u s a) (h2 : mTr u (s + a.length) b) : mTr u s (a ++ b) := by
  intro i z hi
  rcases Nat.lt_or_ge i a.length with g | g
  · rw [List.getElem?_append_left g] at hi; exact h1 i z hi
  · rw [List.getElem?_append_right g] at hi
    have := h2 _ _ hi
    rw [show s + a.length + (i - a.length) = s + i by omega] at this
    exact this
