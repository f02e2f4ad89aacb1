/-! WHAT A TABLE IS FOUND TO BE -/
def outc (rs : List RU) (nc : Nat) (r : Int32) (L : List RU) (x2 x3 x4 : Int32) : Prop :=
  (∃ i j a b, rs[i]? = some a ∧ rs[j]? = some b ∧ fstC rs i j ∧ r = 1 ∧ L = [] ∧ x2 = nI i ∧ x3 = nI j ∧ x4 = nI (a.1 ||| b.1)) ∨
  (∃ X, noC rs ∧ X < 2 ^ nc ∧ gapA rs X ∧ (∀ X', X' < X → ¬ gapA rs X') ∧ r = 2 ∧ L = [] ∧ x2 = -1 ∧ x3 = -1 ∧ x4 = nI X) ∨
  (snd rs nc ∧ 1000 < (tree rs nc).length ∧ r = 3 ∧ L = [] ∧ x2 = -1 ∧ x3 = -1 ∧ x4 = -1) ∨
  (snd rs nc ∧ (tree rs nc).length ≤ 1000 ∧ r = 0 ∧ L = tree rs nc ∧ x2 = -1 ∧ x3 = -1 ∧ x4 = -1)
theorem outc_uniq {rs : List RU} {nc : Nat} {r r' : Int32} {L L' : List RU} {x2 x3 x4 y2 y3 y4 : Int32} (h : outc rs nc r L x2 x3 x4) (h' : outc rs nc r' L' y2 y3 y4) : r = r' ∧ L = L' ∧ x2 = y2 ∧ x3 = y3 ∧ x4 = y4 := by
  rcases h with ⟨i, j, a, b, ha, hb, hf, e1, e2, e3, e4, e5⟩ | ⟨X, hn, hX, hg, hm, e1, e2, e3, e4, e5⟩ | ⟨hs, hl, e1, e2, e3, e4, e5⟩ | ⟨hs, hl, e1, e2, e3, e4, e5⟩
  · rcases h' with ⟨i', j', a', b', ha', hb', hf', f1, f2, f3, f4, f5⟩ | ⟨X', hn', -⟩ | ⟨hs', -⟩ | ⟨hs', -⟩
    · obtain ⟨ei, ej⟩ := fstC_uniq hf hf'
      subst ei ej
      rw [ha] at ha'
      rw [hb] at hb'
      rw [← Option.some.inj ha', ← Option.some.inj hb'] at f5
      exact ⟨by rw [e1, f1], by rw [e2, f2], by rw [e3, f3], by rw [e4, f4], by rw [e5, f5]⟩
    · exact absurd hn' (fun g => fstC_noC hf g)
    · exact absurd hs'.1 (fun g => fstC_noC hf g)
    · exact absurd hs'.1 (fun g => fstC_noC hf g)
  · rcases h' with ⟨i', j', a', b', ha', hb', hf', -⟩ | ⟨X', hn', hX', hg', hm', f1, f2, f3, f4, f5⟩ | ⟨hs', -⟩ | ⟨hs', -⟩
    · exact absurd hn (fun g => fstC_noC hf' g)
    · have : X = X' := by
        rcases Nat.lt_trichotomy X X' with g | g | g
        · exact absurd hg (hm' X g)
        · exact g
        · exact absurd hg' (hm X' g)
      subst this
      exact ⟨by rw [e1, f1], by rw [e2, f2], by rw [e3, f3], by rw [e4, f4], by rw [e5, f5]⟩
    · exact absurd hg (hs'.2 X hX)
    · exact absurd hg (hs'.2 X hX)
  · rcases h' with ⟨i', j', a', b', ha', hb', hf', -⟩ | ⟨X', hn', hX', hg', hm', -⟩ | ⟨hs', hl', f1, f2, f3, f4, f5⟩ | ⟨hs', hl', -⟩
    · exact absurd hs.1 (fun g => fstC_noC hf' g)
    · exact absurd hg' (hs.2 X' hX')
    · exact ⟨by rw [e1, f1], by rw [e2, f2], by rw [e3, f3], by rw [e4, f4], by rw [e5, f5]⟩
    · omega
  · rcases h' with ⟨i', j', a', b', ha', hb', hf', -⟩ | ⟨X', hn', hX', hg', hm', -⟩ | ⟨hs', hl', -⟩ | ⟨hs', hl', f1, f2, f3, f4, f5⟩
    · exact absurd hs.1 (fun g => fstC_noC hf' g)
    · exact absurd hg' (hs.2 X' hX')
    · omega
    · exact ⟨by rw [e1, f1], by rw [e2, f2], by rw [e3, f3], by rw [e4, f4], by rw [e5, f5]⟩
theorem okL_nil (nc : Nat) : okL nc [] := ⟨fun i z h => by simp at h, by simp, by show (0 : Nat) ≤ 1997; omega⟩
theorem okL_tree {rs : List RU} {nc : Nat} (hn : nc ≤ 16) (hRN : rN nc rs) (hB : rB rs) (hs : snd rs nc) (hl : (tree rs nc).length ≤ 1000) : okL nc (tree rs nc) := by
  have hf := tl_facts hn hRN hB hs (nc + 1) 0 0 0 (by omega) (plc_0 hn)
  have hc := csz_lvs (tree rs nc)
  have h2 : (tree rs nc).length + 1 = 2 * lvs (tree rs nc) := hf.2.1
  exact ⟨hf.1, hl, by omega⟩
theorem tree_pos {rs : List RU} {nc : Nat} (hn : nc ≤ 16) (hRN : rN nc rs) (hB : rB rs) (hs : snd rs nc) : 1 ≤ (tree rs nc).length := tl_pos hn hRN hB hs (plc_0 hn)
theorem outc_ok {rs : List RU} {nc : Nat} {r : Int32} {L : List RU} {x2 x3 x4 : Int32} (hn : nc ≤ 16) (hRN : rN nc rs) (hB : rB rs) (h : outc rs nc r L x2 x3 x4) : okL nc L ∧ (L.length ≠ 0 → snd rs nc ∧ L = tree rs nc) := by
  rcases h with ⟨i, j, a, b, ha, hb, hf, e1, e2, -⟩ | ⟨X, hn', hX, hg, hm, e1, e2, -⟩ | ⟨hs, hl, e1, e2, -⟩ | ⟨hs, hl, e1, e2, -⟩
  · subst e2; exact ⟨okL_nil nc, fun c => absurd rfl c⟩
  · subst e2; exact ⟨okL_nil nc, fun c => absurd rfl c⟩
  · subst e2; exact ⟨okL_nil nc, fun c => absurd rfl c⟩
  · subst e2; exact ⟨okL_tree hn hRN hB hs hl, fun _ => ⟨hs, rfl⟩⟩
/-! THE CLASS JUDGES -/
/-- nothing else has changed -/
def jF (u v : ST) : Prop := (∀ k, k < 2 ∨ 4 < k ∧ k < 16 ∨ 21 < k → gI v k = gI u k) ∧ (∀ k, gB v k = gB u k) ∧ (∀ k, gZ v k = gZ u k) ∧ (∀ k, k < 6 → gR v k = gR u k)
theorem jF.rf (u : ST) : jF u u := ⟨fun _ _ => rfl, fun _ => rfl, fun _ => rfl, fun _ _ => rfl⟩
theorem jF.tr {u v w : ST} (h : jF u v) (g : jF v w) : jF u w := ⟨fun k a => (g.1 k a).trans (h.1 k a), fun k => (g.2.1 k).trans (h.2.1 k), fun k => (g.2.2.1 k).trans (h.2.2.1 k), fun k a => (g.2.2.2 k a).trans (h.2.2.2 k a)⟩
theorem jF.s {u v : ST} (h : jF u v) {j : Nat} {x : Int32} (hj : 2 ≤ j ∧ j ≤ 4 ∨ 16 ≤ j ∧ j ≤ 21) : jF u (sI v j x) := ⟨fun k a => by rw [gI_sI, if_neg (by omega)]; exact h.1 k a, h.2.1, h.2.2.1, h.2.2.2⟩
theorem jF.j {u v : ST} (h : jF u v) {j : Nat} {x : Int64} : jF u (sJ v j x) := ⟨h.1, h.2.1, h.2.2.1, h.2.2.2⟩
theorem wayF.jf {u v : ST} (h : wayF u v) : jF u v := ⟨fun k a => h.1 k (by omega), h.2.2.1, h.2.2.2.1, fun k a => h.2.2.2.2 k (Or.inl a)⟩
theorem gFr.jf {u v : ST} (h : gFr 0 u v) : jF u v := ⟨fun k a => h.1 k (by omega), h.2.2.1, h.2.2.2.1, fun k a => h.2.2.2.2.1 k (by omega) (by omega)⟩
theorem coF.jf {u v : ST} (h : coF u v) : jF u v := ⟨fun k a => h.1 k (by omega), h.2.2.1, h.2.2.2.1, fun k a => h.2.2.2.2 k (by omega) (by omega)⟩
theorem cTb.jf {u v : ST} {t : Nat} {cs as : List (List Nat)} {rs : List RU} (ht : t < 2) (h : cTb u t cs rs as) (g : jF u v) : cTb v t cs rs as := ⟨h.1.congr (g.1 _ (by omega)) (g.2.1 _), h.2.1.congr (g.1 _ (by omega)) (g.2.1 _), (g.1 _ (by omega)).trans h.2.2.1, h.2.2.2.1, fun k r hk => by rw [g.2.2.2 _ (by omega), g.2.2.2 _ (by omega), g.2.2.2 _ (by omega)]; exact h.2.2.2.2 k r hk⟩
def cPost (v : ST) (nc : Nat) (L : List RU) (x2 x3 x4 : Int32) : Prop := gI v 2 = x2 ∧ gI v 3 = x3 ∧ gI v 4 = x4 ∧ gI v 17 = nI L.length ∧ gI v 18 = nI (lvs L) ∧ gI v 19 = nI (mxd L 0) ∧ gJ v 1 = lN (tst nc L) ∧ cTr v 0 L ∧ gI v 21 = nI (csz L) ∧ cdK (gR v 14) L L.length
theorem s_end {u0 u : ST} {nc : Nat} {L : List RU} {x2 x3 x4 : Int32} {Q : ST → Prop} (hok : okL nc L) (hF : jF u0 u) (h2 : gI u 2 = x2) (h3 : gI u 3 = x3) (h4 : gI u 4 = x4) (h17 : gI u 17 = nI L.length) (h18 : gI u 18 = nI (lvs L)) (h19 : gI u 19 = nI (mxd L 0)) (hJ : gJ u 1 = lN (tst nc L)) (hT : cTr u 0 L) (hQ : ∀ v, jF u0 v → cPost v nc L x2 x3 x4 → Q v) : wX0_write u Q := by
  refine s_write hok hT h17 (fun v hv v21 vcd => hQ v (hF.tr hv.jf) ⟨?_, ?_, ?_, ?_, ?_, ?_, ?_, hT.co hv, v21, vcd⟩)
  · rw [hv.1 2 (by decide)]; exact h2
  · rw [hv.1 3 (by decide)]; exact h3
  · rw [hv.1 4 (by decide)]; exact h4
  · rw [hv.1 17 (by decide)]; exact h17
  · rw [hv.1 18 (by decide)]; exact h18
  · rw [hv.1 19 (by decide)]; exact h19
  · rw [hv.2.1]; exact hJ
theorem cTr_nil (u : ST) : cTr u 0 [] := fun i z h => by simp at h
theorem opn_00 {nc : Nat} (hn : nc ≤ 16) : opn nc 0 0 = 2 ^ nc - 1 := by
  apply bitx; intro i; rw [opn_bit hn, Nat.testBit_two_pow_sub_one]; simp
theorem s_judge {t : Nat} {u : ST} {cs as : List (List Nat)} {rs : List RU} {nc : Nat} {Q : Int32 → ST → Prop} (hz : gZ u 0 = t) (ht : t < 2) (hT : cTb u t cs rs as) (hnc : cs.length = nc) (hn : nc ≤ 16) (hRN : rN nc rs) (hB : rB rs) (hQ : ∀ v r L x2 x3 x4, outc rs nc r L x2 x3 x4 → jF u v → cPost v nc L x2 x3 x4 → Q r v) : wX6_judge u Q := by
  unfold wX6_judge wX4_clear
  generalize hu1 : sI (sJ (sI (sI (sI u 17 0) 18 0) 19 0) 1 0) 20 0 = u1
  have f1 : jF u u1 := by
    rw [← hu1]
    exact (((((jF.rf u).s (Or.inr (by omega))).s (Or.inr (by omega))).s (Or.inr (by omega))).j).s (Or.inr (by omega))
  have z17 : gI u1 17 = 0 := by rw [← hu1]; rfl
  have z18 : gI u1 18 = 0 := by rw [← hu1]; rfl
  have z19 : gI u1 19 = 0 := by rw [← hu1]; rfl
  have z20 : gI u1 20 = 0 := by rw [← hu1]; rfl
  have zJ : gJ u1 1 = 0 := by rw [← hu1]; rfl
  unfold wX6_findAmiss
  generalize hu2 : sI (sI u1 2 (-1)) 3 (-1) = u2
  have f2 : jF u u2 := by rw [← hu2]; exact (f1.s (Or.inl (by omega))).s (Or.inl (by omega))
  have k2 : ∀ k, k ≠ 2 → k ≠ 3 → gI u2 k = gI u1 k := fun k a b => by rw [← hu2, gI_sI, if_neg b, gI_sI, if_neg a]
  have y2 : gI u2 2 = -1 := by rw [← hu2]; rfl
  have y3 : gI u2 3 = -1 := by rw [← hu2]; rfl
  have J2 : gJ u2 1 = 0 := by rw [← hu2]; exact zJ
  have hz2 : gZ u2 0 = t := (f2.2.2.1 0).trans hz
  have hT2 := hT.jf ht f2
  refine s_ctd hz2 ht hT2 hB (fun i j a b ha hb hf => ⟨fun c => absurd c (by decide), fun _ => ⟨fun _ => ?_, fun c => absurd c (by decide)⟩⟩) (fun hno => ⟨fun _ => ?_, fun c => absurd rfl c⟩)
  · unfold wX6_judge_b43
    refine s_end (nc := nc) (L := []) (okL_nil nc) (((f2.s (Or.inl (by omega))).s (Or.inl (by omega))).s (Or.inl (by omega))) ?_ ?_ ?_ ?_ ?_ ?_ ?_ (cTr_nil _) (fun v hv hp => hQ v 1 [] _ _ _ (Or.inl ⟨i, j, a, b, ha, hb, hf, rfl, rfl, rfl, rfl, rfl⟩) hv hp)
    · rw [gI_sI, if_neg (by decide), gI_sI, if_neg (by decide), gI_sI, if_pos rfl]
    · rw [gI_sI, if_neg (by decide), gI_sI, if_pos rfl]
    · rw [gI_sI, if_pos rfl]
    · rw [gI_sI, if_neg (by decide), gI_sI, if_neg (by decide), gI_sI, if_neg (by decide), k2 17 (by decide) (by decide)]; exact z17
    · rw [gI_sI, if_neg (by decide), gI_sI, if_neg (by decide), gI_sI, if_neg (by decide), k2 18 (by decide) (by decide)]; exact z18
    · rw [gI_sI, if_neg (by decide), gI_sI, if_neg (by decide), gI_sI, if_neg (by decide), k2 19 (by decide) (by decide)]; exact z19
    · exact J2
  · rw [hz2]
    refine ⟨ht, s_start (p := fun _ => true) ht hT2 (fun r _ => ⟨fun _ => Or.inl rfl, fun _ => rfl⟩) (fun u3 hv3 h16 hR hL => ?_)⟩
    rw [hnc] at h16
    rw [filter_id rs (fun _ => true) (fun _ => rfl)] at hR hL
    unfold wX5_leastGap
    rw [h16, ← opn_00 hn]
    refine ⟨17, by omega, w_gap hn hRN 17 0 0 0 u3 _ (by omega) (by omega) (plc_0 hn) hR (by rw [filter_id rs _ can_00]; exact hL) (fun u4 r5 hv4 hgr => ?_)⟩
    have f4 : jF u (sI u4 4 r5) := (f2.tr (hv3.jf.tr hv4.way.jf)).s (Or.inl (by omega))
    have k4 : ∀ k, k ≠ 4 → k ≠ 16 → gI (sI u4 4 r5) k = gI u2 k := fun k a b => by rw [gI_sI, if_neg a, hv4.1, hv3.1 k b]
    have e4 : gI (sI u4 4 r5) 4 = r5 := by rw [gI_sI, if_pos rfl]
    have J4 : gJ (sI u4 4 r5) 1 = 0 := by show gJ u4 1 = 0; rw [hv4.2.1, hv3.2.1]; exact J2
    have w17 : gI (sI u4 4 r5) 17 = 0 := by rw [k4 17 (by decide) (by decide), k2 17 (by decide) (by decide)]; exact z17
    have w18 : gI (sI u4 4 r5) 18 = 0 := by rw [k4 18 (by decide) (by decide), k2 18 (by decide) (by decide)]; exact z18
    have w19 : gI (sI u4 4 r5) 19 = 0 := by rw [k4 19 (by decide) (by decide), k2 19 (by decide) (by decide)]; exact z19
    have w20 : gI (sI u4 4 r5) 20 = 0 := by rw [k4 20 (by decide) (by decide), k2 20 (by decide) (by decide)]; exact z20
    have w2 : gI (sI u4 4 r5) 2 = -1 := by rw [k4 2 (by decide) (by decide)]; exact y2
    have w3 : gI (sI u4 4 r5) 3 = -1 := by rw [k4 3 (by decide) (by decide)]; exact y3
    dsimp only
    rw [e4]
    have mb00 : ∀ X, mb 0 0 X = true := fun X => by unfold mb; simp
    rcases hgr with ⟨e, hall⟩ | ⟨X, hX, -, hXr, hXg, hXm⟩
    · have hsd : snd rs nc := ⟨hno, fun X hX => hall X hX (mb00 X)⟩
      refine ⟨fun c => absurd e c, fun _ => ⟨fun c => absurd rfl c, fun _ => ?_⟩⟩
      have hR5 : wRul (sI u4 4 r5) rs := (show wRul u4 rs from hR.fr hv4)
      have hL5 : wLst (sI u4 4 r5) rs 0 (rs.filter (can 0 0)) := by
        rw [filter_id rs _ can_00]
        exact (show wLst u4 rs 0 rs from hL.fr hv4 (Nat.le_refl 0))
      have h165 : gI (sI u4 4 r5) 16 = nI (opn nc 0 0) := by
        rw [gI_sI, if_neg (by decide), hv4.1, h16, opn_00 hn]
      have e5 : gI (sI u4 4 r5) 4 = -1 := e4.trans e
      have hpos := tree_pos hn hRN hB hsd
      generalize sI u4 4 r5 = u5 at *
      unfold wX4_build
      rw [h165]
      by_cases hle : (tree rs nc).length ≤ 1000
      · refine ⟨17, by omega, w_grow hn hRN hB hsd (nc + 1) 17 0 0 0 0 u5 _ (by omega) (by omega) (plc_0 hn) hR5 hL5 w20 w17 (by rw [Nat.zero_add]; exact hle) (fun v hv => ?_)⟩
        obtain ⟨v1, v20, v17, v18, v19, vJ, vT, -⟩ := hv
        rw [Nat.zero_add] at v17
        have v17' : gI v 17 = nI (tree rs nc).length := v17
        refine ⟨fun _ => ⟨fun _ => ?_, fun c => absurd c (by rw [v17']; exact nI_ne0 (by omega) (by omega))⟩, fun c => absurd v20 c⟩
        unfold wX6_judge_b42 wX6_judge_b43
        have q18 := v18 0 w18
        have q19 := (v19 0 (by omega) w19).2
        have qJ := vJ 0 J4
        rw [Nat.zero_add] at q18 qJ
        refine s_end (nc := nc) (L := tree rs nc) (okL_tree hn hRN hB hsd hle) (f4.tr v1.jf) ((v1.1 2 (by omega)).trans w2) ((v1.1 3 (by omega)).trans w3) ((v1.1 4 (by omega)).trans e5) v17' q18 q19 qJ vT (fun y hy hp => hQ y 0 _ _ _ _ (Or.inr (Or.inr (Or.inr ⟨hsd, hle, rfl, rfl, rfl, rfl, rfl⟩))) hy hp)
      · refine ⟨17, by omega, w_big hn hRN hB hsd (nc + 1) 17 0 0 0 0 u5 _ (by omega) (by omega) (plc_0 hn) hR5 hL5 w20 w17 (by omega) (by rw [Nat.zero_add]; exact Nat.lt_of_not_le hle) (fun v hv v20 => ⟨fun c => absurd c (by rw [v20]; decide), fun _ => ?_⟩)⟩
        unfold wX4_clear
        refine ⟨fun c => absurd rfl c, fun _ => ?_⟩
        unfold wX6_judge_b42 wX6_judge_b43
        refine s_end (nc := nc) (L := []) (okL_nil nc) ((((((f4.tr hv.jf).s (Or.inr (by omega))).s (Or.inr (by omega))).s (Or.inr (by omega))).j).s (Or.inr (by omega))) ((hv.1 2 (by omega)).trans w2) ((hv.1 3 (by omega)).trans w3) ((hv.1 4 (by omega)).trans e5) rfl rfl rfl rfl (cTr_nil _) (fun y hy hp => hQ y 3 _ _ _ _ (Or.inr (Or.inr (Or.inl ⟨hsd, Nat.lt_of_not_le hle, rfl, rfl, rfl, rfl, rfl⟩))) hy hp)
    · refine ⟨fun _ => ⟨fun _ => ?_, fun c => absurd c (by decide)⟩, fun c => absurd c.symm (by rw [hXr]; exact m1_ne X (by have := p16 hn; omega))⟩
      unfold wX6_judge_b43
      exact s_end (nc := nc) (L := []) (okL_nil nc) f4 w2 w3 e4 w17 w18 w19 J4 (cTr_nil _) (fun v hv hp => hQ v 2 [] _ _ _ (Or.inr (Or.inl ⟨X, hno, hX, hXg, fun X' hX' hg' => by have := hXm X' (by omega) (mb00 X') hg'; omega, rfl, rfl, rfl, rfl, hXr⟩)) hv hp)
/-! THE REFERENCE JUDGES -/
def nF (u v : ST) : Prop := (∀ k, k < 17 ∨ 21 < k ∧ k ≠ 33 → gI v k = gI u k) ∧ (∀ k, k < 22 → gR v k = gR u k)
def mPost (v : ST) (L : List RU) (x2 x3 x4 : Int32) : Prop := gI v 17 = x2 ∧ gI v 18 = x3 ∧ gI v 19 = x4 ∧ gI v 20 = (if L.length = 0 then 0 else 1) ∧ gI v 21 = nI L.length ∧ mTr v 0 L ∧ gI v 33 = nI (csz L) ∧ cdK (gR v 32) L L.length
theorem mTr_nil (u : ST) : mTr u 0 [] := fun i z h => by simp at h
theorem cdK_nil (R : Nat → Int32) : cdK R [] ([] : List RU).length := fun i z h => by simp at h
theorem r_judgeA {u : ST} {cs as : List (List Nat)} {rs : List RU} {nc : Nat} {Q : Int32 → ST → Prop} (hT : mTab u cs rs as) (hl : rs.length ≤ 256) (hnc : cs.length = nc) (hn : nc ≤ 16) (hRN : rN nc rs) (hB : rB rs) (hQ : ∀ v r L x2 x3 x4, outc rs nc r L x2 x3 x4 → nF u v → mPost v L x2 x3 x4 → Q r v) : wX7_judge u Q := by
  have base : ∀ v, v = sI (sI (sI (sI (sI (sI u 17 (-1)) 18 (-1)) 19 (-1)) 20 0) 21 0) 33 0 → nF u v ∧ gI v 17 = -1 ∧ gI v 18 = -1 ∧ gI v 19 = -1 ∧ gI v 20 = 0 ∧ gI v 21 = 0 ∧ gI v 33 = 0 := by
    intro v hv
    subst hv
    refine ⟨⟨fun k hk => ?_, fun _ _ => rfl⟩, rfl, rfl, rfl, rfl, rfl, rfl⟩
    rw [gI_sI, if_neg (by omega), gI_sI, if_neg (by omega), gI_sI, if_neg (by omega), gI_sI, if_neg (by omega), gI_sI, if_neg (by omega), gI_sI, if_neg (by omega)]
  refine r_judge hT hl hnc hn hB (fun i j a b v ha hb hf hv => ?_) (fun X v hno hX hg hm hv => ?_) (fun v hno hall hv => ?_)
  · obtain ⟨⟨b1, b2⟩, c17, c18, c19, c20, c21, c33⟩ := base v hv
    refine hQ _ 1 [] _ _ _ (Or.inl ⟨i, j, a, b, ha, hb, hf, rfl, rfl, rfl, rfl, rfl⟩) ⟨fun k hk => ?_, b2⟩ ⟨?_, ?_, ?_, ?_, ?_, mTr_nil _, ?_, cdK_nil _⟩
    · rw [gI_sI, if_neg (by omega), gI_sI, if_neg (by omega), gI_sI, if_neg (by omega)]; exact b1 k hk
    · rw [gI_sI, if_neg (by decide), gI_sI, if_neg (by decide), gI_sI, if_pos rfl]
    · rw [gI_sI, if_neg (by decide), gI_sI, if_pos rfl]
    · rw [gI_sI, if_pos rfl]
    · rw [gI_sI, if_neg (by decide), gI_sI, if_neg (by decide), gI_sI, if_neg (by decide), c20]; rfl
    · rw [gI_sI, if_neg (by decide), gI_sI, if_neg (by decide), gI_sI, if_neg (by decide), c21]; rfl
    · rw [gI_sI, if_neg (by decide), gI_sI, if_neg (by decide), gI_sI, if_neg (by decide), c33]; rfl
  · obtain ⟨⟨b1, b2⟩, c17, c18, c19, c20, c21, c33⟩ := base v hv
    refine hQ _ 2 [] _ _ _ (Or.inr (Or.inl ⟨X, hno, hX, hg, hm, rfl, rfl, rfl, rfl, rfl⟩)) ⟨fun k hk => ?_, b2⟩ ⟨?_, ?_, ?_, ?_, ?_, mTr_nil _, ?_, cdK_nil _⟩
    · rw [gI_sI, if_neg (by omega)]; exact b1 k hk
    · rw [gI_sI, if_neg (by decide)]; exact c17
    · rw [gI_sI, if_neg (by decide)]; exact c18
    · rw [gI_sI, if_pos rfl]
    · rw [gI_sI, if_neg (by decide), c20]; rfl
    · rw [gI_sI, if_neg (by decide), c21]; rfl
    · rw [gI_sI, if_neg (by decide), c33]; rfl
  · obtain ⟨⟨b1, b2⟩, c17, c18, c19, c20, c21, c33⟩ := base v hv
    have hsd : snd rs nc := ⟨hno, hall⟩
    have hpos := tree_pos hn hRN hB hsd
    have vR : mRul v rs := fun k r hk => by rw [b2 7 (by omega), b2 8 (by omega), b2 9 (by omega)]; exact hT.2.2.2.2.2.2 k r hk
    refine r_growAll hn hRN hB hsd hl (by rw [b1 11 (by omega), hT.2.1, hnc]) (by rw [b1 12 (by omega)]; exact hT.2.2.1) vR c21 (fun w hle hw w20 w21 wT => ?_) (fun w hgt hw w20 w21 => ?_)
    · refine r_write hn (okL_tree hn hRN hB hsd hle) wT w21 (fun y hy y33 ycd => ?_)
      have y20 : gI y 20 = 1 := by rw [hy.1 20 (by decide)]; exact w20
      refine ⟨fun c => absurd c (by rw [y20]; decide), fun _ => ?_⟩
      refine hQ y 0 _ _ _ _ (Or.inr (Or.inr (Or.inr ⟨hsd, hle, rfl, rfl, rfl, rfl, rfl⟩))) ⟨fun k hk => ?_, fun k hk => ?_⟩ ⟨?_, ?_, ?_, ?_, ?_, wT.wr hy, y33, ycd⟩
      · rw [hy.1 k (by omega), hw.1 k (by omega) (by omega)]; exact b1 k hk
      · rw [hy.2 k (by omega) (by omega), hw.2 k (by omega)]; exact b2 k hk
      · rw [hy.1 17 (by decide), hw.1 17 (by decide) (by decide)]; exact c17
      · rw [hy.1 18 (by decide), hw.1 18 (by decide) (by decide)]; exact c18
      · rw [hy.1 19 (by decide), hw.1 19 (by decide) (by decide)]; exact c19
      · rw [y20, if_neg (by omega)]
      · rw [hy.1 21 (by decide)]; exact w21
    · refine ⟨fun _ => ?_, fun c => absurd w20 c⟩
      refine hQ w 3 [] _ _ _ (Or.inr (Or.inr (Or.inl ⟨hsd, hgt, rfl, rfl, rfl, rfl, rfl⟩))) ⟨fun k hk => ?_, fun k hk => ?_⟩ ⟨?_, ?_, ?_, ?_, ?_, mTr_nil _, ?_, cdK_nil _⟩
      · rw [hw.1 k (by omega) (by omega)]; exact b1 k hk
      · rw [hw.2 k (by omega)]; exact b2 k hk
      · rw [hw.1 17 (by decide) (by decide)]; exact c17
      · rw [hw.1 18 (by decide) (by decide)]; exact c18
      · rw [hw.1 19 (by decide) (by decide)]; exact c19
      · rw [w20]; rfl
      · rw [w21]; rfl
      · rw [hw.1 33 (by decide) (by decide), c33]; rfl
