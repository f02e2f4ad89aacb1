/-! THE BEST CONDITION -/
theorem n_abs {a b : Nat} (ha : a < 2 ^ 30) (hb : b < 2 ^ 30) : (if 0 ≤ nI a - nI b then nI a - nI b else 0 - (nI a - nI b)) = nI ((a - b) + (b - a)) := by
  rcases Nat.lt_or_ge a b with h | h
  · have hneg := pk_sneg hb h
    rw [if_neg (Int32.not_le.mpr hneg), i_ns, pk_sub (by omega)]
    congr 1; omega
  · rw [pk_sub h, if_pos (nI_pos' (by omega))]
    congr 1; omega
theorem lg_N {a b : Nat} (ha : a < 2 ^ 63) (hb : b < 2 ^ 63) : lg_cmp (lN a) (lN b) = if b < a then 1 else if a = b then 0 else -1 := by
  unfold lg_cmp
  by_cases h1 : b < a
  · rw [if_pos h1, if_pos ((pk_lLT hb ha).mpr h1)]
  · rw [if_neg h1, if_neg (fun h => h1 ((pk_lLT hb ha).mp h))]
    by_cases h2 : a = b
    · rw [if_pos h2, if_pos ((pk_lEQ ha hb).mpr h2)]
    · rw [if_neg h2, if_neg (fun h => h2 ((pk_lEQ ha hb).mp h))]
theorem lg_lt {a b : Nat} (ha : a < 2 ^ 63) (hb : b < 2 ^ 63) : (lg_cmp (lN a) (lN b) < 0) = (a < b) := by
  rw [lg_N ha hb]
  by_cases h1 : b < a
  · rw [if_pos h1]; exact propext ⟨fun h => absurd h (by decide), fun h => by omega⟩
  · rw [if_neg h1]
    by_cases h2 : a = b
    · rw [if_pos h2]; exact propext ⟨fun h => absurd h (by decide), fun h => by omega⟩
    · rw [if_neg h2]; exact propext ⟨fun _ => by omega, fun _ => by decide⟩
theorem lg_eq {a b : Nat} (ha : a < 2 ^ 63) (hb : b < 2 ^ 63) : (lg_cmp (lN a) (lN b) = 0) = (a = b) := propext ((lg_cmp0 _ _).trans (pk_lEQ ha hb))
theorem lg_le {a b : Nat} (ha : a < 2 ^ 63) (hb : b < 2 ^ 63) : (lg_cmp (lN a) (lN b) ≤ 0) = (a ≤ b) := by
  rw [lg_N ha hb]
  by_cases h1 : b < a
  · rw [if_pos h1]; exact propext ⟨fun h => absurd h (by decide), fun h => by omega⟩
  · rw [if_neg h1]
    by_cases h2 : a = b
    · rw [if_pos h2]; exact propext ⟨fun h => by omega, fun h => by decide⟩
    · rw [if_neg h2]; exact propext ⟨fun _ => by omega, fun _ => by decide⟩
theorem lg_ge0 {a b : Nat} (ha : a < 2 ^ 62) (hb : b < 2 ^ 62) : (0 ≤ lg_cmp (lN a - lN b) 0) = (b ≤ a) := by
  rcases Nat.lt_or_ge a b with h | h
  · have hneg : lN a - lN b < 0 := by
      rw [← l_ns, lN_sub (by omega)]
      rw [Int64.lt_iff_toInt_lt, Int64.toInt_neg, pk_lT (by omega)]
      rw [show (0 : Int64).toInt = 0 from by decide, Int.bmod_def]
      have : ((b - a : Nat) : Int) = (b : Int) - a := by omega
      split <;> omega
    refine propext ⟨fun hc => ?_, fun hc => by omega⟩
    unfold lg_cmp at hc
    rw [if_neg (fun g => Int64.lt_irrefl (Int64.lt_trans g hneg)), if_neg (fun e => by rw [e] at hneg; exact Int64.lt_irrefl hneg)] at hc
    exact absurd hc (by decide)
  · rw [lN_sub h]
    refine propext ⟨fun _ => h, fun _ => ?_⟩
    unfold lg_cmp
    split
    · decide
    · split
      · decide
      · rename_i h1 h2
        rw [show (0 : Int64) = lN 0 from rfl] at h1 h2
        rw [show (lN (a - b) > lN 0) = (0 < a - b) from propext (pk_lLT (by omega) (by omega))] at h1
        rw [show (lN (a - b) = lN 0) = (a - b = 0) from propext (pk_lEQ (by omega) (by omega))] at h2
        omega
/-- only the weights have changed -/
def wtF (u v : ST) : Prop := (∀ k, gI v k = gI u k) ∧ (∀ k, gJ v k = gJ u k) ∧ (∀ k, gB v k = gB u k) ∧ (∀ k, gZ v k = gZ u k) ∧ (∀ k, k ≠ 10 → k ≠ 11 → gR v k = gR u k)
theorem wtF.rf (u : ST) : wtF u u := ⟨fun _ => rfl, fun _ => rfl, fun _ => rfl, fun _ => rfl, fun _ _ _ => rfl⟩
theorem wtF.tr {u v w : ST} (h : wtF u v) (g : wtF v w) : wtF u w := ⟨fun k => (g.1 k).trans (h.1 k), fun k => (g.2.1 k).trans (h.2.1 k), fun k => (g.2.2.1 k).trans (h.2.2.1 k), fun k => (g.2.2.2.1 k).trans (h.2.2.2.1 k), fun k a b => (g.2.2.2.2 k a b).trans (h.2.2.2.2 k a b)⟩
theorem wtF.fr {d : Nat} {u v : ST} (h : wtF u v) : wFr d u v := ⟨h.1, h.2.1, h.2.2.1, h.2.2.2.1, fun k _ b c _ => h.2.2.2.2 k b c, fun i _ => by rw [h.2.2.2.2 9 (by decide) (by decide)]⟩
theorem wtF.s {u v : ST} (h : wtF u v) {j i : Nat} {x : Int32} (hj : j = 10 ∨ j = 11) : wtF u (sR v j i x) := ⟨h.1, h.2.1, h.2.2.1, h.2.2.2.1, fun k a b => by rw [gR_sR, if_neg (by omega)]; exact h.2.2.2.2 k a b⟩
/-- the weights of M -/
def wgt (u : ST) (op : Nat) (M : List RU) (c : Nat) : Prop := gR u 10 c = nI (sm (fB op c) M) ∧ gR u 11 c = nI (sm (fY op c) M) - nI (sm (fN op c) M)
theorem w_addL {RS M : List RU} {op k : Nat} {r : RU} {u0 : ST} {Q : ST → Prop} (hR : wRul u0 RS) (h16 : r16 RS) (hk : RS[k]? = some r) (hQ : ∀ v, wtF u0 v → (∀ c, c < 16 → wgt v op (M ++ [r]) c) → Q v) : ∀ (f c : Nat) (u : ST), 16 - c < f → c ≤ 16 → wtF u0 u → (∀ c', c' < c → wgt u op (M ++ [r]) c') → (∀ c', c ≤ c' → c' < 16 → wgt u op M c') → wX5_addWeight_L2 Q f (nI k) (nI (wt op r)) (nI c) u := by
  intro f
  induction f with
  | zero => intro c u h; omega
  | succ f ih =>
    intro c u hf hc hF h1 h2
    show wX5_addWeight_B2 (wX5_addWeight_L2 Q f) Q (nI k) (nI (wt op r)) (nI c) u
    unfold wX5_addWeight_B2
    have h256 := hR.1
    have hkl := (List.getElem?_eq_some_iff.mp hk).1
    have hr := hR.2 k r hk
    have b16 := h16 r (List.mem_of_getElem? hk)
    refine pk_le 16 c (fun hge => hQ u hF (fun c' hc' => h1 c' (by omega))) (fun hlt => ?_)
    rw [cl_nI (by omega), cl_nI (by omega), hF.2.2.2.2 6 (by decide) (by decide), hF.2.2.2.2 7 (by decide) (by decide), hr.1, hr.2.1, nI_pow (by omega), nI_tst b16.1, nI_tst b16.2]
    have vk : vp_in (nI k) 256 := vp_in_nI (by omega) (by omega)
    have vc : vp_in (nI c) 16 := vp_in_nI (by omega) (by omega)
    obtain ⟨w1, w2⟩ := h2 c (Nat.le_refl c) hlt
    rw [w1, w2]
    have go : ∀ (j : Nat) (x : Int32), (j = 10 ∨ j = 11) → wgt (sR u j c x) op (M ++ [r]) c → wX5_addWeight_b73 (wX5_addWeight_L2 Q f) Q (nI k) (nI (wt op r)) (nI c) (sR u j c x) := by
      intro j x hj hw
      unfold wX5_addWeight_b73
      rw [nI_1]
      refine ih (c + 1) _ (by omega) (by omega) (hF.s hj) (fun c' hc' => ?_) (fun c' hc1 hc2 => ?_)
      · by_cases he : c' = c
        · rw [he]; exact hw
        · have := h1 c' (by omega)
          unfold wgt at this ⊢
          rw [gR_sR, gR_sR]
          rcases hj with e | e
          · subst e; rw [if_pos rfl, if_neg (by decide), pk_un he]; exact this
          · subst e; rw [if_neg (by decide), if_pos rfl, pk_un he]; exact this
      · have := h2 c' (by omega) hc2
        unfold wgt at this ⊢
        rw [gR_sR, gR_sR]
        rcases hj with e | e
        · subst e; rw [if_pos rfl, if_neg (by decide), pk_un (by omega)]; exact this
        · subst e; rw [if_neg (by decide), if_pos rfl, pk_un (by omega)]; exact this
    have sn : ∀ f : RU → Nat, sm f (M ++ [r]) = sm f M + f r := fun f => by rw [sm_app]; simp [sm]
    refine ⟨vk, fun hy => ⟨vk, fun hn => ⟨vc, vc, go 10 _ (Or.inl rfl) ?_⟩, fun hn => ⟨vc, vc, go 11 _ (Or.inr rfl) ?_⟩⟩, fun hy => ⟨vc, vc, go 11 _ (Or.inr rfl) ?_⟩⟩
    · unfold wgt
      rw [gR_sR, gR_sR, if_pos rfl, if_neg (by decide), pk_us, w2, nI_add, sn, sn, sn]
      unfold fB fY fN
      simp [hy, hn]
    · have hn' : r.2.1.testBit c = true := by simpa using hn
      unfold wgt
      rw [gR_sR, gR_sR, if_neg (by decide), if_pos rfl, pk_us, w1, i_ss, nI_add, sn, sn, sn]
      unfold fB fY fN
      simp [hy, hn']
    · have hy' : r.1.testBit c = true := by simpa using hy
      unfold wgt
      rw [gR_sR, gR_sR, if_neg (by decide), if_pos rfl, pk_us, w1, i_sa, nI_add, sn, sn, sn]
      unfold fB fY fN
      simp [hy']
theorem w_weigh {RS M : List RU} {d op : Nat} {u0 : ST} {Q : ST → Prop} (hd : d ≤ 16) (ho : op < 2 ^ 16) (hR : wRul u0 RS) (h16 : r16 RS) (hL : wLst u0 RS d M) (hQ : ∀ v, wtF u0 v → (∀ c, c < 16 → wgt v op M c) → Q v) : wX5_weigh (nI d) (nI op) u0 Q := by
  have h256 := hL.2.1
  have h256' := hR.1
  have L30 : ∀ (B A : List RU) (f : Nat) (u : ST), M = A ++ B → B.length < f → wtF u0 u → (∀ c, c < 16 → wgt u op A c) → wX5_weigh_L30 Q f (nI d) (nI op) (nI A.length) u := by
    intro B
    induction B with
    | nil =>
      intro A f u hM hf hF hw
      obtain ⟨f, rfl⟩ : ∃ f', f = f' + 1 := ⟨f - 1, by omega⟩
      show wX5_weigh_B30 (wX5_weigh_L30 Q f) Q (nI d) (nI op) (nI A.length) u
      unfold wX5_weigh_B30
      rw [List.append_nil] at hM
      subst hM
      rw [cl_nI (by omega), hF.2.2.2.2 9 (by decide) (by decide), hL.1]
      exact ⟨vp_in_nI (by omega) (by omega), pk_le M.length M.length (fun _ => hQ u hF hw) (fun c => absurd c (by omega))⟩
    | cons r B ih =>
      intro A f u hM hf hF hw
      obtain ⟨f, rfl⟩ : ∃ f', f = f' + 1 := ⟨f - 1, by omega⟩
      show wX5_weigh_B30 (wX5_weigh_L30 Q f) Q (nI d) (nI op) (nI A.length) u
      unfold wX5_weigh_B30
      have hlen : M.length = A.length + (B.length + 1) := by rw [hM]; simp
      have hat : M[A.length]? = some r := by rw [hM]; exact at_mid A r B
      obtain ⟨k, hk, hgk⟩ := hL.2.2 _ _ hat
      have hkl := (List.getElem?_eq_some_iff.mp hk).1
      have hr := hR.2 k r hk
      have b16 := h16 r (List.mem_of_getElem? hk)
      rw [cl_nI (show d < 2 ^ 31 by omega), cl_nI (show A.length < 2 ^ 31 by omega), hF.2.2.2.2 9 (by decide) (by decide), hL.1, hF.2.2.2.2 (16 + d) (by omega) (by omega), hgk, cl_nI (show k < 2 ^ 31 by omega), hF.2.2.2.2 6 (by decide) (by decide), hF.2.2.2.2 7 (by decide) (by decide), hr.1, hr.2.1, nI_or, nI_ndn ho (Nat.or_lt_two_pow b16.1 b16.2)]
      have vd : vp_in (nI d) 17 := vp_in_nI (by omega) (by omega)
      refine ⟨vd, pk_le M.length A.length (fun c => absurd c (by omega)) (fun _ => ⟨vd, vp_in_nI (by omega) (by omega), vp_in_nI (by omega) (by omega), vp_in_nI (by omega) (by omega), ?_⟩)⟩
      refine s_bc (ndn_lt ho) ?_
      have hp := pc_le (ndn op (r.1 ||| r.2.1))
      rw [nI_pow (by omega)]
      refine ⟨17, w_addL (M := A) (op := op) (u0 := u) (hR.fr (hF.fr (d := 0))) h16 hk (fun v hv hwv => ?_) 17 0 u (by omega) (by omega) (wtF.rf u) (fun c' h => by omega) (fun c' _ hc' => hw c' hc')⟩
      rw [nI_1, show A.length + 1 = (A ++ [r]).length by simp]
      exact ih (A ++ [r]) f v (by rw [hM]; simp) (by simp at hf; omega) (hF.tr hv) hwv
  have L2 : ∀ (f c : Nat) (u : ST), 16 - c < f → c ≤ 16 → wtF u0 u → (∀ c', c' < c → gR u 10 c' = 0 ∧ gR u 11 c' = 0) → wX5_weigh_L2 Q f (nI d) (nI op) (nI c) u := by
    intro f
    induction f with
    | zero => intro c u h; omega
    | succ f ih =>
      intro c u hf hc hF hz
      show wX5_weigh_B2 (wX5_weigh_L2 Q f) Q (nI d) (nI op) (nI c) u
      unfold wX5_weigh_B2
      refine pk_le 16 c (fun hge => ⟨M.length + 1, L30 M [] _ u rfl (by omega) hF (fun c' hc' => ?_)⟩) (fun hlt => ?_)
      · have := hz c' (by omega)
        exact ⟨this.1, by rw [this.2]; show (0 : Int32) = nI 0 - nI 0; decide⟩
      · rw [cl_nI (by omega), nI_1]
        refine ⟨vp_in_nI (by omega) (by omega), vp_in_nI (by omega) (by omega), ih (c + 1) _ (by omega) (by omega) ((hF.s (Or.inl rfl)).s (Or.inr rfl)) (fun c' hc' => ?_)⟩
        simp only [gR_sR]
        rw [if_neg (by decide), if_pos trivial, if_pos trivial, if_neg (by decide)]
        by_cases he : c' = c
        · rw [he, pk_us, pk_us]; exact ⟨rfl, rfl⟩
        · rw [pk_un he, pk_un he]; exact hz c' (by omega)
  exact ⟨17, L2 17 0 u0 (by omega) (by omega) (wtF.rf u0) (fun c' h => by omega)⟩
/-- the best of the open conditions below k -/
noncomputable def bst (op : Nat) (M : List RU) : Nat → Option Nat
  | 0 => none
  | k + 1 => if op.testBit k = true then (match bst op M k with
      | none => some k
      | some b => @ite _ (bet op M k b) (Classical.propDecidable _) (some k) (some b)) else bst op M k
def oI : Option Nat → Int32
  | none => -1
  | some b => nI b
theorem bst_in {op : Nat} {M : List RU} : ∀ (k b : Nat), bst op M k = some b → b < k ∧ op.testBit b = true := by
  intro k
  induction k with
  | zero => intro b h; cases h
  | succ k ih =>
    intro b h
    unfold bst at h
    split at h
    · rename_i ho
      cases hb : bst op M k with
      | none => rw [hb] at h; cases h; exact ⟨by omega, ho⟩
      | some b' =>
        rw [hb] at h
        dsimp only at h
        split at h
        · cases h; exact ⟨by omega, ho⟩
        · cases h; have := ih _ hb; exact ⟨by omega, this.2⟩
    · have := ih b h; exact ⟨by omega, this.2⟩
theorem bst_some {op : Nat} {M : List RU} : ∀ (k c : Nat), c < k → op.testBit c = true → ∃ b, bst op M k = some b := by
  intro k
  induction k with
  | zero => intro c h; omega
  | succ k ih =>
    intro c hc ho
    unfold bst
    by_cases hk : op.testBit k = true
    · rw [if_pos hk]
      cases bst op M k with
      | none => exact ⟨k, rfl⟩
      | some b => dsimp only; split; exact ⟨k, rfl⟩; exact ⟨b, rfl⟩
    · rw [if_neg hk]
      exact ih c (by rcases Nat.lt_or_ge c k with g | g; exact g; exact absurd (by rw [← show c = k by omega]; exact ho) hk) ho
theorem bst_hi {op : Nat} {M : List RU} {n : Nat} (ho : op < 2 ^ n) : ∀ k, n ≤ k → bst op M k = bst op M n := by
  intro k
  induction k with
  | zero => intro h; rw [show n = 0 by omega]
  | succ k ih =>
    intro h
    by_cases he : n = k + 1
    · rw [he]
    · have : bst op M (k + 1) = bst op M k := by
        show (if op.testBit k = true then _ else bst op M k) = bst op M k
        rw [if_neg (by rw [bit_hi ho (by omega)]; decide)]
      rw [this, ih (by omega)]
theorem w_better {op : Nat} {M : List RU} {c b : Nat} {u : ST} {Q : Int32 → ST → Prop} (hl : M.length ≤ 256) (hw : ∀ c, c < 16 → wgt u op M c) (hc : c < 16) (hb : b < 16) (yes : bet op M c b → Q 1 u) (no : ¬ bet op M c b → Q 0 u) : wX5_isBetter (nI c) (nI b) u Q := by
  have lB : ∀ c, sm (fB op c) M ≤ 16777216 := fun c => sm_lt (fB_le op c) hl
  have lY : ∀ c, sm (fY op c) M ≤ 16777216 := fun c => sm_lt (fY_le op c) hl
  have lN' : ∀ c, sm (fN op c) M ≤ 16777216 := fun c => sm_lt (fN_le op c) hl
  have b1 := lB c
  have b2 := lB b
  have b3 := lY c
  have b4 := lY b
  have b5 := lN' c
  have b6 := lN' b
  unfold wX5_isBetter
  rw [cl_nI (by omega), cl_nI (by omega), (hw c hc).1, (hw b hb).1, (hw c hc).2, (hw b hb).2, n_abs (by omega) (by omega), n_abs (by omega) (by omega)]
  have vc : vp_in (nI c) 16 := vp_in_nI (by omega) (by omega)
  have vb : vp_in (nI b) 16 := vp_in_nI (by omega) (by omega)
  refine ⟨vc, vb, pk_eq (sm (fB op c) M) (sm (fB op b) M) (fun he => ⟨vc, vb, pk_le (df op M c) (df op M b) (fun h => no ?_) (fun h => yes ?_) rfl rfl (by unfold df; omega) (by unfold df; omega)⟩) (fun hne => ⟨vc, vb, pk_le (sm (fB op b) M) (sm (fB op c) M) (fun h => no ?_) (fun h => yes ?_)⟩)⟩
  · unfold bet; omega
  · unfold bet; omega
  · unfold bet; omega
  · unfold bet; omega
theorem w_choose {RS M : List RU} {d op : Nat} {u0 : ST} {Q : Int32 → ST → Prop} (hd : d ≤ 16) (ho : op < 2 ^ 16) (hR : wRul u0 RS) (h16 : r16 RS) (hL : wLst u0 RS d M) (hQ : ∀ v, wtF u0 v → Q (oI (bst op M 16)) v) : wX5_choose (nI d) (nI op) u0 Q := by
  unfold wX5_choose
  refine w_weigh hd ho hR h16 hL (fun u hF hw => ?_)
  have key : ∀ (f c : Nat), 16 - c < f → c ≤ 16 → wX5_choose_L11 Q f (nI op) (oI (bst op M c)) (nI c) u := by
    intro f
    induction f with
    | zero => intro c h; omega
    | succ f ih =>
      intro c hf hc
      show wX5_choose_B11 (wX5_choose_L11 Q f) Q (nI op) (oI (bst op M c)) (nI c) u
      unfold wX5_choose_B11
      refine pk_le 16 c (fun hge => by rw [show c = 16 by omega]; exact hQ u hF) (fun hlt => ?_)
      rw [nI_pow (by omega), nI_tst ho]
      have st : ∀ z, bst op M (c + 1) = z → wX5_choose_b45 (wX5_choose_L11 Q f) Q (nI op) (oI z) (nI c) u := by
        intro z hz
        unfold wX5_choose_b45
        rw [nI_1, ← hz]
        exact ih (c + 1) (by omega) (by omega)
      refine ⟨fun hb => st _ ?_, fun hb => ?_⟩
      · show (if op.testBit c = true then _ else bst op M c) = bst op M c
        rw [if_neg (by rw [hb]; decide)]
      · have hb' : op.testBit c = true := by simpa using hb
        have un : bst op M (c + 1) = (match bst op M c with
            | none => some c
            | some b => @ite _ (bet op M c b) (Classical.propDecidable _) (some c) (some b)) := by
          show (if op.testBit c = true then _ else bst op M c) = _
          rw [if_pos hb']
        cases hbs : bst op M c with
        | none =>
          rw [hbs] at un
          exact ⟨fun _ => st (some c) un, fun c => absurd rfl c⟩
        | some b =>
          rw [hbs] at un
          dsimp only at un
          have hbin := bst_in _ _ hbs
          refine ⟨fun e => absurd e.symm (m1_ne b (by omega)), fun _ => ?_⟩
          refine w_better hL.2.1 hw hlt (by omega) (fun hy => ⟨fun c => absurd c (by decide), fun _ => st (some c) (by rw [un, if_pos hy])⟩) (fun hn => ⟨fun _ => st (some b) (by rw [un, if_neg hn]), fun c => absurd rfl c⟩)
  exact ⟨17, key 17 0 (by omega) (by omega)⟩
