/-! THE REFERENCE'S BEST CONDITION -/
theorem l_pow {k : Nat} (hk : k ≤ 16) : (1 : Int64) <<< ((nI k).toInt64 &&& 63) = lN (2 ^ k) := by
  rw [show (1 : Int64) = lN 1 from rfl, wb_shl 1 (by omega), Nat.one_mul]
theorem nI_b1 {b : Prop} [Decidable b] : (nI (if b then 1 else 0) = 1) = b := by
  by_cases h : b
  · rw [if_pos h]; exact propext ⟨fun _ => h, fun _ => rfl⟩
  · rw [if_neg h]; exact propext ⟨fun e => absurd e (by decide), fun e => absurd e h⟩
theorem nI_b0 {b : Prop} [Decidable b] : (nI (if b then 1 else 0) = 0) = ¬ b := by
  by_cases h : b
  · rw [if_pos h]; exact propext ⟨fun e => absurd e (by decide), fun e => absurd h e⟩
  · rw [if_neg h]; exact propext ⟨fun _ => h, fun _ => rfl⟩
theorem r_best55 {u : ST} {rs : List RU} {H F op c : Nat} {x4 : Int32} {y5 y7 : Int64} {K25 : Int32 → Int32 → Int32 → Int32 → Int64 → Int64 → Int32 → ST → Prop} {Q : Int32 → ST → Prop} (h12 : gI u 12 = nI rs.length) (hl : rs.length ≤ 256) (hT : mRul u rs) (hB : rB rs) (ho : op < 2 ^ 16) (hc : c < 16) (h : wX7_bestCondition_b181 K25 Q (nI H) (nI F) (nI op) x4 y5 y7 (nI c) (lN (sm (fB op c) (rs.filter (can H F)))) (lN (df op (rs.filter (can H F)) c)) u) : ∀ (B A : List RU) (f : Nat), rs = A ++ B → B.length < f → wX7_bestCondition_L55 K25 Q f (nI H) (nI F) (nI op) x4 y5 y7 (nI c) (lN (sm (fB op c) (A.filter (can H F)))) (lN (sm (fY op c) (A.filter (can H F))) - lN (sm (fN op c) (A.filter (can H F)))) (nI A.length) u := by
  intro B
  induction B with
  | nil =>
    intro A f hM hf
    obtain ⟨f, rfl⟩ : ∃ f', f = f' + 1 := ⟨f - 1, by omega⟩
    show wX7_bestCondition_B55 K25 (wX7_bestCondition_L55 K25 Q f) Q (nI H) (nI F) (nI op) x4 y5 y7 (nI c) _ _ (nI A.length) u
    unfold wX7_bestCondition_B55
    rw [List.append_nil] at hM
    subst hM
    rw [h12]
    have hfl := List.length_filter_le (can H F) rs
    have b1 := sm_lt (fY_le op c) (l := rs.filter (can H F)) (by omega)
    have b2 := sm_lt (fN_le op c) (l := rs.filter (can H F)) (by omega)
    refine pk_le rs.length rs.length (fun _ => ?_) (fun c => absurd c (by omega))
    rw [lg_ge0 (by omega) (by omega)]
    refine ⟨fun hge => ?_, fun hlt => ?_⟩
    · rw [lN_sub hge]
      have e : df op (rs.filter (can H F)) c = sm (fY op c) (rs.filter (can H F)) - sm (fN op c) (rs.filter (can H F)) := by unfold df; omega
      rw [← e]; exact h
    · rw [l_ns, lN_sub (by omega)]
      have e : df op (rs.filter (can H F)) c = sm (fN op c) (rs.filter (can H F)) - sm (fY op c) (rs.filter (can H F)) := by unfold df; omega
      rw [← e]; exact h
  | cons r B ih =>
    intro A f hM hf
    obtain ⟨f, rfl⟩ : ∃ f', f = f' + 1 := ⟨f - 1, by omega⟩
    show wX7_bestCondition_B55 K25 (wX7_bestCondition_L55 K25 Q f) Q (nI H) (nI F) (nI op) x4 y5 y7 (nI c) _ _ (nI A.length) u
    unfold wX7_bestCondition_B55
    have hlen : rs.length = A.length + (B.length + 1) := by rw [hM]; simp
    have hat : rs[A.length]? = some r := by rw [hM]; exact at_mid A r B
    have hr := hT _ _ hat
    have hb := hB r (List.mem_of_getElem? hat)
    have v : vp_in (nI A.length) 512 := vp_in_nI (by omega) (by omega)
    rw [h12]
    refine pk_le rs.length A.length (fun c => absurd c (by omega)) (fun _ => r_can hl hT hB hat (fun hc => ⟨fun _ => ?_, fun c => absurd rfl c⟩) (fun hc => ⟨fun c => absurd c (by decide), fun _ => ⟨v, v, ?_⟩⟩))
    · unfold wX7_bestCondition_b160
      rw [nI_1]
      have := ih (A ++ [r]) f (by rw [hM]; simp) (by simp at hf; omega)
      have hft : (A ++ [r]).filter (can H F) = A.filter (can H F) := by rw [List.filter_append]; simp [hc]
      rw [hft] at this
      rw [show A.length + 1 = (A ++ [r]).length by simp]
      exact this
    · rw [cl_nI (by omega), hr.1, hr.2.1, nI_or, nI_ndn ho (Nat.or_lt_two_pow hb.1 hb.2.1)]
      refine r_bits (ndn_lt ho) ⟨v, ?_⟩
      rw [hr.1, hr.2.1]
      have hp := pc_le (ndn op (r.1 ||| r.2.1))
      rw [nI_shb (by omega) (by omega), nI_shb (by omega) (by omega), nI_b1, nI_b1, l_pow hp]
      have hft : (A ++ [r]).filter (can H F) = A.filter (can H F) ++ [r] := by rw [List.filter_append]; simp [hc]
      have nxt := ih (A ++ [r]) f (by rw [hM]; simp) (by simp at hf; omega)
      rw [hft] at nxt
      have sn : ∀ f : RU → Nat, sm f (A.filter (can H F) ++ [r]) = sm f (A.filter (can H F)) + f r := fun f => by rw [sm_app]; simp [sm]
      rw [sn, sn, sn] at nxt
      rw [show (A ++ [r]).length = A.length + 1 by simp, ← nI_1] at nxt
      refine ⟨fun hy => ⟨v, fun hn => ?_, fun hn => ?_⟩, fun hy => ?_⟩
      · intro z hz
        rw [hz]
        unfold wX7_bestCondition_b160
        have e1 : fB op c r = wt op r := by unfold fB; simp [hy, hn]
        have e2 : fY op c r = 0 := by unfold fY; simp [hy]
        have e3 : fN op c r = 0 := by unfold fN; simp [hy, hn]
        rw [e1, e2, e3] at nxt
        rw [lN_add]
        exact nxt
      · intro z hz
        rw [hz]
        unfold wX7_bestCondition_b160
        have e1 : fB op c r = 0 := by unfold fB; simp [hn]
        have e2 : fY op c r = 0 := by unfold fY; simp [hy]
        have e3 : fN op c r = wt op r := by unfold fN; simp [hy, hn]
        rw [e1, e2, e3] at nxt
        rw [l_ss, lN_add]
        exact nxt
      · intro z hz
        rw [hz]
        unfold wX7_bestCondition_b160
        have e1 : fB op c r = 0 := by unfold fB; simp [hy]
        have e2 : fY op c r = wt op r := by unfold fY; simp [hy]
        have e3 : fN op c r = 0 := by unfold fN; simp [hy]
        rw [e1, e2, e3] at nxt
        rw [l_sa, lN_add]
        exact nxt
theorem r_best {u : ST} {rs : List RU} {H F nc : Nat} {Q : Int32 → ST → Prop} (h11 : gI u 11 = nI nc) (hn : nc ≤ 16) (hH : H < 2 ^ nc) (hFn : F < 2 ^ nc) (h12 : gI u 12 = nI rs.length) (hl : rs.length ≤ 256) (hT : mRul u rs) (hB : rB rs) (h : Q (oI (bst (opn nc H F) (rs.filter (can H F)) nc)) u) : wX7_bestCondition (nI H) (nI F) u Q := by
  unfold wX7_bestCondition wX7_allCases
  rw [h11, nI_pow (by omega)]
  dsimp only
  have h216 := p16 hn
  have hor : H ||| F < 2 ^ 16 := Nat.or_lt_two_pow (by omega) (by omega)
  have p1 := Nat.two_pow_pos nc
  rw [show nI (2 ^ nc) - 1 = nI (2 ^ nc - 1) from pk_sub (b := 1) Nat.one_le_two_pow, nI_or, nI_ndn (by omega) hor]
  have eo : ndn (2 ^ nc - 1) (H ||| F) = opn nc H F := rfl
  rw [eo]
  have ho : opn nc H F < 2 ^ 16 := opn_lt16 hn
  generalize opn nc H F = op at *
  generalize hM : rs.filter (can H F) = M at *
  have hfl : M.length ≤ 256 := by have := List.length_filter_le (can H F) rs; rw [hM] at this; omega
  have lB : ∀ c, sm (fB op c) M ≤ 16777216 := fun c => sm_lt (fB_le op c) hfl
  have lY : ∀ c, sm (fY op c) M ≤ 16777216 := fun c => sm_lt (fY_le op c) hfl
  have lN' : ∀ c, sm (fN op c) M ≤ 16777216 := fun c => sm_lt (fN_le op c) hfl
  have lD : ∀ c, df op M c ≤ 33554432 := fun c => by have := lY c; have := lN' c; unfold df; omega
  have key : ∀ (f c : Nat) (y5 y7 : Int64), nc - c < f → c ≤ nc → (∀ b, bst op M c = some b → y5 = lN (sm (fB op b) M) ∧ y7 = lN (df op M b)) → wX7_bestCondition_L25 Q f (nI H) (nI F) (nI op) (oI (bst op M c)) y5 y7 (nI c) u := by
    intro f
    induction f with
    | zero => intro c y5 y7 h; omega
    | succ f ih =>
      intro c y5 y7 hf hc hy
      show wX7_bestCondition_B25 (wX7_bestCondition_L25 Q f) Q (nI H) (nI F) (nI op) (oI (bst op M c)) y5 y7 (nI c) u
      unfold wX7_bestCondition_B25
      rw [h11]
      refine pk_le nc c (fun hge => by rw [show c = nc by omega]; exact h) (fun hlt => ?_)
      rw [nI_shb (by omega) (by omega), nI_b0]
      refine ⟨fun hb => ⟨rs.length + 1, ?_⟩, fun hb => ?_⟩
      · have hb' : op.testBit c = true := Classical.not_not.mp hb
        have un : bst op M (c + 1) = (match bst op M c with
            | none => some c
            | some b => @ite _ (bet op M c b) (Classical.propDecidable _) (some c) (some b)) := by
          show (if op.testBit c = true then _ else bst op M c) = _
          rw [if_pos hb']
          rfl
        have l1 := lB c
        have l2 := lD c
        have new : bst op M (c + 1) = some c → wX7_bestCondition_b212 (wX7_bestCondition_L25 Q f) Q (nI H) (nI F) (nI op) (nI c) (lN (sm (fB op c) M)) (lN (df op M c)) u := by
          intro hs
          unfold wX7_bestCondition_b212 wX7_bestCondition_b224
          rw [nI_1]
          have := ih (c + 1) (lN (sm (fB op c) M)) (lN (df op M c)) (by omega) (by omega) (fun b hb2 => by rw [hs] at hb2; cases hb2; exact ⟨rfl, rfl⟩)
          rw [hs] at this
          exact this
        have old : ∀ b, bst op M c = some b → bst op M (c + 1) = some b → wX7_bestCondition_b224 (wX7_bestCondition_L25 Q f) Q (nI H) (nI F) (nI op) (nI b) y5 y7 (nI c) u := by
          intro b hb0 hs
          unfold wX7_bestCondition_b224
          rw [nI_1]
          have := ih (c + 1) y5 y7 (by omega) (by omega) (fun b2 hb2 => by rw [hs] at hb2; cases hb2; exact hy b hb0)
          rw [hs] at this
          exact this
        have fin : wX7_bestCondition_b181 (wX7_bestCondition_L25 Q f) Q (nI H) (nI F) (nI op) (oI (bst op M c)) y5 y7 (nI c) (lN (sm (fB op c) M)) (lN (df op M c)) u := by
          unfold wX7_bestCondition_b181
          cases hbs : bst op M c with
          | none =>
            rw [hbs] at un
            exact ⟨fun _ => new un, fun c => absurd (by decide) c⟩
          | some b =>
            rw [hbs] at un
            dsimp only at un
            have hbin := bst_in _ _ hbs
            have m1 := lB b
            have m2 := lD b
            refine ⟨fun e => absurd e (nI_pos (by omega)), fun _ => ?_⟩
            rw [(hy b hbs).1, (hy b hbs).2, lg_lt (by omega) (by omega), lg_eq (by omega) (by omega), lg_le (by omega) (by omega)]
            have old' := old b hbs
            rw [(hy b hbs).1, (hy b hbs).2] at old'
            refine ⟨fun h1 => new (by rw [un, if_pos (show bet op M c b from Or.inl h1)]), fun h1 => ⟨fun h2 => old' (by rw [un, if_neg (fun hh => by unfold bet at hh; omega)]), fun h2 => ⟨fun h3 => old' (by rw [un, if_neg (fun hh => by unfold bet at hh; omega)]), fun h3 => new (by rw [un, if_pos (show bet op M c b from Or.inr ⟨h2, by omega⟩)])⟩⟩⟩
        have := r_best55 (c := c) (K25 := wX7_bestCondition_L25 Q f) (x4 := oI (bst op M c)) (y5 := y5) (y7 := y7) h12 hl hT hB ho (by omega) (by rw [hM]; exact fin) rs [] (rs.length + 1) rfl (by omega)
        rw [List.filter_nil, show sm (fB op c) [] = 0 from rfl, show sm (fY op c) [] = 0 from rfl, show sm (fN op c) [] = 0 from rfl, show lN 0 - lN 0 = 0 from by decide] at this
        exact this
      · unfold wX7_bestCondition_b224
        have hs : bst op M (c + 1) = bst op M c := by
          show (if op.testBit c = true then _ else bst op M c) = bst op M c
          rw [if_neg hb]
        rw [nI_1]
        have := ih (c + 1) y5 y7 (by omega) (by omega) (fun b hb2 => hy b (by rw [← hs]; exact hb2))
        rw [hs] at this
        exact this
  exact ⟨nc + 1, key (nc + 1) 0 0 0 (by omega) (by omega) (fun b hb => by cases hb)⟩
