theorem okW_do : okNm [100, 111] := ⟨by decide, by decide, by decide⟩
theorem okW_if : okNm [105, 102] := ⟨by decide, by decide, by decide⟩
theorem pSign_le {tb : Nat → Nat} {n p c p' : Nat} (h : pSign tb n p c = .inr p') : p' ≤ n := by
  unfold pSign at h
  split at h
  · rename_i hh
    cases h
    have := hh.1
    omega
  · cases h
theorem pWord_le {tb : Nat → Nat} {n p p' : Nat} {w : List Nat} (hp : p ≤ n) (h : pWord tb n p w = .inr p') : p' ≤ n ∧ p < p' := by
  unfold pWord at h
  cases hpn : pName tb n p with
  | inl f => rw [hpn] at h; cases h
  | inr z =>
    obtain ⟨q, e⟩ := z
    rw [hpn] at h
    obtain ⟨-, h1, h2, h3, -⟩ := okNm_of hp hpn
    dsimp only at h
    split at h
    · cases h; exact ⟨h3, by omega⟩
    · cases h
/-- behind a rule's marks -/
theorem s_ruleT {tb : Nat → Nat} {n p t Y N : Nat} {u u0 : ST} {cs as : List (List Nat)} {rs : List (Nat × Nat × Nat)} {Q : Int32 → ST → Prop} (ht : t < 2) (hn : n ≤ 8000) (hp : p ≤ n) (hc : cTape u tb n) (h6 : gI u 6 = nI p) (hT : cTb u t cs rs as) (hr : rs.length < 256) (hF0 : pF t u0 u) (h80 : gI u 8 = gI u0 8)
    (h : cRes (match pWord tb n p [100, 111] with
      | .inl x => (.inl x : PR (Nat × List (Nat × Nat × Nat) × List (List Nat)))
      | .inr p2 => match pAct tb n p2 as with
        | .inl x => .inl x
        | .inr (e, as', a) => match pSign tb n e 59 with
          | .inl x => .inl x
          | .inr p' => .inr (p', rs ++ [(Y, N, a)], as')) (fun z => ∀ v, pF t u0 v → gI v 6 = nI z.1 → gI v 8 = gI u0 8 → z.1 ≤ n → cTb v t cs z.2.1 z.2.2 → Q 1 v) (badP t u0 Q)) :
    wX3_passName u (fun r_1 u_2 => ((r_1 = 0 → Q 0 u_2) ∧ (¬ r_1 = 0 → wX3_isWord 964 u_2 (fun r_3 u_4 => ((r_3 = 0 → Q 0 u_4) ∧ (¬ r_3 = 0 → wX3_passAction (2 * t + 1) u_4 (fun r_5 u_6 => ((¬ r_5 = 0 → wX1_find (2 * t + 1) (gJ u_6 0) u_6 (fun r_7 u_8 => wX2_add t (nI Y) (nI N) r_7 u_8 (fun u_10 => wX3_passByte 59 u_10 (fun r_11 u_12 => ((r_11 = 0 ∨ r_11 = 1) ∧ Q r_11 u_12))))) ∧ (r_5 = 0 → Q 0 u_6))))))))) := by
  rw [show (964 : Int64) = lN (pkL [100, 111]) from rfl]
  refine s_word t hn hp hc h6 okW_do ?_
  cases hpw : pWord tb n p [100, 111] with
  | inl x =>
    rw [hpw] at h
    exact hF0.bad h
  | inr p2 =>
    rw [hpw] at h
    dsimp only at h
    have hp2 := pWord_le hp hpw
    intro v hv g6 g8
    have hcv := hv.tape hc
    have hTv := hT.tf hv
    refine s_passAction ht hn hp2.1 hcv g6 hTv ?_
    cases hpa : pAct tb n p2 as with
    | inl x =>
      rw [hpa] at h
      intro w hw w8 w9
      exact ⟨fun c => absurd rfl c, fun _ => h w ((hF0.tr (hv.p t)).tr hw) w8 w9⟩
    | inr z =>
      obtain ⟨e, as', a⟩ := z
      rw [hpa] at h
      dsimp only at h
      intro w nm hw w6 w8 wT wok wj win wi wle
      have hcw := hw.tape hcv
      refine ⟨fun _ => ?_, fun c => absurd c (by decide)⟩
      rw [wj]
      dsimp only at w6 wT win wi wle
      refine s_find wT.2.1 wok (fun _ => ?_) (fun hne => absurd win hne)
      rw [wi]
      refine s_addR ht wT hr (fun y hy yk yT => ?_)
      rw [show (59 : Int32) = nI 59 from rfl]
      have hcy := hy.tape hcw
      refine s_passByte t hn wle hcy ((yk 6 (by omega)).trans w6) (by decide) ?_
      have hF3 : pF t u0 y := ((hF0.tr (hv.p t)).tr hw).tr hy
      cases hpb : pSign tb n e 59 with
      | inl x =>
        rw [hpb] at h
        intro x1 hx x8 x9
        exact ⟨Or.inl rfl, h x1 (hF3.tr hx) x8 x9⟩
      | inr p' =>
        rw [hpb] at h
        intro x1 hx x6 x8
        refine ⟨Or.inr rfl, h x1 (hF3.tr (hx.p t)) x6 ?_ (pSign_le hpb) (yT.tf hx)⟩
        rw [x8, yk 8 (by omega), w8, g8, h80]
theorem s_marksL {tb : Nat → Nat} {n t nc : Nat} {cs as : List (List Nat)} {rs : List (Nat × Nat × Nat)} {Q : Int32 → ST → Prop} (ht : t < 2) (hn : n ≤ 8000) (u0 : ST) (hnc : cs.length = nc) : ∀ (k f c p Y N : Nat) (u : ST), k < f → c + k = nc → p ≤ n → cTape u tb n → gI u 6 = nI p → cTb u t cs rs as → (k = 0 → rs.length < 256) → pF t u0 u → gI u 8 = gI u0 8 →
    cRes (match pMarks tb n (decide (rs.length = 256)) k c p Y N with
      | .inl x => (.inl x : PR (Nat × List (Nat × Nat × Nat) × List (List Nat)))
      | .inr (p1, Y, N) => match pWord tb n p1 [100, 111] with
        | .inl x => .inl x
        | .inr p2 => match pAct tb n p2 as with
          | .inl x => .inl x
          | .inr (e, as', a) => match pSign tb n e 59 with
            | .inl x => .inl x
            | .inr p' => .inr (p', rs ++ [(Y, N, a)], as')) (fun z => ∀ v, pF t u0 v → gI v 6 = nI z.1 → gI v 8 = gI u0 8 → z.1 ≤ n → cTb v t cs z.2.1 z.2.2 → Q 1 v) (badP t u0 Q) → wX3_passRule_L7 Q f t (nI Y) (nI N) (nI c) u := by
  intro k
  induction k with
  | zero =>
    intro f c p Y N u hf hck hp hc h6 hT hr hF h8 h
    obtain ⟨f, rfl⟩ : ∃ f', f = f' + 1 := ⟨f - 1, by omega⟩
    show wX3_passRule_B7 (wX3_passRule_L7 Q f) Q t (nI Y) (nI N) (nI c) u
    unfold wX3_passRule_B7
    have hle := hT.1.2.1
    rw [lenL_c ht] at hle
    rw [hT.1.1, n_le (by omega) (by omega)]
    refine ⟨fun _ => s_ruleT ht hn hp hc h6 hT (hr rfl) hF h8 h, fun c => absurd (by omega) c⟩
  | succ k ih =>
    intro f c p Y N u hf hck hp hc h6 hT hr hF h8 h
    obtain ⟨f, rfl⟩ : ∃ f', f = f' + 1 := ⟨f - 1, by omega⟩
    show wX3_passRule_B7 (wX3_passRule_L7 Q f) Q t (nI Y) (nI N) (nI c) u
    unfold wX3_passRule_B7
    have hle := hT.1.2.1
    rw [lenL_c ht] at hle
    rw [hT.1.1, n_le (by omega) (by omega)]
    refine ⟨fun c => absurd c (by omega), fun _ => ?_⟩
    refine s_look hn hp hc h6 (fun v hv => ?_)
    have hske := sk_le (tb := tb) hp
    have hcv := hv.1.tape hc
    have hTv := hT.tf hv.1
    unfold pMarks at h
    have bad : ¬ (sk tb n p < n ∧ (tb (sk tb n p) = 89 ∨ tb (sk tb n p) = 78 ∨ tb (sk tb n p) = 45)) → wX3_fail 1 (gI v 6) v (fun r_15 u_16 => ((r_15 = 0 ∨ r_15 = 1) ∧ Q r_15 u_16)) := by
      intro hb
      rw [if_neg hb] at h
      unfold wX3_fail
      exact ⟨Or.inl rfl, pFail (k := 1) (hF.tr (hv.1.p t)) (Or.inr hv.2.1) _ hv.2.1 h⟩
    refine ⟨fun hlt => ?_, fun hlt => ?_⟩
    · have hb := hc.lt hlt
      have go : (tb (sk tb n p) = 89 ∨ tb (sk tb n p) = 78 ∨ tb (sk tb n p) = 45) → wX3_passRule_b56 (wX3_passRule_L7 Q f) Q t (nI Y) (nI N) (nI c) (nI (tb (sk tb n p))) v := by
        intro hm
        rw [if_pos ⟨hlt, hm⟩] at h
        unfold wX3_passRule_b56
        have h256 := hTv.2.2.2.1
        rw [hTv.2.2.1, show (256 : Int32) = nI 256 from rfl, n_lt (by omega) (by omega)]
        refine ⟨fun hr1 => ?_, fun hr1 => ?_⟩
        · have e256 : ¬ rs.length = 256 := by omega
          simp only [e256, decide_false, Bool.false_eq_true, if_false] at h
          rw [show (89 : Int32) = nI 89 from rfl, nb hb (by decide)]
          have step : ∀ Y' N', Y' = (if tb (sk tb n p) = 89 then Y ||| 2 ^ c else Y) → N' = (if tb (sk tb n p) = 78 then N ||| 2 ^ c else N) → wX3_passRule_L7 Q f t (nI Y') (nI N') (nI c + 1) (sI v 6 (gI v 6 + 1)) := by
            intro Y' N' eY eN
            rw [nI_1, hv.2.1, nI_1]
            have hs6 : tF v (sI v 6 (nI (sk tb n p + 1))) := (tF.rf v).s 6 _ (by omega)
            refine ih f (c + 1) (sk tb n p + 1) Y' N' _ (by omega) (by omega) (by omega) (hs6.tape hcv) (by rw [gI_sI, if_pos rfl]) (hTv.tf hs6) (fun _ => hr1) ((hF.tr (hv.1.p t)).tr (hs6.p t)) ?_ ?_
            · rw [gI_sI, if_neg (by decide), hv.2.2.2.1, h8]
            · simp only [e256, decide_false]
              rw [eY, eN]
              exact h
          have st2 : ∀ Y', Y' = (if tb (sk tb n p) = 89 then Y ||| 2 ^ c else Y) → ∀ x0 x1 : Int32, x0 ||| x1 = nI Y' → wX3_passRule_b92 (wX3_passRule_L7 Q f) Q t (nI N) (nI c) (nI (tb (sk tb n p))) x0 x1 v := by
            intro Y' eY x0 x1 ex
            unfold wX3_passRule_b92 wX3_passRule_b110
            rw [show (78 : Int32) = nI 78 from rfl, nb hb (by decide), ex]
            refine ⟨fun h78 => ?_, fun h78 => ?_⟩
            · have := step Y' N eY (by rw [if_neg h78])
              rw [show (0 : Int32) = nI 0 from rfl, nI_or, Nat.or_zero]
              exact this
            · have := step Y' (N ||| 2 ^ c) eY (by rw [if_pos h78])
              rw [nI_pow (by omega), nI_or]
              exact this
          refine ⟨fun h89 => st2 Y (by rw [if_neg h89]) _ _ ?_, fun h89 => st2 (Y ||| 2 ^ c) (by rw [if_pos h89]) _ _ ?_⟩
          · rw [show (0 : Int32) = nI 0 from rfl, nI_or, Nat.or_zero]
          · rw [nI_pow (by omega), nI_or]
        · have e256 : rs.length = 256 := by omega
          simp only [e256, decide_true, if_true] at h
          unfold wX3_fail
          exact ⟨Or.inl rfl, pFail (k := 3) (hF.tr (hv.1.p t)) (Or.inr hv.2.1) _ hv.2.1 h⟩
      rw [show (89 : Int32) = nI 89 from rfl, show (78 : Int32) = nI 78 from rfl, show (45 : Int32) = nI 45 from rfl, nb hb (by decide), nb hb (by decide), nb hb (by decide)]
      exact ⟨fun e => go (Or.inl e), fun e1 => ⟨fun e => go (Or.inr (Or.inl e)), fun e2 => ⟨fun e => go (Or.inr (Or.inr e)), fun e3 => bad (fun hh => by rcases hh.2 with e | e | e; exact e1 e; exact e2 e; exact e3 e)⟩⟩⟩
    · exact ⟨fun e => absurd e (m1_ne 89 (by decide)), fun _ => ⟨fun e => absurd e (m1_ne 78 (by decide)), fun _ => ⟨fun e => absurd e (m1_ne 45 (by decide)), fun _ => bad (fun hh => hlt hh.1)⟩⟩⟩
theorem s_passRule {tb : Nat → Nat} {n p t : Nat} {u : ST} {cs as : List (List Nat)} {rs : List (Nat × Nat × Nat)} {Q : Int32 → ST → Prop} (ht : t < 2) (hn : n ≤ 8000) (hp : p ≤ n) (hc : cTape u tb n) (h6 : gI u 6 = nI p) (hT : cTb u t cs rs as) (hcs : 1 ≤ cs.length) (h : cRes (pRule tb n cs.length p rs as) (fun z => ∀ v, pF t u v → gI v 6 = nI z.1 → gI v 8 = gI u 8 → z.1 ≤ n → cTb v t cs z.2.1 z.2.2 → Q 1 v) (badP t u Q)) : wX3_passRule t u Q := by
  unfold wX3_passRule
  refine ⟨cs.length + 1, ?_⟩
  have := s_marksL (Q := Q) (as := as) (rs := rs) ht hn u (rfl : cs.length = cs.length) cs.length (cs.length + 1) 0 p 0 0 u (by omega) (by omega) hp hc h6 hT (fun e => by omega) ((tF.rf u).p t) rfl h
  exact this
theorem pRule_in {tb : Nat → Nat} {n nc p p' : Nat} {rs rs' : List (Nat × Nat × Nat)} {as as' : List (List Nat)} (hp : p ≤ n) (h : pRule tb n nc p rs as = .inr (p', rs', as')) : rs'.length = rs.length + 1 ∧ p < p' ∧ p' ≤ n := by
  have hm : ∀ (k c q Y N : Nat) (z : Nat × Nat × Nat), q ≤ n → pMarks tb n (decide (rs.length = 256)) k c q Y N = .inr z → q ≤ z.1 ∧ z.1 ≤ n := by
    intro k
    induction k with
    | zero => intro c q Y N z hq hz; unfold pMarks at hz; cases hz; exact ⟨Nat.le_refl _, hq⟩
    | succ k ih =>
      intro c q Y N z hq hz
      unfold pMarks at hz
      split at hz
      · rename_i hh
        split at hz
        · cases hz
        · have h1 := ih _ _ _ _ z (by have := hh.1; omega) hz
          have h2 := sk_ge (tb := tb) hq
          exact ⟨by omega, h1.2⟩
      · cases hz
  unfold pRule at h
  split at h
  · cases h
  · rename_i p1 Y N hpm
    have h1 := hm _ _ _ _ _ _ hp hpm
    dsimp only at h1
    split at h
    · cases h
    · rename_i p2 hpw
      have h2 := pWord_le h1.2 hpw
      split at h
      · cases h
      · rename_i e as1 a hpa
        have h3 : p2 ≤ e ∧ e ≤ n := by
          unfold pAct at hpa
          cases hpn : pName tb n p2 with
          | inl f => rw [hpn] at hpa; cases hpa
          | inr z =>
            obtain ⟨q, e1⟩ := z
            rw [hpn] at hpa
            obtain ⟨-, g1, g2, g3, -⟩ := okNm_of h2.1 hpn
            dsimp only at hpa
            split at hpa
            · cases hpa; exact ⟨by omega, g3⟩
            · split at hpa
              · cases hpa
              · cases hpa; exact ⟨by omega, g3⟩
        split at h
        · cases h
        · rename_i p3 hps
          cases h
          refine ⟨by simp, ?_, pSign_le hps⟩
          have g := sk_ge (tb := tb) h3.2
          unfold pSign at hps
          split at hps
          · cases hps; omega
          · cases hps
theorem s_rulesL {tb : Nat → Nat} {n t : Nat} {cs : List (List Nat)} {Q : Int32 → ST → Prop} (ht : t < 2) (hn : n ≤ 8000) (hcs : 1 ≤ cs.length) (u0 : ST) : ∀ (g f p : Nat) (u : ST) (rs : List (Nat × Nat × Nat)) (as : List (List Nat)), n + 1 < p + f → n + 1 < p + g → p ≤ n → cTape u tb n → gI u 6 = nI p → pF t u0 u → gI u 8 = gI u0 8 → cTb u t cs rs as → (rs = [] ∨ sk tb n p < n) → cRes (pRules tb n cs.length g p rs as) (fun z => ∀ v, pF t u0 v → gI v 8 = gI u0 8 → cTb v t cs z.1 z.2 → Q 1 v) (badP t u0 Q) → wX3_passRules_L2 Q f t (nI rs.length) u := by
  intro g
  induction g with
  | zero => intro f p u rs as h1 h2 hp; omega
  | succ g ih =>
    intro f p u rs as hf hg hp hc h6 hF h8 hT hmore h
    obtain ⟨f, rfl⟩ : ∃ f', f = f' + 1 := ⟨f - 1, by omega⟩
    show wX3_passRules_B2 (wX3_passRules_L2 Q f) Q t (nI rs.length) u
    unfold wX3_passRules_B2
    have h256 := hT.2.2.2.1
    rw [show (256 : Int32) = nI 256 from rfl, n_lt (by omega) (by omega)]
    refine ⟨fun c => absurd c (by omega), fun _ => ?_⟩
    -- the rule itself, from any state that stands at p or behind its blanks
    have body : ∀ (v : ST) (q : Nat), q ≤ n → sk tb n q = sk tb n p → p ≤ q → cTape v tb n → gI v 6 = nI q → pF t u0 v → gI v 8 = gI u0 8 → cTb v t cs rs as → wX3_passRules_b23 (wX3_passRules_L2 Q f) Q t (nI rs.length) v := by
      intro v q hq hskq hpq hcv hv6 hFv hv8 hTv
      have hpr : pRule tb n cs.length q rs as = pRule tb n cs.length p rs as := by
        unfold pRule
        have : pMarks tb n (decide (rs.length = 256)) cs.length 0 q 0 0 = pMarks tb n (decide (rs.length = 256)) cs.length 0 p 0 0 := by
          obtain ⟨m, hm⟩ : ∃ m, cs.length = m + 1 := ⟨cs.length - 1, by omega⟩
          rw [hm]
          unfold pMarks
          rw [hskq]
        rw [this]
      unfold wX3_passRules_b23
      refine s_passRule ht hn hq hcv hv6 hTv hcs ?_
      rw [hpr]
      unfold pRules at h
      cases hr : pRule tb n cs.length p rs as with
      | inl x =>
        rw [hr] at h
        intro w hw w8 w9
        exact ⟨fun c => absurd rfl c, fun _ => h w (hFv.tr hw) w8 w9⟩
      | inr z =>
        obtain ⟨p', rs', as'⟩ := z
        rw [hr] at h
        have hin := pRule_in hp hr
        intro w hw w6 w8 wle wT
        dsimp only at w6 wT wle h
        refine ⟨fun _ => ?_, fun c => absurd c (by decide)⟩
        rw [nI_1, ← hin.1]
        have hcw := hw.tape hcv
        by_cases hmo : sk tb n p' < n
        · rw [if_pos hmo] at h
          exact ih f p' w rs' as' (by omega) (by omega) wle hcw w6 (hFv.tr hw) (w8.trans hv8) wT (Or.inr hmo) h
        · rw [if_neg hmo] at h
          obtain ⟨f2, rfl⟩ : ∃ f', f = f' + 1 := ⟨f - 1, by omega⟩
          show wX3_passRules_B2 (wX3_passRules_L2 Q f2) Q t (nI rs'.length) w
          unfold wX3_passRules_B2
          have h256' := wT.2.2.2.1
          rw [show (256 : Int32) = nI 256 from rfl, n_lt (by omega) (by omega), show (0 : Int32) = nI 0 from rfl, n_le (by omega) (by omega)]
          refine ⟨fun c => absurd c (by omega), fun _ => ⟨fun c => absurd c (by omega), fun _ => ?_⟩⟩
          refine s_look hn wle hcw w6 (fun y hy => ⟨fun c => absurd c hmo, fun _ => ⟨fun c => absurd rfl c, fun _ => ?_⟩⟩)
          exact h y ((hFv.tr hw).tr (hy.1.p t)) (by rw [hy.2.2.2.1, w8, hv8]) (wT.tf hy.1)
    rw [show (0 : Int32) = nI 0 from rfl, n_le (by omega) (by omega)]
    refine ⟨fun _ => body u p hp rfl (Nat.le_refl _) hc h6 hF h8 hT, fun hne => ?_⟩
    have hmo : sk tb n p < n := by
      rcases hmore with e | e
      · rw [e] at hne; exact absurd (Nat.le_refl 0) hne
      · exact e
    refine s_look hn hp hc h6 (fun v hv => ⟨fun _ => ⟨fun _ => ?_, fun e => absurd e.symm (m1_ne _ (by have := hc.lt hmo; omega))⟩, fun c => absurd hmo c⟩)
    refine body v (sk tb n p) (by omega) ?_ (sk_ge hp) (hv.1.tape hc) hv.2.1 (hF.tr (hv.1.p t)) (by rw [hv.2.2.2.1, h8]) (hT.tf hv.1)
    refine sk_n (fun hh => ?_)
    have := (sk_in tb n _ p rfl hp).2.2 hh.1
    rw [this] at hh
    exact absurd hh.2 (by decide)
/-- THE CLASS READS: parse -/
theorem s_parse {tb : Nat → Nat} {n t : Nat} {u : ST} {Q : Int32 → ST → Prop} (ht : t < 2) (hn : n ≤ 8000) (hc : cTape u tb n) (h : cRes (pAll tb n) (fun z => ∀ v, pF t u v → gI v 8 = 0 → cTb v t z.1 z.2.1 z.2.2 → Q 1 v) (badP t u Q)) : wX3_parse t u Q := by
  unfold wX3_parse wX2_clear
  have e13 : 12 + (2 * t + 1) = 13 + 2 * t := by omega
  generalize hu1 : sI (sI (sI (sI (sI u 6 0) 8 0) (12 + 2 * t) 0) (12 + (2 * t + 1)) 0) (10 + t) 0 = u1
  have hF1 : pF t u u1 := by
    rw [← hu1]
    refine ⟨fun j a b c d e f g => ?_, rfl, fun _ _ _ _ => rfl, fun _ _ _ => rfl, fun _ => rfl⟩
    rw [gI_sI, if_neg e, gI_sI, if_neg (by omega), gI_sI, if_neg f, gI_sI, if_neg c, gI_sI, if_neg a]
  have g6 : gI u1 6 = nI 0 := by
    rw [← hu1, gI_sI, if_neg (by omega), gI_sI, if_neg (by omega), gI_sI, if_neg (by omega), gI_sI, if_neg (by omega), gI_sI, if_pos rfl]; rfl
  have g8 : gI u1 8 = 0 := by
    rw [← hu1, gI_sI, if_neg (by omega), gI_sI, if_neg (by omega), gI_sI, if_neg (by omega), gI_sI, if_pos rfl]
  have gT : cTb u1 t [] [] [] := by
    rw [← hu1]
    refine ⟨⟨?_, by simp, by simp, by simp⟩, ⟨?_, by simp, by simp, by simp⟩, ?_, by simp, by simp⟩
    · rw [gI_sI, if_neg (by omega), gI_sI, if_neg (by omega), gI_sI, if_pos rfl]; rfl
    · rw [gI_sI, if_neg (by omega), gI_sI, if_pos rfl]; rfl
    · rw [gI_sI, if_pos rfl]; rfl
  have hc1 := hF1.tape hc
  rw [show (393 : Int64) = lN (pkL [105, 102]) from rfl]
  refine s_word t hn (Nat.zero_le n) hc1 g6 okW_if ?_
  unfold pAll at h
  cases hpw : pWord tb n 0 [105, 102] with
  | inl x =>
    rw [hpw] at h
    exact hF1.bad h
  | inr p1 =>
    rw [hpw] at h
    dsimp only at h
    have hp1 := pWord_le (Nat.zero_le n) hpw
    intro v hv v6 v8
    have hcv := hv.tape hc1
    have hFv : pF t u v := hF1.tr (hv.p t)
    unfold wX3_passConditions
    refine ⟨n + 2, s_condsL ht hn v (n + 2) (n + 2) p1 v [] (by omega) (by omega) hp1.1 hcv v6 ((tF.rf v).p t) rfl (gT.tf hv) ?_⟩
    cases hpc : pConds tb n (n + 2) p1 [] with
    | inl x =>
      rw [hpc] at h
      intro w hw w8 w9
      exact ⟨fun _ => h w (hFv.tr hw) w8 w9, fun c => absurd rfl c⟩
    | inr z =>
      obtain ⟨p2, cs⟩ := z
      rw [hpc] at h
      dsimp only at h
      have hcs : 1 ≤ cs.length := by
        have key : ∀ (g p : Nat) (cs0 : List (List Nat)) (z : Nat × List (List Nat)), pConds tb n g p cs0 = .inr z → 1 ≤ z.2.length := by
          intro g
          induction g with
          | zero => intro p cs0 z hz; cases hz
          | succ g ih =>
            intro p cs0 z hz
            unfold pConds at hz
            cases hpk : pCond tb n p cs0 with
            | inl x => rw [hpk] at hz; cases hz
            | inr y =>
              obtain ⟨e, cs'⟩ := y
              rw [hpk] at hz
              dsimp only at hz
              split at hz
              · exact ih _ _ _ hz
              · split at hz
                · cases hz
                · cases hz
                  unfold pCond at hpk
                  cases hpn : pName tb n p with
                  | inl f => rw [hpn] at hpk; cases hpk
                  | inr y2 =>
                    rw [hpn] at hpk
                    dsimp only at hpk
                    split at hpk
                    · cases hpk
                    · split at hpk
                      · cases hpk
                      · cases hpk; simp
        exact key _ _ _ _ hpc
      intro w hw w6 w8 wle wT
      dsimp only at w6 wT wle
      refine ⟨fun c => absurd c (by decide), fun _ => ?_⟩
      have hcw := hw.tape hcv
      unfold wX3_passRules
      refine ⟨n + 2, s_rulesL ht hn hcs w (n + 2) (n + 2) p2 w [] [] (by omega) (by omega) wle hcw w6 ((tF.rf w).p t) rfl wT (Or.inl rfl) ?_⟩
      cases hpr : pRules tb n cs.length (n + 2) p2 [] [] with
      | inl x =>
        rw [hpr] at h
        intro y hy y8 y9
        exact ⟨fun _ => h y ((hFv.tr hw).tr hy) y8 y9, fun c => absurd rfl c⟩
      | inr z =>
        obtain ⟨rs, as⟩ := z
        rw [hpr] at h
        intro y hy y8 yT
        refine ⟨fun c => absurd c (by decide), fun _ => h y ((hFv.tr hw).tr hy) ?_ yT⟩
        rw [y8, w8, v8, g8]
