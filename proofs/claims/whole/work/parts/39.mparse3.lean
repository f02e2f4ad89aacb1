/-! THE REFERENCE: rules -/
theorem mF.rf (u : ST) : mF u u := (mf.rf u).F
/-- with a fault a rule ends -/
theorem r_ruleBad {u0 u : ST} {k q : Nat} {Q : ST → Prop} {x1 : Int32} (hF : mF u0 u) (v4 : gI u 4 = nI k) (v3 : gI u 3 = nI q) (k1 : 1 ≤ k) (k3 : k ≤ 3) (h : badM u0 Q k q) : (∀ x3 xs, xs = gI u 3 → wX7_readRule_b289 Q x1 x3 xs u) ∧ (∀ x2 x3, wX7_readRule_b273 Q x1 x2 x3 u) ∧ (∀ x2 x3, wX7_readRule_b213 Q x1 x2 x3 u) ∧ (∀ x2, wX7_readRule_b190 Q x1 x2 u) ∧ wX7_readRule_b167 Q x1 u := by
  have hne : ¬ gI u 4 = 0 := by rw [v4]; exact nI_ne0 (by omega) (by omega)
  have a1 : ∀ x3 xs, xs = gI u 3 → wX7_readRule_b289 Q x1 x3 xs u := by
    intro x3 xs hxs
    unfold wX7_readRule_b289
    have hb : mBd u (sI u 3 xs) k q := ⟨(mf.rf u).s 3 _ (by omega), by rw [gI_sI, if_neg (by decide)]; exact v4, by rw [gI_sI, if_pos rfl, hxs]; exact v3⟩
    refine r_sign_bad hb k1 k3 (fun w hw => ⟨fun _ => h w (hF.tr hw.1.F) hw.2.1 hw.2.2 k1 k3, fun c => absurd c (by rw [hw.2.1]; exact nI_ne0 (by omega) (by omega))⟩)
  have a2 : ∀ x2 x3, wX7_readRule_b273 Q x1 x2 x3 u := fun x2 x3 => ⟨fun _ => a1 x3 _ rfl, fun c => absurd c hne⟩
  have a3 : ∀ x2 x3, wX7_readRule_b213 Q x1 x2 x3 u := fun x2 x3 => ⟨fun _ => a2 x2 x3, fun c => absurd c hne⟩
  have a4 : ∀ x2, wX7_readRule_b190 Q x1 x2 u := fun x2 => ⟨fun _ => a3 x2 0, fun c => absurd c hne⟩
  refine ⟨a1, a2, a3, a4, ?_⟩
  unfold wX7_readRule_b167
  exact r_word_bad (u := u) ⟨mf.rf u, v4, v3⟩ k1 k3 ⟨fun _ => a4 0, fun c => absurd c hne⟩
theorem pWord_k {tb : Nat → Nat} {n p : Nat} {w : List Nat} {f : Nat × Nat} (h : pWord tb n p w = .inl f) : f.1 = 1 := by
  unfold pWord at h
  cases hpn : pName tb n p with
  | inl g => rw [hpn] at h; cases h; exact pName_k hpn
  | inr z =>
    obtain ⟨q, e⟩ := z
    rw [hpn] at h
    dsimp only at h
    split at h
    · cases h
    · cases h; rfl
theorem pSign_k {tb : Nat → Nat} {n p c : Nat} {f : Nat × Nat} (h : pSign tb n p c = .inl f) : f.1 = 1 := by
  unfold pSign at h
  split at h
  · cases h
  · cases h; rfl
/-- the rule's end: action known, at e -/
theorem r_ruleS {tb : Nat → Nat} {n e Y N a : Nat} {u u0 : ST} {cs as : List (List Nat)} {rs : List (Nat × Nat × Nat)} {Q : ST → Prop} (hn : n ≤ 8000) (hb : ∀ i, i < n → tb i < 256) (hen : e ≤ n) (hm : mTape u tb n) (h4 : gI u 4 = 0) (hT : mTb u cs rs as) (hr : rs.length < 256) (h7 : gR u 7 (256 + rs.length) = nI Y) (h8 : gR u 8 (256 + rs.length) = nI N) (hF0 : mF u0 u)
    (h : cRes (match pSign tb n e 59 with
          | .inl x => (.inl x : PR (Nat × List (Nat × Nat × Nat) × List (List Nat)))
          | .inr p' => .inr (p', rs ++ [(Y, N, a)], as)) (fun z => ∀ v, mF u0 v → gI v 3 = nI z.1 → gI v 4 = 0 → mTb v cs z.2.1 z.2.2 → Q v) (badM u0 Q)) : wX7_readRule_b273 Q (nI (256 + rs.length)) (nI e) (nI a) u := by
  unfold wX7_readRule_b273
  refine ⟨fun c => absurd h4 c, fun _ => ?_⟩
  unfold wX7_readRule_b289
  have hmf : mf u (sI u 3 (nI e)) := (mf.rf u).s 3 _ (by omega)
  rw [show (59 : Int32) = nI 59 from rfl]
  refine r_sign hn hb hen (hmf.tape hm) (by rw [gI_sI, if_pos rfl]) (by rw [gI_sI, if_neg (by decide)]; exact h4) (by decide) ?_
  cases hps : pSign tb n e 59 with
  | inl x =>
    rw [hps] at h
    have hk := pSign_k hps
    intro v hv
    refine ⟨fun _ => h v (hF0.tr (hmf.tr hv.1).F) hv.2.1 hv.2.2 (by omega) (by omega), fun c => absurd c (by rw [hv.2.1, hk]; decide)⟩
  | inr p' =>
    rw [hps] at h
    intro v hv
    have v4 : gI v 4 = 0 := by rw [hv.1 4 (by decide), gI_sI, if_neg (by decide)]; exact h4
    refine ⟨fun c => absurd v4 c, fun _ => ⟨vp_in_nI (by omega) (by omega), ?_⟩⟩
    rw [cl_nI (by omega)]
    have hTv := hT.f (hmf.tr hv.f)
    have hFv : mF u0 v := hF0.tr (hmf.tr hv.f).F
    have hlen : (rs ++ [(Y, N, a)]).length = rs.length + 1 := by simp
    refine h _ (hFv.tr ⟨fun k _ _ _ b _ => ?_, fun k hk => ?_, fun i hi => ?_, fun i hi => ?_, fun k i _ _ hi => ?_⟩) ?_ ?_ ⟨?_, ?_, ?_, hT.2.2.2.1, ?_, hT.2.2.2.2.2.1, ?_, ?_, ?_⟩
    · rw [gI_sI, if_neg b]; rfl
    · rw [gR_sI, gR_sR, if_neg (by omega)]
    · rw [gR_sI, gR_sR, if_neg (by decide)]
    · rw [gR_sI, gR_sR, if_neg (by decide)]
    · rw [gR_sI, gR_sR]
      split
      · rename_i e9; rw [pk_un (by omega), e9]
      · rfl
    · rw [gI_sI, if_neg (by decide)]; exact hv.2.2
    · rw [gI_sI, if_neg (by decide)]; exact v4
    · rw [gI_sI, if_neg (by decide)]; exact hTv.1
    · rw [gI_sI, if_pos rfl, gI_sR, hTv.2.1, nI_1, hlen]
    · rw [gI_sI, if_neg (by decide)]; exact hTv.2.2.1
    · rw [hlen]; omega
    · exact hTv.2.2.2.2.2.2.1.congr (by rw [gR_sI, gR_sR, if_neg (by decide)]) (by rw [gR_sI, gR_sR, if_neg (by decide)])
    · exact hTv.2.2.2.2.2.2.2.1.congr (by rw [gR_sI, gR_sR, if_neg (by decide)]) (by rw [gR_sI, gR_sR, if_neg (by decide)])
    · intro k r hk
      simp only [gR_sI, gR_sR]
      rw [if_neg (by decide), if_neg (by decide), if_pos trivial]
      by_cases he : k = rs.length
      · subst he
        simp at hk
        subst hk
        rw [pk_us, (hmf.tr hv.f).2, (hmf.tr hv.f).2]
        exact ⟨h7, h8, rfl⟩
      · have hlt : k < rs.length := by
          have := (List.getElem?_eq_some_iff.mp hk).1
          simp at this
          omega
        rw [List.getElem?_append_left hlt] at hk
        rw [pk_un (by omega)]
        exact hTv.2.2.2.2.2.2.2.2 k r hk
theorem pAct_k {tb : Nat → Nat} {n p : Nat} {as : List (List Nat)} {f : Nat × Nat} (h : pAct tb n p as = .inl f) : 1 ≤ f.1 ∧ f.1 ≤ 3 := by
  unfold pAct at h
  cases hpn : pName tb n p with
  | inl g => rw [hpn] at h; cases h; have := pName_k hpn; omega
  | inr z =>
    obtain ⟨q, e⟩ := z
    rw [hpn] at h
    dsimp only at h
    split at h
    · cases h
    · split at h
      · cases h; simp
      · cases h
/-- behind a rule's marks -/
theorem r_ruleT {tb : Nat → Nat} {n p Y N : Nat} {u u0 : ST} {cs as : List (List Nat)} {rs : List (Nat × Nat × Nat)} {Q : ST → Prop} (hn : n ≤ 8000) (hb : ∀ i, i < n → tb i < 256) (hp : p ≤ n) (hm : mTape u tb n) (h3 : gI u 3 = nI p) (h4 : gI u 4 = 0) (hT : mTb u cs rs as) (hr : rs.length < 256) (h7 : gR u 7 (256 + rs.length) = nI Y) (h8 : gR u 8 (256 + rs.length) = nI N) (hF0 : mF u0 u)
    (h : cRes (match pWord tb n p [100, 111] with
      | .inl x => (.inl x : PR (Nat × List (Nat × Nat × Nat) × List (List Nat)))
      | .inr p2 => match pAct tb n p2 as with
        | .inl x => .inl x
        | .inr (e, as', a) => match pSign tb n e 59 with
          | .inl x => .inl x
          | .inr p' => .inr (p', rs ++ [(Y, N, a)], as')) (fun z => ∀ v, mF u0 v → gI v 3 = nI z.1 → gI v 4 = 0 → mTb v cs z.2.1 z.2.2 → Q v) (badM u0 Q)) : wX7_readRule_b167 Q (nI (256 + rs.length)) u := by
  unfold wX7_readRule_b167
  rw [show (100 : Int32) = nI 100 from rfl, show (111 : Int32) = nI 111 from rfl]
  refine r_word hn hb hp hm h3 h4 (by decide) (by decide) ?_
  cases hpw : pWord tb n p [100, 111] with
  | inl x =>
    rw [hpw] at h
    intro k1 k3 v hv
    have hB := r_ruleBad (x1 := nI (256 + rs.length)) (hF0.tr hv.1.F) hv.2.1 hv.2.2 k1 k3 h
    exact ⟨fun _ => hB.2.2.2.1 0, fun c => absurd c (by rw [hv.2.1]; exact nI_ne0 (by omega) (by omega))⟩
  | inr p2 =>
    rw [hpw] at h
    dsimp only at h
    have hp2 := pWord_le hp hpw
    intro v hv
    have v4 : gI v 4 = 0 := (hv.1 4 (by decide)).trans h4
    refine ⟨fun c => absurd v4 c, fun _ => ?_⟩
    have hmv := hv.f.tape hm
    have hTv := hT.f hv.f
    refine r_nameEnd hn hb hp2.1 hmv hv.2.2 v4 ?_
    unfold pAct at h
    cases hpn : pName tb n p2 with
    | inl f =>
      rw [hpn] at h
      have hk := pName_k hpn
      intro w r hw
      exact (r_ruleBad (x1 := nI (256 + rs.length)) (hF0.tr (hv.f.tr hw.1).F) hw.2.1 hw.2.2 (by omega) (by omega) h).2.2.2.1 r
    | inr z =>
      obtain ⟨q, e⟩ := z
      rw [hpn] at h
      obtain ⟨hok, hpq, hqe, hen, -⟩ := okNm_of hp2.1 hpn
      dsimp only at h
      intro w hw
      dsimp only at hw ⊢
      have w4 : gI w 4 = 0 := (hw.1 4 (by decide)).trans v4
      have hmw := hw.f.tape hmv
      have hTw := hTv.f hw.f
      have hFw : mF u0 w := hF0.tr (hv.f.tr hw.f).F
      have w7 : gR w 7 (256 + rs.length) = nI Y := by rw [(hv.f.tr hw.f).2]; exact h7
      have w8 : gR w 8 (256 + rs.length) = nI N := by rw [(hv.f.tr hw.f).2]; exact h8
      have h10 : e - q ≤ 10 := by have := hok.2.1; rw [nmL_len] at this; exact this
      have ha64 := hT.2.2.2.2.2.1
      refine ⟨fun c => absurd w4 c, fun _ => ?_⟩
      rw [hTw.2.2.1]
      refine r_find (base := 96) hn hb hmw hw.2.2 (by omega) hen (by omega) hTw.2.2.2.2.2.2.2.1 (fun hin => ?_) (fun hin => ?_)
      · rw [if_pos hin] at h
        refine ⟨fun c => absurd w4 c, fun _ => ⟨fun _ => ?_, fun c => absurd (nI_pos' (by have := (fIdx_lt hin).1; omega)) c⟩⟩
        exact r_ruleS hn hb hen hmw w4 hTw hr w7 w8 hFw h
      · rw [if_neg hin] at h
        refine ⟨fun c => absurd w4 c, fun _ => ⟨fun c => absurd c (by decide), fun _ => ?_⟩⟩
        rw [hTw.2.2.1]
        refine ne_eq as.length 64 (fun hne => ?_) (fun heq => ?_)
        · rw [if_neg hne] at h
          rw [show (96 : Int32) = nI 96 from rfl, nI_add]
          refine r_store hn hmw hw.2.2 (by omega) hen (by omega) h10 (fun y b1 b2 b3 b4 b5 b6 => ?_)
          have hnl : (nmL tb q e).length = e - q := nmL_len _ _ _
          have hlen : (as ++ [nmL tb q e]).length = as.length + 1 := by simp
          have y16 : gI y 16 = nI as.length := (b1 16).trans hTw.2.2.1
          rw [y16, nI_1]
          have hFy : mF w (sI y 16 (nI (as.length + 1))) := by
            refine ⟨fun k _ _ _ _ c => ?_, fun k hk => ?_, fun i hi => ?_, fun i hi => ?_, fun k i k7 k9 hi => ?_⟩
            · rw [gI_sI, if_neg c, b1]
            · show gR y k = gR w k
              rw [b2 k (by omega) (by omega)]
            · show gR y 5 i = gR w 5 i
              rw [b5 i (by omega)]
            · show gR y 6 i = gR w 6 i
              rw [b3 i (by omega)]
            · show gR y k i = gR w k i
              rw [b2 k (by omega) (by omega)]
          refine r_ruleS (cs := cs) (as := as ++ [nmL tb q e]) hn hb hen (hFy.tape hmw) ?_ ⟨?_, ?_, ?_, hT.2.2.2.1, hT.2.2.2.2.1, ?_, ?_, ?_, ?_⟩ hr ?_ ?_ (hFw.tr hFy) h
          · rw [gI_sI, if_neg (by decide), b1]; exact w4
          · rw [gI_sI, if_neg (by decide), b1]; exact hTw.1
          · rw [gI_sI, if_neg (by decide), b1]; exact hTw.2.1
          · rw [gI_sI, if_pos rfl, hlen]
          · rw [hlen]; omega
          · exact mNm.congr (u := y) (mNm.other (K := 96 + as.length) hTw.2.2.2.2.2.2.1 (by have := hT.2.2.2.1; omega) h10 b3 b5) rfl rfl
          · refine mNm.congr (u := y) (mNm.snoc hTw.2.2.2.2.2.2.2.1 hok b3 (by rw [hnl]; exact b4) (by rw [hnl]; exact b5) (fun i b hib => ?_)) rfl rfl
            have hio := okNm_at hok hib
            rw [hnl] at hio
            rw [b6 i hio.2]
            rw [nmL_at hio.2] at hib
            rw [Option.some.inj hib, sb_lo _ hio.1]
          · intro k r hk
            show gR y 7 _ = _ ∧ gR y 8 _ = _ ∧ gR y 9 _ = _
            rw [b2 7 (by decide) (by decide), b2 8 (by decide) (by decide), b2 9 (by decide) (by decide)]
            exact hTw.2.2.2.2.2.2.2.2 k r hk
          · show gR y 7 _ = _
            rw [b2 7 (by decide) (by decide)]; exact w7
          · show gR y 8 _ = _
            rw [b2 8 (by decide) (by decide)]; exact w8
        · rw [if_pos heq] at h
          rw [hw.2.2]
          exact r_bad (k := 3) w4 hw.f (fun y hy => (r_ruleBad (x1 := nI (256 + rs.length)) ((hF0.tr hv.f.F).tr hy.1.F) hy.2.1 hy.2.2 (by omega) (by omega) h).2.1 _ _)
theorem r_marksL {tb : Nat → Nat} {n : Nat} {cs as : List (List Nat)} {rs : List (Nat × Nat × Nat)} {Q : ST → Prop} (hn : n ≤ 8000) (hb : ∀ i, i < n → tb i < 256) (u0 : ST) : ∀ (k f c p Y N : Nat) (u : ST), k + 1 < f → c + k = cs.length → p ≤ n → mTape u tb n → gI u 3 = nI p → gI u 4 = 0 → mTb u cs rs as → (k = 0 → rs.length < 256) → (c = 0 → Y = 0 ∧ N = 0) → (0 < c → gR u 7 (256 + rs.length) = nI Y ∧ gR u 8 (256 + rs.length) = nI N) → (k = 0 → 0 < c) → mF u0 u →
    cRes (match pMarks tb n (decide (rs.length = 256)) k c p Y N with
      | .inl x => (.inl x : PR (Nat × List (Nat × Nat × Nat) × List (List Nat)))
      | .inr (p1, Y, N) => match pWord tb n p1 [100, 111] with
        | .inl x => .inl x
        | .inr p2 => match pAct tb n p2 as with
          | .inl x => .inl x
          | .inr (e, as', a) => match pSign tb n e 59 with
            | .inl x => .inl x
            | .inr p' => .inr (p', rs ++ [(Y, N, a)], as')) (fun z => ∀ v, mF u0 v → gI v 3 = nI z.1 → gI v 4 = 0 → mTb v cs z.2.1 z.2.2 → Q v) (badM u0 Q) → wX7_readRule_L11 Q f (nI (256 + rs.length)) (nI c) u := by
  intro k
  induction k with
  | zero =>
    intro f c p Y N u hf hck hp hm h3 h4 hT hr hc0 hc1 hk0 hF h
    obtain ⟨f, rfl⟩ : ∃ f', f = f' + 1 := ⟨f - 1, by omega⟩
    show wX7_readRule_B11 (wX7_readRule_L11 Q f) Q (nI (256 + rs.length)) (nI c) u
    unfold wX7_readRule_B11
    have hle := hT.2.2.2.1
    rw [hT.1]
    have hyn := hc1 (hk0 rfl)
    refine pk_le cs.length c (fun _ => r_ruleT hn hb hp hm h3 h4 hT (hr rfl) hyn.1 hyn.2 hF h) (fun c => absurd c (by omega))
  | succ k ih =>
    intro f c p Y N u hf hck hp hm h3 h4 hT hr hc0 hc1 hk0 hF h
    obtain ⟨f, rfl⟩ : ∃ f', f = f' + 1 := ⟨f - 1, by omega⟩
    show wX7_readRule_B11 (wX7_readRule_L11 Q f) Q (nI (256 + rs.length)) (nI c) u
    unfold wX7_readRule_B11
    have hle := hT.2.2.2.1
    rw [hT.1]
    refine pk_le cs.length c (fun c => absurd c (by omega)) (fun _ => ⟨fun c => absurd h4 c, fun _ => ?_⟩)
    refine r_look hn hb hp hm h3 (fun v hv => ?_)
    have v4 : gI v 4 = 0 := (hv.1 4 (by decide)).trans h4
    have hske := sk_le (tb := tb) hp
    have hmv := hv.f.tape hm
    have hTv := hT.f hv.f
    unfold pMarks at h
    have flt : ∀ (w : ST) (j q : Nat), mF u0 w → gI w 4 = nI j → gI w 3 = nI q → 1 ≤ j → j ≤ 3 → badM u0 Q j q → wX7_readRule_b161 (wX7_readRule_L11 Q f) Q (nI (256 + rs.length)) (nI c) w := by
      intro w j q hFw w4 w3 j1 j3 hh
      obtain ⟨f2, rfl⟩ : ∃ f', f = f' + 1 := ⟨f - 1, by omega⟩
      have hne : ¬ gI w 4 = 0 := by rw [w4]; exact nI_ne0 (by omega) (by omega)
      have hB := (r_ruleBad (x1 := nI (256 + rs.length)) hFw w4 w3 j1 j3 hh).2.2.2.2
      exact ⟨fun _ => hB, fun _ => ⟨fun _ => hB, fun c => absurd c hne⟩⟩
    have bad : ¬ (sk tb n p < n ∧ (tb (sk tb n p) = 89 ∨ tb (sk tb n p) = 78 ∨ tb (sk tb n p) = 45)) → wX7_bad 1 (gI v 3) v (fun u_4 => wX7_readRule_b161 (wX7_readRule_L11 Q f) Q (nI (256 + rs.length)) (nI c) u_4) := by
      intro hne
      rw [if_neg hne] at h
      rw [hv.2.2]
      exact r_bad (k := 1) v4 hv.f (fun w hw => flt w 1 _ (hF.tr hw.1.F) hw.2.1 hw.2.2 (by omega) (by omega) h)
    refine ⟨fun hlt => ?_, fun hlt => ?_⟩
    · have hbt := hb _ hlt
      have go : (tb (sk tb n p) = 89 ∨ tb (sk tb n p) = 78 ∨ tb (sk tb n p) = 45) → wX7_readRule_b61 (wX7_readRule_L11 Q f) Q (nI (256 + rs.length)) (nI c) (nI (tb (sk tb n p))) v := by
        intro hmk
        rw [if_pos ⟨hlt, hmk⟩] at h
        unfold wX7_readRule_b61
        have h256 := hTv.2.2.2.2.1
        rw [hTv.2.1]
        refine ne_eq rs.length 256 (fun hne => ?_) (fun heq => ?_)
        · have hr1 : rs.length < 256 := by omega
          simp only [hne, decide_false, Bool.false_eq_true, if_false] at h
          -- the second half: no
          have s2 : ∀ (xs2 xs3 : Int32) (Y' : Nat), Y' = (if tb (sk tb n p) = 89 then Y ||| 2 ^ c else Y) → xs2 ||| xs3 = nI Y' → wX7_readRule_b115 (wX7_readRule_L11 Q f) Q (nI (256 + rs.length)) (nI c) (nI (tb (sk tb n p))) (nI (256 + rs.length)) xs2 xs3 v := by
            intro xs2 xs3 Y' eY ex
            unfold wX7_readRule_b115
            refine ⟨vp_in_nI (by omega) (by omega), ?_⟩
            rw [cl_nI (by omega), ex]
            have s3 : ∀ (ys2 ys3 : Int32) (N' : Nat), N' = (if tb (sk tb n p) = 78 then N ||| 2 ^ c else N) → ys2 ||| ys3 = nI N' → wX7_readRule_b149 (wX7_readRule_L11 Q f) Q (nI (256 + rs.length)) (nI c) (nI (256 + rs.length)) ys2 ys3 (sR v 7 (256 + rs.length) (nI Y')) := by
              intro ys2 ys3 N' eN ey
              unfold wX7_readRule_b149
              refine ⟨vp_in_nI (by omega) (by omega), ?_⟩
              rw [cl_nI (by omega), ey]
              unfold wX7_readRule_b161
              rw [gI_sR, gI_sR, hv.2.2, nI_1, nI_1]
              have hF7 : mF v (sI (sR (sR v 7 (256 + rs.length) (nI Y')) 8 (256 + rs.length) (nI N')) 3 (nI (sk tb n p + 1))) := by
                refine ⟨fun k a _ _ _ _ => by rw [gI_sI, if_neg a]; rfl, fun k hk => ?_, fun i _ => ?_, fun i _ => ?_, fun k i k7 k9 hi => ?_⟩
                · rw [gR_sI, gR_sR, if_neg (by omega), gR_sR, if_neg (by omega)]
                · rw [gR_sI, gR_sR, if_neg (by decide), gR_sR, if_neg (by decide)]
                · rw [gR_sI, gR_sR, if_neg (by decide), gR_sR, if_neg (by decide)]
                · simp only [gR_sI, gR_sR]
                  split
                  · rename_i e8; rw [pk_un (by omega), if_neg (by decide), e8]
                  · split
                    · rename_i e7; rw [pk_un (by omega), e7]
                    · rfl
              refine ih f (c + 1) (sk tb n p + 1) Y' N' _ (by omega) (by omega) (by omega) (hF7.tape hmv) (by rw [gI_sI, if_pos rfl]) (by rw [gI_sI, if_neg (by decide)]; exact v4) ?_ (fun _ => hr1) (fun e => by omega) (fun _ => ?_) (fun _ => by omega) ((hF.tr hv.f.F).tr hF7) ?_
              · refine ⟨?_, ?_, ?_, hTv.2.2.2.1, hTv.2.2.2.2.1, hTv.2.2.2.2.2.1, ?_, ?_, ?_⟩
                · rw [gI_sI, if_neg (by decide)]; exact hTv.1
                · rw [gI_sI, if_neg (by decide)]; exact hTv.2.1
                · rw [gI_sI, if_neg (by decide)]; exact hTv.2.2.1
                · exact hTv.2.2.2.2.2.2.1.congr (by rw [gR_sI, gR_sR, if_neg (by decide), gR_sR, if_neg (by decide)]) (by rw [gR_sI, gR_sR, if_neg (by decide), gR_sR, if_neg (by decide)])
                · exact hTv.2.2.2.2.2.2.2.1.congr (by rw [gR_sI, gR_sR, if_neg (by decide), gR_sR, if_neg (by decide)]) (by rw [gR_sI, gR_sR, if_neg (by decide), gR_sR, if_neg (by decide)])
                · intro j r hj
                  have hjl := (List.getElem?_eq_some_iff.mp hj).1
                  simp only [gR_sI, gR_sR]
                  rw [if_neg (by decide), if_pos trivial, if_pos trivial, if_neg (by decide), if_neg (by decide), if_neg (by decide), pk_un (by omega), pk_un (by omega)]
                  exact hTv.2.2.2.2.2.2.2.2 j r hj
              · simp only [gR_sI, gR_sR]
                rw [if_neg (by decide), if_pos trivial, if_pos trivial, pk_us, pk_us]
                exact ⟨rfl, rfl⟩
              · simp only [hne, decide_false]
                rw [eY, eN]
                exact h
            have s3' : ∀ ys2 : Int32, ys2 = nI N → wX7_readRule_b136 (wX7_readRule_L11 Q f) Q (nI (256 + rs.length)) (nI c) (nI (tb (sk tb n p))) (nI (256 + rs.length)) ys2 (sR v 7 (256 + rs.length) (nI Y')) := by
              intro ys2 ey
              unfold wX7_readRule_b136
              refine ne_eq (tb (sk tb n p)) 78 (fun h78 => s3 _ _ N (by rw [if_neg h78]) ?_) (fun h78 => s3 _ _ (N ||| 2 ^ c) (by rw [if_pos h78]) ?_)
              · rw [ey, show (0 : Int32) = nI 0 from rfl, nI_or, Nat.or_zero]
              · rw [ey, nI_pow (by omega), nI_or]
            refine ne_eq c 0 (fun hc => ⟨vp_in_nI (by omega) (by omega), s3' _ ?_⟩) (fun hc => s3' 0 ?_)
            · rw [gR_sR, if_neg (by decide), hv.2.1]; exact (hc1 (by omega)).2
            · rw [(hc0 hc).2]; rfl
          have s1 : ∀ xs2 : Int32, xs2 = nI Y → wX7_readRule_b102 (wX7_readRule_L11 Q f) Q (nI (256 + rs.length)) (nI c) (nI (tb (sk tb n p))) (nI (256 + rs.length)) xs2 v := by
            intro xs2 ex
            unfold wX7_readRule_b102
            refine ne_eq (tb (sk tb n p)) 89 (fun h89 => s2 _ _ Y (by rw [if_neg h89]) ?_) (fun h89 => s2 _ _ (Y ||| 2 ^ c) (by rw [if_pos h89]) ?_)
            · rw [ex, show (0 : Int32) = nI 0 from rfl, nI_or, Nat.or_zero]
            · rw [ex, nI_pow (by omega), nI_or]
          rw [cl_nI (by omega)]
          refine ne_eq c 0 (fun hc => ⟨vp_in_nI (by omega) (by omega), s1 _ ?_⟩) (fun hc => s1 0 ?_)
          · rw [hv.2.1]; exact (hc1 (by omega)).1
          · rw [(hc0 hc).1]; rfl
        · simp only [heq, decide_true, if_true] at h
          rw [hv.2.2]
          exact r_bad (k := 3) v4 hv.f (fun w hw => flt w 3 _ (hF.tr hw.1.F) hw.2.1 hw.2.2 (by omega) (by omega) h)
      refine pk_eq (tb (sk tb n p)) 89 (fun e => go (Or.inl e)) (fun e1 => pk_eq (tb (sk tb n p)) 78 (fun e => go (Or.inr (Or.inl e))) (fun e2 => pk_eq (tb (sk tb n p)) 45 (fun e => go (Or.inr (Or.inr e))) (fun e3 => bad (fun hh => by rcases hh.2 with e | e | e; exact e1 e; exact e2 e; exact e3 e))))
    · exact ⟨fun e => absurd e (m1_ne 89 (by decide)), fun _ => ⟨fun e => absurd e (m1_ne 78 (by decide)), fun _ => ⟨fun e => absurd e (m1_ne 45 (by decide)), fun _ => bad (fun hh => hlt hh.1)⟩⟩⟩
theorem r_rule {tb : Nat → Nat} {n p : Nat} {u : ST} {cs as : List (List Nat)} {rs : List (Nat × Nat × Nat)} {Q : ST → Prop} (hn : n ≤ 8000) (hb : ∀ i, i < n → tb i < 256) (hp : p ≤ n) (hm : mTape u tb n) (h3 : gI u 3 = nI p) (h4 : gI u 4 = 0) (hT : mTb u cs rs as) (hcs : 1 ≤ cs.length) (h : cRes (pRule tb n cs.length p rs as) (fun z => ∀ v, mF u v → gI v 3 = nI z.1 → gI v 4 = 0 → mTb v cs z.2.1 z.2.2 → Q v) (badM u Q)) : wX7_readRule u Q := by
  unfold wX7_readRule
  rw [hT.2.1, show (256 : Int32) = nI 256 from rfl, nI_add]
  exact ⟨cs.length + 2, r_marksL hn hb u cs.length (cs.length + 2) 0 p 0 0 u (by omega) (by omega) hp hm h3 h4 hT (fun e => by omega) (fun _ => ⟨rfl, rfl⟩) (fun c => by omega) (fun e => by omega) (mF.rf u) h⟩
