/-! THE REFERENCE: read -/
theorem sk_sk {tb : Nat → Nat} {n p : Nat} (hp : p ≤ n) : sk tb n (sk tb n p) = sk tb n p := by
  refine sk_n (fun hh => ?_)
  have := (sk_in tb n _ p rfl hp).2.2 hh.1
  rw [this] at hh
  exact absurd hh.2 (by decide)
theorem r_badE {u0 u : ST} {k q : Nat} {Q : Int32 → ST → Prop} (hF : mF u0 u) (v4 : gI u 4 = nI k) (v3 : gI u 3 = nI q) (k1 : 1 ≤ k) (k3 : k ≤ 3) (h : badM u0 (wX7_read_b121 Q) k q) : (∀ f, 1 ≤ f → wX7_read_L99 Q f u) ∧ wX7_read_b82 Q u ∧ (∀ f, 1 ≤ f → wX7_read_L49 Q f u) := by
  have a1 : ∀ w, mF u0 w → gI w 4 = nI k → gI w 3 = nI q → (∀ f, 1 ≤ f → wX7_read_L99 Q f w) := by
    intro w hw w4 w3 f hf
    obtain ⟨f, rfl⟩ : ∃ f', f = f' + 1 := ⟨f - 1, by omega⟩
    have hne : ¬ gI w 4 = 0 := by rw [w4]; exact nI_ne0 (by omega) (by omega)
    exact ⟨fun _ => h w hw w4 w3 k1 k3, fun c => absurd c hne⟩
  have a2 : wX7_read_b82 Q u := by
    unfold wX7_read_b82
    refine r_sign_bad (u := u) ⟨mf.rf u, v4, v3⟩ k1 k3 (fun w hw => ⟨fun _ => ⟨1, a1 w (hF.tr hw.1.F) hw.2.1 hw.2.2 1 (by omega)⟩, fun c => absurd c (by rw [hw.2.1]; exact nI_ne0 (by omega) (by omega))⟩)
  have hne : ¬ gI u 4 = 0 := by rw [v4]; exact nI_ne0 (by omega) (by omega)
  refine ⟨a1 u hF v4 v3, a2, fun f hf => ?_⟩
  obtain ⟨f, rfl⟩ : ∃ f', f = f' + 1 := ⟨f - 1, by omega⟩
  exact ⟨fun _ => a2, fun c => absurd c hne⟩
theorem r_rulesL {tb : Nat → Nat} {n : Nat} {cs : List (List Nat)} {Q : Int32 → ST → Prop} (hn : n ≤ 8000) (hb : ∀ i, i < n → tb i < 256) (hcs : 1 ≤ cs.length) (u0 : ST) : ∀ (g f p : Nat) (u : ST) (rs : List (Nat × Nat × Nat)) (as : List (List Nat)), n + 1 < p + f → n + 1 < p + g → p ≤ n → mTape u tb n → gI u 3 = nI p → gI u 4 = 0 → mF u0 u → mTb u cs rs as → cRes (if sk tb n p < n then pRules tb n cs.length g p rs as else .inr (rs, as)) (fun z => ∀ v, mF u0 v → gI v 4 = 0 → mTb v cs z.1 z.2 → wX7_read_b121 Q v) (badM u0 (wX7_read_b121 Q)) → wX7_read_L99 Q f u := by
  intro g
  induction g with
  | zero => intro f p u rs as h1 h2 hp; omega
  | succ g ih =>
    intro f p u rs as hf hg hp hm h3 h4 hF hT h
    obtain ⟨f, rfl⟩ : ∃ f', f = f' + 1 := ⟨f - 1, by omega⟩
    show wX7_read_B99 (wX7_read_L99 Q f) Q u
    unfold wX7_read_B99
    refine ⟨fun c => absurd h4 c, fun _ => ?_⟩
    refine r_look hn hb hp hm h3 (fun v hv => ?_)
    have v4 : gI v 4 = 0 := (hv.1 4 (by decide)).trans h4
    have hmv := hv.f.tape hm
    have hTv := hT.f hv.f
    have hskle := sk_le (tb := tb) hp
    have hskge := sk_ge (tb := tb) hp
    refine ⟨fun hmo => ⟨fun c => absurd c.symm (m1_ne _ (by have := hb _ hmo; omega)), fun _ => ?_⟩, fun hmo => ⟨fun _ => ?_, fun c => absurd rfl c⟩⟩
    · rw [if_pos hmo] at h
      have hpr : pRule tb n cs.length (sk tb n p) rs as = pRule tb n cs.length p rs as := by
        unfold pRule
        have : pMarks tb n (decide (rs.length = 256)) cs.length 0 (sk tb n p) 0 0 = pMarks tb n (decide (rs.length = 256)) cs.length 0 p 0 0 := by
          obtain ⟨m, hm⟩ : ∃ m, cs.length = m + 1 := ⟨cs.length - 1, by omega⟩
          rw [hm]
          unfold pMarks
          rw [sk_sk hp]
        rw [this]
      refine r_rule hn hb (by omega) hmv hv.2.2 v4 hTv hcs ?_
      rw [hpr]
      unfold pRules at h
      cases hr : pRule tb n cs.length p rs as with
      | inl x =>
        rw [hr] at h
        intro w hw w4 w3 k1 k3
        exact (r_badE (hF.tr (hv.f.F.tr hw)) w4 w3 k1 k3 h).1 f (by omega)
      | inr z =>
        obtain ⟨p', rs', as'⟩ := z
        rw [hr] at h
        have hin := pRule_in hp hr
        intro w hw w3 w4 wT
        exact ih f p' w rs' as' (by omega) (by omega) (by omega) (hw.tape hmv) w3 w4 (hF.tr (hv.f.F.tr hw)) wT h
    · rw [if_neg hmo] at h
      exact h v (hF.tr hv.f.F) v4 hTv
theorem pConds_len {tb : Nat → Nat} {n : Nat} : ∀ (g p : Nat) (cs0 : List (List Nat)) (z : Nat × List (List Nat)), pConds tb n g p cs0 = .inr z → 1 ≤ z.2.length := by
  intro g
  induction g with
  | zero => intro p cs0 z hz; cases hz
  | succ g ih =>
    intro p cs0 z hz
    unfold pConds at hz
    cases hpk : pCond tb n p cs0 with
    | inl x => rw [hpk] at hz; cases hz
    | inr y =>
      obtain ⟨e, cs'⟩ := y
      rw [hpk] at hz
      dsimp only at hz
      split at hz
      · exact ih _ _ _ hz
      · split at hz
        · cases hz
        · cases hz
          unfold pCond at hpk
          cases hpn : pName tb n p with
          | inl f => rw [hpn] at hpk; cases hpk
          | inr y2 =>
            rw [hpn] at hpk
            dsimp only at hpk
            split at hpk
            · cases hpk
            · split at hpk
              · cases hpk
              · cases hpk; simp
theorem pCond_in {tb : Nat → Nat} {n p e : Nat} {cs cs' : List (List Nat)} (hp : p ≤ n) (hpc : pCond tb n p cs = .inr (e, cs')) : cs'.length = cs.length + 1 ∧ p < e ∧ e ≤ n := by
  unfold pCond at hpc
  cases hpn : pName tb n p with
  | inl f => rw [hpn] at hpc; cases hpc
  | inr z =>
    obtain ⟨q, e1⟩ := z
    rw [hpn] at hpc
    obtain ⟨-, hpq, hqe, hen, -⟩ := okNm_of hp hpn
    dsimp only at hpc
    split at hpc
    · cases hpc
    · split at hpc
      · cases hpc
      · cases hpc
        exact ⟨by simp, by omega, hen⟩
theorem r_condsL {tb : Nat → Nat} {n : Nat} {Q : Int32 → ST → Prop} (hn : n ≤ 8000) (hb : ∀ i, i < n → tb i < 256) (u0 : ST) : ∀ (g f p : Nat) (u : ST) (cs : List (List Nat)), n + 1 < p + f → n + 1 < p + g → p ≤ n → mTape u tb n → gI u 3 = nI p → gI u 4 = 0 → mF u0 u → mTb u cs [] [] → cRes (if sk tb n p < n ∧ tb (sk tb n p) = 44 then pConds tb n g (sk tb n p + 1) cs else match pSign tb n p 59 with
      | .inl x => .inl x
      | .inr p' => .inr (p', cs)) (fun z => ∀ v, mF u0 v → gI v 3 = nI z.1 → gI v 4 = 0 → z.1 ≤ n → mTb v z.2 [] [] → wX7_readRule v (fun u_4 => (∃ n : Nat, wX7_read_L99 Q n u_4))) (badM u0 (wX7_read_b121 Q)) → wX7_read_L49 Q f u := by
  intro g
  induction g with
  | zero => intro f p u cs h1 h2 hp; omega
  | succ g ih =>
    intro f p u cs hf hg hp hm h3 h4 hF hT h
    obtain ⟨f, rfl⟩ : ∃ f', f = f' + 1 := ⟨f - 1, by omega⟩
    show wX7_read_B49 (wX7_read_L49 Q f) Q u
    unfold wX7_read_B49
    refine ⟨fun c => absurd h4 c, fun _ => ?_⟩
    refine r_look hn hb hp hm h3 (fun v hv => ?_)
    have v4 : gI v 4 = 0 := (hv.1 4 (by decide)).trans h4
    have hmv := hv.f.tape hm
    have hTv := hT.f hv.f
    have hskle := sk_le (tb := tb) hp
    have hskge := sk_ge (tb := tb) hp
    have fin : ¬ (sk tb n p < n ∧ tb (sk tb n p) = 44) → wX7_read_b82 Q v := by
      intro hne
      rw [if_neg hne] at h
      unfold wX7_read_b82
      rw [show (59 : Int32) = nI 59 from rfl]
      have hps : pSign tb n (sk tb n p) 59 = pSign tb n p 59 := by unfold pSign; rw [sk_sk hp]
      refine r_sign hn hb hskle hmv hv.2.2 v4 (by decide) ?_
      rw [hps]
      cases hpb : pSign tb n p 59 with
      | inl x =>
        rw [hpb] at h
        have hk := pSign_k hpb
        intro w hw
        exact ⟨fun _ => ⟨1, (r_badE (hF.tr (hv.f.tr hw.1).F) hw.2.1 hw.2.2 (by omega) (by omega) h).1 1 (by omega)⟩, fun c => absurd c (by rw [hw.2.1, hk]; decide)⟩
      | inr p' =>
        rw [hpb] at h
        intro w hw
        have w4 : gI w 4 = 0 := (hw.1 4 (by decide)).trans v4
        exact ⟨fun c => absurd w4 c, fun _ => h w (hF.tr (hv.f.tr hw.f).F) hw.2.2 w4 (pSign_le hpb) (hTv.f hw.f)⟩
    refine ⟨fun hlt => ⟨fun e44 => fin (fun hh => e44 (by rw [hh.2]; rfl)), fun e44 => ?_⟩, fun hlt => ⟨fun _ => fin (fun hh => hlt hh.1), fun e44 => absurd e44 (m1_ne 44 (by decide))⟩⟩
    rw [show (44 : Int32) = nI 44 from rfl, nb (hb _ hlt) (by decide)] at e44
    rw [if_pos ⟨hlt, e44⟩] at h
    rw [hv.2.2, nI_1]
    have hs3 : mf v (sI v 3 (nI (sk tb n p + 1))) := (mf.rf v).s 3 _ (by omega)
    have hFs := hF.tr (hv.f.tr hs3).F
    refine r_cond (p := sk tb n p + 1) hn hb (by omega) (hs3.tape hmv) (by rw [gI_sI, if_pos rfl]) (by rw [gI_sI, if_neg (by decide)]; exact v4) (hTv.f hs3) ?_
    unfold pConds at h
    cases hpc : pCond tb n (sk tb n p + 1) cs with
    | inl x =>
      rw [hpc] at h
      intro w hw w4 w3 k1 k3
      exact (r_badE (hFs.tr hw) w4 w3 k1 k3 h).2.2 f (by omega)
    | inr z =>
      obtain ⟨e, cs'⟩ := z
      rw [hpc] at h
      have hin := pCond_in (by omega) hpc
      intro w hw w3 w4 wT
      exact ih f e w cs' (by omega) (by omega) hin.2.2 ((hw.tape (hs3.tape hmv))) w3 w4 (hFs.tr hw) wT h
/-- THE REFERENCE READS -/
theorem r_read {tb : Nat → Nat} {n : Nat} {u : ST} {Q : Int32 → ST → Prop} (hn : n ≤ 8000) (hb : ∀ i, i < n → tb i < 256) (hm : mTape u tb n) (h : cRes (pAll tb n) (fun z => ∀ v, mF (sI u 0 0) v → gI v 4 = 0 → mTb v z.1 z.2.1 z.2.2 → wX7_read_b121 Q v) (badM (sI u 0 0) (wX7_read_b121 Q))) : wX7_read u Q := by
  unfold wX7_read
  generalize hu1 : sI (sI (sI (sI (sI (sI u 0 0) 3 0) 4 0) 14 0) 15 0) 16 0 = u1
  have hF1 : mF (sI u 0 0) u1 := by
    rw [← hu1]
    refine ⟨fun k a b c d e => ?_, fun _ _ => rfl, fun _ _ => rfl, fun _ _ => rfl, fun _ _ _ _ _ => rfl⟩
    rw [gI_sI, if_neg e, gI_sI, if_neg d, gI_sI, if_neg c, gI_sI, if_neg b, gI_sI, if_neg a]
  have g3 : gI u1 3 = nI 0 := by rw [← hu1]; rfl
  have g4 : gI u1 4 = 0 := by rw [← hu1]; rfl
  have gT : mTb u1 [] [] [] := by
    rw [← hu1]
    exact ⟨rfl, rfl, rfl, by simp, by simp, by simp, ⟨by simp, by simp⟩, ⟨by simp, by simp⟩, by simp⟩
  have hm0 : mTape (sI u 0 0) tb n := hm.congr rfl rfl
  have hm1 := hF1.tape hm0
  rw [show (105 : Int32) = nI 105 from rfl, show (102 : Int32) = nI 102 from rfl]
  refine r_word hn hb (Nat.zero_le n) hm1 g3 g4 (by decide) (by decide) ?_
  unfold pAll at h
  cases hpw : pWord tb n 0 [105, 102] with
  | inl x =>
    rw [hpw] at h
    intro k1 k3 v hv
    exact ⟨fun _ => ⟨1, (r_badE (hF1.tr hv.1.F) hv.2.1 hv.2.2 k1 k3 h).2.2 1 (by omega)⟩, fun c => absurd c (by rw [hv.2.1]; exact nI_ne0 (by omega) (by omega))⟩
  | inr p1 =>
    rw [hpw] at h
    dsimp only at h
    have hp1 := pWord_le (Nat.zero_le n) hpw
    intro v hv
    have v4 : gI v 4 = 0 := (hv.1 4 (by decide)).trans g4
    refine ⟨fun c => absurd v4 c, fun _ => ?_⟩
    have hmv := hv.f.tape hm1
    have hFv := hF1.tr hv.f.F
    have last : ∀ (r : PR (Nat × List (List Nat))), (∀ z, r = .inr z → 1 ≤ z.2.length) → cRes (match r with
      | .inl x => (.inl x : PR (List (List Nat) × List (Nat × Nat × Nat) × List (List Nat)))
      | .inr (p2, cs) => match pRules tb n cs.length (n + 2) p2 [] [] with
        | .inl x => .inl x
        | .inr (rs, as) => .inr (cs, rs, as)) (fun z => ∀ v, mF (sI u 0 0) v → gI v 4 = 0 → mTb v z.1 z.2.1 z.2.2 → wX7_read_b121 Q v) (badM (sI u 0 0) (wX7_read_b121 Q)) → cRes r (fun z => ∀ v, mF (sI u 0 0) v → gI v 3 = nI z.1 → gI v 4 = 0 → z.1 ≤ n → mTb v z.2 [] [] → wX7_readRule v (fun u_4 => (∃ n : Nat, wX7_read_L99 Q n u_4))) (badM (sI u 0 0) (wX7_read_b121 Q)) := by
      intro r hr1 hr
      cases r with
      | inl x => exact hr
      | inr z =>
        obtain ⟨p2, cs⟩ := z
        have hcs := hr1 _ rfl
        dsimp only at hr hcs
        intro w hFw w3 w4 wle wT
        dsimp only at w3 wle wT
        have hmw := hFw.tape hm0
        refine r_rule hn hb wle hmw w3 w4 wT hcs ?_
        unfold pRules at hr
        cases hpr : pRule tb n cs.length p2 [] [] with
        | inl x =>
          rw [hpr] at hr
          intro y hy y4 y3 k1 k3
          exact ⟨1, (r_badE (hFw.tr hy) y4 y3 k1 k3 hr).1 1 (by omega)⟩
        | inr z =>
          obtain ⟨p', rs', as'⟩ := z
          rw [hpr] at hr
          have hin := pRule_in wle hpr
          intro y hy y3 y4 yT
          refine ⟨n + 2, r_rulesL hn hb hcs (sI u 0 0) (n + 1) (n + 2) p' y rs' as' (by omega) (by omega) hin.2.2 (hy.tape hmw) y3 y4 (hFw.tr hy) yT ?_⟩
          dsimp only at hr
          generalize (if sk tb n p' < n then pRules tb n cs.length (n + 1) p' rs' as' else Sum.inr (rs', as')) = s at hr ⊢
          cases s with
          | inl x => exact hr
          | inr z => exact hr
    have h2 := last (pConds tb n (n + 2) p1 []) (fun z hz => pConds_len _ _ _ z hz) h
    refine r_cond hn hb hp1.1 hmv hv.2.2 v4 (gT.f hv.f) ?_
    unfold pConds at h2
    cases hpc : pCond tb n p1 [] with
    | inl x =>
      rw [hpc] at h2
      intro w hw w4 w3 k1 k3
      exact ⟨1, (r_badE (hFv.tr hw) w4 w3 k1 k3 h2).2.2 1 (by omega)⟩
    | inr z =>
      obtain ⟨e, cs'⟩ := z
      rw [hpc] at h2
      have hin := pCond_in hp1.1 hpc
      intro w hw w3 w4 wT
      exact ⟨n + 2, r_condsL hn hb (sI u 0 0) (n + 1) (n + 2) e w cs' (by omega) (by omega) hin.2.2 (hw.tape hmv) w3 w4 (hFv.tr hw) wT h2⟩
