theorem pF.bad {t : Nat} {u v : ST} {Q : Int32 → ST → Prop} {k q : Nat} (hF : pF t u v) (h : badP t u Q k q) : badP t v Q k q := fun w hw h8 h9 => h w (hF.tr hw) h8 h9
theorem s_condsL {tb : Nat → Nat} {n t : Nat} {Q : Int32 → ST → Prop} (ht : t < 2) (hn : n ≤ 8000) (u0 : ST) : ∀ (g f p : Nat) (u : ST) (cs : List (List Nat)), n + 1 < p + f → n + 1 < p + g → p ≤ n → cTape u tb n → gI u 6 = nI p → pF t u0 u → gI u 8 = gI u0 8 → cTb u t cs [] [] → cRes (pConds tb n g p cs) (fun z => ∀ v, pF t u0 v → gI v 6 = nI z.1 → gI v 8 = gI u0 8 → z.1 ≤ n → cTb v t z.2 [] [] → Q 1 v) (badP t u0 Q) → wX3_passConditions_L2 Q f t (nI cs.length) u := by
  intro g
  induction g with
  | zero => intro f p u cs h1 h2 hp; omega
  | succ g ih =>
    intro f p u cs hf hg hp hc h6 hF h8 hT h
    obtain ⟨f, rfl⟩ : ∃ f', f = f' + 1 := ⟨f - 1, by omega⟩
    show wX3_passConditions_B2 (wX3_passConditions_L2 Q f) Q t (nI cs.length) u
    unfold wX3_passConditions_B2
    have hle := hT.1.2.1
    rw [lenL_c ht] at hle
    rw [show (16 : Int32) = nI 16 from rfl, n_lt (by omega) (by omega)]
    refine ⟨fun c => absurd c (by omega), fun _ => ?_⟩
    refine s_passCondition ht hn hp hc h6 hT ?_
    unfold pConds at h
    cases hpc : pCond tb n p cs with
    | inl x =>
      rw [hpc] at h
      intro v hv g8 g9
      exact ⟨fun c => absurd rfl c, fun _ => h v (hF.tr hv) g8 g9⟩
    | inr z =>
      obtain ⟨e, cs'⟩ := z
      rw [hpc] at h
      have hlen : cs'.length = cs.length + 1 ∧ p < e ∧ e ≤ n := by
        unfold pCond at hpc
        cases hpn : pName tb n p with
        | inl f => rw [hpn] at hpc; cases hpc
        | inr z =>
          obtain ⟨q, e1⟩ := z
          rw [hpn] at hpc
          obtain ⟨-, hpq, hqe, hen, -⟩ := okNm_of hp hpn
          dsimp only at hpc
          split at hpc
          · cases hpc
          · split at hpc
            · cases hpc
            · cases hpc
              exact ⟨by simp, by omega, hen⟩
      intro v hv g6 g8 gT
      refine ⟨fun _ => ?_, fun c => absurd c (by decide)⟩
      have hcv := hv.tape hc
      refine s_look hn hlen.2.2 hcv g6 (fun w hw => ?_)
      dsimp only at h
      have hske := sk_le (tb := tb) hlen.2.2
      have hskg := sk_ge (tb := tb) hlen.2.2
      have hcw := hw.1.tape hcv
      have hTw := gT.tf hw.1
      have fin : ¬ (sk tb n e < n ∧ tb (sk tb n e) = 44) → wX3_passByte 59 w (fun r_7 u_8 => ((r_7 = 0 ∨ r_7 = 1) ∧ Q r_7 u_8)) := by
        intro hne
        rw [if_neg hne] at h
        rw [show (59 : Int32) = nI 59 from rfl]
        have hsk2 : sk tb n (sk tb n e) = sk tb n e := by
          refine sk_n (fun hh => ?_)
          have := (sk_in tb n _ e rfl hlen.2.2).2.2 hh.1
          rw [this] at hh
          exact absurd hh.2 (by decide)
        have hps : pSign tb n (sk tb n e) 59 = pSign tb n e 59 := by unfold pSign; rw [hsk2]
        refine s_passByte t hn hske hcw hw.2.1 (by decide) ?_
        rw [hps]
        cases hpb : pSign tb n e 59 with
        | inl x =>
          rw [hpb] at h
          intro y hy y8 y9
          exact ⟨Or.inl rfl, h y (((hF.tr hv).tr (hw.1.p t)).tr hy) y8 y9⟩
        | inr p' =>
          rw [hpb] at h
          have hp' : p' ≤ n := by
            unfold pSign at hpb
            split at hpb
            · rename_i hh
              cases hpb
              have := hh.1
              omega
            · cases hpb
          intro y hy y6 y8
          refine ⟨Or.inr rfl, h y (((hF.tr hv).tr (hw.1.p t)).tr (hy.p t)) y6 ?_ hp' (hTw.tf hy)⟩
          rw [y8, hw.2.2.2.1, g8, h8]
      refine ⟨fun hlt => ⟨fun e44 => ?_, fun e44 => fin (fun hh => e44 (by rw [hh.2]; rfl))⟩, fun hlt => ⟨fun e44 => absurd e44 (m1_ne 44 (by decide)), fun _ => fin (fun hh => hlt hh.1)⟩⟩
      rw [show (44 : Int32) = nI 44 from rfl, nb (hcv.lt hlt) (by decide)] at e44
      rw [if_pos ⟨hlt, e44⟩] at h
      rw [hw.2.1, nI_1, nI_1, ← hlen.1]
      have hs6 : tF w (sI w 6 (nI (sk tb n e + 1))) := (tF.rf w).s 6 _ (by omega)
      refine ih f (sk tb n e + 1) _ cs' (by omega) (by omega) (by omega) (hs6.tape hcw) (by rw [gI_sI, if_pos rfl]) (((hF.tr hv).tr (hw.1.p t)).tr (hs6.p t)) ?_ (hTw.tf hs6) h
      rw [gI_sI, if_neg (by decide), hw.2.2.2.1, g8, h8]
theorem s_passAction {tb : Nat → Nat} {n p t : Nat} {u : ST} {cs as : List (List Nat)} {rs : List (Nat × Nat × Nat)} {Q : Int32 → ST → Prop} (ht : t < 2) (hn : n ≤ 8000) (hp : p ≤ n) (hc : cTape u tb n) (h6 : gI u 6 = nI p) (hT : cTb u t cs rs as) (h : cRes (pAct tb n p as) (fun z => ∀ v nm, pF t u v → gI v 6 = nI z.1 → gI v 8 = gI u 8 → cTb v t cs rs z.2.1 → okNm nm → gJ v 0 = lN (pkL nm) → nm ∈ z.2.1 → fIdx z.2.1 nm = z.2.2 → z.1 ≤ n → Q 1 v) (badP t u Q)) : wX3_passAction (2 * t + 1) u Q := by
  unfold wX3_passAction
  refine s_passName t hn hp hc h6 ?_
  unfold pAct at h
  cases hpn : pName tb n p with
  | inl f =>
    rw [hpn] at h
    intro v hF h8 h9
    exact ⟨fun c => absurd rfl c, fun _ => h v hF h8 h9⟩
  | inr z =>
    obtain ⟨q, e⟩ := z
    rw [hpn] at h
    obtain ⟨hok, -, hqe, hen, -⟩ := okNm_of hp hpn
    intro v hF g6 g7 gj g8
    refine ⟨fun _ => ?_, fun c => absurd c (by decide)⟩
    rw [gj]
    have hT' := hT.tf hF
    dsimp only at h
    refine s_find hT'.2.1 hok (fun hin => ?_) (fun hin => ?_)
    · rw [if_pos hin] at h
      refine ⟨fun _ => ?_, fun c => absurd c.symm (m1_ne _ (by have := (fIdx_lt hin).1; have := hT.2.1.2.1; rw [lenL_a ht] at this; omega))⟩
      exact h v _ (hF.p t) g6 g8 hT' hok gj hin rfl hen
    · rw [if_neg hin] at h
      refine ⟨fun c => absurd rfl c, fun _ => ?_⟩
      rw [gj]
      refine s_add hT'.2.1 hok (fun hlt hN => ?_) (fun hge => ?_)
      · rw [lenL_a ht] at hlt
        rw [if_neg (by omega)] at h
        refine ⟨fun _ => ?_, fun c => absurd c (by decide)⟩
        refine h _ (nmL tb q e) ?_ ?_ ?_ ⟨?_, hN, ?_, hT'.2.2.2.1, hT'.2.2.2.2⟩ hok ?_ (by simp) ?_ hen
        · exact ⟨fun j a b c d e f g => by rw [gI_sI, if_neg (by omega)]; exact (hF.p t).1 j a b c d e f g, hF.2.1, fun k _ _ _ => hF.2.2.1 k, fun k a b => by rw [gB_sI, gB_sB, if_neg (by omega)]; exact hF.2.2.2.1 k, hF.2.2.2.2⟩
        · rw [gI_sI, if_neg (by omega)]; exact g6
        · rw [gI_sI, if_neg (by omega)]; exact g8
        · exact hT'.1.congr (by rw [gI_sI, if_neg (by omega)]; rfl) (by rw [gB_sI, gB_sB, if_neg (by omega)])
        · rw [gI_sI, if_neg (by omega)]; exact hT'.2.2.1
        · exact gj
        · refine fIdx_of (by simp) (fun j hj hjs => ?_)
          rw [List.getElem?_append_left hj] at hjs
          exact hin (List.mem_of_getElem? hjs)
      · rw [lenL_a ht] at hge
        have hle := hT.2.1.2.1
        rw [lenL_a ht] at hle
        rw [if_pos (by omega)] at h
        refine ⟨fun c => absurd rfl c, fun _ => ?_⟩
        unfold wX3_fail
        exact ⟨fun _ => pFail (k := 3) (hF.p t) (Or.inl g7) _ g7 h, fun c => absurd rfl c⟩
theorem nI_or (a b : Nat) : nI a ||| nI b = nI (a ||| b) := by
  apply Int32.toBitVec_inj.mp
  show BitVec.ofNat 32 a ||| BitVec.ofNat 32 b = BitVec.ofNat 32 (a ||| b)
  apply BitVec.eq_of_toNat_eq
  simp only [BitVec.toNat_or, BitVec.toNat_ofNat]
  rw [Nat.or_mod_two_pow]
theorem nI_pow {c : Nat} (hc : c < 31) : (1 : Int32) <<< (nI c &&& 31) = nI (2 ^ c) := by
  have h := pk_shlN (n := 1) (nI c &&& 31) c (s_l c (by omega)) (by rw [Nat.one_mul]; exact Nat.pow_lt_pow_right (by decide) (by omega))
  rw [Nat.one_mul] at h
  exact h
theorem s_addR {u : ST} {t : Nat} {cs as : List (List Nat)} {rs : List (Nat × Nat × Nat)} {Y N a : Nat} {Q : ST → Prop} (ht : t < 2) (hT : cTb u t cs rs as) (hlt : rs.length < 256) (hQ : ∀ v, pF t u v → (∀ k, k ≤ 9 → gI v k = gI u k) → cTb v t cs (rs ++ [(Y, N, a)]) as → Q v) : wX2_add t (nI Y) (nI N) (nI a) u Q := by
  unfold wX2_add
  simp only [gI_sR]
  rw [hT.2.2.1, cl_nI (by omega), nI_1]
  refine ⟨vp_in_nI hlt (by omega), vp_in_nI hlt (by omega), vp_in_nI hlt (by omega), ?_⟩
  refine hQ _ ⟨fun j a b c d e f g => ?_, rfl, fun k a b c => ?_, fun k a b => rfl, fun k => rfl⟩ (fun k hk => ?_) ⟨?_, ?_, ?_, ?_, ?_⟩
  · rw [gI_sI, if_neg e]; rfl
  · rw [gR_sI, gR_sR, if_neg c, gR_sR, if_neg b, gR_sR, if_neg a]
  · rw [gI_sI, if_neg (by omega)]; rfl
  · exact hT.1.congr (by rw [gI_sI, if_neg (by omega)]; rfl) rfl
  · exact hT.2.1.congr (by rw [gI_sI, if_neg (by omega)]; rfl) rfl
  · rw [gI_sI, if_pos rfl]; simp
  · simp; omega
  · intro k r hk
    simp only [gR_sI, gR_sR]
    rw [if_neg (show ¬ 3 * t = 3 * t + 2 by omega), if_neg (show ¬ 3 * t = 3 * t + 1 by omega), if_pos trivial, if_neg (show ¬ 3 * t + 1 = 3 * t + 2 by omega), if_pos trivial, if_neg (show ¬ 3 * t + 1 = 3 * t by omega), if_pos trivial, if_neg (show ¬ 3 * t + 2 = 3 * t + 1 by omega), if_neg (show ¬ 3 * t + 2 = 3 * t by omega)]
    by_cases he : k = rs.length
    · subst he
      simp at hk
      subst hk
      exact ⟨pk_us, pk_us, pk_us⟩
    · have hlt2 : k < rs.length := by
        have := (List.getElem?_eq_some_iff.mp hk).1
        simp at this
        omega
      rw [List.getElem?_append_left hlt2] at hk
      rw [pk_un he, pk_un he, pk_un he]
      exact hT.2.2.2.2 k r hk
