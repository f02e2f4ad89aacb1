/-! THE CLASS'S TREE GROWS -/
/-- at a test, up to the tree where its condition holds -/
theorem w_test {rs : List RU} {nc d H F s c : Nat} {u : ST} {Q : ST → Prop} {Fn : Int32 → Int32 → ST → (ST → Prop) → Prop} (hn : nc ≤ 16) (hRN : rN nc rs) (hB : rB rs) (hp : plc nc H F d) (hR : wRul u rs) (hL : wLst u rs d (rs.filter (can H F))) (hne : rs.filter (can H F) ≠ []) (hd : d < 16) (h20 : gI u 20 = 0) (h17 : gI u 17 = nI s) (hs : s < 1000) (ho : (opn nc H F).testBit c = true) (hm1 : oneA (rs.filter (can H F)) = -1) (hc : bst (opn nc H F) (rs.filter (can H F)) nc = some c)
    (hQ : ∀ v, gFr d u v → gI v 20 = 0 → gI v 17 = nI (s + 1) → gI v 18 = gI u 18 → gI v 19 = gI u 19 → gJ v 1 = gJ u 1 + lN (2 ^ (nc - d)) → wLst v rs (d + 1) (rs.filter (can (H ||| 2 ^ c) F)) → (∀ i, i ≠ s → gR v 12 i = gR u 12 i ∧ gR v 13 i = gR u 13 i) → gR v 12 s = nI c → Fn (nI (d + 1)) (nI (opn nc (H ||| 2 ^ c) F)) v (fun u_12 => (vp_in (nI s) 1000 ∧ wX5_step (nI d) (nI (2 ^ c)) 0 (sR u_12 13 s (gI u_12 17)) (fun u_14 => Fn (nI (d + 1)) (nI (opn nc H (F ||| 2 ^ c))) u_14 (fun u_16 => Q u_16))))) : wX4_grow_E Fn (nI d) (nI (opn nc H F)) u Q := by
  unfold wX4_grow_E
  have hc16 : c < 16 := by have := (opn_in hn ho).1; omega
  have h16 := hRN.s16 hn
  have ho16 := opn_lt16 (H := H) (F := F) hn
  rw [h17]
  refine ⟨fun c => absurd h20 c, fun _ => pk_lt s 1000 (fun _ => ?_) (fun c => absurd c (by omega))⟩
  refine w_oneA (by omega) hR hB hL hne ?_
  rw [hm1]
  refine ⟨fun c => absurd rfl c, fun _ => ⟨fun e => ?_, fun _ => pk_lt d 16 (fun _ => ?_) (fun c => absurd c (by omega))⟩⟩
  · rw [nI_is0 (by omega)] at e
    rw [e] at ho
    simp at ho
  · refine w_choose (by omega) ho16 hR h16 hL (fun v1 hv1 => ?_)
    rw [bst_hi opn_lt 16 hn, hc, show oI (some c) = nI c from rfl]
    have a17 : gI v1 17 = nI s := (hv1.1 17).trans h17
    refine w_addNode a17 hs (fun v2 hv2 => ?_)
    rw [a17]
    refine s_bc ho16 ?_
    have hpc : pc (opn nc H F) = nc - d := by have := hp.2.2.2; omega
    rw [hpc, l_pow (by omega), nI_pow (by omega), nI_1, nI_ndn ho16 (pw16 hc16), cl_nI (by omega)]
    have g2 : gFr d v1 v2 := by
      subst hv2
      refine ⟨fun k hk => by rw [gI_sI, if_neg (by omega)]; rfl, rfl, fun _ => rfl, fun _ => rfl, fun k a _ => ?_, fun i _ => ?_⟩
      · rw [gR_sI, gR_sR, if_neg (by omega), gR_sR, if_neg (by omega)]
      · rw [gR_sI, gR_sR, if_neg (by decide), gR_sR, if_neg (by decide)]
    have g3 : gFr d v2 (sJ v2 1 (gJ v2 1 + lN (2 ^ (nc - d)))) := ⟨fun _ _ => rfl, by rw [gJ_sJ, if_neg (by decide)], fun _ => rfl, fun _ => rfl, fun _ _ _ => rfl, fun _ _ => rfl⟩
    have gu : gFr d u (sJ v2 1 (gJ v2 1 + lN (2 ^ (nc - d)))) := (hv1.fr.g.tr g2).tr g3
    refine w_step1 hd h16 (hR.g gu) (hL.g gu (Nat.le_refl d)) (fun v4 hv4 hL4 => ?_)
    rw [flt_H] at hL4
    rw [← opn_H hn, opn_H hn, ← opn_F hn, opn_F hn, ← opn_H hn]
    have r12 : ∀ k, k = 12 ∨ k = 13 → gR v4 k = gR v2 k := fun k hk => hv4.2.2.2.2.1 k (by omega) (by omega) (by omega) (by omega)
    have := hQ v4 (gu.tr hv4.g) ?_ ?_ ?_ ?_ ?_ hL4 (fun i hi => ?_) ?_
    · rw [opn_F hn, ← opn_H hn] at this
      exact this
    · rw [hv4.1]; subst hv2; show gI v1 20 = 0; rw [hv1.1]; exact h20
    · rw [hv4.1]; subst hv2; rfl
    · rw [hv4.1]; subst hv2; exact hv1.1 18
    · rw [hv4.1]; subst hv2; exact hv1.1 19
    · rw [hv4.2.1, gJ_sJ, if_pos rfl]; subst hv2; show gJ v1 1 + _ = _; rw [hv1.2.1]
    · rw [r12 12 (Or.inl rfl), r12 13 (Or.inr rfl)]
      subst hv2
      rw [gR_sI, gR_sR, if_neg (by decide), gR_sR, if_pos rfl, pk_un hi, gR_sI, gR_sR, if_pos rfl, pk_un hi, gR_sR, if_neg (by decide), hv1.2.2.2.2 12 (by decide) (by decide), hv1.2.2.2.2 13 (by decide) (by decide)]
      exact ⟨rfl, rfl⟩
    · rw [r12 12 (Or.inl rfl)]
      subst hv2
      rw [gR_sI, gR_sR, if_neg (by decide), gR_sR, if_pos rfl, pk_us]
theorem gFr.s13 {d : Nat} {u : ST} {i : Nat} {x : Int32} : gFr d u (sR u 13 i x) := ⟨fun _ _ => rfl, rfl, fun _ => rfl, fun _ => rfl, fun k a _ => by rw [gR_sR, if_neg (by omega)], fun i _ => by rw [gR_sR, if_neg (by decide)]⟩
theorem w_grow {rs : List RU} {nc : Nat} (hn : nc ≤ 16) (hRN : rN nc rs) (hB : rB rs) (hs : snd rs nc) : ∀ (g dd d H F s : Nat) (u : ST) (Q : ST → Prop), nc - d < g → 17 - d ≤ dd → plc nc H F d → wRul u rs → wLst u rs d (rs.filter (can H F)) → gI u 20 = 0 → gI u 17 = nI s → s + (tl rs nc g H F d).length ≤ 1000 → (∀ v, grn nc d u v s (tl rs nc g H F d) → Q v) → wX4_grow dd (nI d) (nI (opn nc H F)) u Q := by
  intro g
  induction g with
  | zero => intro dd d H F s u Q h; omega
  | succ g ih =>
    intro dd d H F s u Q hg hdd hp hR hL h20 h17 hfit hQ
    have hdn : d ≤ nc := by have := hp.2.2.2; omega
    obtain ⟨dd, rfl⟩ : ∃ dd', dd = dd' + 1 := ⟨dd - 1, by omega⟩
    show wX4_grow_E (wX4_grow dd) (nI d) (nI (opn nc H F)) u Q
    have hne := snd_ne hs hp
    have hpos := tl_pos (g := g) hn hRN hB hs hp
    rcases tl_step (g := g) hn hRN hB hs hp with ⟨a, ha, hone, e⟩ | ⟨c, ho, hcn, hd, hm1, hc, hpH, hpF, e⟩
    · rw [e] at hQ
      unfold wX4_grow_E
      rw [h17]
      refine ⟨fun c => absurd h20 c, fun _ => pk_lt s 1000 (fun _ => ?_) (fun c => absurd c (by omega))⟩
      refine w_oneA (by omega) hR hB hL hne ?_
      rw [hone]
      refine ⟨fun _ => ?_, fun c => absurd c.symm (m1_ne a (by omega))⟩
      exact w_leaf (rs := rs) (by omega) h20 h17 (by omega) hQ
    · rw [e] at hQ hfit
      generalize hTd : tl rs nc g (H ||| 2 ^ c) F (d + 1) = T at *
      generalize hEd : tl rs nc g H (F ||| 2 ^ c) (d + 1) = E at *
      simp only [List.length_cons, List.length_append] at hfit
      refine w_test hn hRN hB hp hR hL hne (by omega) h20 h17 (by omega) ho hm1 hc (fun v gv v20 v17 v18 v19 vJ vL vlo vs => ?_)
      refine ih dd (d + 1) (H ||| 2 ^ c) F (s + 1) v _ (by omega) (by omega) hpH (hR.g gv) vL v20 v17 (by rw [hTd]; omega) (fun w hw => ?_)
      rw [hTd] at hw
      obtain ⟨wg, w20, w17, w18, w19, wJ, wT, wlo⟩ := hw
      refine ⟨vp_in_nI (by omega) (by omega), ?_⟩
      have guw : gFr d u (sR w 13 s (gI w 17)) := (gv.tr (wg.up (by omega))).tr gFr.s13
      refine w_step0 (by omega) (hRN.s16 hn) (hR.g guw) (hL.g guw (Nat.le_refl d)) (fun y hy hLy => ?_)
      rw [flt_F] at hLy
      have guy := guw.tr hy.g
      have yR : ∀ k, k = 12 ∨ k = 13 → gR y k = gR (sR w 13 s (gI w 17)) k := fun k hk => hy.2.2.2.2.1 k (by omega) (by omega) (by omega) (by omega)
      refine ih dd (d + 1) H (F ||| 2 ^ c) (s + 1 + T.length) y Q (by omega) (by omega) hpF (hR.g guy) hLy (by rw [hy.1]; exact w20) (by rw [hy.1]; exact w17) (by rw [hEd]; omega) (fun z hz => ?_)
      rw [hEd] at hz
      obtain ⟨zg, z20, z17, z18, z19, zJ, zE, zlo⟩ := hz
      -- what lies below E in z
      have zw : ∀ i, i < s + 1 + T.length → i ≠ s → gR z 12 i = gR w 12 i ∧ gR z 13 i = gR w 13 i := by
        intro i hi hne
        rw [(zlo i hi).1, (zlo i hi).2, yR 12 (Or.inl rfl), yR 13 (Or.inr rfl), gR_sR, if_neg (by decide), gR_sR, if_pos rfl, pk_un hne]
        exact ⟨rfl, rfl⟩
      have o0 : ¬ T.length + 1 = 0 := by omega
      refine hQ z ⟨guy.tr (zg.up (by omega)), z20, ?_, fun n hn' => ?_, fun m hm h19 => ?_, fun n hn' => ?_, ?_, fun i hi => ?_⟩
      · rw [z17]; congr 1; simp; omega
      · have q1 := w18 n (by rw [v18]; exact hn')
        have q2 := z18 _ (by rw [hy.1]; exact q1)
        rw [q2]; congr 1
        simp only [lvs, lvs_app]; rw [if_neg o0]; omega
      · have q1 := w19 m hm (by rw [v19]; exact h19)
        have q2 := z19 _ q1.1 (by rw [hy.1]; exact q1.2)
        simp only [mxd, mxd_app]; rw [if_neg o0]
        exact q2
      · have q1 := wJ (n + 2 ^ (nc - d)) (by rw [vJ, hn', lN_add])
        have q2 := zJ _ (by rw [hy.2.1]; exact q1)
        rw [q2]; congr 1
        simp only [tst, tst_app]; rw [if_neg o0]; omega
      · intro i x hi
        cases i with
        | zero =>
          simp at hi
          subst hi
          dsimp only
          rw [if_neg o0, Nat.add_zero, (zlo s (by omega)).1, (zlo s (by omega)).2, yR 12 (Or.inl rfl), yR 13 (Or.inr rfl), gR_sR, if_neg (by decide), gR_sR, if_pos rfl, pk_us, (wlo s (by omega)).1, w17]
          refine ⟨vs, ?_⟩
          congr 1; omega
        | succ i =>
          simp only [List.getElem?_cons_succ] at hi
          have hTz : cTr z (s + 1) T := by
            intro j x hj
            have hjl := (List.getElem?_eq_some_iff.mp hj).1
            rw [(zw (s + 1 + j) (by omega) (by omega)).1, (zw (s + 1 + j) (by omega) (by omega)).2]
            exact wT j x hj
          have := cTr_app hTz zE i x hi
          rw [show s + 1 + i = s + (i + 1) by omega] at this
          exact this
      · rw [(zw i (by omega) (by omega)).1, (zw i (by omega) (by omega)).2, (wlo i (by omega)).1, (wlo i (by omega)).2]
        exact vlo i (by omega)
/-- it grows too big -/
theorem w_big {rs : List RU} {nc : Nat} (hn : nc ≤ 16) (hRN : rN nc rs) (hB : rB rs) (hs : snd rs nc) : ∀ (g dd d H F s : Nat) (u : ST) (Q : ST → Prop), nc - d < g → 17 - d ≤ dd → plc nc H F d → wRul u rs → wLst u rs d (rs.filter (can H F)) → gI u 20 = 0 → gI u 17 = nI s → s ≤ 1000 → 1000 < s + (tl rs nc g H F d).length → (∀ v, gFr d u v → gI v 20 = 1 → Q v) → wX4_grow dd (nI d) (nI (opn nc H F)) u Q := by
  intro g
  induction g with
  | zero => intro dd d H F s u Q h; omega
  | succ g ih =>
    intro dd d H F s u Q hg hdd hp hR hL h20 h17 hs1 hfit hQ
    have hdn : d ≤ nc := by have := hp.2.2.2; omega
    obtain ⟨dd, rfl⟩ : ∃ dd', dd = dd' + 1 := ⟨dd - 1, by omega⟩
    show wX4_grow_E (wX4_grow dd) (nI d) (nI (opn nc H F)) u Q
    have hne := snd_ne hs hp
    have g20 : ∀ v : ST, gFr d v (sI v 20 1) := fun v => ⟨fun k hk => by rw [gI_sI, if_neg (by omega)], rfl, fun _ => rfl, fun _ => rfl, fun _ _ _ => rfl, fun _ _ => rfl⟩
    by_cases h1000 : s = 1000
    · unfold wX4_grow_E wX4_grow_b17
      rw [h17]
      exact ⟨fun c => absurd h20 c, fun _ => pk_lt s 1000 (fun c => absurd c (by omega)) (fun _ => hQ _ (g20 u) (by rw [gI_sI, if_pos rfl]))⟩
    rcases tl_step (g := g) hn hRN hB hs hp with ⟨a, ha, hone, e⟩ | ⟨c, ho, hcn, hd, hm1, hc, hpH, hpF, e⟩
    · rw [e] at hfit
      simp at hfit
      omega
    · rw [e] at hfit
      simp only [List.length_cons, List.length_append] at hfit
      have last : ∀ w : ST, gFr d u w → wLst w rs d (rs.filter (can H F)) → (∀ y, wFr d (sR w 13 s (gI w 17)) y → wLst y rs (d + 1) (rs.filter (can H (F ||| 2 ^ c))) → wX4_grow dd (nI (d + 1)) (nI (opn nc H (F ||| 2 ^ c))) y (fun u_16 => Q u_16)) → (vp_in (nI s) 1000 ∧ wX5_step (nI d) (nI (2 ^ c)) 0 (sR w 13 s (gI w 17)) (fun u_14 => wX4_grow dd (nI (d + 1)) (nI (opn nc H (F ||| 2 ^ c))) u_14 (fun u_16 => Q u_16))) := by
        intro w gw hLw hgo
        refine ⟨vp_in_nI (by omega) (by omega), ?_⟩
        have guw : gFr d u (sR w 13 s (gI w 17)) := gw.tr gFr.s13
        refine w_step0 (by omega) (hRN.s16 hn) (hR.g guw) (hL.g guw (Nat.le_refl d)) (fun y hy hLy => ?_)
        rw [flt_F] at hLy
        exact hgo y hy hLy
      refine w_test hn hRN hB hp hR hL hne (by omega) h20 h17 (by omega) ho hm1 hc (fun v gv v20 v17 v18 v19 vJ vL vlo vs => ?_)
      by_cases hT : 1000 < s + 1 + (tl rs nc g (H ||| 2 ^ c) F (d + 1)).length
      · refine ih dd (d + 1) (H ||| 2 ^ c) F (s + 1) v _ (by omega) (by omega) hpH (hR.g gv) vL v20 v17 (by omega) hT (fun w wg w20 => ?_)
        have gw := gv.tr (wg.up (d := d) (by omega))
        refine last w gw (hL.g gw (Nat.le_refl d)) (fun y hy hLy => ?_)
        obtain ⟨dd, rfl⟩ : ∃ dd', dd = dd' + 1 := ⟨dd - 1, by omega⟩
        show wX4_grow_E (wX4_grow dd) (nI (d + 1)) (nI (opn nc H (F ||| 2 ^ c))) y _
        unfold wX4_grow_E wX4_grow_b17
        have y20 : gI y 20 = 1 := by rw [hy.1]; exact w20
        exact ⟨fun _ => hQ _ (((gw.tr gFr.s13).tr hy.g).tr (g20 y)) (by rw [gI_sI, if_pos rfl]), fun c => absurd c (by rw [y20]; decide)⟩
      · refine w_grow hn hRN hB hs g dd (d + 1) (H ||| 2 ^ c) F (s + 1) v _ (by omega) (by omega) hpH (hR.g gv) vL v20 v17 (by omega) (fun w hw => ?_)
        have gw := gv.tr (hw.1.up (d := d) (by omega))
        refine last w gw (hL.g gw (Nat.le_refl d)) (fun y hy hLy => ?_)
        have gy := (gw.tr gFr.s13).tr hy.g
        refine ih dd (d + 1) H (F ||| 2 ^ c) (s + 1 + (tl rs nc g (H ||| 2 ^ c) F (d + 1)).length) y _ (by omega) (by omega) hpF (hR.g gy) hLy (by rw [hy.1]; exact hw.2.1) (by rw [hy.1]; exact hw.2.2.1) (by omega) (by omega) (fun z zg z20 => hQ z (gy.tr (zg.up (by omega))) z20)
