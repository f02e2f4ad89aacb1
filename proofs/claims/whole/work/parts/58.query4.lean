/-! run -/
theorem jn {P : Nat} (h : P < 65536) : (nI (P / 256) <<< (8 &&& 31)) ||| nI (P % 256) = nI P := by
  rw [pk_shlN (8 &&& 31) 8 (by decide) (by omega), nI_or]
  congr 1
  have := Nat.two_pow_add_eq_or_of_lt (i := 8) (b := P % 256) (by omega) (P / 256)
  rw [show P / 256 * 2 ^ 8 = 2 ^ 8 * (P / 256) from Nat.mul_comm _ _, ← this]
  omega
theorem path {rs L : List RU} {nc X : Nat} {uc um : ST} {t : Int32} (hn : nc ≤ 16) (hRN : rN nc rs) (hB : rB rs) (hs : snd rs nc) (hok : okL nc L) (hX : X < 2 ^ nc) (h21 : gI uc 21 = nI (csz L)) (hc : cdK (gR uc 14) L L.length) (hm : cdK (gR um 32) L L.length) : ∀ (g d H F s : Nat), nc - d < g → plc nc H F d → (∀ (i : Nat) (z : RU), (tl rs nc g H F d)[i]? = some z → L[s + i]? = some z) → ∃ q z k, L[q]? = some z ∧ z.2.2 = 0 ∧ d + k ≤ nc ∧ (∀ (f : Nat) (Q : Int32 → ST → Prop), wX7_run_L42 Q f (nI X) t (nI (pls L q)) (nI (d + k)) um → wX7_run_L42 Q (f + k) (nI X) t (nI (pls L s)) (nI d) um) ∧ (∀ (f : Nat) (Q : Int32 → ST → Prop), wX0_follow_L5 Q f (nI X) t (nI (pls L q)) (nI (d + k)) uc → wX0_follow_L5 Q (f + k) (nI X) t (nI (pls L s)) (nI d) uc) := by
  intro g
  induction g with
  | zero => intro d H F s h; omega
  | succ g ih =>
    intro d H F s hg hp hsub
    have hdn : d ≤ nc := by have := hp.2.2.2; omega
    rcases tl_step (g := g) hn hRN hB hs hp with ⟨a, ha, hone, e⟩ | ⟨c, ho, hcn, hd, hm1, hcb, hpH, hpF, e⟩
    · rw [e] at hsub
      exact ⟨s, _, 0, hsub 0 _ rfl, rfl, by omega, fun f Q h => h, fun f Q h => h⟩
    · rw [e] at hsub
      have hT : ∀ (i : Nat) (z : RU), (tl rs nc g (H ||| 2 ^ c) F (d + 1))[i]? = some z → L[s + 1 + i]? = some z := by
        intro i z hi
        have := hsub (i + 1) z (by
          rw [List.getElem?_cons_succ, List.getElem?_append_left (List.getElem?_eq_some_iff.mp hi).1]; exact hi)
        rw [show s + 1 + i = s + (i + 1) by omega]; exact this
      have hE : ∀ (i : Nat) (z : RU), (tl rs nc g H (F ||| 2 ^ c) (d + 1))[i]? = some z → L[s + ((tl rs nc g (H ||| 2 ^ c) F (d + 1)).length + 1) + i]? = some z := by
        intro i z hi
        have := hsub ((tl rs nc g (H ||| 2 ^ c) F (d + 1)).length + i + 1) z (by
          rw [List.getElem?_cons_succ, List.getElem?_append_right (by omega), show (tl rs nc g (H ||| 2 ^ c) F (d + 1)).length + i - (tl rs nc g (H ||| 2 ^ c) F (d + 1)).length = i by omega]; exact hi)
        rw [show s + ((tl rs nc g (H ||| 2 ^ c) F (d + 1)).length + 1) + i = s + ((tl rs nc g (H ||| 2 ^ c) F (d + 1)).length + i + 1) by omega]; exact this
      have hz := hsub 0 _ rfl
      rw [Nat.add_zero] at hz
      generalize hoD : (tl rs nc g (H ||| 2 ^ c) F (d + 1)).length + 1 = o at *
      have ho0 : o ≠ 0 := by omega
      have hsl := (List.getElem?_eq_some_iff.mp hz).1
      have h216 := p16 hn
      have h1997 := hok.2.2
      have hpl := pls_s L s _ hz
      have hsz : szN (c, d, o) = 3 := by unfold szN; rw [if_neg ho0]
      rw [hsz] at hpl
      have hle := pls_mono (L := L) L.length (s + 1) (by omega) (Nat.le_refl _)
      have hcs : pls L L.length = csz L := rfl
      have c1 := hc s _ hsl hz
      have m1 := hm s _ hsl hz
      have c2 := c1.2 ho0
      have m2 := m1.2 ho0
      dsimp only at c1 m1 c2 m2
      have hoL : s + o < L.length := by
        rcases hok.1 s _ hz with q | q
        · exact absurd q.1 ho0
        · exact q.2.2.2
      have hpo := pls_mono (L := L) L.length (s + o) (by omega) (Nat.le_refl _)
      have sh := nI_shb (y := X) (c := c) (by omega) (by omega)
      -- one test, in both
      have stepM : ∀ (f : Nat) (Q : Int32 → ST → Prop) (p : Nat), p = (if X.testBit c = true then pls L (s + 1) else pls L (s + o)) → wX7_run_L42 Q f (nI X) t (nI p) (nI (d + 1)) um → wX7_run_L42 Q (f + 1) (nI X) t (nI (pls L s)) (nI d) um := by
        intro f Q p hpd h
        show wX7_run_B42 (wX7_run_L42 Q f) Q (nI X) t (nI (pls L s)) (nI d) um
        unfold wX7_run_B42
        have v0 : vp_in (nI (pls L s)) 3000 := vp_in_nI (by omega) (by omega)
        rw [cl_nI (show pls L s < 2 ^ 31 by omega), m1.1]
        refine ⟨v0, pk_le 128 c (fun q => absurd q (by omega)) (fun _ => ⟨v0, ?_⟩)⟩
        unfold wX7_run_b94
        rw [sh, nI_b1, nI_1, nI_1, show nI (pls L s) + 2 = nI (pls L s + 2) from nI_add _ 2, cl_nI (by omega), cl_nI (by omega), m2.1, m2.2, jn (by omega), show nI (pls L s) + 3 = nI (pls L s + 3) from nI_add _ 3]
        refine ⟨fun hb => ⟨vp_in_nI (by omega) (by omega), vp_in_nI (by omega) (by omega), ?_⟩, fun hb => ?_⟩
        · rw [if_neg hb] at hpd; rw [← hpd]; exact h
        · rw [if_pos hb] at hpd; rw [← hpl, ← hpd]; exact h
      have stepC : ∀ (f : Nat) (Q : Int32 → ST → Prop) (p : Nat), p = (if X.testBit c = true then pls L (s + 1) else pls L (s + o)) → wX0_follow_L5 Q f (nI X) t (nI p) (nI (d + 1)) uc → wX0_follow_L5 Q (f + 1) (nI X) t (nI (pls L s)) (nI d) uc := by
        intro f Q p hpd h
        show wX0_follow_B5 (wX0_follow_L5 Q f) Q (nI X) t (nI (pls L s)) (nI d) uc
        unfold wX0_follow_B5
        have v0 : vp_in (nI (pls L s)) 2000 := vp_in_nI (by omega) (by omega)
        rw [cl_nI (show pls L s < 2 ^ 31 by omega), c1.1, h21, show nI (pls L s) + 2 = nI (pls L s + 2) from nI_add _ 2]
        refine pk_le 16 d (fun q => absurd q (by omega)) (fun _ => pk_le (csz L) (pls L s + 2) (fun q => absurd q (by omega)) (fun _ => ⟨v0, pk_le 128 c (fun q => absurd q (by omega)) (fun _ => ⟨v0, ?_⟩)⟩))
        rw [sh, nI_b0]
        unfold wX0_follow_b52 wX0_follow_b85
        rw [nI_1, nI_1, show nI (pls L s) + 2 = nI (pls L s + 2) from nI_add _ 2, cl_nI (by omega), cl_nI (by omega), c2.1, c2.2, jn (by omega), show nI (pls L s) + 3 = nI (pls L s + 3) from nI_add _ 3]
        refine ⟨fun hb => ⟨fun _ => ⟨vp_in_nI (by omega) (by omega), vp_in_nI (by omega) (by omega), ?_⟩, fun q => absurd rfl q⟩, fun hb => ⟨fun q => absurd q (by decide), fun _ => ?_⟩⟩
        · rw [if_neg hb] at hpd; rw [← hpd]; exact h
        · have hb' := Classical.not_not.mp hb
          rw [if_pos hb'] at hpd; rw [← hpl, ← hpd]; exact h
      by_cases hb : X.testBit c = true
      · obtain ⟨q, z, k, h1, h2, h3, h4, h5⟩ := ih (d + 1) (H ||| 2 ^ c) F (s + 1) (by omega) hpH hT
        refine ⟨q, z, k + 1, h1, h2, by omega, fun f Q h => ?_, fun f Q h => ?_⟩
        · rw [show d + (k + 1) = d + 1 + k by omega] at h
          exact stepM (f + k) Q (pls L (s + 1)) (by rw [if_pos hb]) (h4 f Q h)
        · rw [show d + (k + 1) = d + 1 + k by omega] at h
          exact stepC (f + k) Q (pls L (s + 1)) (by rw [if_pos hb]) (h5 f Q h)
      · obtain ⟨q, z, k, h1, h2, h3, h4, h5⟩ := ih (d + 1) H (F ||| 2 ^ c) (s + o) (by omega) hpF hE
        refine ⟨q, z, k + 1, h1, h2, by omega, fun f Q h => ?_, fun f Q h => ?_⟩
        · rw [show d + (k + 1) = d + 1 + k by omega] at h
          exact stepM (f + k) Q (pls L (s + o)) (by rw [if_neg hb]) (h4 f Q h)
        · rw [show d + (k + 1) = d + 1 + k by omega] at h
          exact stepC (f + k) Q (pls L (s + o)) (by rw [if_neg hb]) (h5 f Q h)
theorem q_run {uc um : ST} {K : ST → ST → Prop} (x1 a2 : Int32) (hz : gZ uc 0 < 2) (h : relN uc um ∨ relY uc um) (hK : ∀ uc1 um1, qC uc uc1 → qM um um1 → K uc1 um1) : wC12 x1 a2 uc um K := by
  unfold wC12
  generalize (if a2 = 0 then (0 : Int32) else 1) = x2
  unfold wL_run wX6_run wX6_needTree
  have none : ∀ {P : Prop}, gI uc 17 = 0 → gI um 20 = 0 → ((¬ (gI uc 17) = 0 → P) ∧ ((gI uc 17) = 0 → ((xISE = xISE ∧ wX7_run x1 x2 um (FIN K 1 (sO uc (gB uc 5)))) ∨ (xISE = xIOB ∧ wX7_run x1 x2 um (FIN K 2 (sO uc (gB uc 5))))))) := fun e1 e2 => ⟨fun c => absurd e1 c, fun _ => Or.inl ⟨rfl, fun c => absurd e2 c, fun _ => ⟨fun c => absurd c (by rw [t00]; decide), fun _ => fin_bad (by decide) (qC.rf uc) hK⟩⟩⟩
  rcases h with h | ⟨cs, rs, as, L, nc, hO, hC, hM, b1, b2, b3⟩
  · exact none h.2.1 h.2.2.2.2.2.2
  rcases len0 hO hC hM with ⟨e1, e2, -⟩ | ⟨e1, e2, hL⟩
  · exact none e1 e2
  have hn := hO.2.1
  have h216 := p16 hn
  have hok := hO.2.2.2.2.2.2.1
  have h1997 := hok.2.2
  have h11 : gI um 11 = nI nc := by rw [hM.1.2.1, hO.1]
  obtain ⟨hs, hLt⟩ := hO.2.2.2.2.2.2.2 hL
  refine ⟨fun _ => s_case hz hC.2.1 hO.1 hn (fun X hX e => ?_) (fun hno => Or.inr ⟨rfl, ?_⟩), fun c => absurd c e1⟩
  · subst e
    obtain ⟨q, z, k, h1, h2, h3, h4, h5⟩ := path (t := x2) (um := sI um 0 0) hn hO.2.2.1 hO.2.2.2.1 hs hok hX hC.2.2.2.2.2.2.2.1 hC.2.2.2.2.2.2.2.2 hM.2.2.2.2.2 (nc + 1) 0 0 0 0 (by omega) (plc_0 hn) (fun i z hi => by rw [Nat.zero_add, hLt]; exact hi)
    rw [pls_0, Nat.zero_add] at h4 h5
    have hql := (List.getElem?_eq_some_iff.mp h1).1
    have hpq := pls_s L q z h1
    have hle := pls_mono (L := L) L.length (q + 1) (by omega) (Nat.le_refl _)
    have hcs : pls L L.length = csz L := rfl
    have hsz : szN z = 1 := by unfold szN; rw [if_pos h2]
    have c1 := (hC.2.2.2.2.2.2.2.2 q z hql h1).1
    have m1 : gR (sI um 0 0) 32 (pls L q) = nI z.1 := (hM.2.2.2.2.2 q z hql h1).1
    have hz1 : 128 ≤ z.1 ∧ z.1 < 192 := by
      rcases hok.1 q z h1 with g | g
      · exact ⟨g.2.1, g.2.2.1⟩
      · omega
    -- the reference's answer
    have ref : ∀ r : Int32, (x2 = 0 → r = nI (z.1 - 128)) → (¬ x2 = 0 → r = nI k) → wX7_run (nI X) x2 um (FIN K 0 (sB (sO uc (gB uc 5)) 5 (0 : Int32).toNatClampNeg (r : Int32).toInt64)) := by
      intro r hr1 hr2
      refine ⟨fun _ => r_case h11 hn (fun k' hk' e => ⟨fun _ => ⟨fun _ => ⟨1 + k, h4 1 _ ?_⟩, fun c => absurd (by rw [t00]; decide) c⟩, fun c => absurd c (by decide)⟩) (fun hno => absurd hno (case_x hn hX)), fun c => absurd c e2⟩
      have v0 : vp_in (nI (pls L q)) 3000 := vp_in_nI (by omega) (by omega)
      show wX7_run_B42 _ _ _ _ _ _ _
      unfold wX7_run_B42
      rw [cl_nI (by omega), m1]
      refine ⟨v0, pk_le 128 z.1 (fun _ => ⟨fun e => ⟨v0, ?_⟩, fun e => ?_⟩) (fun c => absurd c (by omega))⟩
      · have := hr1 e
        subst this
        rw [show (128 : Int32) = nI 128 from rfl, pk_sub hz1.1]
        exact fin_ok (qC.rf uc) hK
      · have := hr2 e
        subst this
        exact fin_ok (qC.rf uc) hK
    refine ⟨1 + k, h5 1 _ ?_⟩
    show wX0_follow_B5 _ _ _ _ _ _ _
    have b92 : wX0_follow_b92 (fun r_5 u_6 => wX7_run (nI X) x2 um (FIN K 0 (sB (sO u_6 (gB uc 5)) 5 (0 : Int32).toNatClampNeg (r_5 : Int32).toInt64))) x2 (nI (pls L q)) (nI k) uc := by
      unfold wX0_follow_b92
      rw [hC.2.2.2.2.2.2.2.1, cl_nI (by omega), c1]
      refine ⟨fun e => pk_le (csz L) (pls L q) (fun c => absurd c (by omega)) (fun _ => ⟨vp_in_nI (by omega) (by omega), ?_⟩), fun e => ref _ (fun c => absurd c e) (fun _ => rfl)⟩
      rw [show (128 : Int32) = nI 128 from rfl, pk_sub hz1.1]
      exact ref _ (fun _ => rfl) (fun c => absurd e c)
    unfold wX0_follow_B5
    rw [cl_nI (by omega), c1]
    have v0 : vp_in (nI (pls L q)) 2000 := vp_in_nI (by omega) (by omega)
    exact ⟨fun _ => b92, fun _ => ⟨fun _ => b92, fun _ => ⟨v0, pk_le 128 z.1 (fun _ => b92) (fun c => absurd c (by omega))⟩⟩⟩
  · refine ⟨fun _ => r_case h11 hn (fun k hk e => absurd hno (by rw [e]; exact case_x hn hk)) (fun _ => ⟨fun c => absurd rfl c, fun _ => ⟨fun c => absurd c (by rw [t00]; decide), fun _ => fin_bad (by decide) (qC.rf uc) hK⟩⟩), fun c => absurd c e2⟩
/-! cases -/
theorem cntM_0 (RS : List RU) (nc : Nat) : cntM RS nc 0 0 = (List.range (2 ^ nc)).countP (fun X => RS.any (fun x => mb x.1 x.2.1 X)) := by
  unfold cntM
  refine cnt_eq (fun X _ => ?_)
  have : mb 0 0 X = true := by unfold mb; simp
  rw [this, Bool.true_and]
theorem cnt_not (p : Nat → Bool) (n : Nat) : (List.range n).countP p + (List.range n).countP (fun X => !p X) = n := by
  have := cnt_add (p := fun _ => true) (p1 := p) (p2 := fun X => !p X) (fun X => by cases p X <;> rfl) (List.range n)
  rw [← this]
  rw [List.countP_eq_length.mpr (fun _ _ => rfl), List.length_range]
theorem cnt_s (p : Nat → Bool) (n : Nat) : (List.range (n + 1)).countP p = (List.range n).countP p + (if p n = true then 1 else 0) := by
  rw [List.range_succ, List.countP_append]
  simp [List.countP_cons]
/-- the reference's inner loop: does a rule with that action meet case i -/
theorem r_cs77 {u : ST} {rs : List RU} {a X n : Nat} {K46 : Int32 → Int32 → Int32 → ST → Prop} {Q : Int32 → ST → Prop} (h12 : gI u 12 = nI rs.length) (hl : rs.length ≤ 256) (hT : mRul u rs) (hB : rB rs) (ha : a < 64) (hX : X < 2 ^ 31) (h : K46 (nI a) (nI (n + (if (rs.filter (fun r => decide (r.2.2 = a))).any (fun x => mb x.1 x.2.1 X) = true then 1 else 0))) (nI (X + 1)) u) : ∀ (B A : List RU) (f : Nat) (x4 : Int32), rs = A ++ B → B.length + 1 < f → (x4 = 0 ∧ (A.filter (fun r => decide (r.2.2 = a))).any (fun x => mb x.1 x.2.1 X) = false ∨ x4 = 1 ∧ (A.filter (fun r => decide (r.2.2 = a))).any (fun x => mb x.1 x.2.1 X) = true) → wX7_cases_L77 K46 Q f (nI a) (nI n) (nI X) x4 (nI A.length) u := by
  have stop1 : ∀ (A B : List RU), rs = A ++ B → (A.filter (fun r => decide (r.2.2 = a))).any (fun x => mb x.1 x.2.1 X) = true → wX7_cases_b130 K46 Q (nI a) (nI n) (nI X) 1 u := by
    intro A B hM hA
    have : (rs.filter (fun r => decide (r.2.2 = a))).any (fun x => mb x.1 x.2.1 X) = true := by
      rw [hM, List.filter_append, List.any_append, hA]; rfl
    rw [if_pos this] at h
    refine ⟨fun c => absurd c (by decide), fun _ => ?_⟩
    unfold wX7_cases_b141
    rw [nI_1, nI_1]
    exact h
  intro B
  induction B with
  | nil =>
    intro A f x4 hM hf hx
    obtain ⟨f, rfl⟩ : ∃ f', f = f' + 1 := ⟨f - 1, by omega⟩
    have hM' := hM
    rw [List.append_nil] at hM
    show wX7_cases_B77 K46 (wX7_cases_L77 K46 Q f) Q (nI a) (nI n) (nI X) x4 (nI A.length) u
    unfold wX7_cases_B77
    rw [h12, ← hM]
    refine pk_le rs.length rs.length (fun _ => ?_) (fun c => absurd c (by omega))
    rcases hx with ⟨e, hA⟩ | ⟨e, hA⟩
    · rw [← hM] at hA
      rw [hA] at h
      subst e
      refine ⟨fun _ => ?_, fun c => absurd rfl c⟩
      unfold wX7_cases_b141
      rw [nI_1, show (0 : Int32) = nI 0 from rfl, nI_add]
      exact h
    · subst e
      exact stop1 A [] hM' hA
  | cons r B ih =>
    intro A f x4 hM hf hx
    obtain ⟨f, rfl⟩ : ∃ f', f = f' + 1 := ⟨f - 1, by omega⟩
    have hlen : rs.length = A.length + (B.length + 1) := by rw [hM]; simp
    have hat : rs[A.length]? = some r := by rw [hM]; exact at_mid A r B
    have hr := hT _ _ hat
    have hb := hB r (List.mem_of_getElem? hat)
    show wX7_cases_B77 K46 (wX7_cases_L77 K46 Q f) Q (nI a) (nI n) (nI X) x4 (nI A.length) u
    unfold wX7_cases_B77
    rw [h12]
    refine pk_le rs.length A.length (fun c => absurd c (by omega)) (fun _ => ?_)
    rcases hx with ⟨e, hA⟩ | ⟨e, hA⟩
    · subst e
      refine ⟨fun c => absurd rfl c, fun _ => ⟨fun c => absurd c.symm (m1_ne a (by omega)), fun _ => ⟨vp_in_nI (by omega) (by omega), ?_⟩⟩⟩
      rw [cl_nI (by omega), hr.2.2]
      have go : ∀ x : Int32, (x = 0 ∧ ((A ++ [r]).filter (fun r => decide (r.2.2 = a))).any (fun x => mb x.1 x.2.1 X) = false ∨ x = 1 ∧ ((A ++ [r]).filter (fun r => decide (r.2.2 = a))).any (fun x => mb x.1 x.2.1 X) = true) → wX7_cases_b122 K46 (wX7_cases_L77 K46 Q f) Q (nI a) (nI n) (nI X) (nI A.length) x u := by
        intro x hx
        unfold wX7_cases_b122
        rw [nI_1, show A.length + 1 = (A ++ [r]).length by simp]
        exact ih (A ++ [r]) f x (by rw [hM]; simp) (by simp at hf; omega) hx
      refine ne_eq r.2.2 a (fun hne => go 0 (Or.inl ⟨rfl, ?_⟩)) (fun he => ?_)
      · rw [List.filter_append, List.any_append, hA]; simp [hne]
      · refine r_isMet hl hT hB hat hX (fun hm => ⟨fun _ => go 0 (Or.inl ⟨rfl, ?_⟩), fun c => absurd rfl c⟩) (fun hm => ⟨fun c => absurd c (by decide), fun _ => go 1 (Or.inr ⟨rfl, ?_⟩)⟩)
        · rw [List.filter_append, List.any_append, hA]; simp [he, hm]
        · rw [List.filter_append, List.any_append, hA]; simp [he, hm]
    · subst e
      exact ⟨fun _ => stop1 A (r :: B) hM hA, fun c => absurd c (by decide)⟩
theorem r_csA {u : ST} {rs : List RU} {nc a : Nat} {Q : Int32 → ST → Prop} (h11 : gI u 11 = nI nc) (hn : nc ≤ 16) (h12 : gI u 12 = nI rs.length) (hl : rs.length ≤ 256) (hT : mRul u rs) (hB : rB rs) (ha : a < 64) (h : Q (nI ((List.range (2 ^ nc)).countP (fun X => (rs.filter (fun r => decide (r.2.2 = a))).any (fun x => mb x.1 x.2.1 X)))) u) : ∃ f, wX7_cases_L46 Q f (nI a) 0 0 u := by
  have h216 := p16 hn
  have key : ∀ (f X : Nat), 2 ^ nc - X < f → X ≤ 2 ^ nc → wX7_cases_L46 Q f (nI a) (nI ((List.range X).countP (fun X => (rs.filter (fun r => decide (r.2.2 = a))).any (fun x => mb x.1 x.2.1 X)))) (nI X) u := by
    intro f
    induction f with
    | zero => intro X h; omega
    | succ f ih =>
      intro X hf hX
      show wX7_cases_B46 (wX7_cases_L46 Q f) Q (nI a) _ (nI X) u
      unfold wX7_cases_B46 wX7_allCases
      rw [h11, nI_pow (by omega)]
      refine pk_le (2 ^ nc) X (fun hge => by rw [show X = 2 ^ nc by omega]; exact h) (fun hlt => ⟨fun _ => ⟨rs.length + 2, ?_⟩, fun e => absurd e.symm (m1_ne a (by omega))⟩)
      have nx := ih (X + 1) (by omega) (by omega)
      rw [cnt_s] at nx
      exact r_cs77 h12 hl hT hB ha (by omega) nx rs [] (rs.length + 2) 0 rfl (by omega) (Or.inl ⟨rfl, rfl⟩)
  exact ⟨2 ^ nc + 1, key (2 ^ nc + 1) 0 (Nat.lt_succ_self _) (Nat.zero_le _)⟩
theorem r_csN {u : ST} {rs : List RU} {nc : Nat} {Q : Int32 → ST → Prop} (h11 : gI u 11 = nI nc) (hn : nc ≤ 16) (h12 : gI u 12 = nI rs.length) (hl : rs.length ≤ 256) (hT : mRul u rs) (hB : rB rs) (h : Q (nI ((List.range (2 ^ nc)).countP (fun X => !rs.any (fun x => mb x.1 x.2.1 X)))) u) : ∃ f, wX7_cases_L46 Q f (-1) 0 0 u := by
  have h216 := p16 hn
  have key : ∀ (f X : Nat), 2 ^ nc - X < f → X ≤ 2 ^ nc → wX7_cases_L46 Q f (-1) (nI ((List.range X).countP (fun X => !rs.any (fun x => mb x.1 x.2.1 X)))) (nI X) u := by
    intro f
    induction f with
    | zero => intro X h; omega
    | succ f ih =>
      intro X hf hX
      show wX7_cases_B46 (wX7_cases_L46 Q f) Q (-1) _ (nI X) u
      unfold wX7_cases_B46 wX7_allCases
      rw [h11, nI_pow (by omega)]
      refine pk_le (2 ^ nc) X (fun hge => by rw [show X = 2 ^ nc by omega]; exact h) (fun hlt => ⟨fun c => absurd rfl c, fun _ => ?_⟩)
      refine r_firstMet h12 hl hT hB (by omega) ?_
      have hfm := fmF_neg (X := X) rs 0 (by omega)
      have nx := ih (X + 1) (by omega) (by omega)
      rw [cnt_s] at nx
      have fin : ∀ (x : Int32) (k : Nat), x = nI k → k = (if (!rs.any (fun x => mb x.1 x.2.1 X)) = true then 1 else 0) → wX7_cases_b72 (wX7_cases_L46 Q f) Q (-1) (nI ((List.range X).countP (fun X => !rs.any (fun x => mb x.1 x.2.1 X)))) (nI X) x u := by
        intro x k hx hk
        have b130 : wX7_cases_b130 (wX7_cases_L46 Q f) Q (-1) (nI ((List.range X).countP (fun X => !rs.any (fun x => mb x.1 x.2.1 X)))) (nI X) x u := by
          unfold wX7_cases_b130 wX7_cases_b141
          rw [← hk] at nx
          rw [nI_1]
          refine ⟨fun e => ?_, fun e => ?_⟩
          · have hk0 : k = 0 := by
              rw [hx, nI_is0 (by rw [hk]; split <;> omega)] at e; exact e
            rw [show (0 : Int32) = nI 0 from rfl, nI_add, ← hk0]; exact nx
          · have hk1 : k = 1 := by
              rw [hx, nI_is0 (by rw [hk]; split <;> omega)] at e
              have : k ≤ 1 := by rw [hk]; split <;> omega
              omega
            rw [hk1] at nx
            rw [nI_1]; exact nx
        exact ⟨1, fun _ => b130, fun _ => ⟨fun _ => b130, fun _ => ⟨fun _ => b130, fun c => absurd rfl c⟩⟩⟩
      refine ⟨fun hp => ?_, fun hp => ?_⟩
      · have hng := hfm.mp hp
        refine fin 0 0 rfl ?_
        rw [if_neg]
        intro hc
        apply hng
        intro x hx
        cases hmx : mb x.1 x.2.1 X
        · rfl
        · have : rs.any (fun x => mb x.1 x.2.1 X) = true := List.any_eq_true.mpr ⟨x, hx, hmx⟩
          rw [this] at hc
          cases hc
      · refine fin 1 1 rfl ?_
        rw [if_pos]
        cases hany : rs.any (fun x => mb x.1 x.2.1 X)
        · rfl
        · exfalso
          obtain ⟨x, hx, hmx⟩ := List.any_eq_true.mp hany
          apply hp
          rw [hfm]
          intro hg
          have := hg x hx
          rw [hmx] at this
          cases this
  exact ⟨2 ^ nc + 1, key (2 ^ nc + 1) 0 (Nat.lt_succ_self _) (Nat.zero_le _)⟩
theorem filter_id {α : Type} (l : List α) (p : α → Bool) (h : ∀ x, p x = true) : l.filter p = l := List.filter_eq_self.mpr (fun x _ => h x)
theorem can_00 (r : RU) : can 0 0 r = true := by unfold can; simp
theorem s_met {RS : List RU} {nc : Nat} {u : ST} {Q : Int32 → ST → Prop} (hn : nc ≤ 16) (hRN : rN nc RS) (h16 : gI u 16 = nI (2 ^ nc - 1)) (hR : wRul u RS) (hL : wLst u RS 0 RS) (hQ : ∀ v, wayF u v → Q (nI (cntM RS nc 0 0)) v) : wX5_casesMet u Q := by
  unfold wX5_casesMet
  have e : opn nc 0 0 = 2 ^ nc - 1 := by
    apply bitx; intro i; rw [opn_bit hn, Nat.testBit_two_pow_sub_one]; simp
  rw [h16, ← e]
  exact ⟨17, by omega, w_cnt hn hRN 17 0 0 0 u _ (by omega) (by omega) (plc_0 hn) hR (by rw [filter_id RS _ can_00]; exact hL) (fun v hv => hQ v hv.way)⟩
theorem q_cases {uc um : ST} {K : ST → ST → Prop} (x1 : Int32) (hz : gZ uc 0 < 2) (h : relN uc um ∨ relY uc um) (hK : ∀ uc1 um1, qC uc uc1 → qM um um1 → K uc1 um1) : wC9 x1 uc um K := by
  unfold wC9 wL_cases wX6_cases wX6_needTable
  rcases h with h | ⟨cs, rs, as, L, nc, hO, hC, hM, a1, a2, a3⟩
  · refine ⟨fun c => absurd h.1 c, fun _ => Or.inl ⟨rfl, ?_⟩⟩
    refine ⟨fun c => absurd h.2.2.2.2.2.1 c, fun _ => ⟨fun c => absurd c (by rw [t00]; decide), fun _ => fin_bad (by decide) (qC.rf uc) hK⟩⟩
  have hn := hO.2.1
  have h216 := p16 hn
  have h11 : gI (sI um 0 0) 11 = nI nc := by rw [t0k um 0 11 (by decide), hM.1.2.1, hO.1]
  have h12 : gI (sI um 0 0) 12 = nI rs.length := by rw [t0k um 0 12 (by decide)]; exact hM.1.2.2.1
  have hmr : mRul (sI um 0 0) rs := hM.1.2.2.2.2.2.2
  have h13 := hM.1.2.2.2.1
  have ha64 := hO.2.2.2.2.2.1
  have hl := hO.2.2.2.2.1
  have hB := hO.2.2.2.1
  have b25 : wX7_cases_b25 (FIN K 2 (sO uc (gB uc 5))) x1 um := by
    unfold wX7_cases_b25 wX7_cases_b30
    exact ⟨fun c => absurd c (by rw [t00]; decide), fun _ => fin_bad (by decide) (qC.rf uc) hK⟩
  have ref : ∀ P : Int32 → ST → Prop, ¬ x1 < -1 → x1 < nI as.length → (∃ f, wX7_cases_L46 P f x1 0 0 (sI um 0 0)) → wX7_cases x1 um P := by
    intro P h1 h2 h3
    unfold wX7_cases
    rw [h13]
    exact ⟨fun _ => ⟨fun c => absurd c h1, fun _ => ⟨fun _ => ⟨fun _ => h3, fun c => absurd (by rw [t00]; decide) c⟩, fun c => absurd h2 c⟩⟩, fun c => absurd c (r10 hM)⟩
  have hT := hC.2.1
  refine ⟨fun _ => ⟨fun h1 => Or.inr ⟨rfl, fun _ => ⟨fun _ => b25, fun c => absurd h1 c⟩, fun c => absurd c (r10 hM)⟩, fun h1 => ⟨hz, ?_⟩⟩, fun c => absurd c (c0 hC)⟩
  rw [hT.2.1.1]
  refine ⟨fun h2 => ⟨hz, ?_⟩, fun h2 => Or.inr ⟨rfl, fun _ => ⟨fun c => absurd c h1, fun _ => ⟨fun c => absurd (by rw [h13] at c; exact c) h2, fun _ => b25⟩⟩, fun c => absurd c (r10 hM)⟩⟩
  by_cases hm1 : x1 = -1
  · subst hm1
    refine s_start (p := fun _ => true) hz hT (fun r _ => ⟨fun _ => Or.inl rfl, fun _ => rfl⟩) (fun v hv h16 hR hL => ?_)
    rw [hO.1] at h16
    rw [filter_id rs (fun _ => true) (fun _ => rfl)] at hR hL
    refine s_met hn hO.2.2.1 h16 hR hL (fun w hw => ⟨fun c => absurd rfl c, fun _ => ?_⟩)
    have hq : qC uc w := (hv.tr hw).q
    have hTw := hT.way hz (hv.tr hw)
    have hzw : gZ w 0 = gZ uc 0 := hq.2.2.2.2 0
    rw [hzw]
    refine ⟨hz, ?_⟩
    unfold wX2_caseCount
    rw [hTw.1.1, hO.1, nI_pow (by omega)]
    dsimp only
    have hcl := cntM_le rs nc 0 0
    rw [pk_sub hcl]
    have e : 2 ^ nc - cntM rs nc 0 0 = (List.range (2 ^ nc)).countP (fun X => !rs.any (fun x => mb x.1 x.2.1 X)) := by
      rw [cntM_0]
      have := cnt_not (fun X => rs.any (fun x => mb x.1 x.2.1 X)) (2 ^ nc)
      omega
    rw [e]
    exact ref _ (by decide) h2 (r_csN h11 hn h12 hl hmr hB (fin_ok hq hK))
  · obtain ⟨a, ha31, rfl⟩ := nI_of (x := x1) (fun c => h1 (lt_m1.mpr ⟨c, hm1⟩))
    rw [n_lt ha31 (by omega)] at h2
    refine s_start (p := fun r => decide (r.2.2 = a)) hz hT (fun r hr => ?_) (fun v hv h16 hR hL => ?_)
    · have := (hB r hr).2.2
      rw [decide_eq_true_eq, n_eq (by omega) ha31]
      exact ⟨fun e => Or.inr e, fun e => by rcases e with e | e; exact absurd e hm1; exact e⟩
    · rw [hO.1] at h16
      refine s_met hn (fun r hr => hO.2.2.1 r (List.mem_filter.mp hr).1) h16 hR hL (fun w hw => ⟨fun _ => ?_, fun c => absurd c hm1⟩)
      have hq : qC uc w := (hv.tr hw).q
      rw [cntM_0]
      exact ref _ h1 (by rw [n_lt ha31 (by omega)]; exact h2) (r_csA h11 hn h12 hl hmr hB (by omega) (fin_ok hq hK))
