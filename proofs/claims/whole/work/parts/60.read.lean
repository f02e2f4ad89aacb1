/-! BETWEEN CALLS -/
def IVR (N : Nat) (uc um : ST) : Prop := tRel uc um N ∧ gI uc 1 = gI um 4 ∧ gZ uc 0 < 2 ∧ gZ uc 1 = 1 - gZ uc 0 ∧ (relN uc um ∨ relY uc um)
theorem mTab.eq {u v : ST} {cs as : List (List Nat)} {rs : List RU} (h : mTab u cs rs as) (h1 : ∀ k, 10 ≤ k → k ≤ 13 → gI v k = gI u k) (h2 : ∀ k, 5 ≤ k → k ≤ 9 → gR v k = gR u k) : mTab v cs rs as := by
  obtain ⟨a, b, c, d, e, f, g⟩ := h
  exact ⟨(h1 10 (by omega) (by omega)).trans a, (h1 11 (by omega) (by omega)).trans b, (h1 12 (by omega) (by omega)).trans c, (h1 13 (by omega) (by omega)).trans d, e.congr (h2 5 (by omega) (by omega)) (h2 6 (by omega) (by omega)), f.congr (h2 5 (by omega) (by omega)) (h2 6 (by omega) (by omega)), fun k r hk => by rw [h2 7 (by omega) (by omega), h2 8 (by omega) (by omega), h2 9 (by omega) (by omega)]; exact g k r hk⟩
theorem mTr.eq {u v : ST} {s : Nat} {L : List RU} (h : mTr u s L) (h2 : ∀ k, 22 ≤ k → k ≤ 26 → gR v k = gR u k) : mTr v s L := fun i z hi => by
  have := h i z hi
  unfold nod at this ⊢
  rw [h2 22 (by omega) (by omega), h2 23 (by omega) (by omega), h2 24 (by omega) (by omega), h2 25 (by omega) (by omega), h2 26 (by omega) (by omega)]
  exact this
theorem rel_keep {uc um uc1 um1 : ST} (hz : gZ uc 0 < 2) (c1 : ∀ k, k < 5 ∧ k ≠ 1 ∨ 9 < k ∧ k ≠ 16 → gI uc1 k = gI uc k) (c2 : gJ uc1 1 = gJ uc 1) (c3 : ∀ k, k < 6 ∨ 11 < k ∧ k < 16 → gR uc1 k = gR uc k) (c4 : ∀ k, 1 ≤ k → k ≤ 4 → gB uc1 k = gB uc k) (c5 : ∀ k, gZ uc1 k = gZ uc k) (m1 : ∀ k, 10 ≤ k → gI um1 k = gI um k) (m2 : ∀ k, 5 ≤ k → gR um1 k = gR um k) (h : relN uc um ∨ relY uc um) : relN uc1 um1 ∨ relY uc1 um1 := by
  rcases h with ⟨h1, h2, h3, h4, h5, h6, h7⟩ | ⟨cs, rs, as, L, nc, hO, hC, hM, a1, a2, a3⟩
  · left
    exact ⟨(c1 0 (by omega)).trans h1, (c1 17 (by omega)).trans h2, (c1 18 (by omega)).trans h3, (c1 19 (by omega)).trans h4, (c1 21 (by omega)).trans h5, (m1 10 (by omega)).trans h6, (m1 20 (by omega)).trans h7⟩
  · right
    obtain ⟨d1, d2, d3, d4, d5, d6, d7, d8, d9⟩ := hC
    obtain ⟨e1, e2, e3, e4, e5, e6⟩ := hM
    refine ⟨cs, rs, as, L, nc, hO, ⟨(c1 0 (by omega)).trans d1, ?_, (c1 17 (by omega)).trans d3, (c1 18 (by omega)).trans d4, (c1 19 (by omega)).trans d5, c2.trans d6, fun i z hi => ?_, (c1 21 (by omega)).trans d8, ?_⟩, ⟨e1.eq (fun k a _ => m1 k (by omega)) (fun k a _ => m2 k (by omega)), (m1 20 (by omega)).trans e2, (m1 21 (by omega)).trans e3, e4.eq (fun k a _ => m2 k (by omega)), (m1 33 (by omega)).trans e5, ?_⟩, ?_, ?_, ?_⟩
    · rw [c5 0]
      exact ⟨d2.1.congr (c1 _ (by omega)) (c4 _ (by omega) (by omega)), d2.2.1.congr (c1 _ (by omega)) (c4 _ (by omega) (by omega)), (c1 _ (by omega)).trans d2.2.2.1, d2.2.2.2.1, fun k r hk => by rw [c3 _ (by omega), c3 _ (by omega), c3 _ (by omega)]; exact d2.2.2.2.2 k r hk⟩
    · rw [c3 12 (by omega), c3 13 (by omega)]; exact d7 i z hi
    · rw [c3 14 (by omega)]; exact d9
    · rw [m2 32 (by omega)]; exact e6
    · rw [c1 2 (by omega), m1 17 (by omega)]; exact a1
    · rw [c1 3 (by omega), m1 18 (by omega)]; exact a2
    · rw [c1 4 (by omega), m1 19 (by omega)]; exact a3
theorem tRel.mono {uc um : ST} {N M : Nat} (h : tRel uc um N) (hN : N ≤ M) : tRel uc um M := by
  obtain ⟨tb, n, a, b, c⟩ := h
  exact ⟨tb, n, by omega, b, c⟩
theorem IVR.q {uc um uc1 um1 : ST} {N M : Nat} (h : IVR N uc um) (hN : N ≤ M) (hc : qC uc uc1) (hm : qM um um1) : IVR M uc1 um1 := by
  obtain ⟨⟨tb, n, a, b, c⟩, h1, h2, h3, h4⟩ := h
  refine ⟨⟨tb, n, by omega, b.congr (hc.1 5 (by decide)) (hc.2.2.2.1 0 (by omega)), c.congr (hm.1 2 (by decide)) (hm.2 1)⟩, ?_, ?_, ?_, rel_keep h2 (fun k _ => hc.1 k (by omega)) hc.2.1 hc.2.2.1 (fun k _ hk => hc.2.2.2.1 k hk) hc.2.2.2.2 (fun k hk => hm.1 k (by omega)) (fun k _ => hm.2 k) h4⟩
  · rw [hc.1 1 (by decide), hm.1 4 (by decide)]; exact h1
  · rw [hc.2.2.2.2]; exact h2
  · rw [hc.2.2.2.2, hc.2.2.2.2]; exact h3
theorem IVR.t {uc um uc1 um1 : ST} {N M : Nat} (h : IVR N uc um) (ht : tRel uc1 um1 M) (hc : cSame uc uc1) (hm : mSame um um1) : IVR M uc1 um1 := by
  obtain ⟨-, h1, h2, h3, h4⟩ := h
  refine ⟨ht, ?_, ?_, ?_, rel_keep h2 (fun k _ => hc.1 k (by omega)) hc.2.1 (fun k _ => hc.2.2.1 k) hc.2.2.2.1 hc.2.2.2.2 (fun k hk => hm.1 k (by omega)) (fun k _ => hm.2 k (by omega)) h4⟩
  · rw [hc.1 1 (by omega), hm.1 4 (by omega)]; exact h1
  · rw [hc.2.2.2.2]; exact h2
  · rw [hc.2.2.2.2, hc.2.2.2.2]; exact h3
/-! READ -/
theorem rel_bad {uc um v w : ST} {x : Int32} {f : Nat → Int64} (hz : gZ uc 0 < 2) (hF : pF (1 - gZ uc 0) uc v) (hM : mF (sI um 0 0) w) (h : relN uc um ∨ relY uc um) : relN (sO (sI (sI v 5 0) 1 x) f) (sI w 2 0) ∨ relY (sO (sI (sI v 5 0) 1 x) f) (sI w 2 0) := by
  have cI : ∀ k, k ≠ 5 → k ≠ 1 → gI (sO (sI (sI v 5 0) 1 x) f) k = gI v k := fun k a b => by
    show gI (sI (sI v 5 0) 1 x) k = gI v k
    rw [gI_sI, if_neg b, gI_sI, if_neg a]
  have cI2 : ∀ k, k = 0 ∨ k = 2 ∨ k = 3 ∨ k = 4 ∨ 16 < k → gI (sO (sI (sI v 5 0) 1 x) f) k = gI uc k := fun k hk => by
    rw [cI k (by omega) (by omega)]
    exact hF.1 k (by omega) (by omega) (by omega) (by omega) (by omega) (by omega) (by omega)
  have mI : ∀ k, 5 ≤ k → k ≠ 14 → k ≠ 15 → k ≠ 16 → gI (sI w 2 0) k = gI um k := fun k hk a b c => by
    rw [gI_sI, if_neg (by omega), hM.1 k (by omega) (by omega) a b c, gI_sI, if_neg (by omega)]
  rcases h with ⟨h1, h2, h3, h4, h5, h6, h7⟩ | ⟨cs, rs, as, L, nc, hO, hC, hMs, a1, a2, a3⟩
  · left
    exact ⟨(cI2 0 (by omega)).trans h1, (cI2 17 (by omega)).trans h2, (cI2 18 (by omega)).trans h3, (cI2 19 (by omega)).trans h4, (cI2 21 (by omega)).trans h5, (mI 10 (by omega) (by omega) (by omega) (by omega)).trans h6, (mI 20 (by omega) (by omega) (by omega) (by omega)).trans h7⟩
  · right
    obtain ⟨d1, d2, d3, d4, d5, d6, d7, d8, d9⟩ := hC
    obtain ⟨e1, e2, e3, e4, e5, e6⟩ := hMs
    have hgz : gZ (sO (sI (sI v 5 0) 1 x) f) 0 = gZ uc 0 := hF.2.2.2.2 0
    have cR : ∀ k, 9 < k → gR (sO (sI (sI v 5 0) 1 x) f) k = gR uc k := fun k hk => hF.2.2.1 k (by omega) (by omega) (by omega)
    have mR : ∀ k, 9 < k → gR (sI w 2 0) k = gR um k := fun k hk => hM.2.1 k (by omega)
    have hc16 : cs.length ≤ 16 := by have := hO.1; have := hO.2.1; omega
    have ha64 := hO.2.2.2.2.2.1
    have nm : ∀ (base : Nat) (l : List (List Nat)), base + l.length ≤ 80 → mNm um base l → mNm (sI w 2 0) base l := by
      intro base l hl hN
      refine ⟨hN.1, fun k y hk => ?_⟩
      have hlt := (List.getElem?_eq_some_iff.mp hk).1
      have h10 := (hN.1 y (List.mem_of_getElem? hk)).2.1
      refine ⟨?_, fun i b hb => ?_⟩
      · show gR w 6 (base + k) = _
        rw [hM.2.2.2.1 _ (by omega)]; exact (hN.2 k y hk).1
      · have hi := (List.getElem?_eq_some_iff.mp hb).1
        show gR w 5 _ = _
        rw [hM.2.2.1 _ (by omega)]; exact (hN.2 k y hk).2 i b hb
    refine ⟨cs, rs, as, L, nc, hO, ⟨(cI2 0 (by omega)).trans d1, ?_, (cI2 17 (by omega)).trans d3, (cI2 18 (by omega)).trans d4, (cI2 19 (by omega)).trans d5, hF.2.1.trans d6, fun i z hi => ?_, (cI2 21 (by omega)).trans d8, ?_⟩, ⟨⟨(mI 10 (by omega) (by omega) (by omega) (by omega)).trans e1.1, (mI 11 (by omega) (by omega) (by omega) (by omega)).trans e1.2.1, (mI 12 (by omega) (by omega) (by omega) (by omega)).trans e1.2.2.1, (mI 13 (by omega) (by omega) (by omega) (by omega)).trans e1.2.2.2.1, nm 0 cs (by omega) e1.2.2.2.2.1, nm 16 as (by omega) e1.2.2.2.2.2.1, fun k r hk => ?_⟩, (mI 20 (by omega) (by omega) (by omega) (by omega)).trans e2, (mI 21 (by omega) (by omega) (by omega) (by omega)).trans e3, e4.eq (fun k a _ => mR k (by omega)), (mI 33 (by omega) (by omega) (by omega) (by omega)).trans e5, ?_⟩, ?_, ?_, ?_⟩
    · rw [hgz]
      have qI : ∀ k, k = 10 + gZ uc 0 ∨ k = 12 + 2 * gZ uc 0 ∨ k = 12 + (2 * gZ uc 0 + 1) → gI (sO (sI (sI v 5 0) 1 x) f) k = gI uc k := fun k hk => by
        rw [cI k (by omega) (by omega)]
        exact hF.1 k (by omega) (by omega) (by omega) (by omega) (by omega) (by omega) (by omega)
      have qB : ∀ k, k = 1 + 2 * gZ uc 0 ∨ k = 1 + (2 * gZ uc 0 + 1) → gB (sO (sI (sI v 5 0) 1 x) f) k = gB uc k := fun k hk => by
        show (if k = 5 then f else gB v k) = gB uc k
        rw [if_neg (by omega)]
        exact hF.2.2.2.1 k (by omega) (by omega)
      have qR : ∀ k, k = 3 * gZ uc 0 ∨ k = 3 * gZ uc 0 + 1 ∨ k = 3 * gZ uc 0 + 2 → gR (sO (sI (sI v 5 0) 1 x) f) k = gR uc k := fun k hk => hF.2.2.1 k (by omega) (by omega) (by omega)
      exact ⟨d2.1.congr (qI _ (by omega)) (qB _ (by omega)), d2.2.1.congr (qI _ (by omega)) (qB _ (by omega)), (qI _ (by omega)).trans d2.2.2.1, d2.2.2.2.1, fun k r hk => by rw [qR _ (by omega), qR _ (by omega), qR _ (by omega)]; exact d2.2.2.2.2 k r hk⟩
    · rw [cR 12 (by omega), cR 13 (by omega)]; exact d7 i z hi
    · rw [cR 14 (by omega)]; exact d9
    · have hlt := (List.getElem?_eq_some_iff.mp hk).1
      have := hO.2.2.2.2.1
      show gR w 7 k = _ ∧ gR w 8 k = _ ∧ gR w 9 k = _
      rw [hM.2.2.2.2 7 k (by omega) (by omega) (by omega), hM.2.2.2.2 8 k (by omega) (by omega) (by omega), hM.2.2.2.2 9 k (by omega) (by omega) (by omega)]
      exact e1.2.2.2.2.2.2 k r hk
    · rw [mR 32 (by omega)]; exact e6
    · rw [cI2 2 (by omega), mI 17 (by omega) (by omega) (by omega) (by omega)]; exact a1
    · rw [cI2 3 (by omega), mI 18 (by omega) (by omega) (by omega) (by omega)]; exact a2
    · rw [cI2 4 (by omega), mI 19 (by omega) (by omega) (by omega) (by omega)]; exact a3
theorem q_read {uc um : ST} {N : Nat} {K : ST → ST → Prop} (hN : N ≤ 8000) (h : IVR N uc um) (hK : ∀ uc1 um1, IVR 0 uc1 um1 → K uc1 um1) : wC2 uc um K := by
  obtain ⟨⟨tb, n, hnN, hc, hm⟩, hf, hz, hz1, hrel⟩ := h
  have hn8 : n ≤ 8000 := by omega
  have hb : ∀ i, i < n → tb i < 256 := fun i hi => hc.lt hi
  unfold wC2 wX6_read
  rw [hz1]
  refine ⟨by omega, s_parse (by omega) hn8 hc ?_⟩
  cases hp : pAll tb n with
  | inl e =>
    intro v hF h8 h9
    refine ⟨fun c => absurd rfl c, fun _ => ?_⟩
    refine r_read hn8 hb hm ?_
    rw [hp]
    intro w hw w4 w3 k1 k3
    have w4' : gI (sI w 2 0) 4 = nI e.1 := by rw [gI_sI, if_neg (by decide)]; exact w4
    have w3' : gI (sI w 2 0) 3 = nI e.2 := by rw [gI_sI, if_neg (by decide)]; exact w3
    have v8' : gI (sI v 5 0) 8 = nI e.1 := by rw [gI_sI, if_neg (by decide)]; exact h8
    refine ⟨fun c => absurd c (by rw [w4']; exact nI_nle (by omega) (by omega)), fun _ => ⟨?_, hK _ _ ⟨⟨tb, 0, by omega, ⟨?_, fun i hi => by omega⟩, ⟨?_, fun i hi => by omega⟩⟩, ?_, ?_, ?_, rel_bad hz hF hw hrel⟩⟩⟩
    · rw [w3', gI_sI, if_neg (by decide), gI_sI, if_neg (by decide), h9]
    · show gI (sI (sI v 5 0) 1 (gI (sI v 5 0) 8)) 5 = nI 0
      rw [gI_sI, if_neg (by decide), gI_sI, if_pos rfl]; rfl
    · rw [gI_sI, if_pos rfl]; rfl
    · show gI (sI (sI v 5 0) 1 (gI (sI v 5 0) 8)) 1 = gI (sI w 2 0) 4
      rw [gI_sI, if_pos rfl, v8', w4']
    · show gZ v 0 < 2
      rw [hF.2.2.2.2]; exact hz
    · show gZ v 1 = 1 - gZ v 0
      rw [hF.2.2.2.2, hF.2.2.2.2]; exact hz1
  | inr z =>
    obtain ⟨cs, rs, as⟩ := z
    have hrk := pAll_ok hp
    intro v hF h8 hT
    dsimp only at hT
    generalize ht : 1 - gZ uc 0 = t at *
    have ht2 : t < 2 := by omega
    have hc16 : cs.length ≤ 16 := by have := hT.1.2.1; rw [lenL_c ht2] at this; exact this
    have ha64 : as.length ≤ 64 := by have := hT.2.1.2.1; rw [lenL_a ht2] at this; exact this
    have hl := hT.2.2.2.1
    have h216 := p16 hc16
    have hRN : rN cs.length rs := fun r hr => ⟨(hrk r hr).1, (hrk r hr).2.1⟩
    have hB : rB rs := fun r hr => by have := hrk r hr; exact ⟨by omega, by omega, by omega⟩
    refine ⟨fun _ => ?_, fun c => absurd c (by decide)⟩
    have v8' : gI (sI v 5 0) 8 = 0 := by rw [gI_sI, if_neg (by decide)]; exact h8
    rw [v8']
    have z0 : gZ (sI (sI v 5 0) 1 0) 0 = gZ uc 0 := hF.2.2.2.2 0
    have z1 : gZ (sI (sI v 5 0) 1 0) 1 = t := (hF.2.2.2.2 1).trans hz1
    rw [z0, z1]
    refine ⟨hz, ht2, ?_⟩
    generalize hu3 : sI (sZ (sZ (sI (sI v 5 0) 1 0) 0 t) 1 (gZ uc 0)) 0 1 = u3
    have a0 : gI u3 0 = 1 := by rw [← hu3, gI_sI, if_pos rfl]
    have a1 : gI u3 1 = 0 := by rw [← hu3]; rfl
    have a5 : gI u3 5 = 0 := by rw [← hu3]; rfl
    have aI : ∀ k, k ≠ 0 → k ≠ 1 → k ≠ 5 → gI u3 k = gI v k := fun k a b c => by
      rw [← hu3, gI_sI, if_neg a]
      show gI (sI (sI v 5 0) 1 0) k = gI v k
      rw [gI_sI, if_neg b, gI_sI, if_neg c]
    have aZ0 : gZ u3 0 = t := by rw [← hu3]; rfl
    have aZ1 : gZ u3 1 = gZ uc 0 := by rw [← hu3]; rfl
    have aR : ∀ k, gR u3 k = gR v k := fun k => by rw [← hu3]; rfl
    have aB : ∀ k, gB u3 k = gB v k := fun k => by rw [← hu3]; rfl
    have hT3 : cTb u3 t cs rs as := ⟨hT.1.congr (aI _ (by omega) (by omega) (by omega)) (aB _), hT.2.1.congr (aI _ (by omega) (by omega) (by omega)) (aB _), (aI _ (by omega) (by omega) (by omega)).trans hT.2.2.1, hl, fun k r hk => by rw [aR, aR, aR]; exact hT.2.2.2.2 k r hk⟩
    refine s_judge aZ0 ht2 hT3 rfl hc16 hRN hB (fun x r L x2 x3 x4 ho hj hcp => ?_)
    refine r_read hn8 hb hm ?_
    rw [hp]
    intro w hw w4 wT
    have w4' : gI (sI w 2 0) 4 = 0 := by rw [gI_sI, if_neg (by decide)]; exact w4
    refine ⟨fun _ => ?_, fun c => absurd (by rw [w4']; decide) c⟩
    refine k_take (show mTb (sI w 2 0) cs rs as from wT) (fun y y1 y2 yT => ?_)
    refine r_judgeA yT hl rfl hc16 hRN hB (fun q r' L' p2 p3 p4 ho' hq hmp => ?_)
    obtain ⟨er, eL, e2, e3, e4⟩ := outc_uniq ho ho'
    subst er eL e2 e3 e4
    have hok := outc_ok hc16 hRN hB ho
    obtain ⟨c2, c3, c4, c17, c18, c19, cJ, cT, c21, ccd⟩ := hcp
    obtain ⟨m17, m18, m19, m20, m21, mT, m33, mcd⟩ := hmp
    have xz : gZ x 0 = t := (hj.2.2.1 0).trans aZ0
    refine ⟨rfl, hK _ _ ⟨⟨tb, 0, by omega, ⟨?_, fun i hi => by omega⟩, ⟨?_, fun i hi => by omega⟩⟩, ?_, ?_, ?_, Or.inr ⟨cs, rs, as, L, cs.length, ⟨rfl, hc16, hRN, hB, hl, ha64, hok.1, hok.2⟩, ⟨?_, ?_, c17, c18, c19, cJ, cT, c21, ccd⟩, ⟨?_, m20, m21, mT, m33, mcd⟩, ?_, ?_, ?_⟩⟩⟩
    · show gI x 5 = nI 0
      rw [hj.1 5 (by omega), a5]; rfl
    · rw [hq.1 2 (by omega), y1 2 (by omega), gI_sI, if_pos rfl]; rfl
    · show gI x 1 = gI q 4
      rw [hj.1 1 (by omega), a1, hq.1 4 (by omega), y1 4 (by omega), w4']
    · show gZ x 0 < 2
      rw [xz]; exact ht2
    · show gZ x 1 = 1 - gZ x 0
      rw [xz, hj.2.2.1, aZ1]; omega
    · show gI x 0 = 1
      rw [hj.1 0 (by omega)]; exact a0
    · show cTb (sO x (gB uc 5)) (gZ x 0) cs rs as
      rw [xz]
      have hTx := hT3.jf ht2 hj
      have oB : ∀ k, k ≤ 4 → gB (sO x (gB uc 5)) k = gB x k := fun k hk => by
        show (if k = 5 then gB uc 5 else gB x k) = gB x k
        rw [if_neg (by omega)]
      exact ⟨hTx.1.congr rfl (oB _ (by omega)), hTx.2.1.congr rfl (oB _ (by omega)), hTx.2.2.1, hTx.2.2.2.1, hTx.2.2.2.2⟩
    · exact yT.eq (fun k a b => hq.1 k (by omega)) (fun k a b => hq.2 k (by omega))
    · show gI x 2 = gI q 17
      rw [c2, m17]
    · show gI x 3 = gI q 18
      rw [c3, m18]
    · show gI x 4 = gI q 19
      rw [c4, m19]
