def grm (u v : ST) (s : Nat) (L : List RU) (pr : Option Nat) (w : Nat) : Prop := hFr u v ∧ gI v 21 = nI (s + L.length) ∧ mTr v s L ∧ (∀ j, j < s → lkd u v pr s j) ∧ sameS u v w
theorem lkd_off {u v : ST} {p s j : Nat} (h : lkd u v (some p) s j) (hj : j ≠ p) : gR v 22 j = gR u 22 j ∧ gR v 25 j = gR u 25 j ∧ gR v 26 j = gR u 26 j ∧ gR v 23 j = gR u 23 j ∧ gR v 24 j = gR u 24 j := by
  unfold lkd at h
  rw [if_neg (fun g => hj (Option.some.inj g.1).symm), if_neg (fun g => hj (Option.some.inj g.1).symm)] at h
  exact h
theorem nod.eq {u v : ST} {s : Nat} {z : RU} (h : nod u s z) (h1 : gR v 22 s = gR u 22 s) (h2 : gR v 25 s = gR u 25 s) (h3 : gR v 26 s = gR u 26 s) : nod v s z := by
  unfold nod at h ⊢
  rw [h1, h2, h3]; exact h
theorem stk.eq {u v : ST} {w H F d : Nat} {pr : Option Nat} (h : stk u w H F d pr) (g : sameS u v (w + 1)) : stk v w H F d pr := by
  unfold stk at h ⊢
  rw [g 28 w (by omega) (by omega) (by omega), g 29 w (by omega) (by omega) (by omega), g 30 w (by omega) (by omega) (by omega), g 31 w (by omega) (by omega) (by omega)]
  exact h
theorem r_grow {rs : List RU} {nc : Nat} (hn : nc ≤ 16) (hRN : rN nc rs) (hB : rB rs) (hs : snd rs nc) (hl : rs.length ≤ 256) {Q : ST → Prop} : ∀ (g d H F w s f : Nat) (pr : Option Nat) (u : ST), nc - d < g → plc nc H F d → stk u w H F d pr → w ≤ d → gI u 20 = 1 → gI u 21 = nI s → (∀ p, pr = some p → p < s) → gI u 11 = nI nc → gI u 12 = nI rs.length → mRul u rs → s + (tl rs nc g H F d).length ≤ 1000 → (∀ v, grm u v s (tl rs nc g H F d) pr w → wX7_grow_L35 Q f (nI w) v) → wX7_grow_L35 Q (f + (tl rs nc g H F d).length) (nI (w + 1)) u := by
  intro g
  induction g with
  | zero => intro d H F w s f pr u h; omega
  | succ g ih =>
    intro d H F w s f pr u hg hp hst hw h20 h21 hpr h11 h12 hT hfit hQ
    have hdn : d ≤ nc := by have := hp.2.2.2; omega
    rcases tl_step (g := g) hn hRN hB hs hp with ⟨a, ha, hone, e⟩ | ⟨c, ho, hcn, hd, hm1, hc, hpH, hpF, e⟩
    · rw [e] at hQ hfit ⊢
      show wX7_grow_B35 (wX7_grow_L35 Q f) Q (nI (w + 1)) u
      simp only [List.length_singleton] at hfit
      refine r_node (c := 0) hn hB hl h11 h12 hT hp hst (by omega) (by omega) h20 h21 (by omega) hpr (fun a' v ha' hone' f1 f2 f3 f4 f5 f6 f7 => ?_) (fun v hm1 => ?_) (Or.inl ⟨a, ha, hone⟩)
      · have : a' = a := by
          rw [hone] at hone'
          exact ((nI_eq (by omega) (by omega)).mp hone').symm
        subst this
        refine hQ v ⟨f1, f2, fun i z hi => ?_, f6, fun k j h1 h2 _ => f7 k j h1 h2⟩
        cases i with
        | zero =>
          simp at hi
          subst hi
          exact ⟨f3, by rw [if_pos rfl]; exact f4, by rw [if_pos rfl]; exact f5⟩
        | succ i => simp at hi
      · rw [hone] at hm1
        exact absurd hm1.symm (m1_ne a (by omega))
    · rw [e] at hQ hfit ⊢
      have hTpos : 1 ≤ (tl rs nc g (H ||| 2 ^ c) F (d + 1)).length := by
        obtain ⟨g', rfl⟩ : ∃ g', g = g' + 1 := ⟨g - 1, by omega⟩
        exact tl_pos hn hRN hB hs hpH
      generalize hTd : tl rs nc g (H ||| 2 ^ c) F (d + 1) = T at *
      generalize hEd : tl rs nc g H (F ||| 2 ^ c) (d + 1) = E at *
      simp only [List.length_cons, List.length_append] at hfit ⊢
      rw [show f + (T.length + E.length + 1) = (f + E.length + T.length) + 1 by omega]
      show wX7_grow_B35 (wX7_grow_L35 Q (f + E.length + T.length)) Q (nI (w + 1)) u
      refine r_node hn hB hl h11 h12 hT hp hst (by omega) (by omega) h20 h21 (by omega) hpr (fun a' v ha' hone' => ?_) (fun v _ _ f1 f2 f3 f4 f5 f6 f7 f8 f9 => ?_) (Or.inr ⟨hm1, hc, hcn⟩)
      · rw [hm1] at hone'
        exact absurd hone' (m1_ne a' (by omega))
      · have iT := ih (d + 1) (H ||| 2 ^ c) F (w + 1) (s + 1) (f + E.length) (some s) v (by omega) hpH f9 (by omega) ((f1.1 20 (by decide)).trans h20) f2 (fun p hp => by cases hp; omega) ((f1.1 11 (by decide)).trans h11) ((f1.1 12 (by decide)).trans h12) (f1.rul hT) (by rw [hTd]; omega)
        rw [hTd] at iT
        refine iT (fun v2 hv2 => ?_)
        obtain ⟨g1, g2, g3, g4, g5⟩ := hv2
        have h1 := f1.tr g1
        have iE := ih (d + 1) H (F ||| 2 ^ c) w (s + 1 + T.length) f (some s) v2 (by omega) hpF (f8.eq g5) (by omega) ((h1.1 20 (by decide)).trans h20) g2 (fun p hp => by cases hp; omega) ((h1.1 11 (by decide)).trans h11) ((h1.1 12 (by decide)).trans h12) (h1.rul hT) (by rw [hEd]; omega)
        rw [hEd] at iE
        refine iE (fun v3 hv3 => ?_)
        obtain ⟨k1, k2, k3, k4, k5⟩ := hv3
        have o0 : ¬ T.length + 1 = 0 := by omega
        refine hQ v3 ⟨h1.tr k1, ?_, ?_, fun j hj => ?_, fun k j a b hj => ?_⟩
        · rw [k2]; congr 1; simp; omega
        · intro i z hi
          cases i with
          | zero =>
            simp at hi
            subst hi
            have l2 := g4 s (by omega)
            have l3 := k4 s (by omega)
            unfold lkd at l2 l3
            rw [if_pos ⟨rfl, rfl⟩, if_neg (fun h => h.2 rfl)] at l2
            rw [if_neg (fun h => by omega), if_pos ⟨rfl, by omega⟩] at l3
            dsimp only
            rw [Nat.add_zero, if_neg o0, if_neg o0]
            refine ⟨((f3 _ o0).eq l2.1 l2.2.1 l2.2.2.1).eq l3.1 l3.2.1 l3.2.2.1, ?_, ?_⟩
            · rw [l3.2.2.2.1, l2.2.2.2.1]
            · rw [l3.2.2.2.2]; congr 1; omega
          | succ i =>
            simp only [List.getElem?_cons_succ] at hi
            have hTz : mTr v3 (s + 1) T := by
              intro j x hj
              have hjl := (List.getElem?_eq_some_iff.mp hj).1
              have l3 := lkd_off (k4 (s + 1 + j) (by omega)) (by omega)
              have := g3 j x hj
              refine ⟨this.1.eq l3.1 l3.2.1 l3.2.2.1, ?_, ?_⟩
              · rw [l3.2.2.2.1]; exact this.2.1
              · rw [l3.2.2.2.2]; exact this.2.2
            have := mTr_app hTz k3 i z hi
            rw [show s + 1 + i = s + (i + 1) by omega] at this
            exact this
        · have l2 := lkd_off (g4 j (by omega)) (by omega)
          have l3 := lkd_off (k4 j (by omega)) (by omega)
          have l1 := f6 j hj
          unfold lkd at l1 ⊢
          rw [l3.1, l3.2.1, l3.2.2.1, l3.2.2.2.1, l3.2.2.2.2, l2.1, l2.2.1, l2.2.2.1, l2.2.2.2.1, l2.2.2.2.2]
          exact l1
        · rw [k5 k j a b hj, g5 k j a b (by omega), f7 k j a b hj]
def hFr2 (u v : ST) : Prop := (∀ k, k ≠ 20 → k ≠ 21 → gI v k = gI u k) ∧ (∀ k, k < 22 ∨ k = 27 ∨ 31 < k → gR v k = gR u k)
theorem hFr.w {u v : ST} (h : hFr u v) : hFr2 u v := ⟨fun k _ b => h.1 k b, h.2⟩
theorem hFr2.tr {u v w : ST} (h : hFr2 u v) (g : hFr2 v w) : hFr2 u w := ⟨fun k a b => (g.1 k a b).trans (h.1 k a b), fun k a => (g.2 k a).trans (h.2 k a)⟩
theorem r_big {rs : List RU} {nc : Nat} (hn : nc ≤ 16) (hRN : rN nc rs) (hB : rB rs) (hs : snd rs nc) (hl : rs.length ≤ 256) {Q : ST → Prop} : ∀ (g d H F w s f : Nat) (pr : Option Nat) (u : ST), nc - d < g → plc nc H F d → stk u w H F d pr → w ≤ d → gI u 20 = 1 → gI u 21 = nI s → (∀ p, pr = some p → p < s) → gI u 11 = nI nc → gI u 12 = nI rs.length → mRul u rs → s ≤ 1000 → 1000 < s + (tl rs nc g H F d).length → 1002 ≤ f + s → (∀ v, hFr2 u v → gI v 20 = 0 → gI v 21 = 0 → Q v) → wX7_grow_L35 Q f (nI (w + 1)) u := by
  intro g
  induction g with
  | zero => intro d H F w s f pr u h; omega
  | succ g ih =>
    intro d H F w s f pr u hg hp hst hw h20 h21 hpr h11 h12 hT hs1 hfit hf hQ
    have hdn : d ≤ nc := by have := hp.2.2.2; omega
    obtain ⟨f, rfl⟩ : ∃ f', f = f' + 1 := ⟨f - 1, by omega⟩
    show wX7_grow_B35 (wX7_grow_L35 Q f) Q (nI (w + 1)) u
    by_cases h1000 : s = 1000
    · unfold wX7_grow_B35
      rw [pk_m1, h20, h21]
      refine ⟨fun c => absurd c (nI_nle (by omega) (by omega)), fun _ => ⟨fun c => absurd c (by decide), fun _ => ne_eq s 1000 (fun c => absurd h1000 c) (fun _ => ?_)⟩⟩
      obtain ⟨f, rfl⟩ : ∃ f', f = f' + 1 := ⟨f - 1, by omega⟩
      have hb : wX7_grow_b325 Q (sI (sI u 20 0) 21 0) := by
        unfold wX7_grow_b325
        have e20 : gI (sI (sI u 20 0) 21 0) 20 = 0 := by rw [gI_sI, if_neg (by decide), gI_sI, if_pos rfl]
        exact ⟨fun _ => hQ _ ⟨fun k a b => by rw [gI_sI, if_neg b, gI_sI, if_neg a], fun _ _ => rfl⟩ e20 (by rw [gI_sI, if_pos rfl]), fun c => absurd e20 c⟩
      exact ⟨fun _ => hb, fun _ => ⟨fun _ => hb, fun c => absurd (by rw [gI_sI, if_neg (by decide), gI_sI, if_pos rfl]) c⟩⟩
    rcases tl_step (g := g) hn hRN hB hs hp with ⟨a, ha, hone, e⟩ | ⟨c, ho, hcn, hd, hm1, hc, hpH, hpF, e⟩
    · rw [e] at hfit
      simp at hfit
      omega
    · rw [e] at hfit
      simp only [List.length_cons, List.length_append] at hfit
      refine r_node hn hB hl h11 h12 hT hp hst (by omega) (by omega) h20 h21 (by omega) hpr (fun a' v ha' hone' => ?_) (fun v _ _ f1 f2 f3 f4 f5 f6 f7 f8 f9 => ?_) (Or.inr ⟨hm1, hc, hcn⟩)
      · rw [hm1] at hone'
        exact absurd hone' (m1_ne a' (by omega))
      · by_cases hTb : 1000 < s + 1 + (tl rs nc g (H ||| 2 ^ c) F (d + 1)).length
        · exact ih (d + 1) (H ||| 2 ^ c) F (w + 1) (s + 1) f (some s) v (by omega) hpH f9 (by omega) ((f1.1 20 (by decide)).trans h20) f2 (fun p hp => by cases hp; omega) ((f1.1 11 (by decide)).trans h11) ((f1.1 12 (by decide)).trans h12) (f1.rul hT) (by omega) hTb (by omega) (fun z hz => hQ z (f1.w.tr hz))
        · have iT := r_grow hn hRN hB hs hl (Q := Q) g (d + 1) (H ||| 2 ^ c) F (w + 1) (s + 1) (f - (tl rs nc g (H ||| 2 ^ c) F (d + 1)).length) (some s) v (by omega) hpH f9 (by omega) ((f1.1 20 (by decide)).trans h20) f2 (fun p hp => by cases hp; omega) ((f1.1 11 (by decide)).trans h11) ((f1.1 12 (by decide)).trans h12) (f1.rul hT) (by omega) (fun v2 hv2 => ?_)
          · rw [show f - (tl rs nc g (H ||| 2 ^ c) F (d + 1)).length + (tl rs nc g (H ||| 2 ^ c) F (d + 1)).length = f by omega] at iT
            exact iT
          · obtain ⟨g1, g2, g3, g4, g5⟩ := hv2
            have h1 := f1.tr g1
            exact ih (d + 1) H (F ||| 2 ^ c) w (s + 1 + (tl rs nc g (H ||| 2 ^ c) F (d + 1)).length) _ (some s) v2 (by omega) hpF (f8.eq g5) (by omega) ((h1.1 20 (by decide)).trans h20) g2 (fun p hp => by cases hp; omega) ((h1.1 11 (by decide)).trans h11) ((h1.1 12 (by decide)).trans h12) (h1.rul hT) (by omega) (by omega) (by omega) (fun z hz => hQ z (h1.w.tr hz))
/-- the tree of a table -/
noncomputable def tree (rs : List RU) (nc : Nat) : List RU := tl rs nc (nc + 1) 0 0 0
theorem r_growAll {rs : List RU} {nc : Nat} {u : ST} {Q : ST → Prop} (hn : nc ≤ 16) (hRN : rN nc rs) (hB : rB rs) (hs : snd rs nc) (hl : rs.length ≤ 256) (h11 : gI u 11 = nI nc) (h12 : gI u 12 = nI rs.length) (hT : mRul u rs) (h21 : gI u 21 = 0)
    (hfit : ∀ v, (tree rs nc).length ≤ 1000 → hFr2 u v → gI v 20 = 1 → gI v 21 = nI (tree rs nc).length → mTr v 0 (tree rs nc) → wX7_write v Q)
    (hbig : ∀ v, 1000 < (tree rs nc).length → hFr2 u v → gI v 20 = 0 → gI v 21 = 0 → Q v) : wX7_grow u Q := by
  unfold wX7_grow
  have e0 : (0 : Int32).toNatClampNeg = 0 := by decide
  rw [e0]
  have v0 : vp_in (0 : Int32) 40 := vp_in_nI (n := 0) (by omega) (by omega)
  refine ⟨v0, v0, v0, v0, ?_⟩
  generalize hu1 : sI (sR (sR (sR (sR u 28 0 0) 29 0 0) 30 0 (-1)) 31 0 0) 20 1 = u1
  have f1 : hFr2 u u1 := by
    rw [← hu1]
    refine ⟨fun k a b => by rw [gI_sI, if_neg a]; rfl, fun k hk => ?_⟩
    rw [gR_sI, gR_sR, if_neg (by omega), gR_sR, if_neg (by omega), gR_sR, if_neg (by omega), gR_sR, if_neg (by omega)]
  have g20 : gI u1 20 = 1 := by rw [← hu1, gI_sI, if_pos rfl]
  have g21 : gI u1 21 = nI 0 := by rw [← hu1, gI_sI, if_neg (by decide)]; exact h21
  have g11 : gI u1 11 = nI nc := (f1.1 11 (by decide) (by decide)).trans h11
  have g12 : gI u1 12 = nI rs.length := (f1.1 12 (by decide) (by decide)).trans h12
  have gT : mRul u1 rs := fun k r hk => by rw [f1.2 7 (by omega), f1.2 8 (by omega), f1.2 9 (by omega)]; exact hT k r hk
  have st : stk u1 0 0 0 0 none := by
    rw [← hu1]
    unfold stk
    simp only [gR_sI, gR_sR]
    simp only [if_true, reduceIte, Nat.reduceEqDiff]
    exact ⟨pk_us, pk_us, pk_us, pk_us⟩
  by_cases hle : (tree rs nc).length ≤ 1000
  · refine ⟨1 + (tl rs nc (nc + 1) 0 0 0).length, r_grow hn hRN hB hs hl (nc + 1) 0 0 0 0 0 1 none u1 (by omega) (plc_0 hn) st (by omega) g20 g21 (fun p hp => by cases hp) g11 g12 gT (by unfold tree at hle; omega) (fun v hv => ?_)⟩
    obtain ⟨k1, k2, k3, -, -⟩ := hv
    have v20 : gI v 20 = 1 := (k1.1 20 (by decide)).trans g20
    refine ⟨fun _ => ⟨fun c => absurd c (by rw [v20]; decide), fun _ => ?_⟩, fun c => absurd (by decide) c⟩
    exact hfit v hle (f1.tr k1.w) v20 (by rw [k2, Nat.zero_add]; rfl) k3
  · exact ⟨1002, r_big hn hRN hB hs hl (nc + 1) 0 0 0 0 0 1002 none u1 (by omega) (plc_0 hn) st (by omega) g20 g21 (fun p hp => by cases hp) g11 g12 gT (by omega) (by unfold tree at hle; omega) (by omega) (fun v hv a b => hbig v (by omega) (f1.tr hv) a b)⟩
