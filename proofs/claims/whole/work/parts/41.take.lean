/-! TAKE -/
def mRul (u : ST) (rs : List (Nat × Nat × Nat)) : Prop := ∀ (k : Nat) (r : Nat × Nat × Nat), rs[k]? = some r → gR u 7 k = nI r.1 ∧ gR u 8 k = nI r.2.1 ∧ gR u 9 k = nI r.2.2
def mTab (u : ST) (cs : List (List Nat)) (rs : List (Nat × Nat × Nat)) (as : List (List Nat)) : Prop := gI u 10 = 1 ∧ gI u 11 = nI cs.length ∧ gI u 12 = nI rs.length ∧ gI u 13 = nI as.length ∧ mNm u 0 cs ∧ mNm u 16 as ∧ mRul u rs
theorem k_take86 {v : ST} {m : Nat} {Q : ST → Prop} (hm : m ≤ 256) (hQ : ∀ w, (∀ k, k ≠ 10 → gI w k = gI v k) → gI w 10 = 1 → (∀ k, k < 7 ∨ 9 < k → gR w k = gR v k) → (∀ k j, 7 ≤ k → k ≤ 9 → j < m → gR w k j = gR v k (256 + j)) → Q w) : ∀ (f i : Nat) (u : ST), m - i < f → i ≤ m → gI u 12 = nI m → (∀ k, gI u k = gI v k) → (∀ k, k < 7 ∨ 9 < k → gR u k = gR v k) → (∀ k j, 7 ≤ k → k ≤ 9 → j < i → gR u k j = gR v k (256 + j)) → (∀ k j, 7 ≤ k → k ≤ 9 → 256 ≤ j → gR u k j = gR v k j) → wX7_take_L86 Q f (nI i) u := by
  intro f
  induction f with
  | zero => intro i u h; omega
  | succ f ih =>
    intro i u hf hi h12 a1 a2 a3 a4
    show wX7_take_B86 (wX7_take_L86 Q f) Q (nI i) u
    unfold wX7_take_B86
    rw [h12, show (256 : Int32) = nI 256 from rfl, nI_add]
    refine pk_le m i (fun hge => ?_) (fun hlt => ?_)
    · refine hQ _ (fun k hk => by rw [gI_sI, if_neg hk]; exact a1 k) (by rw [gI_sI, if_pos rfl]) a2 (fun k j h7 h9 hj => a3 k j h7 h9 (by omega))
    · have v1 : vp_in (nI (256 + i)) 512 := vp_in_nI (by omega) (by omega)
      have v2 : vp_in (nI i) 512 := vp_in_nI (by omega) (by omega)
      refine ⟨v1, v2, v1, v2, v1, v2, ?_⟩
      rw [cl_nI (by omega), cl_nI (by omega), nI_1]
      refine ih (i + 1) _ (by omega) (by omega) h12 (fun k => a1 k) (fun k hk => ?_) (fun k j h7 h9 hj => ?_) (fun k j h7 h9 hj => ?_)
      · rw [gR_sR, if_neg (by omega), gR_sR, if_neg (by omega), gR_sR, if_neg (by omega)]; exact a2 k hk
      · simp only [gR_sR]
        rcases (show k = 7 ∨ k = 8 ∨ k = 9 by omega) with rfl | rfl | rfl
        all_goals simp only [if_true, reduceIte, Nat.reduceEqDiff]
        all_goals by_cases hji : j = i
        all_goals first
          | (rw [hji, pk_us]; exact a4 _ _ (by omega) (by omega) (by omega))
          | (rw [pk_un hji]; exact a3 _ _ (by omega) (by omega) (by omega))
      · simp only [gR_sR]
        rcases (show k = 7 ∨ k = 8 ∨ k = 9 by omega) with rfl | rfl | rfl
        all_goals simp only [if_true, reduceIte, Nat.reduceEqDiff]
        all_goals (rw [pk_un (by omega)]; exact a4 _ _ (by omega) (by omega) (by omega))
theorem k_take55 {v : ST} {Q : ST → Prop} (hQ : ∀ w, (∀ k, gI w k = gI v k) → (∀ k, k ≠ 5 → gR w k = gR v k) → (∀ j, j < 800 → gR w 5 j = (gR v 5 (800 + j)).toInt8.toInt32) → (∃ n : Nat, wX7_take_L86 Q n 0 w)) : ∀ (f i : Nat) (u : ST), 800 - i < f → i ≤ 800 → (∀ k, gI u k = gI v k) → (∀ k, k ≠ 5 → gR u k = gR v k) → (∀ j, j < i → gR u 5 j = (gR v 5 (800 + j)).toInt8.toInt32) → (∀ j, 800 ≤ j → gR u 5 j = gR v 5 j) → wX7_take_L55 Q f (nI i) u := by
  intro f
  induction f with
  | zero => intro i u h; omega
  | succ f ih =>
    intro i u hf hi a1 a2 a3 a4
    show wX7_take_B55 (wX7_take_L55 Q f) Q (nI i) u
    unfold wX7_take_B55
    rw [show (800 : Int32) = nI 800 from rfl, nI_add]
    refine pk_le 800 i (fun hge => hQ u a1 a2 (fun j hj => a3 j (by omega))) (fun hlt => ?_)
    refine ⟨vp_in_nI (by omega) (by omega), vp_in_nI (by omega) (by omega), ?_⟩
    rw [cl_nI (by omega), cl_nI (by omega), nI_1]
    refine ih (i + 1) _ (by omega) (by omega) (fun k => a1 k) (fun k hk => by rw [gR_sR, if_neg hk]; exact a2 k hk) (fun j hj => ?_) (fun j hj => ?_)
    · rw [gR_sR, if_pos rfl]
      by_cases hji : j = i
      · rw [hji, pk_us, a4 _ (by omega)]
      · rw [pk_un hji]; exact a3 j (by omega)
    · rw [gR_sR, if_pos rfl, pk_un (by omega)]; exact a4 j hj
theorem k_take26 {v : ST} {Q : ST → Prop} (hQ : ∀ w, (∀ k, gI w k = gI v k) → (∀ k, k ≠ 6 → gR w k = gR v k) → (∀ j, j < 80 → gR w 6 j = gR v 6 (80 + j)) → (∃ n : Nat, wX7_take_L55 Q n 0 w)) : ∀ (f i : Nat) (u : ST), 80 - i < f → i ≤ 80 → (∀ k, gI u k = gI v k) → (∀ k, k ≠ 6 → gR u k = gR v k) → (∀ j, j < i → gR u 6 j = gR v 6 (80 + j)) → (∀ j, 80 ≤ j → gR u 6 j = gR v 6 j) → wX7_take_L26 Q f (nI i) u := by
  intro f
  induction f with
  | zero => intro i u h; omega
  | succ f ih =>
    intro i u hf hi a1 a2 a3 a4
    show wX7_take_B26 (wX7_take_L26 Q f) Q (nI i) u
    unfold wX7_take_B26
    rw [show (80 : Int32) = nI 80 from rfl, nI_add]
    refine pk_le 80 i (fun hge => hQ u a1 a2 (fun j hj => a3 j (by omega))) (fun hlt => ?_)
    refine ⟨vp_in_nI (by omega) (by omega), vp_in_nI (by omega) (by omega), ?_⟩
    rw [cl_nI (by omega), cl_nI (by omega), nI_1]
    refine ih (i + 1) _ (by omega) (by omega) (fun k => a1 k) (fun k hk => by rw [gR_sR, if_neg hk]; exact a2 k hk) (fun j hj => ?_) (fun j hj => ?_)
    · rw [gR_sR, if_pos rfl]
      by_cases hji : j = i
      · rw [hji, pk_us, a4 _ (by omega)]
      · rw [pk_un hji]; exact a3 j (by omega)
    · rw [gR_sR, if_pos rfl, pk_un (by omega)]; exact a4 j hj
theorem k_take {u : ST} {cs as : List (List Nat)} {rs : List (Nat × Nat × Nat)} {Q : ST → Prop} (hT : mTb u cs rs as) (hQ : ∀ w, (∀ k, k < 10 ∨ 13 < k → gI w k = gI u k) → (∀ k, k < 5 ∨ 9 < k → gR w k = gR u k) → mTab w cs rs as → Q w) : wX7_take u Q := by
  obtain ⟨t14, t15, t16, hc, hr, ha, hNc, hNa, hR⟩ := hT
  unfold wX7_take
  generalize hu1 : sI (sI (sI u 11 (gI u 14)) 12 (gI (sI u 11 (gI u 14)) 15)) 13 (gI (sI (sI u 11 (gI u 14)) 12 (gI (sI u 11 (gI u 14)) 15)) 16) = u1
  have b1 : ∀ k, k ≠ 11 → k ≠ 12 → k ≠ 13 → gI u1 k = gI u k := by
    intro k a b c
    rw [← hu1, gI_sI, if_neg c, gI_sI, if_neg b, gI_sI, if_neg a]
  have b11 : gI u1 11 = nI cs.length := by rw [← hu1]; exact t14
  have b12 : gI u1 12 = nI rs.length := by rw [← hu1]; exact t15
  have b13 : gI u1 13 = nI as.length := by rw [← hu1]; exact t16
  have bR : ∀ k, gR u1 k = gR u k := by intro k; rw [← hu1]; rfl
  refine ⟨81, k_take26 (v := u1) (fun w1 c1 c2 c3 => ⟨801, k_take55 (v := w1) (fun w2 d1 d2 d3 => ⟨rs.length + 1, k_take86 (v := w2) hr (fun w e1 e10 e2 e3 => ?_) (rs.length + 1) 0 w2 (by omega) (by omega) ?_ (fun _ => rfl) (fun _ _ => rfl) (fun _ j _ _ hj => by omega) (fun _ _ _ _ _ => rfl)⟩) 801 0 w1 (by omega) (by omega) (fun _ => rfl) (fun _ _ => rfl) (fun j hj => by omega) (fun _ _ => rfl)⟩) 81 0 u1 (by omega) (by omega) (fun _ => rfl) (fun _ _ => rfl) (fun j hj => by omega) (fun _ _ => rfl)⟩
  · have g : ∀ k, k ≠ 10 → gI w k = gI u1 k := fun k hk => by rw [e1 k hk, d1, c1]
    have r6 : ∀ j, j < 80 → gR w 6 j = gR u 6 (80 + j) := fun j hj => by rw [e2 6 (by omega), d2 6 (by decide), c3 j hj, bR]
    have r5 : ∀ j, j < 800 → gR w 5 j = (gR u 5 (800 + j)).toInt8.toInt32 := fun j hj => by rw [e2 5 (by omega), d3 j hj, c2 5 (by decide), bR]
    have nm : ∀ (base : Nat) (l : List (List Nat)), base + l.length ≤ 80 → mNm u (80 + base) l → mNm w base l := by
      intro base l hl hN
      refine ⟨hN.1, fun k x hk => ?_⟩
      have hlt := (List.getElem?_eq_some_iff.mp hk).1
      have hok := hN.1 x (List.mem_of_getElem? hk)
      have h10 := hok.2.1
      refine ⟨?_, fun i b hb => ?_⟩
      · rw [r6 _ (by omega), show 80 + (base + k) = 80 + base + k by omega]; exact (hN.2 k x hk).1
      · have hib := okNm_at hok hb
        rw [r5 _ (by omega), show 800 + (10 * (base + k) + i) = 10 * (80 + base + k) + i by omega, (hN.2 k x hk).2 i b hb]
        exact sb_lo b hib.1
    refine hQ w (fun k hk => by rw [g k (by omega)]; exact b1 k (by omega) (by omega) (by omega)) (fun k hk => ?_) ⟨e10, ?_, ?_, ?_, nm 0 cs (by omega) hNc, nm 16 as (by omega) hNa, ?_⟩
    · rw [e2 k (by omega), d2 k (by omega), c2 k (by omega), bR]
    · rw [g 11 (by decide)]; exact b11
    · rw [g 12 (by decide)]; exact b12
    · rw [g 13 (by decide)]; exact b13
    · intro k r hk
      have hlt := (List.getElem?_eq_some_iff.mp hk).1
      have q : ∀ j, 7 ≤ j → j ≤ 9 → gR w j k = gR u j (256 + k) := fun j h7 h9 => by rw [e3 j k h7 h9 hlt, d2 j (by omega), c2 j (by omega), bR]
      rw [q 7 (by decide) (by decide), q 8 (by decide) (by decide), q 9 (by decide) (by decide)]
      exact hR k r hk
  · rw [d1, c1]; exact b12
/-! WHAT A TEXT THAT IS READ GIVES -/
/-- the rules of a table with nc conditions and na actions -/
def rOK (nc na : Nat) (rs : List (Nat × Nat × Nat)) : Prop := ∀ r ∈ rs, r.1 < 2 ^ nc ∧ r.2.1 < 2 ^ nc ∧ r.2.2 < na
theorem pMarks_ok {tb : Nat → Nat} {n : Nat} {full : Bool} : ∀ (k c p Y N : Nat) (z : Nat × Nat × Nat), Y < 2 ^ c → N < 2 ^ c → pMarks tb n full k c p Y N = .inr z → z.2.1 < 2 ^ (c + k) ∧ z.2.2 < 2 ^ (c + k) := by
  intro k
  induction k with
  | zero => intro c p Y N z hY hN h; unfold pMarks at h; cases h; exact ⟨hY, hN⟩
  | succ k ih =>
    intro c p Y N z hY hN h
    unfold pMarks at h
    split at h
    · split at h
      · cases h
      · have h1 : 2 ^ c < 2 ^ (c + 1) := wb_lt2 (by omega)
        have hor : ∀ X, X < 2 ^ c → X ||| 2 ^ c < 2 ^ (c + 1) := fun X hX => Nat.or_lt_two_pow (by omega) h1
        have := ih (c + 1) _ _ _ z (by split; exact hor _ hY; omega) (by split; exact hor _ hN; omega) h
        rw [show c + (k + 1) = c + 1 + k by omega]
        exact this
    · cases h
theorem pRule_ok {tb : Nat → Nat} {n nc p p' : Nat} {rs rs' : List (Nat × Nat × Nat)} {as as' : List (List Nat)} (hr : rOK nc as.length rs) (h : pRule tb n nc p rs as = .inr (p', rs', as')) : rOK nc as'.length rs' := by
  unfold pRule at h
  split at h
  · cases h
  · rename_i p1 Y N hpm
    have hYN := pMarks_ok _ _ _ _ _ _ (by simp) (by simp) hpm
    rw [Nat.zero_add] at hYN
    split at h
    · cases h
    · split at h
      · cases h
      · rename_i e as1 a hpa
        have ha : a < as1.length ∧ as.length ≤ as1.length := by
          unfold pAct at hpa
          split at hpa
          · cases hpa
          · split at hpa
            · rename_i hin
              cases hpa
              exact ⟨(fIdx_lt hin).1, Nat.le_refl _⟩
            · split at hpa
              · cases hpa
              · cases hpa
                simp
        split at h
        · cases h
        · cases h
          intro r hrm
          rcases List.mem_append.mp hrm with g | g
          · have := hr r g
            exact ⟨this.1, this.2.1, by omega⟩
          · rw [List.mem_singleton.mp g]
            exact ⟨hYN.1, hYN.2, ha.1⟩
theorem pRules_ok {tb : Nat → Nat} {n nc : Nat} : ∀ (g p : Nat) (rs : List (Nat × Nat × Nat)) (as : List (List Nat)) (z : List (Nat × Nat × Nat) × List (List Nat)), rOK nc as.length rs → pRules tb n nc g p rs as = .inr z → rOK nc z.2.length z.1 := by
  intro g
  induction g with
  | zero => intro p rs as z hr h; cases h
  | succ g ih =>
    intro p rs as z hr h
    unfold pRules at h
    split at h
    · cases h
    · rename_i p' rs' as' hpr
      have := pRule_ok hr hpr
      split at h
      · exact ih _ _ _ z this h
      · cases h; exact this
theorem pAll_ok {tb : Nat → Nat} {n : Nat} {cs as : List (List Nat)} {rs : List (Nat × Nat × Nat)} (h : pAll tb n = .inr (cs, rs, as)) : rOK cs.length as.length rs := by
  unfold pAll at h
  split at h
  · cases h
  · split at h
    · cases h
    · split at h
      · cases h
      · rename_i hpr
        cases h
        exact pRules_ok _ _ _ _ _ (fun r hr => by cases hr) hpr
