/-! THE REFERENCE READS A TEXT -/
theorem sb_lo : ∀ b, b < 128 → sb_b b = nI b := by decide +kernel
theorem sb_hi : ∀ b, b < 256 → 128 ≤ b → sb_b b < 0 := by decide +kernel
theorem sb_eqc {b c : Nat} (hb : b < 256) (hc : c < 128) : (sb_b b = nI c) = (b = c) := by
  by_cases h : b < 128
  · rw [sb_lo b h, n_eq (by omega) (by omega)]
  · have := sb_hi b hb (by omega)
    refine propext ⟨fun e => ?_, fun e => by omega⟩
    rw [e] at this
    exact absurd this (nI_pos (by omega))
theorem sb_ltc {b c : Nat} (hb : b < 256) (hc : c < 128) : (sb_b b < nI c) = (b < c ∨ 128 ≤ b) := by
  by_cases h : b < 128
  · rw [sb_lo b h, n_lt (by omega) (by omega)]
    exact propext ⟨fun z => Or.inl z, fun z => by omega⟩
  · have := sb_hi b hb (by omega)
    refine propext ⟨fun _ => Or.inr (by omega), fun _ => Int32.lt_of_lt_of_le this (nI_pos' (by omega))⟩
theorem sb_gtc {b c : Nat} (hb : b < 256) (hc : c < 128) : (nI c < sb_b b) = (c < b ∧ b < 128) := by
  by_cases h : b < 128
  · rw [sb_lo b h, n_lt (by omega) (by omega)]
    exact propext ⟨fun z => ⟨z, h⟩, fun z => z.1⟩
  · have := sb_hi b hb (by omega)
    refine propext ⟨fun z => ?_, fun z => by omega⟩
    exact absurd (Int32.lt_trans z this) (nI_pos (by omega))
/-- only place and fault have changed -/
def mf (u v : ST) : Prop := (∀ k, k ≠ 3 → k ≠ 4 → gI v k = gI u k) ∧ ∀ k, gR v k = gR u k
/-- only what reading writes has changed -/
def mF (u v : ST) : Prop := (∀ k, k ≠ 3 → k ≠ 4 → k ≠ 14 → k ≠ 15 → k ≠ 16 → gI v k = gI u k) ∧ (∀ k, k < 5 ∨ 9 < k → gR v k = gR u k) ∧ (∀ i, i < 800 → gR v 5 i = gR u 5 i) ∧ (∀ i, i < 80 → gR v 6 i = gR u 6 i) ∧ (∀ k i, 7 ≤ k → k ≤ 9 → i < 256 → gR v k i = gR u k i)
theorem mf.rf (u : ST) : mf u u := ⟨fun _ _ _ => rfl, fun _ => rfl⟩
theorem mf.tr {u v w : ST} (h : mf u v) (g : mf v w) : mf u w := ⟨fun k a b => (g.1 k a b).trans (h.1 k a b), fun k => (g.2 k).trans (h.2 k)⟩
theorem mf.s {u v : ST} (h : mf u v) (j : Nat) (x : Int32) (hj : j = 3 ∨ j = 4) : mf u (sI v j x) := ⟨fun k a b => by rw [gI_sI, if_neg (by omega)]; exact h.1 k a b, h.2⟩
theorem mF.tr {u v w : ST} (h : mF u v) (g : mF v w) : mF u w := ⟨fun k a b c d e => (g.1 k a b c d e).trans (h.1 k a b c d e), fun k a => (g.2.1 k a).trans (h.2.1 k a), fun i a => (g.2.2.1 i a).trans (h.2.2.1 i a), fun i a => (g.2.2.2.1 i a).trans (h.2.2.2.1 i a), fun k i a b c => (g.2.2.2.2 k i a b c).trans (h.2.2.2.2 k i a b c)⟩
theorem mf.F {u v : ST} (h : mf u v) : mF u v := ⟨fun k a b _ _ _ => h.1 k a b, fun k _ => h.2 k, fun i _ => by rw [h.2], fun i _ => by rw [h.2], fun k i _ _ _ => by rw [h.2]⟩
theorem mTape.congr {u v : ST} {tb : Nat → Nat} {n : Nat} (h : mTape u tb n) (h2 : gI v 2 = gI u 2) (h1 : gR v 1 = gR u 1) : mTape v tb n := ⟨h2.trans h.1, fun i hi => by rw [h1]; exact h.2 i hi⟩
theorem mF.tape {u v : ST} {tb : Nat → Nat} {n : Nat} (h : mF u v) (hm : mTape u tb n) : mTape v tb n := hm.congr (h.1 2 (by decide) (by decide) (by decide) (by decide) (by decide)) (h.2.1 1 (by decide))
theorem mf.tape {u v : ST} {tb : Nat → Nat} {n : Nat} (h : mf u v) (hm : mTape u tb n) : mTape v tb n := h.F.tape hm
/-- what look() leaves -/
def lkM (u v : ST) (q : Nat) : Prop := (∀ k, k ≠ 3 → gI v k = gI u k) ∧ (∀ k, gR v k = gR u k) ∧ gI v 3 = nI q
theorem lkM.f {u v : ST} {q : Nat} (h : lkM u v q) : mf u v := ⟨fun k a _ => h.1 k a, h.2.1⟩
theorem r_lookL {tb : Nat → Nat} {n : Nat} {Q : Int32 → ST → Prop} (hn : n ≤ 8000) (hb : ∀ i, i < n → tb i < 256) : ∀ (f p : Nat) (u : ST), n - p < f → p ≤ n → mTape u tb n → gI u 3 = nI p → (∀ v, lkM u v (sk tb n p) → (sk tb n p < n → Q (nI (tb (sk tb n p))) v) ∧ (¬ sk tb n p < n → Q (-1) v)) → wX7_look_L0 Q f u := by
  intro f
  induction f with
  | zero => intro p u h; omega
  | succ f ih =>
    intro p u hf hp hm h3 hQ
    show wX7_look_B0 (wX7_look_L0 Q f) Q u
    have fin : ¬ (p < n ∧ isBl (tb p) = true) → wX7_look_b80 Q u := by
      intro hne
      have e : sk tb n p = p := sk_n hne
      rw [e] at hQ
      unfold wX7_look_b80
      rw [hm.1, h3, n_le (by omega) (by omega)]
      have hself : lkM u u p := ⟨fun _ _ => rfl, fun _ => rfl, h3⟩
      refine ⟨fun c => (hQ u hself).2 (by omega), fun c => ⟨vp_in_nI (by omega) (by omega), ?_⟩⟩
      rw [cl_nI (by omega), hm.2 p (by omega), (sb_byte _ (hb p (by omega))).1]
      exact (hQ u hself).1 (by omega)
    unfold wX7_look_B0
    rw [hm.1, h3, n_le (by omega) (by omega)]
    refine ⟨fun c => fin (by omega), fun c => ?_⟩
    have hlt : p < n := by omega
    have go : isBl (tb p) = true → wX7_look_b67 (wX7_look_L0 Q f) Q u := by
      intro hbl
      unfold wX7_look_b67
      rw [h3, nI_1]
      refine ih (p + 1) _ (by omega) (by omega) (((mf.rf u).s 3 _ (by omega)).tape hm) (by rw [gI_sI, if_pos rfl]) (fun v hv => ?_)
      rw [← sk_y hlt hbl] at hv ⊢
      refine hQ v ⟨fun k hk => ?_, hv.2.1, hv.2.2⟩
      rw [hv.1 k hk, gI_sI, if_neg hk]
    rw [cl_nI (by omega), hm.2 p hlt]
    have hbp := hb p hlt
    rw [show (9 : Int32) = nI 9 from rfl, show (10 : Int32) = nI 10 from rfl, show (13 : Int32) = nI 13 from rfl, show (32 : Int32) = nI 32 from rfl, sb_eqc hbp (by decide), sb_eqc hbp (by decide), sb_eqc hbp (by decide), sb_eqc hbp (by decide)]
    have hv : vp_in (nI p) 8000 := vp_in_nI (by omega) (by omega)
    exact ⟨hv, fun h => go (by simp [isBl, h]), fun h1 => ⟨hv, fun h => go (by simp [isBl, h]), fun h2 => ⟨hv, fun h => go (by simp [isBl, h]), fun h3 => ⟨hv, fun h4 => fin (by simp [isBl, h1, h2, h3, h4]), fun h => go (by simp [isBl, h])⟩⟩⟩⟩
theorem r_look {tb : Nat → Nat} {n p : Nat} {u : ST} {Q : Int32 → ST → Prop} (hn : n ≤ 8000) (hb : ∀ i, i < n → tb i < 256) (hp : p ≤ n) (hm : mTape u tb n) (h3 : gI u 3 = nI p) (hQ : ∀ v, lkM u v (sk tb n p) → (sk tb n p < n → Q (nI (tb (sk tb n p))) v) ∧ (¬ sk tb n p < n → Q (-1) v)) : wX7_look u Q := ⟨n - p + 1, r_lookL hn hb _ p u (by omega) hp hm h3 hQ⟩
/-- a fault stands -/
def mBd (u v : ST) (k q : Nat) : Prop := mf u v ∧ gI v 4 = nI k ∧ gI v 3 = nI q
theorem r_bad {u u0 : ST} {k q : Nat} {Q : ST → Prop} (h4 : gI u 4 = 0) (hF : mf u0 u) (h : ∀ v, mBd u0 v k q → Q v) : wX7_bad (nI k) (nI q) u Q := by
  unfold wX7_bad
  refine ⟨fun c => absurd h4 c, fun _ => h _ ⟨(hF.s 4 _ (by omega)).s 3 _ (by omega), ?_, ?_⟩⟩
  · rw [gI_sI, if_neg (by decide), gI_sI, if_pos rfl]
  · rw [gI_sI, if_pos rfl]
theorem r_isLetter {b : Nat} {u : ST} {Q : Int32 → ST → Prop} (hb : b < 256) (h1 : isLet b = true → Q 1 u) (h0 : isLet b = false → Q 0 u) : wX7_isLetter (sb_b b) u Q := by
  unfold wX7_isLetter
  rw [show (97 : Int32) = nI 97 from rfl, show (122 : Int32) = nI 122 from rfl, sb_ltc hb (by decide), sb_gtc hb (by decide)]
  refine ⟨fun h => h0 (by unfold isLet; simp; omega), fun h => ⟨fun h2 => h0 (by unfold isLet; simp; omega), fun h2 => h1 (by unfold isLet; simp; omega)⟩⟩
theorem r_isDigit {b : Nat} {u : ST} {Q : Int32 → ST → Prop} (hb : b < 256) (h1 : isDig b = true → Q 1 u) (h0 : isDig b = false → Q 0 u) : wX7_isDigit (sb_b b) u Q := by
  unfold wX7_isDigit
  rw [show (48 : Int32) = nI 48 from rfl, show (57 : Int32) = nI 57 from rfl, sb_ltc hb (by decide), sb_gtc hb (by decide)]
  refine ⟨fun h => h0 (by unfold isDig; simp; omega), fun h => ⟨fun h2 => h0 (by unfold isDig; simp; omega), fun h2 => h1 (by unfold isDig; simp; omega)⟩⟩
theorem r_isLetterN {b : Nat} {u : ST} {Q : Int32 → ST → Prop} (hb : b < 256) (h1 : isLet b = true → Q 1 u) (h0 : isLet b = false → Q 0 u) : wX7_isLetter (nI b) u Q := by
  unfold wX7_isLetter
  rw [show (97 : Int32) = nI 97 from rfl, show (122 : Int32) = nI 122 from rfl, n_lt (by omega) (by omega), n_lt (by omega) (by omega)]
  refine ⟨fun h => h0 (by unfold isLet; simp; omega), fun h => ⟨fun h2 => h0 (by unfold isLet; simp; omega), fun h2 => h1 (by unfold isLet; simp; omega)⟩⟩
theorem r_nameL {tb : Nat → Nat} {n q : Nat} {u u0 : ST} {Q : Int32 → ST → Prop} (hn : n ≤ 8000) (hb : ∀ i, i < n → tb i < 256) (hm : mTape u tb n) (h4 : gI u 4 = 0) (hq : gI u 3 = nI q) (hF : mf u0 u) : ∀ (f a : Nat), n - a < f → q ≤ a → a ≤ n → (nend tb n a - q ≤ 10 → Q (nI (nend tb n a)) u) → (¬ nend tb n a - q ≤ 10 → ∀ v r, mBd u0 v 1 q → Q r v) → wX7_nameEnd_L36 Q f (nI q) (nI a) u := by
  intro f
  induction f with
  | zero => intro a h; omega
  | succ f ih =>
    intro a hf hqa han hok hbad
    show wX7_nameEnd_B36 (wX7_nameEnd_L36 Q f) Q (nI q) (nI a) u
    have stop : ¬ (a < n ∧ isLD (tb a) = true) → wX7_nameEnd_b74 Q (nI q) (nI a) u := by
      intro hs
      rw [nend_n hs] at hok hbad
      unfold wX7_nameEnd_b74
      rw [pk_sub hqa, show (10 : Int32) = nI 10 from rfl, n_le (by omega) (by omega)]
      refine ⟨hok, fun h => ?_⟩
      exact r_bad (k := 1) h4 hF (fun v hv => hbad h v _ hv)
    unfold wX7_nameEnd_B36
    rw [hm.1, n_le (by omega) (by omega)]
    refine ⟨fun c => stop (by omega), fun c => ?_⟩
    have hlt : a < n := by omega
    have go : isLD (tb a) = true → wX7_nameEnd_b68 (wX7_nameEnd_L36 Q f) Q (nI q) (nI a) u := by
      intro hl
      unfold wX7_nameEnd_b68
      rw [nend_y hlt hl] at hok hbad
      rw [nI_1]
      exact ih (a + 1) (by omega) (by omega) (by omega) hok hbad
    have hv : vp_in (nI a) 8000 := vp_in_nI (by omega) (by omega)
    rw [cl_nI (by omega), hm.2 a hlt]
    refine ⟨hv, r_isLetter (hb a hlt) (fun hl => ⟨fun _ => go (by simp [isLD, hl]), fun c => absurd c (by decide)⟩) (fun hl => ⟨fun c => absurd rfl c, fun _ => ⟨hv, ?_⟩⟩)⟩
    rw [hm.2 a hlt]
    exact r_isDigit (hb a hlt) (fun hd => ⟨fun c => absurd c (by decide), fun _ => go (by simp [isLD, hd])⟩) (fun hd => ⟨fun _ => stop (by simp [isLD, hl, hd]), fun c => absurd rfl c⟩)
theorem r_nameEnd {tb : Nat → Nat} {n p : Nat} {u : ST} {Q : Int32 → ST → Prop} (hn : n ≤ 8000) (hb : ∀ i, i < n → tb i < 256) (hp : p ≤ n) (hm : mTape u tb n) (h3 : gI u 3 = nI p) (h4 : gI u 4 = 0) (h : cRes (pName tb n p) (fun z => ∀ v, lkM u v z.1 → Q (nI z.2) v) (fun k q => ∀ v r, mBd u v k q → Q r v)) : wX7_nameEnd u Q := by
  unfold wX7_nameEnd
  refine r_look hn hb hp hm h3 (fun v hv => ?_)
  have hle := sk_le (tb := tb) hp
  have v4 : gI v 4 = 0 := (hv.1 4 (by decide)).trans h4
  unfold pName at h
  have bad : ¬ (sk tb n p < n ∧ isLet (tb (sk tb n p)) = true) → wX7_bad 1 (gI v 3) v (fun u_6 => Q (gI u_6 3) u_6) := by
    intro hne
    rw [if_neg hne] at h
    rw [hv.2.2]
    exact r_bad (k := 1) v4 hv.f (fun w hw => h w _ hw)
  refine ⟨fun hl => r_isLetterN (hb _ hl) (fun hlet => ⟨fun _ => ?_, fun c => absurd c (by decide)⟩) (fun hlet => ⟨fun c => absurd rfl c, fun _ => bad (by simp [hlet])⟩), fun hl => ?_⟩
  · rw [if_pos ⟨hl, hlet⟩] at h
    rw [hv.2.2]
    refine ⟨n - sk tb n p + 1, r_nameL hn hb (hv.f.tape hm) v4 hv.2.2 hv.f _ (sk tb n p) (by omega) (Nat.le_refl _) (by omega) (fun h10 => ?_) (fun h10 => ?_)⟩
    · rw [if_pos h10] at h
      exact h v hv
    · rw [if_neg h10] at h
      exact h
  · unfold wX7_isLetter
    exact ⟨fun _ => ⟨fun c => absurd rfl c, fun _ => bad (fun hh => hl hh.1)⟩, fun c => absurd (by decide) c⟩
/-- the two-letter words -/
theorem nmL_2 {tb : Nat → Nat} {q e a b : Nat} : (nmL tb q e = [a, b]) = (e - q = 2 ∧ tb q = a ∧ tb (q + 1) = b) := by
  refine propext ⟨fun h => ?_, fun h => ?_⟩
  · have hl := congrArg List.length h
    rw [nmL_len] at hl
    have h0 := nmL_at (tb := tb) (q := q) (e := e) (i := 0) (by simp at hl; omega)
    have h1 := nmL_at (tb := tb) (q := q) (e := e) (i := 1) (by simp at hl; omega)
    rw [h] at h0 h1
    simp at h0 h1 hl
    exact ⟨hl, h0.symm, h1.symm⟩
  · unfold nmL
    rw [h.1]
    simp [List.range_succ, h.2.1, h.2.2]
theorem r_word {tb : Nat → Nat} {n p a b : Nat} {u : ST} {Q : ST → Prop} (hn : n ≤ 8000) (hb : ∀ i, i < n → tb i < 256) (hp : p ≤ n) (hm : mTape u tb n) (h3 : gI u 3 = nI p) (h4 : gI u 4 = 0) (ha : a < 128) (hbb : b < 128) (h : cRes (pWord tb n p [a, b]) (fun e => ∀ v, lkM u v e → Q v) (fun k q => 1 ≤ k → k ≤ 3 → ∀ v, mBd u v k q → Q v)) : wX7_word (nI a) (nI b) u Q := by
  unfold wX7_word
  refine ⟨fun _ => ?_, fun c => absurd (by rw [h4]; decide) c⟩
  refine r_nameEnd hn hb hp hm h3 h4 ?_
  unfold pWord at h
  -- what stands at the end, with a fault or without
  have done : ∀ (v : ST) (r : Int32) (k q : Nat), mBd u v k q → 1 ≤ k → k ≤ 3 → (∀ w, mBd u w k q → Q w) → wX7_word_b67 Q r v := by
    intro v r k q hv h1 h2 hQ
    unfold wX7_word_b67 wX7_word_b83
    refine ⟨fun _ => hQ _ ⟨hv.1.s 3 _ (by omega), ?_, ?_⟩, fun c => absurd c (by rw [hv.2.1]; exact nI_ne0 (by omega) (by omega))⟩
    · rw [gI_sI, if_neg (by decide)]; exact hv.2.1
    · rw [gI_sI, if_pos rfl]; exact hv.2.2
  cases hpn : pName tb n p with
  | inl f =>
    rw [hpn] at h
    have hk : f.1 = 1 := by
      unfold pName at hpn
      split at hpn
      · split at hpn
        · cases hpn
        · cases hpn; rfl
      · cases hpn; rfl
    intro v r hv
    refine ⟨fun _ => done v r _ _ hv (by omega) (by omega) (h (by omega) (by omega)), fun c => absurd c (by rw [hv.2.1, hk]; decide)⟩
  | inr z =>
    obtain ⟨q, e⟩ := z
    rw [hpn] at h
    obtain ⟨-, hpq, hqe, hen, -⟩ := okNm_of hp hpn
    dsimp only at h
    intro v hv
    have v4 : gI v 4 = 0 := (hv.1 4 (by decide)).trans h4
    have hmv := hv.f.tape hm
    refine ⟨fun c => absurd v4 c, fun _ => ?_⟩
    dsimp only at hv ⊢
    rw [hv.2.2, pk_sub (by omega), show (2 : Int32) = nI 2 from rfl, n_eq (by omega) (by omega)]
    have bad : ¬ nmL tb q e = [a, b] → wX7_word_b58 Q (nI e) v := by
      intro hne
      rw [if_neg hne] at h
      unfold wX7_word_b58
      rw [hv.2.2]
      exact r_bad (k := 1) v4 hv.f (fun w hw => done w _ 1 q hw (by omega) (by omega) (h (by omega) (by omega)))
    refine ⟨fun hne => bad (by rw [nmL_2]; intro hh; exact hne hh.1), fun h2 => ⟨vp_in_nI (by omega) (by omega), ?_⟩⟩
    rw [cl_nI (by omega), hmv.2 q (by omega), sb_eqc (hb q (by omega)) ha, nI_1, cl_nI (by omega), hmv.2 (q + 1) (by omega), sb_eqc (hb (q + 1) (by omega)) hbb]
    refine ⟨fun hne => bad (by rw [nmL_2]; intro hh; exact hne hh.2.1), fun h3' => ⟨vp_in_nI (by omega) (by omega), fun h4' => ?_, fun hne => bad (by rw [nmL_2]; intro hh; exact hne hh.2.2)⟩⟩
    rw [if_pos (by rw [nmL_2]; exact ⟨h2, h3', h4'⟩)] at h
    unfold wX7_word_b67 wX7_word_b83
    refine ⟨fun c => absurd v4 c, fun _ => h _ ⟨fun k hk => ?_, hv.2.1, ?_⟩⟩
    · rw [gI_sI, if_neg hk]; exact hv.1 k hk
    · rw [gI_sI, if_pos rfl]
theorem r_sign {tb : Nat → Nat} {n p c : Nat} {u : ST} {Q : ST → Prop} (hn : n ≤ 8000) (hb : ∀ i, i < n → tb i < 256) (hp : p ≤ n) (hm : mTape u tb n) (h3 : gI u 3 = nI p) (h4 : gI u 4 = 0) (hc : c < 256) (h : cRes (pSign tb n p c) (fun e => ∀ v, lkM u v e → Q v) (fun k q => ∀ v, mBd u v k q → Q v)) : wX7_sign (nI c) u Q := by
  unfold wX7_sign
  refine ⟨fun c => absurd h4 c, fun _ => ?_⟩
  refine r_look hn hb hp hm h3 (fun v hv => ?_)
  have v4 : gI v 4 = 0 := (hv.1 4 (by decide)).trans h4
  have hle := sk_le (tb := tb) hp
  unfold pSign at h
  have bad : ¬ (sk tb n p < n ∧ tb (sk tb n p) = c) → wX7_bad 1 (gI v 3) v (fun u_4 => wX7_sign_b24 Q u_4) := by
    intro hne
    rw [if_neg hne] at h
    rw [hv.2.2]
    refine r_bad (k := 1) v4 hv.f (fun w hw => ?_)
    unfold wX7_sign_b24 wX7_sign_b41
    refine ⟨fun _ => h _ ⟨hw.1.s 3 _ (by omega), ?_, ?_⟩, fun c => absurd c (by rw [hw.2.1]; decide)⟩
    · rw [gI_sI, if_neg (by decide)]; exact hw.2.1
    · rw [gI_sI, if_pos rfl, hw.2.2, show (0 : Int32) = nI 0 from rfl, nI_add]; rfl
  refine ⟨fun hl => ⟨fun e => ?_, fun e => bad (fun hh => e (by rw [hh.2]))⟩, fun hl => ⟨fun e => absurd e (m1_ne c (by omega)), fun _ => bad (fun hh => hl hh.1)⟩⟩
  rw [nb (hb _ hl) hc] at e
  rw [if_pos ⟨hl, e⟩] at h
  unfold wX7_sign_b24 wX7_sign_b41
  refine ⟨fun c => absurd v4 c, fun _ => h _ ⟨fun k hk => ?_, hv.2.1, ?_⟩⟩
  · rw [gI_sI, if_neg hk]; exact hv.1 k hk
  · rw [gI_sI, if_pos rfl, hv.2.2, nI_1]
/-- with a fault, sign and word do nothing -/
theorem r_sign_bad {u v : ST} {c : Int32} {k q : Nat} {Q : ST → Prop} (hv : mBd u v k q) (h1 : 1 ≤ k) (h2 : k ≤ 3) (h : ∀ w, mBd u w k q → Q w) : wX7_sign c v Q := by
  have h4 : ¬ gI v 4 = 0 := by rw [hv.2.1]; exact nI_ne0 (by omega) (by omega)
  unfold wX7_sign wX7_sign_b24 wX7_sign_b41
  refine ⟨fun _ => ⟨fun _ => h _ ⟨hv.1.s 3 _ (by omega), ?_, ?_⟩, fun c => absurd c h4⟩, fun c => absurd c h4⟩
  · rw [gI_sI, if_neg (by decide)]; exact hv.2.1
  · rw [gI_sI, if_pos rfl, hv.2.2, show (0 : Int32) = nI 0 from rfl, nI_add]; rfl
theorem r_word_bad {u v : ST} {a b : Int32} {k q : Nat} {Q : ST → Prop} (hv : mBd u v k q) (h1 : 1 ≤ k) (h2 : k ≤ 3) (h : Q v) : wX7_word a b v Q := by
  unfold wX7_word
  exact ⟨fun c => absurd c (by rw [hv.2.1]; exact nI_nle (by omega) (by omega)), fun _ => h⟩
