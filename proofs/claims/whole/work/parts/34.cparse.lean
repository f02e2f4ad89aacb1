/-! THE CLASS READS A TEXT -/
def cRes {α : Type} (r : PR α) (ok : α → Prop) (bad : Nat → Nat → Prop) : Prop := match r with
  | .inl f => bad f.1 f.2
  | .inr a => ok a
/-- nothing has changed but the tape's own fields and table t -/
def pF (t : Nat) (u v : ST) : Prop := (∀ k, k ≠ 6 → k ≠ 7 → k ≠ 8 → k ≠ 9 → k ≠ 10 + t → k ≠ 12 + 2 * t → k ≠ 13 + 2 * t → gI v k = gI u k) ∧ gJ v 1 = gJ u 1 ∧ (∀ k, k ≠ 3 * t → k ≠ 3 * t + 1 → k ≠ 3 * t + 2 → gR v k = gR u k) ∧ (∀ k, k ≠ 1 + 2 * t → k ≠ 2 + 2 * t → gB v k = gB u k) ∧ (∀ k, gZ v k = gZ u k)
/-- nothing has changed but the tape's own fields -/
def tF (u v : ST) : Prop := (∀ k, k ≠ 6 → k ≠ 7 → k ≠ 8 → k ≠ 9 → gI v k = gI u k) ∧ gJ v 1 = gJ u 1 ∧ (∀ k, gR v k = gR u k) ∧ (∀ k, gB v k = gB u k) ∧ (∀ k, gZ v k = gZ u k)
theorem tF.rf (u : ST) : tF u u := ⟨fun _ _ _ _ _ => rfl, rfl, fun _ => rfl, fun _ => rfl, fun _ => rfl⟩
theorem tF.tr {u v w : ST} (h : tF u v) (g : tF v w) : tF u w := ⟨fun k a b c d => (g.1 k a b c d).trans (h.1 k a b c d), g.2.1.trans h.2.1, fun k => (g.2.2.1 k).trans (h.2.2.1 k), fun k => (g.2.2.2.1 k).trans (h.2.2.2.1 k), fun k => (g.2.2.2.2 k).trans (h.2.2.2.2 k)⟩
theorem tF.s {u v : ST} (h : tF u v) (j : Nat) (x : Int32) (hj : j = 6 ∨ j = 7 ∨ j = 8 ∨ j = 9) : tF u (sI v j x) := ⟨fun k a b c d => by rw [gI_sI, if_neg (by omega)]; exact h.1 k a b c d, h.2.1, h.2.2.1, h.2.2.2.1, h.2.2.2.2⟩
theorem tF.j {u v : ST} (h : tF u v) (x : Int64) : tF u (sJ v 0 x) := ⟨h.1, by rw [gJ_sJ, if_neg (by decide)]; exact h.2.1, h.2.2.1, h.2.2.2.1, h.2.2.2.2⟩
theorem pF.tr {t : Nat} {u v w : ST} (h : pF t u v) (g : pF t v w) : pF t u w := ⟨fun k a b c d e f i => (g.1 k a b c d e f i).trans (h.1 k a b c d e f i), g.2.1.trans h.2.1, fun k a b c => (g.2.2.1 k a b c).trans (h.2.2.1 k a b c), fun k a b => (g.2.2.2.1 k a b).trans (h.2.2.2.1 k a b), fun k => (g.2.2.2.2 k).trans (h.2.2.2.2 k)⟩
theorem tF.p {u v : ST} (h : tF u v) (t : Nat) : pF t u v := ⟨fun k a b c d _ _ _ => h.1 k a b c d, h.2.1, fun k _ _ _ => h.2.2.1 k, fun k _ _ => h.2.2.2.1 k, h.2.2.2.2⟩
theorem pF.tape {t : Nat} {u v : ST} {tb : Nat → Nat} {n : Nat} (h : pF t u v) (hc : cTape u tb n) : cTape v tb n := hc.congr (h.1 5 (by omega) (by omega) (by omega) (by omega) (by omega) (by omega) (by omega)) (h.2.2.2.1 0 (by omega) (by omega))
theorem tF.tape {u v : ST} {tb : Nat → Nat} {n : Nat} (h : tF u v) (hc : cTape u tb n) : cTape v tb n := (h.p 0).tape hc
theorem cTape.lt {u : ST} {tb : Nat → Nat} {n i : Nat} (h : cTape u tb n) (hi : i < n) : tb i < 256 := by
  rw [← h.2 i hi]; exact byt_lt _ _
theorem s_byteAt {u : ST} {tb : Nat → Nat} {n p : Nat} {Q : Int32 → ST → Prop} (hc : cTape u tb n) (hn : n ≤ 8000) (hp : p < n) (hQ : Q (nI (tb p)) u) : wX3_byteAt (nI p) u Q := by
  unfold wX3_byteAt
  rw [nI_shr3 (by omega), cl_nI (by omega), nI_andm p 3 (by decide) (by decide)]
  refine ⟨vp_in_nI (by omega) (by omega), ?_⟩
  obtain ⟨hw, hw2⟩ := cW64 (gB u 0 (p / 8))
  rw [hw, b_cls hw2 (Nat.mod_lt p (by decide))]
  have := hc.2 p hp
  unfold cByte at this
  show Q (nI (byt (gB u 0 (p / 8)).toBitVec.toNat (p % 8))) u
  rw [this]
  exact hQ
theorem nb {b c : Nat} (hb : b < 256) (hc : c < 256) : (nI b = nI c) = (b = c) := n_eq (by omega) (by omega)
/-- what look() leaves -/
def lkP (u v : ST) (q : Nat) : Prop := tF u v ∧ gI v 6 = nI q ∧ gI v 7 = gI u 7 ∧ gI v 8 = gI u 8 ∧ gI v 9 = gI u 9 ∧ gJ v 0 = gJ u 0
theorem s_lookL {tb : Nat → Nat} {n : Nat} {Q : Int32 → ST → Prop} (hn : n ≤ 8000) : ∀ (f p : Nat) (u : ST), n - p < f → p ≤ n → cTape u tb n → gI u 6 = nI p → (∀ v, lkP u v (sk tb n p) → (sk tb n p < n → Q (nI (tb (sk tb n p))) v) ∧ (¬ sk tb n p < n → Q (-1) v)) → wX3_look_L0 Q f u := by
  intro f
  induction f with
  | zero => intro p u h; omega
  | succ f ih =>
    intro p u hf hp hc h6 hQ
    show wX3_look_B0 (wX3_look_L0 Q f) Q u
    unfold wX3_look_B0
    rw [hc.1, h6, n_le (by omega) (by omega)]
    refine ⟨fun c => ?_, fun c => ?_⟩
    · have e : sk tb n p = p := sk_n (by omega)
      rw [e] at hQ
      exact (hQ u ⟨tF.rf u, h6, rfl, rfl, rfl, rfl⟩).2 (by omega)
    · have hlt : p < n := by omega
      have hb := hc.lt hlt
      refine s_byteAt hc hn hlt ?_
      have go : isBl (tb p) = true → wX3_look_b46 (wX3_look_L0 Q f) Q u := by
        intro hbl
        unfold wX3_look_b46
        rw [h6, nI_1]
        refine ih (p + 1) _ (by omega) (by omega) (((tF.rf u).s 6 _ (by omega)).tape hc) (by rw [gI_sI, if_pos rfl]) (fun v hv => ?_)
        rw [← sk_y hlt hbl] at hv ⊢
        refine hQ v ⟨((tF.rf u).s 6 _ (by omega)).tr hv.1, hv.2.1, ?_, ?_, ?_, hv.2.2.2.2.2⟩
        · rw [hv.2.2.1, gI_sI, if_neg (by decide)]
        · rw [hv.2.2.2.1, gI_sI, if_neg (by decide)]
        · rw [hv.2.2.2.2.1, gI_sI, if_neg (by decide)]
      rw [show (9 : Int32) = nI 9 from rfl, show (10 : Int32) = nI 10 from rfl, show (13 : Int32) = nI 13 from rfl, show (32 : Int32) = nI 32 from rfl, nb hb (by decide), nb hb (by decide), nb hb (by decide), nb hb (by decide)]
      refine ⟨fun h => go (by simp [isBl, h]), fun h1 => ⟨fun h => go (by simp [isBl, h]), fun h2 => ⟨fun h => go (by simp [isBl, h]), fun h3 => ⟨fun h => go (by simp [isBl, h]), fun h4 => ?_⟩⟩⟩⟩
      have e : sk tb n p = p := sk_n (by simp [isBl, h1, h2, h3, h4])
      rw [e] at hQ
      exact (hQ u ⟨tF.rf u, h6, rfl, rfl, rfl, rfl⟩).1 hlt
theorem s_look {tb : Nat → Nat} {n p : Nat} {u : ST} {Q : Int32 → ST → Prop} (hn : n ≤ 8000) (hp : p ≤ n) (hc : cTape u tb n) (h6 : gI u 6 = nI p) (hQ : ∀ v, lkP u v (sk tb n p) → (sk tb n p < n → Q (nI (tb (sk tb n p))) v) ∧ (¬ sk tb n p < n → Q (-1) v)) : wX3_look u Q := ⟨n - p + 1, s_lookL hn _ p u (by omega) hp hc h6 hQ⟩
theorem m1_ne (k : Nat) (hk : k < 2 ^ 31) : ¬ (-1 : Int32) = nI k := fun h => by
  have := congrArg Int32.toInt h
  rw [nI_toInt hk] at this
  have e : (-1 : Int32).toInt = -1 := by decide
  omega
/-- a fault's end -/
abbrev badP (t : Nat) (u : ST) (Q : Int32 → ST → Prop) : Nat → Nat → Prop := fun k q => ∀ v, pF t u v → gI v 8 = nI k → gI v 9 = nI q → Q 0 v
theorem s_passByte {tb : Nat → Nat} {n p c : Nat} {u : ST} {Q : Int32 → ST → Prop} (t : Nat) (hn : n ≤ 8000) (hp : p ≤ n) (hc : cTape u tb n) (h6 : gI u 6 = nI p) (hcb : c < 256) (h : cRes (pSign tb n p c) (fun p' => ∀ v, tF u v → gI v 6 = nI p' → gI v 8 = gI u 8 → Q 1 v) (badP t u Q)) : wX3_passByte (nI c) u Q := by
  unfold wX3_passByte
  refine s_look hn hp hc h6 (fun v hv => ?_)
  have hle := sk_le (tb := tb) hp
  unfold pSign cRes at h
  have bad : (¬ (sk tb n p < n ∧ tb (sk tb n p) = c)) → wX3_fail 1 (gI v 6) v (fun r_3 u_4 => ((r_3 = 0 ∨ r_3 = 1) ∧ Q r_3 u_4)) := by
    intro hb
    rw [if_neg hb] at h
    unfold wX3_fail
    refine ⟨Or.inl rfl, h _ (((hv.1.s 8 _ (by omega)).s 9 _ (by omega)).p t) ?_ ?_⟩
    · rw [gI_sI, if_neg (by decide), gI_sI, if_pos rfl]; rfl
    · rw [gI_sI, if_pos rfl]; exact hv.2.1
  refine ⟨fun hl => ⟨fun e => ?_, fun e => bad (fun hb => e (by rw [hb.2]))⟩, fun hl => ⟨fun e => absurd e (m1_ne c (by omega)), fun _ => bad (fun hb => hl hb.1)⟩⟩
  rw [nb (hc.lt hl) hcb] at e
  rw [if_pos ⟨hl, e⟩] at h
  refine h _ (hv.1.s 6 _ (by omega)) ?_ ?_
  · rw [gI_sI, if_pos rfl, hv.2.1, nI_1]
  · rw [gI_sI, if_neg (by decide)]; exact hv.2.2.2.1
theorem s_letterOf {b : Nat} {u : ST} {Q : Int32 → ST → Prop} (hb : b < 256) (hQ : Q (nI (lcod b)) u) : wX1_letterOf (nI b) u Q := by
  unfold wX1_letterOf wX1_letterOf_b19
  have dig : ¬ (97 ≤ b ∧ b ≤ 122) → (nI b < 48 → Q 0 u) ∧ (¬ nI b < 48 → (57 < nI b → Q 0 u) ∧ (¬ 57 < nI b → Q (nI b - 48 + 27) u)) := by
    intro hl
    have e1 : isLet b = false := by unfold isLet; simp; omega
    rw [show (48 : Int32) = nI 48 from rfl, show (57 : Int32) = nI 57 from rfl, n_lt (by omega) (by omega), n_lt (by omega) (by omega)]
    refine ⟨fun h => ?_, fun h => ⟨fun h2 => ?_, fun h2 => ?_⟩⟩
    · have : lcod b = 0 := by unfold lcod isDig; simp [e1]; omega
      rw [this] at hQ; exact hQ
    · have : lcod b = 0 := by unfold lcod isDig; simp [e1]; omega
      rw [this] at hQ; exact hQ
    · have : lcod b = b - 48 + 27 := by
        unfold lcod isDig; rw [if_neg (by simp [e1]), if_pos (by simp; omega)]
      rw [this] at hQ
      rw [pk_sub (by omega), show (27 : Int32) = nI 27 from rfl, nI_add]; exact hQ
  rw [show (97 : Int32) = nI 97 from rfl, show (122 : Int32) = nI 122 from rfl, n_lt (by omega) (by omega), n_lt (by omega) (by omega)]
  refine ⟨fun h => dig (by omega), fun h => ⟨fun h2 => dig (by omega), fun h2 => ?_⟩⟩
  have : lcod b = b - 97 + 1 := by
    unfold lcod isLet; rw [if_pos (by simp; omega)]
  rw [this] at hQ
  rw [pk_sub (by omega), nI_1]; exact hQ
theorem lcod_0 {b : Nat} : (lcod b = 0) = (isLD b = false) := by
  by_cases h : isLD b = true
  · have := lcod_in h
    simp [h]; omega
  · have h2 : isLD b = false := by simpa using h
    rw [h2]
    unfold isLD at h2
    simp at h2
    unfold lcod
    simp [h2.1, h2.2]
theorem lcod_le (b : Nat) : lcod b ≤ 36 := by
  by_cases h : isLD b = true
  · exact (lcod_in h).2
  · have : lcod b = 0 := by rw [lcod_0]; simpa using h
    omega
theorem nmL_snoc {tb : Nat → Nat} {q a : Nat} (h : q ≤ a) : nmL tb q (a + 1) = nmL tb q a ++ [tb a] := by
  unfold nmL
  rw [show a + 1 - q = (a - q) + 1 by omega, List.range_succ, List.map_append]
  simp [show q + (a - q) = a by omega]
theorem s_nameL {tb : Nat → Nat} {n q : Nat} {Q : Int32 → ST → Prop} (t : Nat) (hn : n ≤ 8000) (u0 : ST) : ∀ (f a : Nat) (u : ST), n - a < f → q ≤ a → a ≤ n → (∀ i, q ≤ i → i < a → isLD (tb i) = true) → cTape u tb n → tF u0 u → gI u 6 = nI a → gI u 7 = nI q → gI u 8 = gI u0 8 → gJ u 0 = lN (pkL (nmL tb q (min a (q + 10)))) →
    (nend tb n a - q ≤ 10 → ∀ v, tF u0 v → gI v 6 = nI (nend tb n a) → gI v 7 = nI q → gJ v 0 = lN (pkL (nmL tb q (nend tb n a))) → gI v 8 = gI u0 8 → Q 1 v) → (¬ nend tb n a - q ≤ 10 → badP t u0 Q 1 q) → wX3_passName_L40 Q f u := by
  intro f
  induction f with
  | zero => intro a u h; omega
  | succ f ih =>
    intro a u hf hqa han hld hc hF h6 h7 h8 hj hok hbad
    show wX3_passName_B40 (wX3_passName_L40 Q f) Q u
    have stop : ¬ (a < n ∧ isLD (tb a) = true) → wX3_passName_b126 Q u := by
      intro hs
      rw [nend_n hs] at hok hbad
      unfold wX3_passName_b126
      rw [h6, h7, pk_sub hqa, show (10 : Int32) = nI 10 from rfl, n_le (by omega) (by omega)]
      refine ⟨fun h => ?_, fun h => ?_⟩
      · refine hok h u hF h6 h7 ?_ h8
        rw [hj, Nat.min_eq_left (by omega)]
      · unfold wX3_fail
        refine ⟨fun _ => hbad h _ (((hF.s 8 _ (by omega)).s 9 _ (by omega)).p t) ?_ ?_, fun c => absurd rfl c⟩
        · rw [gI_sI, if_neg (by decide), gI_sI, if_pos rfl]; rfl
        · rw [gI_sI, if_pos rfl]
    unfold wX3_passName_B40
    rw [hc.1, h6, n_le (by omega) (by omega)]
    refine ⟨fun c => stop (by omega), fun c => ?_⟩
    have hlt : a < n := by omega
    have hb := hc.lt hlt
    refine s_byteAt hc hn hlt (s_letterOf hb ?_)
    have hle := lcod_le (tb a)
    rw [show (0 : Int32) = nI 0 from rfl, n_eq (by omega) (by omega), lcod_0]
    refine ⟨fun h => stop (by rw [h]; simp), fun h => ?_⟩
    have hl : isLD (tb a) = true := by simpa using h
    rw [nend_y hlt hl] at hok hbad
    have hld' : ∀ i, q ≤ i → i < a + 1 → isLD (tb i) = true := fun i h1 h2 => by
      by_cases e : i = a
      · rw [e]; exact hl
      · exact hld i h1 (by omega)
    have e6 : nI a - nI q = nI (a - q) := pk_sub hqa
    rw [h6, h7, e6, show (10 : Int32) = nI 10 from rfl, n_le (by omega) (by omega)]
    refine ⟨fun hge => ?_, fun hlt10 => ?_⟩
    · unfold wX3_passName_b113
      rw [h6, nI_1]
      refine ih (a + 1) _ (by omega) (by omega) (by omega) hld' (((tF.rf u).s 6 _ (by omega)).tape hc) (hF.s 6 _ (by omega)) (by rw [gI_sI, if_pos rfl]) (by rw [gI_sI, if_neg (by decide)]; exact h7) (by rw [gI_sI, if_neg (by decide)]; exact h8) ?_ hok hbad
      rw [gJ_sI, hj, Nat.min_eq_right (by omega), Nat.min_eq_right (by omega)]
    · refine s_byteAt hc hn hlt (s_letterOf hb ?_)
      unfold wX3_passName_b113
      rw [h6, h7, e6, gI_sJ, h6, nI_1, hj, Nat.min_eq_left (by omega), show (6 : Int32) = nI 6 from rfl, pk_mul, nI_l (n := lcod (tb a)) (by omega), wb_shl _ (by omega)]
      have hok2 : ∀ b ∈ nmL tb q a, isLD b = true := fun b hb => by
        obtain ⟨i, hi, rfl⟩ := List.mem_map.mp hb
        have := List.mem_range.mp hi
        exact hld _ (by omega) (by omega)
      have hpl := pkL_lt _ hok2
      rw [nmL_len] at hpl
      have p64 : (64 : Nat) ^ (a - q) = 2 ^ (6 * (a - q)) := by rw [show (64 : Nat) = 2 ^ 6 from rfl, ← Nat.pow_mul]
      have hpw : 64 ^ (a - q) * 64 ≤ 2 ^ 60 := by
        rw [← Nat.pow_succ, show (2 : Nat) ^ 60 = 64 ^ 10 from by decide]
        exact Nat.pow_le_pow_right (by decide) (by omega)
      have hml : lcod (tb a) * 2 ^ (6 * (a - q)) ≤ 36 * 64 ^ (a - q) := by
        rw [p64]; exact Nat.mul_le_mul_right _ hle
      rw [g_or' rfl (by rw [← p64]; exact hpl) (by omega)]
      refine ih (a + 1) _ (by omega) (by omega) (by omega) hld' ((((tF.rf u).j _).s 6 _ (by omega)).tape hc) ((hF.j _).s 6 _ (by omega)) (by rw [gI_sI, if_pos rfl]) (by rw [gI_sI, if_neg (by decide)]; exact h7) (by rw [gI_sI, if_neg (by decide)]; exact h8) ?_ hok hbad
      rw [gJ_sI, gJ_sJ, if_pos rfl, Nat.min_eq_left (by omega), nmL_snoc hqa, pkL_snoc, nmL_len, p64]
theorem s_passName {tb : Nat → Nat} {n p : Nat} {u : ST} {Q : Int32 → ST → Prop} (t : Nat) (hn : n ≤ 8000) (hp : p ≤ n) (hc : cTape u tb n) (h6 : gI u 6 = nI p) (h : cRes (pName tb n p) (fun z => ∀ v, tF u v → gI v 6 = nI z.2 → gI v 7 = nI z.1 → gJ v 0 = lN (pkL (nmL tb z.1 z.2)) → gI v 8 = gI u 8 → Q 1 v) (badP t u Q)) : wX3_passName u Q := by
  unfold wX3_passName
  refine s_look hn hp hc h6 (fun v hv => ?_)
  have hle := sk_le (tb := tb) hp
  unfold pName at h
  have bad : ¬ (sk tb n p < n ∧ isLet (tb (sk tb n p)) = true) → wX3_passName_b17 Q v := by
    intro hb
    rw [if_neg hb] at h
    unfold wX3_passName_b17 wX3_fail
    refine ⟨Or.inl rfl, h _ (((hv.1.s 8 _ (by omega)).s 9 _ (by omega)).p t) ?_ ?_⟩
    · rw [gI_sI, if_neg (by decide), gI_sI, if_pos rfl]; rfl
    · rw [gI_sI, if_pos rfl]; exact hv.2.1
  refine ⟨fun hl => ?_, fun hl => ⟨fun _ => bad (fun hb => hl hb.1), fun c => absurd (by decide) c⟩⟩
  have hb := hc.lt hl
  rw [show (97 : Int32) = nI 97 from rfl, show (122 : Int32) = nI 122 from rfl, n_lt (by omega) (by omega), n_le (by omega) (by omega)]
  refine ⟨fun c => bad (fun hb => by have := hb.2; unfold isLet at this; simp at this; omega), fun c => ⟨fun c2 => ?_, fun c2 => bad (fun hb => by have := hb.2; unfold isLet at this; simp at this; omega)⟩⟩
  have hlet : isLet (tb (sk tb n p)) = true := by unfold isLet; simp; omega
  rw [if_pos ⟨hl, hlet⟩] at h
  generalize hq : sk tb n p = q at *
  refine ⟨n - q + 1, s_nameL (q := q) t hn u (n - q + 1) q _ (by omega) (by omega) (by omega) (fun i h1 h2 => by omega) ((((tF.rf v).s 7 _ (by omega)).j _).tape (hv.1.tape hc)) ((hv.1.s 7 _ (by omega)).j _) ?_ ?_ ?_ ?_ ?_ ?_⟩
  · rw [gI_sJ, gI_sI, if_neg (by decide)]; exact hv.2.1
  · rw [gI_sJ, gI_sI, if_pos rfl]; exact hv.2.1
  · rw [gI_sJ, gI_sI, if_neg (by decide)]; exact hv.2.2.2.1
  · rw [gJ_sJ, if_pos rfl, Nat.min_eq_left (by omega)]
    simp [nmL, pkL]
    rfl
  · intro h10
    rw [if_pos h10] at h
    exact h
  · intro h10
    rw [if_neg h10] at h
    exact h
theorem pFail {t : Nat} {u v : ST} {Q : Int32 → ST → Prop} {k q : Nat} (hF : pF t u v) (hq : gI v 7 = nI q ∨ gI v 6 = nI q) (x : Int32) (hx : x = nI q) (h : badP t u Q k q) : Q 0 (sI (sI v 8 (nI k)) 9 x) := by
  have hp : pF t u (sI (sI v 8 (nI k)) 9 x) := ⟨fun j a b c d e f g => by rw [gI_sI, if_neg d, gI_sI, if_neg c]; exact hF.1 j a b c d e f g, hF.2.1, hF.2.2.1, hF.2.2.2.1, hF.2.2.2.2⟩
  refine h _ hp ?_ ?_
  · rw [gI_sI, if_neg (by decide), gI_sI, if_pos rfl]
  · rw [gI_sI, if_pos rfl, hx]
theorem lN_ok {l m : List Nat} (hl : okNm l) (hm : okNm m) : (lg_cmp (lN (pkL l)) (lN (pkL m)) = 0) = (l = m) := by
  rw [lg_cmp0, pk_eq_iff hl hm]
/-- a name that must be a word -/
theorem s_word {tb : Nat → Nat} {n p : Nat} {u : ST} {w : List Nat} {Q : Int32 → ST → Prop} {K : ST → Prop} (t : Nat) (hn : n ≤ 8000) (hp : p ≤ n) (hc : cTape u tb n) (h6 : gI u 6 = nI p) (hw : okNm w) (h : cRes (pWord tb n p w) (fun e => ∀ v, tF u v → gI v 6 = nI e → gI v 8 = gI u 8 → K v) (badP t u Q)) : wX3_passName u (fun r_3 u_4 => ((r_3 = 0 → Q 0 u_4) ∧ (¬ r_3 = 0 → wX3_isWord (lN (pkL w)) u_4 (fun r_5 u_6 => ((r_5 = 0 → Q 0 u_6) ∧ (¬ r_5 = 0 → K u_6)))))) := by
  refine s_passName t hn hp hc h6 ?_
  unfold pWord at h
  cases hpn : pName tb n p with
  | inl f =>
    rw [hpn] at h
    intro v hF h8 h9
    exact ⟨fun _ => h v hF h8 h9, fun c => absurd rfl c⟩
  | inr z =>
    obtain ⟨q, e⟩ := z
    rw [hpn] at h
    obtain ⟨hok, -, hqe, hen, -⟩ := okNm_of hp hpn
    intro v hF g6 g7 gj g8
    refine ⟨fun c => absurd c (by decide), fun _ => ?_⟩
    unfold wX3_isWord
    rw [gj, lN_ok hok hw]
    dsimp only at h
    refine ⟨fun e1 => ⟨fun c => absurd c (by decide), fun _ => ?_⟩, fun e1 => ?_⟩
    · rw [if_pos e1] at h
      exact h v hF g6 g8
    · rw [if_neg e1] at h
      unfold wX3_fail
      refine ⟨fun _ => ⟨fun _ => ?_, fun c => absurd rfl c⟩, fun c => absurd rfl c⟩
      exact pFail (k := 1) (hF.p t) (Or.inl g7) _ g7 h
/-! lists of names -/
def cNames (u : ST) (m : Nat) (cs : List (List Nat)) : Prop := gI u (12 + m) = nI cs.length ∧ cs.length ≤ lenL (1 + m) ∧ (∀ l ∈ cs, okNm l) ∧ ∀ (k : Nat) (l : List Nat), cs[k]? = some l → gB u (1 + m) k = lN (pkL l)
theorem cNames.congr {u v : ST} {m : Nat} {cs : List (List Nat)} (h : cNames u m cs) (hI : gI v (12 + m) = gI u (12 + m)) (hB : gB v (1 + m) = gB u (1 + m)) : cNames v m cs := ⟨hI.trans h.1, h.2.1, h.2.2.1, fun k l hk => by rw [hB]; exact h.2.2.2 k l hk⟩
theorem lenL_64 {m : Nat} : lenL (1 + m) ≤ 64 := by
  unfold lenL
  rw [if_neg (by omega)]
  split <;> omega
theorem s_findL {u : ST} {m : Nat} {cs : List (List Nat)} {nm : List Nat} {Q : Int32 → ST → Prop} (hN : cNames u m cs) (hok : okNm nm) (h1 : nm ∈ cs → Q (nI (fIdx cs nm)) u) (h2 : nm ∉ cs → Q (-1) u) : ∀ (f k : Nat), cs.length - k < f → k ≤ cs.length → (∀ j, j < k → cs[j]? ≠ some nm) → wX1_find_L2 Q f m (lN (pkL nm)) (nI k) u := by
  have hl := lenL_64 (m := m)
  intro f
  induction f with
  | zero => intro k h; omega
  | succ f ih =>
    intro k hf hk hj
    show wX1_find_B2 (wX1_find_L2 Q f) Q m (lN (pkL nm)) (nI k) u
    unfold wX1_find_B2
    rw [hN.1, n_le (by have := hN.2.1; omega) (by have := hN.2.1; omega)]
    refine ⟨fun c => ?_, fun c => ?_⟩
    · refine h2 (fun hm => ?_)
      have := fIdx_lt hm
      exact hj _ (by omega) this.2
    · have hlt : k < cs.length := by omega
      obtain ⟨l, hl'⟩ : ∃ l, cs[k]? = some l := ⟨_, List.getElem?_eq_getElem hlt⟩
      have hmem : l ∈ cs := List.mem_of_getElem? hl'
      rw [cl_nI (by have := hN.2.1; omega), hN.2.2.2 k l hl', lN_ok (hN.2.2.1 l hmem) hok]
      refine ⟨vp_in_nI (by have := hN.2.1; omega) (by omega), fun e => ?_, fun e => ?_⟩
      · rw [nI_1]
        refine ih (k + 1) (by omega) (by omega) (fun j hjk => ?_)
        by_cases he : j = k
        · rw [he, hl']; exact fun z => e (Option.some.inj z)
        · exact hj j (by omega)
      · have hfi : fIdx cs nm = k := fIdx_of (by rw [hl', e]) hj
        rw [← hfi]
        exact h1 (by rw [← e]; exact hmem)
theorem s_find {u : ST} {m : Nat} {cs : List (List Nat)} {nm : List Nat} {Q : Int32 → ST → Prop} (hN : cNames u m cs) (hok : okNm nm) (h1 : nm ∈ cs → Q (nI (fIdx cs nm)) u) (h2 : nm ∉ cs → Q (-1) u) : wX1_find m (lN (pkL nm)) u Q := ⟨cs.length + 1, s_findL hN hok h1 h2 _ 0 (by omega) (by omega) (fun j hj => by omega)⟩
theorem s_add {u : ST} {m : Nat} {cs : List (List Nat)} {nm : List Nat} {Q : Int32 → ST → Prop} (hN : cNames u m cs) (hok : okNm nm) (h1 : cs.length < lenL (1 + m) → cNames (sI (sB u (1 + m) cs.length (lN (pkL nm))) (12 + m) (nI (cs.length + 1))) m (cs ++ [nm]) → Q 1 (sI (sB u (1 + m) cs.length (lN (pkL nm))) (12 + m) (nI (cs.length + 1)))) (h2 : ¬ cs.length < lenL (1 + m) → Q 0 u) : wX1_add m (lN (pkL nm)) u Q := by
  have hl := lenL_64 (m := m)
  unfold wX1_add
  rw [gI_sB, hN.1, n_lt (by have := hN.2.1; omega) (by omega), cl_nI (by have := hN.2.1; omega), nI_1]
  refine ⟨fun c => ⟨vp_in_nI c (by omega), h1 c ⟨?_, ?_, ?_, ?_⟩⟩, h2⟩
  · rw [gI_sI, if_pos rfl]; simp
  · simp; omega
  · intro l hl
    rcases List.mem_append.mp hl with h | h
    · exact hN.2.2.1 l h
    · rw [List.mem_singleton.mp h]; exact hok
  · intro k l hk
    rw [gB_sI, gB_sB, if_pos rfl]
    by_cases he : k = cs.length
    · subst he
      rw [pk_uLs]
      simp at hk
      rw [hk]
    · rw [pk_uLn he]
      have hlt : k < cs.length := by
        have := (List.getElem?_eq_some_iff.mp hk).1
        simp at this
        omega
      rw [List.getElem?_append_left hlt] at hk
      exact hN.2.2.2 k l hk
/-- table t holds so far .. -/
def cTb (u : ST) (t : Nat) (cs : List (List Nat)) (rs : List (Nat × Nat × Nat)) (as : List (List Nat)) : Prop := cNames u (2 * t) cs ∧ cNames u (2 * t + 1) as ∧ gI u (10 + t) = nI rs.length ∧ rs.length ≤ 256 ∧ ∀ (k : Nat) (r : Nat × Nat × Nat), rs[k]? = some r → gR u (3 * t) k = nI r.1 ∧ gR u (3 * t + 1) k = nI r.2.1 ∧ gR u (3 * t + 2) k = nI r.2.2
theorem cTb.tf {u v : ST} {t : Nat} {cs as : List (List Nat)} {rs : List (Nat × Nat × Nat)} (h : cTb u t cs rs as) (hF : tF u v) : cTb v t cs rs as := ⟨h.1.congr (hF.1 _ (by omega) (by omega) (by omega) (by omega)) (hF.2.2.2.1 _), h.2.1.congr (hF.1 _ (by omega) (by omega) (by omega) (by omega)) (hF.2.2.2.1 _), (hF.1 _ (by omega) (by omega) (by omega) (by omega)).trans h.2.2.1, h.2.2.2.1, fun k r hk => by rw [hF.2.2.1, hF.2.2.1, hF.2.2.1]; exact h.2.2.2.2 k r hk⟩
theorem lenL_c {t : Nat} (ht : t < 2) : lenL (1 + 2 * t) = 16 := by rcases (show t = 0 ∨ t = 1 by omega) with rfl | rfl <;> rfl
theorem lenL_a {t : Nat} (ht : t < 2) : lenL (1 + (2 * t + 1)) = 64 := by rcases (show t = 0 ∨ t = 1 by omega) with rfl | rfl <;> rfl
theorem s_passCondition {tb : Nat → Nat} {n p t : Nat} {u : ST} {cs as : List (List Nat)} {rs : List (Nat × Nat × Nat)} {Q : Int32 → ST → Prop} (ht : t < 2) (hn : n ≤ 8000) (hp : p ≤ n) (hc : cTape u tb n) (h6 : gI u 6 = nI p) (hT : cTb u t cs rs as) (h : cRes (pCond tb n p cs) (fun z => ∀ v, pF t u v → gI v 6 = nI z.1 → gI v 8 = gI u 8 → cTb v t z.2 rs as → Q 1 v) (badP t u Q)) : wX3_passCondition (2 * t) u Q := by
  unfold wX3_passCondition
  refine s_passName t hn hp hc h6 ?_
  unfold pCond at h
  cases hpn : pName tb n p with
  | inl f =>
    rw [hpn] at h
    intro v hF h8 h9
    exact ⟨fun c => absurd rfl c, fun _ => h v hF h8 h9⟩
  | inr z =>
    obtain ⟨q, e⟩ := z
    rw [hpn] at h
    obtain ⟨hok, -, hqe, hen, -⟩ := okNm_of hp hpn
    intro v hF g6 g7 gj g8
    refine ⟨fun _ => ?_, fun c => absurd c (by decide)⟩
    rw [gj]
    have hT' := hT.tf hF
    dsimp only at h
    refine s_find hT'.1 hok (fun hin => ?_) (fun hin => ?_)
    · rw [if_pos hin] at h
      refine ⟨fun c => absurd c.symm (m1_ne _ (by have := (fIdx_lt hin).1; have := hT.1.2.1; rw [lenL_c ht] at this; omega)), fun _ => ?_⟩
      unfold wX3_fail
      exact ⟨Or.inl rfl, pFail (k := 2) (hF.p t) (Or.inl g7) _ g7 h⟩
    · rw [if_neg hin] at h
      refine ⟨fun _ => ?_, fun c => absurd rfl c⟩
      rw [gj]
      refine s_add hT'.1 hok (fun hlt hN => ?_) (fun hge => ?_)
      · rw [lenL_c ht] at hlt
        rw [if_neg (by omega)] at h
        refine ⟨fun _ => ?_, fun c => absurd c (by decide)⟩
        refine h _ ?_ ?_ ?_ ⟨hN, ?_, ?_, hT'.2.2.2.1, hT'.2.2.2.2⟩
        · exact ⟨fun j a b c d e f g => by rw [gI_sI, if_neg f]; exact (hF.p t).1 j a b c d e f g, hF.2.1, fun k _ _ _ => hF.2.2.1 k, fun k a b => by rw [gB_sI, gB_sB, if_neg a]; exact hF.2.2.2.1 k, hF.2.2.2.2⟩
        · rw [gI_sI, if_neg (by omega)]; exact g6
        · rw [gI_sI, if_neg (by omega)]; exact g8
        · exact hT'.2.1.congr (by rw [gI_sI, if_neg (by omega)]; rfl) (by rw [gB_sI, gB_sB, if_neg (by omega)])
        · rw [gI_sI, if_neg (by omega)]; exact hT'.2.2.1
      · rw [lenL_c ht] at hge
        have hle := hT.1.2.1
        rw [lenL_c ht] at hle
        rw [if_pos (by omega)] at h
        refine ⟨fun c => absurd rfl c, fun _ => ?_⟩
        unfold wX3_fail
        exact ⟨fun _ => pFail (k := 3) (hF.p t) (Or.inl g7) _ g7 h, fun c => absurd rfl c⟩
