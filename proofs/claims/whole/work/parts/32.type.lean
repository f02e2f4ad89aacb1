/-- the class's state but for the tape and 'out' -/
def cSame (u v : ST) : Prop := (∀ k, k < 5 ∨ 9 < k → gI v k = gI u k) ∧ gJ v 1 = gJ u 1 ∧ (∀ k, gR v k = gR u k) ∧ (∀ k, 1 ≤ k → k ≤ 4 → gB v k = gB u k) ∧ (∀ k, gZ v k = gZ u k)
/-- the reference's state but for tape, place and 'thrown' -/
def mSame (u v : ST) : Prop := (∀ k, 4 ≤ k → gI v k = gI u k) ∧ (∀ k, k ≠ 1 → gR v k = gR u k)
theorem cSame.rf (u : ST) : cSame u u := ⟨fun _ _ => rfl, rfl, fun _ => rfl, fun _ _ _ => rfl, fun _ => rfl⟩
theorem mSame.rf (u : ST) : mSame u u := ⟨fun _ _ => rfl, fun _ _ => rfl⟩
theorem cSame.tr {u v w : ST} (h : cSame u v) (g : cSame v w) : cSame u w := ⟨fun k hk => (g.1 k hk).trans (h.1 k hk), g.2.1.trans h.2.1, fun k => (g.2.2.1 k).trans (h.2.2.1 k), fun k a b => (g.2.2.2.1 k a b).trans (h.2.2.2.1 k a b), fun k => (g.2.2.2.2 k).trans (h.2.2.2.2 k)⟩
theorem mSame.tr {u v w : ST} (h : mSame u v) (g : mSame v w) : mSame u w := ⟨fun k hk => (g.1 k hk).trans (h.1 k hk), fun k hk => (g.2 k hk).trans (h.2 k hk)⟩
theorem cSame.app (u : ST) (i : Nat) (v : Int64) (x : Int32) : cSame u (sI (sB u 0 i v) 5 x) := ⟨fun k hk => by rw [gI_sI, if_neg (by omega)]; rfl, rfl, fun _ => rfl, fun k a b => by rw [gB_sI, gB_sB, if_neg (by omega)], fun _ => rfl⟩
theorem cSame.sO (u : ST) (f : Nat → Int64) : cSame u (sO u f) := ⟨fun _ _ => rfl, rfl, fun _ => rfl, fun k a b => by show (if k = 5 then f else gB u k) = gB u k; rw [if_neg (by omega)], fun _ => rfl⟩
theorem cSame.out (u : ST) (i : Nat) (v : Int64) : cSame u (sB u 5 i v) := ⟨fun _ _ => rfl, rfl, fun _ => rfl, fun k a b => by rw [gB_sB, if_neg (by omega)], fun _ => rfl⟩
theorem cTape.congr {u v : ST} {tb : Nat → Nat} {n : Nat} (h : cTape u tb n) (h5 : gI v 5 = gI u 5) (h0 : gB v 0 = gB u 0) : cTape v tb n := ⟨h5.trans h.1, fun i hi => by unfold cByte; rw [h0]; exact h.2 i hi⟩
theorem cTape.sO {u : ST} {tb : Nat → Nat} {n : Nat} (h : cTape u tb n) (f : Nat → Int64) : cTape (sO u f) tb n := h.congr rfl rfl
theorem cTape.out {u : ST} {tb : Nat → Nat} {n : Nat} (h : cTape u tb n) (i : Nat) (v : Int64) : cTape (sB u 5 i v) tb n := h.congr rfl rfl
/-- the tape with the j lowest bytes of Y behind its n -/
def tTyp (tb : Nat → Nat) (n j Y : Nat) : Nat → Nat := fun i => if i < n then tb i else byt Y (j - 1 - (i - n))
theorem tApp_self (tf : Nat → Nat) (m : Nat) : tApp tf m (tf m) = tf := by
  funext i
  unfold tApp
  by_cases h : i = m
  · rw [if_pos h, h]
  · rw [if_neg h]
theorem s_typeL {tb : Nat → Nat} {n j Y : Nat} (hY : Y < 2 ^ 64) (hn : n + j ≤ 8000) (hj : j ≤ 8) {Q : Int32 → ST → Prop} {X : String → ST → Prop} : ∀ (f k : Nat) (u : ST) (x4 : Int32), k < f → k ≤ j → (k = 0 ∧ x4 = -1 ∨ 0 < k ∧ x4 = nI (k - 1)) → cTape u (tTyp tb n j Y) (n + (j - k)) → (∀ u', cTape u' (tTyp tb n j Y) (n + j) → cSame u u' → Q (nI (n + j)) u') → wX6_type_L51 Q X f (lN Y) x4 u := by
  intro f
  induction f with
  | zero => intro k u x4 h; omega
  | succ f ih =>
    intro k u x4 hk hkj hx h hQ
    show wX6_type_B51 (wX6_type_L51 Q X f) Q X (lN Y) x4 u
    unfold wX6_type_B51
    rcases hx with ⟨rfl, rfl⟩ | ⟨hk0, rfl⟩
    · refine ⟨fun _ => ?_, fun c => absurd m1_lt c⟩
      rw [h.1]
      exact hQ u h (cSame.rf u)
    · refine ⟨fun c => absurd c (nI_pos (by omega)), fun _ => ?_⟩
      rw [b_cls hY (by omega)]
      have hb : byt Y (k - 1) = tTyp tb n j Y (n + (j - k)) := by
        unfold tTyp
        rw [if_neg (by omega)]
        congr 1
        omega
      refine s_append h (by omega) (byt_lt _ _) (fun u' h' he => ?_)
      obtain ⟨i, v, he⟩ := he
      rw [hb, tApp_self] at h'
      have hs : cSame u u' := by rw [he]; exact cSame.app u i v _
      have e1 : n + (j - k) + 1 = n + (j - (k - 1)) := by omega
      rw [e1] at h'
      refine ih (k - 1) u' _ (by omega) (by omega) ?_ h' (fun u2 h2 s2 => hQ u2 h2 (hs.tr s2))
      by_cases h1 : k = 1
      · left
        subst h1
        exact ⟨rfl, by decide⟩
      · right
        exact ⟨by omega, nI_m1 (by omega)⟩
theorem s_type6 {tb : Nat → Nat} {n j Y : Nat} (hY : Y < 2 ^ 64) (hn : n + j ≤ 8000) (hj1 : 1 ≤ j) (hj : j ≤ 8) {u : ST} {Q : Int32 → ST → Prop} {X : String → ST → Prop} (h : cTape u tb n) (hQ : ∀ u', cTape u' (tTyp tb n j Y) (n + j) → cSame u u' → Q (nI (n + j)) u') : wX6_type (lN Y) (nI j) u Q X := by
  unfold wX6_type
  rw [show (1 : Int32) = nI 1 from rfl, show (8 : Int32) = nI 8 from rfl, show (8000 : Int32) = nI 8000 from rfl, h.1, nI_add]
  refine ⟨fun c => ?_, fun _ => ⟨fun _ => ⟨fun _ => ?_, fun c => ?_⟩, fun c => ?_⟩⟩
  · rw [n_lt (by omega) (by omega)] at c; omega
  · refine ⟨j + 1, s_typeL hY hn hj (j + 1) j u _ (by omega) (by omega) (Or.inr ⟨by omega, ?_⟩) ⟨?_, fun i hi => ?_⟩ hQ⟩
    · rw [pk_sub hj1]
    · rw [h.1]; congr 1; omega
    · have : tTyp tb n j Y i = tb i := by unfold tTyp; rw [if_pos (by omega)]
      rw [this]; exact h.2 i (by omega)
  · rw [n_le (by omega) (by omega)] at c; omega
  · rw [n_le (by omega) (by omega)] at c; omega
theorem mSame.s0 (u : ST) (v : Int32) : mSame u (sI u 0 v) := ⟨fun k hk => by rw [gI_sI, if_neg (by omega)], fun _ _ => rfl⟩
theorem mSame.s2 (u : ST) (v : Int32) : mSame u (sI u 2 v) := ⟨fun k hk => by rw [gI_sI, if_neg (by omega)], fun _ _ => rfl⟩
theorem mSame.tp (u : ST) (i : Nat) (v x : Int32) : mSame u (sI (sR u 1 i v) 2 x) := ⟨fun k hk => by rw [gI_sI, if_neg (by omega)]; rfl, fun k hk => by rw [gR_sI, gR_sR, if_neg hk]⟩
theorem s_typeM {tb : Nat → Nat} {n j Y : Nat} (hY : Y < 2 ^ 64) (hn : n + j ≤ 8000) (hj : j ≤ 8) {Q : Int32 → ST → Prop} : ∀ (f k : Nat) (u : ST) (x4 : Int32), k < f → k ≤ j → (k = 0 ∧ x4 = -1 ∨ 0 < k ∧ x4 = nI (k - 1)) → mTape u (tTyp tb n j Y) (n + (j - k)) → (∀ u', mTape u' (tTyp tb n j Y) (n + j) → mSame u u' → gI u' 0 = gI u 0 → Q (nI (n + j)) u') → wX7_type_L50 Q f (lN Y) x4 u := by
  intro f
  induction f with
  | zero => intro k u x4 h; omega
  | succ f ih =>
    intro k u x4 hk hkj hx h hQ
    show wX7_type_B50 (wX7_type_L50 Q f) Q (lN Y) x4 u
    unfold wX7_type_B50
    rcases hx with ⟨rfl, rfl⟩ | ⟨hk0, rfl⟩
    · refine ⟨fun _ => ?_, fun c => absurd m1_lt c⟩
      rw [h.1]
      exact hQ u h (mSame.rf u) rfl
    · refine ⟨fun c => absurd c (nI_pos (by omega)), fun _ => ?_⟩
      rw [h.1, b_ref hY (by omega), gI_sR, h.1, nI_1, cl_nI (by omega)]
      refine ⟨vp_in_nI (by omega) (by omega), ?_⟩
      have hb : byt Y (k - 1) = tTyp tb n j Y (n + (j - k)) := by
        unfold tTyp
        rw [if_neg (by omega)]
        congr 1
        omega
      refine ih (k - 1) _ _ (by omega) (by omega) ?_ ⟨?_, fun i hi => ?_⟩ (fun u2 h2 s2 e2 => hQ u2 h2 ((mSame.tp u _ _ _).tr s2) ?_)
      · by_cases h1 : k = 1
        · left
          subst h1
          exact ⟨rfl, by decide⟩
        · right
          exact ⟨by omega, nI_m1 (by omega)⟩
      · rw [gI_sI, if_pos rfl]; congr 1; omega
      · rw [gR_sI, gR_sR, if_pos rfl]
        by_cases he : i = n + (j - k)
        · rw [he, pk_us, hb]
        · rw [pk_un he]; exact h.2 i (by omega)
      · rw [e2, gI_sI, if_neg (by decide), gI_sR]
theorem s_type7 {tb : Nat → Nat} {n j Y : Nat} (hY : Y < 2 ^ 64) (hn : n + j ≤ 8000) (hj1 : 1 ≤ j) (hj : j ≤ 8) {u : ST} {Q : Int32 → ST → Prop} (h : mTape u tb n) (hQ : ∀ u', mTape u' (tTyp tb n j Y) (n + j) → mSame u u' → gI u' 0 = 0 → Q (nI (n + j)) u') : wX7_type (lN Y) (nI j) u Q := by
  unfold wX7_type
  rw [show (1 : Int32) = nI 1 from rfl, show (8 : Int32) = nI 8 from rfl, show (8000 : Int32) = nI 8000 from rfl, h.1, nI_add]
  refine ⟨fun c => ?_, fun _ => ⟨fun _ => ⟨fun _ => ?_, fun c => ?_⟩, fun c => ?_⟩⟩
  · rw [n_lt (by omega) (by omega)] at c; omega
  · unfold wX7_type_b33
    rw [gI_sI, if_pos rfl]
    refine ⟨fun _ => ⟨j + 1, s_typeM hY hn hj (j + 1) j _ _ (by omega) (by omega) (Or.inr ⟨by omega, ?_⟩) ⟨?_, fun i hi => ?_⟩ (fun u' h' s' e' => hQ u' h' ((mSame.s0 u 0).tr s') ?_)⟩, fun c => absurd (by decide) c⟩
    · exact pk_sub hj1
    · rw [gI_sI, if_neg (by decide), h.1]; congr 1; omega
    · have : tTyp tb n j Y i = tb i := by unfold tTyp; rw [if_pos (by omega)]
      rw [this, gR_sI]; exact h.2 i (by omega)
    · rw [e', gI_sI, if_pos rfl]
  · rw [n_le (by omega) (by omega)] at c; omega
  · rw [n_le (by omega) (by omega)] at c; omega
theorem lg_cmp_self (x : Int64) : lg_cmp x x = 0 := by
  unfold lg_cmp
  simp
/-- what a turn needs of the tape -/
def tRel (uc um : ST) (N : Nat) : Prop := ∃ (tb : Nat → Nat) (n : Nat), n ≤ N ∧ cTape uc tb n ∧ mTape um tb n
theorem in1_8 {x : Int32} (h1 : ¬ x < 1) (h2 : x ≤ 8) : ∃ j : Nat, 1 ≤ j ∧ j ≤ 8 ∧ x = nI j := by
  obtain ⟨j, hj, rfl⟩ := nI_of (x := x) (fun c => h1 (Int32.lt_trans c (by decide)))
  rw [show (1 : Int32) = nI 1 from rfl, n_lt hj (by decide)] at h1
  rw [show (8 : Int32) = nI 8 from rfl, n_le hj (by decide)] at h2
  exact ⟨j, by omega, h2, rfl⟩
theorem out0 (u : ST) (v : Int64) : gB (sB u 5 (0 : Int32).toNatClampNeg v) 5 (0 : Int32).toNatClampNeg = v := by
  rw [gB_sB, if_pos rfl]; exact pk_uLs
theorem t_type {uc um : ST} {N : Nat} {K : ST → ST → Prop} (a1 a2 a3 : Int32) (h : tRel uc um N) (hN : N + 8 ≤ 8000) (hK : ∀ uc1 um1, tRel uc1 um1 (N + 8) → cSame uc uc1 → mSame um um1 → K uc1 um1) : wC0 a1 a2 a3 uc um K := by
  obtain ⟨tb, n, hn, hc, hm⟩ := h
  unfold wC0 wL_type
  generalize ((((a1 : Int32).toInt64 : Int64) <<< ((32 : Int32).toInt64 &&& 63) ||| ((a2 : Int32).toInt64 &&& 4294967295)) : Int64) = y
  obtain ⟨Y, hY, rfl⟩ := wb_of y
  by_cases h1 : a3 < 1
  · unfold wX6_type
    refine ⟨fun _ => ?_, fun c => absurd h1 c⟩
    refine Or.inl ⟨rfl, ?_⟩
    unfold wX7_type
    refine ⟨fun _ => ?_, fun c => absurd h1 c⟩
    unfold wX7_type_b12 wX7_type_b33
    rw [gI_sI, if_pos rfl]
    refine ⟨fun c => absurd c (by decide), fun _ => ?_⟩
    unfold wX7_thrown
    refine ⟨by rw [gI_sI, if_pos rfl], fun c => absurd c (by decide), hK _ _ ⟨tb, n, by omega, hc.sO _, ?_⟩ (cSame.sO _ _) (mSame.s0 _ _)⟩
    exact ⟨hm.1, hm.2⟩
  · by_cases h8 : a3 ≤ 8
    · obtain ⟨j, hj1, hj8, rfl⟩ := in1_8 h1 h8
      refine s_type6 hY (by omega) hj1 hj8 hc (fun u' h' s' => ?_)
      refine s_type7 hY (by omega) hj1 hj8 hm (fun v' g' t' e' => ?_)
      unfold wX7_thrown
      refine ⟨e', fun _ => ?_, hK _ _ ⟨_, n + j, by omega, (h'.sO _).out _ _, g'⟩ ((s'.tr (cSame.sO _ _)).tr (cSame.out _ _ _)) t'⟩
      rw [out0, lg_cmp_self]
    · unfold wX6_type
      refine ⟨fun c => absurd c h1, fun _ => ⟨fun c => absurd c h8, fun _ => ?_⟩⟩
      refine Or.inl ⟨rfl, ?_⟩
      unfold wX7_type
      refine ⟨fun c => absurd c h1, fun _ => ⟨fun c => absurd c h8, fun _ => ?_⟩⟩
      unfold wX7_type_b12 wX7_type_b33
      rw [gI_sI, if_pos rfl]
      refine ⟨fun c => absurd c (by decide), fun _ => ?_⟩
      unfold wX7_thrown
      refine ⟨by rw [gI_sI, if_pos rfl], fun c => absurd c (by decide), hK _ _ ⟨tb, n, by omega, hc.sO _, ?_⟩ (cSame.sO _ _) (mSame.s0 _ _)⟩
      exact ⟨hm.1, hm.2⟩
theorem t_keep {uc um : ST} {N : Nat} {K : ST → ST → Prop} (a1 : Int32) (h : tRel uc um N) (hN : N ≤ 8000) (hK : ∀ uc1 um1, tRel uc1 um1 N → cSame uc uc1 → mSame um um1 → K uc1 um1) : wC1 a1 uc um K := by
  obtain ⟨tb, n, hn, hc, hm⟩ := h
  unfold wC1 wL_keep wX6_keep wX7_keep
  have c5 : ∀ v : Int32, cSame uc (sI uc 5 v) := fun v => ⟨fun k hk => by rw [gI_sI, if_neg (by omega)], rfl, fun _ => rfl, fun _ _ _ => rfl, fun _ => rfl⟩
  have bad : wX7_keep_b13 (fun um1 => wX7_thrown um1 (fun r7 um2 => r7 = 1 ∧ K (sO uc (gB uc 5)) um2)) a1 um := by
    unfold wX7_keep_b13 wX7_keep_b18 wX7_keep_b37
    rw [gI_sI, if_pos rfl]
    refine ⟨fun c => absurd c (by decide), fun _ => ?_⟩
    unfold wX7_thrown
    refine ⟨by rw [gI_sI, if_neg (by decide), gI_sI, if_pos rfl], hK _ _ ⟨tb, n, hn, hc.sO _, ?_, ?_⟩ (cSame.sO _ _) ((mSame.s0 _ _).tr (mSame.s2 _ _))⟩
    · rw [gI_sI, if_pos rfl, gI_sI, if_neg (by decide)]; exact hm.1
    · exact hm.2
  by_cases h1 : a1 < 0
  · exact ⟨fun _ => ⟨rfl, fun _ => bad, fun c => absurd h1 c⟩, fun c => absurd h1 c⟩
  · refine ⟨fun c => absurd c h1, fun _ => ⟨fun h2 => ?_, fun h2 => ?_⟩⟩
    · have h2' := h2
      rw [hc.1] at h2
      obtain ⟨j, hj, rfl⟩ := nI_of h1
      rw [n_le hj (by omega)] at h2
      refine ⟨fun c => absurd c h1, fun _ => ⟨fun _ => ?_, fun c => absurd (by rw [hm.1, n_le hj (by omega)]; exact h2) c⟩⟩
      unfold wX7_keep_b18 wX7_keep_b37
      rw [gI_sI, if_pos rfl]
      refine ⟨fun _ => ?_, fun c => absurd (by decide) c⟩
      unfold wX7_thrown
      refine ⟨by rw [gI_sI, if_neg (by decide), gI_sI, if_pos rfl], hK _ _ ⟨tb, j, by omega, ⟨?_, ?_⟩, ?_, ?_⟩ ((c5 _).tr (cSame.sO _ _)) ((mSame.s0 _ _).tr (mSame.s2 _ _))⟩
      · show gI (sI uc 5 (nI j)) 5 = nI j
        rw [gI_sI, if_pos rfl]
      · intro i hi
        exact hc.2 i (by omega)
      · rw [gI_sI, if_pos rfl]
      · intro i hi
        exact hm.2 i (by omega)
    · have h2' := h2
      rw [hc.1, ← hm.1] at h2
      exact ⟨rfl, fun c => absurd c h1, fun _ => ⟨fun c => absurd c h2, fun _ => bad⟩⟩
