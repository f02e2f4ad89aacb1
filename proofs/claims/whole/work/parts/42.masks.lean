/-! SETS OF CONDITIONS AS NUMBERS -/
theorem nI_and (a b : Nat) : nI a &&& nI b = nI (a &&& b) := by
  apply Int32.toBitVec_inj.mp
  show BitVec.ofNat 32 a &&& BitVec.ofNat 32 b = BitVec.ofNat 32 (a &&& b)
  apply BitVec.eq_of_toNat_eq
  simp only [BitVec.toNat_and, BitVec.toNat_ofNat]
  rw [Nat.and_mod_two_pow]
/-- a without b -/
def ndn (a b : Nat) : Nat := a &&& (65535 ^^^ b)
theorem b65 (i : Nat) : (65535 : Nat).testBit i = decide (i < 16) := by
  rw [show (65535 : Nat) = 2 ^ 16 - 1 from rfl, Nat.testBit_two_pow_sub_one]
theorem bit_hi {a i n : Nat} (ha : a < 2 ^ n) (hi : n ≤ i) : a.testBit i = false := Nat.testBit_lt_two_pow (Nat.lt_of_lt_of_le ha (Nat.pow_le_pow_right (by decide) hi))
theorem bit_lt {a i n : Nat} (ha : a < 2 ^ n) (h : a.testBit i = true) : i < n := by
  rcases Nat.lt_or_ge i n with g | g
  · exact g
  · rw [bit_hi ha g] at h; cases h
theorem ndn_bit {a b : Nat} (ha : a < 2 ^ 16) (i : Nat) : (ndn a b).testBit i = (a.testBit i && !b.testBit i) := by
  unfold ndn
  rw [Nat.testBit_and, Nat.testBit_xor, b65]
  by_cases h : i < 16
  · simp [h]
  · rw [bit_hi ha (by omega)]; simp
theorem ndn_lt {a b n : Nat} (ha : a < 2 ^ n) : ndn a b < 2 ^ n := Nat.lt_of_le_of_lt Nat.and_le_left ha
theorem nI_ndn {a b : Nat} (ha : a < 2 ^ 16) (hb : b < 2 ^ 16) : nI a &&& (nI b ^^^ (-1)) = nI (ndn a b) := by
  apply Int32.toBitVec_inj.mp
  show BitVec.ofNat 32 a &&& (BitVec.ofNat 32 b ^^^ BitVec.allOnes 32) = BitVec.ofNat 32 (ndn a b)
  apply BitVec.eq_of_getLsbD_eq
  intro i hi
  rw [BitVec.getLsbD_and, BitVec.getLsbD_xor, BitVec.getLsbD_allOnes, BitVec.getLsbD_ofNat, BitVec.getLsbD_ofNat, BitVec.getLsbD_ofNat, ndn_bit ha]
  simp [hi]
theorem and0 {a b : Nat} : a &&& b = 0 ↔ ∀ i, ¬ (a.testBit i = true ∧ b.testBit i = true) := by
  constructor
  · intro h i hi
    have := congrArg (fun x => Nat.testBit x i) h
    simp [Nat.testBit_and, hi.1, hi.2] at this
  · intro h
    apply bitx
    intro i
    rw [Nat.testBit_and, Nat.zero_testBit]
    have := h i
    cases ha : a.testBit i <;> cases hb : b.testBit i <;> simp_all
theorem andE {a b : Nat} : a &&& b = b ↔ ∀ i, b.testBit i = true → a.testBit i = true := by
  constructor
  · intro h i hi
    have := congrArg (fun x => Nat.testBit x i) h
    simpa [Nat.testBit_and, hi] using this
  · intro h
    apply bitx
    intro i
    rw [Nat.testBit_and]
    have := h i
    cases hb : b.testBit i <;> simp_all
theorem pw_bit (c i : Nat) : (2 ^ c).testBit i = decide (c = i) := Nat.testBit_two_pow
theorem tst0 {y c : Nat} : (y &&& 2 ^ c = 0) = (y.testBit c = false) := by
  rw [and0]
  refine propext ⟨fun h => ?_, fun h i hi => ?_⟩
  · have := h c
    rw [pw_bit] at this
    simpa using this
  · rw [pw_bit] at hi
    have : c = i := by simpa using hi.2
    rw [this] at h
    rw [h] at hi
    exact absurd hi.1 (by decide)
theorem pw16 {c : Nat} (hc : c < 16) : 2 ^ c < 2 ^ 16 := wb_lt2 hc
theorem nI_is0 {a : Nat} (ha : a < 2 ^ 31) : (nI a = 0) = (a = 0) := n_eq (b := 0) ha (by decide)
theorem nI_tst {y c : Nat} (hy : y < 2 ^ 16) : (nI y &&& nI (2 ^ c) = 0) = (y.testBit c = false) := by
  rw [nI_and, nI_is0 (Nat.lt_of_le_of_lt Nat.and_le_left (by omega)), tst0]
/-- bit c of y by shifting: the reference's way -/
theorem nI_shb {y c : Nat} (hy : y < 2 ^ 31) (hc : c < 32) : (nI y >>> (nI c &&& 31)) &&& 1 = nI (if y.testBit c = true then 1 else 0) := by
  rw [pk_shrN hy (nI c &&& 31) c (s_l c hc), show (1 : Int32) = nI 1 from rfl, nI_and]
  congr 1
  rw [Nat.and_comm, Nat.one_and_eq_mod_two, Nat.testBit_eq_decide_div_mod_eq]
  have := Nat.mod_two_eq_zero_or_one (y / 2 ^ c)
  rcases this with h | h <;> simp [h]
/-! how many -/
def pcN : Nat → Nat → Nat
  | 0, _ => 0
  | k + 1, m => pcN k m + (if m.testBit k = true then 1 else 0)
def pc (m : Nat) : Nat := pcN 16 m
theorem pcN_eq {a b : Nat} : ∀ (k : Nat), (∀ i, i < k → a.testBit i = b.testBit i) → pcN k a = pcN k b := by
  intro k
  induction k with
  | zero => intro _; rfl
  | succ k ih => intro h; simp only [pcN]; rw [ih (fun i hi => h i (by omega)), h k (by omega)]
theorem pcN_clr {a b c : Nat} (hb : a.testBit c = true) (hc : b.testBit c = false) : ∀ (k : Nat), c < k → (∀ i, i < k → i ≠ c → b.testBit i = a.testBit i) → pcN k b + 1 = pcN k a := by
  intro k
  induction k with
  | zero => intro h; omega
  | succ k ih =>
    intro hck h
    simp only [pcN]
    by_cases he : k = c
    · subst he
      rw [pcN_eq (b := a) k (fun i hi => h i (by omega) (by omega)), hb, hc]
      simp
    · rw [h k (by omega) he, ← ih (by omega) (fun i hi hne => h i (by omega) hne)]
      omega
theorem pc_clr {a c : Nat} (ha : a < 2 ^ 16) (hc : c < 16) (hb : a.testBit c = true) : pc (ndn a (2 ^ c)) + 1 = pc a := by
  refine pcN_clr hb ?_ 16 hc (fun i _ hne => ?_)
  · rw [ndn_bit ha, pw_bit]; simp
  · rw [ndn_bit ha, pw_bit]; simp [show ¬ c = i from fun h => hne h.symm]
theorem pcN_0 {a : Nat} : ∀ (k : Nat), pcN k a = 0 → ∀ i, i < k → a.testBit i = false := by
  intro k
  induction k with
  | zero => intro _ i hi; omega
  | succ k ih =>
    intro h i hi
    simp only [pcN] at h
    by_cases he : i = k
    · subst he
      cases hb : a.testBit i
      · rfl
      · rw [hb] at h; simp at h
    · exact ih (by omega) i (by omega)
theorem pc_0 {a : Nat} (ha : a < 2 ^ 16) (h : pc a = 0) : a = 0 := by
  apply bitx
  intro i
  rw [Nat.zero_testBit]
  rcases Nat.lt_or_ge i 16 with g | g
  · exact pcN_0 16 h i g
  · exact bit_hi ha g
theorem pc_le (a : Nat) : pc a ≤ 16 := by
  have : ∀ k, pcN k a ≤ k := by
    intro k
    induction k with
    | zero => simp [pcN]
    | succ k ih => simp only [pcN]; split <;> omega
  exact this 16
theorem pc_full : ∀ n, n ≤ 16 → pc (2 ^ n - 1) = n := by decide +kernel
/-! bitCount, byte by byte -/
theorem and256 {x y p q : Nat} (hy : y < 256) (hq : q < 256) : (256 * x + y) &&& (256 * p + q) = 256 * (x &&& p) + (y &&& q) := by
  have hyq : y &&& q < 2 ^ 8 := Nat.lt_of_le_of_lt Nat.and_le_left hy
  apply bitx
  intro i
  rw [Nat.testBit_and, show (256 : Nat) = 2 ^ 8 from rfl, Nat.testBit_two_pow_mul_add _ hy, Nat.testBit_two_pow_mul_add _ hq, Nat.testBit_two_pow_mul_add _ hyq]
  split
  · rw [Nat.testBit_and]
  · rw [Nat.testBit_and]
theorem bc_1 : ∀ b, b < 256 → ((b / 2 &&& 85) = ((128 + b / 2) &&& 85)) ∧ (b / 2 &&& 85) ≤ b := by decide +kernel
theorem bc_2 : ∀ b, b < 256 → ((64 + b / 4) &&& 51) = (b / 4 &&& 51) ∧ ((128 + b / 4) &&& 51) = (b / 4 &&& 51) ∧ ((192 + b / 4) &&& 51) = (b / 4 &&& 51) := by decide +kernel
def bcA (b : Nat) : Nat := b - (b / 2 &&& 85)
def bcB (b : Nat) : Nat := (bcA b &&& 51) + (bcA b / 4 &&& 51)
theorem bc_3 : ∀ b, b < 256 → bcA b < 256 ∧ bcB b ≤ 68 ∧ bcB b % 16 ≤ 4 := by decide +kernel
theorem bc_4 : ∀ b, b < 256 → (∀ t, t < 5 → ((bcB b + bcB b / 16 + 16 * t) &&& 15) = pcN 8 b) := by decide +kernel
theorem bc_5 : ∀ s, s < 17 → (s &&& 63) = s := by decide +kernel
theorem pcN8_le (b : Nat) : pcN 8 b ≤ 8 := by
  simp only [pcN]
  repeat' split
  all_goals omega
theorem pcN_16 {a b : Nat} (hb : b < 256) : pcN 16 (256 * a + b) = pcN 8 a + pcN 8 b := by
  have h : ∀ i, (256 * a + b).testBit i = if i < 8 then b.testBit i else a.testBit (i - 8) := fun i => by
    rw [show (256 : Nat) = 2 ^ 8 from rfl, Nat.testBit_two_pow_mul_add _ hb]
  simp only [pcN, h]
  simp only [Nat.reduceLT, if_true, if_false, Nat.reduceSub, reduceIte]
  omega
theorem bc_all {m : Nat} (hm : m < 2 ^ 16) : ∃ p q, p ≤ 8 ∧ q ≤ 8 ∧ p + q = pc m ∧ (((((m - ((m / 2) &&& 1431655765)) &&& 858993459) + (((m - ((m / 2) &&& 1431655765)) / 4) &&& 858993459)) + (((m - ((m / 2) &&& 1431655765)) &&& 858993459) + (((m - ((m / 2) &&& 1431655765)) / 4) &&& 858993459)) / 16) &&& 252645135) = 256 * p + q := by
  obtain ⟨a, b, ha, hb, rfl⟩ : ∃ a b, a < 256 ∧ b < 256 ∧ m = 256 * a + b := ⟨m / 256, m % 256, by omega, by omega, by omega⟩
  have k1 : ((256 * a + b) / 2) &&& 1431655765 = 256 * (a / 2 &&& 85) + (b / 2 &&& 85) := by
    have e : (256 * a + b) / 2 = 256 * (a / 2) + (128 * (a % 2) + b / 2) := by omega
    rw [e, show (1431655765 : Nat) = 256 * 5592405 + 85 from rfl, and256 (by omega) (by decide)]
    have e2 : a / 2 &&& 5592405 = a / 2 &&& 85 := by
      have := and256 (x := 0) (y := a / 2) (p := 21845) (q := 85) (by omega) (by decide)
      simpa using this
    rw [e2]
    rcases Nat.mod_two_eq_zero_or_one a with h | h
    · rw [h]; simp
    · rw [h, ← (bc_1 b hb).1]
  have A1 : 256 * a + b - (256 * (a / 2 &&& 85) + (b / 2 &&& 85)) = 256 * bcA a + bcA b := by
    have := (bc_1 a ha).2
    have := (bc_1 b hb).2
    unfold bcA
    omega
  rw [k1, A1]
  have ba := bc_3 a ha
  have bb := bc_3 b hb
  have red51 : ∀ z, z < 256 → z &&& 3355443 = z &&& 51 := fun z hz => by
    have := and256 (x := 0) (y := z) (p := 13107) (q := 51) hz (by decide)
    simpa using this
  have k2 : (256 * bcA a + bcA b) &&& 858993459 = 256 * (bcA a &&& 51) + (bcA b &&& 51) := by
    rw [show (858993459 : Nat) = 256 * 3355443 + 51 from rfl, and256 (by omega) (by decide), red51 _ ba.1]
  have k3 : ((256 * bcA a + bcA b) / 4) &&& 858993459 = 256 * (bcA a / 4 &&& 51) + (bcA b / 4 &&& 51) := by
    have e : (256 * bcA a + bcA b) / 4 = 256 * (bcA a / 4) + (64 * (bcA a % 4) + bcA b / 4) := by omega
    rw [e, show (858993459 : Nat) = 256 * 3355443 + 51 from rfl, and256 (by omega) (by decide), red51 _ (by omega)]
    have hh := bc_2 (bcA b) bb.1
    rcases (show bcA a % 4 = 0 ∨ bcA a % 4 = 1 ∨ bcA a % 4 = 2 ∨ bcA a % 4 = 3 by omega) with h | h | h | h
    · rw [h]; simp
    · rw [h]; exact congrArg _ hh.1
    · rw [h]; exact congrArg _ hh.2.1
    · rw [h]; exact congrArg _ hh.2.2
  have A2 : 256 * (bcA a &&& 51) + (bcA b &&& 51) + (256 * (bcA a / 4 &&& 51) + (bcA b / 4 &&& 51)) = 256 * bcB a + bcB b := by
    unfold bcB
    omega
  rw [k2, k3, A2]
  have k4 : (256 * bcB a + bcB b + (256 * bcB a + bcB b) / 16) &&& 252645135 = 256 * pcN 8 a + pcN 8 b := by
    have e : 256 * bcB a + bcB b + (256 * bcB a + bcB b) / 16 = 256 * (bcB a + bcB a / 16) + (bcB b + bcB b / 16 + 16 * (bcB a % 16)) := by omega
    rw [e, show (252645135 : Nat) = 256 * 986895 + 15 from rfl, and256 (by omega) (by decide)]
    have e2 : bcB a + bcB a / 16 &&& 986895 = bcB a + bcB a / 16 &&& 15 := by
      have := and256 (x := 0) (y := bcB a + bcB a / 16) (p := 3855) (q := 15) (by omega) (by decide)
      simpa using this
    rw [e2, bc_4 b hb _ (by omega)]
    have := bc_4 a ha 0 (by omega)
    rw [Nat.mul_zero, Nat.add_zero] at this
    rw [this]
  rw [k4]
  refine ⟨pcN 8 a, pcN 8 b, pcN8_le a, pcN8_le b, ?_, rfl⟩
  unfold pc
  rw [pcN_16 hb]
theorem and_le_r (a b : Nat) : a &&& b ≤ b := Nat.and_le_right
/-- Integer.bitCount -/
theorem s_bc {m : Nat} {u : ST} {Q : Int32 → ST → Prop} (hm : m < 2 ^ 16) (h : Q (nI (pc m)) u) : wJ6_bitCount_0f7a4 (nI m) u Q := by
  obtain ⟨p, q, hp, hq, hpq, key⟩ := bc_all hm
  intro x1 e1 x2 e2 x3 e3 x4 e4 x5 e5
  have l1 : m / 2 &&& 1431655765 ≤ m := Nat.le_trans Nat.and_le_left (by omega)
  rw [pk_ushrN (by omega) 1 1 (by decide), show (1431655765 : Int32) = nI 1431655765 from rfl, nI_and, Nat.pow_one, pk_sub l1] at e1
  have b1 : m - (m / 2 &&& 1431655765) < 2 ^ 16 := by omega
  rw [e1, pk_ushrN (by omega) 2 2 (by decide), show (858993459 : Int32) = nI 858993459 from rfl, nI_and, nI_and, nI_add, show (2 : Nat) ^ 2 = 4 from rfl] at e2
  generalize m - (m / 2 &&& 1431655765) = y1 at *
  have b2 : (y1 &&& 858993459) + (y1 / 4 &&& 858993459) < 2 ^ 17 := by
    have := Nat.and_le_left (n := y1) (m := 858993459)
    have := Nat.and_le_left (n := y1 / 4) (m := 858993459)
    omega
  generalize (y1 &&& 858993459) + (y1 / 4 &&& 858993459) = y2 at *
  rw [e2, pk_ushrN (by omega) 4 4 (by decide), nI_add, show (252645135 : Int32) = nI 252645135 from rfl, nI_and, show (2 : Nat) ^ 4 = 16 from rfl] at e3
  have b3 : (y2 + y2 / 16) &&& 252645135 < 2 ^ 19 := Nat.lt_of_le_of_lt Nat.and_le_left (by omega)
  generalize (y2 + y2 / 16) &&& 252645135 = y3 at *
  rw [e3, pk_ushrN (by omega) 8 8 (by decide), nI_add, show (2 : Nat) ^ 8 = 256 from rfl] at e4
  rw [e4, pk_ushrN (by omega) 16 16 (by decide), nI_add, show (2 : Nat) ^ 16 = 65536 from rfl] at e5
  rw [e5, show (63 : Int32) = nI 63 from rfl, nI_and]
  have : (y3 + y3 / 256 + (y3 + y3 / 256) / 65536) &&& 63 = pc m := by
    have e5 : y3 + y3 / 256 + (y3 + y3 / 256) / 65536 = 256 * p + (p + q) := by
      have g1 : y3 / 256 = p := by omega
      have g2 : (y3 + p) / 65536 = 0 := Nat.div_eq_of_lt (by omega)
      rw [g1, g2]; omega
    have h2 := and256 (x := p) (y := p + q) (p := 0) (q := 63) (by omega) (by decide)
    simp only [Nat.and_zero, Nat.mul_zero, Nat.zero_add] at h2
    rw [e5, h2, bc_5 _ (by omega), hpq]
  rw [this]
  exact h
/-- the reference's bits() -/
theorem r_bitsL {m : Nat} {u : ST} {Q : Int32 → ST → Prop} (hm : m < 2 ^ 16) (h : Q (nI (pc m)) u) : ∀ (f c : Nat), 16 - c < f → c ≤ 16 → wX7_bits_L4 Q f (nI m) (nI (pcN c m)) (nI c) u := by
  intro f
  induction f with
  | zero => intro c h; omega
  | succ f ih =>
    intro c hf hc
    show wX7_bits_B4 (wX7_bits_L4 Q f) Q (nI m) (nI (pcN c m)) (nI c) u
    unfold wX7_bits_B4
    refine pk_le 16 c (fun hge => ?_) (fun hlt => ?_)
    · rw [show c = 16 by omega]; exact h
    · rw [nI_shb (by omega) (by omega), nI_add, nI_1]
      exact ih (c + 1) (by omega) (by omega)
theorem r_bits {m : Nat} {u : ST} {Q : Int32 → ST → Prop} (hm : m < 2 ^ 16) (h : Q (nI (pc m)) u) : wX7_bits (nI m) u Q := ⟨17, r_bitsL hm h 17 0 (by omega) (by omega)⟩
/-! RULES AND CASES -/
/-- X has all of y and nothing of n -/
def mb (y n X : Nat) : Bool := decide (X &&& y = y) && decide (X &&& n = 0)
theorem mb_iff {y n X : Nat} : mb y n X = true ↔ ∀ i, (y.testBit i = true → X.testBit i = true) ∧ (n.testBit i = true → X.testBit i = false) := by
  unfold mb
  rw [Bool.and_eq_true, decide_eq_true_eq, decide_eq_true_eq, andE, and0]
  constructor
  · intro h i
    refine ⟨h.1 i, fun hn => ?_⟩
    have := h.2 i
    cases hx : X.testBit i
    · rfl
    · exact absurd ⟨hx, hn⟩ this
  · intro h
    refine ⟨fun i => (h i).1, fun i hi => ?_⟩
    have := (h i).2 hi.2
    rw [hi.1] at this
    cases this
/-- rule r can meet where H holds and F fails -/
def can (H F : Nat) (r : Nat × Nat × Nat) : Bool := decide (r.2.1 &&& H = 0) && decide (r.1 &&& F = 0)
theorem can_iff {H F : Nat} {r : Nat × Nat × Nat} : can H F r = true ↔ ∀ i, ¬ (r.2.1.testBit i = true ∧ H.testBit i = true) ∧ ¬ (r.1.testBit i = true ∧ F.testBit i = true) := by
  unfold can
  rw [Bool.and_eq_true, decide_eq_true_eq, decide_eq_true_eq, and0, and0]
  exact ⟨fun h i => ⟨h.1 i, h.2 i⟩, fun h => ⟨fun i => (h i).1, fun i => (h i).2⟩⟩
theorem can_of {H F X : Nat} {r : Nat × Nat × Nat} (hx : mb H F X = true) (hr : mb r.1 r.2.1 X = true) : can H F r = true := by
  rw [mb_iff] at hx hr
  rw [can_iff]
  intro i
  refine ⟨fun h => ?_, fun h => ?_⟩
  · have a := (hr i).2 h.1
    have b := (hx i).1 h.2
    rw [a] at b; cases b
  · have a := (hr i).1 h.1
    have b := (hx i).2 h.2
    rw [a] at b; cases b
theorem or_bit (H c i : Nat) : (H ||| 2 ^ c).testBit i = (H.testBit i || decide (c = i)) := by rw [Nat.testBit_or, pw_bit]
theorem can_H {H F c : Nat} {r : Nat × Nat × Nat} : can (H ||| 2 ^ c) F r = (decide (r.2.1.testBit c = false) && can H F r) := by
  rw [Bool.eq_iff_iff, Bool.and_eq_true, can_iff, can_iff, decide_eq_true_eq]
  constructor
  · intro h
    refine ⟨?_, fun i => ⟨fun g => (h i).1 ⟨g.1, by rw [or_bit, g.2]; rfl⟩, (h i).2⟩⟩
    have := (h c).1
    rw [or_bit] at this
    simpa using this
  · intro h i
    refine ⟨fun g => ?_, (h.2 i).2⟩
    rw [or_bit] at g
    rcases (by simpa using g.2 : H.testBit i = true ∨ c = i) with e | e
    · exact (h.2 i).1 ⟨g.1, e⟩
    · rw [← e, h.1] at g; exact absurd g.1 (by decide)
theorem can_F {H F c : Nat} {r : Nat × Nat × Nat} : can H (F ||| 2 ^ c) r = (decide (r.1.testBit c = false) && can H F r) := by
  rw [Bool.eq_iff_iff, Bool.and_eq_true, can_iff, can_iff, decide_eq_true_eq]
  constructor
  · intro h
    refine ⟨?_, fun i => ⟨(h i).1, fun g => (h i).2 ⟨g.1, by rw [or_bit, g.2]; rfl⟩⟩⟩
    have := (h c).2
    rw [or_bit] at this
    simpa using this
  · intro h i
    refine ⟨(h.2 i).1, fun g => ?_⟩
    rw [or_bit] at g
    rcases (by simpa using g.2 : F.testBit i = true ∨ c = i) with e | e
    · exact (h.2 i).2 ⟨g.1, e⟩
    · rw [← e, h.1] at g; exact absurd g.1 (by decide)
/-- the open conditions -/
def opn (nc H F : Nat) : Nat := ndn (2 ^ nc - 1) (H ||| F)
theorem opn_bit {nc H F : Nat} (hn : nc ≤ 16) (i : Nat) : (opn nc H F).testBit i = (decide (i < nc) && !(H.testBit i || F.testBit i)) := by
  unfold opn
  rw [ndn_bit (by have : 2 ^ nc ≤ 2 ^ 16 := Nat.pow_le_pow_right (by decide) hn; omega), Nat.testBit_two_pow_sub_one, Nat.testBit_or]
theorem opn_lt {nc H F : Nat} : opn nc H F < 2 ^ nc := by
  unfold opn
  have : 1 ≤ 2 ^ nc := Nat.one_le_two_pow
  exact ndn_lt (by omega)
theorem p16 {nc : Nat} (hn : nc ≤ 16) : 2 ^ nc ≤ 2 ^ 16 := Nat.pow_le_pow_right (by decide) hn
theorem opn_lt16 {nc H F : Nat} (hn : nc ≤ 16) : opn nc H F < 2 ^ 16 := Nat.lt_of_lt_of_le opn_lt (p16 hn)
theorem opn_H {nc H F c : Nat} (hn : nc ≤ 16) : opn nc (H ||| 2 ^ c) F = ndn (opn nc H F) (2 ^ c) := by
  apply bitx
  intro i
  rw [ndn_bit (opn_lt16 hn), opn_bit hn, opn_bit hn, or_bit, pw_bit]
  cases decide (i < nc) <;> cases H.testBit i <;> cases F.testBit i <;> cases decide (c = i) <;> rfl
theorem opn_F {nc H F c : Nat} (hn : nc ≤ 16) : opn nc H (F ||| 2 ^ c) = ndn (opn nc H F) (2 ^ c) := by
  apply bitx
  intro i
  rw [ndn_bit (opn_lt16 hn), opn_bit hn, opn_bit hn, or_bit, pw_bit]
  cases decide (i < nc) <;> cases H.testBit i <;> cases F.testBit i <;> cases decide (c = i) <;> rfl
/-- a place: H holds, F fails, d conditions are tested -/
def plc (nc H F d : Nat) : Prop := H < 2 ^ nc ∧ F < 2 ^ nc ∧ (∀ i, ¬ (H.testBit i = true ∧ F.testBit i = true)) ∧ pc (opn nc H F) + d = nc
theorem plc_0 {nc : Nat} (hn : nc ≤ 16) : plc nc 0 0 0 := by
  refine ⟨Nat.two_pow_pos nc, Nat.two_pow_pos nc, fun i h => by simp at h, ?_⟩
  have : opn nc 0 0 = 2 ^ nc - 1 := by
    apply bitx; intro i; rw [opn_bit hn, Nat.testBit_two_pow_sub_one]; simp
  rw [this, pc_full nc hn]; omega
theorem opn_in {nc H F c : Nat} (hn : nc ≤ 16) (hc : (opn nc H F).testBit c = true) : c < nc ∧ H.testBit c = false ∧ F.testBit c = false := by
  rw [opn_bit hn] at hc
  simpa using hc
theorem plc_H {nc H F d c : Nat} (hn : nc ≤ 16) (h : plc nc H F d) (hc : (opn nc H F).testBit c = true) : plc nc (H ||| 2 ^ c) F (d + 1) := by
  have g := opn_in hn hc
  refine ⟨Nat.or_lt_two_pow h.1 (wb_lt2 g.1), h.2.1, fun i hi => ?_, ?_⟩
  · rw [or_bit] at hi
    rcases (by simpa using hi.1 : H.testBit i = true ∨ c = i) with e | e
    · exact h.2.2.1 i ⟨e, hi.2⟩
    · rw [← e, g.2.2] at hi; exact absurd hi.2 (by decide)
  · rw [opn_H hn]
    have := pc_clr (opn_lt16 hn) (by omega) hc
    have := h.2.2.2
    omega
theorem plc_F {nc H F d c : Nat} (hn : nc ≤ 16) (h : plc nc H F d) (hc : (opn nc H F).testBit c = true) : plc nc H (F ||| 2 ^ c) (d + 1) := by
  have g := opn_in hn hc
  refine ⟨h.1, Nat.or_lt_two_pow h.2.1 (wb_lt2 g.1), fun i hi => ?_, ?_⟩
  · rw [or_bit] at hi
    rcases (by simpa using hi.2 : F.testBit i = true ∨ c = i) with e | e
    · exact h.2.2.1 i ⟨hi.1, e⟩
    · rw [← e, g.2.1] at hi; exact absurd hi.1 (by decide)
  · rw [opn_F hn]
    have := pc_clr (opn_lt16 hn) (by omega) hc
    have := h.2.2.2
    omega
