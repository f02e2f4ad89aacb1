/-! NUMBERS -/
theorem n_lt {a b : Nat} (ha : a < 2 ^ 31) (hb : b < 2 ^ 31) : (nI a < nI b) = (a < b) := propext (nI_ltI ha hb)
theorem n_le {a b : Nat} (ha : a < 2 ^ 31) (hb : b < 2 ^ 31) : (nI a ≤ nI b) = (a ≤ b) := propext (nI_leI ha hb)
theorem n_eq {a b : Nat} (ha : a < 2 ^ 31) (hb : b < 2 ^ 31) : (nI a = nI b) = (a = b) := propext (nI_eq ha hb)
theorem nI_m1 {k : Nat} (h : 0 < k) : nI k + (-1) = nI (k - 1) := by
  obtain ⟨j, rfl⟩ : ∃ j, k = j + 1 := ⟨k - 1, by omega⟩
  exact pk_m1 j
theorem m1_lt : ((-1 : Int32) < 0) := by decide
theorem nI_andm (m k : Nat) {M : Int32} (hk : k ≤ 32) (hm : M.toBitVec.toNat = 2 ^ k - 1) : nI m &&& M = nI (m % 2 ^ k) := by
  rw [pk_and (nI m) k hm]
  congr 1
  show (BitVec.ofNat 32 m).toNat % 2 ^ k = _
  rw [BitVec.toNat_ofNat, Nat.mod_mod_of_dvd _ (Nat.pow_dvd_pow 2 hk)]
theorem nI_shr3 {m : Nat} (h : m < 2 ^ 31) : nI m >>> (3 &&& 31) = nI (m / 8) := pk_shrN h (3 &&& 31) 3 (by decide)
theorem cl_nI {m : Nat} (h : m < 2 ^ 31) : (nI m).toNatClampNeg = m := nI_clamp h
/-! BYTES OF A LONG -/
/-- byte k of a number, from below -/
def byt (w : Nat) (k : Nat) : Nat := w / 2 ^ (8 * k) % 256
theorem byt_lt (w k : Nat) : byt w k < 256 := Nat.mod_lt _ (by decide)
theorem byt_bit (w k i : Nat) : (byt w k).testBit i = (decide (i < 8) && w.testBit (8 * k + i)) := by
  unfold byt
  rw [show (256 : Nat) = 2 ^ 8 from rfl, Nat.testBit_mod_two_pow, Nat.testBit_div_two_pow]
  congr 2
  omega
theorem bitx {a b : Nat} (h : ∀ i, a.testBit i = b.testBit i) : a = b := Nat.eq_of_testBit_eq h
/-- the class's byte of a number -/
theorem b_cls {y : Nat} (hy : y < 2 ^ 64) {k : Nat} (hk : k < 8) : ((((lN y : Int64).toUInt64 >>> ((8 * nI k : Int32).toInt64.toUInt64 &&& Int64.toUInt64 63)).toInt64 : Int64).toInt32) &&& 255 = nI (byt y k) := by
  rw [show (8 : Int32) = nI 8 from rfl, pk_mul, wb_shr hy (by omega), lN_i, nI_andm _ 8 (by decide) (by decide)]
  rfl
theorem sb_mod (m : Nat) : (nI m).toInt8.toInt32 = (nI (m % 256)).toInt8.toInt32 := by
  have h : (nI m).toInt8 = (nI (m % 256)).toInt8 := by
    apply Int8.toBitVec_inj.mp
    rw [Int32.toBitVec_toInt8, Int32.toBitVec_toInt8, BitVec.signExtend_eq_setWidth_of_le _ (by decide), BitVec.signExtend_eq_setWidth_of_le _ (by decide)]
    show BitVec.setWidth 8 (BitVec.ofNat 32 m) = BitVec.setWidth 8 (BitVec.ofNat 32 (m % 256))
    apply BitVec.eq_of_toNat_eq
    simp only [BitVec.toNat_setWidth, BitVec.toNat_ofNat]
    omega
  rw [h]
/-- the reference's byte of a number -/
theorem b_ref {y : Nat} (hy : y < 2 ^ 64) {k : Nat} (hk : k < 8) : ((((lN y : Int64) >>> ((8 * nI k : Int32).toInt64 &&& 63) : Int64).toInt32 : Int32).toInt8.toInt32 : Int32).toInt8.toInt32 = sb_b (byt y k) := by
  rw [show (8 : Int32) = nI 8 from rfl, pk_mul, wb_c _ (by omega)]
  unfold sb_b
  have e1 : (((lN y : Int64) >>> lN (8 * k) : Int64).toInt32 : Int32).toInt8 = (nI (byt y k)).toInt8 := by
    apply Int8.toBitVec_inj.mp
    rw [Int32.toBitVec_toInt8, Int32.toBitVec_toInt8, BitVec.signExtend_eq_setWidth_of_le _ (by decide), BitVec.signExtend_eq_setWidth_of_le _ (by decide), Int64.toBitVec_toInt32, BitVec.signExtend_eq_setWidth_of_le _ (by decide)]
    show BitVec.setWidth 8 (BitVec.setWidth 32 ((lN y) >>> lN (8 * k)).toBitVec) = BitVec.setWidth 8 (BitVec.ofNat 32 (byt y k))
    rw [Int64.toBitVec_shiftRight, wb_tb, wb_tb, wb_sm _ (by omega)]
    apply BitVec.eq_of_getLsbD_eq
    intro i hi
    simp only [BitVec.getLsbD_setWidth, BitVec.getLsbD_ofNat, byt_bit]
    rw [BitVec.sshiftRight_eq', BitVec.getLsbD_sshiftRight, BitVec.toNat_ofNat, Nat.mod_eq_of_lt (show 8 * k < 2 ^ 64 by omega), BitVec.getLsbD_ofNat]
    simp [hi, show i < 32 by omega, show ¬ 64 ≤ i by omega, show 8 * k + i < 64 by omega]
  rw [e1]
  simp
/-! THE TAPE: bytes tb 0 .. n-1 in both -/
def cByte (u : ST) (i : Nat) : Nat := byt (gB u 0 (i / 8)).toBitVec.toNat (i % 8)
def cTape (u : ST) (tb : Nat → Nat) (n : Nat) : Prop := gI u 5 = nI n ∧ ∀ i, i < n → cByte u i = tb i
def mTape (u : ST) (tb : Nat → Nat) (n : Nat) : Prop := gI u 2 = nI n ∧ ∀ i, i < n → gR u 1 i = sb_b (tb i)
def tApp (tb : Nat → Nat) (n : Nat) (b : Nat) : Nat → Nat := fun i => if i = n then b else tb i
theorem app_bits {w b r : Nat} (hw : w < 2 ^ 64) (hb : b < 256) (hr : r < 8) : (lN w &&& ((lN 255 <<< ((nI (8 * r)).toInt64 &&& 63)) ^^^ (-1))) ||| (lN b <<< ((nI (8 * r)).toInt64 &&& 63)) = lN ((w &&& (2 ^ 64 - 1 - 255 * 2 ^ (8 * r))) ||| b * 2 ^ (8 * r)) := by
  have p1 : 256 * 2 ^ (8 * r) ≤ 2 ^ 64 := by
    rw [show (256 : Nat) = 2 ^ 8 from rfl, ← Nat.pow_add]; exact Nat.pow_le_pow_right (by decide) (by omega)
  have p2 : 1 ≤ 2 ^ (8 * r) := Nat.one_le_two_pow
  have hx : lN (255 * 2 ^ (8 * r)) ^^^ (-1) = lN (2 ^ 64 - 1 - 255 * 2 ^ (8 * r)) := by
    apply wb_inj
    rw [Int64.toBitVec_xor, wb_tb, wb_tb]
    apply BitVec.eq_of_toNat_eq
    show (BitVec.ofNat 64 (255 * 2 ^ (8 * r)) ^^^ BitVec.allOnes 64).toNat = _
    rw [BitVec.xor_allOnes, BitVec.toNat_not, BitVec.toNat_ofNat, BitVec.toNat_ofNat, Nat.mod_eq_of_lt (by omega), Nat.mod_eq_of_lt (by omega)]
  rw [wb_shl _ (by omega), wb_shl _ (by omega), hx, wb_and hw (by omega), wb_or (Nat.and_lt_two_pow _ (by omega)) (by have : b * 2 ^ (8 * r) < 256 * 2 ^ (8 * r) := Nat.mul_lt_mul_of_pos_right hb (by omega); omega)]
theorem app_byte {w b r q : Nat} (hw : w < 2 ^ 64) (hb : b < 256) (hr : r < 8) (hq : q < 8) : byt ((w &&& (2 ^ 64 - 1 - 255 * 2 ^ (8 * r))) ||| b * 2 ^ (8 * r)) q = if q = r then b else byt w q := by
  have p1 : 256 * 2 ^ (8 * r) ≤ 2 ^ 64 := by
    rw [show (256 : Nat) = 2 ^ 8 from rfl, ← Nat.pow_add]; exact Nat.pow_le_pow_right (by decide) (by omega)
  have p2 : 1 ≤ 2 ^ (8 * r) := Nat.one_le_two_pow
  have hm : ∀ j, (255 * 2 ^ (8 * r)).testBit j = (decide (8 * r ≤ j) && decide (j - 8 * r < 8)) := fun j => by
    rw [← Nat.shiftLeft_eq, Nat.testBit_shiftLeft, show (255 : Nat) = 2 ^ 8 - 1 from rfl, Nat.testBit_two_pow_sub_one]
  apply bitx
  intro i
  by_cases hi : i < 8
  · rw [byt_bit]
    have hc : (2 ^ 64 - 1 - 255 * 2 ^ (8 * r)).testBit (8 * q + i) = !(255 * 2 ^ (8 * r)).testBit (8 * q + i) := by
      rw [show 2 ^ 64 - 1 - 255 * 2 ^ (8 * r) = 2 ^ 64 - (255 * 2 ^ (8 * r) + 1) by omega, Nat.testBit_two_pow_sub_succ (by omega)]
      simp [show 8 * q + i < 64 by omega]
    have hbl : b = b % 2 ^ 8 := (Nat.mod_eq_of_lt hb).symm
    rw [Nat.testBit_or, Nat.testBit_and, hc, hm, ← Nat.shiftLeft_eq, Nat.testBit_shiftLeft]
    by_cases hqr : q = r
    · subst hqr
      simp [hi, show 8 * q + i - 8 * q = i by omega]
    · rw [if_neg hqr, byt_bit]
      rcases Nat.lt_or_gt_of_ne hqr with h | h
      · simp [hi, show ¬ 8 * r ≤ 8 * q + i by omega]
      · have hb0 : b.testBit (8 * q + i - 8 * r) = false := by
          rw [hbl, Nat.testBit_mod_two_pow]; simp [show ¬ 8 * q + i - 8 * r < 8 by omega]
        simp [hi, hb0, show ¬ 8 * q + i - 8 * r < 8 by omega]
  · rw [byt_bit]
    simp only [hi, decide_false, Bool.false_and]
    split
    · rw [show b = b % 2 ^ 8 from (Nat.mod_eq_of_lt hb).symm, Nat.testBit_mod_two_pow]; simp [hi]
    · rw [byt_bit]; simp [hi]

/-! TYPE, KEEP -/
theorem cW64 (x : Int64) : x = lN x.toBitVec.toNat ∧ x.toBitVec.toNat < 2 ^ 64 := ⟨wb_inj (by rw [wb_tb]; simp), x.toBitVec.isLt⟩
theorem up_s (f : Nat → Int64) (k : Nat) (x : Int64) : vp_updL f k x k = x := pk_uLs
/-- Tape.append -/
theorem s_append {u : ST} {tb : Nat → Nat} {n b : Nat} {Q : ST → Prop} (h : cTape u tb n) (hn : n < 8000) (hb : b < 256) (hQ : ∀ u', cTape u' (tApp tb n b) (n + 1) → (∃ i v, u' = sI (sB u 0 i v) 5 (nI (n + 1))) → Q u') : wX3_append (nI b) u Q := by
  obtain ⟨h1, h2⟩ := h
  unfold wX3_append
  rw [h1, nI_shr3 (by omega)]
  refine ⟨vp_in_nI (by omega) (by omega), ?_⟩
  intro x3 e3
  refine ⟨vp_in_nI (by omega) (by omega), ?_⟩
  rw [cl_nI (by omega)] at e3 ⊢
  obtain ⟨hw, hw2⟩ := cW64 (gB u 0 (n / 8))
  have e7 : (8 : Int32) * (nI n &&& 7) = nI (8 * (n % 8)) := by
    rw [nI_andm n 3 (by decide) (by decide), show (8 : Int32) = nI 8 from rfl, pk_mul]
  rw [gI_sB, h1, nI_1]
  have ev : x3 ||| (((nI b : Int32).toInt64 : Int64) <<< ((8 * (nI n &&& 7) : Int32).toInt64 &&& 63)) = lN (((gB u 0 (n / 8)).toBitVec.toNat &&& (2 ^ 64 - 1 - 255 * 2 ^ (8 * (n % 8)))) ||| b * 2 ^ (8 * (n % 8))) := by
    rw [e3, e7, nI_l (n := b) (by omega), show (255 : Int64) = lN 255 from rfl, ← app_bits hw2 hb (Nat.mod_lt n (by decide)), ← hw]
  rw [ev]
  have hlt : ((gB u 0 (n / 8)).toBitVec.toNat &&& (2 ^ 64 - 1 - 255 * 2 ^ (8 * (n % 8)))) ||| b * 2 ^ (8 * (n % 8)) < 2 ^ 64 := by
    have p1 : 256 * 2 ^ (8 * (n % 8)) ≤ 2 ^ 64 := by
      rw [show (256 : Nat) = 2 ^ 8 from rfl, ← Nat.pow_add]; exact Nat.pow_le_pow_right (by decide) (by omega)
    refine Nat.or_lt_two_pow (Nat.and_lt_two_pow _ (by omega)) ?_
    have : b * 2 ^ (8 * (n % 8)) < 256 * 2 ^ (8 * (n % 8)) := Nat.mul_lt_mul_of_pos_right hb (by have := Nat.one_le_two_pow (n := 8 * (n % 8)); omega)
    omega
  refine hQ _ ⟨?_, fun i hi => ?_⟩ ⟨_, _, rfl⟩
  · rw [gI_sI, if_pos rfl]
  · unfold cByte tApp
    rw [gB_sI, gB_sB, if_pos rfl]
    unfold vp_updL
    by_cases hi8 : i / 8 = n / 8
    · rw [if_pos hi8, wb_tn hlt, app_byte hw2 hb (Nat.mod_lt _ (by decide)) (Nat.mod_lt _ (by decide))]
      by_cases hin : i = n
      · subst hin
        rw [if_pos rfl, if_pos rfl]
      · rw [if_neg hin, if_neg (by omega), ← h2 i (by omega)]
        unfold cByte
        rw [hi8]
    · rw [if_neg hi8, if_neg (fun e => hi8 (by rw [e])), ← h2 i (by omega)]
      rfl
