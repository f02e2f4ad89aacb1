/-! THE LEAST GAP, AND HOW MANY CASES ARE MET -/
theorem mb_H {H F c X : Nat} : mb (H ||| 2 ^ c) F X = (X.testBit c && mb H F X) := by
  rw [Bool.eq_iff_iff, Bool.and_eq_true, mb_iff, mb_iff]
  constructor
  · intro h
    exact ⟨(h c).1 (by rw [or_bit]; simp), fun i => ⟨fun g => (h i).1 (by rw [or_bit, g]; rfl), (h i).2⟩⟩
  · intro h i
    refine ⟨fun g => ?_, (h.2 i).2⟩
    rw [or_bit] at g
    rcases (by simpa using g : H.testBit i = true ∨ c = i) with e | e
    · exact (h.2 i).1 e
    · rw [← e]; exact h.1
theorem mb_F {H F c X : Nat} : mb H (F ||| 2 ^ c) X = (!X.testBit c && mb H F X) := by
  rw [Bool.eq_iff_iff, Bool.and_eq_true, mb_iff, mb_iff]
  constructor
  · intro h
    refine ⟨?_, fun i => ⟨(h i).1, fun g => (h i).2 (by rw [or_bit, g]; rfl)⟩⟩
    rw [(h c).2 (by rw [or_bit]; simp)]; rfl
  · intro h i
    refine ⟨(h.2 i).1, fun g => ?_⟩
    rw [or_bit] at g
    rcases (by simpa using g : F.testBit i = true ∨ c = i) with e | e
    · exact (h.2 i).2 e
    · rw [← e]; simpa using h.1
theorem lt_bits {x y b : Nat} (hx : x.testBit b = false) (hy : y.testBit b = true) (h : ∀ j, b < j → x.testBit j = y.testBit j) : x < y := by
  have h1 : x / 2 ^ (b + 1) = y / 2 ^ (b + 1) := by
    apply bitx
    intro i
    rw [Nat.testBit_div_two_pow, Nat.testBit_div_two_pow]
    exact h _ (by omega)
  rw [Nat.testBit_eq_decide_div_mod_eq, decide_eq_false_iff_not] at hx
  rw [Nat.testBit_eq_decide_div_mod_eq, decide_eq_true_eq] at hy
  rw [Nat.pow_succ, ← Nat.div_div_eq_div_mul, ← Nat.div_div_eq_div_mul] at h1
  rcases Nat.lt_or_ge x y with g | g
  · exact g
  · have := Nat.div_le_div_right (c := 2 ^ b) g
    omega
/-- rules of nc conditions -/
def rN (nc : Nat) (RS : List RU) : Prop := ∀ r ∈ RS, r.1 < 2 ^ nc ∧ r.2.1 < 2 ^ nc
theorem rN.s16 {nc : Nat} {RS : List RU} (h : rN nc RS) (hn : nc ≤ 16) : r16 RS := fun r hr => ⟨Nat.lt_of_lt_of_le (h r hr).1 (p16 hn), Nat.lt_of_lt_of_le (h r hr).2 (p16 hn)⟩
def gapA (RS : List RU) (X : Nat) : Prop := ∀ x ∈ RS, mb x.1 x.2.1 X = false
def gapR (RS : List RU) (nc H F : Nat) (r : Int32) : Prop := (r = -1 ∧ ∀ X, X < 2 ^ nc → mb H F X = true → ¬ gapA RS X) ∨ ∃ X, X < 2 ^ nc ∧ mb H F X = true ∧ r = nI X ∧ gapA RS X ∧ ∀ X', X' < 2 ^ nc → mb H F X' = true → gapA RS X' → X ≤ X'
theorem gap_low {nc H F b X1 X : Nat} {RS : List RU} (hn : nc ≤ 16) (hb : (opn nc H F).testBit b = true) (hM : ∀ r ∈ RS.filter (can H F), ∀ i, b < i → ((r.1 ||| r.2.1) &&& opn nc H F).testBit i = false) (h1 : X1 < 2 ^ nc) (hc1 : mb H (F ||| 2 ^ b) X1 = true) (hg1 : gapA RS X1) (hmin : ∀ X', X' < 2 ^ nc → mb H (F ||| 2 ^ b) X' = true → gapA RS X' → X1 ≤ X') (hx : mb H F X = true) (hxb : X.testBit b = true) : X1 ≤ X := by
  have hin := opn_in hn hb
  have hf1 := hc1
  rw [mb_F, Bool.and_eq_true] at hf1
  have x1b : X1.testBit b = false := by simpa using hf1.1
  have hc1' := mb_iff.mp hf1.2
  have hx' := mb_iff.mp hx
  -- X1 has nothing open above b
  have hY : X1 ≤ X1 &&& (H ||| (2 ^ b - 1)) := by
    have yb : ∀ i, (X1 &&& (H ||| (2 ^ b - 1))).testBit i = (X1.testBit i && (H.testBit i || decide (i < b))) := fun i => by
      rw [Nat.testBit_and, Nat.testBit_or, Nat.testBit_two_pow_sub_one]
    have hYc : mb H (F ||| 2 ^ b) (X1 &&& (H ||| (2 ^ b - 1))) = true := by
      rw [mb_iff] at hc1 ⊢
      intro i
      rw [yb]
      refine ⟨fun g => by rw [(hc1 i).1 g, g]; rfl, fun g => by rw [(hc1 i).2 g]; rfl⟩
    refine hmin _ (Nat.lt_of_le_of_lt Nat.and_le_left h1) hYc (fun x hx => ?_)
    cases hmx : mb x.1 x.2.1 (X1 &&& (H ||| (2 ^ b - 1)))
    · rfl
    · exfalso
      have hYF : mb H F (X1 &&& (H ||| (2 ^ b - 1))) = true := by
        have := hYc; rw [mb_F, Bool.and_eq_true] at this; exact this.2
      have hcan := can_of hYF hmx
      have hmem : x ∈ RS.filter (can H F) := List.mem_filter.mpr ⟨hx, hcan⟩
      have hno := hg1 x hx
      have : mb x.1 x.2.1 X1 = true := by
        rw [mb_iff] at hmx ⊢
        intro i
        refine ⟨fun g => ?_, fun g => ?_⟩
        · have := (hmx i).1 g
          rw [yb] at this
          simp at this
          exact this.1
        · have h2 := (hmx i).2 g
          rw [yb] at h2
          cases hX : X1.testBit i
          · rfl
          · exfalso
            rw [hX] at h2
            simp at h2
            have hFi : F.testBit i = false := by
              cases hF : F.testBit i
              · rfl
              · have := (hc1' i).2 hF; rw [hX] at this; cases this
            have hib : b < i := by
              rcases Nat.lt_or_ge b i with q | q
              · exact q
              · have : i = b := by omega
                rw [this, x1b] at hX; cases hX
            have := hM x hmem i hib
            rw [Nat.testBit_and, Nat.testBit_or, opn_bit hn, g, h2.1, hFi] at this
            simp at this
            have := bit_lt h1 hX
            omega
      rw [this] at hno
      cases hno
  have e1 : X1 &&& (H ||| (2 ^ b - 1)) = X1 := Nat.le_antisymm Nat.and_le_left hY
  have top : ∀ i, b < i → X1.testBit i = H.testBit i := by
    intro i hi
    have := congrArg (fun z => Nat.testBit z i) e1
    simp only [Nat.testBit_and, Nat.testBit_or, Nat.testBit_two_pow_sub_one] at this
    cases hH : H.testBit i
    · rw [hH] at this
      simp [show ¬ i < b by omega] at this
      exact this
    · exact (hc1' i).1 hH
  have hlt : X1 < X &&& (H ||| (2 ^ (b + 1) - 1)) := by
    refine lt_bits x1b ?_ (fun j hj => ?_)
    · rw [Nat.testBit_and, Nat.testBit_or, Nat.testBit_two_pow_sub_one, hxb]; simp
    · rw [top j hj, Nat.testBit_and, Nat.testBit_or, Nat.testBit_two_pow_sub_one]
      cases hH : H.testBit j
      · simp [show ¬ j < b + 1 by omega]
      · rw [(hx' j).1 hH]; rfl
  exact Nat.le_of_lt (Nat.lt_of_lt_of_le hlt Nat.and_le_left)
theorem w_gap {RS : List RU} {nc : Nat} (hn : nc ≤ 16) (hRN : rN nc RS) : ∀ (dd d H F : Nat) (u : ST) (Q : Int32 → ST → Prop), 17 - d ≤ dd → d ≤ 16 → plc nc H F d → wRul u RS → wLst u RS d (RS.filter (can H F)) → (∀ v r, wFr d u v → gapR RS nc H F r → Q r v) → wX5_leastGapFrom dd (nI d) (nI (opn nc H F)) (nI H) u Q := by
  intro dd
  induction dd with
  | zero => intro d H F u Q h1 h2; omega
  | succ dd ih =>
    intro d H F u Q hdd hd hp hR hL hQ
    show wX5_leastGapFrom_E (wX5_leastGapFrom dd) (nI d) (nI (opn nc H F)) (nI H) u Q
    unfold wX5_leastGapFrom_E
    have h256 := hL.2.1
    have h16 := hRN.s16 hn
    rw [cl_nI (by omega), hL.1]
    refine ⟨vp_in_nI (by omega) (by omega), ?_⟩
    rw [nI_is0 (by omega)]
    refine ⟨fun hne => ?_, fun he => ?_⟩
    · have hM : RS.filter (can H F) ≠ [] := fun e => hne (by rw [e]; rfl)
      refine w_sb hd h16 hR hL hM (opn_lt16 hn) (fun hx => ⟨fun _ => ?_, fun c => absurd rfl c⟩) (fun b hb hbo hbM => ⟨fun c => absurd c ?_, fun _ => ?_⟩)
      · obtain ⟨r, hr, hro⟩ := hx
        have hrm := List.mem_filter.mp hr
        refine hQ u _ (wFr.rf d u) (Or.inl ⟨rfl, fun X _ hX hg => ?_⟩)
        have := met_all hn (hRN r hrm.1) hrm.2 hro hX
        rw [hg r hrm.1] at this
        cases this
      · rw [nI_is0 (by have := pw16 hb; omega)]
        have := Nat.two_pow_pos b
        omega
      · have hd16 : d < 16 := by
          have := pc_clr (opn_lt16 hn) (by have := (opn_in hn hbo).1; omega) hbo
          have := hp.2.2.2
          omega
        refine ⟨fun _ => ?_, fun c => absurd (by rw [show (16 : Int32) = nI 16 from rfl, n_lt (by omega) (by omega)]; exact hd16) c⟩
        rw [nI_ndn (opn_lt16 hn) (pw16 hb), nI_1, nI_or]
        refine w_step0 hd16 h16 hR hL (fun v hv hLv => ?_)
        rw [flt_F] at hLv
        rw [← opn_F hn]
        have hgo : ∀ (w : ST), wFr d u w → (∀ X, X < 2 ^ nc → mb H (F ||| 2 ^ b) X = true → ¬ gapA RS X) → wX5_step (nI d) (nI (2 ^ b)) 1 w (fun u_8 => wX5_leastGapFrom dd (nI (d + 1)) (nI (opn nc H (F ||| 2 ^ b))) (nI (H ||| 2 ^ b)) u_8 (fun r_9 u_10 => Q r_9 u_10)) := by
          intro w hw hall
          refine w_step1 hd16 h16 (hR.fr hw) (hL.fr hw (Nat.le_refl d)) (fun y hy hLy => ?_)
          rw [flt_H] at hLy
          rw [opn_F hn, ← opn_H hn]
          refine ih (d + 1) (H ||| 2 ^ b) F y Q (by omega) (by omega) (plc_H hn hp hbo) ((hR.fr hw).fr hy) hLy (fun z r hz hgr => ?_)
          refine hQ z r ((hw.tr hy).tr (hz.up (by omega))) ?_
          rcases hgr with ⟨e, ha⟩ | ⟨X, hX, hXc, hXr, hXg, hXm⟩
          · refine Or.inl ⟨e, fun X hX hXc => ?_⟩
            cases hxb : X.testBit b
            · exact hall X hX (by rw [mb_F, hxb, hXc]; rfl)
            · exact ha X hX (by rw [mb_H, hxb, hXc]; rfl)
          · refine Or.inr ⟨X, hX, ?_, hXr, hXg, fun X' hX' hXc' hg' => ?_⟩
            · rw [mb_H, Bool.and_eq_true] at hXc; exact hXc.2
            · cases hxb : X'.testBit b
              · exact absurd hg' (hall X' hX' (by rw [mb_F, hxb, hXc']; rfl))
              · exact hXm X' hX' (by rw [mb_H, hxb, hXc']; rfl) hg'
        refine ih (d + 1) H (F ||| 2 ^ b) v _ (by omega) (by omega) (plc_F hn hp hbo) (hR.fr hv) hLv (fun w r hw hgr => ?_)
        have hFw : wFr d u w := hv.tr (hw.up (by omega))
        rcases hgr with ⟨e, ha⟩ | ⟨X, hX, hXc, hXr, hXg, hXm⟩
        · exact ⟨fun _ => hgo w hFw ha, fun c => absurd e c⟩
        · refine ⟨fun c => absurd c.symm (by rw [hXr]; exact m1_ne X (by have := p16 hn; omega)), fun _ => hQ w r hFw (Or.inr ⟨X, hX, ?_, hXr, hXg, fun X' hX' hXc' hg' => ?_⟩)⟩
          · rw [mb_F, Bool.and_eq_true] at hXc; exact hXc.2
          · cases hxb : X'.testBit b
            · exact hXm X' hX' (by rw [mb_F, hxb, hXc']; rfl) hg'
            · exact gap_low hn hbo hbM hX hXc hXg hXm hXc' hxb
    · have hM : RS.filter (can H F) = [] := List.eq_nil_of_length_eq_zero he
      refine hQ u _ (wFr.rf d u) (Or.inr ⟨H, hp.1, ?_, rfl, fun x hx => ?_, fun X' _ hXc _ => ?_⟩)
      · rw [mb_iff]
        intro i
        refine ⟨fun g => g, fun g => ?_⟩
        cases hH : H.testBit i
        · rfl
        · exact absurd ⟨hH, g⟩ (hp.2.2.1 i)
      · cases hmx : mb x.1 x.2.1 H
        · rfl
        · exfalso
          have hHF : mb H F H = true := by
            rw [mb_iff]
            intro i
            refine ⟨fun g => g, fun g => ?_⟩
            cases hH : H.testBit i
            · rfl
            · exact absurd ⟨hH, g⟩ (hp.2.2.1 i)
          have : x ∈ RS.filter (can H F) := List.mem_filter.mpr ⟨hx, can_of hHF hmx⟩
          rw [hM] at this
          cases this
      · have : X' &&& H = H := andE.mpr (fun i hi => (mb_iff.mp hXc i).1 hi)
        rw [← this]
        exact Nat.and_le_left
/-! counting -/
theorem cnt_add {p p1 p2 : Nat → Bool} (h : ∀ X, (if p X = true then 1 else 0) = (if p1 X = true then 1 else 0) + (if p2 X = true then 1 else 0)) (l : List Nat) : l.countP p = l.countP p1 + l.countP p2 := by
  induction l with
  | nil => rfl
  | cons a l ih =>
    rw [List.countP_cons, List.countP_cons, List.countP_cons, ih, h a]
    omega
theorem cnt_eq {p q : Nat → Bool} {n : Nat} (h : ∀ X, X < n → p X = q X) : (List.range n).countP p = (List.range n).countP q := by
  rw [List.countP_eq_length_filter, List.countP_eq_length_filter]
  congr 1
  refine List.filter_congr (fun x hx => h x (List.mem_range.mp hx))
theorem cnt_one {a : Nat} : ∀ n, (List.range n).countP (fun X => decide (X = a)) = if a < n then 1 else 0 := by
  intro n
  induction n with
  | zero => rfl
  | succ n ih =>
    rw [List.range_succ, List.countP_append, ih]
    by_cases h : n = a
    · simp [h]
    · by_cases h2 : a < n
      · simp [h, h2, show a < n + 1 by omega]
      · simp [h, h2, show ¬ a < n + 1 by omega]
/-- how many cases lie here -/
theorem cnt_cube {nc : Nat} (hn : nc ≤ 16) : ∀ (k H F d : Nat), pc (opn nc H F) = k → plc nc H F d → (List.range (2 ^ nc)).countP (mb H F) = 2 ^ k := by
  intro k
  induction k with
  | zero =>
    intro H F d hk hp
    have ho := pc_0 (opn_lt16 hn) hk
    have : (List.range (2 ^ nc)).countP (mb H F) = (List.range (2 ^ nc)).countP (fun X => decide (X = H)) := by
      refine cnt_eq (fun X hX => ?_)
      rw [Bool.eq_iff_iff, mb_iff, decide_eq_true_eq]
      constructor
      · intro h
        apply bitx
        intro i
        have hoi : (opn nc H F).testBit i = false := by rw [ho]; simp
        rw [opn_bit hn] at hoi
        cases hH : H.testBit i
        · cases hF : F.testBit i
          · rw [hH, hF] at hoi
            simp at hoi
            exact bit_hi hX hoi
          · exact (h i).2 hF
        · exact (h i).1 hH
      · intro h i
        rw [h]
        refine ⟨fun g => g, fun g => ?_⟩
        cases hH : H.testBit i
        · rfl
        · exact absurd ⟨hH, g⟩ (hp.2.2.1 i)
    rw [this, cnt_one, if_pos hp.1]
  | succ k ih =>
    intro H F d hk hp
    obtain ⟨b, hb⟩ : ∃ b, (opn nc H F).testBit b = true := by
      apply Classical.byContradiction
      intro hno
      have : opn nc H F = 0 := by
        apply bitx
        intro i
        rw [Nat.zero_testBit]
        cases h : (opn nc H F).testBit i
        · rfl
        · exact absurd ⟨i, h⟩ hno
      rw [this, show pc 0 = 0 from by decide] at hk
      omega
    have hb16 : b < 16 := by have := (opn_in hn hb).1; omega
    have hc := pc_clr (opn_lt16 hn) hb16 hb
    rw [cnt_add (p1 := mb (H ||| 2 ^ b) F) (p2 := mb H (F ||| 2 ^ b)) (fun X => ?_), ih _ _ (d + 1) ?_ (plc_H hn hp hb), ih _ _ (d + 1) ?_ (plc_F hn hp hb), Nat.pow_succ]
    · omega
    · rw [opn_F hn]; omega
    · rw [opn_H hn]; omega
    · rw [mb_H, mb_F]
      cases X.testBit b <;> cases mb H F X <;> rfl
/-- how many cases here are met -/
def cntM (RS : List RU) (nc H F : Nat) : Nat := (List.range (2 ^ nc)).countP (fun X => mb H F X && RS.any (fun x => mb x.1 x.2.1 X))
theorem cntM_le (RS : List RU) (nc H F : Nat) : cntM RS nc H F ≤ 2 ^ nc := by
  have := List.countP_le_length (p := fun X => mb H F X && RS.any (fun x => mb x.1 x.2.1 X)) (l := List.range (2 ^ nc))
  rw [List.length_range] at this
  exact this
theorem w_cnt {RS : List RU} {nc : Nat} (hn : nc ≤ 16) (hRN : rN nc RS) : ∀ (dd d H F : Nat) (u : ST) (Q : Int32 → ST → Prop), 17 - d ≤ dd → d ≤ 16 → plc nc H F d → wRul u RS → wLst u RS d (RS.filter (can H F)) → (∀ v, wFr d u v → Q (nI (cntM RS nc H F)) v) → wX5_casesMetFrom dd (nI d) (nI (opn nc H F)) u Q := by
  intro dd
  induction dd with
  | zero => intro d H F u Q h1 h2; omega
  | succ dd ih =>
    intro d H F u Q hdd hd hp hR hL hQ
    show wX5_casesMetFrom_E (wX5_casesMetFrom dd) (nI d) (nI (opn nc H F)) u Q
    unfold wX5_casesMetFrom_E
    have h256 := hL.2.1
    have h16 := hRN.s16 hn
    rw [cl_nI (by omega), hL.1]
    refine ⟨vp_in_nI (by omega) (by omega), ?_⟩
    rw [nI_is0 (by omega)]
    refine ⟨fun hne => ?_, fun he => ?_⟩
    · have hM : RS.filter (can H F) ≠ [] := fun e => hne (by rw [e]; rfl)
      refine w_sb hd h16 hR hL hM (opn_lt16 hn) (fun hx => ⟨fun _ => ?_, fun c => absurd rfl c⟩) (fun b hb hbo hbM => ⟨fun c => absurd c ?_, fun _ => ?_⟩)
      · obtain ⟨r, hr, hro⟩ := hx
        have hrm := List.mem_filter.mp hr
        unfold wX5_casesMetFrom_b28
        have hpc : pc (opn nc H F) ≤ 16 := pc_le _
        refine s_bc (opn_lt16 hn) ?_
        rw [nI_pow (by omega)]
        have : cntM RS nc H F = 2 ^ pc (opn nc H F) := by
          rw [← cnt_cube hn _ H F d rfl hp]
          unfold cntM
          refine cnt_eq (fun X hX => ?_)
          cases hm : mb H F X
          · rfl
          · have := met_all hn (hRN r hrm.1) hrm.2 hro hm
            rw [Bool.true_and, List.any_eq_true]
            exact ⟨r, hrm.1, this⟩
        rw [← this]
        exact hQ u (wFr.rf d u)
      · rw [nI_is0 (by have := pw16 hb; omega)]
        have := Nat.two_pow_pos b
        omega
      · have hd16 : d < 16 := by
          have := pc_clr (opn_lt16 hn) (by have := (opn_in hn hbo).1; omega) hbo
          have := hp.2.2.2
          omega
        refine ⟨fun _ => ?_, fun c => absurd (by rw [show (16 : Int32) = nI 16 from rfl, n_lt (by omega) (by omega)]; exact hd16) c⟩
        rw [nI_ndn (opn_lt16 hn) (pw16 hb), nI_1]
        refine w_step1 hd16 h16 hR hL (fun v hv hLv => ?_)
        rw [flt_H] at hLv
        have goH := ih (d + 1) (H ||| 2 ^ b) F v (fun r_5 u_6 => wX5_step (nI d) (nI (2 ^ b)) 0 u_6 (fun u_8 => wX5_casesMetFrom dd (nI (d + 1)) (nI (ndn (opn nc H F) (2 ^ b))) u_8 (fun r_9 u_10 => Q (r_5 + r_9) u_10))) (by omega) (by omega) (plc_H hn hp hbo) (hR.fr hv) hLv (fun w hw => ?_)
        · rw [opn_H hn] at goH
          exact goH
        · have hFw : wFr d u w := hv.tr (hw.up (by omega))
          refine w_step0 hd16 h16 (hR.fr hFw) (hL.fr hFw (Nat.le_refl d)) (fun y hy hLy => ?_)
          rw [flt_F] at hLy
          rw [← opn_F hn]
          refine ih (d + 1) H (F ||| 2 ^ b) y _ (by omega) (by omega) (plc_F hn hp hbo) ((hR.fr hFw).fr hy) hLy (fun z hz => ?_)
          have : cntM RS nc H F = cntM RS nc (H ||| 2 ^ b) F + cntM RS nc H (F ||| 2 ^ b) := by
            unfold cntM
            refine cnt_add (fun X => ?_) _
            rw [mb_H, mb_F]
            cases X.testBit b <;> cases mb H F X <;> cases RS.any (fun x => mb x.1 x.2.1 X) <;> rfl
          rw [nI_add, ← this]
          exact hQ z ((hFw.tr hy).tr (hz.up (by omega)))
    · have hM : RS.filter (can H F) = [] := List.eq_nil_of_length_eq_zero he
      have : cntM RS nc H F = 0 := by
        unfold cntM
        rw [List.countP_eq_zero]
        intro X hX hc
        rw [Bool.and_eq_true, List.any_eq_true] at hc
        obtain ⟨x, hx, hxm⟩ := hc.2
        have : x ∈ RS.filter (can H F) := List.mem_filter.mpr ⟨hx, can_of hc.1 hxm⟩
        rw [hM] at this
        cases this
      have h := hQ u (wFr.rf d u)
      rw [this] at h
      exact h
