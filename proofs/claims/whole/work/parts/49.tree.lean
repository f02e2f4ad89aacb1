/-! THE TREE, as the list of its nodes in order: (head, depth, how far on the node where the condition fails is; 0: a leaf) -/
noncomputable def tl (rs : List RU) (nc : Nat) : Nat → Nat → Nat → Nat → List RU
  | 0, _, _, _ => []
  | g + 1, H, F, d => if oneA (rs.filter (can H F)) = -1 then (match bst (opn nc H F) (rs.filter (can H F)) nc with
      | none => []
      | some c => (c, d, (tl rs nc g (H ||| 2 ^ c) F (d + 1)).length + 1) :: (tl rs nc g (H ||| 2 ^ c) F (d + 1) ++ tl rs nc g H (F ||| 2 ^ c) (d + 1))) else [(128 + (oneA (rs.filter (can H F))).toNatClampNeg, d, 0)]
/-- a sound table -/
def snd (rs : List RU) (nc : Nat) : Prop := noC rs ∧ ∀ X, X < 2 ^ nc → ¬ gapA rs X
theorem plc_self {nc H F d : Nat} (hp : plc nc H F d) : mb H F H = true := by
  rw [mb_iff]
  intro i
  refine ⟨fun g => g, fun g => ?_⟩
  cases hH : H.testBit i
  · rfl
  · exact absurd ⟨hH, g⟩ (hp.2.2.1 i)
theorem snd_ne {rs : List RU} {nc H F d : Nat} (hs : snd rs nc) (hp : plc nc H F d) : rs.filter (can H F) ≠ [] := by
  intro e
  refine hs.2 H hp.1 (fun x hx => ?_)
  cases hm : mb x.1 x.2.1 H
  · rfl
  · have : x ∈ rs.filter (can H F) := List.mem_filter.mpr ⟨hx, can_of (plc_self hp) hm⟩
    rw [e] at this
    cases this
theorem ctd_met {a b : RU} {X : Nat} (ha : mb a.1 a.2.1 X = true) (hb : mb b.1 b.2.1 X = true) (h : a.2.2 ≠ b.2.2) : ctd a b = true := by
  rw [mb_iff] at ha hb
  unfold ctd
  have e1 : a.1 &&& b.2.1 = 0 := and0.mpr (fun i hi => by have := (ha i).1 hi.1; have q := (hb i).2 hi.2; rw [q] at this; cases this)
  have e2 : a.2.1 &&& b.1 = 0 := and0.mpr (fun i hi => by have := (hb i).1 hi.2; have q := (ha i).2 hi.1; rw [q] at this; cases this)
  simp [h, e1, e2]
theorem noC_met {rs : List RU} {a b : RU} {X : Nat} (hn : noC rs) (ham : a ∈ rs) (hbm : b ∈ rs) (ha : mb a.1 a.2.1 X = true) (hb : mb b.1 b.2.1 X = true) : a.2.2 = b.2.2 := by
  apply Classical.byContradiction
  intro h
  obtain ⟨i, hi⟩ := List.mem_iff_getElem?.mp ham
  obtain ⟨j, hj⟩ := List.mem_iff_getElem?.mp hbm
  rcases Nat.lt_trichotomy i j with g | g | g
  · exact hn i j g ⟨a, b, hi, hj, ctd_met ha hb h⟩
  · subst g
    rw [hi] at hj
    exact h (by rw [Option.some.inj hj])
  · exact hn j i g ⟨b, a, hj, hi, ctd_met hb ha (fun e => h e.symm)⟩
theorem tl_step {rs : List RU} {nc g H F d : Nat} (hn : nc ≤ 16) (hRN : rN nc rs) (hB : rB rs) (hs : snd rs nc) (hp : plc nc H F d) :
    (∃ a, a < 64 ∧ oneA (rs.filter (can H F)) = nI a ∧ tl rs nc (g + 1) H F d = [(128 + a, d, 0)]) ∨
    (∃ c, (opn nc H F).testBit c = true ∧ c < nc ∧ d < nc ∧ oneA (rs.filter (can H F)) = -1 ∧ bst (opn nc H F) (rs.filter (can H F)) nc = some c ∧ plc nc (H ||| 2 ^ c) F (d + 1) ∧ plc nc H (F ||| 2 ^ c) (d + 1) ∧ tl rs nc (g + 1) H F d = (c, d, (tl rs nc g (H ||| 2 ^ c) F (d + 1)).length + 1) :: (tl rs nc g (H ||| 2 ^ c) F (d + 1) ++ tl rs nc g H (F ||| 2 ^ c) (d + 1))) := by
  have hne := snd_ne hs hp
  rcases oneA_cases (rs.filter (can H F)) with h | ⟨a, -, hall, ha⟩ | ⟨hm1, x, hx, y, hy, hxy⟩
  · exact absurd h hne
  · left
    obtain ⟨y, hy⟩ := List.exists_mem_of_ne_nil _ hne
    have hya := hall y hy
    have h64 : a < 64 := by rw [← hya]; exact (hB y (List.mem_filter.mp hy).1).2.2
    refine ⟨a, h64, ha, ?_⟩
    show (if oneA (rs.filter (can H F)) = -1 then _ else _) = _
    rw [ha, if_neg (fun e => m1_ne a (by omega) e.symm), cl_nI (by omega)]
  · right
    have hop : ∃ b, (opn nc H F).testBit b = true := by
      apply Classical.byContradiction
      intro hno
      have h0 : opn nc H F = 0 := by
        apply bitx
        intro i
        rw [Nat.zero_testBit]
        cases h : (opn nc H F).testBit i
        · rfl
        · exact absurd ⟨i, h⟩ hno
      have hx' := List.mem_filter.mp hx
      have hy' := List.mem_filter.mp hy
      have mx := met_all hn (hRN x hx'.1) hx'.2 (by rw [h0]; simp) (plc_self hp)
      have my := met_all hn (hRN y hy'.1) hy'.2 (by rw [h0]; simp) (plc_self hp)
      exact hxy (noC_met hs.1 hx'.1 hy'.1 mx my)
    obtain ⟨b, hb⟩ := hop
    obtain ⟨c, hc⟩ := bst_some (M := rs.filter (can H F)) nc b (opn_in hn hb).1 hb
    have hci := bst_in _ _ hc
    have hpc := pc_clr (opn_lt16 hn) (by omega) hci.2
    have hd := hp.2.2.2
    refine ⟨c, hci.2, hci.1, by omega, hm1, hc, plc_H hn hp hci.2, plc_F hn hp hci.2, ?_⟩
    show (if oneA (rs.filter (can H F)) = -1 then _ else _) = _
    rw [if_pos hm1, hc]
theorem tl_pos {rs : List RU} {nc g H F d : Nat} (hn : nc ≤ 16) (hRN : rN nc rs) (hB : rB rs) (hs : snd rs nc) (hp : plc nc H F d) : 1 ≤ (tl rs nc (g + 1) H F d).length := by
  rcases tl_step (g := g) hn hRN hB hs hp with ⟨a, -, -, e⟩ | ⟨c, -, -, -, -, -, -, -, e⟩
  · rw [e]; simp
  · rw [e]; simp
/-! numbers of a tree -/
def lvs : List RU → Nat
  | [] => 0
  | z :: L => (if z.2.2 = 0 then 1 else 0) + lvs L
def mxd : List RU → Nat → Nat
  | [], m => m
  | z :: L, m => mxd L (if z.2.2 = 0 then max m z.2.1 else m)
def tst (nc : Nat) : List RU → Nat
  | [] => 0
  | z :: L => (if z.2.2 = 0 then 0 else 2 ^ (nc - z.2.1)) + tst nc L
theorem lvs_app (a b : List RU) : lvs (a ++ b) = lvs a + lvs b := by
  induction a with
  | nil => simp [lvs]
  | cons z a ih => simp only [List.cons_append, lvs, ih]; omega
theorem mxd_app (a b : List RU) : ∀ m, mxd (a ++ b) m = mxd b (mxd a m) := by
  induction a with
  | nil => intro m; rfl
  | cons z a ih => intro m; simp only [List.cons_append, mxd, ih]
theorem tst_app (nc : Nat) (a b : List RU) : tst nc (a ++ b) = tst nc a + tst nc b := by
  induction a with
  | nil => simp [tst]
  | cons z a ih => simp only [List.cons_append, tst, ih]; omega
/-- nodes of the class from place s on -/
def cTr (u : ST) (s : Nat) (L : List RU) : Prop := ∀ (i : Nat) (z : RU), L[i]? = some z → gR u 12 (s + i) = nI z.1 ∧ gR u 13 (s + i) = if z.2.2 = 0 then -1 else nI (s + i + z.2.2)
theorem cTr_app {u : ST} {s : Nat} {a b : List RU} (h1 : cTr u s a) (h2 : cTr u (s + a.length) b) : cTr u s (a ++ b) := by
  intro i z hi
  rcases Nat.lt_or_ge i a.length with g | g
  · rw [List.getElem?_append_left g] at hi; exact h1 i z hi
  · rw [List.getElem?_append_right g] at hi
    have := h2 _ _ hi
    rw [show s + a.length + (i - a.length) = s + i by omega] at this
    exact this
/-- a tree grows: nothing else has changed but what lies deeper than d -/
def gFr (d : Nat) (u v : ST) : Prop := (∀ k, k < 17 ∨ 20 < k → gI v k = gI u k) ∧ gJ v 0 = gJ u 0 ∧ (∀ k, gB v k = gB u k) ∧ (∀ k, gZ v k = gZ u k) ∧ (∀ k, k < 9 ∨ 13 < k → k ≤ 16 + d → gR v k = gR u k) ∧ (∀ i, i ≤ d → gR v 9 i = gR u 9 i)
theorem gFr.rf (d : Nat) (u : ST) : gFr d u u := ⟨fun _ _ => rfl, rfl, fun _ => rfl, fun _ => rfl, fun _ _ _ => rfl, fun _ _ => rfl⟩
theorem gFr.tr {d : Nat} {u v w : ST} (h : gFr d u v) (g : gFr d v w) : gFr d u w := ⟨fun k a => (g.1 k a).trans (h.1 k a), g.2.1.trans h.2.1, fun k => (g.2.2.1 k).trans (h.2.2.1 k), fun k => (g.2.2.2.1 k).trans (h.2.2.2.1 k), fun k a b => (g.2.2.2.2.1 k a b).trans (h.2.2.2.2.1 k a b), fun i hi => (g.2.2.2.2.2 i hi).trans (h.2.2.2.2.2 i hi)⟩
theorem gFr.up {d e : Nat} {u v : ST} (h : gFr e u v) (hd : d ≤ e) : gFr d u v := ⟨h.1, h.2.1, h.2.2.1, h.2.2.2.1, fun k a b => h.2.2.2.2.1 k a (by omega), fun i hi => h.2.2.2.2.2 i (by omega)⟩
theorem wFr.g {d : Nat} {u v : ST} (h : wFr d u v) : gFr d u v := ⟨fun k _ => h.1 k, h.2.1 0, h.2.2.1, h.2.2.2.1, fun k a b => h.2.2.2.2.1 k (by omega) (by omega) (by omega) b, h.2.2.2.2.2⟩
theorem wRul.g {u v : ST} {RS : List RU} {d : Nat} (h : wRul u RS) (g : gFr d u v) : wRul v RS := ⟨h.1, fun k r hk => by rw [g.2.2.2.2.1 6 (by omega) (by omega), g.2.2.2.2.1 7 (by omega) (by omega), g.2.2.2.2.1 8 (by omega) (by omega)]; exact h.2 k r hk⟩
theorem wLst.g {u v : ST} {RS M : List RU} {d e : Nat} (h : wLst u RS d M) (g : gFr e u v) (hd : d ≤ e) : wLst v RS d M := ⟨(g.2.2.2.2.2 d hd).trans h.1, h.2.1, fun i r hi => by rw [g.2.2.2.2.1 (16 + d) (by omega) (by omega)]; exact h.2.2 i r hi⟩
/-- what a grown tree leaves -/
def grn (nc d : Nat) (u v : ST) (s : Nat) (L : List RU) : Prop := gFr d u v ∧ gI v 20 = 0 ∧ gI v 17 = nI (s + L.length) ∧ (∀ n, gI u 18 = nI n → gI v 18 = nI (n + lvs L)) ∧ (∀ m, m ≤ 16 → gI u 19 = nI m → mxd L m ≤ 16 ∧ gI v 19 = nI (mxd L m)) ∧ (∀ n, gJ u 1 = lN n → gJ v 1 = lN (n + tst nc L)) ∧ cTr v s L ∧ (∀ i, i < s → gR v 12 i = gR u 12 i ∧ gR v 13 i = gR u 13 i)
theorem w_addNode {u : ST} {s : Nat} {x : Int32} {Q : ST → Prop} (h17 : gI u 17 = nI s) (hs : s < 1000) (hQ : ∀ v, v = sI (sR (sR u 12 s x) 13 s (-1)) 17 (nI (s + 1)) → Q v) : wX4_addNode x u Q := by
  unfold wX4_addNode
  rw [gI_sR, gI_sR, gI_sR, h17, cl_nI (by omega), nI_1]
  exact ⟨vp_in_nI hs (by omega), vp_in_nI hs (by omega), hQ _ rfl⟩
theorem w_leaf {rs : List RU} {nc d s a : Nat} {u : ST} {Q : ST → Prop} (hd : d ≤ 16) (h20 : gI u 20 = 0) (h17 : gI u 17 = nI s) (hs : s < 1000) (hQ : ∀ v, grn nc d u v s [(128 + a, d, 0)] → Q v) : wX4_addLeaf (nI a) (nI d) u Q := by
  unfold wX4_addLeaf
  rw [show (128 : Int32) = nI 128 from rfl, nI_add]
  refine w_addNode h17 hs (fun v hv => hQ _ ?_)
  subst hv
  refine ⟨⟨fun k hk => ?_, rfl, fun _ => rfl, fun _ => rfl, fun k a _ => ?_, fun i _ => ?_⟩, ?_, ?_, fun n hn => ?_, fun m hm h19 => ?_, fun n hn => ?_, fun i z hi => ?_, fun i hi => ?_⟩
  · rw [gI_sI, if_neg (by omega), gI_sI, if_neg (by omega), gI_sI, if_neg (by omega)]; rfl
  · simp only [gR_sI, gR_sR]; rw [if_neg (by omega), if_neg (by omega)]
  · simp only [gR_sI, gR_sR]; rw [if_neg (by decide), if_neg (by decide)]
  · rw [gI_sI, if_neg (by decide), gI_sI, if_neg (by decide), gI_sI, if_neg (by decide)]; exact h20
  · rw [gI_sI, if_neg (by decide), gI_sI, if_neg (by decide), gI_sI, if_pos rfl]; rfl
  · rw [gI_sI, if_neg (by decide), gI_sI, if_pos rfl, gI_sI, if_neg (by decide), gI_sR, gI_sR, hn, nI_1]; rfl
  · have e19 : gI (sI (sI (sR (sR u 12 s (nI (128 + a))) 13 s (-1)) 17 (nI (s + 1))) 18 (gI (sI (sR (sR u 12 s (nI (128 + a))) 13 s (-1)) 17 (nI (s + 1))) 18 + 1)) 19 = nI m := by
      rw [gI_sI, if_neg (by decide), gI_sI, if_neg (by decide)]; exact h19
    refine ⟨?_, ?_⟩
    · show (if (0 : Nat) = 0 then max m d else m) ≤ 16
      rw [if_pos rfl]; omega
    · rw [gI_sI, if_pos rfl, e19]
      show (if nI m < nI d then nI d else nI m) = nI (if (0 : Nat) = 0 then max m d else m)
      rw [if_pos rfl]
      by_cases h : m < d
      · rw [if_pos ((nI_ltI (by omega) (by omega)).mpr h), Nat.max_eq_right (by omega)]
      · rw [if_neg (fun g => h ((nI_ltI (by omega) (by omega)).mp g)), Nat.max_eq_left (by omega)]
  · show gJ u 1 = lN (n + ((if (0 : Nat) = 0 then 0 else 2 ^ (nc - d)) + 0))
    rw [if_pos rfl]; exact hn
  · cases i with
    | zero =>
      simp at hi
      subst hi
      simp only [gR_sI, gR_sR, Nat.add_zero]
      rw [if_neg (by decide), if_pos trivial, if_pos trivial, pk_us, pk_us, if_pos trivial]
      exact ⟨rfl, rfl⟩
    | succ i => simp at hi
  · simp only [gR_sI, gR_sR]
    rw [if_neg (by decide), if_pos trivial, if_pos trivial, if_neg (by decide), pk_un (by omega), pk_un (by omega)]
    exact ⟨rfl, rfl⟩
