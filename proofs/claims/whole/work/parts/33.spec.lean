/-! WHAT A TEXT SAYS: a parser over the tape's bytes, tied to both programs -/
def isBl (b : Nat) : Bool := decide (b = 9 ∨ b = 10 ∨ b = 13 ∨ b = 32)
def isLet (b : Nat) : Bool := decide (97 ≤ b ∧ b ≤ 122)
def isDig (b : Nat) : Bool := decide (48 ≤ b ∧ b ≤ 57)
def isLD (b : Nat) : Bool := isLet b || isDig b
/-- the next place that is not blank -/
def sk (tb : Nat → Nat) (n p : Nat) : Nat := if p < n ∧ isBl (tb p) = true then sk tb n (p + 1) else p
termination_by n - p
decreasing_by omega
/-- behind the letters and digits from p on -/
def nend (tb : Nat → Nat) (n p : Nat) : Nat := if p < n ∧ isLD (tb p) = true then nend tb n (p + 1) else p
termination_by n - p
decreasing_by omega
theorem sk_y {tb : Nat → Nat} {n p : Nat} (h : p < n) (hb : isBl (tb p) = true) : sk tb n p = sk tb n (p + 1) := by
  rw [sk, if_pos ⟨h, hb⟩]
theorem sk_n {tb : Nat → Nat} {n p : Nat} (h : ¬ (p < n ∧ isBl (tb p) = true)) : sk tb n p = p := by
  rw [sk, if_neg h]
theorem nend_y {tb : Nat → Nat} {n p : Nat} (h : p < n) (hb : isLD (tb p) = true) : nend tb n p = nend tb n (p + 1) := by
  rw [nend, if_pos ⟨h, hb⟩]
theorem nend_n {tb : Nat → Nat} {n p : Nat} (h : ¬ (p < n ∧ isLD (tb p) = true)) : nend tb n p = p := by
  rw [nend, if_neg h]
theorem sk_in (tb : Nat → Nat) (n : Nat) : ∀ (d p : Nat), n - p = d → p ≤ n → p ≤ sk tb n p ∧ sk tb n p ≤ n ∧ (sk tb n p < n → isBl (tb (sk tb n p)) = false) := by
  intro d
  induction d with
  | zero =>
    intro p hd hp
    rw [sk_n (by omega)]
    exact ⟨Nat.le_refl _, hp, fun h => by omega⟩
  | succ d ih =>
    intro p hd hp
    by_cases hb : isBl (tb p) = true
    · rw [sk_y (by omega) hb]
      have := ih (p + 1) (by omega) (by omega)
      exact ⟨by omega, this.2.1, this.2.2⟩
    · rw [sk_n (fun h => hb h.2)]
      exact ⟨Nat.le_refl _, hp, fun _ => by simpa using hb⟩
theorem sk_ge {tb : Nat → Nat} {n p : Nat} (h : p ≤ n) : p ≤ sk tb n p := (sk_in tb n _ p rfl h).1
theorem sk_le {tb : Nat → Nat} {n p : Nat} (h : p ≤ n) : sk tb n p ≤ n := (sk_in tb n _ p rfl h).2.1
theorem nend_in (tb : Nat → Nat) (n : Nat) : ∀ (d p : Nat), n - p = d → p ≤ n → p ≤ nend tb n p ∧ nend tb n p ≤ n ∧ (nend tb n p < n → isLD (tb (nend tb n p)) = false) ∧ ∀ i, p ≤ i → i < nend tb n p → isLD (tb i) = true := by
  intro d
  induction d with
  | zero =>
    intro p hd hp
    rw [nend_n (by omega)]
    exact ⟨Nat.le_refl _, hp, fun h => by omega, fun i h1 h2 => by omega⟩
  | succ d ih =>
    intro p hd hp
    by_cases hb : isLD (tb p) = true
    · rw [nend_y (by omega) hb]
      have := ih (p + 1) (by omega) (by omega)
      refine ⟨by omega, this.2.1, this.2.2.1, fun i h1 h2 => ?_⟩
      by_cases e : i = p
      · rw [e]; exact hb
      · exact this.2.2.2 i (by omega) h2
    · rw [nend_n (fun h => hb h.2)]
      exact ⟨Nat.le_refl _, hp, fun _ => by simpa using hb, fun i h1 h2 => by omega⟩
theorem nend_ge {tb : Nat → Nat} {n p : Nat} (h : p ≤ n) : p ≤ nend tb n p := (nend_in tb n _ p rfl h).1
theorem nend_le {tb : Nat → Nat} {n p : Nat} (h : p ≤ n) : nend tb n p ≤ n := (nend_in tb n _ p rfl h).2.1
theorem nend_gt {tb : Nat → Nat} {n p : Nat} (h : p < n) (hb : isLet (tb p) = true) : p < nend tb n p := by
  rw [nend_y h (by unfold isLD; rw [hb]; rfl)]
  have := nend_ge (tb := tb) (n := n) (p := p + 1) h
  omega
abbrev PR (α : Type) : Type := Sum (Nat × Nat) α
def nmL (tb : Nat → Nat) (q e : Nat) : List Nat := (List.range (e - q)).map (fun i => tb (q + i))
def pName (tb : Nat → Nat) (n p : Nat) : PR (Nat × Nat) :=
  if sk tb n p < n ∧ isLet (tb (sk tb n p)) = true then (if nend tb n (sk tb n p) - sk tb n p ≤ 10 then .inr (sk tb n p, nend tb n (sk tb n p)) else .inl (1, sk tb n p)) else .inl (1, sk tb n p)
def pWord (tb : Nat → Nat) (n p : Nat) (w : List Nat) : PR Nat := match pName tb n p with
  | .inl f => .inl f
  | .inr (q, e) => if nmL tb q e = w then .inr e else .inl (1, q)
def pSign (tb : Nat → Nat) (n p c : Nat) : PR Nat := if sk tb n p < n ∧ tb (sk tb n p) = c then .inr (sk tb n p + 1) else .inl (1, sk tb n p)
def pCond (tb : Nat → Nat) (n p : Nat) (cs : List (List Nat)) : PR (Nat × List (List Nat)) := match pName tb n p with
  | .inl f => .inl f
  | .inr (q, e) => if nmL tb q e ∈ cs then .inl (2, q) else if cs.length = 16 then .inl (3, q) else .inr (e, cs ++ [nmL tb q e])
def pConds (tb : Nat → Nat) (n : Nat) : Nat → Nat → List (List Nat) → PR (Nat × List (List Nat))
  | 0, _, _ => .inl (0, 0)
  | f + 1, p, cs => match pCond tb n p cs with
    | .inl x => .inl x
    | .inr (e, cs') => if sk tb n e < n ∧ tb (sk tb n e) = 44 then pConds tb n f (sk tb n e + 1) cs' else match pSign tb n e 59 with
      | .inl x => .inl x
      | .inr p' => .inr (p', cs')
def pMarks (tb : Nat → Nat) (n : Nat) (full : Bool) : Nat → Nat → Nat → Nat → Nat → PR (Nat × Nat × Nat)
  | 0, _, p, Y, N => .inr (p, Y, N)
  | k + 1, c, p, Y, N => if sk tb n p < n ∧ (tb (sk tb n p) = 89 ∨ tb (sk tb n p) = 78 ∨ tb (sk tb n p) = 45) then
      (if full = true then .inl (3, sk tb n p) else pMarks tb n full k (c + 1) (sk tb n p + 1) (if tb (sk tb n p) = 89 then Y ||| 2 ^ c else Y) (if tb (sk tb n p) = 78 then N ||| 2 ^ c else N)) else .inl (1, sk tb n p)
def fIdx : List (List Nat) → List Nat → Nat
  | [], _ => 0
  | a :: l, x => if a = x then 0 else fIdx l x + 1
def pAct (tb : Nat → Nat) (n p : Nat) (as : List (List Nat)) : PR (Nat × List (List Nat) × Nat) := match pName tb n p with
  | .inl f => .inl f
  | .inr (q, e) => if nmL tb q e ∈ as then .inr (e, as, fIdx as (nmL tb q e)) else if as.length = 64 then .inl (3, q) else .inr (e, as ++ [nmL tb q e], as.length)
def pRule (tb : Nat → Nat) (n nc p : Nat) (rs : List (Nat × Nat × Nat)) (as : List (List Nat)) : PR (Nat × List (Nat × Nat × Nat) × List (List Nat)) := match pMarks tb n (decide (rs.length = 256)) nc 0 p 0 0 with
  | .inl x => .inl x
  | .inr (p1, Y, N) => match pWord tb n p1 [100, 111] with
    | .inl x => .inl x
    | .inr p2 => match pAct tb n p2 as with
      | .inl x => .inl x
      | .inr (e, as', a) => match pSign tb n e 59 with
        | .inl x => .inl x
        | .inr p' => .inr (p', rs ++ [(Y, N, a)], as')
def pRules (tb : Nat → Nat) (n nc : Nat) : Nat → Nat → List (Nat × Nat × Nat) → List (List Nat) → PR (List (Nat × Nat × Nat) × List (List Nat))
  | 0, _, _, _ => .inl (0, 0)
  | f + 1, p, rs, as => match pRule tb n nc p rs as with
    | .inl x => .inl x
    | .inr (p', rs', as') => if sk tb n p' < n then pRules tb n nc f p' rs' as' else .inr (rs', as')
def pAll (tb : Nat → Nat) (n : Nat) : PR (List (List Nat) × List (Nat × Nat × Nat) × List (List Nat)) := match pWord tb n 0 [105, 102] with
  | .inl x => .inl x
  | .inr p1 => match pConds tb n (n + 2) p1 [] with
    | .inl x => .inl x
    | .inr (p2, cs) => match pRules tb n cs.length (n + 2) p2 [] [] with
      | .inl x => .inl x
      | .inr (rs, as) => .inr (cs, rs, as)
theorem fIdx_of {l : List (List Nat)} {x : List Nat} : ∀ {k : Nat}, l[k]? = some x → (∀ j, j < k → l[j]? ≠ some x) → fIdx l x = k := by
  induction l with
  | nil => intro k h; simp at h
  | cons a l ih =>
    intro k h h2
    cases k with
    | zero => simp at h; simp [fIdx, h]
    | succ k =>
      have ha : a ≠ x := fun e => h2 0 (by omega) (by simp [e])
      simp at h
      rw [fIdx, if_neg ha, ih h (fun j hj => by have := h2 (j + 1) (by omega); simpa using this)]
theorem fIdx_lt {l : List (List Nat)} {x : List Nat} (h : x ∈ l) : fIdx l x < l.length ∧ l[fIdx l x]? = some x := by
  induction l with
  | nil => cases h
  | cons a l ih =>
    by_cases ha : a = x
    · simp [fIdx, ha]
    · have := ih (by rcases List.mem_cons.mp h with e | e; exact absurd e.symm ha; exact e)
      rw [fIdx, if_neg ha]
      exact ⟨by simp [this.1], by simpa using this.2⟩
theorem nmL_len (tb : Nat → Nat) (q e : Nat) : (nmL tb q e).length = e - q := by simp [nmL]
theorem nmL_at {tb : Nat → Nat} {q e i : Nat} (h : i < e - q) : (nmL tb q e)[i]? = some (tb (q + i)) := by simp [nmL, h]
/-- a name as the texts have them -/
def okNm (l : List Nat) : Prop := 1 ≤ l.length ∧ l.length ≤ 10 ∧ ∀ b ∈ l, isLD b = true
theorem okNm_of {tb : Nat → Nat} {n p q e : Nat} (hp : p ≤ n) (h : pName tb n p = .inr (q, e)) : okNm (nmL tb q e) ∧ p ≤ q ∧ q < e ∧ e ≤ n ∧ q = sk tb n p ∧ e = nend tb n q ∧ isLet (tb q) = true := by
  unfold pName at h
  split at h
  · rename_i h1
    split at h
    · rename_i h2
      cases h
      have g := nend_gt h1.1 h1.2
      have hin := nend_in tb n _ (sk tb n p) rfl (Nat.le_of_lt h1.1)
      refine ⟨⟨?_, ?_, ?_⟩, sk_ge hp, g, hin.2.1, rfl, rfl, h1.2⟩
      · rw [nmL_len]; omega
      · rw [nmL_len]; exact h2
      · intro b hb
        obtain ⟨i, hi, rfl⟩ := List.mem_map.mp hb
        exact hin.2.2.2 _ (by omega) (by have := List.mem_range.mp hi; omega)
    · cases h
  · cases h
/-! names in one number: six bits a letter -/
def lcod (b : Nat) : Nat := if isLet b = true then b - 97 + 1 else if isDig b = true then b - 48 + 27 else 0
def pkL : List Nat → Nat
  | [] => 0
  | a :: l => lcod a + 64 * pkL l
theorem lcod_in {b : Nat} (h : isLD b = true) : 1 ≤ lcod b ∧ lcod b ≤ 36 := by
  unfold isLD at h
  unfold lcod
  by_cases h1 : isLet b = true
  · rw [if_pos h1]; unfold isLet at h1; simp at h1; omega
  · rw [if_neg h1]
    have h2 : isDig b = true := by simpa [h1] using h
    rw [if_pos h2]; unfold isDig at h2; simp at h2; omega
theorem lcod_inj {a b : Nat} (ha : isLD a = true) (hb : isLD b = true) (h : lcod a = lcod b) : a = b := by
  unfold lcod isLD isLet isDig at *
  simp only [Bool.or_eq_true, decide_eq_true_eq] at ha hb h
  repeat' split at h
  all_goals omega
theorem pkL_inj : ∀ {l m : List Nat}, (∀ b ∈ l, isLD b = true) → (∀ b ∈ m, isLD b = true) → pkL l = pkL m → l = m := by
  intro l
  induction l with
  | nil =>
    intro m _ hm h
    cases m with
    | nil => rfl
    | cons b m =>
      have := lcod_in (hm b List.mem_cons_self)
      simp [pkL] at h
      omega
  | cons a l ih =>
    intro m hl hm h
    have ha := lcod_in (hl a List.mem_cons_self)
    cases m with
    | nil => simp [pkL] at h; omega
    | cons b m =>
      have hb := lcod_in (hm b List.mem_cons_self)
      simp only [pkL] at h
      have e1 : lcod a = lcod b := by omega
      have e2 : pkL l = pkL m := by omega
      rw [lcod_inj (hl a List.mem_cons_self) (hm b List.mem_cons_self) e1, ih (fun x hx => hl x (List.mem_cons_of_mem _ hx)) (fun x hx => hm x (List.mem_cons_of_mem _ hx)) e2]
theorem pkL_lt : ∀ (l : List Nat), (∀ b ∈ l, isLD b = true) → pkL l < 64 ^ l.length := by
  intro l
  induction l with
  | nil => intro _; simp [pkL]
  | cons a l ih =>
    intro h
    have := ih (fun x hx => h x (List.mem_cons_of_mem _ hx))
    have ha := lcod_in (h a List.mem_cons_self)
    simp only [pkL, List.length_cons, Nat.pow_succ]
    omega
theorem pkL_snoc (l : List Nat) (b : Nat) : pkL (l ++ [b]) = pkL l + lcod b * 64 ^ l.length := by
  induction l with
  | nil => simp [pkL]
  | cons a l ih =>
    simp only [List.cons_append, pkL, ih, List.length_cons, Nat.pow_succ]
    rw [Nat.mul_add, Nat.add_assoc, Nat.mul_comm (64 ^ l.length) 64, ← Nat.mul_assoc, ← Nat.mul_assoc, Nat.mul_comm 64 (lcod b)]
theorem okNm_60 {l : List Nat} (h : okNm l) : pkL l < 2 ^ 60 := by
  have h1 := pkL_lt l h.2.2
  have h2 : 64 ^ l.length ≤ 64 ^ 10 := Nat.pow_le_pow_right (by decide) h.2.1
  have h3 : (64 : Nat) ^ 10 = 2 ^ 60 := by decide
  omega
theorem pk_eq_iff {l m : List Nat} (hl : okNm l) (hm : okNm m) : lN (pkL l) = lN (pkL m) ↔ l = m := by
  have h1 := okNm_60 hl
  have h2 := okNm_60 hm
  rw [pk_lEQ (by omega) (by omega)]
  exact ⟨pkL_inj hl.2.2 hm.2.2, fun e => by rw [e]⟩
theorem lg_cmp0 (x y : Int64) : lg_cmp x y = 0 ↔ x = y := by
  constructor
  · intro h
    unfold lg_cmp at h
    split at h
    · exact absurd h (by decide)
    · split at h
      · assumption
      · exact absurd h (by decide)
  · intro h; rw [h]; exact lg_cmp_self y
