/-! THE REFERENCE: names -/
def mNm (u : ST) (base : Nat) (cs : List (List Nat)) : Prop := (∀ l ∈ cs, okNm l) ∧ ∀ (k : Nat) (l : List Nat), cs[k]? = some l → gR u 6 (base + k) = nI l.length ∧ ∀ (i b : Nat), l[i]? = some b → gR u 5 (10 * (base + k) + i) = nI b
theorem isLD_lt {b : Nat} (h : isLD b = true) : b < 128 := by
  unfold isLD isLet isDig at h
  simp at h
  omega
theorem okNm_at {l : List Nat} {i b : Nat} (h : okNm l) (hb : l[i]? = some b) : b < 128 ∧ i < l.length := ⟨isLD_lt (h.2.2 b (List.mem_of_getElem? hb)), (List.getElem?_eq_some_iff.mp hb).1⟩
theorem ne_eq {x y : Int32} {A B : Prop} (a b : Nat) (f : a ≠ b → A) (g : a = b → B) (hx : x = nI a := by rfl) (hy : y = nI b := by rfl) (ha : a < 2 ^ 31 := by omega) (hb : b < 2 ^ 31 := by omega) : (¬ x = y → A) ∧ (x = y → B) := by
  have := pk_eq (A := B) (B := A) a b g f hx hy ha hb
  exact ⟨this.2, this.1⟩
theorem r_find37 {tb : Nat → Nat} {n q e base k : Nat} {u : ST} {l : List Nat} {many : Int32} {K3 : Int32 → Int32 → Int32 → Int32 → ST → Prop} {Q : Int32 → ST → Prop} (hn : n ≤ 8000) (hb : ∀ i, i < n → tb i < 256) (hm : mTape u tb n) (h3 : gI u 3 = nI q) (hqe : q ≤ e) (hen : e ≤ n) (hbk : base + k < 160) (hok : okNm l) (hN : ∀ (i b : Nat), l[i]? = some b → gR u 5 (10 * (base + k) + i) = nI b) (h1 : l = nmL tb q e → Q (nI k) u) (h2 : l ≠ nmL tb q e → K3 (nI base) many (nI e) (nI (base + k + 1)) u) : ∀ (f i : Nat) (x5 : Int32), e - q - i < f → i ≤ e - q → (x5 = 1 ∧ l.length = e - q ∧ (∀ j, j < i → l[j]? = (nmL tb q e)[j]?) ∨ x5 = 0 ∧ l ≠ nmL tb q e) → wX7_find_L37 K3 Q f (nI base) many (nI e) (nI (base + k)) x5 (nI i) u := by
  intro f
  induction f with
  | zero => intro i x5 h; omega
  | succ f ih =>
    intro i x5 hf hi hx
    show wX7_find_B37 K3 (wX7_find_L37 K3 Q f) Q (nI base) many (nI e) (nI (base + k)) x5 (nI i) u
    unfold wX7_find_B37
    rw [h3, pk_sub hqe]
    have no : x5 = 0 → l ≠ nmL tb q e → wX7_find_b94 K3 Q (nI base) many (nI e) (nI (base + k)) x5 u := by
      intro e0 hne
      unfold wX7_find_b94
      rw [nI_1]
      exact ⟨fun _ => h2 hne, fun c => absurd e0 c⟩
    refine pk_le (e - q) i (fun hge => ?_) (fun hlt => ?_)
    · rcases hx with ⟨e1, hl, hj⟩ | ⟨e0, hne⟩
      · unfold wX7_find_b94
        refine ⟨fun c => absurd c (by rw [e1]; decide), fun _ => ?_⟩
        rw [pk_sub (by omega), show base + k - base = k by omega]
        refine h1 (List.ext_getElem? (fun j => ?_))
        by_cases hjl : j < i
        · exact hj j hjl
        · rw [List.getElem?_eq_none (by omega), List.getElem?_eq_none (by rw [nmL_len]; omega)]
      · exact no e0 hne
    · rcases hx with ⟨e1, hl, hj⟩ | ⟨e0, hne⟩
      · refine ⟨fun c => absurd c (by rw [e1]; decide), fun _ => ?_⟩
        have h10 := hok.2.1
        obtain ⟨b, hbi⟩ : ∃ b, l[i]? = some b := ⟨_, List.getElem?_eq_getElem (by omega)⟩
        have hb128 := (okNm_at hok hbi).1
        rw [show (10 : Int32) = nI 10 from rfl, pk_mul, nI_add, nI_add]
        refine ⟨vp_in_nI (by omega) (by omega), vp_in_nI (by omega) (by omega), ?_⟩
        rw [cl_nI (by omega), cl_nI (by omega), hN i b hbi, hm.2 (q + i) (by omega)]
        have he : (nI b = sb_b (tb (q + i))) = (tb (q + i) = b) := by
          rw [← sb_eqc (hb (q + i) (by omega)) hb128]
          exact propext ⟨Eq.symm, Eq.symm⟩
        rw [he]
        unfold wX7_find_b86
        rw [nI_1]
        have hni := nmL_at (tb := tb) (q := q) (e := e) (i := i) hlt
        refine ⟨fun hne => ih (i + 1) 0 (by omega) (by omega) (Or.inr ⟨rfl, fun hl2 => hne ?_⟩), fun heq => ih (i + 1) 1 (by omega) (by omega) (Or.inl ⟨rfl, hl, fun j hj2 => ?_⟩)⟩
        · rw [hl2, hni] at hbi
          exact Option.some.inj hbi
        · by_cases hji : j = i
          · rw [hji, hbi, hni, heq]
          · exact hj j (by omega)
      · exact ⟨fun _ => no e0 hne, fun c => absurd e0 c⟩
theorem r_findL {tb : Nat → Nat} {n q e base : Nat} {u : ST} {cs : List (List Nat)} {Q : Int32 → ST → Prop} (hn : n ≤ 8000) (hb : ∀ i, i < n → tb i < 256) (hm : mTape u tb n) (h3 : gI u 3 = nI q) (hqe : q ≤ e) (hen : e ≤ n) (hbk : base + cs.length ≤ 160) (hN : mNm u base cs) (h1 : nmL tb q e ∈ cs → Q (nI (fIdx cs (nmL tb q e))) u) (h2 : nmL tb q e ∉ cs → Q (-1) u) : ∀ (f k : Nat), cs.length - k < f → k ≤ cs.length → (∀ j, j < k → cs[j]? ≠ some (nmL tb q e)) → wX7_find_L3 Q f (nI base) (nI cs.length) (nI e) (nI (base + k)) u := by
  intro f
  induction f with
  | zero => intro k h; omega
  | succ f ih =>
    intro k hf hk hj
    show wX7_find_B3 (wX7_find_L3 Q f) Q (nI base) (nI cs.length) (nI e) (nI (base + k)) u
    unfold wX7_find_B3
    rw [nI_add]
    refine pk_le (base + cs.length) (base + k) (fun hge => ?_) (fun hlt => ?_)
    · refine h2 (fun hmem => ?_)
      have := fIdx_lt hmem
      exact hj _ (by omega) this.2
    · have hlt' : k < cs.length := by omega
      obtain ⟨l, hl⟩ : ∃ l, cs[k]? = some l := ⟨_, List.getElem?_eq_getElem hlt'⟩
      have hmem : l ∈ cs := List.mem_of_getElem? hl
      have hok := hN.1 l hmem
      have h10 := hok.2.1
      rw [cl_nI (by omega), (hN.2 k l hl).1, h3, pk_sub hqe]
      refine ⟨vp_in_nI (by omega) (by omega), ?_⟩
      have key : ∀ x5 : Int32, (x5 = 1 ∧ l.length = e - q ∨ x5 = 0 ∧ l ≠ nmL tb q e) → wX7_find_b32 (wX7_find_L3 Q f) Q (nI base) (nI cs.length) (nI e) (nI (base + k)) x5 u := by
        intro x5 hx
        refine ⟨e - q + 1, ?_⟩
        refine r_find37 hn hb hm h3 hqe hen (by omega) hok (hN.2 k l hl).2 (fun hl2 => ?_) (fun hl2 => ?_) (e - q + 1) 0 x5 (by omega) (by omega) ?_
        · have hfi : fIdx cs (nmL tb q e) = k := fIdx_of (by rw [hl, hl2]) hj
          rw [← hfi]
          exact h1 (by rw [← hl2]; exact hmem)
        · refine ih (k + 1) (by omega) (by omega) (fun j hjk => ?_)
          by_cases hjk2 : j = k
          · rw [hjk2, hl]; exact fun z => hl2 (Option.some.inj z)
          · exact hj j (by omega)
        · rcases hx with ⟨a, b⟩ | ⟨a, b⟩
          · exact Or.inl ⟨a, b, fun j hj => by omega⟩
          · exact Or.inr ⟨a, b⟩
      refine ne_eq l.length (e - q) (fun hne => key 0 (Or.inr ⟨rfl, fun hl2 => hne ?_⟩)) (fun heq => key 1 (Or.inl ⟨rfl, heq⟩))
      rw [hl2, nmL_len]
theorem r_find {tb : Nat → Nat} {n q e base : Nat} {u : ST} {cs : List (List Nat)} {Q : Int32 → ST → Prop} (hn : n ≤ 8000) (hb : ∀ i, i < n → tb i < 256) (hm : mTape u tb n) (h3 : gI u 3 = nI q) (hqe : q ≤ e) (hen : e ≤ n) (hbk : base + cs.length ≤ 160) (hN : mNm u base cs) (h1 : nmL tb q e ∈ cs → Q (nI (fIdx cs (nmL tb q e))) u) (h2 : nmL tb q e ∉ cs → Q (-1) u) : wX7_find (nI base) (nI cs.length) (nI e) u Q := ⟨cs.length + 1, r_findL hn hb hm h3 hqe hen hbk hN h1 h2 _ 0 (by omega) (by omega) (fun j hj => by omega)⟩
theorem sb_idem (b : Nat) : (sb_b b).toInt8.toInt32 = sb_b b := by
  unfold sb_b
  simp
theorem r_storeL {tb : Nat → Nat} {n q e K : Nat} {u0 : ST} {Q : ST → Prop} (hn : n ≤ 8000) (hqe : q ≤ e) (hen : e ≤ n) (hK : K < 160) (h10 : e - q ≤ 10) (hQ : ∀ v, (∀ k, gI v k = gI u0 k) → (∀ k, k ≠ 5 → gR v k = gR u0 k) → (∀ j, ¬ (10 * K ≤ j ∧ j < 10 * K + (e - q)) → gR v 5 j = gR u0 5 j) → (∀ i, i < e - q → gR v 5 (10 * K + i) = sb_b (tb (q + i))) → Q v) : ∀ (f i : Nat) (u : ST), e - q - i < f → i ≤ e - q → mTape u tb n → gI u 3 = nI q → (∀ k, gI u k = gI u0 k) → (∀ k, k ≠ 5 → gR u k = gR u0 k) → (∀ j, ¬ (10 * K ≤ j ∧ j < 10 * K + (e - q)) → gR u 5 j = gR u0 5 j) → (∀ j, j < i → gR u 5 (10 * K + j) = sb_b (tb (q + j))) → wX7_store_L14 Q f (nI K) (nI e) (nI i) u := by
  intro f
  induction f with
  | zero => intro i u h; omega
  | succ f ih =>
    intro i u hf hi hm h3 a1 a2 a3 a4
    show wX7_store_B14 (wX7_store_L14 Q f) Q (nI K) (nI e) (nI i) u
    unfold wX7_store_B14
    rw [h3, pk_sub hqe, show (10 : Int32) = nI 10 from rfl, pk_mul, nI_add, nI_add, nI_1]
    refine pk_le (e - q) i (fun hge => hQ u a1 a2 a3 (fun j hj => a4 j (by omega))) (fun hlt => ?_)
    refine ⟨vp_in_nI (by omega) (by omega), vp_in_nI (by omega) (by omega), ?_⟩
    rw [cl_nI (by omega), cl_nI (by omega), hm.2 (q + i) (by omega), sb_idem]
    refine ih (i + 1) _ (by omega) (by omega) (hm.congr rfl (by rw [gR_sR, if_neg (by decide)])) h3 (fun k => a1 k) (fun k hk => by rw [gR_sR, if_neg hk]; exact a2 k hk) (fun j hj => ?_) (fun j hj => ?_)
    · rw [gR_sR, if_pos rfl, pk_un (by omega)]; exact a3 j hj
    · rw [gR_sR, if_pos rfl]
      by_cases hji : j = i
      · rw [hji, pk_us]
      · rw [pk_un (by omega)]; exact a4 j (by omega)
theorem r_store {tb : Nat → Nat} {n q e K : Nat} {u : ST} {Q : ST → Prop} (hn : n ≤ 8000) (hm : mTape u tb n) (h3 : gI u 3 = nI q) (hqe : q ≤ e) (hen : e ≤ n) (hK : K < 160) (h10 : e - q ≤ 10) (hQ : ∀ v, (∀ k, gI v k = gI u k) → (∀ k, k ≠ 5 → k ≠ 6 → gR v k = gR u k) → (∀ j, j ≠ K → gR v 6 j = gR u 6 j) → gR v 6 K = nI (e - q) → (∀ j, ¬ (10 * K ≤ j ∧ j < 10 * K + (e - q)) → gR v 5 j = gR u 5 j) → (∀ i, i < e - q → gR v 5 (10 * K + i) = sb_b (tb (q + i))) → Q v) : wX7_store (nI K) (nI e) u Q := by
  unfold wX7_store
  rw [cl_nI (by omega), h3, pk_sub hqe]
  refine ⟨vp_in_nI hK (by omega), e - q + 1, ?_⟩
  refine r_storeL (u0 := sR u 6 K (nI (e - q))) hn hqe hen hK h10 (fun v b1 b2 b3 b4 => hQ v b1 (fun k h5 h6 => ?_) (fun j hj => ?_) ?_ (fun j hj => ?_) b4) (e - q + 1) 0 _ (by omega) (by omega) (hm.congr rfl (by rw [gR_sR, if_neg (by decide)])) h3 (fun _ => rfl) (fun _ _ => rfl) (fun _ _ => rfl) (fun j hj => by omega)
  · rw [b2 k h5, gR_sR, if_neg h6]
  · rw [b2 6 (by decide), gR_sR, if_pos rfl, pk_un hj]
  · rw [b2 6 (by decide), gR_sR, if_pos rfl, pk_us]
  · rw [b3 j hj, gR_sR, if_neg (by decide)]
/-! what stands of a table while it is read -/
def mTb (u : ST) (cs : List (List Nat)) (rs : List (Nat × Nat × Nat)) (as : List (List Nat)) : Prop := gI u 14 = nI cs.length ∧ gI u 15 = nI rs.length ∧ gI u 16 = nI as.length ∧ cs.length ≤ 16 ∧ rs.length ≤ 256 ∧ as.length ≤ 64 ∧ mNm u 80 cs ∧ mNm u 96 as ∧ ∀ (k : Nat) (r : Nat × Nat × Nat), rs[k]? = some r → gR u 7 (256 + k) = nI r.1 ∧ gR u 8 (256 + k) = nI r.2.1 ∧ gR u 9 (256 + k) = nI r.2.2
theorem mNm.congr {u v : ST} {base : Nat} {cs : List (List Nat)} (h : mNm u base cs) (h5 : gR v 5 = gR u 5) (h6 : gR v 6 = gR u 6) : mNm v base cs := ⟨h.1, fun k l hk => by rw [h5, h6]; exact h.2 k l hk⟩
theorem mTb.f {u v : ST} {cs as : List (List Nat)} {rs : List (Nat × Nat × Nat)} (h : mTb u cs rs as) (hF : mf u v) : mTb v cs rs as := by
  obtain ⟨a, b, c, d, e, f, g, i, j⟩ := h
  refine ⟨(hF.1 14 (by decide) (by decide)).trans a, (hF.1 15 (by decide) (by decide)).trans b, (hF.1 16 (by decide) (by decide)).trans c, d, e, f, g.congr (hF.2 5) (hF.2 6), i.congr (hF.2 5) (hF.2 6), fun k r hk => ?_⟩
  rw [hF.2, hF.2, hF.2]; exact j k r hk
/-- a name put behind the others -/
theorem mNm.snoc {u v : ST} {base : Nat} {cs : List (List Nat)} {nm : List Nat} (h : mNm u base cs) (hok : okNm nm) (h6 : ∀ j, j ≠ base + cs.length → gR v 6 j = gR u 6 j) (h6' : gR v 6 (base + cs.length) = nI nm.length) (h5 : ∀ j, ¬ (10 * (base + cs.length) ≤ j ∧ j < 10 * (base + cs.length) + nm.length) → gR v 5 j = gR u 5 j) (h5' : ∀ (i b : Nat), nm[i]? = some b → gR v 5 (10 * (base + cs.length) + i) = nI b) : mNm v base (cs ++ [nm]) := by
  refine ⟨fun l hl => ?_, fun k l hk => ?_⟩
  · rcases List.mem_append.mp hl with g | g
    · exact h.1 l g
    · rw [List.mem_singleton.mp g]; exact hok
  · by_cases he : k = cs.length
    · subst he
      simp at hk
      subst hk
      exact ⟨h6', h5'⟩
    · have hlt : k < cs.length := by
        have := (List.getElem?_eq_some_iff.mp hk).1
        simp at this
        omega
      rw [List.getElem?_append_left hlt] at hk
      have hmem : l ∈ cs := List.mem_of_getElem? hk
      have h10 := (h.1 l hmem).2.1
      refine ⟨by rw [h6 _ (by omega)]; exact (h.2 k l hk).1, fun i b hb => ?_⟩
      have hi := (List.getElem?_eq_some_iff.mp hb).1
      rw [h5 _ (by omega)]
      exact (h.2 k l hk).2 i b hb
/-- the other list stands -/
theorem mNm.other {u v : ST} {base K len : Nat} {cs : List (List Nat)} (h : mNm u base cs) (hK : K < base ∨ base + cs.length ≤ K) (hlen : len ≤ 10) (h6 : ∀ j, j ≠ K → gR v 6 j = gR u 6 j) (h5 : ∀ j, ¬ (10 * K ≤ j ∧ j < 10 * K + len) → gR v 5 j = gR u 5 j) : mNm v base cs := by
  refine ⟨h.1, fun k l hk => ?_⟩
  have hlt := (List.getElem?_eq_some_iff.mp hk).1
  have h10 := (h.1 l (List.mem_of_getElem? hk)).2.1
  refine ⟨by rw [h6 _ (by omega)]; exact (h.2 k l hk).1, fun i b hb => ?_⟩
  have hi := (List.getElem?_eq_some_iff.mp hb).1
  rw [h5 _ (by omega)]
  exact (h.2 k l hk).2 i b hb
theorem pName_k {tb : Nat → Nat} {n p : Nat} {f : Nat × Nat} (h : pName tb n p = .inl f) : f.1 = 1 := by
  unfold pName at h
  split at h
  · split at h
    · cases h
    · cases h; rfl
  · cases h; rfl
/-- the end with a fault -/
abbrev badM (u : ST) (Q : ST → Prop) : Nat → Nat → Prop := fun k q => ∀ v, mF u v → gI v 4 = nI k → gI v 3 = nI q → 1 ≤ k → k ≤ 3 → Q v
theorem badM.f {u v : ST} {Q : ST → Prop} {k q : Nat} (h : badM u Q k q) (hF : mF u v) : badM v Q k q := fun w hw a b c d => h w (hF.tr hw) a b c d
theorem r_cond {tb : Nat → Nat} {n p : Nat} {u : ST} {cs as : List (List Nat)} {rs : List (Nat × Nat × Nat)} {Q : ST → Prop} (hn : n ≤ 8000) (hb : ∀ i, i < n → tb i < 256) (hp : p ≤ n) (hm : mTape u tb n) (h3 : gI u 3 = nI p) (h4 : gI u 4 = 0) (hT : mTb u cs rs as) (h : cRes (pCond tb n p cs) (fun z => ∀ v, mF u v → gI v 3 = nI z.1 → gI v 4 = 0 → mTb v z.2 rs as → Q v) (badM u Q)) : wX7_readCondition u Q := by
  unfold wX7_readCondition
  refine r_nameEnd hn hb hp hm h3 h4 ?_
  have fin : ∀ (v : ST) (r : Int32) (k q : Nat), mF u v → gI v 4 = nI k → gI v 3 = nI q → 1 ≤ k → k ≤ 3 → badM u Q k q → wX7_readCondition_b60 Q r v := by
    intro v r k q hF v4 v3 k1 k3 hh
    unfold wX7_readCondition_b60
    have hne : ¬ gI v 4 = 0 := by rw [v4]; exact nI_ne0 (by omega) (by omega)
    exact ⟨fun _ => hh v hF v4 v3 k1 k3, fun c => absurd c hne⟩
  have fin2 : ∀ (v : ST) (r : Int32) (k q : Nat), mF u v → gI v 4 = nI k → gI v 3 = nI q → 1 ≤ k → k ≤ 3 → badM u Q k q → wX7_readCondition_b35 Q r v := by
    intro v r k q hF v4 v3 k1 k3 hh
    unfold wX7_readCondition_b35
    have hne : ¬ gI v 4 = 0 := by rw [v4]; exact nI_ne0 (by omega) (by omega)
    exact ⟨fun _ => fin v r k q hF v4 v3 k1 k3 hh, fun c => absurd c hne⟩
  unfold pCond at h
  cases hpn : pName tb n p with
  | inl f =>
    rw [hpn] at h
    have hk := pName_k hpn
    intro v r hv
    have hne : ¬ gI v 4 = 0 := by rw [hv.2.1, hk]; decide
    exact ⟨fun _ => fin2 v r _ _ hv.1.F hv.2.1 hv.2.2 (by omega) (by omega) h, fun c => absurd c hne⟩
  | inr z =>
    obtain ⟨q, e⟩ := z
    rw [hpn] at h
    obtain ⟨hok, hpq, hqe, hen, -⟩ := okNm_of hp hpn
    dsimp only at h
    intro v hv
    have v4 : gI v 4 = 0 := (hv.1 4 (by decide)).trans h4
    have hmv := hv.f.tape hm
    have hTv := hT.f hv.f
    dsimp only at hv ⊢
    refine ⟨fun c => absurd v4 c, fun _ => ?_⟩
    rw [hTv.1]
    have h10 : e - q ≤ 10 := by have := hok.2.1; rw [nmL_len] at this; exact this
    have hc16 := hT.2.2.2.1
    refine r_find (base := 80) hn hb hmv hv.2.2 (by omega) hen (by omega) hTv.2.2.2.2.2.2.1 (fun hin => ⟨fun c => absurd c (nI_pos (by have := (fIdx_lt hin).1; omega)), fun _ => ?_⟩) (fun hin => ⟨fun _ => ?_, fun c => absurd (by decide) c⟩)
    · rw [if_pos hin] at h
      rw [hv.2.2]
      exact r_bad (k := 2) v4 hv.f (fun w hw => fin2 w _ 2 q hw.1.F hw.2.1 hw.2.2 (by omega) (by omega) h)
    · rw [if_neg hin] at h
      unfold wX7_readCondition_b35
      refine ⟨fun c => absurd v4 c, fun _ => ?_⟩
      rw [hTv.1]
      refine ne_eq cs.length 16 (fun hne => ?_) (fun heq => ?_)
      · rw [if_neg hne] at h
        unfold wX7_readCondition_b60
        refine ⟨fun c => absurd v4 c, fun _ => ?_⟩
        rw [hTv.1, show (80 : Int32) = nI 80 from rfl, nI_add]
        refine r_store hn hmv hv.2.2 (by omega) hen (by omega) h10 (fun w b1 b2 b3 b4 b5 b6 => ?_)
        have hnl : (nmL tb q e).length = e - q := nmL_len _ _ _
        have hlen : (cs ++ [nmL tb q e]).length = cs.length + 1 := by simp
        have w14 : gI w 14 = nI cs.length := (b1 14).trans hTv.1
        refine h _ ⟨fun k a b c d f => ?_, fun k hk => ?_, fun i hi => ?_, fun i hi => ?_, fun k i k7 k9 hi => ?_⟩ ?_ ?_ ⟨?_, ?_, ?_, ?_, hT.2.2.2.2.1, hT.2.2.2.2.2.1, ?_, ?_, ?_⟩
        · rw [gI_sI, if_neg a, gI_sI, if_neg c, b1]; exact hv.1 k a
        · show gR w k = gR u k
          rw [b2 k (by omega) (by omega)]; exact hv.2.1 k
        · show gR w 5 i = gR u 5 i
          rw [b5 i (by omega), hv.2.1]
        · show gR w 6 i = gR u 6 i
          rw [b3 i (by omega), hv.2.1]
        · show gR w k i = gR u k i
          rw [b2 k (by omega) (by omega), hv.2.1]
        · rw [gI_sI, if_pos rfl]
        · rw [gI_sI, if_neg (by decide), gI_sI, if_neg (by decide), b1]; exact v4
        · rw [gI_sI, if_neg (by decide), gI_sI, if_pos rfl, w14, nI_1, hlen]
        · rw [gI_sI, if_neg (by decide), gI_sI, if_neg (by decide), b1]; exact hTv.2.1
        · rw [gI_sI, if_neg (by decide), gI_sI, if_neg (by decide), b1]; exact hTv.2.2.1
        · rw [hlen]; omega
        · refine mNm.congr (u := w) (mNm.snoc hTv.2.2.2.2.2.2.1 hok b3 (by rw [hnl]; exact b4) (by rw [hnl]; exact b5) (fun i b hib => ?_)) rfl rfl
          have hio := okNm_at hok hib
          rw [hnl] at hio
          rw [b6 i hio.2]
          rw [nmL_at hio.2] at hib
          rw [Option.some.inj hib, sb_lo _ hio.1]
        · exact mNm.congr (u := w) (mNm.other (K := 80 + cs.length) hTv.2.2.2.2.2.2.2.1 (by omega) h10 b3 b5) rfl rfl
        · intro k r hk
          show gR w 7 _ = _ ∧ gR w 8 _ = _ ∧ gR w 9 _ = _
          rw [b2 7 (by decide) (by decide), b2 8 (by decide) (by decide), b2 9 (by decide) (by decide)]
          exact hTv.2.2.2.2.2.2.2.2 k r hk
      · rw [if_pos heq] at h
        rw [hv.2.2]
        exact r_bad (k := 3) v4 hv.f (fun w hw => fin w _ 3 q hw.1.F hw.2.1 hw.2.2 (by omega) (by omega) h)
