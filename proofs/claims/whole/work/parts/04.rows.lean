/-! THE WORDS: those of the tables that stay good; every method's list is its own code, then all of them -/
def wB : List Cond := lw_tbl.filter goodWord
def wM (y : MethodName) (b : ByteArray) (n : Nat) (r : Option FieldType) : List Cond := .code y b n r :: wB
theorem wB_good : ∀ w ∈ wB, goodWord w = true := fun _ h => (List.mem_filter.mp h).2
theorem wB_of {w : Cond} (h : w ∈ lw_tbl) (g : goodWord w = true) : w ∈ wB := List.mem_filter.mpr ⟨h, g⟩
theorem wB_t (i : Nat) {w : Cond} (h : tables_1[i]? = some w) (g : goodWord w = true) : w ∈ wB := wB_of (List.mem_append_right _ (List.mem_of_getElem? h)) g
theorem wB_s (i : Nat) {w : Cond} (h : (k2_sels lw_privs)[i]? = some w) (g : goodWord w = true) : w ∈ wB := wB_of (List.mem_append_left _ (List.mem_of_getElem? h)) g
theorem gd_ws {ws : List Cond} (h : ∀ w ∈ ws, w ∈ wB) : GoodIn wB ws := fun w hw => ⟨h w hw, good_of_word (wB_good w (h w hw))⟩
theorem gd_M {y : MethodName} {b : ByteArray} {n : Nat} {r : Option FieldType} (h : Cond.code y b n r ∈ wB) : GoodIn wB (wM y b n r) := gd_ws (fun w hw => (List.mem_cons.mp hw).elim (fun e => e ▸ h) id)
theorem gd_V {own C : String} {idx : Nat} {y : MethodName} {b : ByteArray} {n : Nat} {r : Option FieldType} (h1 : Cond.methodLink own idx y ∈ wB) (h2 : Cond.instanceMethod y ∈ wB) (h3 : Cond.selects C y y ∈ wB) (h4 : Cond.initialized C ∈ wB) (h5 : Cond.code y b n r ∈ wB) : GoodIn wB (wsV own idx C y (wM y b n r)) := by
  refine gd_ws (fun w hw => ?_)
  rcases List.mem_append.mp hw with hw | hw
  · simp only [List.mem_cons, List.not_mem_nil, or_false] at hw
    rcases hw with rfl | rfl | rfl | rfl
    · exact h1
    · exact h2
    · exact h3
    · exact h4
  · exact (gd_M h5 w hw).1
theorem gd_S {own : String} {idx : Nat} {y : MethodName} {b : ByteArray} {n : Nat} {r : Option FieldType} (h1 : Cond.methodLink own idx y ∈ wB) (h2 : Cond.static y ∈ wB) (h4 : Cond.initialized y.cls ∈ wB) (h5 : Cond.code y b n r ∈ wB) : GoodIn wB (va_wsS own idx y (wM y b n r)) := by
  refine gd_ws (fun w hw => ?_)
  rcases List.mem_append.mp hw with hw | hw
  · simp only [List.mem_cons, List.not_mem_nil, or_false] at hw
    rcases hw with rfl | rfl | rfl
    · exact h1
    · exact h2
    · exact h4
  · exact (gd_M h5 w hw).1
/-! CONTRACTS over a world w of one state -/
abbrev kRm (n : Nat) : Room := { frames := n, cells := 0, slots := 0, locals := 40 * n }
def kPc (D : va_G) (w : ST → va_W) (cy : CY) (u : ST) (sz : Nat) (av : List Value) : Array Value → State → Prop := va_Pc av (fun U => U.heap.size = sz ∧ va_P D vwCl (w u) U.heap ∧ va_K D vwCl (tyS cy) U ∧ va_D (fun _ => True) (w u))
def kAt (D : va_G) (w : ST → va_W) (cy : CY) (A : Nat → Prop) (u : ST) (t : State) : Prop := va_P D vwCl (w u) t.heap ∧ va_K D vwCl (tyS cy) t ∧ va_D A (w u)
abbrev kQi (D : va_G) (w : ST → va_W) (cy : CY) (A : Nat → Prop) (Q : Int32 → ST → Prop) : Array Value → State → Outcome → State → Prop := va_Qi Q (kAt D w cy A) A
abbrev kQl (D : va_G) (w : ST → va_W) (cy : CY) (A : Nat → Prop) (Q : Int64 → ST → Prop) : Array Value → State → Outcome → State → Prop := va_Ql Q (kAt D w cy A) A
abbrev kQv (D : va_G) (w : ST → va_W) (cy : CY) (A : Nat → Prop) (Q : ST → Prop) : Array Value → State → Outcome → State → Prop := va_Qv Q (kAt D w cy A) A
theorem kBlind (D : va_G) (w : ST → va_W) (cy : CY) (u : ST) (sz : Nat) (av : List Value) : FrameBlind (kPc D w cy u sz av) := fun a U g mk q => by
  obtain ⟨q0, q1, qP, qK, qD⟩ := q
  exact ⟨q0, q1, qP, va_K.moved (u := U) (U := U.calling g mk a) (Vm.Alike.refl U.vm) qK, qD⟩
def kC (p : Program) (m : MethodId) (c : Code) (cc : ByteArray) (nL : Nat) (s : State) (args : Array Value) (own : String) (D : va_G) (cy : CY) (A : Nat → Prop) : Prop := CallFix p m c cc nL s args wB own ∧ va_K D vwCl (tyS cy) s ∧ ∀ q, s.heap.size ≤ q → A q
def kH (D : va_G) (w : ST → va_W) (A : Nat → Prop) (s : State) (u : ST) (H : Heap) (locs : List Loc) : Prop := va_P D vwCl (w u) H ∧ va_D A (w u) ∧ va_S A s.heap H locs
theorem vp_lt {i : Int32} {n : Nat} (h : vp_in i n) : i.toNatClampNeg < n := Nat.not_le.mp fun q => h (Or.inr q)
section KR
variable {p : Program} {l : Launch} {e : Env} {R : Room} {s : State} {m : MethodId} {args : Array Value} {below : List Frame} {meth : Method} {c : Code} {H : Heap} {locs : List Loc} {cells slots : Nat} {Q : State → Prop} {cc : ByteArray} {pc nL : Nat} {ls : Array Slot} {rest st0 : List Value} {D : va_G} {cy : CY} {A : Nat → Prop} {own : String} {w : ST → va_W} {u u1 : ST}
theorem kfree (h : kH D w A s u H locs) (hA : ∀ q, s.heap.size ≤ q → A q) : ∀ q, va_A (w u) H.size q → A q := by
  intro q hq
  rcases hq with ⟨k, e, hk⟩ | hq
  · exact h.2.1.2 k (q, e) hk
  · exact hA q (Nat.le_trans h.2.2.1 hq)
theorem kget (C : kC p m c cc nL s args own D cy A) (h : kH D w A s u H locs) (q0 : Nat) {a ci : Nat} {fs : List Value} (he : (w u)[q0]? = some (a, .inr (ci, fs))) {Cn : String} {T : u_T} {N : Nat} (hc : vwCl[ci]? = some (Cn, T, N)) (hin : ∀ x ∈ u_ws Cn T N, x ∈ wB) (k : Nat) (hk : k < N) {index : Nat} (hl : Cond.fieldLink own index (T k).1 (T k).2.1 (T k).2.2.1 ∈ wB) {v : Value} (hv : fs[k]? = some v) (hdg : decode cc pc = .ok (.getfield index, 3))
    (kk : W p l e R s m args below meth c H locs cells slots Q (F0 m (pc + 3) ls (v :: rest))) : W p l e R s m args below meth c H locs cells slots Q (F0 m pc ls (.ref a :: rest)) := by
  obtain ⟨⟨hx, hb, hml, hown, hts⟩, hK, hA⟩ := C
  exact va_get hx hb hts hin hown hK h.1 q0 he hc k hk (hts _ hl) (fun _ z => z) hv hdg kk
theorem kput (C : kC p m c cc nL s args own D cy A) (h : kH D w A s u H locs) (q0 : Nat) {a ci : Nat} {fs : List Value} (he : (w u)[q0]? = some (a, .inr (ci, fs))) {Cn : String} {T : u_T} {N : Nat} (hc : vwCl[ci]? = some (Cn, T, N)) (hin : ∀ x ∈ u_ws Cn T N, x ∈ wB) {ty0 : Nat → FieldType} (hty : ∀ k, k < N → parseFieldDescriptor (T k).2.2.1 = some (ty0 k)) (hnm : ∀ a, a < N → ∀ b, b < N → a ≠ b → (T a).2.1 ≠ (T b).2.1) (k : Nat) (hk : k < N) {index : Nat} (hl : Cond.fieldLink own index (T k).1 (T k).2.1 (T k).2.2.1 ∈ wB) (hfin : (T k).2.2.2 = false) {v : Value} (hn : narrow (ty0 k) v = v) (hfit : fits (ty0 k) v = true) (hlen : k < fs.length) (hset : (w u).set q0 (a, .inr (ci, fs.set k v)) = w u1) (hdg : decode cc pc = .ok (.putfield index, 3))
    (kk : ∀ (H1 : Heap) (locs1 : List Loc), kH D w A s u1 H1 locs1 → W p l e R s m args below meth c H1 locs1 cells slots Q (F0 m (pc + 3) ls rest)) : W p l e R s m args below meth c H locs cells slots Q (F0 m pc ls (v :: .ref a :: rest)) := by
  obtain ⟨⟨hx, hb, hml, hown, hts⟩, hK, hA⟩ := C
  refine va_put hx hb hts hin ty0 hty hnm hown hK h.1 h.2.1 h.2.2 q0 he hc k hk (hts _ hl) (fun _ z => z) hfin (hty k hk) hn hfit hlen hdg (fun H1 locs1 hP hD hS => ?_)
  rw [hset] at hP hD
  exact kk H1 locs1 ⟨hP, hD, hS⟩
theorem kiald (C : kC p m c cc nL s args own D cy A) (h : kH D w A s u H locs) (q0 : Nat) {a n : Nat} {f : Nat → Int32} (ha : (w u)[q0]? = some (a, .inl (cy.2.1, n, .inl f))) {i : Int32} (hin : vp_in i n) (hdg : decode cc pc = .ok (.iaload, 1))
    (kk : W p l e R s m args below meth c H locs cells slots Q (F0 m (pc + 1) ls (.int (f i.toNatClampNeg) :: rest))) : W p l e R s m args below meth c H locs cells slots Q (F0 m pc ls (.int i :: .ref a :: rest)) := by
  obtain ⟨⟨hx, hb, hml, hown, hts⟩, hK, hA⟩ := C
  exact va_iald hx hb hK h.1 q0 1 ha rfl hin hdg kk
theorem kbald (C : kC p m c cc nL s args own D cy A) (h : kH D w A s u H locs) (q0 : Nat) {a n : Nat} {f : Nat → Int32} (ha : (w u)[q0]? = some (a, .inl (cy.1, n, .inl f))) {i : Int32} (hin : vp_in i n) (hdg : decode cc pc = .ok (.baload, 1))
    (kk : W p l e R s m args below meth c H locs cells slots Q (F0 m (pc + 1) ls (.int (f i.toNatClampNeg) :: rest))) : W p l e R s m args below meth c H locs cells slots Q (F0 m pc ls (.int i :: .ref a :: rest)) := by
  obtain ⟨⟨hx, hb, hml, hown, hts⟩, hK, hA⟩ := C
  exact va_bald hx hb hK h.1 q0 0 ha rfl hin hdg kk
theorem klald (C : kC p m c cc nL s args own D cy A) (h : kH D w A s u H locs) (q0 : Nat) {a n : Nat} {f : Nat → Int64} (ha : (w u)[q0]? = some (a, .inl (cy.2.2.1, n, .inr (.inl f)))) {i : Int32} (hin : vp_in i n) (hdg : decode cc pc = .ok (.laload, 1))
    (kk : W p l e R s m args below meth c H locs cells slots Q (F0 m (pc + 1) ls (.long (f i.toNatClampNeg) :: rest))) : W p l e R s m args below meth c H locs cells slots Q (F0 m pc ls (.int i :: .ref a :: rest)) := by
  obtain ⟨⟨hx, hb, hml, hown, hts⟩, hK, hA⟩ := C
  exact va_lald hx hb hK h.1 q0 2 ha rfl hin hdg kk
theorem kaald (C : kC p m c cc nL s args own D cy A) (h : kH D w A s u H locs) (q0 : Nat) {a n : Nat} {f : Nat → Nat} (ha : (w u)[q0]? = some (a, .inl (cy.2.2.2, n, .inr (.inr (.inr (.inr (fun d => some (f d)))))))) {i : Int32} (hin : vp_in i n) (hdg : decode cc pc = .ok (.aaload, 1))
    (kk : W p l e R s m args below meth c H locs cells slots Q (F0 m (pc + 1) ls (.ref (f i.toNatClampNeg) :: rest))) : W p l e R s m args below meth c H locs cells slots Q (F0 m pc ls (.int i :: .ref a :: rest)) := by
  obtain ⟨⟨hx, hb, hml, hown, hts⟩, hK, hA⟩ := C
  have hlt : i.toNatClampNeg < n := vp_lt hin
  exact W.aald (v := .ref (f i.toNatClampNeg)) (ty := .array .int) hx hb (h.1 q0 _ ha) ((hK.2 3 _ rfl).1 n (fun j => va_rf (some (f j)))) rfl (fun q => by cases q) (by show ¬ (i < 0 ∨ (arrV _ _ _).slots.size ≤ _); rw [arrV_size]; exact hin) (by show (arrV _ _ _).slots[_]? = _; rw [arrV_read _ _ hlt]; rfl) rfl rfl hdg kk
theorem kiast (C : kC p m c cc nL s args own D cy A) (h : kH D w A s u H locs) (q0 : Nat) {a n : Nat} {f : Nat → Int32} (ha : (w u)[q0]? = some (a, .inl (cy.2.1, n, .inl f))) {i x : Int32} (hin : vp_in i n) (hset : (w u).set q0 (a, .inl (cy.2.1, n, .inl (upd f i.toNatClampNeg x))) = w u1) (hdg : decode cc pc = .ok (.iastore, 1))
    (kk : ∀ (H1 : Heap) (locs1 : List Loc), kH D w A s u1 H1 locs1 → W p l e R s m args below meth c H1 locs1 cells slots Q (F0 m (pc + 1) ls rest)) : W p l e R s m args below meth c H locs cells slots Q (F0 m pc ls (.int x :: .int i :: .ref a :: rest)) := by
  obtain ⟨⟨hx, hb, hml, hown, hts⟩, hK, hA⟩ := C
  refine va_iast hx hb hK h.1 h.2.1 h.2.2 q0 1 ha rfl hin hdg (fun H1 locs1 hP hD hS => ?_)
  rw [hset] at hP hD
  exact kk H1 locs1 ⟨hP, hD, hS⟩
theorem kbast (C : kC p m c cc nL s args own D cy A) (h : kH D w A s u H locs) (q0 : Nat) {a n : Nat} {f : Nat → Int32} (ha : (w u)[q0]? = some (a, .inl (cy.1, n, .inl f))) {i x : Int32} (hin : vp_in i n) (hset : (w u).set q0 (a, .inl (cy.1, n, .inl (upd f i.toNatClampNeg (x.toInt8.toInt32)))) = w u1) (hdg : decode cc pc = .ok (.bastore, 1))
    (kk : ∀ (H1 : Heap) (locs1 : List Loc), kH D w A s u1 H1 locs1 → W p l e R s m args below meth c H1 locs1 cells slots Q (F0 m (pc + 1) ls rest)) : W p l e R s m args below meth c H locs cells slots Q (F0 m pc ls (.int x :: .int i :: .ref a :: rest)) := by
  obtain ⟨⟨hx, hb, hml, hown, hts⟩, hK, hA⟩ := C
  refine va_bast hx hb hK h.1 h.2.1 h.2.2 q0 0 ha rfl hin hdg (fun H1 locs1 hP hD hS => ?_)
  rw [vp_nar_byte, hset] at hP hD
  exact kk H1 locs1 ⟨hP, hD, hS⟩
theorem klast (C : kC p m c cc nL s args own D cy A) (h : kH D w A s u H locs) (q0 : Nat) {a n : Nat} {f : Nat → Int64} (ha : (w u)[q0]? = some (a, .inl (cy.2.2.1, n, .inr (.inl f)))) {i : Int32} {x : Int64} (hin : vp_in i n) (hset : (w u).set q0 (a, .inl (cy.2.2.1, n, .inr (.inl (vp_updL f i.toNatClampNeg x)))) = w u1) (hdg : decode cc pc = .ok (.lastore, 1))
    (kk : ∀ (H1 : Heap) (locs1 : List Loc), kH D w A s u1 H1 locs1 → W p l e R s m args below meth c H1 locs1 cells slots Q (F0 m (pc + 1) ls rest)) : W p l e R s m args below meth c H locs cells slots Q (F0 m pc ls (.long x :: .int i :: .ref a :: rest)) := by
  obtain ⟨⟨hx, hb, hml, hown, hts⟩, hK, hA⟩ := C
  refine va_last hx hb hK h.1 h.2.1 h.2.2 q0 2 ha rfl hin hdg (fun H1 locs1 hP hD hS => ?_)
  rw [hset] at hP hD
  exact kk H1 locs1 ⟨hP, hD, hS⟩
theorem kalenI (C : kC p m c cc nL s args own D cy A) (h : kH D w A s u H locs) (q0 : Nat) {a n : Nat} {f : Nat → Int32} (ha : (w u)[q0]? = some (a, .inl (cy.2.1, n, .inl f))) (hdg : decode cc pc = .ok (.arraylength, 1))
    (kk : W p l e R s m args below meth c H locs cells slots Q (F0 m (pc + 1) ls (.int (nI n) :: rest))) : W p l e R s m args below meth c H locs cells slots Q (F0 m pc ls (.ref a :: rest)) := by
  obtain ⟨⟨hx, hb, hml, hown, hts⟩, hK, hA⟩ := C
  exact va_alen hx hb hK h.1 q0 1 ha rfl rfl hdg kk
theorem kalenL (C : kC p m c cc nL s args own D cy A) (h : kH D w A s u H locs) (q0 : Nat) {a n : Nat} {f : Nat → Int64} (ha : (w u)[q0]? = some (a, .inl (cy.2.2.1, n, .inr (.inl f)))) (hdg : decode cc pc = .ok (.arraylength, 1))
    (kk : W p l e R s m args below meth c H locs cells slots Q (F0 m (pc + 1) ls (.int (nI n) :: rest))) : W p l e R s m args below meth c H locs cells slots Q (F0 m pc ls (.ref a :: rest)) := by
  obtain ⟨⟨hx, hb, hml, hown, hts⟩, hK, hA⟩ := C
  exact va_alen hx hb hK h.1 q0 2 ha rfl rfl hdg kk
theorem kretI {Qf : Int32 → ST → Prop} {v : Int32} (C : kC p m c cc nL s args own D cy A) (hr : meth.sig.returnType = some .int) (hlocks : meth.locks = false) (h : kH D w A s u H locs) (hq : Qf v u) (hdg : decode cc pc = .ok (.ireturn, 1)) : W p l e R s m args below meth c H locs cells slots (MQ below (kQi D w cy A Qf) args s cells slots A) (F0 m pc ls [.int v]) := by
  obtain ⟨⟨hx, hb, hml, hown, hts⟩, hK, hA⟩ := C
  obtain ⟨hP, hD, hS⟩ := h
  exact W.iret (v := v) hx hb hr (fun t ht hW => ⟨⟨v, u, rfl, hq, by rw [ht]; exact hP, va_K.moved hW.alike hK, hD⟩, hS.F ht⟩) hS.2.2 hdg hlocks
theorem kretZ {Qf : Int32 → ST → Prop} {v : Int32} (C : kC p m c cc nL s args own D cy A) (hr : meth.sig.returnType = some .boolean) (hlocks : meth.locks = false) (h : kH D w A s u H locs) (hv : v = 0 ∨ v = 1) (hq : Qf v u) (hdg : decode cc pc = .ok (.ireturn, 1)) : W p l e R s m args below meth c H locs cells slots (MQ below (kQi D w cy A Qf) args s cells slots A) (F0 m pc ls [.int v]) := by
  obtain ⟨⟨hx, hb, hml, hown, hts⟩, hK, hA⟩ := C
  obtain ⟨hP, hD, hS⟩ := h
  exact W.zret (v := v) hx hb hr (by rcases hv with rfl | rfl <;> rfl) (fun t ht hW => ⟨⟨v, u, rfl, hq, by rw [ht]; exact hP, va_K.moved hW.alike hK, hD⟩, hS.F ht⟩) hS.2.2 hdg hlocks
theorem kretL {Qf : Int64 → ST → Prop} {v : Int64} (C : kC p m c cc nL s args own D cy A) (hr : meth.sig.returnType = some .long) (hlocks : meth.locks = false) (h : kH D w A s u H locs) (hq : Qf v u) (hdg : decode cc pc = .ok (.lreturn, 1)) : W p l e R s m args below meth c H locs cells slots (MQ below (kQl D w cy A Qf) args s cells slots A) (F0 m pc ls [.long v]) := by
  obtain ⟨⟨hx, hb, hml, hown, hts⟩, hK, hA⟩ := C
  obtain ⟨hP, hD, hS⟩ := h
  exact W.lret (v := v) hx hb hr (fun t ht hW => ⟨⟨v, u, rfl, hq, by rw [ht]; exact hP, va_K.moved hW.alike hK, hD⟩, hS.F ht⟩) hS.2.2 hdg hlocks
theorem kretV {Qf : ST → Prop} (C : kC p m c cc nL s args own D cy A) (hr : meth.sig.returnType = none) (hlocks : meth.locks = false) (h : kH D w A s u H locs) (hq : Qf u) (hdg : decode cc pc = .ok (.return_, 1)) : W p l e R s m args below meth c H locs cells slots (MQ below (kQv D w cy A Qf) args s cells slots A) (F0 m pc ls []) := by
  obtain ⟨⟨hx, hb, hml, hown, hts⟩, hK, hA⟩ := C
  obtain ⟨hP, hD, hS⟩ := h
  exact W.vret hx hb hr (fun t ht hW => ⟨⟨u, rfl, hq, by rw [ht]; exact hP, va_K.moved hW.alike hK, hD⟩, hS.F ht⟩) hS.2.2 hdg hlocks
/-- the tables of a callee's start -/
theorem kpre (C : kC p m c cc nL s args own D cy A) (h : kH D w A s u H locs) (av : List Value) : ∀ U : State, U.heap = H → s.WarmedH U.vm → kPc D w cy u H.size av av.toArray U := fun U hU hW => ⟨rfl, by rw [hU], by rw [hU]; exact h.1, va_K.moved hW.alike C.2.1, h.2.1.weaken (fun _ _ _ _ => trivial)⟩
theorem kafter {t : State} {H1 : Heap} {locs1 : List Loc} (C : kC p m c cc nL s args own D cy A) (h : kH D w A s u H locs) (ht : t.heap = H1) (hB : kAt D w cy (va_A (w u) H.size) u1 t) (hS : va_S A s.heap H1 locs1) : kH D w A s u1 H1 locs1 := by
  obtain ⟨hP1, hK1, hD1⟩ := hB
  rw [ht] at hP1
  exact ⟨hP1, hD1.weaken (fun k q _ hq => kfree h C.2.2 q.1 hq), hS⟩
variable {y : MethodName} {bytes : ByteArray} {maxL n index : Nat} {ret : Option FieldType} {ws : List Cond} {rm : Room} {Cn : String} {b : Addr} {As : List Value}
theorem kVi {Q1 : Int32 → ST → Prop} (C : kC p m c cc nL s args own D cy A) (h : kH D w A s u H locs) (cw : CallW R s args own Cn index y bytes maxL ret ws rm 0 0 n) (q0 : Nat) {ci : Nat} {qc : vw_C} {fs : List Value} (he : (w u)[q0]? = some (b, .inr (ci, fs))) (hc : vwCl[ci]? = some qc) (hqc : qc.1 = Cn) (hM : Met l y ws rm (kPc D w cy u H.size (.ref b :: As)) (kQi D w cy (va_A (w u) H.size) Q1) 0 0 (va_A (w u) H.size)) (hn : As.length = n) (hsz : ls.size = nL) (hst : st0 = As.reverse ++ .ref b :: rest) (hrs : (rest.map fun v => v.category).sum ≤ 8) (hf : cells ≤ R.cells ∧ slots ≤ R.slots) (hdg : decode cc pc = .ok (.invokevirtual index, 3))
    (kk : ∀ (r : Int32) (u1 : ST) (H1 : Heap) (locs1 : List Loc), Q1 r u1 → kH D w A s u1 H1 locs1 → W p l e R s m args below meth c H1 locs1 cells slots Q (F0 m (pc + 3) ls (.int r :: rest))) : W p l e R s m args below meth c H locs cells slots Q (F0 m pc ls st0) := by
  subst hqc
  refine va_calli (va_runV (As := As) (rest := rest) C.1 hM cw ⟨kBlind _ _ _ _ _ _, va_recv C.2.1 h.1 hc he, kpre C h _⟩ rfl hn hsz hst (lv_room (m := m) (pc := pc) (ls := ls) (rest := st0) hrs) hdg hf) h.2.2 (fun q _ hq => kfree h C.2.2 q hq) (kfree h C.2.2) (fun r u1 t H1 locs1 ht hvm hw hB hz1 hk1 hS => ?_)
  exact kk r u1 H1 locs1 hw (kafter C h ht hB hS)
theorem kVl {Q1 : Int64 → ST → Prop} (C : kC p m c cc nL s args own D cy A) (h : kH D w A s u H locs) (cw : CallW R s args own Cn index y bytes maxL ret ws rm 0 0 n) (q0 : Nat) {ci : Nat} {qc : vw_C} {fs : List Value} (he : (w u)[q0]? = some (b, .inr (ci, fs))) (hc : vwCl[ci]? = some qc) (hqc : qc.1 = Cn) (hM : Met l y ws rm (kPc D w cy u H.size (.ref b :: As)) (kQl D w cy (va_A (w u) H.size) Q1) 0 0 (va_A (w u) H.size)) (hn : As.length = n) (hsz : ls.size = nL) (hst : st0 = As.reverse ++ .ref b :: rest) (hrs : (rest.map fun v => v.category).sum ≤ 8) (hf : cells ≤ R.cells ∧ slots ≤ R.slots) (hdg : decode cc pc = .ok (.invokevirtual index, 3))
    (kk : ∀ (r : Int64) (u1 : ST) (H1 : Heap) (locs1 : List Loc), Q1 r u1 → kH D w A s u1 H1 locs1 → W p l e R s m args below meth c H1 locs1 cells slots Q (F0 m (pc + 3) ls (.long r :: rest))) : W p l e R s m args below meth c H locs cells slots Q (F0 m pc ls st0) := by
  subst hqc
  refine va_calll (va_runV (As := As) (rest := rest) C.1 hM cw ⟨kBlind _ _ _ _ _ _, va_recv C.2.1 h.1 hc he, kpre C h _⟩ rfl hn hsz hst (lv_room (m := m) (pc := pc) (ls := ls) (rest := st0) hrs) hdg hf) h.2.2 (fun q _ hq => kfree h C.2.2 q hq) (kfree h C.2.2) (fun r u1 t H1 locs1 ht hvm hw hB hz1 hk1 hS => ?_)
  exact kk r u1 H1 locs1 hw (kafter C h ht hB hS)
theorem kVv {Q1 : ST → Prop} (C : kC p m c cc nL s args own D cy A) (h : kH D w A s u H locs) (cw : CallW R s args own Cn index y bytes maxL ret ws rm 0 0 n) (q0 : Nat) {ci : Nat} {qc : vw_C} {fs : List Value} (he : (w u)[q0]? = some (b, .inr (ci, fs))) (hc : vwCl[ci]? = some qc) (hqc : qc.1 = Cn) (hM : Met l y ws rm (kPc D w cy u H.size (.ref b :: As)) (kQv D w cy (va_A (w u) H.size) Q1) 0 0 (va_A (w u) H.size)) (hn : As.length = n) (hsz : ls.size = nL) (hst : st0 = As.reverse ++ .ref b :: rest) (hrs : (rest.map fun v => v.category).sum ≤ 8) (hf : cells ≤ R.cells ∧ slots ≤ R.slots) (hdg : decode cc pc = .ok (.invokevirtual index, 3))
    (kk : ∀ (u1 : ST) (H1 : Heap) (locs1 : List Loc), Q1 u1 → kH D w A s u1 H1 locs1 → W p l e R s m args below meth c H1 locs1 cells slots Q (F0 m (pc + 3) ls rest)) : W p l e R s m args below meth c H locs cells slots Q (F0 m pc ls st0) := by
  subst hqc
  refine va_callv (va_runV (As := As) (rest := rest) C.1 hM cw ⟨kBlind _ _ _ _ _ _, va_recv C.2.1 h.1 hc he, kpre C h _⟩ rfl hn hsz hst (lv_room (m := m) (pc := pc) (ls := ls) (rest := st0) hrs) hdg hf) h.2.2 (fun q _ hq => kfree h C.2.2 q hq) (kfree h C.2.2) (fun u1 t H1 locs1 ht hvm hw hB hz1 hk1 hS => ?_)
  exact kk u1 H1 locs1 hw (kafter C h ht hB hS)
theorem kSi {Q1 : Int32 → ST → Prop} (C : kC p m c cc nL s args own D cy A) (h : kH D w A s u H locs) (cw : CallB R s args own index y bytes maxL ret ws rm 0 0 n ∧ (Cond.static y).before args s = true) (hM : Met l y ws rm (kPc D w cy u H.size As) (kQi D w cy (va_A (w u) H.size) Q1) 0 0 (va_A (w u) H.size)) (hn : As.length = n) (hsz : ls.size = nL) (hst : st0 = As.reverse ++ rest) (hrs : (rest.map fun v => v.category).sum ≤ 8) (hf : cells ≤ R.cells ∧ slots ≤ R.slots) (hdg : decode cc pc = .ok (.invokestatic index, 3))
    (kk : ∀ (r : Int32) (u1 : ST) (H1 : Heap) (locs1 : List Loc), Q1 r u1 → kH D w A s u1 H1 locs1 → W p l e R s m args below meth c H1 locs1 cells slots Q (F0 m (pc + 3) ls (.int r :: rest))) : W p l e R s m args below meth c H locs cells slots Q (F0 m pc ls st0) := by
  refine va_calli (va_runS (As := As) (rest := rest) C.1 hM cw ⟨kBlind _ _ _ _ _ _, kpre C h _⟩ rfl hn hsz hst (lv_room (m := m) (pc := pc) (ls := ls) (rest := st0) hrs) hdg hf) h.2.2 (fun q _ hq => kfree h C.2.2 q hq) (kfree h C.2.2) (fun r u1 t H1 locs1 ht hvm hw hB hz1 hk1 hS => ?_)
  exact kk r u1 H1 locs1 hw (kafter C h ht hB hS)
theorem kSv {Q1 : ST → Prop} (C : kC p m c cc nL s args own D cy A) (h : kH D w A s u H locs) (cw : CallB R s args own index y bytes maxL ret ws rm 0 0 n ∧ (Cond.static y).before args s = true) (hM : Met l y ws rm (kPc D w cy u H.size As) (kQv D w cy (va_A (w u) H.size) Q1) 0 0 (va_A (w u) H.size)) (hn : As.length = n) (hsz : ls.size = nL) (hst : st0 = As.reverse ++ rest) (hrs : (rest.map fun v => v.category).sum ≤ 8) (hf : cells ≤ R.cells ∧ slots ≤ R.slots) (hdg : decode cc pc = .ok (.invokestatic index, 3))
    (kk : ∀ (u1 : ST) (H1 : Heap) (locs1 : List Loc), Q1 u1 → kH D w A s u1 H1 locs1 → W p l e R s m args below meth c H1 locs1 cells slots Q (F0 m (pc + 3) ls rest)) : W p l e R s m args below meth c H locs cells slots Q (F0 m pc ls st0) := by
  refine va_callv (va_runS (As := As) (rest := rest) C.1 hM cw ⟨kBlind _ _ _ _ _ _, kpre C h _⟩ rfl hn hsz hst (lv_room (m := m) (pc := pc) (ls := ls) (rest := st0) hrs) hdg hf) h.2.2 (fun q _ hq => kfree h C.2.2 q hq) (kfree h C.2.2) (fun u1 t H1 locs1 ht hvm hw hB hz1 hk1 hS => ?_)
  exact kk u1 H1 locs1 hw (kafter C h ht hB hS)
end KR
/-- a method's contract out of the walk of its body -/
theorem kMet {l : Launch} {y : MethodName} {cc : ByteArray} {nL : Nat} {ret : Option FieldType} {rm : Room} {D : va_G} {w : ST → va_W} {cy : CY} {u : ST} {sz : Nat} {av : List Value} {Qc : Array Value → State → Outcome → State → Prop} {mc ms : Nat} (hy : plainName y.cls = true) (hlen : (lg_sl av).length ≤ nL)
    (body : ∀ (p : Program) (e : Env) (s : State) (m : MethodId) (below : List Frame) (meth : Method) (c : Code) (ls : Array Slot), s.heap.size = sz → kC p m c cc nL s av.toArray y.cls D cy (va_A (w u) sz) → meth.sig.returnType = ret → meth.locks = false → c.exceptionTable.isEmpty = true → kH D w (va_A (w u) sz) s u s.heap [] → lv_has ls nL (lv_args 0 av) → W p l e rm s m av.toArray below meth c s.heap [] 0 0 (MQ below Qc av.toArray s mc ms (va_A (w u) sz)) (F0 m 0 ls [])) : Met l y (wM y cc nL ret) rm (kPc D w cy u sz av) Qc mc ms (va_A (w u) sz) := by
  refine Met.ofW (cc := cc) (maxL := nL) (ret := ret) hy rfl ?_
  intro p e s m args below meth c s₁ B hml hv
  obtain ⟨rfl, hsz, hP, hK, hD0⟩ := hv
  have hts := atoms_spec (ws := wM y cc nL ret) B.pre
  have hown : s.vm.findClass y.cls = some m.cls := findClass_of_methodNamed B.named
  have hl := lv_entry av (n := nL) hlen
  rw [lg_entry_eq]
  refine body p e s m below meth c _ hsz ⟨⟨B.exec, B.bytes, hml, hown, fun w hw => hts w (List.mem_cons_of_mem _ hw)⟩, hK, fun q hq => Or.inr (by rw [← hsz]; exact hq)⟩ B.returns B.notSynchronized (B.noHandlers (hts _ List.mem_cons_self)) ⟨hP, hD0.self, va_S.rf⟩ hl
