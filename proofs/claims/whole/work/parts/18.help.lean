/-! THE LAW's HELPERS: the class's world and the law's array 'out' (row 5 of longs, at ad 50) -/
def hW (cy : CY) (ad : Nat → Nat) (u : ST) : va_W := cW cy ad u ++ [(ad 50, .inl (cy.2.2.1, 1, .inr (.inl (gB u 5))))]
def sO (u : ST) (f : Nat → Int64) : ST := (u.1, u.2.1, u.2.2.1, fun j => if j = 5 then f else u.2.2.2.1 j, u.2.2.2.2)
theorem cW_sO (cy : CY) (ad : Nat → Nat) (u : ST) (f : Nat → Int64) : cW cy ad (sO u f) = cW cy ad u := rfl
theorem hW_out (cy : CY) (ad : Nat → Nat) (u : ST) : (hW cy ad u)[50]? = some (ad 50, .inl (cy.2.2.1, 1, .inr (.inl (gB u 5)))) := rfl
theorem hS_out (cy : CY) (ad : Nat → Nat) (u : ST) (i : Nat) (v : Int64) : (hW cy ad u).set 50 (ad 50, .inl (cy.2.2.1, 1, .inr (.inl (vp_updL (gB u 5) i v)))) = hW cy ad (sB u 5 i v) := rfl
theorem vp_in01 : vp_in 0 1 := by unfold vp_in; decide
theorem va_P.left {D : va_G} {cl : List vw_C} {a b : va_W} {H : Heap} (h : va_P D cl (a ++ b) H) : va_P D cl a H := fun k q hk => h k q (by rw [List.getElem?_append_left (List.getElem?_eq_some_iff.mp hk).1]; exact hk)
theorem va_P.right {D : va_G} {cl : List vw_C} {a b : va_W} {H : Heap} (h : va_P D cl (a ++ b) H) : va_P D cl b H := fun k q hk => h (a.length + k) q (by rw [List.getElem?_append_right (by omega), show a.length + k - a.length = k by omega]; exact hk)
theorem va_D.left {A : Nat → Prop} {a b : va_W} (h : va_D A (a ++ b)) : va_D A a := by
  have at' : ∀ (k : Nat) (q : Nat × va_E), a[k]? = some q → (a ++ b)[k]? = some q := fun k q hk => by rw [List.getElem?_append_left (List.getElem?_eq_some_iff.mp hk).1]; exact hk
  exact ⟨fun i j p q hi hj e => h.1 i j p q (at' i p hi) (at' j q hj) e, fun k q hk => h.2 k q (at' k q hk)⟩
theorem va_D.right {A : Nat → Prop} {a b : va_W} (h : va_D A (a ++ b)) : va_D A b := by
  have at' : ∀ (k : Nat) (q : Nat × va_E), b[k]? = some q → (a ++ b)[a.length + k]? = some q := fun k q hk => by rw [List.getElem?_append_right (by omega), show a.length + k - a.length = k by omega]; exact hk
  exact ⟨fun i j p q hi hj e => by have := h.1 _ _ p q (at' i p hi) (at' j q hj) e; omega, fun k q hk => h.2 _ q (at' k q hk)⟩
theorem va_D.cross {A : Nat → Prop} {a b : va_W} (h : va_D A (a ++ b)) (i j : Nat) (p q : Nat × va_E) (hi : a[i]? = some p) (hj : b[j]? = some q) : p.1 ≠ q.1 := fun e => by
  have hl := (List.getElem?_eq_some_iff.mp hi).1
  have := h.1 i (a.length + j) p q (by rw [List.getElem?_append_left hl]; exact hi) (by rw [List.getElem?_append_right (by omega), show a.length + j - a.length = j by omega]; exact hj) e
  omega
/-- behind a call on the left part -/
theorem va_frL {A : Nat → Prop} {D : va_G} {cl : List vw_C} {a b a1 : va_W} {H H1 : Heap} (hP : va_P D cl (a ++ b) H) (hD : va_D A (a ++ b)) (hA : ∀ q, va_A a H.size q → A q) (hk : ∀ q : Nat, q < H.size → ¬ va_A a H.size q → H1[q]? = H[q]?) (hP1 : va_P D cl a1 H1) (hD1 : va_D (va_A a H.size) a1) : va_P D cl (a1 ++ b) H1 ∧ va_D A (a1 ++ b) := by
  have out : ∀ (j : Nat) (q : Nat × va_E), b[j]? = some q → q.1 < H.size ∧ ¬ va_A a H.size q.1 := fun j q hj => by
    have hl := (hP.right j q hj).lt
    refine ⟨hl, fun h => ?_⟩
    rcases h with ⟨k, e, hk⟩ | h
    · exact hD.cross k j (q.1, e) q hk hj rfl
    · omega
  refine ⟨hP1.app (fun j q hj => (hP.right j q hj).kept (hk q.1 (out j q hj).1 (out j q hj).2)), va_D.app (hD1.weaken (fun _ q _ h => hA q.1 h)) hD.right (fun i j x y hx hy e => ?_)⟩
  exact (out j y hy).2 (by rw [← e]; exact hD1.2 i x hx)
/-- behind a call on the right part -/
theorem va_frR {A : Nat → Prop} {D : va_G} {cl : List vw_C} {a b b1 : va_W} {H H1 : Heap} (hP : va_P D cl (a ++ b) H) (hD : va_D A (a ++ b)) (hA : ∀ q, va_A b H.size q → A q) (hk : ∀ q : Nat, q < H.size → ¬ va_A b H.size q → H1[q]? = H[q]?) (hP1 : va_P D cl b1 H1) (hD1 : va_D (va_A b H.size) b1) : va_P D cl (a ++ b1) H1 ∧ va_D A (a ++ b1) := by
  have out : ∀ (j : Nat) (q : Nat × va_E), a[j]? = some q → q.1 < H.size ∧ ¬ va_A b H.size q.1 := fun j q hj => by
    have hl := (hP.left j q hj).lt
    refine ⟨hl, fun h => ?_⟩
    rcases h with ⟨k, e, hk⟩ | h
    · exact hD.cross j k q (q.1, e) hj hk rfl
    · omega
  refine ⟨va_P.app (fun j q hj => (hP.left j q hj).kept (hk q.1 (out j q hj).1 (out j q hj).2)) hP1, va_D.app hD.left (hD1.weaken (fun _ q _ h => hA q.1 h)) (fun i j x y hx hy e => ?_)⟩
  exact (out i x hx).2 (by rw [e]; exact hD1.2 j y hy)
theorem hsub {D : va_G} {cy : CY} {ad : Nat → Nat} {A : Nat → Prop} {s : State} {u : ST} {H : Heap} {locs : List Loc} (h : kH D (hW cy ad) A s u H locs) : kH D (cW cy ad) A s u H locs := ⟨h.1.left, h.2.1.left, h.2.2⟩
theorem hafter {D : va_G} {cy : CY} {ad : Nat → Nat} {A : Nat → Prop} {s t : State} {u u1 : ST} {H H1 : Heap} {locs locs1 : List Loc} (hA : ∀ q, s.heap.size ≤ q → A q) (h : kH D (hW cy ad) A s u H locs) (ht : t.heap = H1) (hB : kAt D (cW cy ad) cy (va_A (cW cy ad u) H.size) u1 t) (hk : ∀ q : Nat, q < H.size → ¬ va_A (cW cy ad u) H.size q → H1[q]? = H[q]?) (hS : va_S A s.heap H1 locs1) : kH D (hW cy ad) A s (sO u1 (gB u 5)) H1 locs1 := by
  obtain ⟨hP1, hK1, hD1⟩ := hB
  rw [ht] at hP1
  have := va_frL h.1 h.2.1 (kfree (hsub h) hA) hk hP1 hD1
  exact ⟨this.1, this.2, hS⟩
def wMW (y : MethodName) (b : ByteArray) (n : Nat) (r : Option FieldType) (hh : List (Nat × Nat × Nat × Nat)) : List Cond := .codeWith y b n r hh :: wB
section HR
variable {p : Program} {l : Launch} {e : Env} {R : Room} {s : State} {m : MethodId} {args : Array Value} {below : List Frame} {meth : Method} {c : Code} {H : Heap} {locs : List Loc} {cells slots mc ms : Nat} {Q : State → Prop} {cc : ByteArray} {pc nL : Nat} {ls : Array Slot} {rest st0 : List Value} {D : va_G} {cy : CY} {A : Nat → Prop} {own : String} {u u1 : ST} {ad sa : Nat → Nat} {X1 : String → ST → Prop}
variable {y : MethodName} {bytes : ByteArray} {maxL n index mc1 ms1 : Nat} {ret : Option FieldType} {ws : List Cond} {rm : Room} {As : List Value}
theorem hXi {Q1 : Int32 → ST → Prop} (C : kC p m c cc nL s args own D cy A) (hT : kTh A sa s s.heap) (h : kH D (hW cy ad) A s u H locs) (cw : CallW R s args own RX6 index y bytes maxL ret ws rm mc1 ms1 n) (hM : vx_Met l y ws rm (kPx D (cW cy ad) cy sa u H.size (.ref (ad 0) :: As)) (kQi D (cW cy ad) cy (va_A (cW cy ad u) H.size) Q1) (kXC D (cW cy ad) cy (va_A (cW cy ad u) H.size) X1) mc1 ms1 (va_A (cW cy ad u) H.size)) (hn : As.length = n) (hsz : ls.size = nL) (hst : st0 = As.reverse ++ .ref (ad 0) :: rest) (hrs : (rest.map fun v => v.category).sum ≤ 8) (hf : cells + mc1 ≤ R.cells ∧ slots + ms1 ≤ R.slots) (hdg : decode cc pc = .ok (.invokevirtual index, 3))
    (kx : ∀ (E : String) (ce : Cell) (q9 : Addr) (u1 : ST) (H1 : Heap) (locs1 : List Loc), X1 E u1 → kH D (hW cy ad) A s (sO u1 (gB u 5)) H1 locs1 → H1[q9]? = some ce → ce.vm = .none → s.vm.findClass E = some ce.cls → vx_W p l e R s m args below meth c H1 locs1 (cells + mc1) (slots + ms1) Q (F0 m pc ls rest) q9)
    (kk : ∀ (r : Int32) (u1 : ST) (H1 : Heap) (locs1 : List Loc), Q1 r u1 → kH D (hW cy ad) A s (sO u1 (gB u 5)) H1 locs1 → W p l e R s m args below meth c H1 locs1 (cells + mc1) (slots + ms1) Q (F0 m (pc + 3) ls (.int r :: rest))) : W p l e R s m args below meth c H locs cells slots Q (F0 m pc ls st0) := by
  have hc := hsub h
  refine vx_calli (vx_runV (As := As) (rest := rest) C.1 hM cw ⟨kBlindX _ _ _ _ _ _ _, va_recv (ci := 6) (q0 := 0) C.2.1 hc.1 rfl rfl, kpreX C hT hc _⟩ rfl hn hsz hst (lv_room (m := m) (pc := pc) (ls := ls) (rest := st0) hrs) hdg hf) h.2.2 (fun q _ hq => kfree hc C.2.2 q hq) (kfree hc C.2.2) (fun q _ hq => kfree hc C.2.2 q hq) (fun E ce q9 u1 t H1 locs1 ht hvm hp hB hz1 hk1 hS hce hcv hcl => ?_) (fun r u1 t H1 locs1 ht hvm hw hB hz1 hk1 hS => ?_)
  · exact kx E ce q9 u1 H1 locs1 hB.1 (hafter C.2.2 h ht hB.2 hk1 hS) hce hcv hcl
  · exact kk r u1 H1 locs1 hw (hafter C.2.2 h ht hB hk1 hS)
theorem hXl {Q1 : Int64 → ST → Prop} (C : kC p m c cc nL s args own D cy A) (hT : kTh A sa s s.heap) (h : kH D (hW cy ad) A s u H locs) (cw : CallW R s args own RX6 index y bytes maxL ret ws rm mc1 ms1 n) (hM : vx_Met l y ws rm (kPx D (cW cy ad) cy sa u H.size (.ref (ad 0) :: As)) (kQl D (cW cy ad) cy (va_A (cW cy ad u) H.size) Q1) (kXC D (cW cy ad) cy (va_A (cW cy ad u) H.size) X1) mc1 ms1 (va_A (cW cy ad u) H.size)) (hn : As.length = n) (hsz : ls.size = nL) (hst : st0 = As.reverse ++ .ref (ad 0) :: rest) (hrs : (rest.map fun v => v.category).sum ≤ 8) (hf : cells + mc1 ≤ R.cells ∧ slots + ms1 ≤ R.slots) (hdg : decode cc pc = .ok (.invokevirtual index, 3))
    (kx : ∀ (E : String) (ce : Cell) (q9 : Addr) (u1 : ST) (H1 : Heap) (locs1 : List Loc), X1 E u1 → kH D (hW cy ad) A s (sO u1 (gB u 5)) H1 locs1 → H1[q9]? = some ce → ce.vm = .none → s.vm.findClass E = some ce.cls → vx_W p l e R s m args below meth c H1 locs1 (cells + mc1) (slots + ms1) Q (F0 m pc ls rest) q9)
    (kk : ∀ (r : Int64) (u1 : ST) (H1 : Heap) (locs1 : List Loc), Q1 r u1 → kH D (hW cy ad) A s (sO u1 (gB u 5)) H1 locs1 → W p l e R s m args below meth c H1 locs1 (cells + mc1) (slots + ms1) Q (F0 m (pc + 3) ls (.long r :: rest))) : W p l e R s m args below meth c H locs cells slots Q (F0 m pc ls st0) := by
  have hc := hsub h
  refine vx_calll (vx_runV (As := As) (rest := rest) C.1 hM cw ⟨kBlindX _ _ _ _ _ _ _, va_recv (ci := 6) (q0 := 0) C.2.1 hc.1 rfl rfl, kpreX C hT hc _⟩ rfl hn hsz hst (lv_room (m := m) (pc := pc) (ls := ls) (rest := st0) hrs) hdg hf) h.2.2 (fun q _ hq => kfree hc C.2.2 q hq) (kfree hc C.2.2) (fun q _ hq => kfree hc C.2.2 q hq) (fun E ce q9 u1 t H1 locs1 ht hvm hp hB hz1 hk1 hS hce hcv hcl => ?_) (fun r u1 t H1 locs1 ht hvm hw hB hz1 hk1 hS => ?_)
  · exact kx E ce q9 u1 H1 locs1 hB.1 (hafter C.2.2 h ht hB.2 hk1 hS) hce hcv hcl
  · exact kk r u1 H1 locs1 hw (hafter C.2.2 h ht hB hk1 hS)
theorem hXv {Q1 : ST → Prop} (C : kC p m c cc nL s args own D cy A) (hT : kTh A sa s s.heap) (h : kH D (hW cy ad) A s u H locs) (cw : CallW R s args own RX6 index y bytes maxL ret ws rm mc1 ms1 n) (hM : vx_Met l y ws rm (kPx D (cW cy ad) cy sa u H.size (.ref (ad 0) :: As)) (kQv D (cW cy ad) cy (va_A (cW cy ad u) H.size) Q1) (kXC D (cW cy ad) cy (va_A (cW cy ad u) H.size) X1) mc1 ms1 (va_A (cW cy ad u) H.size)) (hn : As.length = n) (hsz : ls.size = nL) (hst : st0 = As.reverse ++ .ref (ad 0) :: rest) (hrs : (rest.map fun v => v.category).sum ≤ 8) (hf : cells + mc1 ≤ R.cells ∧ slots + ms1 ≤ R.slots) (hdg : decode cc pc = .ok (.invokevirtual index, 3))
    (kx : ∀ (E : String) (ce : Cell) (q9 : Addr) (u1 : ST) (H1 : Heap) (locs1 : List Loc), X1 E u1 → kH D (hW cy ad) A s (sO u1 (gB u 5)) H1 locs1 → H1[q9]? = some ce → ce.vm = .none → s.vm.findClass E = some ce.cls → vx_W p l e R s m args below meth c H1 locs1 (cells + mc1) (slots + ms1) Q (F0 m pc ls rest) q9)
    (kk : ∀ (u1 : ST) (H1 : Heap) (locs1 : List Loc), Q1 u1 → kH D (hW cy ad) A s (sO u1 (gB u 5)) H1 locs1 → W p l e R s m args below meth c H1 locs1 (cells + mc1) (slots + ms1) Q (F0 m (pc + 3) ls rest)) : W p l e R s m args below meth c H locs cells slots Q (F0 m pc ls st0) := by
  have hc := hsub h
  refine vx_callv (vx_runV (As := As) (rest := rest) C.1 hM cw ⟨kBlindX _ _ _ _ _ _ _, va_recv (ci := 6) (q0 := 0) C.2.1 hc.1 rfl rfl, kpreX C hT hc _⟩ rfl hn hsz hst (lv_room (m := m) (pc := pc) (ls := ls) (rest := st0) hrs) hdg hf) h.2.2 (fun q _ hq => kfree hc C.2.2 q hq) (kfree hc C.2.2) (fun q _ hq => kfree hc C.2.2 q hq) (fun E ce q9 u1 t H1 locs1 ht hvm hp hB hz1 hk1 hS hce hcv hcl => ?_) (fun u1 t H1 locs1 ht hvm hw hB hz1 hk1 hS => ?_)
  · exact kx E ce q9 u1 H1 locs1 hB.1 (hafter C.2.2 h ht hB.2 hk1 hS) hce hcv hcl
  · exact kk u1 H1 locs1 hw (hafter C.2.2 h ht hB hk1 hS)
end HR
theorem kMetW {l : Launch} {y : MethodName} {cc : ByteArray} {nL : Nat} {ret : Option FieldType} {hh : List (Nat × Nat × Nat × Nat)} {rm : Room} {D : va_G} {w : ST → va_W} {cy : CY} {sa : Nat → Nat} {u : ST} {sz : Nat} {av : List Value} {Qc : Array Value → State → Outcome → State → Prop} {mc ms : Nat} (hy : plainName y.cls = true) (hlen : (lg_sl av).length ≤ nL)
    (body : ∀ (p : Program) (e : Env) (s : State) (m : MethodId) (below : List Frame) (meth : Method) (c : Code) (ls : Array Slot), s.heap.size = sz → kC p m c cc nL s av.toArray y.cls D cy (va_A (w u) sz) → kTh (va_A (w u) sz) sa s s.heap → meth.sig.returnType = ret → meth.locks = false → c.exceptionTable.toList = tableOf hh → kH D w (va_A (w u) sz) s u s.heap [] → lv_has ls nL (lv_args 0 av) → W p l e rm s m av.toArray below meth c s.heap [] 0 0 (MQ below Qc av.toArray s mc ms (va_A (w u) sz)) (F0 m 0 ls [])) : Met l y (wMW y cc nL ret hh) rm (kPx D w cy sa u sz av) Qc mc ms (va_A (w u) sz) := by
  refine va_MetW (cc := cc) (maxL := nL) (ret := ret) (hh := hh) hy rfl ?_
  intro p e s m args below meth c s₁ B hml hv
  obtain ⟨rfl, hsz, hP, hK, hD0, hT⟩ := hv
  have hts := atoms_spec (ws := wMW y cc nL ret hh) B.pre
  have hown : s.vm.findClass y.cls = some m.cls := findClass_of_methodNamed B.named
  have hl := lv_entry av (n := nL) hlen
  rw [lg_entry_eq]
  exact body p e s m below meth c _ hsz ⟨⟨B.exec, B.bytes, hml, hown, fun w hw => hts w (List.mem_cons_of_mem _ hw)⟩, hK, fun q hq => Or.inr (by rw [← hsz]; exact hq)⟩ hT B.returns B.notSynchronized (vx_table (x := y) B (hts _ List.mem_cons_self)) ⟨hP, hD0.self, va_S.rf⟩ hl
def wL_type (y1 : Int64) (x3 : Int32) (u : ST) (Q : Int32 → ST → Prop) : Prop :=
  wX6_type y1 x3 u (fun r u1 => Q 0 (sB (sO u1 (gB u 5)) 5 (0 : Int32).toNatClampNeg (r : Int32).toInt64)) (fun E u1 => (E = xIAE ∧ Q 1 (sO u1 (gB u 5))) ∨ (E = xUOE ∧ Q 2 (sO u1 (gB u 5))))
set_option maxHeartbeats 4000000 in
set_option maxRecDepth 100000 in
theorem mL_type (l : Launch) (hst : l.stackTraces = false) (D : va_G) (cy : CY) (ad sa : Nat → Nat) (y1 : Int64) (x3 : Int32) (u : ST) (sz : Nat) {Q : Int32 → ST → Prop} (hw : wL_type y1 x3 u Q) : Met l yL_type (wMW yL_type cL_type 6 (some .int) [(0, 11, 14, 13), (0, 11, 18, 15)]) (kRx 8 2 12) (kPx D (hW cy ad) cy sa u sz [.ref (ad 0), .long y1, .int x3, .ref (ad 50)]) (kQi D (hW cy ad) cy (va_A (hW cy ad u) sz) Q) 2 12 (va_A (hW cy ad u) sz) := by
  refine kMetW pn_L_type (Nat.le_of_ble_eq_true rfl) (fun p e s m below meth c ls hsz C hT hr hlk hex h hl => ?_)
  have hl : lv_has ls 6 [(0, .ref (ad 0)), (1, .long y1), (3, .int x3), (4, .ref (ad 50))] := hl
  obtain ⟨⟨hx, hb, hml, hown, hts⟩, hK, hA⟩ := id C
  unfold wL_type at hw
  have h : kH D (hW cy ad) (va_A (hW cy ad u) sz) s u s.heap [] := h
  refine lv_aload hx hb dL_type_0 (lv_at hl 3 rfl) ?_
  refine lv_iconst (v := 0) hx hb dL_type_2 (by decide) ?_
  refine lv_aload_n hx hb dL_type_3 rfl (lv_at hl 0 rfl) ?_
  refine lv_lload_n hx hb dL_type_4 rfl (lv_at hl 1 rfl) ?_
  refine lv_iload_n hx hb dL_type_5 rfl (lv_at hl 2 rfl) ?_
  refine hXi (As := [.long y1, .int x3]) (rest := [.int 0, .ref (ad 50)]) C hT h (cwV 2 hts (gd_V wi_ml_L_7 wi_im_X6_type wi_se_X6_type wi_in_X6 wi_co_X6_type) rfl rfl rfl hd_X6_type ⟨Nat.le_of_ble_eq_true rfl, Nat.le_of_ble_eq_true rfl⟩) (mX6_type l hst D cy ad sa y1 x3 u _ hw) rfl hl.1 rfl (Nat.le_of_ble_eq_true rfl) ⟨Nat.le_of_ble_eq_true rfl, Nat.le_of_ble_eq_true rfl⟩ dL_type_6 (fun E ce q9 u1 H locs hw h hce hcv hcl => ?_) (fun r u1 H locs hw h => ?_)
  · rcases hw with ⟨rfl, hw⟩ | ⟨rfl, hw⟩
    · refine vx_catch (name := xIAE) hown [] ⟨0, 11, 14, 13⟩ [⟨0, 11, 18, 15⟩] (by rw [hex]; rfl) (fun z hz => by cases hz) rfl (by decide) (hts _ wi_cl_L_13) ((hT.2.2.2.2.1 xIAE (by decide)).use rfl) hce hcv hcl ?_
      refine lv_astore (lv' := [(5, .ref q9), (0, .ref (ad 0)), (1, .long y1), (3, .int x3), (4, .ref (ad 50))]) hx hb dL_type_14 hl (by decide) rfl (fun ls hl => ?_)
      refine lv_iconst (v := 1) hx hb dL_type_16 (by decide) ?_
      exact kretI C hr hlk h hw dL_type_17
    · refine vx_catch (name := xUOE) hown [⟨0, 11, 14, 13⟩] ⟨0, 11, 18, 15⟩ [] (by rw [hex]; rfl) (fun z hz => by
        rcases List.mem_singleton.mp hz with rfl
        exact Or.inr ⟨by decide, xIAE, hts _ wi_cl_L_13, hT.2.2.2.2.2.1⟩) rfl (by decide) (hts _ wi_cl_L_15) ((hT.2.2.2.2.1 xUOE (by decide)).use rfl) hce hcv hcl ?_
      refine lv_astore (lv' := [(5, .ref q9), (0, .ref (ad 0)), (1, .long y1), (3, .int x3), (4, .ref (ad 50))]) hx hb dL_type_18 hl (by decide) rfl (fun ls hl => ?_)
      refine lv_iconst (v := 2) hx hb dL_type_20 (by decide) ?_
      exact kretI C hr hlk h hw dL_type_21
  · refine lv_i2l hx hb dL_type_9 rfl ?_
    refine klast C h 50 (hW_out cy ad _) vp_in01 (hS_out cy ad _ _ _) dL_type_10 (fun H locs h => ?_)
    refine lv_goto (tgt := 22) hx hb dL_type_11 (by decide) ?_
    refine lv_iconst (v := 0) hx hb dL_type_22 (by decide) ?_
    exact kretI C hr hlk h hw dL_type_23
def wL_keep (x1 : Int32) (u : ST) (Q : Int32 → ST → Prop) : Prop :=
  wX6_keep x1 u (fun u1 => Q 0 (sO u1 (gB u 5))) (fun E u1 => (E = xIAE ∧ Q 1 (sO u1 (gB u 5))))
set_option maxHeartbeats 4000000 in
set_option maxRecDepth 100000 in
theorem mL_keep (l : Launch) (hst : l.stackTraces = false) (D : va_G) (cy : CY) (ad sa : Nat → Nat) (x1 : Int32) (u : ST) (sz : Nat) {Q : Int32 → ST → Prop} (hw : wL_keep x1 u Q) : Met l yL_keep (wMW yL_keep cL_keep 3 (some .int) [(0, 5, 8, 13)]) (kRx 8 2 12) (kPx D (hW cy ad) cy sa u sz [.ref (ad 0), .int x1]) (kQi D (hW cy ad) cy (va_A (hW cy ad u) sz) Q) 2 12 (va_A (hW cy ad u) sz) := by
  refine kMetW pn_L_keep (Nat.le_of_ble_eq_true rfl) (fun p e s m below meth c ls hsz C hT hr hlk hex h hl => ?_)
  have hl : lv_has ls 3 [(0, .ref (ad 0)), (1, .int x1)] := hl
  obtain ⟨⟨hx, hb, hml, hown, hts⟩, hK, hA⟩ := id C
  unfold wL_keep at hw
  have h : kH D (hW cy ad) (va_A (hW cy ad u) sz) s u s.heap [] := h
  refine lv_aload_n hx hb dL_keep_0 rfl (lv_at hl 0 rfl) ?_
  refine lv_iload_n hx hb dL_keep_1 rfl (lv_at hl 1 rfl) ?_
  refine hXv (As := [.int x1]) (rest := []) C hT h (cwV 1 hts (gd_V wi_ml_L_17 wi_im_X6_keep wi_se_X6_keep wi_in_X6 wi_co_X6_keep) rfl rfl rfl hd_X6_keep ⟨Nat.le_of_ble_eq_true rfl, Nat.le_of_ble_eq_true rfl⟩) (mX6_keep l hst D cy ad sa x1 u _ hw) rfl hl.1 rfl (Nat.le_of_ble_eq_true rfl) ⟨Nat.le_of_ble_eq_true rfl, Nat.le_of_ble_eq_true rfl⟩ dL_keep_2 (fun E ce q9 u1 H locs hw h hce hcv hcl => ?_) (fun u1 H locs hw h => ?_)
  · rcases hw with ⟨rfl, hw⟩
    · refine vx_catch (name := xIAE) hown [] ⟨0, 5, 8, 13⟩ [] (by rw [hex]; rfl) (fun z hz => by cases hz) rfl (by decide) (hts _ wi_cl_L_13) ((hT.2.2.2.2.1 xIAE (by decide)).use rfl) hce hcv hcl ?_
      refine lv_astore_n (lv' := [(2, .ref q9), (0, .ref (ad 0)), (1, .int x1)]) hx hb dL_keep_8 rfl hl (by decide) rfl (fun ls hl => ?_)
      refine lv_iconst (v := 1) hx hb dL_keep_9 (by decide) ?_
      exact kretI C hr hlk h hw dL_keep_10
  · refine lv_goto (tgt := 11) hx hb dL_keep_5 (by decide) ?_
    refine lv_iconst (v := 0) hx hb dL_keep_11 (by decide) ?_
    exact kretI C hr hlk h hw dL_keep_12
def wL_amiss (x1 : Int32) (u : ST) (Q : Int32 → ST → Prop) : Prop :=
  wX6_amiss x1 u (fun r u1 => Q 0 (sB (sO u1 (gB u 5)) 5 (0 : Int32).toNatClampNeg (r : Int32).toInt64)) (fun E u1 => (E = xISE ∧ Q 1 (sO u1 (gB u 5))) ∨ (E = xIOB ∧ Q 2 (sO u1 (gB u 5))))
set_option maxHeartbeats 4000000 in
set_option maxRecDepth 100000 in
theorem mL_amiss (l : Launch) (hst : l.stackTraces = false) (D : va_G) (cy : CY) (ad sa : Nat → Nat) (x1 : Int32) (u : ST) (sz : Nat) {Q : Int32 → ST → Prop} (hw : wL_amiss x1 u Q) : Met l yL_amiss (wMW yL_amiss cL_amiss 4 (some .int) [(0, 9, 12, 25), (0, 9, 15, 27)]) (kRx 8 2 12) (kPx D (hW cy ad) cy sa u sz [.ref (ad 0), .int x1, .ref (ad 50)]) (kQi D (hW cy ad) cy (va_A (hW cy ad u) sz) Q) 2 12 (va_A (hW cy ad u) sz) := by
  refine kMetW pn_L_amiss (Nat.le_of_ble_eq_true rfl) (fun p e s m below meth c ls hsz C hT hr hlk hex h hl => ?_)
  have hl : lv_has ls 4 [(0, .ref (ad 0)), (1, .int x1), (2, .ref (ad 50))] := hl
  obtain ⟨⟨hx, hb, hml, hown, hts⟩, hK, hA⟩ := id C
  unfold wL_amiss at hw
  have h : kH D (hW cy ad) (va_A (hW cy ad u) sz) s u s.heap [] := h
  refine lv_aload_n hx hb dL_amiss_0 rfl (lv_at hl 2 rfl) ?_
  refine lv_iconst (v := 0) hx hb dL_amiss_1 (by decide) ?_
  refine lv_aload_n hx hb dL_amiss_2 rfl (lv_at hl 0 rfl) ?_
  refine lv_iload_n hx hb dL_amiss_3 rfl (lv_at hl 1 rfl) ?_
  refine hXi (As := [.int x1]) (rest := [.int 0, .ref (ad 50)]) C hT h (cwV 1 hts (gd_V wi_ml_L_21 wi_im_X6_amiss wi_se_X6_amiss wi_in_X6 wi_co_X6_amiss) rfl rfl rfl hd_X6_amiss ⟨Nat.le_of_ble_eq_true rfl, Nat.le_of_ble_eq_true rfl⟩) (mX6_amiss l hst D cy ad sa x1 u _ hw) rfl hl.1 rfl (Nat.le_of_ble_eq_true rfl) ⟨Nat.le_of_ble_eq_true rfl, Nat.le_of_ble_eq_true rfl⟩ dL_amiss_4 (fun E ce q9 u1 H locs hw h hce hcv hcl => ?_) (fun r u1 H locs hw h => ?_)
  · rcases hw with ⟨rfl, hw⟩ | ⟨rfl, hw⟩
    · refine vx_catch (name := xISE) hown [] ⟨0, 9, 12, 25⟩ [⟨0, 9, 15, 27⟩] (by rw [hex]; rfl) (fun z hz => by cases hz) rfl (by decide) (hts _ wi_cl_L_25) ((hT.2.2.2.2.1 xISE (by decide)).use rfl) hce hcv hcl ?_
      refine lv_astore_n (lv' := [(3, .ref q9), (0, .ref (ad 0)), (1, .int x1), (2, .ref (ad 50))]) hx hb dL_amiss_12 rfl hl (by decide) rfl (fun ls hl => ?_)
      refine lv_iconst (v := 1) hx hb dL_amiss_13 (by decide) ?_
      exact kretI C hr hlk h hw dL_amiss_14
    · refine vx_catch (name := xIOB) hown [⟨0, 9, 12, 25⟩] ⟨0, 9, 15, 27⟩ [] (by rw [hex]; rfl) (fun z hz => by
        rcases List.mem_singleton.mp hz with rfl
        exact Or.inr ⟨by decide, xISE, hts _ wi_cl_L_25, hT.2.2.2.2.2.2⟩) rfl (by decide) (hts _ wi_cl_L_27) ((hT.2.2.2.2.1 xIOB (by decide)).use rfl) hce hcv hcl ?_
      refine lv_astore_n (lv' := [(3, .ref q9), (0, .ref (ad 0)), (1, .int x1), (2, .ref (ad 50))]) hx hb dL_amiss_15 rfl hl (by decide) rfl (fun ls hl => ?_)
      refine lv_iconst (v := 2) hx hb dL_amiss_16 (by decide) ?_
      exact kretI C hr hlk h hw dL_amiss_17
  · refine lv_i2l hx hb dL_amiss_7 rfl ?_
    refine klast C h 50 (hW_out cy ad _) vp_in01 (hS_out cy ad _ _ _) dL_amiss_8 (fun H locs h => ?_)
    refine lv_goto (tgt := 18) hx hb dL_amiss_9 (by decide) ?_
    refine lv_iconst (v := 0) hx hb dL_amiss_18 (by decide) ?_
    exact kretI C hr hlk h hw dL_amiss_19
def wL_count (x1 : Int32) (u : ST) (Q : Int32 → ST → Prop) : Prop :=
  wX6_count x1 u (fun r u1 => Q 0 (sB (sO u1 (gB u 5)) 5 (0 : Int32).toNatClampNeg (r : Int32).toInt64)) (fun E u1 => (E = xIOB ∧ Q 1 (sO u1 (gB u 5))))
set_option maxHeartbeats 4000000 in
set_option maxRecDepth 100000 in
theorem mL_count (l : Launch) (hst : l.stackTraces = false) (D : va_G) (cy : CY) (ad sa : Nat → Nat) (x1 : Int32) (u : ST) (sz : Nat) {Q : Int32 → ST → Prop} (hw : wL_count x1 u Q) : Met l yL_count (wMW yL_count cL_count 4 (some .int) [(0, 9, 12, 27)]) (kRx 8 2 12) (kPx D (hW cy ad) cy sa u sz [.ref (ad 0), .int x1, .ref (ad 50)]) (kQi D (hW cy ad) cy (va_A (hW cy ad u) sz) Q) 2 12 (va_A (hW cy ad u) sz) := by
  refine kMetW pn_L_count (Nat.le_of_ble_eq_true rfl) (fun p e s m below meth c ls hsz C hT hr hlk hex h hl => ?_)
  have hl : lv_has ls 4 [(0, .ref (ad 0)), (1, .int x1), (2, .ref (ad 50))] := hl
  obtain ⟨⟨hx, hb, hml, hown, hts⟩, hK, hA⟩ := id C
  unfold wL_count at hw
  have h : kH D (hW cy ad) (va_A (hW cy ad u) sz) s u s.heap [] := h
  refine lv_aload_n hx hb dL_count_0 rfl (lv_at hl 2 rfl) ?_
  refine lv_iconst (v := 0) hx hb dL_count_1 (by decide) ?_
  refine lv_aload_n hx hb dL_count_2 rfl (lv_at hl 0 rfl) ?_
  refine lv_iload_n hx hb dL_count_3 rfl (lv_at hl 1 rfl) ?_
  refine hXi (As := [.int x1]) (rest := [.int 0, .ref (ad 50)]) C hT h (cwV 1 hts (gd_V wi_ml_L_29 wi_im_X6_count wi_se_X6_count wi_in_X6 wi_co_X6_count) rfl rfl rfl hd_X6_count ⟨Nat.le_of_ble_eq_true rfl, Nat.le_of_ble_eq_true rfl⟩) (mX6_count l hst D cy ad sa x1 u _ hw) rfl hl.1 rfl (Nat.le_of_ble_eq_true rfl) ⟨Nat.le_of_ble_eq_true rfl, Nat.le_of_ble_eq_true rfl⟩ dL_count_4 (fun E ce q9 u1 H locs hw h hce hcv hcl => ?_) (fun r u1 H locs hw h => ?_)
  · rcases hw with ⟨rfl, hw⟩
    · refine vx_catch (name := xIOB) hown [] ⟨0, 9, 12, 27⟩ [] (by rw [hex]; rfl) (fun z hz => by cases hz) rfl (by decide) (hts _ wi_cl_L_27) ((hT.2.2.2.2.1 xIOB (by decide)).use rfl) hce hcv hcl ?_
      refine lv_astore_n (lv' := [(3, .ref q9), (0, .ref (ad 0)), (1, .int x1), (2, .ref (ad 50))]) hx hb dL_count_12 rfl hl (by decide) rfl (fun ls hl => ?_)
      refine lv_iconst (v := 1) hx hb dL_count_13 (by decide) ?_
      exact kretI C hr hlk h hw dL_count_14
  · refine lv_i2l hx hb dL_count_7 rfl ?_
    refine klast C h 50 (hW_out cy ad _) vp_in01 (hS_out cy ad _ _ _) dL_count_8 (fun H locs h => ?_)
    refine lv_goto (tgt := 15) hx hb dL_count_9 (by decide) ?_
    refine lv_iconst (v := 0) hx hb dL_count_15 (by decide) ?_
    exact kretI C hr hlk h hw dL_count_16
def wL_rule (x1 : Int32) (x2 : Int32) (u : ST) (Q : Int32 → ST → Prop) : Prop :=
  wX6_rule x1 x2 u (fun r u1 => Q 0 (sB (sO u1 (gB u 5)) 5 (0 : Int32).toNatClampNeg (r : Int32).toInt64)) (fun E u1 => (E = xIOB ∧ Q 1 (sO u1 (gB u 5))))
set_option maxHeartbeats 4000000 in
set_option maxRecDepth 100000 in
theorem mL_rule (l : Launch) (hst : l.stackTraces = false) (D : va_G) (cy : CY) (ad sa : Nat → Nat) (x1 : Int32) (x2 : Int32) (u : ST) (sz : Nat) {Q : Int32 → ST → Prop} (hw : wL_rule x1 x2 u Q) : Met l yL_rule (wMW yL_rule cL_rule 5 (some .int) [(0, 10, 13, 27)]) (kRx 8 2 12) (kPx D (hW cy ad) cy sa u sz [.ref (ad 0), .int x1, .int x2, .ref (ad 50)]) (kQi D (hW cy ad) cy (va_A (hW cy ad u) sz) Q) 2 12 (va_A (hW cy ad u) sz) := by
  refine kMetW pn_L_rule (Nat.le_of_ble_eq_true rfl) (fun p e s m below meth c ls hsz C hT hr hlk hex h hl => ?_)
  have hl : lv_has ls 5 [(0, .ref (ad 0)), (1, .int x1), (2, .int x2), (3, .ref (ad 50))] := hl
  obtain ⟨⟨hx, hb, hml, hown, hts⟩, hK, hA⟩ := id C
  unfold wL_rule at hw
  have h : kH D (hW cy ad) (va_A (hW cy ad u) sz) s u s.heap [] := h
  refine lv_aload_n hx hb dL_rule_0 rfl (lv_at hl 3 rfl) ?_
  refine lv_iconst (v := 0) hx hb dL_rule_1 (by decide) ?_
  refine lv_aload_n hx hb dL_rule_2 rfl (lv_at hl 0 rfl) ?_
  refine lv_iload_n hx hb dL_rule_3 rfl (lv_at hl 1 rfl) ?_
  refine lv_iload_n hx hb dL_rule_4 rfl (lv_at hl 2 rfl) ?_
  refine hXi (As := [.int x1, .int x2]) (rest := [.int 0, .ref (ad 50)]) C hT h (cwV 2 hts (gd_V wi_ml_L_32 wi_im_X6_rule wi_se_X6_rule wi_in_X6 wi_co_X6_rule) rfl rfl rfl hd_X6_rule ⟨Nat.le_of_ble_eq_true rfl, Nat.le_of_ble_eq_true rfl⟩) (mX6_rule l hst D cy ad sa x1 x2 u _ hw) rfl hl.1 rfl (Nat.le_of_ble_eq_true rfl) ⟨Nat.le_of_ble_eq_true rfl, Nat.le_of_ble_eq_true rfl⟩ dL_rule_5 (fun E ce q9 u1 H locs hw h hce hcv hcl => ?_) (fun r u1 H locs hw h => ?_)
  · rcases hw with ⟨rfl, hw⟩
    · refine vx_catch (name := xIOB) hown [] ⟨0, 10, 13, 27⟩ [] (by rw [hex]; rfl) (fun z hz => by cases hz) rfl (by decide) (hts _ wi_cl_L_27) ((hT.2.2.2.2.1 xIOB (by decide)).use rfl) hce hcv hcl ?_
      refine lv_astore (lv' := [(4, .ref q9), (0, .ref (ad 0)), (1, .int x1), (2, .int x2), (3, .ref (ad 50))]) hx hb dL_rule_13 hl (by decide) rfl (fun ls hl => ?_)
      refine lv_iconst (v := 1) hx hb dL_rule_15 (by decide) ?_
      exact kretI C hr hlk h hw dL_rule_16
  · refine lv_i2l hx hb dL_rule_8 rfl ?_
    refine klast C h 50 (hW_out cy ad _) vp_in01 (hS_out cy ad _ _ _) dL_rule_9 (fun H locs h => ?_)
    refine lv_goto (tgt := 17) hx hb dL_rule_10 (by decide) ?_
    refine lv_iconst (v := 0) hx hb dL_rule_17 (by decide) ?_
    exact kretI C hr hlk h hw dL_rule_18
def wL_name (x1 : Int32) (x2 : Int32) (x3 : Int32) (u : ST) (Q : Int32 → ST → Prop) : Prop :=
  wX6_name x1 x2 x3 u (fun r u1 => Q 0 (sB (sO u1 (gB u 5)) 5 (0 : Int32).toNatClampNeg (r : Int32).toInt64)) (fun E u1 => (E = xIOB ∧ Q 1 (sO u1 (gB u 5))))
set_option maxHeartbeats 4000000 in
set_option maxRecDepth 100000 in
theorem mL_name (l : Launch) (hst : l.stackTraces = false) (D : va_G) (cy : CY) (ad sa : Nat → Nat) (x1 : Int32) (x2 : Int32) (x3 : Int32) (u : ST) (sz : Nat) {Q : Int32 → ST → Prop} (hw : wL_name x1 x2 x3 u Q) : Met l yL_name (wMW yL_name cL_name 6 (some .int) [(0, 12, 15, 27)]) (kRx 8 2 12) (kPx D (hW cy ad) cy sa u sz [.ref (ad 0), .int x1, .int x2, .int x3, .ref (ad 50)]) (kQi D (hW cy ad) cy (va_A (hW cy ad u) sz) Q) 2 12 (va_A (hW cy ad u) sz) := by
  refine kMetW pn_L_name (Nat.le_of_ble_eq_true rfl) (fun p e s m below meth c ls hsz C hT hr hlk hex h hl => ?_)
  have hl : lv_has ls 6 [(0, .ref (ad 0)), (1, .int x1), (2, .int x2), (3, .int x3), (4, .ref (ad 50))] := hl
  obtain ⟨⟨hx, hb, hml, hown, hts⟩, hK, hA⟩ := id C
  unfold wL_name at hw
  have h : kH D (hW cy ad) (va_A (hW cy ad u) sz) s u s.heap [] := h
  refine lv_aload hx hb dL_name_0 (lv_at hl 4 rfl) ?_
  refine lv_iconst (v := 0) hx hb dL_name_2 (by decide) ?_
  refine lv_aload_n hx hb dL_name_3 rfl (lv_at hl 0 rfl) ?_
  refine lv_iload_n hx hb dL_name_4 rfl (lv_at hl 1 rfl) ?_
  refine lv_iload_n hx hb dL_name_5 rfl (lv_at hl 2 rfl) ?_
  refine lv_iload_n hx hb dL_name_6 rfl (lv_at hl 3 rfl) ?_
  refine hXi (As := [.int x1, .int x2, .int x3]) (rest := [.int 0, .ref (ad 50)]) C hT h (cwV 3 hts (gd_V wi_ml_L_36 wi_im_X6_name wi_se_X6_name wi_in_X6 wi_co_X6_name) rfl rfl rfl hd_X6_name ⟨Nat.le_of_ble_eq_true rfl, Nat.le_of_ble_eq_true rfl⟩) (mX6_name l hst D cy ad sa x1 x2 x3 u _ hw) rfl hl.1 rfl (Nat.le_of_ble_eq_true rfl) ⟨Nat.le_of_ble_eq_true rfl, Nat.le_of_ble_eq_true rfl⟩ dL_name_7 (fun E ce q9 u1 H locs hw h hce hcv hcl => ?_) (fun r u1 H locs hw h => ?_)
  · rcases hw with ⟨rfl, hw⟩
    · refine vx_catch (name := xIOB) hown [] ⟨0, 12, 15, 27⟩ [] (by rw [hex]; rfl) (fun z hz => by cases hz) rfl (by decide) (hts _ wi_cl_L_27) ((hT.2.2.2.2.1 xIOB (by decide)).use rfl) hce hcv hcl ?_
      refine lv_astore (lv' := [(5, .ref q9), (0, .ref (ad 0)), (1, .int x1), (2, .int x2), (3, .int x3), (4, .ref (ad 50))]) hx hb dL_name_15 hl (by decide) rfl (fun ls hl => ?_)
      refine lv_iconst (v := 1) hx hb dL_name_17 (by decide) ?_
      exact kretI C hr hlk h hw dL_name_18
  · refine lv_i2l hx hb dL_name_10 rfl ?_
    refine klast C h 50 (hW_out cy ad _) vp_in01 (hS_out cy ad _ _ _) dL_name_11 (fun H locs h => ?_)
    refine lv_goto (tgt := 19) hx hb dL_name_12 (by decide) ?_
    refine lv_iconst (v := 0) hx hb dL_name_19 (by decide) ?_
    exact kretI C hr hlk h hw dL_name_20
def wL_meets (x1 : Int32) (u : ST) (Q : Int32 → ST → Prop) : Prop :=
  wX6_meets x1 u (fun r u1 => Q 0 (sB (sO u1 (gB u 5)) 5 (0 : Int32).toNatClampNeg (r : Int32).toInt64)) (fun E u1 => (E = xISE ∧ Q 1 (sO u1 (gB u 5))) ∨ (E = xIOB ∧ Q 2 (sO u1 (gB u 5))))
set_option maxHeartbeats 4000000 in
set_option maxRecDepth 100000 in
theorem mL_meets (l : Launch) (hst : l.stackTraces = false) (D : va_G) (cy : CY) (ad sa : Nat → Nat) (x1 : Int32) (u : ST) (sz : Nat) {Q : Int32 → ST → Prop} (hw : wL_meets x1 u Q) : Met l yL_meets (wMW yL_meets cL_meets 4 (some .int) [(0, 9, 12, 25), (0, 9, 15, 27)]) (kRx 8 2 12) (kPx D (hW cy ad) cy sa u sz [.ref (ad 0), .int x1, .ref (ad 50)]) (kQi D (hW cy ad) cy (va_A (hW cy ad u) sz) Q) 2 12 (va_A (hW cy ad u) sz) := by
  refine kMetW pn_L_meets (Nat.le_of_ble_eq_true rfl) (fun p e s m below meth c ls hsz C hT hr hlk hex h hl => ?_)
  have hl : lv_has ls 4 [(0, .ref (ad 0)), (1, .int x1), (2, .ref (ad 50))] := hl
  obtain ⟨⟨hx, hb, hml, hown, hts⟩, hK, hA⟩ := id C
  unfold wL_meets at hw
  have h : kH D (hW cy ad) (va_A (hW cy ad u) sz) s u s.heap [] := h
  refine lv_aload_n hx hb dL_meets_0 rfl (lv_at hl 2 rfl) ?_
  refine lv_iconst (v := 0) hx hb dL_meets_1 (by decide) ?_
  refine lv_aload_n hx hb dL_meets_2 rfl (lv_at hl 0 rfl) ?_
  refine lv_iload_n hx hb dL_meets_3 rfl (lv_at hl 1 rfl) ?_
  refine hXi (As := [.int x1]) (rest := [.int 0, .ref (ad 50)]) C hT h (cwV 1 hts (gd_V wi_ml_L_40 wi_im_X6_meets wi_se_X6_meets wi_in_X6 wi_co_X6_meets) rfl rfl rfl hd_X6_meets ⟨Nat.le_of_ble_eq_true rfl, Nat.le_of_ble_eq_true rfl⟩) (mX6_meets l hst D cy ad sa x1 u _ hw) rfl hl.1 rfl (Nat.le_of_ble_eq_true rfl) ⟨Nat.le_of_ble_eq_true rfl, Nat.le_of_ble_eq_true rfl⟩ dL_meets_4 (fun E ce q9 u1 H locs hw h hce hcv hcl => ?_) (fun r u1 H locs hw h => ?_)
  · rcases hw with ⟨rfl, hw⟩ | ⟨rfl, hw⟩
    · refine vx_catch (name := xISE) hown [] ⟨0, 9, 12, 25⟩ [⟨0, 9, 15, 27⟩] (by rw [hex]; rfl) (fun z hz => by cases hz) rfl (by decide) (hts _ wi_cl_L_25) ((hT.2.2.2.2.1 xISE (by decide)).use rfl) hce hcv hcl ?_
      refine lv_astore_n (lv' := [(3, .ref q9), (0, .ref (ad 0)), (1, .int x1), (2, .ref (ad 50))]) hx hb dL_meets_12 rfl hl (by decide) rfl (fun ls hl => ?_)
      refine lv_iconst (v := 1) hx hb dL_meets_13 (by decide) ?_
      exact kretI C hr hlk h hw dL_meets_14
    · refine vx_catch (name := xIOB) hown [⟨0, 9, 12, 25⟩] ⟨0, 9, 15, 27⟩ [] (by rw [hex]; rfl) (fun z hz => by
        rcases List.mem_singleton.mp hz with rfl
        exact Or.inr ⟨by decide, xISE, hts _ wi_cl_L_25, hT.2.2.2.2.2.2⟩) rfl (by decide) (hts _ wi_cl_L_27) ((hT.2.2.2.2.1 xIOB (by decide)).use rfl) hce hcv hcl ?_
      refine lv_astore_n (lv' := [(3, .ref q9), (0, .ref (ad 0)), (1, .int x1), (2, .ref (ad 50))]) hx hb dL_meets_15 rfl hl (by decide) rfl (fun ls hl => ?_)
      refine lv_iconst (v := 2) hx hb dL_meets_16 (by decide) ?_
      exact kretI C hr hlk h hw dL_meets_17
  · refine lv_i2l hx hb dL_meets_7 rfl ?_
    refine klast C h 50 (hW_out cy ad _) vp_in01 (hS_out cy ad _ _ _) dL_meets_8 (fun H locs h => ?_)
    refine lv_goto (tgt := 18) hx hb dL_meets_9 (by decide) ?_
    refine lv_iconst (v := 0) hx hb dL_meets_18 (by decide) ?_
    exact kretI C hr hlk h hw dL_meets_19
def wL_cases (x1 : Int32) (u : ST) (Q : Int32 → ST → Prop) : Prop :=
  wX6_cases x1 u (fun r u1 => Q 0 (sB (sO u1 (gB u 5)) 5 (0 : Int32).toNatClampNeg (r : Int32).toInt64)) (fun E u1 => (E = xISE ∧ Q 1 (sO u1 (gB u 5))) ∨ (E = xIOB ∧ Q 2 (sO u1 (gB u 5))))
set_option maxHeartbeats 4000000 in
set_option maxRecDepth 100000 in
theorem mL_cases (l : Launch) (hst : l.stackTraces = false) (D : va_G) (cy : CY) (ad sa : Nat → Nat) (x1 : Int32) (u : ST) (sz : Nat) {Q : Int32 → ST → Prop} (hw : wL_cases x1 u Q) : Met l yL_cases (wMW yL_cases cL_cases 4 (some .int) [(0, 9, 12, 25), (0, 9, 15, 27)]) (kRx 24 2 12) (kPx D (hW cy ad) cy sa u sz [.ref (ad 0), .int x1, .ref (ad 50)]) (kQi D (hW cy ad) cy (va_A (hW cy ad u) sz) Q) 2 12 (va_A (hW cy ad u) sz) := by
  refine kMetW pn_L_cases (Nat.le_of_ble_eq_true rfl) (fun p e s m below meth c ls hsz C hT hr hlk hex h hl => ?_)
  have hl : lv_has ls 4 [(0, .ref (ad 0)), (1, .int x1), (2, .ref (ad 50))] := hl
  obtain ⟨⟨hx, hb, hml, hown, hts⟩, hK, hA⟩ := id C
  unfold wL_cases at hw
  have h : kH D (hW cy ad) (va_A (hW cy ad u) sz) s u s.heap [] := h
  refine lv_aload_n hx hb dL_cases_0 rfl (lv_at hl 2 rfl) ?_
  refine lv_iconst (v := 0) hx hb dL_cases_1 (by decide) ?_
  refine lv_aload_n hx hb dL_cases_2 rfl (lv_at hl 0 rfl) ?_
  refine lv_iload_n hx hb dL_cases_3 rfl (lv_at hl 1 rfl) ?_
  refine hXi (As := [.int x1]) (rest := [.int 0, .ref (ad 50)]) C hT h (cwV 1 hts (gd_V wi_ml_L_43 wi_im_X6_cases wi_se_X6_cases wi_in_X6 wi_co_X6_cases) rfl rfl rfl hd_X6_cases ⟨Nat.le_of_ble_eq_true rfl, Nat.le_of_ble_eq_true rfl⟩) (mX6_cases l hst D cy ad sa x1 u _ hw) rfl hl.1 rfl (Nat.le_of_ble_eq_true rfl) ⟨Nat.le_of_ble_eq_true rfl, Nat.le_of_ble_eq_true rfl⟩ dL_cases_4 (fun E ce q9 u1 H locs hw h hce hcv hcl => ?_) (fun r u1 H locs hw h => ?_)
  · rcases hw with ⟨rfl, hw⟩ | ⟨rfl, hw⟩
    · refine vx_catch (name := xISE) hown [] ⟨0, 9, 12, 25⟩ [⟨0, 9, 15, 27⟩] (by rw [hex]; rfl) (fun z hz => by cases hz) rfl (by decide) (hts _ wi_cl_L_25) ((hT.2.2.2.2.1 xISE (by decide)).use rfl) hce hcv hcl ?_
      refine lv_astore_n (lv' := [(3, .ref q9), (0, .ref (ad 0)), (1, .int x1), (2, .ref (ad 50))]) hx hb dL_cases_12 rfl hl (by decide) rfl (fun ls hl => ?_)
      refine lv_iconst (v := 1) hx hb dL_cases_13 (by decide) ?_
      exact kretI C hr hlk h hw dL_cases_14
    · refine vx_catch (name := xIOB) hown [⟨0, 9, 12, 25⟩] ⟨0, 9, 15, 27⟩ [] (by rw [hex]; rfl) (fun z hz => by
        rcases List.mem_singleton.mp hz with rfl
        exact Or.inr ⟨by decide, xISE, hts _ wi_cl_L_25, hT.2.2.2.2.2.2⟩) rfl (by decide) (hts _ wi_cl_L_27) ((hT.2.2.2.2.1 xIOB (by decide)).use rfl) hce hcv hcl ?_
      refine lv_astore_n (lv' := [(3, .ref q9), (0, .ref (ad 0)), (1, .int x1), (2, .ref (ad 50))]) hx hb dL_cases_15 rfl hl (by decide) rfl (fun ls hl => ?_)
      refine lv_iconst (v := 2) hx hb dL_cases_16 (by decide) ?_
      exact kretI C hr hlk h hw dL_cases_17
  · refine lv_i2l hx hb dL_cases_7 rfl ?_
    refine klast C h 50 (hW_out cy ad _) vp_in01 (hS_out cy ad _ _ _) dL_cases_8 (fun H locs h => ?_)
    refine lv_goto (tgt := 18) hx hb dL_cases_9 (by decide) ?_
    refine lv_iconst (v := 0) hx hb dL_cases_18 (by decide) ?_
    exact kretI C hr hlk h hw dL_cases_19
def wL_node (x1 : Int32) (x2 : Int32) (u : ST) (Q : Int32 → ST → Prop) : Prop :=
  wX6_node x1 x2 u (fun r u1 => Q 0 (sB (sO u1 (gB u 5)) 5 (0 : Int32).toNatClampNeg (r : Int32).toInt64)) (fun E u1 => (E = xISE ∧ Q 1 (sO u1 (gB u 5))) ∨ (E = xIOB ∧ Q 2 (sO u1 (gB u 5))))
set_option maxHeartbeats 4000000 in
set_option maxRecDepth 100000 in
theorem mL_node (l : Launch) (hst : l.stackTraces = false) (D : va_G) (cy : CY) (ad sa : Nat → Nat) (x1 : Int32) (x2 : Int32) (u : ST) (sz : Nat) {Q : Int32 → ST → Prop} (hw : wL_node x1 x2 u Q) : Met l yL_node (wMW yL_node cL_node 5 (some .int) [(0, 10, 13, 25), (0, 10, 17, 27)]) (kRx 8 2 12) (kPx D (hW cy ad) cy sa u sz [.ref (ad 0), .int x1, .int x2, .ref (ad 50)]) (kQi D (hW cy ad) cy (va_A (hW cy ad u) sz) Q) 2 12 (va_A (hW cy ad u) sz) := by
  refine kMetW pn_L_node (Nat.le_of_ble_eq_true rfl) (fun p e s m below meth c ls hsz C hT hr hlk hex h hl => ?_)
  have hl : lv_has ls 5 [(0, .ref (ad 0)), (1, .int x1), (2, .int x2), (3, .ref (ad 50))] := hl
  obtain ⟨⟨hx, hb, hml, hown, hts⟩, hK, hA⟩ := id C
  unfold wL_node at hw
  have h : kH D (hW cy ad) (va_A (hW cy ad u) sz) s u s.heap [] := h
  refine lv_aload_n hx hb dL_node_0 rfl (lv_at hl 3 rfl) ?_
  refine lv_iconst (v := 0) hx hb dL_node_1 (by decide) ?_
  refine lv_aload_n hx hb dL_node_2 rfl (lv_at hl 0 rfl) ?_
  refine lv_iload_n hx hb dL_node_3 rfl (lv_at hl 1 rfl) ?_
  refine lv_iload_n hx hb dL_node_4 rfl (lv_at hl 2 rfl) ?_
  refine hXi (As := [.int x1, .int x2]) (rest := [.int 0, .ref (ad 50)]) C hT h (cwV 2 hts (gd_V wi_ml_L_46 wi_im_X6_node wi_se_X6_node wi_in_X6 wi_co_X6_node) rfl rfl rfl hd_X6_node ⟨Nat.le_of_ble_eq_true rfl, Nat.le_of_ble_eq_true rfl⟩) (mX6_node l hst D cy ad sa x1 x2 u _ hw) rfl hl.1 rfl (Nat.le_of_ble_eq_true rfl) ⟨Nat.le_of_ble_eq_true rfl, Nat.le_of_ble_eq_true rfl⟩ dL_node_5 (fun E ce q9 u1 H locs hw h hce hcv hcl => ?_) (fun r u1 H locs hw h => ?_)
  · rcases hw with ⟨rfl, hw⟩ | ⟨rfl, hw⟩
    · refine vx_catch (name := xISE) hown [] ⟨0, 10, 13, 25⟩ [⟨0, 10, 17, 27⟩] (by rw [hex]; rfl) (fun z hz => by cases hz) rfl (by decide) (hts _ wi_cl_L_25) ((hT.2.2.2.2.1 xISE (by decide)).use rfl) hce hcv hcl ?_
      refine lv_astore (lv' := [(4, .ref q9), (0, .ref (ad 0)), (1, .int x1), (2, .int x2), (3, .ref (ad 50))]) hx hb dL_node_13 hl (by decide) rfl (fun ls hl => ?_)
      refine lv_iconst (v := 1) hx hb dL_node_15 (by decide) ?_
      exact kretI C hr hlk h hw dL_node_16
    · refine vx_catch (name := xIOB) hown [⟨0, 10, 13, 25⟩] ⟨0, 10, 17, 27⟩ [] (by rw [hex]; rfl) (fun z hz => by
        rcases List.mem_singleton.mp hz with rfl
        exact Or.inr ⟨by decide, xISE, hts _ wi_cl_L_25, hT.2.2.2.2.2.2⟩) rfl (by decide) (hts _ wi_cl_L_27) ((hT.2.2.2.2.1 xIOB (by decide)).use rfl) hce hcv hcl ?_
      refine lv_astore (lv' := [(4, .ref q9), (0, .ref (ad 0)), (1, .int x1), (2, .int x2), (3, .ref (ad 50))]) hx hb dL_node_17 hl (by decide) rfl (fun ls hl => ?_)
      refine lv_iconst (v := 2) hx hb dL_node_19 (by decide) ?_
      exact kretI C hr hlk h hw dL_node_20
  · refine lv_i2l hx hb dL_node_8 rfl ?_
    refine klast C h 50 (hW_out cy ad _) vp_in01 (hS_out cy ad _ _ _) dL_node_9 (fun H locs h => ?_)
    refine lv_goto (tgt := 21) hx hb dL_node_10 (by decide) ?_
    refine lv_iconst (v := 0) hx hb dL_node_21 (by decide) ?_
    exact kretI C hr hlk h hw dL_node_22
def wL_code (x1 : Int32) (u : ST) (Q : Int32 → ST → Prop) : Prop :=
  wX6_code x1 u (fun r u1 => Q 0 (sB (sO u1 (gB u 5)) 5 (0 : Int32).toNatClampNeg (r : Int32).toInt64)) (fun E u1 => (E = xISE ∧ Q 1 (sO u1 (gB u 5))) ∨ (E = xIOB ∧ Q 2 (sO u1 (gB u 5))))
set_option maxHeartbeats 4000000 in
set_option maxRecDepth 100000 in
theorem mL_code (l : Launch) (hst : l.stackTraces = false) (D : va_G) (cy : CY) (ad sa : Nat → Nat) (x1 : Int32) (u : ST) (sz : Nat) {Q : Int32 → ST → Prop} (hw : wL_code x1 u Q) : Met l yL_code (wMW yL_code cL_code 4 (some .int) [(0, 9, 12, 25), (0, 9, 15, 27)]) (kRx 8 2 12) (kPx D (hW cy ad) cy sa u sz [.ref (ad 0), .int x1, .ref (ad 50)]) (kQi D (hW cy ad) cy (va_A (hW cy ad u) sz) Q) 2 12 (va_A (hW cy ad u) sz) := by
  refine kMetW pn_L_code (Nat.le_of_ble_eq_true rfl) (fun p e s m below meth c ls hsz C hT hr hlk hex h hl => ?_)
  have hl : lv_has ls 4 [(0, .ref (ad 0)), (1, .int x1), (2, .ref (ad 50))] := hl
  obtain ⟨⟨hx, hb, hml, hown, hts⟩, hK, hA⟩ := id C
  unfold wL_code at hw
  have h : kH D (hW cy ad) (va_A (hW cy ad u) sz) s u s.heap [] := h
  refine lv_aload_n hx hb dL_code_0 rfl (lv_at hl 2 rfl) ?_
  refine lv_iconst (v := 0) hx hb dL_code_1 (by decide) ?_
  refine lv_aload_n hx hb dL_code_2 rfl (lv_at hl 0 rfl) ?_
  refine lv_iload_n hx hb dL_code_3 rfl (lv_at hl 1 rfl) ?_
  refine hXi (As := [.int x1]) (rest := [.int 0, .ref (ad 50)]) C hT h (cwV 1 hts (gd_V wi_ml_L_49 wi_im_X6_code wi_se_X6_code wi_in_X6 wi_co_X6_code) rfl rfl rfl hd_X6_code ⟨Nat.le_of_ble_eq_true rfl, Nat.le_of_ble_eq_true rfl⟩) (mX6_code l hst D cy ad sa x1 u _ hw) rfl hl.1 rfl (Nat.le_of_ble_eq_true rfl) ⟨Nat.le_of_ble_eq_true rfl, Nat.le_of_ble_eq_true rfl⟩ dL_code_4 (fun E ce q9 u1 H locs hw h hce hcv hcl => ?_) (fun r u1 H locs hw h => ?_)
  · rcases hw with ⟨rfl, hw⟩ | ⟨rfl, hw⟩
    · refine vx_catch (name := xISE) hown [] ⟨0, 9, 12, 25⟩ [⟨0, 9, 15, 27⟩] (by rw [hex]; rfl) (fun z hz => by cases hz) rfl (by decide) (hts _ wi_cl_L_25) ((hT.2.2.2.2.1 xISE (by decide)).use rfl) hce hcv hcl ?_
      refine lv_astore_n (lv' := [(3, .ref q9), (0, .ref (ad 0)), (1, .int x1), (2, .ref (ad 50))]) hx hb dL_code_12 rfl hl (by decide) rfl (fun ls hl => ?_)
      refine lv_iconst (v := 1) hx hb dL_code_13 (by decide) ?_
      exact kretI C hr hlk h hw dL_code_14
    · refine vx_catch (name := xIOB) hown [⟨0, 9, 12, 25⟩] ⟨0, 9, 15, 27⟩ [] (by rw [hex]; rfl) (fun z hz => by
        rcases List.mem_singleton.mp hz with rfl
        exact Or.inr ⟨by decide, xISE, hts _ wi_cl_L_25, hT.2.2.2.2.2.2⟩) rfl (by decide) (hts _ wi_cl_L_27) ((hT.2.2.2.2.1 xIOB (by decide)).use rfl) hce hcv hcl ?_
      refine lv_astore_n (lv' := [(3, .ref q9), (0, .ref (ad 0)), (1, .int x1), (2, .ref (ad 50))]) hx hb dL_code_15 rfl hl (by decide) rfl (fun ls hl => ?_)
      refine lv_iconst (v := 2) hx hb dL_code_16 (by decide) ?_
      exact kretI C hr hlk h hw dL_code_17
  · refine lv_i2l hx hb dL_code_7 rfl ?_
    refine klast C h 50 (hW_out cy ad _) vp_in01 (hS_out cy ad _ _ _) dL_code_8 (fun H locs h => ?_)
    refine lv_goto (tgt := 18) hx hb dL_code_9 (by decide) ?_
    refine lv_iconst (v := 0) hx hb dL_code_18 (by decide) ?_
    exact kretI C hr hlk h hw dL_code_19
def wL_run (x1 : Int32) (x2 : Int32) (u : ST) (Q : Int32 → ST → Prop) : Prop :=
  wX6_run x1 x2 u (fun r u1 => Q 0 (sB (sO u1 (gB u 5)) 5 (0 : Int32).toNatClampNeg (r : Int32).toInt64)) (fun E u1 => (E = xISE ∧ Q 1 (sO u1 (gB u 5))) ∨ (E = xIOB ∧ Q 2 (sO u1 (gB u 5))))
set_option maxHeartbeats 4000000 in
set_option maxRecDepth 100000 in
theorem mL_run (l : Launch) (hst : l.stackTraces = false) (D : va_G) (cy : CY) (ad sa : Nat → Nat) (x1 : Int32) (x2 : Int32) (u : ST) (sz : Nat) {Q : Int32 → ST → Prop} (hw : wL_run x1 x2 u Q) : Met l yL_run (wMW yL_run cL_run 5 (some .int) [(0, 10, 13, 25), (0, 10, 17, 27)]) (kRx 8 2 12) (kPx D (hW cy ad) cy sa u sz [.ref (ad 0), .int x1, .int x2, .ref (ad 50)]) (kQi D (hW cy ad) cy (va_A (hW cy ad u) sz) Q) 2 12 (va_A (hW cy ad u) sz) := by
  refine kMetW pn_L_run (Nat.le_of_ble_eq_true rfl) (fun p e s m below meth c ls hsz C hT hr hlk hex h hl => ?_)
  have hl : lv_has ls 5 [(0, .ref (ad 0)), (1, .int x1), (2, .int x2), (3, .ref (ad 50))] := hl
  obtain ⟨⟨hx, hb, hml, hown, hts⟩, hK, hA⟩ := id C
  unfold wL_run at hw
  have h : kH D (hW cy ad) (va_A (hW cy ad u) sz) s u s.heap [] := h
  refine lv_aload_n hx hb dL_run_0 rfl (lv_at hl 3 rfl) ?_
  refine lv_iconst (v := 0) hx hb dL_run_1 (by decide) ?_
  refine lv_aload_n hx hb dL_run_2 rfl (lv_at hl 0 rfl) ?_
  refine lv_iload_n hx hb dL_run_3 rfl (lv_at hl 1 rfl) ?_
  refine lv_iload_n hx hb dL_run_4 rfl (lv_at hl 2 rfl) ?_
  refine hXi (As := [.int x1, .int x2]) (rest := [.int 0, .ref (ad 50)]) C hT h (cwV 2 hts (gd_V wi_ml_L_52 wi_im_X6_run wi_se_X6_run wi_in_X6 wi_co_X6_run) rfl rfl rfl hd_X6_run ⟨Nat.le_of_ble_eq_true rfl, Nat.le_of_ble_eq_true rfl⟩) (mX6_run l hst D cy ad sa x1 x2 u _ hw) rfl hl.1 rfl (Nat.le_of_ble_eq_true rfl) ⟨Nat.le_of_ble_eq_true rfl, Nat.le_of_ble_eq_true rfl⟩ dL_run_5 (fun E ce q9 u1 H locs hw h hce hcv hcl => ?_) (fun r u1 H locs hw h => ?_)
  · rcases hw with ⟨rfl, hw⟩ | ⟨rfl, hw⟩
    · refine vx_catch (name := xISE) hown [] ⟨0, 10, 13, 25⟩ [⟨0, 10, 17, 27⟩] (by rw [hex]; rfl) (fun z hz => by cases hz) rfl (by decide) (hts _ wi_cl_L_25) ((hT.2.2.2.2.1 xISE (by decide)).use rfl) hce hcv hcl ?_
      refine lv_astore (lv' := [(4, .ref q9), (0, .ref (ad 0)), (1, .int x1), (2, .int x2), (3, .ref (ad 50))]) hx hb dL_run_13 hl (by decide) rfl (fun ls hl => ?_)
      refine lv_iconst (v := 1) hx hb dL_run_15 (by decide) ?_
      exact kretI C hr hlk h hw dL_run_16
    · refine vx_catch (name := xIOB) hown [⟨0, 10, 13, 25⟩] ⟨0, 10, 17, 27⟩ [] (by rw [hex]; rfl) (fun z hz => by
        rcases List.mem_singleton.mp hz with rfl
        exact Or.inr ⟨by decide, xISE, hts _ wi_cl_L_25, hT.2.2.2.2.2.2⟩) rfl (by decide) (hts _ wi_cl_L_27) ((hT.2.2.2.2.1 xIOB (by decide)).use rfl) hce hcv hcl ?_
      refine lv_astore (lv' := [(4, .ref q9), (0, .ref (ad 0)), (1, .int x1), (2, .int x2), (3, .ref (ad 50))]) hx hb dL_run_17 hl (by decide) rfl (fun ls hl => ?_)
      refine lv_iconst (v := 2) hx hb dL_run_19 (by decide) ?_
      exact kretI C hr hlk h hw dL_run_20
  · refine lv_i2l hx hb dL_run_8 rfl ?_
    refine klast C h 50 (hW_out cy ad _) vp_in01 (hS_out cy ad _ _ _) dL_run_9 (fun H locs h => ?_)
    refine lv_goto (tgt := 21) hx hb dL_run_10 (by decide) ?_
    refine lv_iconst (v := 0) hx hb dL_run_21 (by decide) ?_
    exact kretI C hr hlk h hw dL_run_22
def wL_tests (u : ST) (Q : Int32 → ST → Prop) : Prop :=
  wX6_tests  u (fun r u1 => Q 0 (sB (sO u1 (gB u 5)) 5 (0 : Int32).toNatClampNeg r)) (fun E u1 => (E = xISE ∧ Q 1 (sO u1 (gB u 5))))
set_option maxHeartbeats 4000000 in
set_option maxRecDepth 100000 in
theorem mL_tests (l : Launch) (hst : l.stackTraces = false) (D : va_G) (cy : CY) (ad sa : Nat → Nat) (u : ST) (sz : Nat) {Q : Int32 → ST → Prop} (hw : wL_tests  u Q) : Met l yL_tests (wMW yL_tests cL_tests 3 (some .int) [(0, 7, 10, 25)]) (kRx 8 2 12) (kPx D (hW cy ad) cy sa u sz [.ref (ad 0), .ref (ad 50)]) (kQi D (hW cy ad) cy (va_A (hW cy ad u) sz) Q) 2 12 (va_A (hW cy ad u) sz) := by
  refine kMetW pn_L_tests (Nat.le_of_ble_eq_true rfl) (fun p e s m below meth c ls hsz C hT hr hlk hex h hl => ?_)
  have hl : lv_has ls 3 [(0, .ref (ad 0)), (1, .ref (ad 50))] := hl
  obtain ⟨⟨hx, hb, hml, hown, hts⟩, hK, hA⟩ := id C
  unfold wL_tests at hw
  have h : kH D (hW cy ad) (va_A (hW cy ad u) sz) s u s.heap [] := h
  refine lv_aload_n hx hb dL_tests_0 rfl (lv_at hl 1 rfl) ?_
  refine lv_iconst (v := 0) hx hb dL_tests_1 (by decide) ?_
  refine lv_aload_n hx hb dL_tests_2 rfl (lv_at hl 0 rfl) ?_
  refine hXl (As := []) (rest := [.int 0, .ref (ad 50)]) C hT h (cwV 0 hts (gd_V wi_ml_L_56 wi_im_X6_tests wi_se_X6_tests wi_in_X6 wi_co_X6_tests) rfl rfl rfl hd_X6_tests ⟨Nat.le_of_ble_eq_true rfl, Nat.le_of_ble_eq_true rfl⟩) (mX6_tests l hst D cy ad sa  u _ hw) rfl hl.1 rfl (Nat.le_of_ble_eq_true rfl) ⟨Nat.le_of_ble_eq_true rfl, Nat.le_of_ble_eq_true rfl⟩ dL_tests_3 (fun E ce q9 u1 H locs hw h hce hcv hcl => ?_) (fun r u1 H locs hw h => ?_)
  · rcases hw with ⟨rfl, hw⟩
    · refine vx_catch (name := xISE) hown [] ⟨0, 7, 10, 25⟩ [] (by rw [hex]; rfl) (fun z hz => by cases hz) rfl (by decide) (hts _ wi_cl_L_25) ((hT.2.2.2.2.1 xISE (by decide)).use rfl) hce hcv hcl ?_
      refine lv_astore_n (lv' := [(2, .ref q9), (0, .ref (ad 0)), (1, .ref (ad 50))]) hx hb dL_tests_10 rfl hl (by decide) rfl (fun ls hl => ?_)
      refine lv_iconst (v := 1) hx hb dL_tests_11 (by decide) ?_
      exact kretI C hr hlk h hw dL_tests_12
  · refine klast C h 50 (hW_out cy ad _) vp_in01 (hS_out cy ad _ _ _) dL_tests_6 (fun H locs h => ?_)
    refine lv_goto (tgt := 13) hx hb dL_tests_7 (by decide) ?_
    refine lv_iconst (v := 0) hx hb dL_tests_13 (by decide) ?_
    exact kretI C hr hlk h hw dL_tests_14
