/-! THROWS: what a method that may throw needs beside its world, and how it ends -/
abbrev xIAE : String := "java/lang/IllegalArgumentException"
abbrev xUOE : String := "java/lang/UnsupportedOperationException"
abbrev xISE : String := "java/lang/IllegalStateException"
abbrev xIOB : String := "java/lang/IndexOutOfBoundsException"
abbrev xNames : List String := ["java/lang/RuntimeException", "java/lang/Exception"]
def xStr : List (Nat × String) := [(49, "n is not 1 .. 8"), (60, "the tape would be too long"), (67, "the tape has not so many bytes"), (201, "no table"), (104, "no such what"), (130, "no such rule"), (136, "no such condition"), (142, "no such condition or action"), (148, "no such place in the name"), (206, "no such case"), (159, "no such action"), (204, "no tree"), (174, "no such node"), (186, "no such place in the code")]
def xDecl : List String := ["java/lang/RuntimeException", "java/lang/Exception", "java/lang/Throwable"]
def xCast : List String := [xIAE, xUOE, xISE, xIOB]
def kTh (A : Nat → Prop) (sa : Nat → Nat) (U : State) (H : Heap) : Prop := vx_Zq Bundle.tN "UNASSIGNED_STACK" Bundle.steD A U H ∧ vx_Zq Bundle.tN "SUPPRESSED_SENTINEL" Bundle.listD A U H ∧ (∀ q ∈ xStr, vk_R RX6 q.1 q.2 (sa q.1) U) ∧ (∀ n ∈ xDecl, va_Nw (.declares ⟨n, "<init>", "(Ljava/lang/String;)V"⟩) U) ∧ (∀ n ∈ xCast, va_Nw (.castable n n) U) ∧ va_Nc xUOE xIAE U ∧ va_Nc xIOB xISE U
theorem kTh.warm {A : Nat → Prop} {sa : Nat → Nat} {s U : State} {H : Heap} (hW : s.WarmedH U.vm) (h : kTh A sa s H) : kTh A sa U H := by
  obtain ⟨h1, h2, h3, h4, h5, h6, h7⟩ := h
  exact ⟨h1.moved hW.alike, h2.moved hW.alike, fun q hq => (h3 q hq).warm hW, fun n hn => (h4 n hn).warmD hW, fun n hn => (h5 n hn).warmC hW, h6.moved hW.alike, h7.moved hW.alike⟩
theorem kTh.kept {A : Nat → Prop} {sa : Nat → Nat} {U : State} {H H1 : Heap} (h : kTh A sa U H) (hq : ∀ a : Nat, a < H.size → ¬ A a → H1[a]? = H[a]?) : kTh A sa U H1 := by
  obtain ⟨h1, h2, h3⟩ := h
  exact ⟨h1.kept hq, h2.kept hq, h3⟩
theorem kTh.narrow {A B : Nat → Prop} {sa : Nat → Nat} {U : State} {H : Heap} (h : kTh A sa U H) (hAB : ∀ q, B q → A q) : kTh B sa U H := by
  obtain ⟨h1, h2, h3⟩ := h
  exact ⟨h1.narrow hAB, h2.narrow hAB, h3⟩
abbrev kRx (n mc ms : Nat) : Room := { frames := n, cells := mc, slots := ms, locals := 40 * n }
def kPx (D : va_G) (w : ST → va_W) (cy : CY) (sa : Nat → Nat) (u : ST) (sz : Nat) (av : List Value) : Array Value → State → Prop := va_Pc av (fun U => U.heap.size = sz ∧ va_P D vwCl (w u) U.heap ∧ va_K D vwCl (tyS cy) U ∧ va_D (fun _ => True) (w u) ∧ kTh (va_A (w u) sz) sa U U.heap)
def kXC (D : va_G) (w : ST → va_W) (cy : CY) (A : Nat → Prop) (X : String → ST → Prop) : String → State → State → Prop := vx_X (S := ST) (fun _ => True) (fun E u t => X E u ∧ kAt D w cy A u t) A
theorem kBlindX (D : va_G) (w : ST → va_W) (cy : CY) (sa : Nat → Nat) (u : ST) (sz : Nat) (av : List Value) : FrameBlind (kPx D w cy sa u sz av) := fun a U g mk q => by
  obtain ⟨q0, q1, qP, qK, qD, qT⟩ := q
  exact ⟨q0, q1, qP, va_K.moved (u := U) (U := U.calling g mk a) (Vm.Alike.refl U.vm) qK, qD, qT.warm (State.WarmedH.refl U)⟩
section XR
variable {p : Program} {l : Launch} {e : Env} {R : Room} {s : State} {m : MethodId} {args : Array Value} {below : List Frame} {meth : Method} {c : Code} {H : Heap} {locs : List Loc} {cells slots mc ms : Nat} {Q : State → Prop} {cc : ByteArray} {pc nL : Nat} {ls : Array Slot} {rest st0 : List Value} {D : va_G} {cy : CY} {A : Nat → Prop} {own : String} {w : ST → va_W} {u u1 : ST} {sa : Nat → Nat} {X : String → ST → Prop}
theorem kxretI {Qf : Int32 → ST → Prop} {v : Int32} (C : kC p m c cc nL s args own D cy A) (hr : meth.sig.returnType = some .int) (hlk : meth.locks = false) (h : kH D w A s u H locs) (hq : Qf v u) (hc : cells ≤ mc) (hs : slots ≤ ms) (hdg : decode cc pc = .ok (.ireturn, 1)) : W p l e R s m args below meth c H locs cells slots (vx_MQ below (kQi D w cy A Qf) (kXC D w cy A X) args s mc ms A) (F0 m pc ls [.int v]) := W.widen hc hs (vx_ret (kretI C hr hlk h hq hdg))
theorem kxretL {Qf : Int64 → ST → Prop} {v : Int64} (C : kC p m c cc nL s args own D cy A) (hr : meth.sig.returnType = some .long) (hlk : meth.locks = false) (h : kH D w A s u H locs) (hq : Qf v u) (hc : cells ≤ mc) (hs : slots ≤ ms) (hdg : decode cc pc = .ok (.lreturn, 1)) : W p l e R s m args below meth c H locs cells slots (vx_MQ below (kQl D w cy A Qf) (kXC D w cy A X) args s mc ms A) (F0 m pc ls [.long v]) := W.widen hc hs (vx_ret (kretL C hr hlk h hq hdg))
theorem kxretV {Qf : ST → Prop} (C : kC p m c cc nL s args own D cy A) (hr : meth.sig.returnType = none) (hlk : meth.locks = false) (h : kH D w A s u H locs) (hq : Qf u) (hc : cells ≤ mc) (hs : slots ≤ ms) (hdg : decode cc pc = .ok (.return_, 1)) : W p l e R s m args below meth c H locs cells slots (vx_MQ below (kQv D w cy A Qf) (kXC D w cy A X) args s mc ms A) (F0 m pc ls []) := W.widen hc hs (vx_ret (kretV C hr hlk h hq hdg))
theorem kthrow {Qc : Array Value → State → Outcome → State → Prop} (C : kC p m c cc nL s args RX6 D cy A) (hst : l.stackTraces = false) (hT : kTh A sa s s.heap) (h : kH D w A s u H locs) (cls : String) (hX : X cls u) {ik is ic : Nat} {text : String} (hfit : Bundle.fit cls = true ∧ ∀ n ∈ xNames, Bundle.fit n = true) (hk : Cond.classLink RX6 ik cls ∈ wB) (hini : Cond.initialized cls ∈ wB) (hs : (is, text) ∈ xStr) (hat : ∀ w ∈ vx_atS RX6 ic cls xNames, w ∈ wB ∨ (∃ n ∈ xDecl, w = .declares ⟨n, "<init>", "(Ljava/lang/String;)V"⟩) ∨ (∃ n ∈ xCast, w = .castable n n)) (hgood : ∀ w ∈ Cond.classLink RX6 ik cls :: Cond.initialized cls :: vx_atS RX6 ic cls xNames, vx_ot w = true) (hsz : ls.size = nL)
    (d0 : decode cc pc = .ok (.new ik, 3)) (d3 : decode cc (pc + 3) = .ok (.dup, 1)) (d4 : decode cc (pc + 4) = .ok (.ldc is, 2)) (d6 : decode cc (pc + 6) = .ok (.invokespecial ic, 3)) (d9 : decode cc (pc + 9) = .ok (.athrow, 1)) (hex : ∀ x ∈ c.exceptionTable.toList, False) (hRf : 5 < R.frames) (hRl : (rest.map fun v => v.category).sum + 82 ≤ R.locals) (hRc : cells + 1 ≤ R.cells) (hRs : slots + 6 ≤ R.slots) (hlk : meth.locks = false) (hmc : cells + 1 ≤ mc) (hms : slots + 6 ≤ ms) :
    W p l e R s m args below meth c H locs cells slots (vx_MQ below Qc (kXC D w cy A X) args s mc ms A) (F0 m pc ls rest) := by
  obtain ⟨⟨hx, hb, hml, hown, hts⟩, hK, hA⟩ := id C
  obtain ⟨t1, t2, t3, t4, t5, t6, t7⟩ := id hT
  refine vx_throwS (sa := sa is) (text := text) (A := A) hx hb hst hown hfit.1 hfit.2 (hts _ hk) (hts _ hini) (t3 _ hs) (fun w hw => ?_) hgood t1 t2 h.2.2 (hsz.trans hml.symm) d0 d3 d4 d6 d9 (fun x hx => (hex x hx).elim) (by show 2 + 3 < R.frames; omega) (by show _ + (13 * (2 + 1) + 43) ≤ R.locals; omega) hRc hRs hlk (fun t hvm hz hq => ?_) h.2.2.2.2 hmc hms
  · rcases hat w hw with h1 | ⟨n, hn, rfl⟩ | ⟨n, hn, rfl⟩
    · exact hts w h1
    · exact (t4 n hn).use rfl
    · exact (t5 n hn).use rfl
  · refine ⟨u, trivial, ⟨hX, h.1.kept (fun k q hk' => hq q.1 (h.1 k q hk').lt), va_K.moved hvm hK, h.2.1⟩, Nat.le_trans h.2.2.1 hz, fun q h1 h2 => ?_⟩
    rw [hq q (Nat.lt_of_lt_of_le h1 h.2.2.1)]
    exact h.2.2.2.1 q h1 h2
theorem kpreX (C : kC p m c cc nL s args own D cy A) (hT : kTh A sa s s.heap) (h : kH D w A s u H locs) (av : List Value) : ∀ U : State, U.heap = H → s.WarmedH U.vm → kPx D w cy sa u H.size av av.toArray U := fun U hU hW => ⟨rfl, by rw [hU], by rw [hU]; exact h.1, va_K.moved hW.alike C.2.1, h.2.1.weaken (fun _ _ _ _ => trivial), by rw [hU]; exact ((hT.kept h.2.2.2.1).narrow (kfree h C.2.2)).warm hW⟩
variable {y : MethodName} {bytes : ByteArray} {maxL n index mc1 ms1 : Nat} {ret : Option FieldType} {ws : List Cond} {rm : Room} {Cn : String} {b : Addr} {As : List Value}
theorem kXv {Qc : Array Value → State → Outcome → State → Prop} {Q1 : ST → Prop} (C : kC p m c cc nL s args own D cy A) (hT : kTh A sa s s.heap) (h : kH D w A s u H locs) (cw : CallW R s args own Cn index y bytes maxL ret ws rm mc1 ms1 n) (q0 : Nat) {ci : Nat} {qc : vw_C} {fs : List Value} (he : (w u)[q0]? = some (b, .inr (ci, fs))) (hc : vwCl[ci]? = some qc) (hqc : qc.1 = Cn) (hM : vx_Met l y ws rm (kPx D w cy sa u H.size (.ref b :: As)) (kQv D w cy (va_A (w u) H.size) Q1) (kXC D w cy (va_A (w u) H.size) X) mc1 ms1 (va_A (w u) H.size)) (hn : As.length = n) (hsz : ls.size = nL) (hst : st0 = As.reverse ++ .ref b :: rest) (hrs : (rest.map fun v => v.category).sum ≤ 8) (hf : cells + mc1 ≤ R.cells ∧ slots + ms1 ≤ R.slots) (hdg : decode cc pc = .ok (.invokevirtual index, 3)) (hex : ∀ x ∈ c.exceptionTable.toList, False) (hlk : meth.locks = false) (hmc : cells + mc1 ≤ mc) (hms : slots + ms1 ≤ ms)
    (kk : ∀ (u1 : ST) (H1 : Heap) (locs1 : List Loc), Q1 u1 → kH D w A s u1 H1 locs1 → W p l e R s m args below meth c H1 locs1 (cells + mc1) (slots + ms1) (vx_MQ below Qc (kXC D w cy A X) args s mc ms A) (F0 m (pc + 3) ls rest)) : W p l e R s m args below meth c H locs cells slots (vx_MQ below Qc (kXC D w cy A X) args s mc ms A) (F0 m pc ls st0) := by
  subst hqc
  refine vx_callv (vx_runV (As := As) (rest := rest) C.1 hM cw ⟨kBlindX _ _ _ _ _ _ _, va_recv C.2.1 h.1 hc he, kpreX C hT h _⟩ rfl hn hsz hst (lv_room (m := m) (pc := pc) (ls := ls) (rest := st0) hrs) hdg hf) h.2.2 (fun q _ hq => kfree h C.2.2 q hq) (kfree h C.2.2) (fun q _ hq => kfree h C.2.2 q hq) (fun E ce q9 u1 t H1 locs1 ht hvm hp hB hz1 hk1 hS hce hcv hcl => ?_) (fun u1 t H1 locs1 ht hvm hw hB hz1 hk1 hS => ?_)
  · obtain ⟨hXE, hat⟩ := hB
    have h' : kH D w A s u1 H1 locs1 := kafter C h ht hat hS
    refine vx_out (fun x hx => (hex x hx).elim) hlk hce hcv hcl (fun t2 ht2 hv2 => ?_) hS.2.2 hmc hms
    exact ⟨u1, trivial, ⟨hXE, by rw [ht2]; exact h'.1, va_K.moved hv2 C.2.1, h'.2.1⟩, h'.2.2.F ht2⟩
  · exact kk u1 H1 locs1 hw (kafter C h ht hB hS)
end XR
theorem kMetX {l : Launch} {y : MethodName} {cc : ByteArray} {nL : Nat} {ret : Option FieldType} {rm : Room} {D : va_G} {w : ST → va_W} {cy : CY} {sa : Nat → Nat} {u : ST} {sz : Nat} {av : List Value} {Qc : Array Value → State → Outcome → State → Prop} {XC : String → State → State → Prop} {mc ms : Nat} (hy : plainName y.cls = true) (hlen : (lg_sl av).length ≤ nL)
    (body : ∀ (p : Program) (e : Env) (s : State) (m : MethodId) (below : List Frame) (meth : Method) (c : Code) (ls : Array Slot), s.heap.size = sz → kC p m c cc nL s av.toArray y.cls D cy (va_A (w u) sz) → kTh (va_A (w u) sz) sa s s.heap → meth.sig.returnType = ret → meth.locks = false → (∀ x ∈ c.exceptionTable.toList, False) → kH D w (va_A (w u) sz) s u s.heap [] → lv_has ls nL (lv_args 0 av) → W p l e rm s m av.toArray below meth c s.heap [] 0 0 (vx_MQ below Qc XC av.toArray s mc ms (va_A (w u) sz)) (F0 m 0 ls [])) : vx_Met l y (wM y cc nL ret) rm (kPx D w cy sa u sz av) Qc XC mc ms (va_A (w u) sz) := by
  refine vx_ofW (cc := cc) (maxL := nL) (ret := ret) hy rfl ?_
  intro p e s m args below meth c s₁ B hml hex hv
  obtain ⟨rfl, hsz, hP, hK, hD0, hT⟩ := hv
  have hts := atoms_spec (ws := wM y cc nL ret) B.pre
  have hown : s.vm.findClass y.cls = some m.cls := findClass_of_methodNamed B.named
  have hl := lv_entry av (n := nL) hlen
  rw [lg_entry_eq]
  exact body p e s m below meth c _ hsz ⟨⟨B.exec, B.bytes, hml, hown, fun w hw => hts w (List.mem_cons_of_mem _ hw)⟩, hK, fun q hq => Or.inr (by rw [← hsz]; exact hq)⟩ hT B.returns B.notSynchronized hex ⟨hP, hD0.self, va_S.rf⟩ hl
/-- the words of a throw -/
theorem xat {ic : Nat} {cls : String} (h : (vx_atS RX6 ic cls xNames).all (fun w => (decide (w ∈ tables_1) && goodWord w) || xDecl.any (fun n => decide (w = .declares ⟨n, "<init>", "(Ljava/lang/String;)V"⟩)) || xCast.any (fun n => decide (w = .castable n n))) = true) : ∀ w ∈ vx_atS RX6 ic cls xNames, w ∈ wB ∨ (∃ n ∈ xDecl, w = .declares ⟨n, "<init>", "(Ljava/lang/String;)V"⟩) ∨ (∃ n ∈ xCast, w = .castable n n) := by
  intro w hw
  have h1 := List.all_eq_true.mp h w hw
  simp only [Bool.or_eq_true, Bool.and_eq_true, decide_eq_true_eq, List.any_eq_true] at h1
  rcases h1 with (h1 | h1) | h1
  · exact Or.inl (wB_of (List.mem_append_right _ h1.1) h1.2)
  · exact Or.inr (Or.inl h1)
  · exact Or.inr (Or.inr h1)
theorem xfit_IAE : Bundle.fit xIAE = true ∧ ∀ n ∈ xNames, Bundle.fit n = true := by decide +kernel
theorem xfit_UOE : Bundle.fit xUOE = true ∧ ∀ n ∈ xNames, Bundle.fit n = true := by decide +kernel
theorem xfit_ISE : Bundle.fit xISE = true ∧ ∀ n ∈ xNames, Bundle.fit n = true := by decide +kernel
theorem xfit_IOB : Bundle.fit xIOB = true ∧ ∀ n ∈ xNames, Bundle.fit n = true := by decide +kernel
theorem xini_IAE : Cond.initialized xIAE ∈ wB := wB_t 12 (by decide +kernel) (by decide +kernel)
theorem xini_UOE : Cond.initialized xUOE ∈ wB := wB_t 13 (by decide +kernel) (by decide +kernel)
theorem xini_ISE : Cond.initialized xISE ∈ wB := wB_t 16 (by decide +kernel) (by decide +kernel)
theorem xini_IOB : Cond.initialized xIOB ∈ wB := wB_t 17 (by decide +kernel) (by decide +kernel)
