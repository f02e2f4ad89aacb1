/-! THE LAW: the class's world with 'out', and the reference's -/
def lH (D : va_G) (cy : CY) (ad am : Nat → Nat) (A : Nat → Prop) (s : State) (uc um : ST) (H : Heap) (locs : List Loc) : Prop := va_P D vwCl (hW cy ad uc ++ mW cy am um) H ∧ va_D A (hW cy ad uc ++ mW cy am um) ∧ va_S A s.heap H locs
theorem lW_out (cy : CY) (ad am : Nat → Nat) (uc um : ST) : (hW cy ad uc ++ mW cy am um)[50]? = some (ad 50, .inl (cy.2.2.1, 1, .inr (.inl (gB uc 5)))) := rfl
theorem gd_SW {own : String} {idx : Nat} {y : MethodName} {b : ByteArray} {n : Nat} {r : Option FieldType} {hh : List (Nat × Nat × Nat × Nat)} (h1 : Cond.methodLink own idx y ∈ wB) (h2 : Cond.static y ∈ wB) (h4 : Cond.initialized y.cls ∈ wB) (h5 : Cond.codeWith y b n r hh ∈ wB) : GoodIn wB (va_wsS own idx y (wMW y b n r hh)) := by
  refine gd_ws (fun w hw => ?_)
  rcases List.mem_append.mp hw with hw | hw
  · simp only [List.mem_cons, List.not_mem_nil, or_false] at hw
    rcases hw with rfl | rfl | rfl
    · exact h1
    · exact h2
    · exact h4
  · exact (List.mem_cons.mp hw).elim (fun e => e ▸ h5) id
section LR
variable {p : Program} {l : Launch} {e : Env} {R : Room} {s : State} {m : MethodId} {args : Array Value} {below : List Frame} {meth : Method} {c : Code} {H : Heap} {locs : List Loc} {cells slots mc ms : Nat} {Q : State → Prop} {cc : ByteArray} {pc nL : Nat} {ls : Array Slot} {rest st0 : List Value} {D : va_G} {cy : CY} {A : Nat → Prop} {own : String} {uc um : ST} {ad am sa : Nat → Nat}
variable {y : MethodName} {bytes : ByteArray} {maxL n index : Nat} {ret : Option FieldType} {ws : List Cond} {rm : Room} {As : List Value} {hh : List (Nat × Nat × Nat × Nat)}
theorem lL (h : lH D cy ad am A s uc um H locs) : kH D (hW cy ad) A s uc H locs := ⟨h.1.left, h.2.1.left, h.2.2⟩
theorem lRt (h : lH D cy ad am A s uc um H locs) : kH D (mW cy am) A s um H locs := ⟨h.1.right, h.2.1.right, h.2.2⟩
theorem lLafter {t : State} {u1 : ST} {H1 : Heap} {locs1 : List Loc} (hA : ∀ q, s.heap.size ≤ q → A q) (h : lH D cy ad am A s uc um H locs) (ht : t.heap = H1) (hB : kAt D (hW cy ad) cy (va_A (hW cy ad uc) H.size) u1 t) (hk : ∀ q : Nat, q < H.size → ¬ va_A (hW cy ad uc) H.size q → H1[q]? = H[q]?) (hS : va_S A s.heap H1 locs1) : lH D cy ad am A s u1 um H1 locs1 := by
  obtain ⟨hP1, hK1, hD1⟩ := hB
  rw [ht] at hP1
  have := va_frL h.1 h.2.1 (kfree (lL h) hA) hk hP1 hD1
  exact ⟨this.1, this.2, hS⟩
theorem lRafter {t : State} {u1 : ST} {H1 : Heap} {locs1 : List Loc} (hA : ∀ q, s.heap.size ≤ q → A q) (h : lH D cy ad am A s uc um H locs) (ht : t.heap = H1) (hB : kAt D (mW cy am) cy (va_A (mW cy am um) H.size) u1 t) (hk : ∀ q : Nat, q < H.size → ¬ va_A (mW cy am um) H.size q → H1[q]? = H[q]?) (hS : va_S A s.heap H1 locs1) : lH D cy ad am A s uc u1 H1 locs1 := by
  obtain ⟨hP1, hK1, hD1⟩ := hB
  rw [ht] at hP1
  have := va_frR h.1 h.2.1 (kfree (lRt h) hA) hk hP1 hD1
  exact ⟨this.1, this.2, hS⟩
theorem lCafter {t : State} {u1 : ST} {H1 : Heap} {locs1 : List Loc} (hA : ∀ q, s.heap.size ≤ q → A q) (h : lH D cy ad am A s uc um H locs) (ht : t.heap = H1) (hB : kAt D (cW cy ad) cy (va_A (cW cy ad uc) H.size) u1 t) (hk : ∀ q : Nat, q < H.size → ¬ va_A (cW cy ad uc) H.size q → H1[q]? = H[q]?) (hS : va_S A s.heap H1 locs1) : lH D cy ad am A s (sO u1 (gB uc 5)) um H1 locs1 := by
  obtain ⟨hP1, hK1, hD1⟩ := hB
  rw [ht] at hP1
  have hP := h.1
  have hD := h.2.1
  unfold hW at hP hD
  rw [List.append_assoc] at hP hD
  have := va_frL hP hD (kfree (hsub (lL h)) hA) hk hP1 hD1
  rw [← List.append_assoc] at this
  exact ⟨this.1, this.2, hS⟩
theorem lSi {Q1 : Int32 → ST → Prop} (C : kC p m c cc nL s args own D cy A) (hT : kTh A sa s s.heap) (h : lH D cy ad am A s uc um H locs) (cw : vx_CSW R s args own index y bytes maxL ret hh ws rm 2 12 n) (hM : Met l y ws rm (kPx D (hW cy ad) cy sa uc H.size As) (kQi D (hW cy ad) cy (va_A (hW cy ad uc) H.size) Q1) 2 12 (va_A (hW cy ad uc) H.size)) (hn : As.length = n) (hsz : ls.size = nL) (hst : st0 = As.reverse ++ rest) (hrs : (rest.map fun v => v.category).sum ≤ 8) (hf : cells + 2 ≤ R.cells ∧ slots + 12 ≤ R.slots) (hdg : decode cc pc = .ok (.invokestatic index, 3))
    (kk : ∀ (r : Int32) (u1 : ST) (H1 : Heap) (locs1 : List Loc), Q1 r u1 → lH D cy ad am A s u1 um H1 locs1 → W p l e R s m args below meth c H1 locs1 (cells + 2) (slots + 12) Q (F0 m (pc + 3) ls (.int r :: rest))) : W p l e R s m args below meth c H locs cells slots Q (F0 m pc ls st0) := by
  refine va_calli (vx_runSW (As := As) (rest := rest) C.1 hM cw ⟨kBlindX _ _ _ _ _ _ _, kpreX C hT (lL h) _⟩ rfl hn hsz hst (lv_room (m := m) (pc := pc) (ls := ls) (rest := st0) hrs) hdg hf) h.2.2 (fun q _ hq => kfree (lL h) C.2.2 q hq) (kfree (lL h) C.2.2) (fun r u1 t H1 locs1 ht hvm hw hB hz1 hk1 hS => ?_)
  exact kk r u1 H1 locs1 hw (lLafter C.2.2 h ht hB hk1 hS)
theorem lmi {Q1 : Int32 → ST → Prop} (C : kC p m c cc nL s args own D cy A) (h : lH D cy ad am A s uc um H locs) (cw : CallW R s args own RX7 index y bytes maxL ret ws rm 0 0 n) (hM : Met l y ws rm (kPc D (mW cy am) cy um H.size (.ref (am 0) :: As)) (kQi D (mW cy am) cy (va_A (mW cy am um) H.size) Q1) 0 0 (va_A (mW cy am um) H.size)) (hn : As.length = n) (hsz : ls.size = nL) (hst : st0 = As.reverse ++ .ref (am 0) :: rest) (hrs : (rest.map fun v => v.category).sum ≤ 8) (hf : cells ≤ R.cells ∧ slots ≤ R.slots) (hdg : decode cc pc = .ok (.invokevirtual index, 3))
    (kk : ∀ (r : Int32) (u1 : ST) (H1 : Heap) (locs1 : List Loc), Q1 r u1 → lH D cy ad am A s uc u1 H1 locs1 → W p l e R s m args below meth c H1 locs1 cells slots Q (F0 m (pc + 3) ls (.int r :: rest))) : W p l e R s m args below meth c H locs cells slots Q (F0 m pc ls st0) := by
  have hc := lRt h
  refine va_calli (va_runV (As := As) (rest := rest) C.1 hM cw ⟨kBlind _ _ _ _ _ _, va_recv (ci := 7) (q0 := 0) C.2.1 hc.1 rfl rfl, kpre C hc _⟩ rfl hn hsz hst (lv_room (m := m) (pc := pc) (ls := ls) (rest := st0) hrs) hdg hf) h.2.2 (fun q _ hq => kfree hc C.2.2 q hq) (kfree hc C.2.2) (fun r u1 t H1 locs1 ht hvm hw hB hz1 hk1 hS => ?_)
  exact kk r u1 H1 locs1 hw (lRafter C.2.2 h ht hB hk1 hS)
theorem lml {Q1 : Int64 → ST → Prop} (C : kC p m c cc nL s args own D cy A) (h : lH D cy ad am A s uc um H locs) (cw : CallW R s args own RX7 index y bytes maxL ret ws rm 0 0 n) (hM : Met l y ws rm (kPc D (mW cy am) cy um H.size (.ref (am 0) :: As)) (kQl D (mW cy am) cy (va_A (mW cy am um) H.size) Q1) 0 0 (va_A (mW cy am um) H.size)) (hn : As.length = n) (hsz : ls.size = nL) (hst : st0 = As.reverse ++ .ref (am 0) :: rest) (hrs : (rest.map fun v => v.category).sum ≤ 8) (hf : cells ≤ R.cells ∧ slots ≤ R.slots) (hdg : decode cc pc = .ok (.invokevirtual index, 3))
    (kk : ∀ (r : Int64) (u1 : ST) (H1 : Heap) (locs1 : List Loc), Q1 r u1 → lH D cy ad am A s uc u1 H1 locs1 → W p l e R s m args below meth c H1 locs1 cells slots Q (F0 m (pc + 3) ls (.long r :: rest))) : W p l e R s m args below meth c H locs cells slots Q (F0 m pc ls st0) := by
  have hc := lRt h
  refine va_calll (va_runV (As := As) (rest := rest) C.1 hM cw ⟨kBlind _ _ _ _ _ _, va_recv (ci := 7) (q0 := 0) C.2.1 hc.1 rfl rfl, kpre C hc _⟩ rfl hn hsz hst (lv_room (m := m) (pc := pc) (ls := ls) (rest := st0) hrs) hdg hf) h.2.2 (fun q _ hq => kfree hc C.2.2 q hq) (kfree hc C.2.2) (fun r u1 t H1 locs1 ht hvm hw hB hz1 hk1 hS => ?_)
  exact kk r u1 H1 locs1 hw (lRafter C.2.2 h ht hB hk1 hS)
theorem lmv {Q1 : ST → Prop} (C : kC p m c cc nL s args own D cy A) (h : lH D cy ad am A s uc um H locs) (cw : CallW R s args own RX7 index y bytes maxL ret ws rm 0 0 n) (hM : Met l y ws rm (kPc D (mW cy am) cy um H.size (.ref (am 0) :: As)) (kQv D (mW cy am) cy (va_A (mW cy am um) H.size) Q1) 0 0 (va_A (mW cy am um) H.size)) (hn : As.length = n) (hsz : ls.size = nL) (hst : st0 = As.reverse ++ .ref (am 0) :: rest) (hrs : (rest.map fun v => v.category).sum ≤ 8) (hf : cells ≤ R.cells ∧ slots ≤ R.slots) (hdg : decode cc pc = .ok (.invokevirtual index, 3))
    (kk : ∀ (u1 : ST) (H1 : Heap) (locs1 : List Loc), Q1 u1 → lH D cy ad am A s uc u1 H1 locs1 → W p l e R s m args below meth c H1 locs1 cells slots Q (F0 m (pc + 3) ls rest)) : W p l e R s m args below meth c H locs cells slots Q (F0 m pc ls st0) := by
  have hc := lRt h
  refine va_callv (va_runV (As := As) (rest := rest) C.1 hM cw ⟨kBlind _ _ _ _ _ _, va_recv (ci := 7) (q0 := 0) C.2.1 hc.1 rfl rfl, kpre C hc _⟩ rfl hn hsz hst (lv_room (m := m) (pc := pc) (ls := ls) (rest := st0) hrs) hdg hf) h.2.2 (fun q _ hq => kfree hc C.2.2 q hq) (kfree hc C.2.2) (fun u1 t H1 locs1 ht hvm hw hB hz1 hk1 hS => ?_)
  exact kk u1 H1 locs1 hw (lRafter C.2.2 h ht hB hk1 hS)
theorem lci {Q1 : Int32 → ST → Prop} (C : kC p m c cc nL s args own D cy A) (h : lH D cy ad am A s uc um H locs) (cw : CallW R s args own RX6 index y bytes maxL ret ws rm 0 0 n) (hM : Met l y ws rm (kPc D (cW cy ad) cy uc H.size (.ref (ad 0) :: As)) (kQi D (cW cy ad) cy (va_A (cW cy ad uc) H.size) Q1) 0 0 (va_A (cW cy ad uc) H.size)) (hn : As.length = n) (hsz : ls.size = nL) (hst : st0 = As.reverse ++ .ref (ad 0) :: rest) (hrs : (rest.map fun v => v.category).sum ≤ 8) (hf : cells ≤ R.cells ∧ slots ≤ R.slots) (hdg : decode cc pc = .ok (.invokevirtual index, 3))
    (kk : ∀ (r : Int32) (u1 : ST) (H1 : Heap) (locs1 : List Loc), Q1 r u1 → lH D cy ad am A s (sO u1 (gB uc 5)) um H1 locs1 → W p l e R s m args below meth c H1 locs1 cells slots Q (F0 m (pc + 3) ls (.int r :: rest))) : W p l e R s m args below meth c H locs cells slots Q (F0 m pc ls st0) := by
  have hc := hsub (lL h)
  refine va_calli (va_runV (As := As) (rest := rest) C.1 hM cw ⟨kBlind _ _ _ _ _ _, va_recv (ci := 6) (q0 := 0) C.2.1 hc.1 rfl rfl, kpre C hc _⟩ rfl hn hsz hst (lv_room (m := m) (pc := pc) (ls := ls) (rest := st0) hrs) hdg hf) h.2.2 (fun q _ hq => kfree hc C.2.2 q hq) (kfree hc C.2.2) (fun r u1 t H1 locs1 ht hvm hw hB hz1 hk1 hS => ?_)
  exact kk r u1 H1 locs1 hw (lCafter C.2.2 h ht hB hk1 hS)
end LR
def wC0 (a1 a2 a3 : Int32) (uc um : ST) (K : ST → ST → Prop) : Prop :=
  wL_type (((a1 : Int32).toInt64 : Int64) <<< ((32 : Int32).toInt64 &&& 63) ||| ((a2 : Int32).toInt64 &&& 4294967295)) a3 uc (fun r5 uc1 => wX7_type (((a1 : Int32).toInt64 : Int64) <<< ((32 : Int32).toInt64 &&& 63) ||| ((a2 : Int32).toInt64 &&& 4294967295)) a3 um (fun r6 um1 => wX7_thrown um1 (fun r7 um2 => r7 = r5 ∧ ((r5 = 0 → lg_cmp (gB uc1 5 (0 : Int32).toNatClampNeg) ((r6 : Int32).toInt64) = 0) ∧ K uc1 um2))))
def wC1 (a1 : Int32) (uc um : ST) (K : ST → ST → Prop) : Prop :=
  wL_keep a1 uc (fun r5 uc1 => wX7_keep a1 um (fun um1 => wX7_thrown um1 (fun r7 um2 => r7 = r5 ∧ K uc1 um2)))
def wC2 (uc um : ST) (K : ST → ST → Prop) : Prop :=
  wX6_read uc (fun r5 uc1 => wX7_read um (fun r6 um1 => r5 = r6 ∧ K (sO uc1 (gB uc 5)) um1))
def wC3 (uc um : ST) (K : ST → ST → Prop) : Prop :=
  wX6_fault uc (fun r5 uc1 => wX7_fault um (fun r6 um1 => r5 = r6 ∧ K (sO uc1 (gB uc 5)) um1))
def wC4 (a1 : Int32) (uc um : ST) (K : ST → ST → Prop) : Prop :=
  wL_amiss a1 uc (fun r5 uc1 => wX7_amiss a1 um (fun r6 um1 => wX7_thrown um1 (fun r7 um2 => r7 = r5 ∧ ((r5 = 0 → lg_cmp (gB uc1 5 (0 : Int32).toNatClampNeg) ((r6 : Int32).toInt64) = 0) ∧ K uc1 um2))))
def wC5 (a1 : Int32) (uc um : ST) (K : ST → ST → Prop) : Prop :=
  wL_count a1 uc (fun r5 uc1 => wX7_count a1 um (fun r6 um1 => wX7_thrown um1 (fun r7 um2 => r7 = r5 ∧ ((r5 = 0 → lg_cmp (gB uc1 5 (0 : Int32).toNatClampNeg) ((r6 : Int32).toInt64) = 0) ∧ K uc1 um2))))
def wC6 (a1 a2 : Int32) (uc um : ST) (K : ST → ST → Prop) : Prop :=
  wL_rule a1 a2 uc (fun r5 uc1 => wX7_rule a1 a2 um (fun r6 um1 => wX7_thrown um1 (fun r7 um2 => r7 = r5 ∧ ((r5 = 0 → lg_cmp (gB uc1 5 (0 : Int32).toNatClampNeg) ((r6 : Int32).toInt64) = 0) ∧ K uc1 um2))))
def wC7 (a1 a2 a3 : Int32) (uc um : ST) (K : ST → ST → Prop) : Prop :=
  wL_name (if a1 = 0 then 0 else 1) a2 a3 uc (fun r5 uc1 => wX7_name (if a1 = 0 then 0 else 1) a2 a3 um (fun r6 um1 => wX7_thrown um1 (fun r7 um2 => r7 = r5 ∧ ((r5 = 0 → lg_cmp (gB uc1 5 (0 : Int32).toNatClampNeg) ((r6 : Int32).toInt64) = 0) ∧ K uc1 um2))))
def wC8 (a1 : Int32) (uc um : ST) (K : ST → ST → Prop) : Prop :=
  wL_meets a1 uc (fun r5 uc1 => wX7_meets a1 um (fun r6 um1 => wX7_thrown um1 (fun r7 um2 => r7 = r5 ∧ ((r5 = 0 → lg_cmp (gB uc1 5 (0 : Int32).toNatClampNeg) ((r6 : Int32).toInt64) = 0) ∧ K uc1 um2))))
def wC9 (a1 : Int32) (uc um : ST) (K : ST → ST → Prop) : Prop :=
  wL_cases a1 uc (fun r5 uc1 => wX7_cases a1 um (fun r6 um1 => wX7_thrown um1 (fun r7 um2 => r7 = r5 ∧ ((r5 = 0 → lg_cmp (gB uc1 5 (0 : Int32).toNatClampNeg) ((r6 : Int32).toInt64) = 0) ∧ K uc1 um2))))
def wC10 (a1 a2 : Int32) (uc um : ST) (K : ST → ST → Prop) : Prop :=
  wL_node a1 a2 uc (fun r5 uc1 => wX7_node a1 a2 um (fun r6 um1 => wX7_thrown um1 (fun r7 um2 => r7 = r5 ∧ ((r5 = 0 → lg_cmp (gB uc1 5 (0 : Int32).toNatClampNeg) ((r6 : Int32).toInt64) = 0) ∧ K uc1 um2))))
def wC11 (a1 : Int32) (uc um : ST) (K : ST → ST → Prop) : Prop :=
  wL_code a1 uc (fun r5 uc1 => wX7_code a1 um (fun r6 um1 => wX7_thrown um1 (fun r7 um2 => r7 = r5 ∧ ((r5 = 0 → lg_cmp (gB uc1 5 (0 : Int32).toNatClampNeg) ((r6 : Int32).toInt64) = 0) ∧ K uc1 um2))))
def wC12 (a1 a2 : Int32) (uc um : ST) (K : ST → ST → Prop) : Prop :=
  wL_run a1 (if a2 = 0 then 0 else 1) uc (fun r5 uc1 => wX7_run a1 (if a2 = 0 then 0 else 1) um (fun r6 um1 => wX7_thrown um1 (fun r7 um2 => r7 = r5 ∧ ((r5 = 0 → lg_cmp (gB uc1 5 (0 : Int32).toNatClampNeg) ((r6 : Int32).toInt64) = 0) ∧ K uc1 um2))))
def wC13 (uc um : ST) (K : ST → ST → Prop) : Prop :=
  wL_tests  uc (fun r5 uc1 => wX7_tests  um (fun r6 um1 => wX7_thrown um1 (fun r7 um2 => r7 = r5 ∧ ((r5 = 0 → lg_cmp (gB uc1 5 (0 : Int32).toNatClampNeg) r6 = 0) ∧ K uc1 um2))))
/-- a turn of the law -/
def wLaw (a0 a1 a2 a3 : Int32) (uc um : ST) (K : ST → ST → Prop) : Prop :=
  (a0 &&& 15 = 0 → wC0 a1 a2 a3 uc um K) ∧ (a0 &&& 15 = 1 → wC1 a1 uc um K) ∧ (a0 &&& 15 = 2 → wC2  uc um K) ∧ (a0 &&& 15 = 3 → wC3  uc um K) ∧ (a0 &&& 15 = 4 → wC4 a1 uc um K) ∧ (a0 &&& 15 = 5 → wC5 a1 uc um K) ∧ (a0 &&& 15 = 6 → wC6 a1 a2 uc um K) ∧ (a0 &&& 15 = 7 → wC7 a1 a2 a3 uc um K) ∧ (a0 &&& 15 = 8 → wC8 a1 uc um K) ∧ (a0 &&& 15 = 9 → wC9 a1 uc um K) ∧ (a0 &&& 15 = 10 → wC10 a1 a2 uc um K) ∧ (a0 &&& 15 = 11 → wC11 a1 uc um K) ∧ (a0 &&& 15 = 12 → wC12 a1 a2 uc um K) ∧ (a0 &&& 15 = 13 → wC13  uc um K) ∧ ((13 : Int) < (a0 &&& 15).toInt → K uc um)
set_option maxHeartbeats 4000000 in
set_option maxRecDepth 100000 in
theorem lC0 {p : Program} {l : Launch} {e : Env} {s : State} {m : MethodId} {below : List Frame} {meth : Method} {c : Code} {D : va_G} {cy : CY} {ad am sa : Nat → Nat} {b L : Nat} {xs : Nat → Int32} {Qe : State → Prop} {cells slots : Nat} (hst : l.stackTraces = false) (C : kC p m c cL_law 8 s #[Value.ref b] RL D cy (fun q => s.heap.size ≤ q)) (hT : kTh (fun q => s.heap.size ≤ q) sa s s.heap) (hX : va_X b L xs s s.heap) (hbl : b < s.heap.size) (hroom : cells + 2 ≤ room_1.cells ∧ slots + 12 ≤ room_1.slots) (x4 : Int32) (hi0 : vp_in x4 L) (hi1 : vp_in (x4 + 1) L) (hi2 : vp_in (x4 + 2) L) (hi3 : vp_in (x4 + 3) L) {K : ST → ST → Prop} (kend : ∀ (uc um : ST) (H : Heap) (locs : List Loc) (ls : Array Slot), K uc um → lH D cy ad am (fun q => s.heap.size ≤ q) s uc um H locs → lv_has ls 8 [(0, .ref b), (1, .ref (ad 0)), (2, .ref (am 0)), (3, .ref (ad 50)), (4, .int x4)] → W p l e room_1 s m #[Value.ref b] below meth c H locs (cells + 2) (slots + 12) Qe (F0 m 909 ls [])) : ∀ (uc um : ST) (H : Heap) (locs : List Loc) (ls : Array Slot), wC0 (xs (x4 + 1).toNatClampNeg) (xs (x4 + 2).toNatClampNeg) (xs (x4 + 3).toNatClampNeg) uc um K → lH D cy ad am (fun q => s.heap.size ≤ q) s uc um H locs → lv_has ls 8 [(0, .ref b), (1, .ref (ad 0)), (2, .ref (am 0)), (3, .ref (ad 50)), (4, .int x4)] → W p l e room_1 s m #[Value.ref b] below meth c H locs cells slots Qe (F0 m 108 ls []) := by
  intro uc um H locs ls hw h hl
  obtain ⟨⟨hx, hb, hml, hown, hts⟩, hK, hA⟩ := id C
  have hbA : ¬ (fun q : Nat => s.heap.size ≤ q) b := Nat.not_le.mpr hbl
  have hroom2 : cells + 2 ≤ room_1.cells ∧ slots + 12 ≤ room_1.slots := hroom
  have hroom0 : cells ≤ room_1.cells ∧ slots ≤ room_1.slots := ⟨by omega, by omega⟩
  unfold wC0 at hw
  refine lv_aload_n hx hb dL_law_108 rfl (lv_at hl 1 rfl) ?_
  refine lv_aload_n hx hb dL_law_109 rfl (lv_at hl 0 rfl) ?_
  refine lv_iload hx hb dL_law_110 (lv_at hl 4 rfl) ?_
  refine lv_iconst (v := 1) hx hb dL_law_112 (by decide) ?_
  refine lv_iadd hx hb dL_law_113 ?_
  refine va_sld hx hb hX hbl hbA h.2.2 hi1 dL_law_114 ?_
  refine lv_i2l hx hb dL_law_115 rfl ?_
  refine lv_bipush (v := 32) hx hb dL_law_116 (by decide) ?_
  refine lv_lshl hx hb dL_law_118 rfl ?_
  refine lv_aload_n hx hb dL_law_119 rfl (lv_at hl 0 rfl) ?_
  refine lv_iload hx hb dL_law_120 (lv_at hl 4 rfl) ?_
  refine lv_iconst (v := 2) hx hb dL_law_122 (by decide) ?_
  refine lv_iadd hx hb dL_law_123 ?_
  refine va_sld hx hb hX hbl hbA h.2.2 hi2 dL_law_124 ?_
  refine lv_i2l hx hb dL_law_125 rfl ?_
  refine lv_ldc2 hx hb hown (hts _ wi_ld_L_64) dL_law_126 ?_
  refine lv_land hx hb dL_law_129 ?_
  refine lv_lor hx hb dL_law_130 ?_
  refine lv_aload_n hx hb dL_law_131 rfl (lv_at hl 0 rfl) ?_
  refine lv_iload hx hb dL_law_132 (lv_at hl 4 rfl) ?_
  refine lv_iconst (v := 3) hx hb dL_law_134 (by decide) ?_
  refine lv_iadd hx hb dL_law_135 ?_
  refine va_sld hx hb hX hbl hbA h.2.2 hi3 dL_law_136 ?_
  refine lv_aload_n hx hb dL_law_137 rfl (lv_at hl 3 rfl) ?_
  refine lSi (As := [.ref (ad 0), .long (((((xs (x4 + 1).toNatClampNeg) : Int32).toInt64 : Int64) <<< ((32 : Int32).toInt64 &&& 63)) ||| (((xs (x4 + 2).toNatClampNeg) : Int32).toInt64 &&& 4294967295)), .int (xs (x4 + 3).toNatClampNeg), .ref (ad 50)]) (rest := []) C hT h (vx_cwSW 4 hts (gd_SW wi_ml_L_66 wi_st_L_type wi_in_L wi_cw_L_type) rfl rfl rfl hd_L_type.2 ⟨Nat.le_of_ble_eq_true rfl, Nat.le_of_ble_eq_true rfl⟩) (mL_type l hst D cy ad sa (((((xs (x4 + 1).toNatClampNeg) : Int32).toInt64 : Int64) <<< ((32 : Int32).toInt64 &&& 63)) ||| (((xs (x4 + 2).toNatClampNeg) : Int32).toInt64 &&& 4294967295)) (xs (x4 + 3).toNatClampNeg) _ _ hw) rfl hl.1 rfl (Nat.le_of_ble_eq_true rfl) hroom dL_law_138 (fun r5 uc1 H locs hw h => ?_)
  refine lv_istore (lv' := [(5, .int r5), (0, .ref b), (1, .ref (ad 0)), (2, .ref (am 0)), (3, .ref (ad 50)), (4, .int x4)]) hx hb dL_law_141 hl (by decide) rfl (fun ls hl => ?_)
  refine lv_aload_n hx hb dL_law_143 rfl (lv_at hl 3 rfl) ?_
  refine lv_aload_n hx hb dL_law_144 rfl (lv_at hl 1 rfl) ?_
  refine lv_iload hx hb dL_law_145 (lv_at hl 5 rfl) ?_
  refine lv_iconst (v := 1) hx hb dL_law_147 (by decide) ?_
  refine lv_iadd hx hb dL_law_148 ?_
  refine va_sld hx hb hX hbl hbA h.2.2 hi1 dL_law_149 ?_
  refine lv_i2l hx hb dL_law_150 rfl ?_
  refine lv_bipush (v := 32) hx hb dL_law_151 (by decide) ?_
  refine lv_lshl hx hb dL_law_153 rfl ?_
  refine lv_aload_n hx hb dL_law_154 rfl (lv_at hl 1 rfl) ?_
  refine lv_iload hx hb dL_law_155 (lv_at hl 5 rfl) ?_
  refine lv_iconst (v := 2) hx hb dL_law_157 (by decide) ?_
  refine lv_iadd hx hb dL_law_158 ?_
  refine va_sld hx hb hX hbl hbA h.2.2 hi2 dL_law_159 ?_
  refine lv_i2l hx hb dL_law_160 rfl ?_
  refine lv_ldc2 hx hb hown (hts _ wi_ld_L_64) dL_law_161 ?_
  refine lv_land hx hb dL_law_164 ?_
  refine lv_lor hx hb dL_law_165 ?_
  refine lv_aload_n hx hb dL_law_166 rfl (lv_at hl 1 rfl) ?_
  refine lv_iload hx hb dL_law_167 (lv_at hl 5 rfl) ?_
  refine lv_iconst (v := 3) hx hb dL_law_169 (by decide) ?_
  refine lv_iadd hx hb dL_law_170 ?_
  refine va_sld hx hb hX hbl hbA h.2.2 hi3 dL_law_171 ?_
  refine lmi (As := [.long (((((xs (x4 + 1).toNatClampNeg) : Int32).toInt64 : Int64) <<< ((32 : Int32).toInt64 &&& 63)) ||| (((xs (x4 + 2).toNatClampNeg) : Int32).toInt64 &&& 4294967295)), .int (xs (x4 + 3).toNatClampNeg)]) (rest := []) C h (cwV 2 hts (gd_V wi_ml_L_71 wi_im_X7_type wi_se_X7_type wi_in_X7 wi_co_X7_type) rfl rfl rfl hd_X7_type ⟨Nat.le_of_ble_eq_true rfl, Nat.le_of_ble_eq_true rfl⟩) (mX7_type l D cy am (((((xs (x4 + 1).toNatClampNeg) : Int32).toInt64 : Int64) <<< ((32 : Int32).toInt64 &&& 63)) ||| (((xs (x4 + 2).toNatClampNeg) : Int32).toInt64 &&& 4294967295)) (xs (x4 + 3).toNatClampNeg) _ _ hw) rfl hl.1 rfl (Nat.le_of_ble_eq_true rfl) hroom2 dL_law_172 (fun r6 un H locs hw h => ?_)
  refine lv_istore (lv' := [(6, .int r6), (5, .int r5), (0, .ref b), (1, .ref (ad 0)), (2, .ref (am 0)), (3, .ref (ad 50)), (4, .int x4)]) hx hb dL_law_175 hl (by decide) rfl (fun ls hl => ?_)
  refine lv_aload_n hx hb dL_law_177 rfl (lv_at hl 4 rfl) ?_
  refine lmi (As := []) (rest := []) C h (cwV 0 hts (gd_V wi_ml_L_72 wi_im_X7_thrown wi_se_X7_thrown wi_in_X7 wi_co_X7_thrown) rfl rfl rfl hd_X7_thrown ⟨Nat.le_of_ble_eq_true rfl, Nat.le_of_ble_eq_true rfl⟩) (mX7_thrown l D cy am  _ _ hw) rfl hl.1 rfl (Nat.le_of_ble_eq_true rfl) hroom2 dL_law_178 (fun r7 un H locs hw h => ?_)
  refine lv_iload hx hb dL_law_181 (lv_at hl 1 rfl) ?_
  refine lv_icmp_eq (tgt := 188) hx hb dL_law_183 (by decide) (fun c183 => ?_) (fun c183 => ?_)
  · have hq := hw.2
    have hw := hq
    refine lv_iload hx hb dL_law_188 (lv_at hl 1 rfl) ?_
    refine lv_if_ne (tgt := 205) hx hb dL_law_190 (by decide) (fun c190 => ?_) (fun c190 => ?_)
    · have hw := hw.2
      refine lv_goto (tgt := 909) hx hb dL_law_205 (by decide) ?_
      exact kend _ _ _ _ _ hw h (lv_sub hl [2, 3, 4, 5, 6] rfl)
    · have ck := c190
      refine lv_aload_n hx hb dL_law_193 rfl (lv_at hl 5 rfl) ?_
      refine lv_iconst (v := 0) hx hb dL_law_194 (by decide) ?_
      refine va_lald hx hb hK h.1 50 2 (lW_out cy ad am _ _) rfl vp_in01 dL_law_195 ?_
      refine lv_iload hx hb dL_law_196 (lv_at hl 0 rfl) ?_
      refine lv_i2l hx hb dL_law_198 rfl ?_
      refine W.lcmp hx hb dL_law_199 ?_
      refine lv_if_eq (tgt := 205) hx hb dL_law_200 (by decide) (fun c200 => ?_) (fun c200 => ?_)
      · have hw := hw.2
        refine lv_goto (tgt := 909) hx hb dL_law_205 (by decide) ?_
        exact kend _ _ _ _ _ hw h (lv_sub hl [2, 3, 4, 5, 6] rfl)
      · exact absurd (hw.1 ck) c200
  · exact absurd hw.1 c183
set_option maxHeartbeats 4000000 in
set_option maxRecDepth 100000 in
theorem lC1 {p : Program} {l : Launch} {e : Env} {s : State} {m : MethodId} {below : List Frame} {meth : Method} {c : Code} {D : va_G} {cy : CY} {ad am sa : Nat → Nat} {b L : Nat} {xs : Nat → Int32} {Qe : State → Prop} {cells slots : Nat} (hst : l.stackTraces = false) (C : kC p m c cL_law 8 s #[Value.ref b] RL D cy (fun q => s.heap.size ≤ q)) (hT : kTh (fun q => s.heap.size ≤ q) sa s s.heap) (hX : va_X b L xs s s.heap) (hbl : b < s.heap.size) (hroom : cells + 2 ≤ room_1.cells ∧ slots + 12 ≤ room_1.slots) (x4 : Int32) (hi0 : vp_in x4 L) (hi1 : vp_in (x4 + 1) L) (hi2 : vp_in (x4 + 2) L) (hi3 : vp_in (x4 + 3) L) {K : ST → ST → Prop} (kend : ∀ (uc um : ST) (H : Heap) (locs : List Loc) (ls : Array Slot), K uc um → lH D cy ad am (fun q => s.heap.size ≤ q) s uc um H locs → lv_has ls 8 [(0, .ref b), (1, .ref (ad 0)), (2, .ref (am 0)), (3, .ref (ad 50)), (4, .int x4)] → W p l e room_1 s m #[Value.ref b] below meth c H locs (cells + 2) (slots + 12) Qe (F0 m 909 ls [])) : ∀ (uc um : ST) (H : Heap) (locs : List Loc) (ls : Array Slot), wC1 (xs (x4 + 1).toNatClampNeg) uc um K → lH D cy ad am (fun q => s.heap.size ≤ q) s uc um H locs → lv_has ls 8 [(0, .ref b), (1, .ref (ad 0)), (2, .ref (am 0)), (3, .ref (ad 50)), (4, .int x4)] → W p l e room_1 s m #[Value.ref b] below meth c H locs cells slots Qe (F0 m 208 ls []) := by
  intro uc um H locs ls hw h hl
  obtain ⟨⟨hx, hb, hml, hown, hts⟩, hK, hA⟩ := id C
  have hbA : ¬ (fun q : Nat => s.heap.size ≤ q) b := Nat.not_le.mpr hbl
  have hroom2 : cells + 2 ≤ room_1.cells ∧ slots + 12 ≤ room_1.slots := hroom
  have hroom0 : cells ≤ room_1.cells ∧ slots ≤ room_1.slots := ⟨by omega, by omega⟩
  unfold wC1 at hw
  refine lv_aload_n hx hb dL_law_208 rfl (lv_at hl 1 rfl) ?_
  refine lv_aload_n hx hb dL_law_209 rfl (lv_at hl 0 rfl) ?_
  refine lv_iload hx hb dL_law_210 (lv_at hl 4 rfl) ?_
  refine lv_iconst (v := 1) hx hb dL_law_212 (by decide) ?_
  refine lv_iadd hx hb dL_law_213 ?_
  refine va_sld hx hb hX hbl hbA h.2.2 hi1 dL_law_214 ?_
  refine lSi (As := [.ref (ad 0), .int (xs (x4 + 1).toNatClampNeg)]) (rest := []) C hT h (vx_cwSW 2 hts (gd_SW wi_ml_L_76 wi_st_L_keep wi_in_L wi_cw_L_keep) rfl rfl rfl hd_L_keep.2 ⟨Nat.le_of_ble_eq_true rfl, Nat.le_of_ble_eq_true rfl⟩) (mL_keep l hst D cy ad sa (xs (x4 + 1).toNatClampNeg) _ _ hw) rfl hl.1 rfl (Nat.le_of_ble_eq_true rfl) hroom dL_law_215 (fun r5 uc1 H locs hw h => ?_)
  refine lv_istore (lv' := [(5, .int r5), (0, .ref b), (1, .ref (ad 0)), (2, .ref (am 0)), (3, .ref (ad 50)), (4, .int x4)]) hx hb dL_law_218 hl (by decide) rfl (fun ls hl => ?_)
  refine lv_aload_n hx hb dL_law_220 rfl (lv_at hl 3 rfl) ?_
  refine lv_aload_n hx hb dL_law_221 rfl (lv_at hl 1 rfl) ?_
  refine lv_iload hx hb dL_law_222 (lv_at hl 5 rfl) ?_
  refine lv_iconst (v := 1) hx hb dL_law_224 (by decide) ?_
  refine lv_iadd hx hb dL_law_225 ?_
  refine va_sld hx hb hX hbl hbA h.2.2 hi1 dL_law_226 ?_
  refine lmv (As := [.int (xs (x4 + 1).toNatClampNeg)]) (rest := []) C h (cwV 1 hts (gd_V wi_ml_L_79 wi_im_X7_keep wi_se_X7_keep wi_in_X7 wi_co_X7_keep) rfl rfl rfl hd_X7_keep ⟨Nat.le_of_ble_eq_true rfl, Nat.le_of_ble_eq_true rfl⟩) (mX7_keep l D cy am (xs (x4 + 1).toNatClampNeg) _ _ hw) rfl hl.1 rfl (Nat.le_of_ble_eq_true rfl) hroom2 dL_law_227 (fun un H locs hw h => ?_)
  refine lv_aload_n hx hb dL_law_230 rfl (lv_at hl 3 rfl) ?_
  refine lmi (As := []) (rest := []) C h (cwV 0 hts (gd_V wi_ml_L_72 wi_im_X7_thrown wi_se_X7_thrown wi_in_X7 wi_co_X7_thrown) rfl rfl rfl hd_X7_thrown ⟨Nat.le_of_ble_eq_true rfl, Nat.le_of_ble_eq_true rfl⟩) (mX7_thrown l D cy am  _ _ hw) rfl hl.1 rfl (Nat.le_of_ble_eq_true rfl) hroom2 dL_law_231 (fun r7 un H locs hw h => ?_)
  refine lv_iload hx hb dL_law_234 (lv_at hl 0 rfl) ?_
  refine lv_icmp_eq (tgt := 241) hx hb dL_law_236 (by decide) (fun c236 => ?_) (fun c236 => ?_)
  · have hq := hw.2
    have hw := hq
    refine lv_goto (tgt := 909) hx hb dL_law_241 (by decide) ?_
    exact kend _ _ _ _ _ hw h (lv_sub hl [1, 2, 3, 4, 5] rfl)
  · exact absurd hw.1 c236
set_option maxHeartbeats 4000000 in
set_option maxRecDepth 100000 in
theorem lC2 {p : Program} {l : Launch} {e : Env} {s : State} {m : MethodId} {below : List Frame} {meth : Method} {c : Code} {D : va_G} {cy : CY} {ad am sa : Nat → Nat} {b L : Nat} {xs : Nat → Int32} {Qe : State → Prop} {cells slots : Nat} (hst : l.stackTraces = false) (C : kC p m c cL_law 8 s #[Value.ref b] RL D cy (fun q => s.heap.size ≤ q)) (hT : kTh (fun q => s.heap.size ≤ q) sa s s.heap) (hX : va_X b L xs s s.heap) (hbl : b < s.heap.size) (hroom : cells + 2 ≤ room_1.cells ∧ slots + 12 ≤ room_1.slots) (x4 : Int32) (hi0 : vp_in x4 L) (hi1 : vp_in (x4 + 1) L) (hi2 : vp_in (x4 + 2) L) (hi3 : vp_in (x4 + 3) L) {K : ST → ST → Prop} (kend : ∀ (uc um : ST) (H : Heap) (locs : List Loc) (ls : Array Slot), K uc um → lH D cy ad am (fun q => s.heap.size ≤ q) s uc um H locs → lv_has ls 8 [(0, .ref b), (1, .ref (ad 0)), (2, .ref (am 0)), (3, .ref (ad 50)), (4, .int x4)] → W p l e room_1 s m #[Value.ref b] below meth c H locs (cells + 2) (slots + 12) Qe (F0 m 909 ls [])) : ∀ (uc um : ST) (H : Heap) (locs : List Loc) (ls : Array Slot), wC2  uc um K → lH D cy ad am (fun q => s.heap.size ≤ q) s uc um H locs → lv_has ls 8 [(0, .ref b), (1, .ref (ad 0)), (2, .ref (am 0)), (3, .ref (ad 50)), (4, .int x4)] → W p l e room_1 s m #[Value.ref b] below meth c H locs cells slots Qe (F0 m 244 ls []) := by
  intro uc um H locs ls hw h hl
  obtain ⟨⟨hx, hb, hml, hown, hts⟩, hK, hA⟩ := id C
  have hbA : ¬ (fun q : Nat => s.heap.size ≤ q) b := Nat.not_le.mpr hbl
  have hroom2 : cells + 2 ≤ room_1.cells ∧ slots + 12 ≤ room_1.slots := hroom
  have hroom0 : cells ≤ room_1.cells ∧ slots ≤ room_1.slots := ⟨by omega, by omega⟩
  unfold wC2 at hw
  refine lv_aload_n hx hb dL_law_244 rfl (lv_at hl 1 rfl) ?_
  refine lci (As := []) (rest := []) C h (cwV 0 hts (gd_V wi_ml_L_80 wi_im_X6_read wi_se_X6_read wi_in_X6 wi_co_X6_read) rfl rfl rfl hd_X6_read ⟨Nat.le_of_ble_eq_true rfl, Nat.le_of_ble_eq_true rfl⟩) (mX6_read l D cy ad  _ _ hw) rfl hl.1 rfl (Nat.le_of_ble_eq_true rfl) hroom0 dL_law_245 (fun r5 un H locs hw h => ?_)
  refine lv_aload_n hx hb dL_law_248 rfl (lv_at hl 2 rfl) ?_
  refine lmi (As := []) (rest := [.int r5]) C h (cwV 0 hts (gd_V wi_ml_L_83 wi_im_X7_read wi_se_X7_read wi_in_X7 wi_co_X7_read) rfl rfl rfl hd_X7_read ⟨Nat.le_of_ble_eq_true rfl, Nat.le_of_ble_eq_true rfl⟩) (mX7_read l D cy am  _ _ hw) rfl hl.1 rfl (Nat.le_of_ble_eq_true rfl) hroom0 dL_law_249 (fun r6 un H locs hw h => ?_)
  refine lv_icmp_eq (tgt := 909) hx hb dL_law_252 (by decide) (fun c252 => ?_) (fun c252 => ?_)
  · have hq := hw.2
    have hw := hq
    exact W.widen (k := cells + 2) (n := slots + 12) (by omega) (by omega) (kend _ _ _ _ _ hw h (lv_sub hl [0, 1, 2, 3, 4] rfl))
  · exact absurd hw.1 c252
set_option maxHeartbeats 4000000 in
set_option maxRecDepth 100000 in
theorem lC3 {p : Program} {l : Launch} {e : Env} {s : State} {m : MethodId} {below : List Frame} {meth : Method} {c : Code} {D : va_G} {cy : CY} {ad am sa : Nat → Nat} {b L : Nat} {xs : Nat → Int32} {Qe : State → Prop} {cells slots : Nat} (hst : l.stackTraces = false) (C : kC p m c cL_law 8 s #[Value.ref b] RL D cy (fun q => s.heap.size ≤ q)) (hT : kTh (fun q => s.heap.size ≤ q) sa s s.heap) (hX : va_X b L xs s s.heap) (hbl : b < s.heap.size) (hroom : cells + 2 ≤ room_1.cells ∧ slots + 12 ≤ room_1.slots) (x4 : Int32) (hi0 : vp_in x4 L) (hi1 : vp_in (x4 + 1) L) (hi2 : vp_in (x4 + 2) L) (hi3 : vp_in (x4 + 3) L) {K : ST → ST → Prop} (kend : ∀ (uc um : ST) (H : Heap) (locs : List Loc) (ls : Array Slot), K uc um → lH D cy ad am (fun q => s.heap.size ≤ q) s uc um H locs → lv_has ls 8 [(0, .ref b), (1, .ref (ad 0)), (2, .ref (am 0)), (3, .ref (ad 50)), (4, .int x4)] → W p l e room_1 s m #[Value.ref b] below meth c H locs (cells + 2) (slots + 12) Qe (F0 m 909 ls [])) : ∀ (uc um : ST) (H : Heap) (locs : List Loc) (ls : Array Slot), wC3  uc um K → lH D cy ad am (fun q => s.heap.size ≤ q) s uc um H locs → lv_has ls 8 [(0, .ref b), (1, .ref (ad 0)), (2, .ref (am 0)), (3, .ref (ad 50)), (4, .int x4)] → W p l e room_1 s m #[Value.ref b] below meth c H locs cells slots Qe (F0 m 257 ls []) := by
  intro uc um H locs ls hw h hl
  obtain ⟨⟨hx, hb, hml, hown, hts⟩, hK, hA⟩ := id C
  have hbA : ¬ (fun q : Nat => s.heap.size ≤ q) b := Nat.not_le.mpr hbl
  have hroom2 : cells + 2 ≤ room_1.cells ∧ slots + 12 ≤ room_1.slots := hroom
  have hroom0 : cells ≤ room_1.cells ∧ slots ≤ room_1.slots := ⟨by omega, by omega⟩
  unfold wC3 at hw
  refine lv_aload_n hx hb dL_law_257 rfl (lv_at hl 1 rfl) ?_
  refine lci (As := []) (rest := []) C h (cwV 0 hts (gd_V wi_ml_L_84 wi_im_X6_fault wi_se_X6_fault wi_in_X6 wi_co_X6_fault) rfl rfl rfl hd_X6_fault ⟨Nat.le_of_ble_eq_true rfl, Nat.le_of_ble_eq_true rfl⟩) (mX6_fault l D cy ad  _ _ hw) rfl hl.1 rfl (Nat.le_of_ble_eq_true rfl) hroom0 dL_law_258 (fun r5 un H locs hw h => ?_)
  refine lv_aload_n hx hb dL_law_261 rfl (lv_at hl 2 rfl) ?_
  refine lmi (As := []) (rest := [.int r5]) C h (cwV 0 hts (gd_V wi_ml_L_87 wi_im_X7_fault wi_se_X7_fault wi_in_X7 wi_co_X7_fault) rfl rfl rfl hd_X7_fault ⟨Nat.le_of_ble_eq_true rfl, Nat.le_of_ble_eq_true rfl⟩) (mX7_fault l D cy am  _ _ hw) rfl hl.1 rfl (Nat.le_of_ble_eq_true rfl) hroom0 dL_law_262 (fun r6 un H locs hw h => ?_)
  refine lv_icmp_eq (tgt := 909) hx hb dL_law_265 (by decide) (fun c265 => ?_) (fun c265 => ?_)
  · have hq := hw.2
    have hw := hq
    exact W.widen (k := cells + 2) (n := slots + 12) (by omega) (by omega) (kend _ _ _ _ _ hw h (lv_sub hl [0, 1, 2, 3, 4] rfl))
  · exact absurd hw.1 c265
set_option maxHeartbeats 4000000 in
set_option maxRecDepth 100000 in
theorem lC4 {p : Program} {l : Launch} {e : Env} {s : State} {m : MethodId} {below : List Frame} {meth : Method} {c : Code} {D : va_G} {cy : CY} {ad am sa : Nat → Nat} {b L : Nat} {xs : Nat → Int32} {Qe : State → Prop} {cells slots : Nat} (hst : l.stackTraces = false) (C : kC p m c cL_law 8 s #[Value.ref b] RL D cy (fun q => s.heap.size ≤ q)) (hT : kTh (fun q => s.heap.size ≤ q) sa s s.heap) (hX : va_X b L xs s s.heap) (hbl : b < s.heap.size) (hroom : cells + 2 ≤ room_1.cells ∧ slots + 12 ≤ room_1.slots) (x4 : Int32) (hi0 : vp_in x4 L) (hi1 : vp_in (x4 + 1) L) (hi2 : vp_in (x4 + 2) L) (hi3 : vp_in (x4 + 3) L) {K : ST → ST → Prop} (kend : ∀ (uc um : ST) (H : Heap) (locs : List Loc) (ls : Array Slot), K uc um → lH D cy ad am (fun q => s.heap.size ≤ q) s uc um H locs → lv_has ls 8 [(0, .ref b), (1, .ref (ad 0)), (2, .ref (am 0)), (3, .ref (ad 50)), (4, .int x4)] → W p l e room_1 s m #[Value.ref b] below meth c H locs (cells + 2) (slots + 12) Qe (F0 m 909 ls [])) : ∀ (uc um : ST) (H : Heap) (locs : List Loc) (ls : Array Slot), wC4 (xs (x4 + 1).toNatClampNeg) uc um K → lH D cy ad am (fun q => s.heap.size ≤ q) s uc um H locs → lv_has ls 8 [(0, .ref b), (1, .ref (ad 0)), (2, .ref (am 0)), (3, .ref (ad 50)), (4, .int x4)] → W p l e room_1 s m #[Value.ref b] below meth c H locs cells slots Qe (F0 m 270 ls []) := by
  intro uc um H locs ls hw h hl
  obtain ⟨⟨hx, hb, hml, hown, hts⟩, hK, hA⟩ := id C
  have hbA : ¬ (fun q : Nat => s.heap.size ≤ q) b := Nat.not_le.mpr hbl
  have hroom2 : cells + 2 ≤ room_1.cells ∧ slots + 12 ≤ room_1.slots := hroom
  have hroom0 : cells ≤ room_1.cells ∧ slots ≤ room_1.slots := ⟨by omega, by omega⟩
  unfold wC4 at hw
  refine lv_aload_n hx hb dL_law_270 rfl (lv_at hl 1 rfl) ?_
  refine lv_aload_n hx hb dL_law_271 rfl (lv_at hl 0 rfl) ?_
  refine lv_iload hx hb dL_law_272 (lv_at hl 4 rfl) ?_
  refine lv_iconst (v := 1) hx hb dL_law_274 (by decide) ?_
  refine lv_iadd hx hb dL_law_275 ?_
  refine va_sld hx hb hX hbl hbA h.2.2 hi1 dL_law_276 ?_
  refine lv_aload_n hx hb dL_law_277 rfl (lv_at hl 3 rfl) ?_
  refine lSi (As := [.ref (ad 0), .int (xs (x4 + 1).toNatClampNeg), .ref (ad 50)]) (rest := []) C hT h (vx_cwSW 3 hts (gd_SW wi_ml_L_88 wi_st_L_amiss wi_in_L wi_cw_L_amiss) rfl rfl rfl hd_L_amiss.2 ⟨Nat.le_of_ble_eq_true rfl, Nat.le_of_ble_eq_true rfl⟩) (mL_amiss l hst D cy ad sa (xs (x4 + 1).toNatClampNeg) _ _ hw) rfl hl.1 rfl (Nat.le_of_ble_eq_true rfl) hroom dL_law_278 (fun r5 uc1 H locs hw h => ?_)
  refine lv_istore (lv' := [(5, .int r5), (0, .ref b), (1, .ref (ad 0)), (2, .ref (am 0)), (3, .ref (ad 50)), (4, .int x4)]) hx hb dL_law_281 hl (by decide) rfl (fun ls hl => ?_)
  refine lv_aload_n hx hb dL_law_283 rfl (lv_at hl 3 rfl) ?_
  refine lv_aload_n hx hb dL_law_284 rfl (lv_at hl 1 rfl) ?_
  refine lv_iload hx hb dL_law_285 (lv_at hl 5 rfl) ?_
  refine lv_iconst (v := 1) hx hb dL_law_287 (by decide) ?_
  refine lv_iadd hx hb dL_law_288 ?_
  refine va_sld hx hb hX hbl hbA h.2.2 hi1 dL_law_289 ?_
  refine lmi (As := [.int (xs (x4 + 1).toNatClampNeg)]) (rest := []) C h (cwV 1 hts (gd_V wi_ml_L_91 wi_im_X7_amiss wi_se_X7_amiss wi_in_X7 wi_co_X7_amiss) rfl rfl rfl hd_X7_amiss ⟨Nat.le_of_ble_eq_true rfl, Nat.le_of_ble_eq_true rfl⟩) (mX7_amiss l D cy am (xs (x4 + 1).toNatClampNeg) _ _ hw) rfl hl.1 rfl (Nat.le_of_ble_eq_true rfl) hroom2 dL_law_290 (fun r6 un H locs hw h => ?_)
  refine lv_istore (lv' := [(6, .int r6), (5, .int r5), (0, .ref b), (1, .ref (ad 0)), (2, .ref (am 0)), (3, .ref (ad 50)), (4, .int x4)]) hx hb dL_law_293 hl (by decide) rfl (fun ls hl => ?_)
  refine lv_aload_n hx hb dL_law_295 rfl (lv_at hl 4 rfl) ?_
  refine lmi (As := []) (rest := []) C h (cwV 0 hts (gd_V wi_ml_L_72 wi_im_X7_thrown wi_se_X7_thrown wi_in_X7 wi_co_X7_thrown) rfl rfl rfl hd_X7_thrown ⟨Nat.le_of_ble_eq_true rfl, Nat.le_of_ble_eq_true rfl⟩) (mX7_thrown l D cy am  _ _ hw) rfl hl.1 rfl (Nat.le_of_ble_eq_true rfl) hroom2 dL_law_296 (fun r7 un H locs hw h => ?_)
  refine lv_iload hx hb dL_law_299 (lv_at hl 1 rfl) ?_
  refine lv_icmp_eq (tgt := 306) hx hb dL_law_301 (by decide) (fun c301 => ?_) (fun c301 => ?_)
  · have hq := hw.2
    have hw := hq
    refine lv_iload hx hb dL_law_306 (lv_at hl 1 rfl) ?_
    refine lv_if_ne (tgt := 323) hx hb dL_law_308 (by decide) (fun c308 => ?_) (fun c308 => ?_)
    · have hw := hw.2
      refine lv_goto (tgt := 909) hx hb dL_law_323 (by decide) ?_
      exact kend _ _ _ _ _ hw h (lv_sub hl [2, 3, 4, 5, 6] rfl)
    · have ck := c308
      refine lv_aload_n hx hb dL_law_311 rfl (lv_at hl 5 rfl) ?_
      refine lv_iconst (v := 0) hx hb dL_law_312 (by decide) ?_
      refine va_lald hx hb hK h.1 50 2 (lW_out cy ad am _ _) rfl vp_in01 dL_law_313 ?_
      refine lv_iload hx hb dL_law_314 (lv_at hl 0 rfl) ?_
      refine lv_i2l hx hb dL_law_316 rfl ?_
      refine W.lcmp hx hb dL_law_317 ?_
      refine lv_if_eq (tgt := 323) hx hb dL_law_318 (by decide) (fun c318 => ?_) (fun c318 => ?_)
      · have hw := hw.2
        refine lv_goto (tgt := 909) hx hb dL_law_323 (by decide) ?_
        exact kend _ _ _ _ _ hw h (lv_sub hl [2, 3, 4, 5, 6] rfl)
      · exact absurd (hw.1 ck) c318
  · exact absurd hw.1 c301
set_option maxHeartbeats 4000000 in
set_option maxRecDepth 100000 in
theorem lC5 {p : Program} {l : Launch} {e : Env} {s : State} {m : MethodId} {below : List Frame} {meth : Method} {c : Code} {D : va_G} {cy : CY} {ad am sa : Nat → Nat} {b L : Nat} {xs : Nat → Int32} {Qe : State → Prop} {cells slots : Nat} (hst : l.stackTraces = false) (C : kC p m c cL_law 8 s #[Value.ref b] RL D cy (fun q => s.heap.size ≤ q)) (hT : kTh (fun q => s.heap.size ≤ q) sa s s.heap) (hX : va_X b L xs s s.heap) (hbl : b < s.heap.size) (hroom : cells + 2 ≤ room_1.cells ∧ slots + 12 ≤ room_1.slots) (x4 : Int32) (hi0 : vp_in x4 L) (hi1 : vp_in (x4 + 1) L) (hi2 : vp_in (x4 + 2) L) (hi3 : vp_in (x4 + 3) L) {K : ST → ST → Prop} (kend : ∀ (uc um : ST) (H : Heap) (locs : List Loc) (ls : Array Slot), K uc um → lH D cy ad am (fun q => s.heap.size ≤ q) s uc um H locs → lv_has ls 8 [(0, .ref b), (1, .ref (ad 0)), (2, .ref (am 0)), (3, .ref (ad 50)), (4, .int x4)] → W p l e room_1 s m #[Value.ref b] below meth c H locs (cells + 2) (slots + 12) Qe (F0 m 909 ls [])) : ∀ (uc um : ST) (H : Heap) (locs : List Loc) (ls : Array Slot), wC5 (xs (x4 + 1).toNatClampNeg) uc um K → lH D cy ad am (fun q => s.heap.size ≤ q) s uc um H locs → lv_has ls 8 [(0, .ref b), (1, .ref (ad 0)), (2, .ref (am 0)), (3, .ref (ad 50)), (4, .int x4)] → W p l e room_1 s m #[Value.ref b] below meth c H locs cells slots Qe (F0 m 326 ls []) := by
  intro uc um H locs ls hw h hl
  obtain ⟨⟨hx, hb, hml, hown, hts⟩, hK, hA⟩ := id C
  have hbA : ¬ (fun q : Nat => s.heap.size ≤ q) b := Nat.not_le.mpr hbl
  have hroom2 : cells + 2 ≤ room_1.cells ∧ slots + 12 ≤ room_1.slots := hroom
  have hroom0 : cells ≤ room_1.cells ∧ slots ≤ room_1.slots := ⟨by omega, by omega⟩
  unfold wC5 at hw
  refine lv_aload_n hx hb dL_law_326 rfl (lv_at hl 1 rfl) ?_
  refine lv_aload_n hx hb dL_law_327 rfl (lv_at hl 0 rfl) ?_
  refine lv_iload hx hb dL_law_328 (lv_at hl 4 rfl) ?_
  refine lv_iconst (v := 1) hx hb dL_law_330 (by decide) ?_
  refine lv_iadd hx hb dL_law_331 ?_
  refine va_sld hx hb hX hbl hbA h.2.2 hi1 dL_law_332 ?_
  refine lv_aload_n hx hb dL_law_333 rfl (lv_at hl 3 rfl) ?_
  refine lSi (As := [.ref (ad 0), .int (xs (x4 + 1).toNatClampNeg), .ref (ad 50)]) (rest := []) C hT h (vx_cwSW 3 hts (gd_SW wi_ml_L_92 wi_st_L_count wi_in_L wi_cw_L_count) rfl rfl rfl hd_L_count.2 ⟨Nat.le_of_ble_eq_true rfl, Nat.le_of_ble_eq_true rfl⟩) (mL_count l hst D cy ad sa (xs (x4 + 1).toNatClampNeg) _ _ hw) rfl hl.1 rfl (Nat.le_of_ble_eq_true rfl) hroom dL_law_334 (fun r5 uc1 H locs hw h => ?_)
  refine lv_istore (lv' := [(5, .int r5), (0, .ref b), (1, .ref (ad 0)), (2, .ref (am 0)), (3, .ref (ad 50)), (4, .int x4)]) hx hb dL_law_337 hl (by decide) rfl (fun ls hl => ?_)
  refine lv_aload_n hx hb dL_law_339 rfl (lv_at hl 3 rfl) ?_
  refine lv_aload_n hx hb dL_law_340 rfl (lv_at hl 1 rfl) ?_
  refine lv_iload hx hb dL_law_341 (lv_at hl 5 rfl) ?_
  refine lv_iconst (v := 1) hx hb dL_law_343 (by decide) ?_
  refine lv_iadd hx hb dL_law_344 ?_
  refine va_sld hx hb hX hbl hbA h.2.2 hi1 dL_law_345 ?_
  refine lmi (As := [.int (xs (x4 + 1).toNatClampNeg)]) (rest := []) C h (cwV 1 hts (gd_V wi_ml_L_94 wi_im_X7_count wi_se_X7_count wi_in_X7 wi_co_X7_count) rfl rfl rfl hd_X7_count ⟨Nat.le_of_ble_eq_true rfl, Nat.le_of_ble_eq_true rfl⟩) (mX7_count l D cy am (xs (x4 + 1).toNatClampNeg) _ _ hw) rfl hl.1 rfl (Nat.le_of_ble_eq_true rfl) hroom2 dL_law_346 (fun r6 un H locs hw h => ?_)
  refine lv_istore (lv' := [(6, .int r6), (5, .int r5), (0, .ref b), (1, .ref (ad 0)), (2, .ref (am 0)), (3, .ref (ad 50)), (4, .int x4)]) hx hb dL_law_349 hl (by decide) rfl (fun ls hl => ?_)
  refine lv_aload_n hx hb dL_law_351 rfl (lv_at hl 4 rfl) ?_
  refine lmi (As := []) (rest := []) C h (cwV 0 hts (gd_V wi_ml_L_72 wi_im_X7_thrown wi_se_X7_thrown wi_in_X7 wi_co_X7_thrown) rfl rfl rfl hd_X7_thrown ⟨Nat.le_of_ble_eq_true rfl, Nat.le_of_ble_eq_true rfl⟩) (mX7_thrown l D cy am  _ _ hw) rfl hl.1 rfl (Nat.le_of_ble_eq_true rfl) hroom2 dL_law_352 (fun r7 un H locs hw h => ?_)
  refine lv_iload hx hb dL_law_355 (lv_at hl 1 rfl) ?_
  refine lv_icmp_eq (tgt := 362) hx hb dL_law_357 (by decide) (fun c357 => ?_) (fun c357 => ?_)
  · have hq := hw.2
    have hw := hq
    refine lv_iload hx hb dL_law_362 (lv_at hl 1 rfl) ?_
    refine lv_if_ne (tgt := 379) hx hb dL_law_364 (by decide) (fun c364 => ?_) (fun c364 => ?_)
    · have hw := hw.2
      refine lv_goto (tgt := 909) hx hb dL_law_379 (by decide) ?_
      exact kend _ _ _ _ _ hw h (lv_sub hl [2, 3, 4, 5, 6] rfl)
    · have ck := c364
      refine lv_aload_n hx hb dL_law_367 rfl (lv_at hl 5 rfl) ?_
      refine lv_iconst (v := 0) hx hb dL_law_368 (by decide) ?_
      refine va_lald hx hb hK h.1 50 2 (lW_out cy ad am _ _) rfl vp_in01 dL_law_369 ?_
      refine lv_iload hx hb dL_law_370 (lv_at hl 0 rfl) ?_
      refine lv_i2l hx hb dL_law_372 rfl ?_
      refine W.lcmp hx hb dL_law_373 ?_
      refine lv_if_eq (tgt := 379) hx hb dL_law_374 (by decide) (fun c374 => ?_) (fun c374 => ?_)
      · have hw := hw.2
        refine lv_goto (tgt := 909) hx hb dL_law_379 (by decide) ?_
        exact kend _ _ _ _ _ hw h (lv_sub hl [2, 3, 4, 5, 6] rfl)
      · exact absurd (hw.1 ck) c374
  · exact absurd hw.1 c357
set_option maxHeartbeats 4000000 in
set_option maxRecDepth 100000 in
theorem lC6 {p : Program} {l : Launch} {e : Env} {s : State} {m : MethodId} {below : List Frame} {meth : Method} {c : Code} {D : va_G} {cy : CY} {ad am sa : Nat → Nat} {b L : Nat} {xs : Nat → Int32} {Qe : State → Prop} {cells slots : Nat} (hst : l.stackTraces = false) (C : kC p m c cL_law 8 s #[Value.ref b] RL D cy (fun q => s.heap.size ≤ q)) (hT : kTh (fun q => s.heap.size ≤ q) sa s s.heap) (hX : va_X b L xs s s.heap) (hbl : b < s.heap.size) (hroom : cells + 2 ≤ room_1.cells ∧ slots + 12 ≤ room_1.slots) (x4 : Int32) (hi0 : vp_in x4 L) (hi1 : vp_in (x4 + 1) L) (hi2 : vp_in (x4 + 2) L) (hi3 : vp_in (x4 + 3) L) {K : ST → ST → Prop} (kend : ∀ (uc um : ST) (H : Heap) (locs : List Loc) (ls : Array Slot), K uc um → lH D cy ad am (fun q => s.heap.size ≤ q) s uc um H locs → lv_has ls 8 [(0, .ref b), (1, .ref (ad 0)), (2, .ref (am 0)), (3, .ref (ad 50)), (4, .int x4)] → W p l e room_1 s m #[Value.ref b] below meth c H locs (cells + 2) (slots + 12) Qe (F0 m 909 ls [])) : ∀ (uc um : ST) (H : Heap) (locs : List Loc) (ls : Array Slot), wC6 (xs (x4 + 1).toNatClampNeg) (xs (x4 + 2).toNatClampNeg) uc um K → lH D cy ad am (fun q => s.heap.size ≤ q) s uc um H locs → lv_has ls 8 [(0, .ref b), (1, .ref (ad 0)), (2, .ref (am 0)), (3, .ref (ad 50)), (4, .int x4)] → W p l e room_1 s m #[Value.ref b] below meth c H locs cells slots Qe (F0 m 382 ls []) := by
  intro uc um H locs ls hw h hl
  obtain ⟨⟨hx, hb, hml, hown, hts⟩, hK, hA⟩ := id C
  have hbA : ¬ (fun q : Nat => s.heap.size ≤ q) b := Nat.not_le.mpr hbl
  have hroom2 : cells + 2 ≤ room_1.cells ∧ slots + 12 ≤ room_1.slots := hroom
  have hroom0 : cells ≤ room_1.cells ∧ slots ≤ room_1.slots := ⟨by omega, by omega⟩
  unfold wC6 at hw
  refine lv_aload_n hx hb dL_law_382 rfl (lv_at hl 1 rfl) ?_
  refine lv_aload_n hx hb dL_law_383 rfl (lv_at hl 0 rfl) ?_
  refine lv_iload hx hb dL_law_384 (lv_at hl 4 rfl) ?_
  refine lv_iconst (v := 1) hx hb dL_law_386 (by decide) ?_
  refine lv_iadd hx hb dL_law_387 ?_
  refine va_sld hx hb hX hbl hbA h.2.2 hi1 dL_law_388 ?_
  refine lv_aload_n hx hb dL_law_389 rfl (lv_at hl 0 rfl) ?_
  refine lv_iload hx hb dL_law_390 (lv_at hl 4 rfl) ?_
  refine lv_iconst (v := 2) hx hb dL_law_392 (by decide) ?_
  refine lv_iadd hx hb dL_law_393 ?_
  refine va_sld hx hb hX hbl hbA h.2.2 hi2 dL_law_394 ?_
  refine lv_aload_n hx hb dL_law_395 rfl (lv_at hl 3 rfl) ?_
  refine lSi (As := [.ref (ad 0), .int (xs (x4 + 1).toNatClampNeg), .int (xs (x4 + 2).toNatClampNeg), .ref (ad 50)]) (rest := []) C hT h (vx_cwSW 4 hts (gd_SW wi_ml_L_95 wi_st_L_rule wi_in_L wi_cw_L_rule) rfl rfl rfl hd_L_rule.2 ⟨Nat.le_of_ble_eq_true rfl, Nat.le_of_ble_eq_true rfl⟩) (mL_rule l hst D cy ad sa (xs (x4 + 1).toNatClampNeg) (xs (x4 + 2).toNatClampNeg) _ _ hw) rfl hl.1 rfl (Nat.le_of_ble_eq_true rfl) hroom dL_law_396 (fun r5 uc1 H locs hw h => ?_)
  refine lv_istore (lv' := [(5, .int r5), (0, .ref b), (1, .ref (ad 0)), (2, .ref (am 0)), (3, .ref (ad 50)), (4, .int x4)]) hx hb dL_law_399 hl (by decide) rfl (fun ls hl => ?_)
  refine lv_aload_n hx hb dL_law_401 rfl (lv_at hl 3 rfl) ?_
  refine lv_aload_n hx hb dL_law_402 rfl (lv_at hl 1 rfl) ?_
  refine lv_iload hx hb dL_law_403 (lv_at hl 5 rfl) ?_
  refine lv_iconst (v := 1) hx hb dL_law_405 (by decide) ?_
  refine lv_iadd hx hb dL_law_406 ?_
  refine va_sld hx hb hX hbl hbA h.2.2 hi1 dL_law_407 ?_
  refine lv_aload_n hx hb dL_law_408 rfl (lv_at hl 1 rfl) ?_
  refine lv_iload hx hb dL_law_409 (lv_at hl 5 rfl) ?_
  refine lv_iconst (v := 2) hx hb dL_law_411 (by decide) ?_
  refine lv_iadd hx hb dL_law_412 ?_
  refine va_sld hx hb hX hbl hbA h.2.2 hi2 dL_law_413 ?_
  refine lmi (As := [.int (xs (x4 + 1).toNatClampNeg), .int (xs (x4 + 2).toNatClampNeg)]) (rest := []) C h (cwV 2 hts (gd_V wi_ml_L_98 wi_im_X7_rule wi_se_X7_rule wi_in_X7 wi_co_X7_rule) rfl rfl rfl hd_X7_rule ⟨Nat.le_of_ble_eq_true rfl, Nat.le_of_ble_eq_true rfl⟩) (mX7_rule l D cy am (xs (x4 + 1).toNatClampNeg) (xs (x4 + 2).toNatClampNeg) _ _ hw) rfl hl.1 rfl (Nat.le_of_ble_eq_true rfl) hroom2 dL_law_414 (fun r6 un H locs hw h => ?_)
  refine lv_istore (lv' := [(6, .int r6), (5, .int r5), (0, .ref b), (1, .ref (ad 0)), (2, .ref (am 0)), (3, .ref (ad 50)), (4, .int x4)]) hx hb dL_law_417 hl (by decide) rfl (fun ls hl => ?_)
  refine lv_aload_n hx hb dL_law_419 rfl (lv_at hl 4 rfl) ?_
  refine lmi (As := []) (rest := []) C h (cwV 0 hts (gd_V wi_ml_L_72 wi_im_X7_thrown wi_se_X7_thrown wi_in_X7 wi_co_X7_thrown) rfl rfl rfl hd_X7_thrown ⟨Nat.le_of_ble_eq_true rfl, Nat.le_of_ble_eq_true rfl⟩) (mX7_thrown l D cy am  _ _ hw) rfl hl.1 rfl (Nat.le_of_ble_eq_true rfl) hroom2 dL_law_420 (fun r7 un H locs hw h => ?_)
  refine lv_iload hx hb dL_law_423 (lv_at hl 1 rfl) ?_
  refine lv_icmp_eq (tgt := 430) hx hb dL_law_425 (by decide) (fun c425 => ?_) (fun c425 => ?_)
  · have hq := hw.2
    have hw := hq
    refine lv_iload hx hb dL_law_430 (lv_at hl 1 rfl) ?_
    refine lv_if_ne (tgt := 447) hx hb dL_law_432 (by decide) (fun c432 => ?_) (fun c432 => ?_)
    · have hw := hw.2
      refine lv_goto (tgt := 909) hx hb dL_law_447 (by decide) ?_
      exact kend _ _ _ _ _ hw h (lv_sub hl [2, 3, 4, 5, 6] rfl)
    · have ck := c432
      refine lv_aload_n hx hb dL_law_435 rfl (lv_at hl 5 rfl) ?_
      refine lv_iconst (v := 0) hx hb dL_law_436 (by decide) ?_
      refine va_lald hx hb hK h.1 50 2 (lW_out cy ad am _ _) rfl vp_in01 dL_law_437 ?_
      refine lv_iload hx hb dL_law_438 (lv_at hl 0 rfl) ?_
      refine lv_i2l hx hb dL_law_440 rfl ?_
      refine W.lcmp hx hb dL_law_441 ?_
      refine lv_if_eq (tgt := 447) hx hb dL_law_442 (by decide) (fun c442 => ?_) (fun c442 => ?_)
      · have hw := hw.2
        refine lv_goto (tgt := 909) hx hb dL_law_447 (by decide) ?_
        exact kend _ _ _ _ _ hw h (lv_sub hl [2, 3, 4, 5, 6] rfl)
      · exact absurd (hw.1 ck) c442
  · exact absurd hw.1 c425
set_option maxHeartbeats 4000000 in
set_option maxRecDepth 100000 in
theorem lC7 {p : Program} {l : Launch} {e : Env} {s : State} {m : MethodId} {below : List Frame} {meth : Method} {c : Code} {D : va_G} {cy : CY} {ad am sa : Nat → Nat} {b L : Nat} {xs : Nat → Int32} {Qe : State → Prop} {cells slots : Nat} (hst : l.stackTraces = false) (C : kC p m c cL_law 8 s #[Value.ref b] RL D cy (fun q => s.heap.size ≤ q)) (hT : kTh (fun q => s.heap.size ≤ q) sa s s.heap) (hX : va_X b L xs s s.heap) (hbl : b < s.heap.size) (hroom : cells + 2 ≤ room_1.cells ∧ slots + 12 ≤ room_1.slots) (x4 : Int32) (hi0 : vp_in x4 L) (hi1 : vp_in (x4 + 1) L) (hi2 : vp_in (x4 + 2) L) (hi3 : vp_in (x4 + 3) L) {K : ST → ST → Prop} (kend : ∀ (uc um : ST) (H : Heap) (locs : List Loc) (ls : Array Slot), K uc um → lH D cy ad am (fun q => s.heap.size ≤ q) s uc um H locs → lv_has ls 8 [(0, .ref b), (1, .ref (ad 0)), (2, .ref (am 0)), (3, .ref (ad 50)), (4, .int x4)] → W p l e room_1 s m #[Value.ref b] below meth c H locs (cells + 2) (slots + 12) Qe (F0 m 909 ls [])) : ∀ (uc um : ST) (H : Heap) (locs : List Loc) (ls : Array Slot), wC7 (xs (x4 + 1).toNatClampNeg) (xs (x4 + 2).toNatClampNeg) (xs (x4 + 3).toNatClampNeg) uc um K → lH D cy ad am (fun q => s.heap.size ≤ q) s uc um H locs → lv_has ls 8 [(0, .ref b), (1, .ref (ad 0)), (2, .ref (am 0)), (3, .ref (ad 50)), (4, .int x4)] → W p l e room_1 s m #[Value.ref b] below meth c H locs cells slots Qe (F0 m 450 ls []) := by
  intro uc um H locs ls hw h hl
  obtain ⟨⟨hx, hb, hml, hown, hts⟩, hK, hA⟩ := id C
  have hbA : ¬ (fun q : Nat => s.heap.size ≤ q) b := Nat.not_le.mpr hbl
  have hroom2 : cells + 2 ≤ room_1.cells ∧ slots + 12 ≤ room_1.slots := hroom
  have hroom0 : cells ≤ room_1.cells ∧ slots ≤ room_1.slots := ⟨by omega, by omega⟩
  unfold wC7 at hw
  refine lv_aload_n hx hb dL_law_450 rfl (lv_at hl 1 rfl) ?_
  refine lv_aload_n hx hb dL_law_451 rfl (lv_at hl 0 rfl) ?_
  refine lv_iload hx hb dL_law_452 (lv_at hl 4 rfl) ?_
  refine lv_iconst (v := 1) hx hb dL_law_454 (by decide) ?_
  refine lv_iadd hx hb dL_law_455 ?_
  refine va_sld hx hb hX hbl hbA h.2.2 hi1 dL_law_456 ?_
  refine lv_if_eq (tgt := 464) hx hb dL_law_457 (by decide) (fun c457 => ?_) (fun c457 => ?_)
  · simp only [if_pos c457] at hw
    refine lv_iconst (v := 0) hx hb dL_law_464 (by decide) ?_
    refine lv_aload_n hx hb dL_law_465 rfl (lv_at hl 0 rfl) ?_
    refine lv_iload hx hb dL_law_466 (lv_at hl 4 rfl) ?_
    refine lv_iconst (v := 2) hx hb dL_law_468 (by decide) ?_
    refine lv_iadd hx hb dL_law_469 ?_
    refine va_sld hx hb hX hbl hbA h.2.2 hi2 dL_law_470 ?_
    refine lv_aload_n hx hb dL_law_471 rfl (lv_at hl 0 rfl) ?_
    refine lv_iload hx hb dL_law_472 (lv_at hl 4 rfl) ?_
    refine lv_iconst (v := 3) hx hb dL_law_474 (by decide) ?_
    refine lv_iadd hx hb dL_law_475 ?_
    refine va_sld hx hb hX hbl hbA h.2.2 hi3 dL_law_476 ?_
    refine lv_aload_n hx hb dL_law_477 rfl (lv_at hl 3 rfl) ?_
    refine lSi (As := [.ref (ad 0), .int 0, .int (xs (x4 + 2).toNatClampNeg), .int (xs (x4 + 3).toNatClampNeg), .ref (ad 50)]) (rest := []) C hT h (vx_cwSW 5 hts (gd_SW wi_ml_L_99 wi_st_L_name wi_in_L wi_cw_L_name) rfl rfl rfl hd_L_name.2 ⟨Nat.le_of_ble_eq_true rfl, Nat.le_of_ble_eq_true rfl⟩) (mL_name l hst D cy ad sa 0 (xs (x4 + 2).toNatClampNeg) (xs (x4 + 3).toNatClampNeg) _ _ hw) rfl hl.1 rfl (Nat.le_of_ble_eq_true rfl) hroom dL_law_478 (fun r5 uc1 H locs hw h => ?_)
    refine lv_istore (lv' := [(5, .int r5), (0, .ref b), (1, .ref (ad 0)), (2, .ref (am 0)), (3, .ref (ad 50)), (4, .int x4)]) hx hb dL_law_481 hl (by decide) rfl (fun ls hl => ?_)
    refine lv_aload_n hx hb dL_law_483 rfl (lv_at hl 3 rfl) ?_
    refine lv_aload_n hx hb dL_law_484 rfl (lv_at hl 1 rfl) ?_
    refine lv_iload hx hb dL_law_485 (lv_at hl 5 rfl) ?_
    refine lv_iconst (v := 1) hx hb dL_law_487 (by decide) ?_
    refine lv_iadd hx hb dL_law_488 ?_
    refine va_sld hx hb hX hbl hbA h.2.2 hi1 dL_law_489 ?_
    refine lv_if_eq (tgt := 497) hx hb dL_law_490 (by decide) (fun c490 => ?_) (fun c490 => ?_)
    · skip
      refine lv_iconst (v := 0) hx hb dL_law_497 (by decide) ?_
      refine lv_aload_n hx hb dL_law_498 rfl (lv_at hl 1 rfl) ?_
      refine lv_iload hx hb dL_law_499 (lv_at hl 5 rfl) ?_
      refine lv_iconst (v := 2) hx hb dL_law_501 (by decide) ?_
      refine lv_iadd hx hb dL_law_502 ?_
      refine va_sld hx hb hX hbl hbA h.2.2 hi2 dL_law_503 ?_
      refine lv_aload_n hx hb dL_law_504 rfl (lv_at hl 1 rfl) ?_
      refine lv_iload hx hb dL_law_505 (lv_at hl 5 rfl) ?_
      refine lv_iconst (v := 3) hx hb dL_law_507 (by decide) ?_
      refine lv_iadd hx hb dL_law_508 ?_
      refine va_sld hx hb hX hbl hbA h.2.2 hi3 dL_law_509 ?_
      refine lmi (As := [.int 0, .int (xs (x4 + 2).toNatClampNeg), .int (xs (x4 + 3).toNatClampNeg)]) (rest := []) C h (cwV 3 hts (gd_V wi_ml_L_102 wi_im_X7_name wi_se_X7_name wi_in_X7 wi_co_X7_name) rfl rfl rfl hd_X7_name ⟨Nat.le_of_ble_eq_true rfl, Nat.le_of_ble_eq_true rfl⟩) (mX7_name l D cy am 0 (xs (x4 + 2).toNatClampNeg) (xs (x4 + 3).toNatClampNeg) _ _ hw) rfl hl.1 rfl (Nat.le_of_ble_eq_true rfl) hroom2 dL_law_510 (fun r6 un H locs hw h => ?_)
      refine lv_istore (lv' := [(6, .int r6), (5, .int r5), (0, .ref b), (1, .ref (ad 0)), (2, .ref (am 0)), (3, .ref (ad 50)), (4, .int x4)]) hx hb dL_law_513 hl (by decide) rfl (fun ls hl => ?_)
      refine lv_aload_n hx hb dL_law_515 rfl (lv_at hl 4 rfl) ?_
      refine lmi (As := []) (rest := []) C h (cwV 0 hts (gd_V wi_ml_L_72 wi_im_X7_thrown wi_se_X7_thrown wi_in_X7 wi_co_X7_thrown) rfl rfl rfl hd_X7_thrown ⟨Nat.le_of_ble_eq_true rfl, Nat.le_of_ble_eq_true rfl⟩) (mX7_thrown l D cy am  _ _ hw) rfl hl.1 rfl (Nat.le_of_ble_eq_true rfl) hroom2 dL_law_516 (fun r7 un H locs hw h => ?_)
      refine lv_iload hx hb dL_law_519 (lv_at hl 1 rfl) ?_
      refine lv_icmp_eq (tgt := 526) hx hb dL_law_521 (by decide) (fun c521 => ?_) (fun c521 => ?_)
      · have hq := hw.2
        have hw := hq
        refine lv_iload hx hb dL_law_526 (lv_at hl 1 rfl) ?_
        refine lv_if_ne (tgt := 543) hx hb dL_law_528 (by decide) (fun c528 => ?_) (fun c528 => ?_)
        · have hw := hw.2
          refine lv_goto (tgt := 909) hx hb dL_law_543 (by decide) ?_
          exact kend _ _ _ _ _ hw h (lv_sub hl [2, 3, 4, 5, 6] rfl)
        · have ck := c528
          refine lv_aload_n hx hb dL_law_531 rfl (lv_at hl 5 rfl) ?_
          refine lv_iconst (v := 0) hx hb dL_law_532 (by decide) ?_
          refine va_lald hx hb hK h.1 50 2 (lW_out cy ad am _ _) rfl vp_in01 dL_law_533 ?_
          refine lv_iload hx hb dL_law_534 (lv_at hl 0 rfl) ?_
          refine lv_i2l hx hb dL_law_536 rfl ?_
          refine W.lcmp hx hb dL_law_537 ?_
          refine lv_if_eq (tgt := 543) hx hb dL_law_538 (by decide) (fun c538 => ?_) (fun c538 => ?_)
          · have hw := hw.2
            refine lv_goto (tgt := 909) hx hb dL_law_543 (by decide) ?_
            exact kend _ _ _ _ _ hw h (lv_sub hl [2, 3, 4, 5, 6] rfl)
          · exact absurd (hw.1 ck) c538
      · exact absurd hw.1 c521
    · exact absurd c457 c490
  · simp only [if_neg c457] at hw
    refine lv_iconst (v := 1) hx hb dL_law_460 (by decide) ?_
    refine lv_goto (tgt := 465) hx hb dL_law_461 (by decide) ?_
    refine lv_aload_n hx hb dL_law_465 rfl (lv_at hl 0 rfl) ?_
    refine lv_iload hx hb dL_law_466 (lv_at hl 4 rfl) ?_
    refine lv_iconst (v := 2) hx hb dL_law_468 (by decide) ?_
    refine lv_iadd hx hb dL_law_469 ?_
    refine va_sld hx hb hX hbl hbA h.2.2 hi2 dL_law_470 ?_
    refine lv_aload_n hx hb dL_law_471 rfl (lv_at hl 0 rfl) ?_
    refine lv_iload hx hb dL_law_472 (lv_at hl 4 rfl) ?_
    refine lv_iconst (v := 3) hx hb dL_law_474 (by decide) ?_
    refine lv_iadd hx hb dL_law_475 ?_
    refine va_sld hx hb hX hbl hbA h.2.2 hi3 dL_law_476 ?_
    refine lv_aload_n hx hb dL_law_477 rfl (lv_at hl 3 rfl) ?_
    refine lSi (As := [.ref (ad 0), .int 1, .int (xs (x4 + 2).toNatClampNeg), .int (xs (x4 + 3).toNatClampNeg), .ref (ad 50)]) (rest := []) C hT h (vx_cwSW 5 hts (gd_SW wi_ml_L_99 wi_st_L_name wi_in_L wi_cw_L_name) rfl rfl rfl hd_L_name.2 ⟨Nat.le_of_ble_eq_true rfl, Nat.le_of_ble_eq_true rfl⟩) (mL_name l hst D cy ad sa 1 (xs (x4 + 2).toNatClampNeg) (xs (x4 + 3).toNatClampNeg) _ _ hw) rfl hl.1 rfl (Nat.le_of_ble_eq_true rfl) hroom dL_law_478 (fun r5 uc1 H locs hw h => ?_)
    refine lv_istore (lv' := [(5, .int r5), (0, .ref b), (1, .ref (ad 0)), (2, .ref (am 0)), (3, .ref (ad 50)), (4, .int x4)]) hx hb dL_law_481 hl (by decide) rfl (fun ls hl => ?_)
    refine lv_aload_n hx hb dL_law_483 rfl (lv_at hl 3 rfl) ?_
    refine lv_aload_n hx hb dL_law_484 rfl (lv_at hl 1 rfl) ?_
    refine lv_iload hx hb dL_law_485 (lv_at hl 5 rfl) ?_
    refine lv_iconst (v := 1) hx hb dL_law_487 (by decide) ?_
    refine lv_iadd hx hb dL_law_488 ?_
    refine va_sld hx hb hX hbl hbA h.2.2 hi1 dL_law_489 ?_
    refine lv_if_eq (tgt := 497) hx hb dL_law_490 (by decide) (fun c490 => ?_) (fun c490 => ?_)
    · exact absurd c490 c457
    · skip
      refine lv_iconst (v := 1) hx hb dL_law_493 (by decide) ?_
      refine lv_goto (tgt := 498) hx hb dL_law_494 (by decide) ?_
      refine lv_aload_n hx hb dL_law_498 rfl (lv_at hl 1 rfl) ?_
      refine lv_iload hx hb dL_law_499 (lv_at hl 5 rfl) ?_
      refine lv_iconst (v := 2) hx hb dL_law_501 (by decide) ?_
      refine lv_iadd hx hb dL_law_502 ?_
      refine va_sld hx hb hX hbl hbA h.2.2 hi2 dL_law_503 ?_
      refine lv_aload_n hx hb dL_law_504 rfl (lv_at hl 1 rfl) ?_
      refine lv_iload hx hb dL_law_505 (lv_at hl 5 rfl) ?_
      refine lv_iconst (v := 3) hx hb dL_law_507 (by decide) ?_
      refine lv_iadd hx hb dL_law_508 ?_
      refine va_sld hx hb hX hbl hbA h.2.2 hi3 dL_law_509 ?_
      refine lmi (As := [.int 1, .int (xs (x4 + 2).toNatClampNeg), .int (xs (x4 + 3).toNatClampNeg)]) (rest := []) C h (cwV 3 hts (gd_V wi_ml_L_102 wi_im_X7_name wi_se_X7_name wi_in_X7 wi_co_X7_name) rfl rfl rfl hd_X7_name ⟨Nat.le_of_ble_eq_true rfl, Nat.le_of_ble_eq_true rfl⟩) (mX7_name l D cy am 1 (xs (x4 + 2).toNatClampNeg) (xs (x4 + 3).toNatClampNeg) _ _ hw) rfl hl.1 rfl (Nat.le_of_ble_eq_true rfl) hroom2 dL_law_510 (fun r6 un H locs hw h => ?_)
      refine lv_istore (lv' := [(6, .int r6), (5, .int r5), (0, .ref b), (1, .ref (ad 0)), (2, .ref (am 0)), (3, .ref (ad 50)), (4, .int x4)]) hx hb dL_law_513 hl (by decide) rfl (fun ls hl => ?_)
      refine lv_aload_n hx hb dL_law_515 rfl (lv_at hl 4 rfl) ?_
      refine lmi (As := []) (rest := []) C h (cwV 0 hts (gd_V wi_ml_L_72 wi_im_X7_thrown wi_se_X7_thrown wi_in_X7 wi_co_X7_thrown) rfl rfl rfl hd_X7_thrown ⟨Nat.le_of_ble_eq_true rfl, Nat.le_of_ble_eq_true rfl⟩) (mX7_thrown l D cy am  _ _ hw) rfl hl.1 rfl (Nat.le_of_ble_eq_true rfl) hroom2 dL_law_516 (fun r7 un H locs hw h => ?_)
      refine lv_iload hx hb dL_law_519 (lv_at hl 1 rfl) ?_
      refine lv_icmp_eq (tgt := 526) hx hb dL_law_521 (by decide) (fun c521 => ?_) (fun c521 => ?_)
      · have hq := hw.2
        have hw := hq
        refine lv_iload hx hb dL_law_526 (lv_at hl 1 rfl) ?_
        refine lv_if_ne (tgt := 543) hx hb dL_law_528 (by decide) (fun c528 => ?_) (fun c528 => ?_)
        · have hw := hw.2
          refine lv_goto (tgt := 909) hx hb dL_law_543 (by decide) ?_
          exact kend _ _ _ _ _ hw h (lv_sub hl [2, 3, 4, 5, 6] rfl)
        · have ck := c528
          refine lv_aload_n hx hb dL_law_531 rfl (lv_at hl 5 rfl) ?_
          refine lv_iconst (v := 0) hx hb dL_law_532 (by decide) ?_
          refine va_lald hx hb hK h.1 50 2 (lW_out cy ad am _ _) rfl vp_in01 dL_law_533 ?_
          refine lv_iload hx hb dL_law_534 (lv_at hl 0 rfl) ?_
          refine lv_i2l hx hb dL_law_536 rfl ?_
          refine W.lcmp hx hb dL_law_537 ?_
          refine lv_if_eq (tgt := 543) hx hb dL_law_538 (by decide) (fun c538 => ?_) (fun c538 => ?_)
          · have hw := hw.2
            refine lv_goto (tgt := 909) hx hb dL_law_543 (by decide) ?_
            exact kend _ _ _ _ _ hw h (lv_sub hl [2, 3, 4, 5, 6] rfl)
          · exact absurd (hw.1 ck) c538
      · exact absurd hw.1 c521
set_option maxHeartbeats 4000000 in
set_option maxRecDepth 100000 in
theorem lC8 {p : Program} {l : Launch} {e : Env} {s : State} {m : MethodId} {below : List Frame} {meth : Method} {c : Code} {D : va_G} {cy : CY} {ad am sa : Nat → Nat} {b L : Nat} {xs : Nat → Int32} {Qe : State → Prop} {cells slots : Nat} (hst : l.stackTraces = false) (C : kC p m c cL_law 8 s #[Value.ref b] RL D cy (fun q => s.heap.size ≤ q)) (hT : kTh (fun q => s.heap.size ≤ q) sa s s.heap) (hX : va_X b L xs s s.heap) (hbl : b < s.heap.size) (hroom : cells + 2 ≤ room_1.cells ∧ slots + 12 ≤ room_1.slots) (x4 : Int32) (hi0 : vp_in x4 L) (hi1 : vp_in (x4 + 1) L) (hi2 : vp_in (x4 + 2) L) (hi3 : vp_in (x4 + 3) L) {K : ST → ST → Prop} (kend : ∀ (uc um : ST) (H : Heap) (locs : List Loc) (ls : Array Slot), K uc um → lH D cy ad am (fun q => s.heap.size ≤ q) s uc um H locs → lv_has ls 8 [(0, .ref b), (1, .ref (ad 0)), (2, .ref (am 0)), (3, .ref (ad 50)), (4, .int x4)] → W p l e room_1 s m #[Value.ref b] below meth c H locs (cells + 2) (slots + 12) Qe (F0 m 909 ls [])) : ∀ (uc um : ST) (H : Heap) (locs : List Loc) (ls : Array Slot), wC8 (xs (x4 + 1).toNatClampNeg) uc um K → lH D cy ad am (fun q => s.heap.size ≤ q) s uc um H locs → lv_has ls 8 [(0, .ref b), (1, .ref (ad 0)), (2, .ref (am 0)), (3, .ref (ad 50)), (4, .int x4)] → W p l e room_1 s m #[Value.ref b] below meth c H locs cells slots Qe (F0 m 546 ls []) := by
  intro uc um H locs ls hw h hl
  obtain ⟨⟨hx, hb, hml, hown, hts⟩, hK, hA⟩ := id C
  have hbA : ¬ (fun q : Nat => s.heap.size ≤ q) b := Nat.not_le.mpr hbl
  have hroom2 : cells + 2 ≤ room_1.cells ∧ slots + 12 ≤ room_1.slots := hroom
  have hroom0 : cells ≤ room_1.cells ∧ slots ≤ room_1.slots := ⟨by omega, by omega⟩
  unfold wC8 at hw
  refine lv_aload_n hx hb dL_law_546 rfl (lv_at hl 1 rfl) ?_
  refine lv_aload_n hx hb dL_law_547 rfl (lv_at hl 0 rfl) ?_
  refine lv_iload hx hb dL_law_548 (lv_at hl 4 rfl) ?_
  refine lv_iconst (v := 1) hx hb dL_law_550 (by decide) ?_
  refine lv_iadd hx hb dL_law_551 ?_
  refine va_sld hx hb hX hbl hbA h.2.2 hi1 dL_law_552 ?_
  refine lv_aload_n hx hb dL_law_553 rfl (lv_at hl 3 rfl) ?_
  refine lSi (As := [.ref (ad 0), .int (xs (x4 + 1).toNatClampNeg), .ref (ad 50)]) (rest := []) C hT h (vx_cwSW 3 hts (gd_SW wi_ml_L_103 wi_st_L_meets wi_in_L wi_cw_L_meets) rfl rfl rfl hd_L_meets.2 ⟨Nat.le_of_ble_eq_true rfl, Nat.le_of_ble_eq_true rfl⟩) (mL_meets l hst D cy ad sa (xs (x4 + 1).toNatClampNeg) _ _ hw) rfl hl.1 rfl (Nat.le_of_ble_eq_true rfl) hroom dL_law_554 (fun r5 uc1 H locs hw h => ?_)
  refine lv_istore (lv' := [(5, .int r5), (0, .ref b), (1, .ref (ad 0)), (2, .ref (am 0)), (3, .ref (ad 50)), (4, .int x4)]) hx hb dL_law_557 hl (by decide) rfl (fun ls hl => ?_)
  refine lv_aload_n hx hb dL_law_559 rfl (lv_at hl 3 rfl) ?_
  refine lv_aload_n hx hb dL_law_560 rfl (lv_at hl 1 rfl) ?_
  refine lv_iload hx hb dL_law_561 (lv_at hl 5 rfl) ?_
  refine lv_iconst (v := 1) hx hb dL_law_563 (by decide) ?_
  refine lv_iadd hx hb dL_law_564 ?_
  refine va_sld hx hb hX hbl hbA h.2.2 hi1 dL_law_565 ?_
  refine lmi (As := [.int (xs (x4 + 1).toNatClampNeg)]) (rest := []) C h (cwV 1 hts (gd_V wi_ml_L_105 wi_im_X7_meets wi_se_X7_meets wi_in_X7 wi_co_X7_meets) rfl rfl rfl hd_X7_meets ⟨Nat.le_of_ble_eq_true rfl, Nat.le_of_ble_eq_true rfl⟩) (mX7_meets l D cy am (xs (x4 + 1).toNatClampNeg) _ _ hw) rfl hl.1 rfl (Nat.le_of_ble_eq_true rfl) hroom2 dL_law_566 (fun r6 un H locs hw h => ?_)
  refine lv_istore (lv' := [(6, .int r6), (5, .int r5), (0, .ref b), (1, .ref (ad 0)), (2, .ref (am 0)), (3, .ref (ad 50)), (4, .int x4)]) hx hb dL_law_569 hl (by decide) rfl (fun ls hl => ?_)
  refine lv_aload_n hx hb dL_law_571 rfl (lv_at hl 4 rfl) ?_
  refine lmi (As := []) (rest := []) C h (cwV 0 hts (gd_V wi_ml_L_72 wi_im_X7_thrown wi_se_X7_thrown wi_in_X7 wi_co_X7_thrown) rfl rfl rfl hd_X7_thrown ⟨Nat.le_of_ble_eq_true rfl, Nat.le_of_ble_eq_true rfl⟩) (mX7_thrown l D cy am  _ _ hw) rfl hl.1 rfl (Nat.le_of_ble_eq_true rfl) hroom2 dL_law_572 (fun r7 un H locs hw h => ?_)
  refine lv_iload hx hb dL_law_575 (lv_at hl 1 rfl) ?_
  refine lv_icmp_eq (tgt := 582) hx hb dL_law_577 (by decide) (fun c577 => ?_) (fun c577 => ?_)
  · have hq := hw.2
    have hw := hq
    refine lv_iload hx hb dL_law_582 (lv_at hl 1 rfl) ?_
    refine lv_if_ne (tgt := 599) hx hb dL_law_584 (by decide) (fun c584 => ?_) (fun c584 => ?_)
    · have hw := hw.2
      refine lv_goto (tgt := 909) hx hb dL_law_599 (by decide) ?_
      exact kend _ _ _ _ _ hw h (lv_sub hl [2, 3, 4, 5, 6] rfl)
    · have ck := c584
      refine lv_aload_n hx hb dL_law_587 rfl (lv_at hl 5 rfl) ?_
      refine lv_iconst (v := 0) hx hb dL_law_588 (by decide) ?_
      refine va_lald hx hb hK h.1 50 2 (lW_out cy ad am _ _) rfl vp_in01 dL_law_589 ?_
      refine lv_iload hx hb dL_law_590 (lv_at hl 0 rfl) ?_
      refine lv_i2l hx hb dL_law_592 rfl ?_
      refine W.lcmp hx hb dL_law_593 ?_
      refine lv_if_eq (tgt := 599) hx hb dL_law_594 (by decide) (fun c594 => ?_) (fun c594 => ?_)
      · have hw := hw.2
        refine lv_goto (tgt := 909) hx hb dL_law_599 (by decide) ?_
        exact kend _ _ _ _ _ hw h (lv_sub hl [2, 3, 4, 5, 6] rfl)
      · exact absurd (hw.1 ck) c594
  · exact absurd hw.1 c577
set_option maxHeartbeats 4000000 in
set_option maxRecDepth 100000 in
theorem lC9 {p : Program} {l : Launch} {e : Env} {s : State} {m : MethodId} {below : List Frame} {meth : Method} {c : Code} {D : va_G} {cy : CY} {ad am sa : Nat → Nat} {b L : Nat} {xs : Nat → Int32} {Qe : State → Prop} {cells slots : Nat} (hst : l.stackTraces = false) (C : kC p m c cL_law 8 s #[Value.ref b] RL D cy (fun q => s.heap.size ≤ q)) (hT : kTh (fun q => s.heap.size ≤ q) sa s s.heap) (hX : va_X b L xs s s.heap) (hbl : b < s.heap.size) (hroom : cells + 2 ≤ room_1.cells ∧ slots + 12 ≤ room_1.slots) (x4 : Int32) (hi0 : vp_in x4 L) (hi1 : vp_in (x4 + 1) L) (hi2 : vp_in (x4 + 2) L) (hi3 : vp_in (x4 + 3) L) {K : ST → ST → Prop} (kend : ∀ (uc um : ST) (H : Heap) (locs : List Loc) (ls : Array Slot), K uc um → lH D cy ad am (fun q => s.heap.size ≤ q) s uc um H locs → lv_has ls 8 [(0, .ref b), (1, .ref (ad 0)), (2, .ref (am 0)), (3, .ref (ad 50)), (4, .int x4)] → W p l e room_1 s m #[Value.ref b] below meth c H locs (cells + 2) (slots + 12) Qe (F0 m 909 ls [])) : ∀ (uc um : ST) (H : Heap) (locs : List Loc) (ls : Array Slot), wC9 (xs (x4 + 1).toNatClampNeg) uc um K → lH D cy ad am (fun q => s.heap.size ≤ q) s uc um H locs → lv_has ls 8 [(0, .ref b), (1, .ref (ad 0)), (2, .ref (am 0)), (3, .ref (ad 50)), (4, .int x4)] → W p l e room_1 s m #[Value.ref b] below meth c H locs cells slots Qe (F0 m 602 ls []) := by
  intro uc um H locs ls hw h hl
  obtain ⟨⟨hx, hb, hml, hown, hts⟩, hK, hA⟩ := id C
  have hbA : ¬ (fun q : Nat => s.heap.size ≤ q) b := Nat.not_le.mpr hbl
  have hroom2 : cells + 2 ≤ room_1.cells ∧ slots + 12 ≤ room_1.slots := hroom
  have hroom0 : cells ≤ room_1.cells ∧ slots ≤ room_1.slots := ⟨by omega, by omega⟩
  unfold wC9 at hw
  refine lv_aload_n hx hb dL_law_602 rfl (lv_at hl 1 rfl) ?_
  refine lv_aload_n hx hb dL_law_603 rfl (lv_at hl 0 rfl) ?_
  refine lv_iload hx hb dL_law_604 (lv_at hl 4 rfl) ?_
  refine lv_iconst (v := 1) hx hb dL_law_606 (by decide) ?_
  refine lv_iadd hx hb dL_law_607 ?_
  refine va_sld hx hb hX hbl hbA h.2.2 hi1 dL_law_608 ?_
  refine lv_aload_n hx hb dL_law_609 rfl (lv_at hl 3 rfl) ?_
  refine lSi (As := [.ref (ad 0), .int (xs (x4 + 1).toNatClampNeg), .ref (ad 50)]) (rest := []) C hT h (vx_cwSW 3 hts (gd_SW wi_ml_L_106 wi_st_L_cases wi_in_L wi_cw_L_cases) rfl rfl rfl hd_L_cases.2 ⟨Nat.le_of_ble_eq_true rfl, Nat.le_of_ble_eq_true rfl⟩) (mL_cases l hst D cy ad sa (xs (x4 + 1).toNatClampNeg) _ _ hw) rfl hl.1 rfl (Nat.le_of_ble_eq_true rfl) hroom dL_law_610 (fun r5 uc1 H locs hw h => ?_)
  refine lv_istore (lv' := [(5, .int r5), (0, .ref b), (1, .ref (ad 0)), (2, .ref (am 0)), (3, .ref (ad 50)), (4, .int x4)]) hx hb dL_law_613 hl (by decide) rfl (fun ls hl => ?_)
  refine lv_aload_n hx hb dL_law_615 rfl (lv_at hl 3 rfl) ?_
  refine lv_aload_n hx hb dL_law_616 rfl (lv_at hl 1 rfl) ?_
  refine lv_iload hx hb dL_law_617 (lv_at hl 5 rfl) ?_
  refine lv_iconst (v := 1) hx hb dL_law_619 (by decide) ?_
  refine lv_iadd hx hb dL_law_620 ?_
  refine va_sld hx hb hX hbl hbA h.2.2 hi1 dL_law_621 ?_
  refine lmi (As := [.int (xs (x4 + 1).toNatClampNeg)]) (rest := []) C h (cwV 1 hts (gd_V wi_ml_L_108 wi_im_X7_cases wi_se_X7_cases wi_in_X7 wi_co_X7_cases) rfl rfl rfl hd_X7_cases ⟨Nat.le_of_ble_eq_true rfl, Nat.le_of_ble_eq_true rfl⟩) (mX7_cases l D cy am (xs (x4 + 1).toNatClampNeg) _ _ hw) rfl hl.1 rfl (Nat.le_of_ble_eq_true rfl) hroom2 dL_law_622 (fun r6 un H locs hw h => ?_)
  refine lv_istore (lv' := [(6, .int r6), (5, .int r5), (0, .ref b), (1, .ref (ad 0)), (2, .ref (am 0)), (3, .ref (ad 50)), (4, .int x4)]) hx hb dL_law_625 hl (by decide) rfl (fun ls hl => ?_)
  refine lv_aload_n hx hb dL_law_627 rfl (lv_at hl 4 rfl) ?_
  refine lmi (As := []) (rest := []) C h (cwV 0 hts (gd_V wi_ml_L_72 wi_im_X7_thrown wi_se_X7_thrown wi_in_X7 wi_co_X7_thrown) rfl rfl rfl hd_X7_thrown ⟨Nat.le_of_ble_eq_true rfl, Nat.le_of_ble_eq_true rfl⟩) (mX7_thrown l D cy am  _ _ hw) rfl hl.1 rfl (Nat.le_of_ble_eq_true rfl) hroom2 dL_law_628 (fun r7 un H locs hw h => ?_)
  refine lv_iload hx hb dL_law_631 (lv_at hl 1 rfl) ?_
  refine lv_icmp_eq (tgt := 638) hx hb dL_law_633 (by decide) (fun c633 => ?_) (fun c633 => ?_)
  · have hq := hw.2
    have hw := hq
    refine lv_iload hx hb dL_law_638 (lv_at hl 1 rfl) ?_
    refine lv_if_ne (tgt := 655) hx hb dL_law_640 (by decide) (fun c640 => ?_) (fun c640 => ?_)
    · have hw := hw.2
      refine lv_goto (tgt := 909) hx hb dL_law_655 (by decide) ?_
      exact kend _ _ _ _ _ hw h (lv_sub hl [2, 3, 4, 5, 6] rfl)
    · have ck := c640
      refine lv_aload_n hx hb dL_law_643 rfl (lv_at hl 5 rfl) ?_
      refine lv_iconst (v := 0) hx hb dL_law_644 (by decide) ?_
      refine va_lald hx hb hK h.1 50 2 (lW_out cy ad am _ _) rfl vp_in01 dL_law_645 ?_
      refine lv_iload hx hb dL_law_646 (lv_at hl 0 rfl) ?_
      refine lv_i2l hx hb dL_law_648 rfl ?_
      refine W.lcmp hx hb dL_law_649 ?_
      refine lv_if_eq (tgt := 655) hx hb dL_law_650 (by decide) (fun c650 => ?_) (fun c650 => ?_)
      · have hw := hw.2
        refine lv_goto (tgt := 909) hx hb dL_law_655 (by decide) ?_
        exact kend _ _ _ _ _ hw h (lv_sub hl [2, 3, 4, 5, 6] rfl)
      · exact absurd (hw.1 ck) c650
  · exact absurd hw.1 c633
set_option maxHeartbeats 4000000 in
set_option maxRecDepth 100000 in
theorem lC10 {p : Program} {l : Launch} {e : Env} {s : State} {m : MethodId} {below : List Frame} {meth : Method} {c : Code} {D : va_G} {cy : CY} {ad am sa : Nat → Nat} {b L : Nat} {xs : Nat → Int32} {Qe : State → Prop} {cells slots : Nat} (hst : l.stackTraces = false) (C : kC p m c cL_law 8 s #[Value.ref b] RL D cy (fun q => s.heap.size ≤ q)) (hT : kTh (fun q => s.heap.size ≤ q) sa s s.heap) (hX : va_X b L xs s s.heap) (hbl : b < s.heap.size) (hroom : cells + 2 ≤ room_1.cells ∧ slots + 12 ≤ room_1.slots) (x4 : Int32) (hi0 : vp_in x4 L) (hi1 : vp_in (x4 + 1) L) (hi2 : vp_in (x4 + 2) L) (hi3 : vp_in (x4 + 3) L) {K : ST → ST → Prop} (kend : ∀ (uc um : ST) (H : Heap) (locs : List Loc) (ls : Array Slot), K uc um → lH D cy ad am (fun q => s.heap.size ≤ q) s uc um H locs → lv_has ls 8 [(0, .ref b), (1, .ref (ad 0)), (2, .ref (am 0)), (3, .ref (ad 50)), (4, .int x4)] → W p l e room_1 s m #[Value.ref b] below meth c H locs (cells + 2) (slots + 12) Qe (F0 m 909 ls [])) : ∀ (uc um : ST) (H : Heap) (locs : List Loc) (ls : Array Slot), wC10 (xs (x4 + 1).toNatClampNeg) (xs (x4 + 2).toNatClampNeg) uc um K → lH D cy ad am (fun q => s.heap.size ≤ q) s uc um H locs → lv_has ls 8 [(0, .ref b), (1, .ref (ad 0)), (2, .ref (am 0)), (3, .ref (ad 50)), (4, .int x4)] → W p l e room_1 s m #[Value.ref b] below meth c H locs cells slots Qe (F0 m 658 ls []) := by
  intro uc um H locs ls hw h hl
  obtain ⟨⟨hx, hb, hml, hown, hts⟩, hK, hA⟩ := id C
  have hbA : ¬ (fun q : Nat => s.heap.size ≤ q) b := Nat.not_le.mpr hbl
  have hroom2 : cells + 2 ≤ room_1.cells ∧ slots + 12 ≤ room_1.slots := hroom
  have hroom0 : cells ≤ room_1.cells ∧ slots ≤ room_1.slots := ⟨by omega, by omega⟩
  unfold wC10 at hw
  refine lv_aload_n hx hb dL_law_658 rfl (lv_at hl 1 rfl) ?_
  refine lv_aload_n hx hb dL_law_659 rfl (lv_at hl 0 rfl) ?_
  refine lv_iload hx hb dL_law_660 (lv_at hl 4 rfl) ?_
  refine lv_iconst (v := 1) hx hb dL_law_662 (by decide) ?_
  refine lv_iadd hx hb dL_law_663 ?_
  refine va_sld hx hb hX hbl hbA h.2.2 hi1 dL_law_664 ?_
  refine lv_aload_n hx hb dL_law_665 rfl (lv_at hl 0 rfl) ?_
  refine lv_iload hx hb dL_law_666 (lv_at hl 4 rfl) ?_
  refine lv_iconst (v := 2) hx hb dL_law_668 (by decide) ?_
  refine lv_iadd hx hb dL_law_669 ?_
  refine va_sld hx hb hX hbl hbA h.2.2 hi2 dL_law_670 ?_
  refine lv_aload_n hx hb dL_law_671 rfl (lv_at hl 3 rfl) ?_
  refine lSi (As := [.ref (ad 0), .int (xs (x4 + 1).toNatClampNeg), .int (xs (x4 + 2).toNatClampNeg), .ref (ad 50)]) (rest := []) C hT h (vx_cwSW 4 hts (gd_SW wi_ml_L_109 wi_st_L_node wi_in_L wi_cw_L_node) rfl rfl rfl hd_L_node.2 ⟨Nat.le_of_ble_eq_true rfl, Nat.le_of_ble_eq_true rfl⟩) (mL_node l hst D cy ad sa (xs (x4 + 1).toNatClampNeg) (xs (x4 + 2).toNatClampNeg) _ _ hw) rfl hl.1 rfl (Nat.le_of_ble_eq_true rfl) hroom dL_law_672 (fun r5 uc1 H locs hw h => ?_)
  refine lv_istore (lv' := [(5, .int r5), (0, .ref b), (1, .ref (ad 0)), (2, .ref (am 0)), (3, .ref (ad 50)), (4, .int x4)]) hx hb dL_law_675 hl (by decide) rfl (fun ls hl => ?_)
  refine lv_aload_n hx hb dL_law_677 rfl (lv_at hl 3 rfl) ?_
  refine lv_aload_n hx hb dL_law_678 rfl (lv_at hl 1 rfl) ?_
  refine lv_iload hx hb dL_law_679 (lv_at hl 5 rfl) ?_
  refine lv_iconst (v := 1) hx hb dL_law_681 (by decide) ?_
  refine lv_iadd hx hb dL_law_682 ?_
  refine va_sld hx hb hX hbl hbA h.2.2 hi1 dL_law_683 ?_
  refine lv_aload_n hx hb dL_law_684 rfl (lv_at hl 1 rfl) ?_
  refine lv_iload hx hb dL_law_685 (lv_at hl 5 rfl) ?_
  refine lv_iconst (v := 2) hx hb dL_law_687 (by decide) ?_
  refine lv_iadd hx hb dL_law_688 ?_
  refine va_sld hx hb hX hbl hbA h.2.2 hi2 dL_law_689 ?_
  refine lmi (As := [.int (xs (x4 + 1).toNatClampNeg), .int (xs (x4 + 2).toNatClampNeg)]) (rest := []) C h (cwV 2 hts (gd_V wi_ml_L_111 wi_im_X7_node wi_se_X7_node wi_in_X7 wi_co_X7_node) rfl rfl rfl hd_X7_node ⟨Nat.le_of_ble_eq_true rfl, Nat.le_of_ble_eq_true rfl⟩) (mX7_node l D cy am (xs (x4 + 1).toNatClampNeg) (xs (x4 + 2).toNatClampNeg) _ _ hw) rfl hl.1 rfl (Nat.le_of_ble_eq_true rfl) hroom2 dL_law_690 (fun r6 un H locs hw h => ?_)
  refine lv_istore (lv' := [(6, .int r6), (5, .int r5), (0, .ref b), (1, .ref (ad 0)), (2, .ref (am 0)), (3, .ref (ad 50)), (4, .int x4)]) hx hb dL_law_693 hl (by decide) rfl (fun ls hl => ?_)
  refine lv_aload_n hx hb dL_law_695 rfl (lv_at hl 4 rfl) ?_
  refine lmi (As := []) (rest := []) C h (cwV 0 hts (gd_V wi_ml_L_72 wi_im_X7_thrown wi_se_X7_thrown wi_in_X7 wi_co_X7_thrown) rfl rfl rfl hd_X7_thrown ⟨Nat.le_of_ble_eq_true rfl, Nat.le_of_ble_eq_true rfl⟩) (mX7_thrown l D cy am  _ _ hw) rfl hl.1 rfl (Nat.le_of_ble_eq_true rfl) hroom2 dL_law_696 (fun r7 un H locs hw h => ?_)
  refine lv_iload hx hb dL_law_699 (lv_at hl 1 rfl) ?_
  refine lv_icmp_eq (tgt := 706) hx hb dL_law_701 (by decide) (fun c701 => ?_) (fun c701 => ?_)
  · have hq := hw.2
    have hw := hq
    refine lv_iload hx hb dL_law_706 (lv_at hl 1 rfl) ?_
    refine lv_if_ne (tgt := 723) hx hb dL_law_708 (by decide) (fun c708 => ?_) (fun c708 => ?_)
    · have hw := hw.2
      refine lv_goto (tgt := 909) hx hb dL_law_723 (by decide) ?_
      exact kend _ _ _ _ _ hw h (lv_sub hl [2, 3, 4, 5, 6] rfl)
    · have ck := c708
      refine lv_aload_n hx hb dL_law_711 rfl (lv_at hl 5 rfl) ?_
      refine lv_iconst (v := 0) hx hb dL_law_712 (by decide) ?_
      refine va_lald hx hb hK h.1 50 2 (lW_out cy ad am _ _) rfl vp_in01 dL_law_713 ?_
      refine lv_iload hx hb dL_law_714 (lv_at hl 0 rfl) ?_
      refine lv_i2l hx hb dL_law_716 rfl ?_
      refine W.lcmp hx hb dL_law_717 ?_
      refine lv_if_eq (tgt := 723) hx hb dL_law_718 (by decide) (fun c718 => ?_) (fun c718 => ?_)
      · have hw := hw.2
        refine lv_goto (tgt := 909) hx hb dL_law_723 (by decide) ?_
        exact kend _ _ _ _ _ hw h (lv_sub hl [2, 3, 4, 5, 6] rfl)
      · exact absurd (hw.1 ck) c718
  · exact absurd hw.1 c701
set_option maxHeartbeats 4000000 in
set_option maxRecDepth 100000 in
theorem lC11 {p : Program} {l : Launch} {e : Env} {s : State} {m : MethodId} {below : List Frame} {meth : Method} {c : Code} {D : va_G} {cy : CY} {ad am sa : Nat → Nat} {b L : Nat} {xs : Nat → Int32} {Qe : State → Prop} {cells slots : Nat} (hst : l.stackTraces = false) (C : kC p m c cL_law 8 s #[Value.ref b] RL D cy (fun q => s.heap.size ≤ q)) (hT : kTh (fun q => s.heap.size ≤ q) sa s s.heap) (hX : va_X b L xs s s.heap) (hbl : b < s.heap.size) (hroom : cells + 2 ≤ room_1.cells ∧ slots + 12 ≤ room_1.slots) (x4 : Int32) (hi0 : vp_in x4 L) (hi1 : vp_in (x4 + 1) L) (hi2 : vp_in (x4 + 2) L) (hi3 : vp_in (x4 + 3) L) {K : ST → ST → Prop} (kend : ∀ (uc um : ST) (H : Heap) (locs : List Loc) (ls : Array Slot), K uc um → lH D cy ad am (fun q => s.heap.size ≤ q) s uc um H locs → lv_has ls 8 [(0, .ref b), (1, .ref (ad 0)), (2, .ref (am 0)), (3, .ref (ad 50)), (4, .int x4)] → W p l e room_1 s m #[Value.ref b] below meth c H locs (cells + 2) (slots + 12) Qe (F0 m 909 ls [])) : ∀ (uc um : ST) (H : Heap) (locs : List Loc) (ls : Array Slot), wC11 (xs (x4 + 1).toNatClampNeg) uc um K → lH D cy ad am (fun q => s.heap.size ≤ q) s uc um H locs → lv_has ls 8 [(0, .ref b), (1, .ref (ad 0)), (2, .ref (am 0)), (3, .ref (ad 50)), (4, .int x4)] → W p l e room_1 s m #[Value.ref b] below meth c H locs cells slots Qe (F0 m 726 ls []) := by
  intro uc um H locs ls hw h hl
  obtain ⟨⟨hx, hb, hml, hown, hts⟩, hK, hA⟩ := id C
  have hbA : ¬ (fun q : Nat => s.heap.size ≤ q) b := Nat.not_le.mpr hbl
  have hroom2 : cells + 2 ≤ room_1.cells ∧ slots + 12 ≤ room_1.slots := hroom
  have hroom0 : cells ≤ room_1.cells ∧ slots ≤ room_1.slots := ⟨by omega, by omega⟩
  unfold wC11 at hw
  refine lv_aload_n hx hb dL_law_726 rfl (lv_at hl 1 rfl) ?_
  refine lv_aload_n hx hb dL_law_727 rfl (lv_at hl 0 rfl) ?_
  refine lv_iload hx hb dL_law_728 (lv_at hl 4 rfl) ?_
  refine lv_iconst (v := 1) hx hb dL_law_730 (by decide) ?_
  refine lv_iadd hx hb dL_law_731 ?_
  refine va_sld hx hb hX hbl hbA h.2.2 hi1 dL_law_732 ?_
  refine lv_aload_n hx hb dL_law_733 rfl (lv_at hl 3 rfl) ?_
  refine lSi (As := [.ref (ad 0), .int (xs (x4 + 1).toNatClampNeg), .ref (ad 50)]) (rest := []) C hT h (vx_cwSW 3 hts (gd_SW wi_ml_L_112 wi_st_L_code wi_in_L wi_cw_L_code) rfl rfl rfl hd_L_code.2 ⟨Nat.le_of_ble_eq_true rfl, Nat.le_of_ble_eq_true rfl⟩) (mL_code l hst D cy ad sa (xs (x4 + 1).toNatClampNeg) _ _ hw) rfl hl.1 rfl (Nat.le_of_ble_eq_true rfl) hroom dL_law_734 (fun r5 uc1 H locs hw h => ?_)
  refine lv_istore (lv' := [(5, .int r5), (0, .ref b), (1, .ref (ad 0)), (2, .ref (am 0)), (3, .ref (ad 50)), (4, .int x4)]) hx hb dL_law_737 hl (by decide) rfl (fun ls hl => ?_)
  refine lv_aload_n hx hb dL_law_739 rfl (lv_at hl 3 rfl) ?_
  refine lv_aload_n hx hb dL_law_740 rfl (lv_at hl 1 rfl) ?_
  refine lv_iload hx hb dL_law_741 (lv_at hl 5 rfl) ?_
  refine lv_iconst (v := 1) hx hb dL_law_743 (by decide) ?_
  refine lv_iadd hx hb dL_law_744 ?_
  refine va_sld hx hb hX hbl hbA h.2.2 hi1 dL_law_745 ?_
  refine lmi (As := [.int (xs (x4 + 1).toNatClampNeg)]) (rest := []) C h (cwV 1 hts (gd_V wi_ml_L_114 wi_im_X7_code wi_se_X7_code wi_in_X7 wi_co_X7_code) rfl rfl rfl hd_X7_code ⟨Nat.le_of_ble_eq_true rfl, Nat.le_of_ble_eq_true rfl⟩) (mX7_code l D cy am (xs (x4 + 1).toNatClampNeg) _ _ hw) rfl hl.1 rfl (Nat.le_of_ble_eq_true rfl) hroom2 dL_law_746 (fun r6 un H locs hw h => ?_)
  refine lv_istore (lv' := [(6, .int r6), (5, .int r5), (0, .ref b), (1, .ref (ad 0)), (2, .ref (am 0)), (3, .ref (ad 50)), (4, .int x4)]) hx hb dL_law_749 hl (by decide) rfl (fun ls hl => ?_)
  refine lv_aload_n hx hb dL_law_751 rfl (lv_at hl 4 rfl) ?_
  refine lmi (As := []) (rest := []) C h (cwV 0 hts (gd_V wi_ml_L_72 wi_im_X7_thrown wi_se_X7_thrown wi_in_X7 wi_co_X7_thrown) rfl rfl rfl hd_X7_thrown ⟨Nat.le_of_ble_eq_true rfl, Nat.le_of_ble_eq_true rfl⟩) (mX7_thrown l D cy am  _ _ hw) rfl hl.1 rfl (Nat.le_of_ble_eq_true rfl) hroom2 dL_law_752 (fun r7 un H locs hw h => ?_)
  refine lv_iload hx hb dL_law_755 (lv_at hl 1 rfl) ?_
  refine lv_icmp_eq (tgt := 762) hx hb dL_law_757 (by decide) (fun c757 => ?_) (fun c757 => ?_)
  · have hq := hw.2
    have hw := hq
    refine lv_iload hx hb dL_law_762 (lv_at hl 1 rfl) ?_
    refine lv_if_ne (tgt := 779) hx hb dL_law_764 (by decide) (fun c764 => ?_) (fun c764 => ?_)
    · have hw := hw.2
      refine lv_goto (tgt := 909) hx hb dL_law_779 (by decide) ?_
      exact kend _ _ _ _ _ hw h (lv_sub hl [2, 3, 4, 5, 6] rfl)
    · have ck := c764
      refine lv_aload_n hx hb dL_law_767 rfl (lv_at hl 5 rfl) ?_
      refine lv_iconst (v := 0) hx hb dL_law_768 (by decide) ?_
      refine va_lald hx hb hK h.1 50 2 (lW_out cy ad am _ _) rfl vp_in01 dL_law_769 ?_
      refine lv_iload hx hb dL_law_770 (lv_at hl 0 rfl) ?_
      refine lv_i2l hx hb dL_law_772 rfl ?_
      refine W.lcmp hx hb dL_law_773 ?_
      refine lv_if_eq (tgt := 779) hx hb dL_law_774 (by decide) (fun c774 => ?_) (fun c774 => ?_)
      · have hw := hw.2
        refine lv_goto (tgt := 909) hx hb dL_law_779 (by decide) ?_
        exact kend _ _ _ _ _ hw h (lv_sub hl [2, 3, 4, 5, 6] rfl)
      · exact absurd (hw.1 ck) c774
  · exact absurd hw.1 c757
set_option maxHeartbeats 4000000 in
set_option maxRecDepth 100000 in
theorem lC12 {p : Program} {l : Launch} {e : Env} {s : State} {m : MethodId} {below : List Frame} {meth : Method} {c : Code} {D : va_G} {cy : CY} {ad am sa : Nat → Nat} {b L : Nat} {xs : Nat → Int32} {Qe : State → Prop} {cells slots : Nat} (hst : l.stackTraces = false) (C : kC p m c cL_law 8 s #[Value.ref b] RL D cy (fun q => s.heap.size ≤ q)) (hT : kTh (fun q => s.heap.size ≤ q) sa s s.heap) (hX : va_X b L xs s s.heap) (hbl : b < s.heap.size) (hroom : cells + 2 ≤ room_1.cells ∧ slots + 12 ≤ room_1.slots) (x4 : Int32) (hi0 : vp_in x4 L) (hi1 : vp_in (x4 + 1) L) (hi2 : vp_in (x4 + 2) L) (hi3 : vp_in (x4 + 3) L) {K : ST → ST → Prop} (kend : ∀ (uc um : ST) (H : Heap) (locs : List Loc) (ls : Array Slot), K uc um → lH D cy ad am (fun q => s.heap.size ≤ q) s uc um H locs → lv_has ls 8 [(0, .ref b), (1, .ref (ad 0)), (2, .ref (am 0)), (3, .ref (ad 50)), (4, .int x4)] → W p l e room_1 s m #[Value.ref b] below meth c H locs (cells + 2) (slots + 12) Qe (F0 m 909 ls [])) : ∀ (uc um : ST) (H : Heap) (locs : List Loc) (ls : Array Slot), wC12 (xs (x4 + 1).toNatClampNeg) (xs (x4 + 2).toNatClampNeg) uc um K → lH D cy ad am (fun q => s.heap.size ≤ q) s uc um H locs → lv_has ls 8 [(0, .ref b), (1, .ref (ad 0)), (2, .ref (am 0)), (3, .ref (ad 50)), (4, .int x4)] → W p l e room_1 s m #[Value.ref b] below meth c H locs cells slots Qe (F0 m 782 ls []) := by
  intro uc um H locs ls hw h hl
  obtain ⟨⟨hx, hb, hml, hown, hts⟩, hK, hA⟩ := id C
  have hbA : ¬ (fun q : Nat => s.heap.size ≤ q) b := Nat.not_le.mpr hbl
  have hroom2 : cells + 2 ≤ room_1.cells ∧ slots + 12 ≤ room_1.slots := hroom
  have hroom0 : cells ≤ room_1.cells ∧ slots ≤ room_1.slots := ⟨by omega, by omega⟩
  unfold wC12 at hw
  refine lv_aload_n hx hb dL_law_782 rfl (lv_at hl 1 rfl) ?_
  refine lv_aload_n hx hb dL_law_783 rfl (lv_at hl 0 rfl) ?_
  refine lv_iload hx hb dL_law_784 (lv_at hl 4 rfl) ?_
  refine lv_iconst (v := 1) hx hb dL_law_786 (by decide) ?_
  refine lv_iadd hx hb dL_law_787 ?_
  refine va_sld hx hb hX hbl hbA h.2.2 hi1 dL_law_788 ?_
  refine lv_aload_n hx hb dL_law_789 rfl (lv_at hl 0 rfl) ?_
  refine lv_iload hx hb dL_law_790 (lv_at hl 4 rfl) ?_
  refine lv_iconst (v := 2) hx hb dL_law_792 (by decide) ?_
  refine lv_iadd hx hb dL_law_793 ?_
  refine va_sld hx hb hX hbl hbA h.2.2 hi2 dL_law_794 ?_
  refine lv_if_eq (tgt := 802) hx hb dL_law_795 (by decide) (fun c795 => ?_) (fun c795 => ?_)
  · simp only [if_pos c795] at hw
    refine lv_iconst (v := 0) hx hb dL_law_802 (by decide) ?_
    refine lv_aload_n hx hb dL_law_803 rfl (lv_at hl 3 rfl) ?_
    refine lSi (As := [.ref (ad 0), .int (xs (x4 + 1).toNatClampNeg), .int 0, .ref (ad 50)]) (rest := []) C hT h (vx_cwSW 4 hts (gd_SW wi_ml_L_115 wi_st_L_run wi_in_L wi_cw_L_run) rfl rfl rfl hd_L_run.2 ⟨Nat.le_of_ble_eq_true rfl, Nat.le_of_ble_eq_true rfl⟩) (mL_run l hst D cy ad sa (xs (x4 + 1).toNatClampNeg) 0 _ _ hw) rfl hl.1 rfl (Nat.le_of_ble_eq_true rfl) hroom dL_law_804 (fun r5 uc1 H locs hw h => ?_)
    refine lv_istore (lv' := [(5, .int r5), (0, .ref b), (1, .ref (ad 0)), (2, .ref (am 0)), (3, .ref (ad 50)), (4, .int x4)]) hx hb dL_law_807 hl (by decide) rfl (fun ls hl => ?_)
    refine lv_aload_n hx hb dL_law_809 rfl (lv_at hl 3 rfl) ?_
    refine lv_aload_n hx hb dL_law_810 rfl (lv_at hl 1 rfl) ?_
    refine lv_iload hx hb dL_law_811 (lv_at hl 5 rfl) ?_
    refine lv_iconst (v := 1) hx hb dL_law_813 (by decide) ?_
    refine lv_iadd hx hb dL_law_814 ?_
    refine va_sld hx hb hX hbl hbA h.2.2 hi1 dL_law_815 ?_
    refine lv_aload_n hx hb dL_law_816 rfl (lv_at hl 1 rfl) ?_
    refine lv_iload hx hb dL_law_817 (lv_at hl 5 rfl) ?_
    refine lv_iconst (v := 2) hx hb dL_law_819 (by decide) ?_
    refine lv_iadd hx hb dL_law_820 ?_
    refine va_sld hx hb hX hbl hbA h.2.2 hi2 dL_law_821 ?_
    refine lv_if_eq (tgt := 829) hx hb dL_law_822 (by decide) (fun c822 => ?_) (fun c822 => ?_)
    · skip
      refine lv_iconst (v := 0) hx hb dL_law_829 (by decide) ?_
      refine lmi (As := [.int (xs (x4 + 1).toNatClampNeg), .int 0]) (rest := []) C h (cwV 2 hts (gd_V wi_ml_L_118 wi_im_X7_run wi_se_X7_run wi_in_X7 wi_co_X7_run) rfl rfl rfl hd_X7_run ⟨Nat.le_of_ble_eq_true rfl, Nat.le_of_ble_eq_true rfl⟩) (mX7_run l D cy am (xs (x4 + 1).toNatClampNeg) 0 _ _ hw) rfl hl.1 rfl (Nat.le_of_ble_eq_true rfl) hroom2 dL_law_830 (fun r6 un H locs hw h => ?_)
      refine lv_istore (lv' := [(6, .int r6), (5, .int r5), (0, .ref b), (1, .ref (ad 0)), (2, .ref (am 0)), (3, .ref (ad 50)), (4, .int x4)]) hx hb dL_law_833 hl (by decide) rfl (fun ls hl => ?_)
      refine lv_aload_n hx hb dL_law_835 rfl (lv_at hl 4 rfl) ?_
      refine lmi (As := []) (rest := []) C h (cwV 0 hts (gd_V wi_ml_L_72 wi_im_X7_thrown wi_se_X7_thrown wi_in_X7 wi_co_X7_thrown) rfl rfl rfl hd_X7_thrown ⟨Nat.le_of_ble_eq_true rfl, Nat.le_of_ble_eq_true rfl⟩) (mX7_thrown l D cy am  _ _ hw) rfl hl.1 rfl (Nat.le_of_ble_eq_true rfl) hroom2 dL_law_836 (fun r7 un H locs hw h => ?_)
      refine lv_iload hx hb dL_law_839 (lv_at hl 1 rfl) ?_
      refine lv_icmp_eq (tgt := 846) hx hb dL_law_841 (by decide) (fun c841 => ?_) (fun c841 => ?_)
      · have hq := hw.2
        have hw := hq
        refine lv_iload hx hb dL_law_846 (lv_at hl 1 rfl) ?_
        refine lv_if_ne (tgt := 863) hx hb dL_law_848 (by decide) (fun c848 => ?_) (fun c848 => ?_)
        · have hw := hw.2
          refine lv_goto (tgt := 909) hx hb dL_law_863 (by decide) ?_
          exact kend _ _ _ _ _ hw h (lv_sub hl [2, 3, 4, 5, 6] rfl)
        · have ck := c848
          refine lv_aload_n hx hb dL_law_851 rfl (lv_at hl 5 rfl) ?_
          refine lv_iconst (v := 0) hx hb dL_law_852 (by decide) ?_
          refine va_lald hx hb hK h.1 50 2 (lW_out cy ad am _ _) rfl vp_in01 dL_law_853 ?_
          refine lv_iload hx hb dL_law_854 (lv_at hl 0 rfl) ?_
          refine lv_i2l hx hb dL_law_856 rfl ?_
          refine W.lcmp hx hb dL_law_857 ?_
          refine lv_if_eq (tgt := 863) hx hb dL_law_858 (by decide) (fun c858 => ?_) (fun c858 => ?_)
          · have hw := hw.2
            refine lv_goto (tgt := 909) hx hb dL_law_863 (by decide) ?_
            exact kend _ _ _ _ _ hw h (lv_sub hl [2, 3, 4, 5, 6] rfl)
          · exact absurd (hw.1 ck) c858
      · exact absurd hw.1 c841
    · exact absurd c795 c822
  · simp only [if_neg c795] at hw
    refine lv_iconst (v := 1) hx hb dL_law_798 (by decide) ?_
    refine lv_goto (tgt := 803) hx hb dL_law_799 (by decide) ?_
    refine lv_aload_n hx hb dL_law_803 rfl (lv_at hl 3 rfl) ?_
    refine lSi (As := [.ref (ad 0), .int (xs (x4 + 1).toNatClampNeg), .int 1, .ref (ad 50)]) (rest := []) C hT h (vx_cwSW 4 hts (gd_SW wi_ml_L_115 wi_st_L_run wi_in_L wi_cw_L_run) rfl rfl rfl hd_L_run.2 ⟨Nat.le_of_ble_eq_true rfl, Nat.le_of_ble_eq_true rfl⟩) (mL_run l hst D cy ad sa (xs (x4 + 1).toNatClampNeg) 1 _ _ hw) rfl hl.1 rfl (Nat.le_of_ble_eq_true rfl) hroom dL_law_804 (fun r5 uc1 H locs hw h => ?_)
    refine lv_istore (lv' := [(5, .int r5), (0, .ref b), (1, .ref (ad 0)), (2, .ref (am 0)), (3, .ref (ad 50)), (4, .int x4)]) hx hb dL_law_807 hl (by decide) rfl (fun ls hl => ?_)
    refine lv_aload_n hx hb dL_law_809 rfl (lv_at hl 3 rfl) ?_
    refine lv_aload_n hx hb dL_law_810 rfl (lv_at hl 1 rfl) ?_
    refine lv_iload hx hb dL_law_811 (lv_at hl 5 rfl) ?_
    refine lv_iconst (v := 1) hx hb dL_law_813 (by decide) ?_
    refine lv_iadd hx hb dL_law_814 ?_
    refine va_sld hx hb hX hbl hbA h.2.2 hi1 dL_law_815 ?_
    refine lv_aload_n hx hb dL_law_816 rfl (lv_at hl 1 rfl) ?_
    refine lv_iload hx hb dL_law_817 (lv_at hl 5 rfl) ?_
    refine lv_iconst (v := 2) hx hb dL_law_819 (by decide) ?_
    refine lv_iadd hx hb dL_law_820 ?_
    refine va_sld hx hb hX hbl hbA h.2.2 hi2 dL_law_821 ?_
    refine lv_if_eq (tgt := 829) hx hb dL_law_822 (by decide) (fun c822 => ?_) (fun c822 => ?_)
    · exact absurd c822 c795
    · skip
      refine lv_iconst (v := 1) hx hb dL_law_825 (by decide) ?_
      refine lv_goto (tgt := 830) hx hb dL_law_826 (by decide) ?_
      refine lmi (As := [.int (xs (x4 + 1).toNatClampNeg), .int 1]) (rest := []) C h (cwV 2 hts (gd_V wi_ml_L_118 wi_im_X7_run wi_se_X7_run wi_in_X7 wi_co_X7_run) rfl rfl rfl hd_X7_run ⟨Nat.le_of_ble_eq_true rfl, Nat.le_of_ble_eq_true rfl⟩) (mX7_run l D cy am (xs (x4 + 1).toNatClampNeg) 1 _ _ hw) rfl hl.1 rfl (Nat.le_of_ble_eq_true rfl) hroom2 dL_law_830 (fun r6 un H locs hw h => ?_)
      refine lv_istore (lv' := [(6, .int r6), (5, .int r5), (0, .ref b), (1, .ref (ad 0)), (2, .ref (am 0)), (3, .ref (ad 50)), (4, .int x4)]) hx hb dL_law_833 hl (by decide) rfl (fun ls hl => ?_)
      refine lv_aload_n hx hb dL_law_835 rfl (lv_at hl 4 rfl) ?_
      refine lmi (As := []) (rest := []) C h (cwV 0 hts (gd_V wi_ml_L_72 wi_im_X7_thrown wi_se_X7_thrown wi_in_X7 wi_co_X7_thrown) rfl rfl rfl hd_X7_thrown ⟨Nat.le_of_ble_eq_true rfl, Nat.le_of_ble_eq_true rfl⟩) (mX7_thrown l D cy am  _ _ hw) rfl hl.1 rfl (Nat.le_of_ble_eq_true rfl) hroom2 dL_law_836 (fun r7 un H locs hw h => ?_)
      refine lv_iload hx hb dL_law_839 (lv_at hl 1 rfl) ?_
      refine lv_icmp_eq (tgt := 846) hx hb dL_law_841 (by decide) (fun c841 => ?_) (fun c841 => ?_)
      · have hq := hw.2
        have hw := hq
        refine lv_iload hx hb dL_law_846 (lv_at hl 1 rfl) ?_
        refine lv_if_ne (tgt := 863) hx hb dL_law_848 (by decide) (fun c848 => ?_) (fun c848 => ?_)
        · have hw := hw.2
          refine lv_goto (tgt := 909) hx hb dL_law_863 (by decide) ?_
          exact kend _ _ _ _ _ hw h (lv_sub hl [2, 3, 4, 5, 6] rfl)
        · have ck := c848
          refine lv_aload_n hx hb dL_law_851 rfl (lv_at hl 5 rfl) ?_
          refine lv_iconst (v := 0) hx hb dL_law_852 (by decide) ?_
          refine va_lald hx hb hK h.1 50 2 (lW_out cy ad am _ _) rfl vp_in01 dL_law_853 ?_
          refine lv_iload hx hb dL_law_854 (lv_at hl 0 rfl) ?_
          refine lv_i2l hx hb dL_law_856 rfl ?_
          refine W.lcmp hx hb dL_law_857 ?_
          refine lv_if_eq (tgt := 863) hx hb dL_law_858 (by decide) (fun c858 => ?_) (fun c858 => ?_)
          · have hw := hw.2
            refine lv_goto (tgt := 909) hx hb dL_law_863 (by decide) ?_
            exact kend _ _ _ _ _ hw h (lv_sub hl [2, 3, 4, 5, 6] rfl)
          · exact absurd (hw.1 ck) c858
      · exact absurd hw.1 c841
set_option maxHeartbeats 4000000 in
set_option maxRecDepth 100000 in
theorem lC13 {p : Program} {l : Launch} {e : Env} {s : State} {m : MethodId} {below : List Frame} {meth : Method} {c : Code} {D : va_G} {cy : CY} {ad am sa : Nat → Nat} {b L : Nat} {xs : Nat → Int32} {Qe : State → Prop} {cells slots : Nat} (hst : l.stackTraces = false) (C : kC p m c cL_law 8 s #[Value.ref b] RL D cy (fun q => s.heap.size ≤ q)) (hT : kTh (fun q => s.heap.size ≤ q) sa s s.heap) (hX : va_X b L xs s s.heap) (hbl : b < s.heap.size) (hroom : cells + 2 ≤ room_1.cells ∧ slots + 12 ≤ room_1.slots) (x4 : Int32) (hi0 : vp_in x4 L) (hi1 : vp_in (x4 + 1) L) (hi2 : vp_in (x4 + 2) L) (hi3 : vp_in (x4 + 3) L) {K : ST → ST → Prop} (kend : ∀ (uc um : ST) (H : Heap) (locs : List Loc) (ls : Array Slot), K uc um → lH D cy ad am (fun q => s.heap.size ≤ q) s uc um H locs → lv_has ls 8 [(0, .ref b), (1, .ref (ad 0)), (2, .ref (am 0)), (3, .ref (ad 50)), (4, .int x4)] → W p l e room_1 s m #[Value.ref b] below meth c H locs (cells + 2) (slots + 12) Qe (F0 m 909 ls [])) : ∀ (uc um : ST) (H : Heap) (locs : List Loc) (ls : Array Slot), wC13  uc um K → lH D cy ad am (fun q => s.heap.size ≤ q) s uc um H locs → lv_has ls 8 [(0, .ref b), (1, .ref (ad 0)), (2, .ref (am 0)), (3, .ref (ad 50)), (4, .int x4)] → W p l e room_1 s m #[Value.ref b] below meth c H locs cells slots Qe (F0 m 866 ls []) := by
  intro uc um H locs ls hw h hl
  obtain ⟨⟨hx, hb, hml, hown, hts⟩, hK, hA⟩ := id C
  have hbA : ¬ (fun q : Nat => s.heap.size ≤ q) b := Nat.not_le.mpr hbl
  have hroom2 : cells + 2 ≤ room_1.cells ∧ slots + 12 ≤ room_1.slots := hroom
  have hroom0 : cells ≤ room_1.cells ∧ slots ≤ room_1.slots := ⟨by omega, by omega⟩
  unfold wC13 at hw
  refine lv_aload_n hx hb dL_law_866 rfl (lv_at hl 1 rfl) ?_
  refine lv_aload_n hx hb dL_law_867 rfl (lv_at hl 3 rfl) ?_
  refine lSi (As := [.ref (ad 0), .ref (ad 50)]) (rest := []) C hT h (vx_cwSW 2 hts (gd_SW wi_ml_L_119 wi_st_L_tests wi_in_L wi_cw_L_tests) rfl rfl rfl hd_L_tests.2 ⟨Nat.le_of_ble_eq_true rfl, Nat.le_of_ble_eq_true rfl⟩) (mL_tests l hst D cy ad sa  _ _ hw) rfl hl.1 rfl (Nat.le_of_ble_eq_true rfl) hroom dL_law_868 (fun r5 uc1 H locs hw h => ?_)
  refine lv_istore (lv' := [(5, .int r5), (0, .ref b), (1, .ref (ad 0)), (2, .ref (am 0)), (3, .ref (ad 50)), (4, .int x4)]) hx hb dL_law_871 hl (by decide) rfl (fun ls hl => ?_)
  refine lv_aload_n hx hb dL_law_873 rfl (lv_at hl 3 rfl) ?_
  refine lml (As := []) (rest := []) C h (cwV 0 hts (gd_V wi_ml_L_122 wi_im_X7_tests wi_se_X7_tests wi_in_X7 wi_co_X7_tests) rfl rfl rfl hd_X7_tests ⟨Nat.le_of_ble_eq_true rfl, Nat.le_of_ble_eq_true rfl⟩) (mX7_tests l D cy am  _ _ hw) rfl hl.1 rfl (Nat.le_of_ble_eq_true rfl) hroom2 dL_law_874 (fun r6 un H locs hw h => ?_)
  refine lv_lstore (lv' := [(6, .long r6), (5, .int r5), (0, .ref b), (1, .ref (ad 0)), (2, .ref (am 0)), (3, .ref (ad 50)), (4, .int x4)]) hx hb dL_law_877 hl (by decide) rfl (fun ls hl => ?_)
  refine lv_aload_n hx hb dL_law_879 rfl (lv_at hl 4 rfl) ?_
  refine lmi (As := []) (rest := []) C h (cwV 0 hts (gd_V wi_ml_L_72 wi_im_X7_thrown wi_se_X7_thrown wi_in_X7 wi_co_X7_thrown) rfl rfl rfl hd_X7_thrown ⟨Nat.le_of_ble_eq_true rfl, Nat.le_of_ble_eq_true rfl⟩) (mX7_thrown l D cy am  _ _ hw) rfl hl.1 rfl (Nat.le_of_ble_eq_true rfl) hroom2 dL_law_880 (fun r7 un H locs hw h => ?_)
  refine lv_iload hx hb dL_law_883 (lv_at hl 1 rfl) ?_
  refine lv_icmp_eq (tgt := 890) hx hb dL_law_885 (by decide) (fun c885 => ?_) (fun c885 => ?_)
  · have hq := hw.2
    have hw := hq
    refine lv_iload hx hb dL_law_890 (lv_at hl 1 rfl) ?_
    refine lv_if_ne (tgt := 906) hx hb dL_law_892 (by decide) (fun c892 => ?_) (fun c892 => ?_)
    · have hw := hw.2
      refine lv_goto (tgt := 909) hx hb dL_law_906 (by decide) ?_
      exact kend _ _ _ _ _ hw h (lv_sub hl [2, 3, 4, 5, 6] rfl)
    · have ck := c892
      refine lv_aload_n hx hb dL_law_895 rfl (lv_at hl 5 rfl) ?_
      refine lv_iconst (v := 0) hx hb dL_law_896 (by decide) ?_
      refine va_lald hx hb hK h.1 50 2 (lW_out cy ad am _ _) rfl vp_in01 dL_law_897 ?_
      refine lv_lload hx hb dL_law_898 (lv_at hl 0 rfl) ?_
      refine W.lcmp hx hb dL_law_900 ?_
      refine lv_if_eq (tgt := 906) hx hb dL_law_901 (by decide) (fun c901 => ?_) (fun c901 => ?_)
      · have hw := hw.2
        refine lv_goto (tgt := 909) hx hb dL_law_906 (by decide) ?_
        exact kend _ _ _ _ _ hw h (lv_sub hl [2, 3, 4, 5, 6] rfl)
      · exact absurd (hw.1 ck) c901
  · exact absurd hw.1 c885
