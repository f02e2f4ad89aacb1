/-! THE INVARIANT -/
theorem inv_0 : IVR (8 * 0) u0 u0 := by
  refine ⟨⟨fun _ => 0, 0, by omega, ⟨rfl, fun i hi => by omega⟩, ⟨rfl, fun i hi => by omega⟩⟩, rfl, ?_, ?_, Or.inl ⟨rfl, rfl, rfl, rfl, rfl, rfl, rfl⟩⟩
  · show (0 : Nat) < 2; omega
  · show (1 : Nat) = 1 - 0; omega
theorem inv_s (i : Nat) (uc um : ST) (hi : i < 512) (h : IVR (8 * i) uc um) (a0 a1 a2 a3 : Int32) : wLaw a0 a1 a2 a3 uc um (fun uc1 um1 => IVR (8 * (i + 1)) uc1 um1) := by
  have hK : ∀ uc1 um1, qC uc uc1 → qM um um1 → IVR (8 * (i + 1)) uc1 um1 := fun uc1 um1 hc hm => h.q (by omega) hc hm
  obtain ⟨ht, hf, hz, hz1, hrel⟩ := h
  have h : IVR (8 * i) uc um := ⟨ht, hf, hz, hz1, hrel⟩
  refine ⟨fun _ => ?_, fun _ => ?_, fun _ => ?_, fun _ => q_fault hf hK, fun _ => q_amiss a1 hrel hK, fun _ => q_count a1 ht hz hrel hK, fun _ => q_rule a1 a2 hz hrel hK, fun _ => q_name a1 a2 a3 hz hrel hK, fun _ => q_meets a1 hz hrel hK, fun _ => q_cases a1 hz hrel hK, fun _ => q_node a1 a2 hrel hK, fun _ => q_code a1 hrel hK, fun _ => q_run a1 a2 hz hrel hK, fun _ => q_tests hrel hK, fun _ => ?_⟩
  · exact t_type a1 a2 a3 ht (by omega) (fun uc1 um1 ht1 hc hm => by
      have := h.t ht1 hc hm
      rw [show 8 * (i + 1) = 8 * i + 8 by omega]; exact this)
  · exact t_keep a1 ht (by omega) (fun uc1 um1 ht1 hc hm => h.t (ht1.mono (by omega)) hc hm)
  · exact q_read (by omega) h (fun uc1 um1 h1 => ⟨h1.1.mono (by omega), h1.2⟩)
  · exact hK uc um (qC.rf uc) ⟨fun _ _ => rfl, fun _ => rfl⟩
