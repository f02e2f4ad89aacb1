/-! THE REFERENCE WRITES -/
def wrF (u v : ST) : Prop := (∀ k, k ≠ 33 → gI v k = gI u k) ∧ (∀ k, k ≠ 27 → k ≠ 32 → gR v k = gR u k)
theorem wrF.rf (u : ST) : wrF u u := ⟨fun _ _ => rfl, fun _ _ _ => rfl⟩
theorem wrF.s {u v : ST} (h : wrF u v) {j i : Nat} {x : Int32} (hj : j = 27 ∨ j = 32) : wrF u (sR v j i x) := ⟨h.1, fun k a b => by rw [gR_sR, if_neg (by omega)]; exact h.2 k a b⟩
theorem wrF.n {u v : ST} (h : wrF u v) {x : Int32} : wrF u (sI v 33 x) := ⟨fun k a => by rw [gI_sI, if_neg a]; exact h.1 k a, h.2⟩
theorem mTr.wr {u v : ST} {s : Nat} {L : List RU} (h : mTr u s L) (g : wrF u v) : mTr v s L := fun i z hi => by
  have := h i z hi
  unfold nod at this ⊢
  rw [g.2 22 (by decide) (by decide), g.2 23 (by decide) (by decide), g.2 24 (by decide) (by decide), g.2 25 (by decide) (by decide), g.2 26 (by decide) (by decide)]
  exact this
theorem r_write {nc : Nat} {L : List RU} {u0 : ST} {Q : ST → Prop} (hn : nc ≤ 16) (hok : okL nc L) (hT : mTr u0 0 L) (h21 : gI u0 21 = nI L.length) (hQ : ∀ v, wrF u0 v → gI v 33 = nI (csz L) → cdK (gR v 32) L L.length → Q v) : wX7_write u0 Q := by
  have h1000 := hok.2.1
  have h1997 := hok.2.2
  have L49 : ∀ (f k : Nat) (u : ST), L.length - k < f → k ≤ L.length → wrF u0 u → gI u 33 = nI (csz L) → (∀ j, j < L.length → gR u 27 j = nI (pls L j)) → cdK (gR u 32) L k → wX7_write_L49 Q f (nI k) u := by
    intro f
    induction f with
    | zero => intro k u h; omega
    | succ f ih =>
      intro k u hf hk hF h33 hp hcd
      show wX7_write_B49 (wX7_write_L49 Q f) Q (nI k) u
      unfold wX7_write_B49
      rw [hF.1 21 (by decide), h21]
      refine pk_le L.length k (fun hge => ?_) (fun hlt => ?_)
      · rw [show k = L.length by omega] at hcd
        exact hQ u hF h33 hcd
      · obtain ⟨z, hz⟩ : ∃ z, L[k]? = some z := ⟨_, List.getElem?_eq_getElem hlt⟩
        have ht := (hT.wr hF) k z hz
        rw [Nat.zero_add] at ht
        unfold nod at ht
        have hsz := pls_s L k z hz
        have hms := pls_mono (L := L) L.length (k + 1) (by omega) (Nat.le_refl _)
        have hcs : pls L L.length = csz L := rfl
        have hsz1 : 1 ≤ szN z := by unfold szN; split <;> omega
        have vk : vp_in (nI k) 1000 := vp_in_nI (by omega) (by omega)
        have e24 : ∀ (i : Nat) (x : Int32), gR (sR u 32 i x) 24 = gR u 24 := fun i x => by rw [gR_sR, if_neg (by decide)]
        have e27 : ∀ (i : Nat) (x : Int32), gR (sR u 32 i x) 27 = gR u 27 := fun i x => by rw [gR_sR, if_neg (by decide)]
        have f24 : ∀ (i j : Nat) (x y : Int32), gR (sR (sR u 32 i x) 32 j y) 24 = gR u 24 := fun i j x y => by rw [gR_sR, if_neg (by decide), gR_sR, if_neg (by decide)]
        have f27 : ∀ (i j : Nat) (x y : Int32), gR (sR (sR u 32 i x) 32 j y) 27 = gR u 27 := fun i j x y => by rw [gR_sR, if_neg (by decide), gR_sR, if_neg (by decide)]
        rw [cl_nI (show k < 2 ^ 31 by omega)]
        refine ⟨vk, vk, fun hge => ?_, fun hneg => ?_⟩
        · by_cases h0 : z.2.2 = 0
          · rw [ht.1.1, if_pos h0] at hge; exact absurd hge (by decide)
          · rw [if_neg h0] at ht
            have hko : k + z.2.2 < L.length := by
              rcases hok.1 k z hz with h | h
              · exact absurd h.1 h0
              · exact h.2.2.2
            have hz3 : szN z = 3 := by unfold szN; rw [if_neg h0]
            have hpo := pls_mono (L := L) L.length (k + z.2.2) (by omega) (Nat.le_refl _)
            rw [hp k hlt, ht.1.1]
            rw [show (2 : Int32) = nI 2 from rfl, nI_add, nI_1, cl_nI (show pls L k < 2 ^ 31 by omega), cl_nI (show pls L k + 1 < 2 ^ 31 by omega), cl_nI (show pls L k + 2 < 2 ^ 31 by omega)]
            rw [e24, e27, ht.2.2, if_neg h0, cl_nI (show k + z.2.2 < 2 ^ 31 by omega), hp _ hko, sh8 (by omega)]
            rw [f24, f27, ht.2.2, if_neg h0, cl_nI (show k + z.2.2 < 2 ^ 31 by omega), hp _ hko, an255]
            have vo : vp_in (nI (k + z.2.2)) 1000 := vp_in_nI (by omega) (by omega)
            refine ⟨vk, vp_in_nI (by omega) (by omega), vk, vo, vp_in_nI (by omega) (by omega), vk, vo, vp_in_nI (by omega) (by omega), ?_⟩
            unfold wX7_write_b149
            rw [nI_1]
            generalize hu3 : sR (sR (sR u 32 (pls L k) (nI z.1)) 32 (pls L k + 1) (nI (pls L (k + z.2.2) / 256))) 32 (pls L k + 2) (nI (pls L (k + z.2.2) % 256)) = u3
            have f32 : gR u3 32 = upd (upd (upd (gR u 32) (pls L k) (nI z.1)) (pls L k + 1) (nI (pls L (k + z.2.2) / 256))) (pls L k + 2) (nI (pls L (k + z.2.2) % 256)) := by
              rw [← hu3, gR_sR, if_pos rfl, gR_sR, if_pos rfl, gR_sR, if_pos rfl]
            refine ih (k + 1) u3 (by omega) (by omega) (by rw [← hu3]; exact ((hF.s (Or.inr rfl)).s (Or.inr rfl)).s (Or.inr rfl)) (by rw [← hu3]; exact h33) (fun j hj => ?_) (cdK_s hcd hz (fun q hq => by rw [f32, pk_un (by omega), pk_un (by omega), pk_un (by omega)]) (by rw [f32, pk_un (by omega), pk_un (by omega), pk_us]) (fun _ => by rw [f32]; exact ⟨by rw [pk_un (by omega), pk_us], by rw [pk_us]⟩))
            rw [← hu3, gR_sR, if_neg (by decide), f27]; exact hp j hj
        · by_cases h0 : z.2.2 = 0
          · rw [if_pos h0] at ht
            have hz1 : szN z = 1 := by unfold szN; rw [if_pos h0]
            have h128 : 128 ≤ z.1 := by
              rcases hok.1 k z hz with h | h
              · exact h.2.1
              · omega
            have e128 : (128 : Int32) + nI (z.1 - 128) = nI z.1 := by
              rw [show (128 : Int32) = nI 128 from rfl, nI_add, show 128 + (z.1 - 128) = z.1 by omega]
            rw [hp k hlt, cl_nI (show pls L k < 2 ^ 31 by omega), ht.1.2.1, if_pos h0, e128]
            refine ⟨vk, vp_in_nI (by omega) (by omega), ?_⟩
            unfold wX7_write_b149
            rw [nI_1]
            have f32 : gR (sR u 32 (pls L k) (nI z.1)) 32 = upd (gR u 32) (pls L k) (nI z.1) := by rw [gR_sR, if_pos rfl]
            refine ih (k + 1) _ (by omega) (by omega) (hF.s (Or.inr rfl)) h33 (fun j hj => by rw [e27]; exact hp j hj) (cdK_s hcd hz (fun q hq => by rw [f32, pk_un (by omega)]) (by rw [f32, pk_us]) (fun c => absurd h0 c))
          · rw [if_neg h0] at ht
            have hz16 : z.1 < 16 := by
              rcases hok.1 k z hz with h | h
              · exact absurd h.1 h0
              · omega
            exact absurd (by rw [ht.1.1]; exact nI_pos' (by omega)) hneg
  have L4 : ∀ (f k : Nat) (u : ST), L.length - k < f → k ≤ L.length → wrF u0 u → (∀ j, j < k → gR u 27 j = nI (pls L j)) → wX7_write_L4 Q f (nI (pls L k)) (nI k) u := by
    intro f
    induction f with
    | zero => intro k u h; omega
    | succ f ih =>
      intro k u hf hk hF hp
      show wX7_write_B4 (wX7_write_L4 Q f) Q (nI (pls L k)) (nI k) u
      unfold wX7_write_B4
      rw [hF.1 21 (by decide), h21]
      refine pk_le L.length k (fun hge => ?_) (fun hlt => ?_)
      · rw [show k = L.length by omega] at hp ⊢
        exact ⟨L.length + 1, L49 (L.length + 1) 0 _ (by omega) (by omega) hF.n (by rw [gI_sI, if_pos rfl]; rfl) (fun j hj => hp j hj) (fun i z hi => by omega)⟩
      · obtain ⟨z, hz⟩ : ∃ z, L[k]? = some z := ⟨_, List.getElem?_eq_getElem hlt⟩
        have ht := (hT.wr hF) k z hz
        rw [Nat.zero_add] at ht
        unfold nod at ht
        have vk : vp_in (nI k) 1000 := vp_in_nI (by omega) (by omega)
        rw [cl_nI (by omega), gR_sR, if_neg (by decide), ht.1.1]
        have go : ∀ n, szN z = n → wX7_write_b34 (wX7_write_L4 Q f) Q (nI k) (nI (pls L k)) (nI n) (sR u 27 k (nI (pls L k))) := by
          intro n hn'
          unfold wX7_write_b34
          rw [nI_add, nI_1, ← hn', ← pls_s L k z hz]
          refine ih (k + 1) _ (by omega) (by omega) (hF.s (Or.inl rfl)) (fun j hj => ?_)
          rw [gR_sR, if_pos rfl]
          by_cases he : j = k
          · rw [he, pk_us]
          · rw [pk_un he]; exact hp j (by omega)
        by_cases h0 : z.2.2 = 0
        · rw [if_pos h0]
          exact ⟨vk, vk, fun c => absurd c (by decide), fun _ => go 1 (by unfold szN; rw [if_pos h0])⟩
        · rw [if_neg h0]
          have hz16 : z.1 < 16 := by
            rcases hok.1 k z hz with h | h
            · exact absurd h.1 h0
            · omega
          exact ⟨vk, vk, fun _ => go 3 (by unfold szN; rw [if_neg h0]), fun c => absurd (nI_pos' (by omega)) c⟩
  have := L4 (L.length + 1) 0 u0 (by omega) (by omega) (wrF.rf u0) (fun j hj => by omega)
  rw [pls_0] at this
  exact ⟨L.length + 1, this⟩
