/-! ===== leaves: the class' caches ===== -/
theorem X0_dropLine_ok (r p : Nat) (g : zG) (hp : p < 16) : X0_dropLine r (nI p) g = some (0, zU (zU (zU (zU (zU g 22 r p (-2)) 23 r p (nI 0)) 24 r p (nI 0)) 25 r p (nI 0)) 26 r p (-2)) := by
  unfold X0_dropLine
  simp (disch := omega) only [zc_some, zw_eq, zi_nI, nI_clamp, nI_add, nI_1, nI_lti, nI_inj, nI_ltz, nI_eq0, nI_0lt, nI_ne_m1, nI_ne_m2, nI_m1_ne, nI_m2_ne, if_true, if_false, zU_eq, zU_ne, Nat.add_zero, pk_mul, hp]
theorem X0_find_ok (r : Nat) (v : Int32) (g : zG) : ∃ x, X0_find r v g = some (x, g) ∧ ((x = -1 ∧ ∀ p, p < 16 → g 22 r p ≠ v) ∨ ∃ p, p < 16 ∧ x = nI p ∧ g 22 r p = v ∧ ∀ q, q < p → g 22 r q ≠ v) := by
  unfold X0_find
  refine loopN (M := fun n i g => X0_find_l2 n r v (nI i) g) 16 (fun i h => h = g ∧ ∀ q, q < i → g 22 r q ≠ v) (fun o => ∃ x, o = some (x, g) ∧ ((x = -1 ∧ ∀ p, p < 16 → g 22 r p ≠ v) ∨ ∃ p, p < 16 ∧ x = nI p ∧ g 22 r p = v ∧ ∀ q, q < p → g 22 r q ≠ v)) ?_ ?_ (i0 := 0) (g0 := g) ⟨rfl, fun q h => by omega⟩ (by omega) (zfuel_ge (by omega))
  · rintro n i h hi ⟨he, h2⟩
    rw [X0_find_l2.eq_2, he]
    simp (disch := omega) only [zc_some, zw_eq, zi_nI, nI_clamp, nI_add, nI_1, nI_lti, nI_inj, nI_ltz, nI_eq0, nI_0lt, nI_ne_m1, nI_ne_m2, nI_m1_ne, nI_m2_ne, if_true, if_false, zU_eq, zU_ne, Nat.add_zero, pk_mul, hi]
    by_cases e : g 22 r i = v
    · right
      rw [if_pos e]
      exact ⟨_, rfl, Or.inr ⟨i, hi, rfl, e, h2⟩⟩
    · left
      rw [if_neg e]
      refine ⟨g, ⟨rfl, fun q hq => ?_⟩, rfl⟩
      by_cases hqi : q = i
      · rw [hqi]; exact e
      · exact h2 q (by omega)
  · rintro n h ⟨he, h2⟩
    rw [X0_find_l2.eq_2, he]
    simp (disch := omega) only [zc_some, zw_eq, zi_nI, nI_clamp, nI_add, nI_1, nI_lti, nI_inj, nI_ltz, nI_eq0, nI_0lt, nI_ne_m1, nI_ne_m2, nI_m1_ne, nI_m2_ne, if_true, if_false, zU_eq, zU_ne, Nat.add_zero, pk_mul, Nat.lt_irrefl]
    exact ⟨_, rfl, Or.inl ⟨rfl, h2⟩⟩
