/-! ===== the reference's copies: the deeds' counts ===== -/
theorem X7_lens_ok {nc : Nat} (K : Int32 → zG → zR0) (g : zG) (hn : g 31 0 5 = nI nc) (h4 : nc ≤ 4) : ∃ g1, X7_machine_l139 K zfuel (nI 0) g = K (nI 0) g1 ∧ (∀ k, k < 4 → g1 35 0 k = if k < nc then g 36 0 k else nI 0) ∧ ∀ f i j, f ≠ 35 → g1 f i j = g f i j := by
  have c5 : (nI 5).toNatClampNeg = 5 := nI_clamp (by omega)
  refine loopN (M := fun n i h => X7_machine_l139 K n (nI i) h) 4 (fun i h => (∀ k, k < i → h 35 0 k = if k < nc then g 36 0 k else nI 0) ∧ ∀ f a j, f ≠ 35 → h f a j = g f a j) (fun o => ∃ g1, o = K (nI 0) g1 ∧ (∀ k, k < 4 → g1 35 0 k = if k < nc then g 36 0 k else nI 0) ∧ ∀ f i j, f ≠ 35 → g1 f i j = g f i j) ?_ ?_ (i0 := 0) ⟨fun c hc => by omega, fun _ _ _ _ => rfl⟩ (by omega) (zfuel_ge (by omega))
  · rintro n i h hi ⟨h1, h2⟩
    left
    have e : h 36 0 i = g 36 0 i := h2 _ _ _ (by omega)
    have e5 : h 31 0 5 = nI nc := by rw [h2 _ _ _ (by omega)]; exact hn
    have ecl : (nI i).toNatClampNeg = i := nI_clamp (by omega)
    refine ⟨zU h 35 0 i (if i < nc then g 36 0 i else nI 0), ⟨fun c hc => ?_, fun f a j x => by rw [zU_ne _ _ (by omega)]; exact h2 f a j x⟩, ?_⟩
    · by_cases z : c = i
      · rw [z, zU_self]
      · rw [zU_ne _ _ (by omega)]; exact h1 c (by omega)
    · rw [X7_machine_l139.eq_2, if_pos (show nI i < nI 4 by rw [nI_lti (by omega) (by omega)]; exact hi), zi_nI (by omega) (by omega), c5, e5, zi_nI hi (by omega), ecl, e]
      unfold X7_machine_b169
      rw [zi_nI hi (by omega), zi_nI hi (by omega), ecl, zw_eq, zw_eq, nI_add]
      by_cases z : i < nc
      · rw [if_pos z, if_pos (show nI i < nI nc by rw [nI_lti (by omega) (by omega)]; exact z)]
      · rw [if_neg z, if_neg (show ¬ nI i < nI nc by rw [nI_lti (by omega) (by omega)]; exact z)]
  · rintro n h ⟨h1, h2⟩
    rw [X7_machine_l139.eq_2, if_neg (by rw [nI_lti (by omega) (by omega)]; omega)]
    exact ⟨h, rfl, h1, h2⟩
