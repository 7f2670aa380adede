/-! ===== the reference's copies: words, deeds' counts ===== -/
theorem X7_words_ok (K : Int32 → zG → zR0) (g : zG) : ∃ g1, X7_machine_l99 K zfuel (nI 0) g = K (nI 0) g1 ∧ (∀ k, k < 64 → g1 33 0 k = if g 34 0 k = -1 then nI 0 else g 34 0 k) ∧ ∀ f i j, f ≠ 33 → g1 f i j = g f i j := by
  refine loopN (M := fun n i h => X7_machine_l99 K n (nI i) h) 64 (fun i h => (∀ k, k < i → h 33 0 k = if g 34 0 k = -1 then nI 0 else g 34 0 k) ∧ ∀ f a j, f ≠ 33 → h f a j = g f a j) (fun o => ∃ g1, o = K (nI 0) g1 ∧ (∀ k, k < 64 → g1 33 0 k = if g 34 0 k = -1 then nI 0 else g 34 0 k) ∧ ∀ f i j, f ≠ 33 → g1 f i j = g f i j) ?_ ?_ (i0 := 0) ⟨fun c hc => by omega, fun _ _ _ _ => rfl⟩ (by omega) (zfuel_ge (by omega))
  · rintro n i h hi ⟨h1, h2⟩
    left
    have e : h 34 0 i = g 34 0 i := h2 _ _ _ (by omega)
    have ecl : (nI i).toNatClampNeg = i := nI_clamp (by omega)
    refine ⟨zU h 33 0 i (if g 34 0 i = -1 then nI 0 else g 34 0 i), ⟨fun c hc => ?_, fun f a j x => by rw [zU_ne _ _ (by omega)]; exact h2 f a j x⟩, ?_⟩
    · by_cases z : c = i
      · rw [z, zU_self]
      · rw [zU_ne _ _ (by omega)]; exact h1 c (by omega)
    · rw [X7_machine_l99.eq_2, if_pos (show nI i < nI 64 by rw [nI_lti (by omega) (by omega)]; exact hi), zi_nI hi (by omega), zi_nI hi (by omega), ecl, e]
      unfold X7_machine_b130
      rw [zi_nI hi (by omega), zi_nI hi (by omega), ecl, zw_eq, zw_eq, nI_add]
      split <;> rfl
  · rintro n h ⟨h1, h2⟩
    rw [X7_machine_l99.eq_2, if_neg (by rw [nI_lti (by omega) (by omega)]; omega)]
    exact ⟨h, rfl, h1, h2⟩
