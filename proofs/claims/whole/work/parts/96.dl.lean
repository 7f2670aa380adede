/-! ===== the reference's copies: the deeds; all from the beginning ===== -/
theorem X7_deeds_ok (g : zG) : ∃ g1, X7_machine_l178 zfuel (nI 0) g = some (g 31 0 5, g1) ∧ (∀ k, k < 96 → g1 37 0 k = g 38 0 k ∧ g1 39 0 k = g 40 0 k ∧ g1 41 0 k = g 42 0 k) ∧ g1 21007 0 0 = nI 1 ∧ g1 34007 0 0 = nI 0 ∧ g1 35007 0 0 = g 31 0 3 ∧ g1 36007 0 0 = g 31 0 4 ∧ g1 37007 0 0 = g 31 0 1 ∧ BegM (g 33 0) (g1 43 0) ∧ ∀ f i j, f ≠ 37 → f ≠ 39 → f ≠ 41 → f ≠ 43 → f ≠ 21007 → f ≠ 34007 → f ≠ 35007 → f ≠ 36007 → f ≠ 37007 → g1 f i j = g f i j := by
  have c5 : (nI 5).toNatClampNeg = 5 := nI_clamp (by omega)
  refine loopN (M := fun n i h => X7_machine_l178 n (nI i) h) 96 (fun i h => (∀ k, k < i → h 37 0 k = g 38 0 k ∧ h 39 0 k = g 40 0 k ∧ h 41 0 k = g 42 0 k) ∧ ∀ f a j, f ≠ 37 → f ≠ 39 → f ≠ 41 → h f a j = g f a j) (fun o => ∃ g1, o = some (g 31 0 5, g1) ∧ (∀ k, k < 96 → g1 37 0 k = g 38 0 k ∧ g1 39 0 k = g 40 0 k ∧ g1 41 0 k = g 42 0 k) ∧ g1 21007 0 0 = nI 1 ∧ g1 34007 0 0 = nI 0 ∧ g1 35007 0 0 = g 31 0 3 ∧ g1 36007 0 0 = g 31 0 4 ∧ g1 37007 0 0 = g 31 0 1 ∧ BegM (g 33 0) (g1 43 0) ∧ ∀ f i j, f ≠ 37 → f ≠ 39 → f ≠ 41 → f ≠ 43 → f ≠ 21007 → f ≠ 34007 → f ≠ 35007 → f ≠ 36007 → f ≠ 37007 → g1 f i j = g f i j) ?_ ?_ (i0 := 0) ⟨fun c hc => by omega, fun _ _ _ _ _ _ => rfl⟩ (by omega) (zfuel_ge (by omega))
  · rintro n i h hi ⟨h1, h2⟩
    left
    have e38 : h 38 0 i = g 38 0 i := h2 _ _ _ (by omega) (by omega) (by omega)
    have e40 : h 40 0 i = g 40 0 i := h2 _ _ _ (by omega) (by omega) (by omega)
    have e42 : h 42 0 i = g 42 0 i := h2 _ _ _ (by omega) (by omega) (by omega)
    refine ⟨zU (zU (zU h 37 0 i (g 38 0 i)) 39 0 i (g 40 0 i)) 41 0 i (g 42 0 i), ⟨fun k hk => ?_, fun f a j x y z => by rw [zU_ne _ _ (by omega), zU_ne _ _ (by omega), zU_ne _ _ (by omega)]; exact h2 f a j x y z⟩, ?_⟩
    · by_cases z : k = i
      · rw [z]
        refine ⟨?_, ?_, ?_⟩ <;> simp (disch := omega) only [zU_ne, zU_eq]
      · simp (disch := omega) only [zU_ne]
        exact h1 k (by omega)
    · rw [X7_machine_l178.eq_2]
      simp (disch := omega) only [zc_some, zw_eq, zi_nI, nI_clamp, nI_add, nI_1, nI_lti, nI_inj, nI_ltz, nI_eq0, nI_0lt, nI_ne_m1, nI_ne_m2, nI_m1_ne, nI_m2_ne, if_true, if_false, zU_eq, zU_ne, Nat.add_zero, pk_mul, hi, e38, e40, e42]
  · rintro n h ⟨h1, h2⟩
    rw [X7_machine_l178.eq_2, if_neg (by rw [nI_lti (by omega) (by omega)]; omega), zw_eq, zw_eq]
    obtain ⟨G, hG⟩ : ∃ G, G = zU (zU h 21007 0 0 (nI 1)) 34007 0 0 (nI 0) := ⟨_, rfl⟩
    rw [← hG]
    have F1 : ∀ f i j, f ≠ 21007 → f ≠ 34007 → G f i j = h f i j := fun f i j x y => by rw [hG, zU_ne _ _ (by omega), zU_ne _ _ (by omega)]
    obtain ⟨G2, hG2⟩ : ∃ G2, G2 = zU (zU (zU G 35007 0 0 (G 31 0 3)) 36007 0 0 (G 31 0 4)) 37007 0 0 (G 31 0 1) := ⟨_, rfl⟩
    have F2 : ∀ f i j, f ≠ 35007 → f ≠ 36007 → f ≠ 37007 → G2 f i j = G f i j := fun f i j x y z => by rw [hG2, zU_ne _ _ (by omega), zU_ne _ _ (by omega), zU_ne _ _ (by omega)]
    have a : X7_asTold G = some (0, G2) := by
      unfold X7_asTold
      simp (disch := omega) only [zw_eq, zi_nI, nI_clamp, zU_ne]
      rw [← hG2]
    obtain ⟨g', y1, y2, y3⟩ := X7_begins_ok G2
    rw [a, zc_some, y1, zc_some, zi_nI (by omega) (by omega), c5]
    have F3 : ∀ f i j, f ≠ 43 → f ≠ 35007 → f ≠ 36007 → f ≠ 37007 → f ≠ 21007 → f ≠ 34007 → g' f i j = h f i j := fun f i j x1 x2 x3 x4 x5 x6 => by rw [y3 _ _ _ x1, F2 _ _ _ x2 x3 x4, F1 _ _ _ x5 x6]
    have e33 : G2 33 0 = g 33 0 := funext (fun k => by rw [F2 _ _ _ (by omega) (by omega) (by omega), F1 _ _ _ (by omega) (by omega), h2 _ _ _ (by omega) (by omega) (by omega)])
    have e31 : ∀ k, G 31 0 k = g 31 0 k := fun k => by rw [F1 _ _ _ (by omega) (by omega), h2 _ _ _ (by omega) (by omega) (by omega)]
    refine ⟨g', ?_, fun k hk => ?_, ?_, ?_, ?_, ?_, ?_, by rw [← e33]; exact y2, fun f i j x1 x2 x3 x4 x5 x6 x7 x8 x9 => ?_⟩
    · rw [F3 _ _ _ (by omega) (by omega) (by omega) (by omega) (by omega) (by omega), h2 _ _ _ (by omega) (by omega) (by omega)]
    · rw [F3 _ _ _ (by omega) (by omega) (by omega) (by omega) (by omega) (by omega), F3 _ _ _ (by omega) (by omega) (by omega) (by omega) (by omega) (by omega), F3 _ _ _ (by omega) (by omega) (by omega) (by omega) (by omega) (by omega)]
      exact h1 k hk
    · rw [y3 _ _ _ (by omega), F2 _ _ _ (by omega) (by omega) (by omega), hG]
      simp (disch := omega) only [zU_ne, zU_eq]
    · rw [y3 _ _ _ (by omega), F2 _ _ _ (by omega) (by omega) (by omega), hG]
      simp (disch := omega) only [zU_ne, zU_eq]
    · rw [y3 _ _ _ (by omega), hG2, ← e31]
      simp (disch := omega) only [zU_ne, zU_eq]
    · rw [y3 _ _ _ (by omega), hG2, ← e31]
      simp (disch := omega) only [zU_ne, zU_eq]
    · rw [y3 _ _ _ (by omega), hG2, ← e31]
      simp (disch := omega) only [zU_ne, zU_eq]
    · rw [F3 _ _ _ x4 x7 x8 x9 x5 x6, h2 _ _ _ x1 x2 x3]
