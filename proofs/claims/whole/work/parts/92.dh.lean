/-! ===== the plan copied ===== -/
theorem X2_copyFrom_ok (g : zG) : ∃ g', X2_copyFrom 0 1 g = some (0, g') ∧ (∀ f, f = 1001 ∨ f = 2001 ∨ f = 3001 ∨ f = 4001 ∨ f = 5001 ∨ f = 6001 ∨ f = 7001 → g' f 0 0 = g f 1 0) ∧ (∀ j, j < 4 → g' 11 0 j = g 11 1 j) ∧ (∀ f j, f = 12 ∨ f = 13 → j < 96 → g' f 0 j = g f 1 j) ∧ (∀ j, j < 64 → g' 15 0 j = g 15 1 j) ∧ (∀ j, j < 96 → g' 14 0 j = vp_nar .boolean (g 14 1 j)) ∧ ∀ f i j, ¬ (i = 0 ∧ ((1001 ≤ f ∧ f ≤ 7001 ∧ f % 1000 = 1) ∨ (11 ≤ f ∧ f ≤ 16))) → g' f i j = g f i j := by
  unfold X2_copyFrom
  simp only [zw_eq, zcq_eq]
  obtain ⟨G1, hG1⟩ : ∃ G1, G1 = zU (zU (zU (zU (zU (zU (zU g 1001 0 0 (g 1001 1 0)) 2001 0 0 (g 2001 1 0)) 3001 0 0 (g 3001 1 0)) 4001 0 0 (g 4001 1 0)) 5001 0 0 (g 5001 1 0)) 6001 0 0 (g 6001 1 0)) 7001 0 0 (g 7001 1 0) := ⟨_, rfl⟩
  have e1 : ∀ f j, (zU g 1001 0 0 (g 1001 1 0)) f 1 j = g f 1 j := fun f j => zU_ne _ _ (by omega)
  have e2 : ∀ f j, (zU (zU g 1001 0 0 (g 1001 1 0)) 2001 0 0 (g 2001 1 0)) f 1 j = g f 1 j := fun f j => by rw [zU_ne _ _ (by omega)]; exact e1 f j
  have e3 : ∀ f j, (zU (zU (zU g 1001 0 0 (g 1001 1 0)) 2001 0 0 (g 2001 1 0)) 3001 0 0 (g 3001 1 0)) f 1 j = g f 1 j := fun f j => by rw [zU_ne _ _ (by omega)]; exact e2 f j
  have e4 : ∀ f j, (zU (zU (zU (zU g 1001 0 0 (g 1001 1 0)) 2001 0 0 (g 2001 1 0)) 3001 0 0 (g 3001 1 0)) 4001 0 0 (g 4001 1 0)) f 1 j = g f 1 j := fun f j => by rw [zU_ne _ _ (by omega)]; exact e3 f j
  have e5 : ∀ f j, (zU (zU (zU (zU (zU g 1001 0 0 (g 1001 1 0)) 2001 0 0 (g 2001 1 0)) 3001 0 0 (g 3001 1 0)) 4001 0 0 (g 4001 1 0)) 5001 0 0 (g 5001 1 0)) f 1 j = g f 1 j := fun f j => by rw [zU_ne _ _ (by omega)]; exact e4 f j
  have e6 : ∀ f j, (zU (zU (zU (zU (zU (zU g 1001 0 0 (g 1001 1 0)) 2001 0 0 (g 2001 1 0)) 3001 0 0 (g 3001 1 0)) 4001 0 0 (g 4001 1 0)) 5001 0 0 (g 5001 1 0)) 6001 0 0 (g 6001 1 0)) f 1 j = g f 1 j := fun f j => by rw [zU_ne _ _ (by omega)]; exact e5 f j
  rw [e1, e2, e3, e4, e5, e6, ← hG1]
  obtain ⟨G, hG⟩ : ∃ G, G = zcp (zcp (zcp (zcp G1 11 0 11 1 4) 12 0 12 1 96) 13 0 13 1 96) 15 0 15 1 64 := ⟨_, rfl⟩
  rw [← hG]
  have o1 : ∀ f i j, ¬ (i = 0 ∧ (1001 ≤ f ∧ f ≤ 7001 ∧ f % 1000 = 1)) → G1 f i j = g f i j := fun f i j x => by
    rw [hG1, zU_ne _ _ (by omega), zU_ne _ _ (by omega), zU_ne _ _ (by omega), zU_ne _ _ (by omega), zU_ne _ _ (by omega), zU_ne _ _ (by omega), zU_ne _ _ (by omega)]
  have o2 : ∀ f i j, ¬ (i = 0 ∧ (f = 11 ∨ f = 12 ∨ f = 13 ∨ f = 15)) → G f i j = G1 f i j := fun f i j x => by
    rw [hG, zcp_ne _ (by omega), zcp_ne _ (by omega), zcp_ne _ (by omega), zcp_ne _ (by omega)]
  have v1 : ∀ f, f = 1001 ∨ f = 2001 ∨ f = 3001 ∨ f = 4001 ∨ f = 5001 ∨ f = 6001 ∨ f = 7001 → G f 0 0 = g f 1 0 := fun f x => by
    rw [o2 _ _ _ (by omega), hG1]
    rcases x with rfl | rfl | rfl | rfl | rfl | rfl | rfl <;> simp (disch := omega) only [zU_ne, zU_eq]
  have v2 : ∀ j, j < 4 → G 11 0 j = g 11 1 j := fun j hj => by
    rw [hG, zcp_ne _ (by omega), zcp_ne _ (by omega), zcp_ne _ (by omega), zcp_at _ hj, o1 _ _ _ (by omega)]
  have v3 : ∀ f j, f = 12 ∨ f = 13 → j < 96 → G f 0 j = g f 1 j := fun f j x hj => by
    rcases x with rfl | rfl
    · rw [hG, zcp_ne _ (by omega), zcp_ne _ (by omega), zcp_at _ hj, zcp_ne _ (by omega), o1 _ _ _ (by omega)]
    · rw [hG, zcp_ne _ (by omega), zcp_at _ hj, zcp_ne _ (by omega), zcp_ne _ (by omega), o1 _ _ _ (by omega)]
  have v4 : ∀ j, j < 64 → G 15 0 j = g 15 1 j := fun j hj => by
    rw [hG, zcp_at _ hj, zcp_ne _ (by omega), zcp_ne _ (by omega), zcp_ne _ (by omega), o1 _ _ _ (by omega)]
  refine loopN (M := fun n i h => X2_copyFrom_l117 n 0 1 (nI i) h) 96 (fun i h => (∀ j, j < i → h 14 0 j = vp_nar .boolean (g 14 1 j)) ∧ (∀ f a j, ¬ (f = 14 ∧ a = 0) → h f a j = G f a j)) (fun o => ∃ g', o = some (0, g') ∧ (∀ f, f = 1001 ∨ f = 2001 ∨ f = 3001 ∨ f = 4001 ∨ f = 5001 ∨ f = 6001 ∨ f = 7001 → g' f 0 0 = g f 1 0) ∧ (∀ j, j < 4 → g' 11 0 j = g 11 1 j) ∧ (∀ f j, f = 12 ∨ f = 13 → j < 96 → g' f 0 j = g f 1 j) ∧ (∀ j, j < 64 → g' 15 0 j = g 15 1 j) ∧ (∀ j, j < 96 → g' 14 0 j = vp_nar .boolean (g 14 1 j)) ∧ ∀ f i j, ¬ (i = 0 ∧ ((1001 ≤ f ∧ f ≤ 7001 ∧ f % 1000 = 1) ∨ (11 ≤ f ∧ f ≤ 16))) → g' f i j = g f i j) ?_ ?_ (i0 := 0) ⟨fun c hc => by omega, fun _ _ _ _ => rfl⟩ (by omega) (zfuel_ge (by omega))
  · rintro n i h hi ⟨h1, h2⟩
    left
    have e14 : h 14 1 i = g 14 1 i := by rw [h2 _ _ _ (by omega), o2 _ _ _ (by omega), o1 _ _ _ (by omega)]
    refine ⟨zU h 14 0 i (vp_nar .boolean (g 14 1 i)), ⟨fun c hc => ?_, fun f a j x => by rw [zU_ne _ _ (by omega)]; exact h2 f a j x⟩, ?_⟩
    · by_cases z : c = i
      · rw [z, zU_self]
      · rw [zU_ne _ _ (by omega)]; exact h1 c (by omega)
    · rw [X2_copyFrom_l117.eq_2]
      simp (disch := omega) only [zc_some, zw_eq, zi_nI, nI_clamp, nI_add, nI_1, nI_lti, nI_inj, nI_ltz, nI_eq0, nI_0lt, nI_ne_m1, nI_ne_m2, nI_m1_ne, nI_m2_ne, if_true, if_false, zU_eq, zU_ne, Nat.add_zero, pk_mul, hi, e14]
  · rintro n h ⟨h1, h2⟩
    rw [X2_copyFrom_l117.eq_2]
    simp (disch := omega) only [zc_some, zw_eq, zi_nI, nI_clamp, nI_add, nI_1, nI_lti, nI_inj, nI_ltz, nI_eq0, nI_0lt, nI_ne_m1, nI_ne_m2, nI_m1_ne, nI_m2_ne, if_true, if_false, zU_eq, zU_ne, Nat.add_zero, pk_mul, Nat.lt_irrefl]
    refine ⟨h, rfl, fun f x => ?_, fun j hj => ?_, fun f j x hj => ?_, fun j hj => ?_, h1, fun f i j x => ?_⟩
    · rw [h2 _ _ _ (by omega)]; exact v1 f x
    · rw [h2 _ _ _ (by omega)]; exact v2 j hj
    · rw [h2 _ _ _ (by omega)]; exact v3 f j x hj
    · rw [h2 _ _ _ (by omega)]; exact v4 j hj
    · rw [h2 _ _ _ (by omega), o2 _ _ _ (by omega), o1 _ _ _ (by omega)]
