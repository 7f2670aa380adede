/-! ===== the reference's copies ===== -/
theorem X7_copies_ok {nc : Nat} (g : zG) (hn : g 32 0 5 = nI nc) (h4 : nc ≤ 4) : ∃ g1, X7_machine_l65 (fun (v2 : Int32) g => X7_machine_l99 (fun (v2 : Int32) g => X7_machine_l139 (fun (v2 : Int32) g => X7_machine_l178 zfuel v2 g) zfuel v2 g) zfuel v2 g) zfuel (nI 0) g = X7_machine_l99 (fun (v2 : Int32) g => X7_machine_l139 (fun (v2 : Int32) g => X7_machine_l178 zfuel v2 g) zfuel v2 g) zfuel (nI 0) g1 ∧ (∀ k, k < 6 → g1 31 0 k = g 32 0 k) ∧ g1 9007 0 0 = g 10007 0 0 ∧ ∀ f i j, f ≠ 31 → f ≠ 9007 → g1 f i j = g f i j := by
  refine loopN (M := fun n i h => X7_machine_l65 (fun (v2 : Int32) g => X7_machine_l99 (fun (v2 : Int32) g => X7_machine_l139 (fun (v2 : Int32) g => X7_machine_l178 zfuel v2 g) zfuel v2 g) zfuel v2 g) n (nI i) h) 6 (fun i h => (∀ k, k < i → h 31 0 k = g 32 0 k) ∧ ∀ f a j, f ≠ 31 → h f a j = g f a j) (fun o => ∃ g1, o = X7_machine_l99 (fun (v2 : Int32) g => X7_machine_l139 (fun (v2 : Int32) g => X7_machine_l178 zfuel v2 g) zfuel v2 g) zfuel (nI 0) g1 ∧ (∀ k, k < 6 → g1 31 0 k = g 32 0 k) ∧ g1 9007 0 0 = g 10007 0 0 ∧ ∀ f i j, f ≠ 31 → f ≠ 9007 → g1 f i j = g f i j) ?_ ?_ (i0 := 0) ⟨fun c hc => by omega, fun _ _ _ _ => rfl⟩ (by omega) (zfuel_ge (by omega))
  · rintro n i h hi ⟨h1, h2⟩
    left
    have e : h 32 0 i = g 32 0 i := h2 _ _ _ (by omega)
    refine ⟨zU h 31 0 i (g 32 0 i), ⟨fun c hc => ?_, fun f a j x => by rw [zU_ne _ _ (by omega)]; exact h2 f a j x⟩, ?_⟩
    · by_cases z : c = i
      · rw [z, zU_self]
      · rw [zU_ne _ _ (by omega)]; exact h1 c (by omega)
    · rw [X7_machine_l65.eq_2]
      simp (disch := omega) only [zc_some, zw_eq, zi_nI, nI_clamp, nI_add, nI_1, nI_lti, nI_inj, nI_ltz, nI_eq0, nI_0lt, nI_ne_m1, nI_ne_m2, nI_m1_ne, nI_m2_ne, if_true, if_false, zU_eq, zU_ne, Nat.add_zero, pk_mul, hi, e]
  · rintro n h ⟨h1, h2⟩
    rw [X7_machine_l65.eq_2, if_neg (by rw [nI_lti (by omega) (by omega)]; omega), zw_eq]
    exact ⟨_, rfl, fun k hk => by rw [zU_ne _ _ (by omega)]; exact h1 k hk, by rw [zU_self]; exact h2 _ _ _ (by omega), fun f i j x y => by rw [zU_ne _ _ (by omega)]; exact h2 f i j x⟩
