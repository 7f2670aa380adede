/-! ===== machine answers alike ===== -/
theorem q_machine {gc gm : zG} (h : INV gc gm) (v : Int32) : Alike (X6_machine v gc) (X7_machine v gm) := by
  obtain ⟨⟨⟨t, b1, b2, b3⟩, b4, -⟩, -⟩ := id h
  unfold X6_machine X7_machine
  rw [X7_anew_eq, aN_ne _ (by omega) (by omega) (by omega), b2, b3]
  rcases within_cases v (a := 0) (n := t) (by omega) (by omega) with hw | ⟨j, j1, j2, rfl, hw⟩
  · rw [(hw gc).1, (hw (aN gm)).2, zc_some, zc_some, ite0, ite0]
    exact no_alike h (Or.inr (Or.inl rfl))
  · rw [(hw gc).1, (hw (aN gm)).2, zc_some, zc_some, ite1, ite1, zw_eq, zw_eq, zw_eq]
    obtain ⟨C, hC⟩ : ∃ C, C = zU gc 2000 0 0 (nI 0) := ⟨_, rfl⟩
    obtain ⟨M, hM⟩ : ∃ M, M = zU (zU (aN gm) 6007 0 0 (nI 0)) 3007 0 0 (nI 0) := ⟨_, rfl⟩
    rw [← hC, ← hM]
    have oC : ∀ f i j, f ≠ 2000 → C f i j = gc f i j := fun f i j x => by rw [hC, zU_ne _ _ (by omega)]
    have oM : ∀ f i j, f ≠ 6007 → f ≠ 3007 → f ≠ 1007 → f ≠ 2007 → f ≠ 4007 → M f i j = gm f i j := fun f i j x1 x2 x3 x4 x5 => by rw [hM, zU_ne _ _ (by omega), zU_ne _ _ (by omega), aN_ne _ x3 x4 x5]
    have bytes : ∃ B : Nat → Nat, ∀ k, k < 900 → C 10 0 k = nI (B k) ∧ M 30 0 k = nI (B k) ∧ B k < 256 := by
      refine ⟨fun k => if hk : k < 900 then Classical.choose (b4 k hk).2 else 0, fun k hk => ?_⟩
      obtain ⟨q1, q2⟩ := Classical.choose_spec (b4 k hk).2
      simp only [dif_pos hk]
      rw [oC _ _ _ (by omega), oM _ _ _ (by omega) (by omega) (by omega) (by omega) (by omega)]
      exact ⟨(b4 k hk).1.trans q2, q2, q1⟩
    obtain ⟨B, hB⟩ := bytes
    rcases text_ok (v := j) (by omega) hB with ⟨c1, m1, y1, y2, y3, y4, y5, y6⟩ | ⟨nc, c1, m1, n4, y1, y2, y3, y4, y5⟩
    · rw [y1, y2, zc_some, zc_some, ite0, if_pos rfl, zw_eq, zw_eq, zw_eq]
      unfold X6_refuse X7_no
      rw [zw_eq, zw_eq, zc_some, zc_some]
      refine ⟨_, _, _, rfl, rfl, INV_fail h (fun f i j x1 x2 x3 x4 x5 => ?_) (fun f i j x1 x2 x3 x4 x5 x6 => ?_) ?_ ?_ ?_ ?_ ?_⟩
      · rw [zU_ne _ _ (by omega), zU_ne _ _ (by omega), y3 f i j x4 x5, oC _ _ _ x1]
      · rw [zU_ne _ _ (by omega), zU_ne _ _ (by omega), zU_ne _ _ (by omega), y4 f i j x6, oM _ _ _ x5 x3 x1 x2 x4]
      · rw [zU_ne _ _ (by omega), zU_ne _ _ (by omega), y3 2000 0 0 (by omega) (by omega), hC, zU_self]
      · rw [zU_ne _ _ (by omega), zU_ne _ _ (by omega), zU_ne _ _ (by omega), y4 6007 0 0 (by omega), hM, zU_ne _ _ (by omega), zU_self]
      · rw [zU_ne _ _ (by omega), zU_self, zU_ne _ _ (by omega), zU_ne _ _ (by omega), zU_self]; exact y5
      · rw [zU_self, zU_self]
      · intro _
        rw [zU_ne _ _ (by omega), zU_ne _ _ (by omega), zU_ne _ _ (by omega), zU_self, zU_ne _ _ (by omega)]; exact y6
    · rw [y1, y2, zc_some, zc_some, ite1, if_neg (show ¬ nI nc = -1 by rw [nI_ne_m1 (by omega)]; exact id)]
      obtain ⟨c2, m2, z1, z2, z3⟩ := told_start y5 n4 (fun k hk => by
          rw [y3 10 0 k (by omega) (by omega), y4 30 0 k (by omega), oC _ _ _ (by omega), oM _ _ _ (by omega) (by omega) (by omega) (by omega) (by omega)]; exact b4 k hk)
        (by rw [y3 2000 0 0 (by omega) (by omega), hC, zU_self]) (by rw [y4 6007 0 0 (by omega), hM, zU_ne _ _ (by omega), zU_self]) (by rw [y4 3007 0 0 (by omega), hM, zU_self]) (by rw [y4 2007 0 0 (by omega), hM, zU_ne _ _ (by omega), zU_ne _ _ (by omega), aN_2007])
      exact ⟨_, c2, m2, z1, z2, z3⟩
