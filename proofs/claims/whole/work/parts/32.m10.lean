/-! ===== an end: the reference commits ===== -/
/-- a core's marks gone, all else as it was -/
def CmR (S W c s0 w0 : Nat) (m m' : Rw) : Prop :=
  (∀ s w, s < S → w < W → (s < s0 ∨ (s = s0 ∧ w < w0)) → m' (pos c s w + 2) = nI 0 ∧ m' (pos c s w + 3) = nI 0) ∧
  ∀ i, (∀ s w, s < S → w < W → i ≠ pos c s w + 2 ∧ i ≠ pos c s w + 3) → m' i = m i
theorem CmR_step {S W c s w : Nat} {m m' : Rw} (hs : s < S) (hw : w < W) (h : CmR S W c s w m m') : CmR S W c s (w + 1) m (upd (upd m' (pos c s w + 2) (nI 0)) (pos c s w + 3) (nI 0)) := by
  refine ⟨fun s' w' a1 a2 a3 => ?_, fun i hi => ?_⟩
  · by_cases e : s' = s ∧ w' = w
    · obtain ⟨rfl, rfl⟩ := e
      refine ⟨?_, upd_eq rfl⟩
      rw [upd_ne (by omega), upd_eq rfl]
    · have hz := h.1 s' w' a1 a2 (by omega)
      unfold upd
      refine ⟨?_, ?_⟩
      · split
        · rfl
        · split
          · rfl
          · exact hz.1
      · split
        · rfl
        · split
          · rfl
          · exact hz.2
  · rw [upd_ne (hi s w hs hw).2, upd_ne (hi s w hs hw).1]
    exact h.2 i hi
/-- the tries' part is through: what an end writes -/
def rCmt (c n : Nat) (m : Rw) : Rw :=
  upd (upd (upd (upd (upd (upd (upd (upd (upd (if m (cat c 3) = nI 2 then upd (upd m 5 (-2)) (cat c 12) (m (cat c 12) + nI 1) else m) (62 + 4 * n) (nI c)) (62 + 4 * n + 1) (m (cat c 6))) (62 + 4 * n + 2) (m 0)) (62 + 4 * n + 3) (if m (cat c 3) = nI 2 then nI 1 else nI 0)) 4 (nI (n + 1))) (cat c 11) (m (cat c 11) + nI 1)) (cat c 4) (nI 0)) (cat c 5) (-2)) (cat c 3) (nI 0)
theorem X7_cmt_ok {c n : Nat} {g : zG} (hc : c < 4) (hn : n < 48) (h4 : g 43 0 4 = nI n) : ∃ g', X7_commits_b81 (nI c) (if g 43 0 (cat c 3) = nI 2 then nI 1 else nI 0) g = some (0, g') ∧ g' 43 0 = rCmt c n (g 43 0) ∧ FrN g g' := by
  have hx : 6 + 14 * c + 13 < 62 := by omega
  by_cases e : g 43 0 (cat c 3) = nI 2
  · rw [if_pos e]
    unfold X7_commits_b81 X7_commits_b109 X7_commits_b177
    simp (disch := omega) only [zc_some, zw_eq, zi_nI, nI_clamp, nI_add, nI_1, nI_lti, nI_inj, nI_ltz, nI_eq0, nI_0lt, nI_ne_m1, nI_ne_m2, nI_m1_ne, nI_m2_ne, if_true, if_false, zU_eq, zU_ne, Nat.add_zero, pk_mul, show ¬ (1 = 0) by omega, X7_coreAt_ok, cat, h4]
    refine ⟨_, rfl, ?_, by repeat (first | exact FrN.rfl' _ | apply FrN.row)⟩
    simp only [zU_row]
    unfold rCmt
    rw [if_pos e, if_pos e]
    simp only [cat, Nat.add_zero]
  · rw [if_neg e]
    unfold X7_commits_b81 X7_commits_b109 X7_commits_b177
    simp (disch := omega) only [zc_some, zw_eq, zi_nI, nI_clamp, nI_add, nI_1, nI_lti, nI_inj, nI_ltz, nI_eq0, nI_0lt, nI_ne_m1, nI_ne_m2, nI_m1_ne, nI_m2_ne, if_true, if_false, zU_eq, zU_ne, Nat.add_zero, pk_mul, X7_coreAt_ok, cat, h4]
    refine ⟨_, rfl, ?_, by repeat (first | exact FrN.rfl' _ | apply FrN.row)⟩
    simp only [zU_row]
    unfold rCmt
    rw [if_neg e, if_neg e]
    simp only [cat, Nat.add_zero]
theorem X7_commits_ok {S W PL NC : Nat} {g : zG} (hP : MPar S W PL NC g) {c n : Nat} (hc : c < 4) (hn : n < 48) (h4 : g 43 0 4 = nI n) : ∃ g' m1, X7_commits (nI c) g = some (0, g') ∧ CmR S W c S 0 (g 43 0) m1 ∧ g' 43 0 = rCmt c n m1 ∧ FrN g g' := by
  obtain ⟨⟨p1, p2, p3, p4, p5, p6, p7, p8⟩, q1, q2, q3, q4⟩ := hP
  unfold X7_commits
  refine loopN (M := fun n i h => X7_commits_l2 (fun (v1 : Int32) (s0 : Int32) g => X7_commits_b81 v1 s0 g) n (nI c) (nI i) h) S (fun s h => CmR S W c s 0 (g 43 0) (h 43 0) ∧ FrN g h) (fun o => ∃ g' m1, o = some (0, g') ∧ CmR S W c S 0 (g 43 0) m1 ∧ g' 43 0 = rCmt c n m1 ∧ FrN g g') ?_ ?_ (i0 := 0) ⟨⟨fun s w _ _ z => by omega, fun i _ => rfl⟩, FrN.rfl' g⟩ (by omega) (zfuel_ge (by omega))
  · rintro k s h hs ⟨hu, hf⟩
    left
    have a1 : h 31 0 0 = nI S := by rw [hf _ _ _ (by decide)]; exact q1
    rw [X7_commits_l2.eq_2]
    simp (disch := omega) only [zc_some, zw_eq, zi_nI, nI_clamp, nI_add, nI_1, nI_lti, nI_inj, nI_ltz, nI_eq0, nI_0lt, nI_ne_m1, nI_ne_m2, nI_m1_ne, nI_m2_ne, if_true, if_false, zU_eq, zU_ne, Nat.add_zero, pk_mul, a1, hs]
    refine loopN (M := fun n' i h' => X7_commits_l14 (X7_commits_l2 (fun (v1 : Int32) (s0 : Int32) g => X7_commits_b81 v1 s0 g) k) n' (nI c) (nI s) (nI i) h') W (fun w h' => CmR S W c s w (g 43 0) (h' 43 0) ∧ FrN g h') (fun o => ∃ g', (CmR S W c (s + 1) 0 (g 43 0) (g' 43 0) ∧ FrN g g') ∧ o = X7_commits_l2 (fun (v1 : Int32) (s0 : Int32) g => X7_commits_b81 v1 s0 g) k (nI c) (nI (s + 1)) g') ?_ ?_ (i0 := 0) ⟨hu, hf⟩ (by omega) (zfuel_ge (by omega))
    · rintro n' w h' hw ⟨hu', hf'⟩
      left
      have hp := pos_lt hc (show s < 4 by omega) (show w < 17 by omega)
      have a2 : h' 37007 0 0 = nI W := by rw [hf' _ _ _ (by decide)]; exact q2
      refine ⟨zU (zU h' 43 0 (pos c s w + 2) (nI 0)) 43 0 (pos c s w + 3) (nI 0), ⟨?_, (hf'.row _ _).row _ _⟩, ?_⟩
      · rw [zU_row, zU_row]; exact CmR_step hs hw hu'
      · rw [X7_commits_l14.eq_2]
        simp (disch := omega) only [zc_some, zw_eq, zi_nI, nI_clamp, nI_add, nI_1, nI_lti, nI_inj, nI_ltz, nI_eq0, nI_0lt, nI_ne_m1, nI_ne_m2, nI_m1_ne, nI_m2_ne, if_true, if_false, zU_eq, zU_ne, Nat.add_zero, pk_mul, a2, hw, X7_placeAt_ok]
    · rintro n' h' ⟨hu', hf'⟩
      have a2 : h' 37007 0 0 = nI W := by rw [hf' _ _ _ (by decide)]; exact q2
      rw [X7_commits_l14.eq_2]
      simp (disch := omega) only [zc_some, zw_eq, zi_nI, nI_clamp, nI_add, nI_1, nI_lti, nI_inj, nI_ltz, nI_eq0, nI_0lt, nI_ne_m1, nI_ne_m2, nI_m1_ne, nI_m2_ne, if_true, if_false, zU_eq, zU_ne, Nat.add_zero, pk_mul, a2, Nat.lt_irrefl]
      exact ⟨h', ⟨⟨fun s' w' b1 b2 b3 => hu'.1 s' w' b1 b2 (by omega), hu'.2⟩, hf'⟩, rfl⟩
  · rintro k h ⟨hu, hf⟩
    have a1 : h 31 0 0 = nI S := by rw [hf _ _ _ (by decide)]; exact q1
    have b3 := cat_lt hc (show 3 < 14 by omega)
    have h4' : h 43 0 4 = nI n := by
      rw [hu.2 4 (fun s w _ _ => ⟨by have := pos_ge c s w; omega, by have := pos_ge c s w; omega⟩), h4]
    obtain ⟨g', k1, k2, k3⟩ := X7_cmt_ok hc hn h4'
    refine ⟨g', h 43 0, ?_, hu, k2, hf.trans k3⟩
    rw [X7_commits_l2.eq_2]
    simp (disch := omega) only [zc_some, zw_eq, zi_nI, nI_clamp, nI_add, nI_1, nI_lti, nI_inj, nI_ltz, nI_eq0, nI_0lt, nI_ne_m1, nI_ne_m2, nI_m1_ne, nI_m2_ne, if_true, if_false, zU_eq, zU_ne, Nat.add_zero, pk_mul, a1, Nat.lt_irrefl, X7_coreAt_ok]
    by_cases e : h 43 0 (cat c 3) = nI 2
    · rw [if_pos e] at k1 ⊢
      exact k1
    · rw [if_neg e] at k1 ⊢
      exact k1
