/-! ===== the reader: a line ===== -/
theorem names_f {T s e k : Nat} {B : Nat → Nat} {gc gm : zG} (hR : Rd T B gc gm) (hk : Tk T s e k gc gm) : ∃ f : Nat → Bool, ∀ v, v < 19 → X5_isName v gc = some (bI (f v), gc) ∧ X7_isWord v gm = some (bI (f v), gm) ∧ (f v = true ↔ Nm B s e k v) := by
  have ex : ∀ v, ∃ b : Bool, v < 19 → X5_isName v gc = some (bI b, gc) ∧ X7_isWord v gm = some (bI b, gm) ∧ (b = true ↔ Nm B s e k v) := fun v => by
    by_cases z : v < 19
    · obtain ⟨b, h⟩ := isName_ok hR hk z
      exact ⟨b, fun _ => h⟩
    · exact ⟨false, fun y => absurd y z⟩
  obtain ⟨f, hf⟩ := Classical.axiomOfChoice ex
  exact ⟨f, hf⟩
theorem sort_ok {f : Nat → Bool} {gc : zG} (hf : ∀ v, v < 19 → X5_isName v gc = some (bI (f v), gc)) : (∃ v, v < 10 ∧ f v = true ∧ X5_sortHere gc = some (nI v, gc)) ∨ ((∀ v, v < 10 → f v = false) ∧ X5_sortHere gc = some (-1, gc)) := by
  unfold X5_sortHere
  rw [hf 0 (by omega), zc_some, iteB]
  by_cases h0 : f 0 = true
  · exact Or.inl ⟨0, by omega, h0, by rw [if_pos h0]⟩
  rw [if_neg h0, hf 1 (by omega), zc_some, iteB]
  by_cases h1 : f 1 = true
  · exact Or.inl ⟨1, by omega, h1, by rw [if_pos h1]⟩
  rw [if_neg h1, hf 2 (by omega), zc_some, iteB]
  by_cases h2 : f 2 = true
  · exact Or.inl ⟨2, by omega, h2, by rw [if_pos h2]⟩
  rw [if_neg h2, hf 3 (by omega), zc_some, iteB]
  by_cases h3 : f 3 = true
  · exact Or.inl ⟨3, by omega, h3, by rw [if_pos h3]⟩
  rw [if_neg h3, hf 4 (by omega), zc_some, iteB]
  by_cases h4 : f 4 = true
  · exact Or.inl ⟨4, by omega, h4, by rw [if_pos h4]⟩
  rw [if_neg h4, hf 5 (by omega), zc_some, iteB]
  by_cases h5 : f 5 = true
  · exact Or.inl ⟨5, by omega, h5, by rw [if_pos h5]⟩
  rw [if_neg h5, hf 6 (by omega), zc_some, iteB]
  by_cases h6 : f 6 = true
  · exact Or.inl ⟨6, by omega, h6, by rw [if_pos h6]⟩
  rw [if_neg h6, hf 7 (by omega), zc_some, iteB]
  by_cases h7 : f 7 = true
  · exact Or.inl ⟨7, by omega, h7, by rw [if_pos h7]⟩
  rw [if_neg h7, hf 8 (by omega), zc_some, iteB]
  by_cases h8 : f 8 = true
  · exact Or.inl ⟨8, by omega, h8, by rw [if_pos h8]⟩
  rw [if_neg h8, hf 9 (by omega), zc_some, iteB]
  by_cases h9 : f 9 = true
  · exact Or.inl ⟨9, by omega, h9, by rw [if_pos h9]⟩
  rw [if_neg h9]
  refine Or.inr ⟨fun v hv => ?_, rfl⟩
  have : v = 0 ∨ v = 1 ∨ v = 2 ∨ v = 3 ∨ v = 4 ∨ v = 5 ∨ v = 6 ∨ v = 7 ∨ v = 8 ∨ v = 9 := by omega
  rcases this with rfl | rfl | rfl | rfl | rfl | rfl | rfl | rfl | rfl | rfl <;> first | exact Bool.eq_false_iff.mpr h0 | exact Bool.eq_false_iff.mpr h1 | exact Bool.eq_false_iff.mpr h2 | exact Bool.eq_false_iff.mpr h3 | exact Bool.eq_false_iff.mpr h4 | exact Bool.eq_false_iff.mpr h5 | exact Bool.eq_false_iff.mpr h6 | exact Bool.eq_false_iff.mpr h7 | exact Bool.eq_false_iff.mpr h8 | exact Bool.eq_false_iff.mpr h9
theorem sort_m {f : Nat → Bool} {gm : zG} {v : Nat} (hf : ∀ v, v < 19 → X7_isWord v gm = some (bI (f v), gm)) (hv : v < 7) (h : f v = true) (hn : ∀ w, w < 10 → w ≠ v → f w = false) : X7_sortHere gm = some (nI v, gm) := by
  have hfl : ∀ w, w < 10 → w ≠ v → X7_isWord w gm = some (nI 0, gm) := fun w a b => by rw [hf w (by omega), hn w a b]; rfl
  have hft : X7_isWord v gm = some (nI 1, gm) := by rw [hf v (by omega), h]; rfl
  unfold X7_sortHere
  have : v = 0 ∨ v = 1 ∨ v = 2 ∨ v = 3 ∨ v = 4 ∨ v = 5 ∨ v = 6 := by omega
  rcases this with rfl | rfl | rfl | rfl | rfl | rfl | rfl
  · rw [hft, zc_some, ite1]
  · rw [hfl 0 (by omega) (by omega), zc_some, ite0, hft, zc_some, ite1]
  · rw [hfl 0 (by omega) (by omega), zc_some, ite0, hfl 1 (by omega) (by omega), zc_some, ite0, hft, zc_some, ite1]
  · rw [hfl 0 (by omega) (by omega), zc_some, ite0, hfl 1 (by omega) (by omega), zc_some, ite0, hfl 2 (by omega) (by omega), zc_some, ite0, hft, zc_some, ite1]
  · rw [hfl 0 (by omega) (by omega), zc_some, ite0, hfl 1 (by omega) (by omega), zc_some, ite0, hfl 2 (by omega) (by omega), zc_some, ite0, hfl 3 (by omega) (by omega), zc_some, ite0, hft, zc_some, ite1]
  · rw [hfl 0 (by omega) (by omega), zc_some, ite0, hfl 1 (by omega) (by omega), zc_some, ite0, hfl 2 (by omega) (by omega), zc_some, ite0, hfl 3 (by omega) (by omega), zc_some, ite0, hfl 4 (by omega) (by omega), zc_some, ite0, hft, zc_some, ite1]
  · rw [hfl 0 (by omega) (by omega), zc_some, ite0, hfl 1 (by omega) (by omega), zc_some, ite0, hfl 2 (by omega) (by omega), zc_some, ite0, hfl 3 (by omega) (by omega), zc_some, ite0, hfl 4 (by omega) (by omega), zc_some, ite0, hfl 5 (by omega) (by omega), zc_some, ite0, hft, zc_some, ite1]
theorem sort_m0 {f : Nat → Bool} {gm : zG} (hf : ∀ v, v < 19 → X7_isWord v gm = some (bI (f v), gm)) (hn : ∀ w, w < 10 → f w = false) : X7_sortHere gm = some (-1, gm) := by
  have hfl : ∀ w, w < 10 → X7_isWord w gm = some (nI 0, gm) := fun w a => by rw [hf w (by omega), hn w a]; rfl
  unfold X7_sortHere
  rw [hfl 0 (by omega), zc_some, ite0, hfl 1 (by omega), zc_some, ite0, hfl 2 (by omega), zc_some, ite0, hfl 3 (by omega), zc_some, ite0, hfl 4 (by omega), zc_some, ite0, hfl 5 (by omega), zc_some, ite0, hfl 6 (by omega), zc_some, ite0]
theorem Ok.lo {T lo lo' : Nat} {B : Nat → Nat} {gc gm gc' gm' : zG} (h : Ok T B lo gc gm gc' gm') (hl : lo' ≤ lo) : Ok T B lo' gc gm gc' gm' := by
  obtain ⟨a, b, d, ⟨s, e, k, x, y⟩, z⟩ := h
  exact ⟨a, b, d, ⟨s, e, k, x, by omega⟩, z⟩
theorem line_ok {T s e k : Nat} {B : Nat → Nat} {gc gm : zG} (hR : Rd T B gc gm) (hk : Tk T s e k gc gm) (hD : DrS gc gm) :
    (∃ gc' gm', X5_readLine gc = some (nI 0, gc') ∧ X7_readLine gm = some (-1, gm') ∧ Fl gc gm gc' gm') ∨
    (∃ x gc' gm', x < 1000 ∧ X5_readLine gc = some (nI 1, gc') ∧ X7_readLine gm = some (nI x, gm') ∧ Ok T B (s + 1) gc gm gc' gm') := by
  obtain ⟨f, hf⟩ := names_f hR hk
  have hfc : ∀ v, v < 19 → X5_isName v gc = some (bI (f v), gc) := fun v h => (hf v h).1
  have hfm : ∀ v, v < 19 → X7_isWord v gm = some (bI (f v), gm) := fun v h => (hf v h).2.1
  have c5 : (nI 5).toNatClampNeg = 5 := nI_clamp (by omega)
  unfold X5_readLine X7_readLine
  rcases sort_ok hfc with ⟨v, v10, vt, hv⟩ | ⟨hn, hv⟩
  · have hno : ∀ w, w < 10 → w ≠ v → f w = false := fun w a b => by
      cases y : f w with
      | false => rfl
      | true => exact absurd (Nm_one a v10 ((hf w (by omega)).2.2.mp y) ((hf v (by omega)).2.2.mp vt)) b
    have se : s + 1 ≤ e := by
      have h1 := ((hf v (by omega)).2.2.mp vt).1
      have := hk.2.2.2.2.2.2.2.2.2.2.1 (by omega)
      omega
    have fl0 : ∀ w, w < 10 → w ≠ v → X7_isWord w gm = some (nI 0, gm) := fun w a b => by rw [hfm w (by omega), hno w a b]; rfl
    have ft0 : X7_isWord v gm = some (nI 1, gm) := by rw [hfm v (by omega), vt]; rfl
    have nm1 : ¬ nI v = -1 := by rw [nI_ne_m1 (by omega)]; exact id
    rw [hv, zc_some, if_neg nm1]
    by_cases v7 : v = 7
    · subst v7
      rw [if_pos rfl, ft0, zc_some, ite1]
      rcases machine_line hR hk hD with ⟨gc', gm', y1, y2, y3⟩ | ⟨x, gc', gm', y0, y1, y2, y3⟩
      · left
        rw [y1, y2, zc_some, zc_some, zbo0]
        exact ⟨_, _, rfl, rfl, y3⟩
      · right
        rw [y1, y2, zc_some, zc_some, zbo1]
        exact ⟨x, _, _, y0, rfl, rfl, y3.lo se⟩
    rw [if_neg (show ¬ nI v = nI 7 by rw [nI_inj (by omega) (by omega)]; exact v7), fl0 7 (by omega) (by omega), zc_some, ite0]
    rcases hD with h0 | ⟨S, W, PL, rl, tr, nc, nw, op, len, so, wh, ix, h1⟩
    · -- no machine
      left
      obtain ⟨d1, d2, -, ⟨d4, d4', -⟩, ⟨d5, d5', -⟩, -⟩ := id h0
      rw [d1, if_pos (show nI 0 = 0 by decide), hk.2.2.1, fail_ok, zc_some, zbo0]
      have er := errs_ok (n := 5) hk.2.2.2.1
      refine ⟨_, _, rfl, ?_, fl_of 5 s gc gm⟩
      by_cases v8 : v = 8
      · subst v8
        unfold X7_readToldWord
        rw [ft0, zc_some, ite1, d5', if_neg (show ¬ nI 0 = nI 12 by decide), d2, if_pos (show nI 0 = 0 by decide), er, zc_some, zc_some]
      · rw [fl0 8 (by omega) (by omega), zc_some, ite0]
        by_cases v9 : v = 9
        · subst v9
          unfold X7_readCore
          rw [ft0, zc_some, ite1, zi_nI (by omega) (by omega), c5, d4', if_neg (show ¬ nI 0 = nI 4 by decide), d2, if_pos (show nI 0 = 0 by decide), er, zc_some, zc_some]
        · unfold X7_readDeed X7_readDeed_b30 X7_readDeed_b41
          rw [fl0 9 (by omega) (by omega), zc_some, ite0, sort_m hfm (by omega) vt hno, zc_some, if_neg nm1, zi_nI (by omega) (by omega), c5, d4', if_pos (show (nI 0 - nI 1 : Int32) < 0 by decide), d2, if_pos (show nI 0 = 0 by decide), er, zc_some, zc_some]
    · have d1 := h1.1
      rw [d1, if_neg (show ¬ nI 1 = 0 by decide)]
      by_cases v8 : v = 8
      · subst v8
        rw [if_pos rfl, ft0, zc_some, ite1]
        rcases word_line hR hk h1 with ⟨gc', gm', y1, y2, y3⟩ | ⟨gc', gm', y1, y2, y3⟩
        · left
          rw [y1, y2, zc_some, zc_some, zbo0]
          exact ⟨_, _, rfl, rfl, y3⟩
        · right
          rw [y1, y2, zc_some, zc_some, zbo1]
          exact ⟨0, _, _, by omega, rfl, rfl, y3.lo se⟩
      rw [if_neg (show ¬ nI v = nI 8 by rw [nI_inj (by omega) (by omega)]; exact v8), fl0 8 (by omega) (by omega), zc_some, ite0]
      by_cases v9 : v = 9
      · subst v9
        rw [if_pos rfl, ft0, zc_some, ite1]
        rcases core_line hR hk h1 with ⟨gc', gm', y1, y2, y3⟩ | ⟨gc', gm', y1, y2, y3⟩
        · left
          rw [y1, y2, zc_some, zc_some, zbo0]
          exact ⟨_, _, rfl, rfl, y3⟩
        · right
          rw [y1, y2, zc_some, zc_some, zbo1]
          exact ⟨0, _, _, by omega, rfl, rfl, y3.lo se⟩
      rw [if_neg (show ¬ nI v = nI 9 by rw [nI_inj (by omega) (by omega)]; exact v9), fl0 9 (by omega) (by omega), zc_some, ite0, sort_m hfm (by omega) vt hno, zc_some, if_neg nm1]
      rcases deed_line hR hk h1 (show v ≤ 6 by omega) with ⟨gc', gm', y1, y2, y3⟩ | ⟨gc', gm', y1, y2, y3⟩
      · left
        rw [y1, y2, zc_some, zc_some, zbo0]
        exact ⟨_, _, rfl, rfl, y3⟩
      · right
        rw [y1, y2, zc_some, zc_some, zbo1]
        exact ⟨0, _, _, by omega, rfl, rfl, y3.lo se⟩
  · left
    have fl0 : ∀ w, w < 10 → X7_isWord w gm = some (nI 0, gm) := fun w a => by rw [hfm w (by omega), hn w a]; rfl
    rw [hv, zc_some, if_pos rfl, hk.2.2.1, fail_ok, zc_some, zbo0, fl0 7 (by omega), zc_some, ite0, fl0 8 (by omega), zc_some, ite0, fl0 9 (by omega), zc_some, ite0, sort_m0 hfm hn, zc_some, if_pos rfl, errs_ok hk.2.2.2.1, zc_some]
    exact ⟨_, _, rfl, rfl, fl_of 1 s gc gm⟩
