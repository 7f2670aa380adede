/-! ===== leaves: the reference's row ===== -/
/-- where a place of the reference's row begins; where a core's number stands -/
def pos (c s w : Nat) : Nat := 318 + 9 * (68 * c + 17 * s + w)
def cat (c k : Nat) : Nat := 6 + 14 * c + k
theorem pos_lt {c s w : Nat} (hc : c < 4) (hs : s < 4) (hw : w < 17) : pos c s w + 9 ≤ 2766 := by unfold pos; omega
theorem pos_ge (c s w : Nat) : 318 ≤ pos c s w := by unfold pos; omega
theorem cat_lt {c k : Nat} (hc : c < 4) (hk : k < 14) : cat c k < 62 := by unfold cat; omega
/-- the told numbers, as the reference has them: sets, ways (as they are now), words, cores -/
def MPar (S W PL NC : Nat) (g : zG) : Prop := (0 < S ∧ S ≤ 4 ∧ 0 < W ∧ W ≤ 17 ∧ 0 < PL ∧ PL ≤ 4 ∧ 0 < NC ∧ NC ≤ 4) ∧ g 31 0 0 = nI S ∧ g 37007 0 0 = nI W ∧ g 31 0 2 = nI PL ∧ g 31 0 5 = nI NC
theorem X7_placeAt_ok {c s w : Nat} (g : zG) : X7_placeAt (nI c) (nI s) (nI w) g = some (nI (pos c s w), g) := by
  unfold X7_placeAt pos
  simp (disch := omega) only [zc_some, zw_eq, zi_nI, nI_clamp, nI_add, nI_1, nI_lti, nI_inj, nI_ltz, nI_eq0, nI_0lt, nI_ne_m1, nI_ne_m2, nI_m1_ne, nI_m2_ne, if_true, if_false, zU_eq, zU_ne, Nat.add_zero, pk_mul]
theorem X7_coreAt_ok {c k : Nat} (g : zG) : X7_coreAt (nI c) (nI k) g = some (nI (cat c k), g) := by
  unfold X7_coreAt cat
  simp (disch := omega) only [zc_some, zw_eq, zi_nI, nI_clamp, nI_add, nI_1, nI_lti, nI_inj, nI_ltz, nI_eq0, nI_0lt, nI_ne_m1, nI_ne_m2, nI_m1_ne, nI_m2_ne, if_true, if_false, zU_eq, zU_ne, Nat.add_zero, pk_mul]
theorem X7_find_ok {S W PL NC : Nat} {g : zG} (hP : MPar S W PL NC g) {c ℓ : Nat} (hc : c < 4) (hℓ : ℓ ≤ 16) : ∃ x, X7_find (nI c) (nI ℓ) g = some (x, g) ∧ ((x = -1 ∧ ∀ w, w < W → g 43 0 (pos c (ℓ % S) w) ≠ nI ℓ) ∨ ∃ w, w < W ∧ x = nI (pos c (ℓ % S) w) ∧ g 43 0 (pos c (ℓ % S) w) = nI ℓ ∧ ∀ q, q < w → g 43 0 (pos c (ℓ % S) q) ≠ nI ℓ) := by
  obtain ⟨⟨p1, p2, p3, p4, p5, p6, p7, p8⟩, q1, q2, q3, q4⟩ := hP
  have hm : ℓ % S < S := Nat.mod_lt _ p1
  unfold X7_find
  refine loopN (M := fun n i h => X7_find_l2 n (nI c) (nI ℓ) (nI i) h) W (fun i h => h = g ∧ ∀ q, q < i → g 43 0 (pos c (ℓ % S) q) ≠ nI ℓ) (fun o => ∃ x, o = some (x, g) ∧ ((x = -1 ∧ ∀ w, w < W → g 43 0 (pos c (ℓ % S) w) ≠ nI ℓ) ∨ ∃ w, w < W ∧ x = nI (pos c (ℓ % S) w) ∧ g 43 0 (pos c (ℓ % S) w) = nI ℓ ∧ ∀ q, q < w → g 43 0 (pos c (ℓ % S) q) ≠ nI ℓ)) ?_ ?_ (i0 := 0) (g0 := g) ⟨rfl, fun q h => by omega⟩ (by omega) (zfuel_ge (by omega))
  · rintro n i h hi ⟨he, h2⟩
    have hp := pos_lt hc (show ℓ % S < 4 by omega) (show i < 17 by omega)
    rw [X7_find_l2.eq_2, he]
    simp (disch := omega) only [zc_some, zw_eq, zi_nI, nI_clamp, nI_add, nI_1, nI_lti, nI_inj, nI_ltz, nI_eq0, nI_0lt, nI_ne_m1, nI_ne_m2, nI_m1_ne, nI_m2_ne, if_true, if_false, zU_eq, zU_ne, Nat.add_zero, pk_mul, hi, q1, q2, pk_rem, X7_placeAt_ok, show ¬ S = 0 by omega]
    by_cases e : g 43 0 (pos c (ℓ % S) i) = nI ℓ
    · right
      rw [if_pos e]
      exact ⟨_, rfl, Or.inr ⟨i, hi, rfl, e, h2⟩⟩
    · left
      rw [if_neg e]
      refine ⟨g, ⟨rfl, fun q hq => ?_⟩, rfl⟩
      by_cases hqi : q = i
      · rw [hqi]; exact e
      · exact h2 q (by omega)
  · rintro n h ⟨he, h2⟩
    rw [X7_find_l2.eq_2, he]
    simp (disch := omega) only [zc_some, zw_eq, zi_nI, nI_clamp, nI_add, nI_1, nI_lti, nI_inj, nI_ltz, nI_eq0, nI_0lt, nI_ne_m1, nI_ne_m2, nI_m1_ne, nI_m2_ne, if_true, if_false, zU_eq, zU_ne, Nat.add_zero, pk_mul, q2, Nat.lt_irrefl]
    exact ⟨_, rfl, Or.inl ⟨rfl, h2⟩⟩
/-- a place emptied -/
def sEmp (g : zG) (q : Nat) : zG := zU (zU (zU (zU (zU g 43 0 q (-2)) 43 0 (q + 1) (nI 0)) 43 0 (q + 2) (nI 0)) 43 0 (q + 3) (nI 0)) 43 0 (q + 4) (nI 0)
theorem X7_empties_ok {q : Nat} (g : zG) (hq : q + 9 ≤ 2766) : X7_empties (nI q) g = some (0, sEmp g q) := by
  unfold X7_empties sEmp
  simp (disch := omega) only [zc_some, zw_eq, zi_nI, nI_clamp, nI_add, nI_1, nI_lti, nI_inj, nI_ltz, nI_eq0, nI_0lt, nI_ne_m1, nI_ne_m2, nI_m1_ne, nI_m2_ne, if_true, if_false, zU_eq, zU_ne, Nat.add_zero, pk_mul]
theorem X7_waits_ok {c : Nat} (g : zG) (hc : c < 4) : X7_waits (nI c) g = some (nI 2, zU g 43 0 (cat c 13) (g 43 0 (cat c 13) + nI 1)) := by
  have := cat_lt hc (show 13 < 14 by omega)
  unfold X7_waits
  simp (disch := omega) only [zc_some, zw_eq, zi_nI, nI_clamp, nI_add, nI_1, nI_lti, nI_inj, nI_ltz, nI_eq0, nI_0lt, nI_ne_m1, nI_ne_m2, nI_m1_ne, nI_m2_ne, if_true, if_false, zU_eq, zU_ne, Nat.add_zero, pk_mul, X7_coreAt_ok]
