theorem EndsL_to {S W cause r : Nat} {tries : Int32} : ∀ (n N : Nat) {m m' : Rw}, n ≤ N → EndsL S W cause tries r n m m' → (∀ k, n ≤ k → r.testBit k = false) → EndsL S W cause tries r N m m' := by
  intro n N m m' hn h hz
  induction N with
  | zero => have : n = 0 := by omega
            subst this; exact h
  | succ N ih =>
    by_cases e : n = N + 1
    · subst e; exact h
    · exact ⟨m', ih (by omega), Or.inr ⟨hz N (by omega), rfl⟩⟩
theorem X7_rivals {S W PL NC : Nat} {g : zG} (hP : MPar S W PL NC g) {c ℓ : Nat} (hc : c < 4) (hℓ : ℓ ≤ 16) (b : Bool) (K : Nat → zR0) (hK : ∀ n v, v < 16 → X7_decides_l6 (fun (v1 : Int32) (v4 : Int32) g => X7_decides_b75 v1 v4 g) (n + 1) (nI c) (nI ℓ) (bI b) (nI v) (nI NC) g = K v) : ∃ v, RivB S W NC (g 43 0) c ℓ b v ∧ X7_decides (nI c) (nI ℓ) (bI b) g = K v := by
  have hPc := hP
  obtain ⟨⟨p1, p2, p3, p4, p5, p6, p7, p8⟩, q1, q2, q3, q4⟩ := hP
  unfold X7_decides
  refine loopM (σ := Nat × Nat) (fun n s => X7_decides_l6 (fun (v1 : Int32) (v4 : Int32) g => X7_decides_b75 v1 v4 g) n (nI c) (nI ℓ) (bI b) (nI s.2) (nI s.1) g) (fun s => s.1 ≤ NC ∧ s.2 < 16 ∧ ∀ o, o < 4 → (s.2.testBit o = true ↔ (o < s.1 ∧ RivR S W (g 43 0) c o ℓ b))) (fun s => NC - s.1) (fun o => ∃ v, RivB S W NC (g 43 0) c ℓ b v ∧ o = K v) ?_ zfuel (0, 0) ⟨Nat.zero_le _, by decide, fun o ho => by simp⟩ ?_
  · rintro n ⟨i, v⟩ ⟨h1, h2, h3⟩
    simp only at h1 h2 h3
    by_cases hi : i < NC
    · left
      obtain ⟨x, h4, h5⟩ := X7_isRival_ok hPc hc (show i < 4 by omega) hℓ b
      rcases h5 with ⟨rfl, h5⟩ | ⟨rfl, h5⟩
      · have hb := bit_or v h2 i (by omega)
        refine ⟨(i + 1, v ||| 2 ^ i), ⟨hi, hb.2, fun o ho => ?_⟩, by simp only; omega, ?_⟩
        · rw [bit_orT v h2 i (by omega) o ho, h3 o ho]
          constructor
          · rintro (h | rfl)
            · exact ⟨by simp only; omega, h.2⟩
            · exact ⟨by simp only; omega, h5⟩
          · rintro ⟨h6, h7⟩
            by_cases z : o = i
            · exact Or.inr z
            · exact Or.inl ⟨by simp only at h6; omega, h7⟩
        · rw [X7_decides_l6.eq_2]
          simp (disch := omega) only [zc_some, zw_eq, zi_nI, nI_clamp, nI_add, nI_1, nI_lti, nI_inj, nI_ltz, nI_eq0, nI_0lt, nI_ne_m1, nI_ne_m2, nI_m1_ne, nI_m2_ne, if_true, if_false, zU_eq, zU_ne, Nat.add_zero, pk_mul, q4, hi, h4, X7_decides_b39, hb.1, show ¬ (1 = 0) by omega]
      · refine ⟨(i + 1, v), ⟨hi, h2, fun o ho => ?_⟩, by simp only; omega, ?_⟩
        · rw [h3 o ho]
          constructor
          · rintro ⟨h6, h7⟩; exact ⟨by simp only; omega, h7⟩
          · rintro ⟨h6, h7⟩
            by_cases z : o = i
            · subst z; exact absurd h7 h5
            · exact ⟨by simp only at h6; omega, h7⟩
        · rw [X7_decides_l6.eq_2]
          simp (disch := omega) only [zc_some, zw_eq, zi_nI, nI_clamp, nI_add, nI_1, nI_lti, nI_inj, nI_ltz, nI_eq0, nI_0lt, nI_ne_m1, nI_ne_m2, nI_m1_ne, nI_m2_ne, if_true, if_false, zU_eq, zU_ne, Nat.add_zero, pk_mul, q4, hi, h4, X7_decides_b39, bit_or0 v h2]
    · right
      have hie : i = NC := by omega
      subst hie
      exact ⟨v, ⟨h2, h3⟩, hK n v h2⟩
  · simp only; exact zfuel_ge (by omega)
theorem X7_ends_all {S W PL NC : Nat} {g : zG} (hP : MPar S W PL NC g) {v : Nat} (hv : v < 16) (e0 : Nat) (he0 : e0 < 16) (hE : g 38007 0 0 = nI e0) : ∃ g', X7_decides_l94 zfuel (nI v) (nI 0) g = some (nI 1, g') ∧ EndsL S W 0 (g 36007 0 0) v NC (g 43 0) (g' 43 0) ∧ FrM g g' ∧ ∃ e1, e1 < 16 ∧ g' 38007 0 0 = nI e1 ∧ ∀ j, j < 4 → (e1.testBit j = true ↔ (e0.testBit j = true ∨ (j < NC ∧ v.testBit j = true))) := by
  obtain ⟨⟨p1, p2, p3, p4, p5, p6, p7, p8⟩, q1, q2, q3, q4⟩ := id hP
  refine loopN (M := fun n i h => X7_decides_l94 n (nI v) (nI i) h) NC (fun i h => EndsL S W 0 (g 36007 0 0) v i (g 43 0) (h 43 0) ∧ FrM g h ∧ ∃ e1, e1 < 16 ∧ h 38007 0 0 = nI e1 ∧ ∀ j, j < 4 → (e1.testBit j = true ↔ (e0.testBit j = true ∨ (j < i ∧ v.testBit j = true)))) (fun o => ∃ g', o = some (nI 1, g') ∧ EndsL S W 0 (g 36007 0 0) v NC (g 43 0) (g' 43 0) ∧ FrM g g' ∧ ∃ e1, e1 < 16 ∧ g' 38007 0 0 = nI e1 ∧ ∀ j, j < 4 → (e1.testBit j = true ↔ (e0.testBit j = true ∨ (j < NC ∧ v.testBit j = true)))) ?_ ?_ (i0 := 0) ⟨rfl, FrM.rfl' g, e0, he0, hE, fun j _ => by simp⟩ (by omega) (zfuel_ge (by omega))
  · rintro n i h hi ⟨h1, h2, e1, h3, h4, h5⟩
    left
    have a1 : h 31 0 5 = nI NC := by rw [h2 _ _ _ (by decide) (by decide)]; exact q4
    have a2 : h 36007 0 0 = g 36007 0 0 := h2 _ _ _ (by decide) (by decide)
    have hbt := bit_test v hv i (by omega)
    rw [X7_decides_l94.eq_2]
    simp (disch := omega) only [zc_some, zw_eq, zi_nI, nI_clamp, nI_add, nI_1, nI_lti, nI_inj, nI_ltz, nI_eq0, nI_0lt, nI_ne_m1, nI_ne_m2, nI_m1_ne, nI_m2_ne, if_true, if_false, zU_eq, zU_ne, Nat.add_zero, pk_mul, a1, hi, X7_decides_b123]
    by_cases e : v.testBit i = true
    · obtain ⟨h', k1, k2, k3, k4⟩ := X7_ends_ok (hP.fr h2) (show i < 4 by omega) (show 0 < 4 by omega)
      have hb := bit_or e1 h3 i (by omega)
      refine ⟨h', ⟨⟨_, h1, Or.inl ⟨e, by rw [← a2]; exact k2⟩⟩, h2.trans k3, e1 ||| 2 ^ i, hb.2, ?_, fun j hj => ?_⟩, ?_⟩
      · rw [k4, h4]; exact hb.1
      · rw [bit_orT e1 h3 i (by omega) j hj, h5 j hj]
        constructor
        · rintro ((h | h) | rfl)
          · exact Or.inl h
          · exact Or.inr ⟨by omega, h.2⟩
          · exact Or.inr ⟨by omega, e⟩
        · rintro (h | h)
          · exact Or.inl (Or.inl h)
          · by_cases z : j = i
            · exact Or.inr z
            · exact Or.inl (Or.inr ⟨by omega, h.2⟩)
      · rw [if_pos (hbt.mpr e), k1]
        rfl
    · refine ⟨h, ⟨⟨_, h1, Or.inr ⟨by simpa using e, rfl⟩⟩, h2, e1, h3, h4, fun j hj => ?_⟩, ?_⟩
      · rw [h5 j hj]
        constructor
        · rintro (h | h)
          · exact Or.inl h
          · exact Or.inr ⟨by omega, h.2⟩
        · rintro (h | h)
          · exact Or.inl h
          · by_cases z : j = i
            · subst z; exact absurd h.2 e
            · exact Or.inr ⟨by omega, h.2⟩
      · rw [if_neg (fun z => e (hbt.mp z))]
  · rintro n h ⟨h1, h2, h3⟩
    have a1 : h 31 0 5 = nI NC := by rw [h2 _ _ _ (by decide) (by decide)]; exact q4
    rw [X7_decides_l94.eq_2]
    simp (disch := omega) only [zc_some, zw_eq, zi_nI, nI_clamp, nI_add, nI_1, nI_lti, nI_inj, nI_ltz, nI_eq0, nI_0lt, nI_ne_m1, nI_ne_m2, nI_m1_ne, nI_m2_ne, if_true, if_false, zU_eq, zU_ne, Nat.add_zero, pk_mul, a1, Nat.lt_irrefl]
    exact ⟨h, rfl, h1, h2, h3⟩
theorem bitc_pow : ∀ e, e < 16 → ∀ c, c < 4 → nI e ||| bitc c = nI (e ||| 2 ^ c) := by decide +kernel
theorem X7_decides_ok {S W PL NC : Nat} {g : zG} (hP : MPar S W PL NC g) {c ℓ rule : Nat} (hc : c < NC) (hℓ : ℓ ≤ 16) (b : Bool) (hr : g 35007 0 0 = nI rule) (hr2 : rule ≤ 2) {e0 : Nat} (he0 : e0 < 16) (hE : g 38007 0 0 = nI e0) :
    ∃ g' how r e1, X7_decides (nI c) (nI ℓ) (bI b) g = some (nI how, g') ∧ DecR S W NC rule (g 36007 0 0) c ℓ b (g 43 0) how r (g' 43 0) ∧ FrM g g' ∧ e1 < 16 ∧ g' 38007 0 0 = nI e1 ∧ ∀ j, j < 4 → (e1.testBit j = true ↔ (e0.testBit j = true ∨ r.testBit j = true)) := by
  obtain ⟨⟨p1, p2, p3, p4, p5, p6, p7, p8⟩, q1, q2, q3, q4⟩ := id hP
  have hc4 : c < 4 := by omega
  obtain ⟨x, hx1, hx2⟩ := X7_isSomeElder_ok hP hc4 hℓ b
  obtain ⟨gE, hE1, hE2, hE3, hE4⟩ := X7_ends_ok hP hc4 (show 0 < 4 by omega)
  obtain ⟨v, hv, hd⟩ := X7_rivals hP hc4 hℓ b (fun v => if v = 0 then some (nI 1, g) else if rule = 1 then (if x = 0 then X7_decides_b75 (nI c) (nI v) g else some (nI 2, g)) else X7_decides_b75 (nI c) (nI v) g) (fun n v hv => by
    rw [X7_decides_l6.eq_2]
    simp (disch := omega) only [zc_some, zw_eq, zi_nI, nI_clamp, nI_add, nI_1, nI_lti, nI_inj, nI_ltz, nI_eq0, nI_0lt, nI_ne_m1, nI_ne_m2, nI_m1_ne, nI_m2_ne, if_true, if_false, zU_eq, zU_ne, Nat.add_zero, pk_mul, q4, Nat.lt_irrefl, hr, hx1])
  have hall : ∀ j, (v.testBit j = true → j < NC) := fun j hj => by
    by_cases z : j < 4
    · exact ((hv.2 j z).mp hj).1
    · rw [bit_ge v hv.1 j (by omega)] at hj; cases hj
  have free : rule ≠ 2 → X7_decides_b75 (nI c) (nI v) g = X7_decides_l94 zfuel (nI v) (nI 0) g := by
    intro h
    unfold X7_decides_b75
    simp (disch := omega) only [zc_some, zw_eq, zi_nI, nI_clamp, nI_add, nI_1, nI_lti, nI_inj, nI_ltz, nI_eq0, nI_0lt, nI_ne_m1, nI_ne_m2, nI_m1_ne, nI_m2_ne, if_true, if_false, zU_eq, zU_ne, Nat.add_zero, pk_mul, hr, show ¬ 1 < rule by omega]
  obtain ⟨gA, hA1, hA2, hA3, e1, hA4, hA5, hA6⟩ := X7_ends_all hP hv.1 e0 he0 hE
  have hA6' : ∀ j, j < 4 → (e1.testBit j = true ↔ (e0.testBit j = true ∨ v.testBit j = true)) := fun j hj => by
    rw [hA6 j hj]
    exact ⟨fun h => h.imp id (fun q => q.2), fun h => h.imp id (fun q => ⟨hall j q, q⟩)⟩
  by_cases z : v = 0
  · refine ⟨g, 1, 0, e0, by rw [hd, if_pos z], ⟨v, hv, Or.inl ⟨z, rfl, rfl, rfl⟩⟩, FrM.rfl' g, he0, hE, fun j _ => by simp⟩
  · rw [if_neg z] at hd
    have hc1 : rule = 0 ∨ rule = 1 ∨ rule = 2 := by omega
    rcases hc1 with rfl | rfl | rfl
    · refine ⟨gA, 1, v, e1, ?_, ⟨v, hv, Or.inr (Or.inr (Or.inr ⟨z, by decide, fun h => absurd h (by decide), rfl, rfl, hA2⟩))⟩, hA3, hA4, hA5, hA6'⟩
      rw [hd, if_neg (by decide), free (by decide)]; exact hA1
    · rcases hx2 with ⟨rfl, hx3⟩ | ⟨rfl, hx3⟩
      · refine ⟨g, 2, 0, e0, ?_, ⟨v, hv, Or.inr (Or.inl ⟨z, rfl, hx3, rfl, rfl, rfl⟩)⟩, FrM.rfl' g, he0, hE, fun j _ => by simp⟩
        rw [hd, if_pos rfl, if_neg (by decide +kernel)]
      · refine ⟨gA, 1, v, e1, ?_, ⟨v, hv, Or.inr (Or.inr (Or.inr ⟨z, by decide, fun _ => hx3, rfl, rfl, hA2⟩))⟩, hA3, hA4, hA5, hA6'⟩
        rw [hd, if_pos rfl, if_pos (by decide +kernel), free (by decide)]; exact hA1
    · have hb := bit_or e0 he0 c hc4
      refine ⟨gE, 3, 2 ^ c, e0 ||| 2 ^ c, ?_, ⟨v, hv, Or.inr (Or.inr (Or.inl ⟨z, rfl, rfl, rfl, hE2⟩))⟩, hE3, hb.2, ?_, fun j hj => ?_⟩
      · rw [hd, if_neg (by decide)]
        unfold X7_decides_b75
        simp (disch := omega) only [zc_some, zw_eq, zi_nI, nI_clamp, nI_add, nI_1, nI_lti, nI_inj, nI_ltz, nI_eq0, nI_0lt, nI_ne_m1, nI_ne_m2, nI_m1_ne, nI_m2_ne, if_true, if_false, zU_eq, zU_ne, Nat.add_zero, pk_mul, hr, show 1 < 2 by omega]
        rw [show (nI 0) = nI 0 from rfl, hE1]
        rfl
      · rw [hE4, hE]; exact bitc_pow e0 he0 c hc4
      · rw [bit_orT e0 he0 c hc4 j hj]
        rw [Nat.testBit_two_pow]
        simp only [decide_eq_true_eq]
        exact ⟨fun h => h.imp id (fun q => q.symm), fun h => h.imp id (fun q => q.symm)⟩
