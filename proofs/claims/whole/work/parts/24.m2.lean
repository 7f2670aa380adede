/-! ===== who is asked, what the rule decides ===== -/
def FindR (S W : Nat) (m : Rw) (c ℓ : Nat) : Option Nat → Prop
  | none => ∀ w, w < W → m (pos c (ℓ % S) w) ≠ nI ℓ
  | some w => w < W ∧ m (pos c (ℓ % S) w) = nI ℓ ∧ ∀ q, q < w → m (pos c (ℓ % S) q) ≠ nI ℓ
def posO (S c ℓ : Nat) : Option Nat → Int32
  | none => -1
  | some w => nI (pos c (ℓ % S) w)
theorem FindR_det {S W c ℓ : Nat} {m : Rw} {a b : Option Nat} (ha : FindR S W m c ℓ a) (hb : FindR S W m c ℓ b) : a = b := by
  cases a with
  | none =>
    cases b with
    | none => rfl
    | some w => exact absurd hb.2.1 (ha w hb.1)
  | some v =>
    cases b with
    | none => exact absurd ha.2.1 (hb v ha.1)
    | some w =>
      congr 1
      rcases Nat.lt_trichotomy v w with h | h | h
      · exact absurd ha.2.1 (hb.2.2 v h)
      · exact h
      · exact absurd hb.2.1 (ha.2.2 w h)
theorem X7_findR {S W PL NC : Nat} {g : zG} (hP : MPar S W PL NC g) {c ℓ : Nat} (hc : c < 4) (hℓ : ℓ ≤ 16) : ∃ o, FindR S W (g 43 0) c ℓ o ∧ X7_find (nI c) (nI ℓ) g = some (posO S c ℓ o, g) := by
  obtain ⟨x, h1, h2⟩ := X7_find_ok hP hc hℓ
  rcases h2 with ⟨rfl, h3⟩ | ⟨w, h3, rfl, h4, h5⟩
  · exact ⟨none, h3, h1⟩
  · exact ⟨some w, ⟨h3, h4, h5⟩, h1⟩
/-- another core has the line with a mark that is in the way -/
def RivR (S W : Nat) (m : Rw) (c o ℓ : Nat) (owns : Bool) : Prop := o ≠ c ∧ ∃ w, FindR S W m o ℓ (some w) ∧ (m (pos o (ℓ % S) w + 3) = nI 1 ∨ (owns = true ∧ m (pos o (ℓ % S) w + 2) = nI 1))
def bI (b : Bool) : Int32 := nI (if b = true then 1 else 0)
theorem bI0 : bI false = nI 0 := rfl
theorem bI1 : bI true = nI 1 := rfl
theorem X7_isRival_ok {S W PL NC : Nat} {g : zG} (hP : MPar S W PL NC g) {c o ℓ : Nat} (hc : c < 4) (ho : o < 4) (hℓ : ℓ ≤ 16) (b : Bool) : ∃ x, X7_isRival (nI c) (nI o) (nI ℓ) (bI b) g = some (x, g) ∧ ((x = nI 1 ∧ RivR S W (g 43 0) c o ℓ b) ∨ (x = nI 0 ∧ ¬ RivR S W (g 43 0) c o ℓ b)) := by
  have hPc := hP
  obtain ⟨⟨p1, p2, p3, p4, p5, p6, p7, p8⟩, q1, q2, q3, q4⟩ := hP
  have hm : ℓ % S < S := Nat.mod_lt _ p1
  unfold X7_isRival
  by_cases e : o = c
  · subst e
    refine ⟨nI 0, ?_, Or.inr ⟨rfl, fun h => h.1 rfl⟩⟩
    rw [if_pos rfl]
    unfold X7_isRival_b15
    rw [if_pos rfl]
  · obtain ⟨oo, h1, h2⟩ := X7_findR hPc ho hℓ
    simp (disch := omega) only [zc_some, zw_eq, zi_nI, nI_clamp, nI_add, nI_1, nI_lti, nI_inj, nI_ltz, nI_eq0, nI_0lt, nI_ne_m1, nI_ne_m2, nI_m1_ne, nI_m2_ne, if_true, if_false, zU_eq, zU_ne, Nat.add_zero, pk_mul, e, h2]
    unfold X7_isRival_b15
    cases oo with
    | none =>
      refine ⟨nI 0, by rw [if_pos (show posO S o ℓ none = -1 from rfl)], Or.inr ⟨rfl, fun h => ?_⟩⟩
      obtain ⟨-, w, h3, -⟩ := h
      exact absurd (FindR_det h1 h3) (by simp)
    | some w =>
      have hp := pos_lt ho (show ℓ % S < 4 by omega) (show w < 17 by have := h1.1; omega)
      simp only [posO]
      simp (disch := omega) only [zc_some, zw_eq, zi_nI, nI_clamp, nI_add, nI_1, nI_lti, nI_inj, nI_ltz, nI_eq0, nI_0lt, nI_ne_m1, nI_ne_m2, nI_m1_ne, nI_m2_ne, if_true, if_false, zU_eq, zU_ne, Nat.add_zero, pk_mul, X7_isRival_b54]
      by_cases e3 : g 43 0 (pos o (ℓ % S) w + 3) = nI 1
      · exact ⟨nI 1, by rw [if_pos e3], Or.inl ⟨rfl, e, w, h1, Or.inl e3⟩⟩
      · rw [if_neg e3]
        cases b with
        | false =>
          refine ⟨nI 0, by simp (disch := omega) only [zc_some, zw_eq, zi_nI, nI_clamp, nI_add, nI_1, nI_lti, nI_inj, nI_ltz, nI_eq0, nI_0lt, nI_ne_m1, nI_ne_m2, nI_m1_ne, nI_m2_ne, if_true, if_false, zU_eq, zU_ne, Nat.add_zero, pk_mul, bI0], Or.inr ⟨rfl, fun h => ?_⟩⟩
          obtain ⟨-, w', h3, h4⟩ := h
          have := FindR_det h1 h3
          cases this
          rcases h4 with h4 | h4
          · exact e3 h4
          · cases h4.1
        | true =>
          simp (disch := omega) only [zc_some, zw_eq, zi_nI, nI_clamp, nI_add, nI_1, nI_lti, nI_inj, nI_ltz, nI_eq0, nI_0lt, nI_ne_m1, nI_ne_m2, nI_m1_ne, nI_m2_ne, if_true, if_false, zU_eq, zU_ne, Nat.add_zero, pk_mul, bI1, show ¬ (1 = 0) by omega]
          by_cases e2 : g 43 0 (pos o (ℓ % S) w + 2) = nI 1
          · exact ⟨nI 1, by rw [if_pos e2], Or.inl ⟨rfl, e, w, h1, Or.inr ⟨rfl, e2⟩⟩⟩
          · refine ⟨nI 0, by rw [if_neg e2], Or.inr ⟨rfl, fun h => ?_⟩⟩
            obtain ⟨-, w', h3, h4⟩ := h
            have := FindR_det h1 h3
            cases this
            rcases h4 with h4 | h4
            · exact e3 h4
            · exact e2 h4.2
theorem X7_isSomeElder_ok {S W PL NC : Nat} {g : zG} (hP : MPar S W PL NC g) {c ℓ : Nat} (hc : c < 4) (hℓ : ℓ ≤ 16) (b : Bool) : ∃ x, X7_isSomeElder (nI c) (nI ℓ) (bI b) g = some (x, g) ∧ ((x = nI 1 ∧ ∃ o, o < NC ∧ RivR S W (g 43 0) c o ℓ b ∧ ¬ g 43 0 (cat c 5) < g 43 0 (cat o 5)) ∨ (x = nI 0 ∧ ∀ o, o < NC → RivR S W (g 43 0) c o ℓ b → g 43 0 (cat c 5) < g 43 0 (cat o 5))) := by
  have hPc := hP
  obtain ⟨⟨p1, p2, p3, p4, p5, p6, p7, p8⟩, q1, q2, q3, q4⟩ := hP
  have b5 := cat_lt hc (show 5 < 14 by omega)
  unfold X7_isSomeElder
  refine loopN (M := fun n i h => X7_isSomeElder_l3 n (nI c) (nI ℓ) (bI b) (nI i) h) NC (fun i h => h = g ∧ ∀ o, o < i → RivR S W (g 43 0) c o ℓ b → g 43 0 (cat c 5) < g 43 0 (cat o 5)) (fun oo => ∃ x, oo = some (x, g) ∧ ((x = nI 1 ∧ ∃ o, o < NC ∧ RivR S W (g 43 0) c o ℓ b ∧ ¬ g 43 0 (cat c 5) < g 43 0 (cat o 5)) ∨ (x = nI 0 ∧ ∀ o, o < NC → RivR S W (g 43 0) c o ℓ b → g 43 0 (cat c 5) < g 43 0 (cat o 5)))) ?_ ?_ (i0 := 0) ⟨rfl, fun o h => by omega⟩ (by omega) (zfuel_ge (by omega))
  · rintro n i h hi ⟨he, h2⟩
    have bo := cat_lt (show i < 4 by omega) (show 5 < 14 by omega)
    rw [X7_isSomeElder_l3.eq_2, he]
    obtain ⟨x, h3, h4⟩ := X7_isRival_ok hPc hc (show i < 4 by omega) hℓ b
    simp (disch := omega) only [zc_some, zw_eq, zi_nI, nI_clamp, nI_add, nI_1, nI_lti, nI_inj, nI_ltz, nI_eq0, nI_0lt, nI_ne_m1, nI_ne_m2, nI_m1_ne, nI_m2_ne, if_true, if_false, zU_eq, zU_ne, Nat.add_zero, pk_mul, q4, hi, h3, X7_coreAt_ok, X7_isSomeElder_b52]
    rcases h4 with ⟨rfl, h5⟩ | ⟨rfl, h5⟩
    · simp (disch := omega) only [zc_some, zw_eq, zi_nI, nI_clamp, nI_add, nI_1, nI_lti, nI_inj, nI_ltz, nI_eq0, nI_0lt, nI_ne_m1, nI_ne_m2, nI_m1_ne, nI_m2_ne, if_true, if_false, zU_eq, zU_ne, Nat.add_zero, pk_mul, show ¬ (1 = 0) by omega]
      by_cases e : g 43 0 (cat c 5) < g 43 0 (cat i 5)
      · left
        rw [if_pos e]
        refine ⟨g, ⟨rfl, fun o ho hr => ?_⟩, rfl⟩
        by_cases z : o = i
        · rw [z]; exact e
        · exact h2 o (by omega) hr
      · right
        rw [if_neg e]
        exact ⟨_, rfl, Or.inl ⟨rfl, i, hi, h5, e⟩⟩
    · left
      simp (disch := omega) only [zc_some, zw_eq, zi_nI, nI_clamp, nI_add, nI_1, nI_lti, nI_inj, nI_ltz, nI_eq0, nI_0lt, nI_ne_m1, nI_ne_m2, nI_m1_ne, nI_m2_ne, if_true, if_false, zU_eq, zU_ne, Nat.add_zero, pk_mul]
      refine ⟨g, ⟨rfl, fun o ho hr => ?_⟩, rfl⟩
      by_cases z : o = i
      · subst z; exact absurd hr h5
      · exact h2 o (by omega) hr
  · rintro n h ⟨he, h2⟩
    rw [X7_isSomeElder_l3.eq_2, he]
    simp (disch := omega) only [zc_some, zw_eq, zi_nI, nI_clamp, nI_add, nI_1, nI_lti, nI_inj, nI_ltz, nI_eq0, nI_0lt, nI_ne_m1, nI_ne_m2, nI_m1_ne, nI_m2_ne, if_true, if_false, zU_eq, zU_ne, Nat.add_zero, pk_mul, q4, Nat.lt_irrefl]
    exact ⟨_, rfl, Or.inr ⟨rfl, h2⟩⟩
/-! sets of cores as bits -/
theorem bit_or : ∀ r, r < 16 → ∀ k, k < 4 → nI r ||| (nI 1 <<< (nI k &&& 31)) = nI (r ||| 2 ^ k) ∧ r ||| 2 ^ k < 16 := by decide +kernel
theorem bit_test : ∀ r, r < 16 → ∀ k, k < 4 → ((((nI r >>> (nI k &&& 31)) &&& nI 1) = nI 1) ↔ r.testBit k = true) := by decide +kernel
theorem bit_or0 : ∀ r, r < 16 → nI r ||| nI 0 = nI r := by decide +kernel
theorem bit_orT : ∀ r, r < 16 → ∀ k, k < 4 → ∀ j, j < 4 → ((r ||| 2 ^ k).testBit j = true ↔ (r.testBit j = true ∨ j = k)) := by decide +kernel
theorem bit_zero : ∀ r, r < 16 → (r = 0 ↔ ∀ j, j < 4 → r.testBit j = false) := by decide +kernel
theorem bit_ge : ∀ r, r < 16 → ∀ j, 4 ≤ j → r.testBit j = false := by
  intro r hr j hj
  apply Nat.testBit_lt_two_pow
  calc r < 2 ^ 4 := hr
    _ ≤ 2 ^ j := Nat.pow_le_pow_right (by omega) hj
/-- the tries of a set of cores end, one after the other -/
def EndsL (S W cause : Nat) (tries : Int32) (r : Nat) : Nat → Rw → Rw → Prop
  | 0, m, m' => m' = m
  | n + 1, m, m' => ∃ m1, EndsL S W cause tries r n m m1 ∧ ((r.testBit n = true ∧ EndsR S W n cause tries m1 m') ∨ (r.testBit n = false ∧ m' = m1))
def RivB (S W NC : Nat) (m : Rw) (c ℓ : Nat) (owns : Bool) (r : Nat) : Prop := r < 16 ∧ ∀ o, o < 4 → (r.testBit o = true ↔ (o < NC ∧ RivR S W m c o ℓ owns))
/-- what the rule decides: 1 the way is free, 2 the core waits, 3 its own try ends -/
def DecR (S W NC rule : Nat) (tries : Int32) (c ℓ : Nat) (owns : Bool) (m : Rw) (how : Nat) (r : Nat) (m' : Rw) : Prop :=
  ∃ v, RivB S W NC m c ℓ owns v ∧
    ((v = 0 ∧ how = 1 ∧ r = 0 ∧ m' = m) ∨
     (v ≠ 0 ∧ rule = 1 ∧ (∃ o, o < NC ∧ RivR S W m c o ℓ owns ∧ ¬ m (cat c 5) < m (cat o 5)) ∧ how = 2 ∧ r = 0 ∧ m' = m) ∨
     (v ≠ 0 ∧ rule = 2 ∧ how = 3 ∧ r = 2 ^ c ∧ EndsR S W c 0 tries m m') ∨
     (v ≠ 0 ∧ rule ≠ 2 ∧ (rule = 1 → ∀ o, o < NC → RivR S W m c o ℓ owns → m (cat c 5) < m (cat o 5)) ∧ how = 1 ∧ r = v ∧ EndsL S W 0 tries v NC m m'))
