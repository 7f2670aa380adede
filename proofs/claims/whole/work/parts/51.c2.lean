/-! ===== the class' caches: find, the marks ===== -/
def cpO (S W ℓ : Nat) : Option Nat → Int32
  | none => -1
  | some w => nI (ℓ % S * W + w)
/-- find, with a bond that may leave out a place which doesn't have the line -/
theorem c_find {S W PL NC r c0 s0 w0 c ℓ : Nat} {g : zG} {m : Rw} {o : Option Nat} (hz : Siz4 S W PL NC) (h : SimH S W PL NC r c0 s0 w0 g m) (hc : c < NC) (hne : c ≠ c0) (hL : LOK S W NC m) (hℓ : ℓ ≤ 16) (ho : FindR S W m c ℓ o) : X0_find (4 * r + c) (nI ℓ) g = some (cpO S W ℓ o, g) := by
  obtain ⟨p1, p2, p3, p4, p5, p6, p7, p8⟩ := id hz
  have h16 := pl_16 hz
  have hs : ℓ % S < S := Nat.mod_lt _ p1
  have at' : ∀ s w, s < S → w < W → g 22 (4 * r + c) (s * W + w) = m (pos c s w) := fun s w a b => (h.1 c s w hc a b (by omega)).1
  have inS : ∀ p, p < 16 → g 22 (4 * r + c) p = nI ℓ → ∃ w, w < W ∧ p = ℓ % S * W + w ∧ m (pos c (ℓ % S) w) = nI ℓ := fun p hp e => by
    rcases Nat.lt_or_ge p (S * W) with hlt | hge
    · obtain ⟨s, w, a, b, rfl⟩ := pl_split p3 hlt
      rw [at' s w a b] at e
      rcases hL c s w hc a b with z | ⟨ℓ', z1, z2, z3⟩
      · rw [z] at e; exact absurd e (by rw [nI_m2_ne (by omega)]; exact id)
      · rw [z3, nI_inj (by omega) (by omega)] at e
        subst e
        subst z2
        exact ⟨w, b, rfl, z3⟩
    · rw [h.2.1 c p hc hge hp] at e; exact absurd e (by rw [nI_m2_ne (by omega)]; exact id)
  obtain ⟨x, k1, k2⟩ := X0_find_ok (4 * r + c) (nI ℓ) g
  rw [k1]
  cases o with
  | none =>
    rcases k2 with ⟨rfl, -⟩ | ⟨p, k3, rfl, k4, -⟩
    · rfl
    · obtain ⟨w, a, -, b⟩ := inS p k3 k4
      exact absurd b (ho w a)
  | some w =>
    obtain ⟨o1, o2, o3⟩ := ho
    have hlt := pl_lt hs o1
    have hw : g 22 (4 * r + c) (ℓ % S * W + w) = nI ℓ := by rw [at' _ _ hs o1]; exact o2
    rcases k2 with ⟨rfl, k3⟩ | ⟨p, k3, rfl, k4, k5⟩
    · exact absurd hw (k3 _ (by omega))
    · obtain ⟨w', a, rfl, b⟩ := inS p k3 k4
      have e : w' = w := by
        rcases Nat.lt_trichotomy w' w with z | z | z
        · exact absurd b (o3 w' z)
        · exact z
        · exact absurd hw (k5 _ (by omega))
      rw [e]; rfl
theorem c_find_out {S W PL NC r c0 s0 w0 c ℓ : Nat} {g : zG} {m : Rw} (h : SimH S W PL NC r c0 s0 w0 g m) (hc : NC ≤ c) (hc4 : c < 4) (hℓ : ℓ ≤ 16) : X0_find (4 * r + c) (nI ℓ) g = some (-1, g) := by
  obtain ⟨x, k1, ⟨rfl, -⟩ | ⟨p, k3, rfl, k4, -⟩⟩ := X0_find_ok (4 * r + c) (nI ℓ) g
  · exact k1
  · rw [(h.2.2.2.2 c hc hc4).1 p k3] at k4
    exact absurd k4 (by rw [nI_m2_ne (by omega)]; exact id)
theorem FindR_ex {S W : Nat} (m : Rw) (c ℓ : Nat) : ∃ o, FindR S W m c ℓ o := by
  by_cases h : ∃ w, w < W ∧ m (pos c (ℓ % S) w) = nI ℓ
  · have : ∀ n w, w ≤ n → w < W → m (pos c (ℓ % S) w) = nI ℓ → ∃ o, FindR S W m c ℓ o := by
      intro n
      induction n with
      | zero => intro w a b e; exact ⟨some w, b, e, fun q hq => by omega⟩
      | succ n ih =>
        intro w a b e
        by_cases h2 : ∃ q, q < w ∧ m (pos c (ℓ % S) q) = nI ℓ
        · obtain ⟨q, q1, q2⟩ := h2
          exact ih q (by omega) (by omega) q2
        · exact ⟨some w, b, e, fun q hq z => h2 ⟨q, hq, z⟩⟩
    obtain ⟨w, a, e⟩ := h
    exact this w w (Nat.le_refl _) a e
  · exact ⟨none, fun w hw z => h ⟨w, hw, z⟩⟩
theorem mk_ne0 {x : Int32} (h : x = nI 0 ∨ x = nI 1) : (x = 0) = (x ≠ nI 1) := by
  rcases h with rfl | rfl <;> decide
/-- the others that have the line with a mark -/
theorem c_marking {S W PL NC r c ℓ v : Nat} {b : Bool} {g : zG} {m : Rw} (hz : Siz4 S W PL NC) (h : Sim S W PL NC r g m) (hc : c < NC) (hL : LOK S W NC m) (hM : ∀ c s w, c < NC → s < S → w < W → (m (pos c s w + 2) = nI 0 ∨ m (pos c s w + 2) = nI 1) ∧ (m (pos c s w + 3) = nI 0 ∨ m (pos c s w + 3) = nI 1)) (hℓ : ℓ ≤ 16) (hv : RivB S W NC m c ℓ b v) : X3_marking r (nI c) (nI ℓ) (bI (!b)) g = some (nI v, g) := by
  obtain ⟨p1, p2, p3, p4, p5, p6, p7, p8⟩ := id hz
  have h16 := pl_16 hz
  have hs : ℓ % S < S := Nat.mod_lt _ p1
  unfold X3_marking
  refine loopM (σ := Nat × Nat) (fun n s => X3_marking_l6 n r (nI c) (nI ℓ) (bI (!b)) (nI s.2) (nI s.1) g) (fun s => s.1 ≤ 4 ∧ s.2 < 16 ∧ ∀ o, o < 4 → (s.2.testBit o = true ↔ (o < s.1 ∧ v.testBit o = true))) (fun s => 4 - s.1) (fun o => o = some (nI v, g)) ?_ zfuel (0, 0) ⟨Nat.zero_le _, by decide, fun o ho => by simp⟩ ?_
  · rintro n ⟨i, u⟩ ⟨h1, h2, h3⟩
    simp only at h1 h2 h3
    by_cases hi : i < 4
    · left
      have skip : v.testBit i = false → ∀ o, o < 4 → (u.testBit o = true ↔ (o < i + 1 ∧ v.testBit o = true)) := fun e o ho => by
        rw [h3 o ho]
        constructor
        · rintro ⟨a, b⟩; exact ⟨by omega, b⟩
        · rintro ⟨a, b⟩
          by_cases z : o = i
          · subst z; rw [e] at b; cases b
          · exact ⟨by omega, b⟩
      have take : v.testBit i = true → ∀ o, o < 4 → ((u ||| 2 ^ i).testBit o = true ↔ (o < i + 1 ∧ v.testBit o = true)) := fun e o ho => by
        rw [bit_orT u h2 i hi o ho, h3 o ho]
        constructor
        · rintro (⟨a, b⟩ | rfl)
          · exact ⟨by omega, b⟩
          · exact ⟨by omega, e⟩
        · rintro ⟨a, b⟩
          by_cases z : o = i
          · exact Or.inr z
          · exact Or.inl ⟨by omega, b⟩
      have hb := bit_or u h2 i hi
      have no : v.testBit i = false ∨ (v.testBit i = true ∧ i < NC ∧ RivR S W m c i ℓ b) := by
        cases e : v.testBit i with
        | false => exact Or.inl rfl
        | true => exact Or.inr ⟨rfl, (hv.2 i hi).mp e⟩
      by_cases e : i = c
      · have hvc : v.testBit i = false := no.resolve_right (fun z => z.2.2.1 e)
        refine ⟨(i + 1, u), ⟨hi, h2, skip hvc⟩, by simp only; omega, ?_⟩
        rw [X3_marking_l6.eq_2]
        simp (disch := omega) only [zc_some, zw_eq, zi_nI, nI_clamp, nI_add, nI_1, nI_lti, nI_inj, nI_ltz, nI_eq0, nI_0lt, nI_ne_m1, nI_ne_m2, nI_m1_ne, nI_m2_ne, if_true, if_false, zU_eq, zU_ne, Nat.add_zero, pk_mul, e, hc, show c < 4 by omega]
        unfold X3_marking_b33 X3_marking_b86
        simp (disch := omega) only [zc_some, zw_eq, zi_nI, nI_clamp, nI_add, nI_1, nI_lti, nI_inj, nI_ltz, nI_eq0, nI_0lt, nI_ne_m1, nI_ne_m2, nI_m1_ne, nI_m2_ne, if_true, if_false, zU_eq, zU_ne, Nat.add_zero, pk_mul]
      · by_cases hN : i < NC
        · obtain ⟨o, ho⟩ := FindR_ex (S := S) (W := W) m i ℓ
          have hf := c_find hz h hN (by omega) hL hℓ ho
          have red : X3_marking_l6 (n + 1) r (nI c) (nI ℓ) (bI (!b)) (nI u) (nI i) g = X3_marking_b33 (X3_marking_l6 n) r (nI c) (nI ℓ) (bI (!b)) (nI u) (nI i) (cpO S W ℓ o) g := by
            rw [X3_marking_l6.eq_2]
            simp (disch := omega) only [zc_some, zw_eq, zi_nI, nI_clamp, nI_add, nI_1, nI_lti, nI_inj, nI_ltz, nI_eq0, nI_0lt, nI_ne_m1, nI_ne_m2, nI_m1_ne, nI_m2_ne, if_true, if_false, zU_eq, zU_ne, Nat.add_zero, pk_mul, e, hi, hf]
          rw [red]
          unfold X3_marking_b33 X3_marking_b77 X3_marking_b86
          cases o with
          | none =>
            have hvc : v.testBit i = false := no.resolve_right (fun z => by
              obtain ⟨-, w, q, -⟩ := z.2.2
              exact absurd (FindR_det ho q) (by simp))
            refine ⟨(i + 1, u), ⟨hi, h2, skip hvc⟩, by simp only; omega, ?_⟩
            rw [if_pos (show cpO S W ℓ none = -1 from rfl), nI_add]
          | some w =>
            obtain ⟨o1, o2, o3⟩ := id ho
            have hlt := pl_lt hs o1
            obtain ⟨q1, q2, q3, q4, -⟩ := h.1 i (ℓ % S) w hN hs o1 (by omega)
            obtain ⟨m2, m3⟩ := hM i (ℓ % S) w hN hs o1
            simp only [cpO]
            simp (disch := omega) only [zc_some, zw_eq, zi_nI, nI_clamp, nI_add, nI_1, nI_lti, nI_inj, nI_ltz, nI_eq0, nI_0lt, nI_ne_m1, nI_ne_m2, nI_m1_ne, nI_m2_ne, if_true, if_false, zU_eq, zU_ne, Nat.add_zero, pk_mul, q3, q4, hi, mk_ne0 m2, mk_ne0 m3]
            have riv : RivR S W m c i ℓ b ↔ (m (pos i (ℓ % S) w + 3) = nI 1 ∨ (b = true ∧ m (pos i (ℓ % S) w + 2) = nI 1)) := by
              constructor
              · rintro ⟨-, w', q, z⟩
                have := FindR_det ho q
                cases this
                exact z
              · intro z; exact ⟨e, w, ho, z⟩
            have hbv : v.testBit i = true ↔ RivR S W m c i ℓ b := by
              rw [hv.2 i hi]
              exact ⟨fun z => z.2, fun z => ⟨hN, z⟩⟩
            by_cases e3 : m (pos i (ℓ % S) w + 3) = nI 1
            · refine ⟨(i + 1, u ||| 2 ^ i), ⟨hi, hb.2, take (hbv.mpr (riv.mpr (Or.inl e3)))⟩, by simp only; omega, ?_⟩
              rw [if_neg (not_not_intro e3), hb.1]
            · rw [if_pos e3]
              cases b with
              | false =>
                refine ⟨(i + 1, u), ⟨hi, h2, skip (by
                  cases z : v.testBit i with
                  | false => rfl
                  | true => exact absurd (riv.mp (hbv.mp z)) (by rintro (y | y); exact e3 y; cases y.1))⟩, by simp only; omega, ?_⟩
                simp only [Bool.not_false, bI1]
                simp (disch := omega) only [zc_some, zw_eq, zi_nI, nI_clamp, nI_add, nI_1, nI_lti, nI_inj, nI_ltz, nI_eq0, nI_0lt, nI_ne_m1, nI_ne_m2, nI_m1_ne, nI_m2_ne, if_true, if_false, zU_eq, zU_ne, Nat.add_zero, pk_mul, show ¬ (1 = 0) by omega]
              | true =>
                simp only [Bool.not_true, bI0]
                simp (disch := omega) only [zc_some, zw_eq, zi_nI, nI_clamp, nI_add, nI_1, nI_lti, nI_inj, nI_ltz, nI_eq0, nI_0lt, nI_ne_m1, nI_ne_m2, nI_m1_ne, nI_m2_ne, if_true, if_false, zU_eq, zU_ne, Nat.add_zero, pk_mul]
                by_cases e2 : m (pos i (ℓ % S) w + 2) = nI 1
                · refine ⟨(i + 1, u ||| 2 ^ i), ⟨hi, hb.2, take (hbv.mpr (riv.mpr (Or.inr ⟨rfl, e2⟩)))⟩, by simp only; omega, ?_⟩
                  rw [if_neg (not_not_intro e2), hb.1]
                · refine ⟨(i + 1, u), ⟨hi, h2, skip (by
                    cases z : v.testBit i with
                    | false => rfl
                    | true => exact absurd (riv.mp (hbv.mp z)) (by rintro (y | y); exact e3 y; exact e2 y.2))⟩, by simp only; omega, ?_⟩
                  rw [if_pos e2]
        · have hvc : v.testBit i = false := no.resolve_right (fun z => hN z.2.1)
          refine ⟨(i + 1, u), ⟨hi, h2, skip hvc⟩, by simp only; omega, ?_⟩
          have hf := c_find_out h (by omega) hi hℓ
          rw [X3_marking_l6.eq_2]
          simp (disch := omega) only [zc_some, zw_eq, zi_nI, nI_clamp, nI_add, nI_1, nI_lti, nI_inj, nI_ltz, nI_eq0, nI_0lt, nI_ne_m1, nI_ne_m2, nI_m1_ne, nI_m2_ne, if_true, if_false, zU_eq, zU_ne, Nat.add_zero, pk_mul, e, hi, hf]
          unfold X3_marking_b33 X3_marking_b86
          simp (disch := omega) only [zc_some, zw_eq, zi_nI, nI_clamp, nI_add, nI_1, nI_lti, nI_inj, nI_ltz, nI_eq0, nI_0lt, nI_ne_m1, nI_ne_m2, nI_m1_ne, nI_m2_ne, if_true, if_false, zU_eq, zU_ne, Nat.add_zero, pk_mul]
    · right
      have hie : i = 4 := by omega
      subst hie
      have huv : u = v := by
        apply Nat.eq_of_testBit_eq
        intro j
        by_cases hj : j < 4
        · have := h3 j hj
          cases hu : u.testBit j <;> cases hw : v.testBit j <;> simp_all
        · rw [bit_ge u h2 j (by omega), bit_ge v hv.1 j (by omega)]
      rw [X3_marking_l6.eq_2, huv]
      simp (disch := omega) only [zc_some, zw_eq, zi_nI, nI_clamp, nI_add, nI_1, nI_lti, nI_inj, nI_ltz, nI_eq0, nI_0lt, nI_ne_m1, nI_ne_m2, nI_m1_ne, nI_m2_ne, if_true, if_false, zU_eq, zU_ne, Nat.add_zero, pk_mul, Nat.lt_irrefl]
  · simp only; exact zfuel_ge (by omega)
/-- marks gone: of the places of one cache -/
def cUn (drop : Bool) (g g' : zG) (q : Nat) (n : Nat) : Prop :=
  (∀ p, p < n → if drop = true ∧ g 25 q p ≠ 0 then g' 22 q p = -2 ∧ g' 23 q p = nI 0 ∧ g' 24 q p = nI 0 ∧ g' 25 q p = nI 0 ∧ g' 26 q p = -2
    else g' 22 q p = g 22 q p ∧ g' 23 q p = g 23 q p ∧ g' 24 q p = nI 0 ∧ g' 25 q p = nI 0 ∧ g' 26 q p = g 26 q p) ∧
  (∀ f i j, ¬ (i = q ∧ 22 ≤ f ∧ f ≤ 26 ∧ j < n) → g' f i j = g f i j)
theorem X0_unmark_ok (q : Nat) (drop : Bool) (g : zG) : ∃ g', X0_unmark q (bI drop) g = some (0, g') ∧ cUn drop g g' q 16 := by
  unfold X0_unmark
  refine loopN (M := fun n i h => X0_unmark_l2 n q (bI drop) (nI i) h) 16 (fun i h => cUn drop g h q i) (fun o => ∃ g', o = some (0, g') ∧ cUn drop g g' q 16) ?_ ?_ (i0 := 0) ⟨fun p hp => by omega, fun _ _ _ _ => rfl⟩ (by omega) (zfuel_ge (by omega))
  · rintro n i h hi ⟨h1, h2⟩
    left
    have e25 : h 25 q i = g 25 q i := h2 _ _ _ (by omega)
    by_cases e : drop = true ∧ g 25 q i ≠ 0
    · refine ⟨zU (zU (zU (zU (zU h 22 q i (-2)) 23 q i (nI 0)) 26 q i (-2)) 24 q i (nI 0)) 25 q i (nI 0), ⟨fun p hp => ?_, fun f a j hf => ?_⟩, ?_⟩
      · by_cases z : p = i
        · subst z
          rw [if_pos e]
          simp (disch := omega) only [zU_eq, zU_ne]
          trivial
        · have := h1 p (by omega)
          simp (disch := omega) only [zU_ne]
          exact this
      · simp (disch := omega) only [zU_ne]
        exact h2 f a j (by omega)
      · rw [X0_unmark_l2.eq_2]
        have ed : bI drop = nI 1 := by rw [e.1]; rfl
        simp (disch := omega) only [zc_some, zw_eq, zi_nI, nI_clamp, nI_add, nI_1, nI_lti, nI_inj, nI_ltz, nI_eq0, nI_0lt, nI_ne_m1, nI_ne_m2, nI_m1_ne, nI_m2_ne, if_true, if_false, zU_eq, zU_ne, Nat.add_zero, pk_mul, hi, ed, show ¬ (1 = 0) by omega, e25]
        rw [if_neg e.2]
        unfold X0_unmark_b44
        simp (disch := omega) only [zc_some, zw_eq, zi_nI, nI_clamp, nI_add, nI_1, nI_lti, nI_inj, nI_ltz, nI_eq0, nI_0lt, nI_ne_m1, nI_ne_m2, nI_m1_ne, nI_m2_ne, if_true, if_false, zU_eq, zU_ne, Nat.add_zero, pk_mul, hi]
    · refine ⟨zU (zU h 24 q i (nI 0)) 25 q i (nI 0), ⟨fun p hp => ?_, fun f a j hf => ?_⟩, ?_⟩
      · by_cases z : p = i
        · subst z
          rw [if_neg e]
          simp (disch := omega) only [zU_eq, zU_ne]
          exact ⟨h2 _ _ _ (by omega), h2 _ _ _ (by omega), trivial, trivial, h2 _ _ _ (by omega)⟩
        · have := h1 p (by omega)
          simp (disch := omega) only [zU_ne]
          exact this
      · simp (disch := omega) only [zU_ne]
        exact h2 f a j (by omega)
      · rw [X0_unmark_l2.eq_2]
        cases drop with
        | false =>
          simp (disch := omega) only [zc_some, zw_eq, zi_nI, nI_clamp, nI_add, nI_1, nI_lti, nI_inj, nI_ltz, nI_eq0, nI_0lt, nI_ne_m1, nI_ne_m2, nI_m1_ne, nI_m2_ne, if_true, if_false, zU_eq, zU_ne, Nat.add_zero, pk_mul, hi, bI0]
          unfold X0_unmark_b44
          simp (disch := omega) only [zc_some, zw_eq, zi_nI, nI_clamp, nI_add, nI_1, nI_lti, nI_inj, nI_ltz, nI_eq0, nI_0lt, nI_ne_m1, nI_ne_m2, nI_m1_ne, nI_m2_ne, if_true, if_false, zU_eq, zU_ne, Nat.add_zero, pk_mul, hi]
        | true =>
          have e' : g 25 q i = 0 := Classical.byContradiction (fun z => e ⟨rfl, z⟩)
          simp (disch := omega) only [zc_some, zw_eq, zi_nI, nI_clamp, nI_add, nI_1, nI_lti, nI_inj, nI_ltz, nI_eq0, nI_0lt, nI_ne_m1, nI_ne_m2, nI_m1_ne, nI_m2_ne, if_true, if_false, zU_eq, zU_ne, Nat.add_zero, pk_mul, hi, bI1, show ¬ (1 = 0) by omega, e25, e']
          unfold X0_unmark_b44
          simp (disch := omega) only [zc_some, zw_eq, zi_nI, nI_clamp, nI_add, nI_1, nI_lti, nI_inj, nI_ltz, nI_eq0, nI_0lt, nI_ne_m1, nI_ne_m2, nI_m1_ne, nI_m2_ne, if_true, if_false, zU_eq, zU_ne, Nat.add_zero, pk_mul, hi]
  · rintro n h hu
    rw [X0_unmark_l2.eq_2]
    simp (disch := omega) only [zc_some, zw_eq, zi_nI, nI_clamp, nI_add, nI_1, nI_lti, nI_inj, nI_ltz, nI_eq0, nI_0lt, nI_ne_m1, nI_ne_m2, nI_m1_ne, nI_m2_ne, if_true, if_false, zU_eq, zU_ne, Nat.add_zero, pk_mul, Nat.lt_irrefl]
    exact ⟨h, rfl, hu⟩
