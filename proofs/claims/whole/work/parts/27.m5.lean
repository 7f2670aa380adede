/-! ===== a line comes into a place ===== -/
/-- every place has no line, or one of the 17 whose set it is in -/
def LOK (S W NC : Nat) (m : Rw) : Prop := ∀ c s w, c < NC → s < S → w < W → m (pos c s w) = -2 ∨ ∃ ℓ, ℓ ≤ 16 ∧ ℓ % S = s ∧ m (pos c s w) = nI ℓ
/-- the line is laid in (line, how, no marks, the words; it is counted) -/
def rLay (PL : Nat) (have' : Bool) (q ℓ : Nat) (m : Rw) : Rw := fun i =>
  if i = q then nI ℓ else if i = q + 1 then nI (if have' = true then 1 else 2) else if i = q + 2 then nI 0 else if i = q + 3 then nI 0
  else if ℓ ≠ 16 ∧ q + 5 ≤ i ∧ i < q + 5 + PL then m (254 + PL * ℓ + (i - (q + 5))) else if i = 1 then m 1 + nI 1 else m i
/-- .. it is owned, it is used -/
def rUse (owns : Bool) (q : Nat) (m : Rw) : Rw :=
  let m1 := if owns = true then upd m (q + 1) (nI 3) else m
  upd m1 (q + 4) (m1 0)
def BrgR (S W PL NC : Nat) (tries : Int32) (c ℓ : Nat) (owns : Bool) (m : Rw) (o : Option Nat) (m' : Rw) : Prop :=
  ∃ o0, FindR S W m c ℓ o0 ∧
    ((o0 = none ∧ sroom m (pos c (ℓ % S)) W 0 none = none ∧ o = none ∧ EndsR S W c 1 tries m m') ∨
     (∃ w m2 h, o0 = none ∧ sroom m (pos c (ℓ % S)) W 0 none = some w ∧ o = some w ∧ w < W ∧
        OthR S W PL c ℓ owns NC (if m (pos c (ℓ % S) w) ≠ -2 ∧ m (pos c (ℓ % S) w + 1) = nI 3 then rWB PL m (pos c (ℓ % S) w) else m) h m2 ∧ m' = rUse owns (pos c (ℓ % S) w) (rLay PL h (pos c (ℓ % S) w) ℓ m2)) ∨
     (∃ w m2 h, o0 = some w ∧ o = some w ∧ w < W ∧ OthR S W PL c ℓ owns NC m h m2 ∧ m' = rUse owns (pos c (ℓ % S) w) m2))
theorem sroom_lt {m : Rw} {p : Nat → Nat} : ∀ (n k : Nat) (best : Option Nat) {w : Nat}, (∀ j, best = some j → j < n + k) → sroom m p n k best = some w → w < n + k := by
  intro n
  induction n with
  | zero => intro k best w hb h; exact hb w h
  | succ n ih =>
    intro k best w hb h
    rw [sroom] at h
    split at h
    · cases h; omega
    · split at h
      · have := ih (k + 1) (some k) (fun j hj => by cases hj; omega) h
        omega
      · have := ih (k + 1) best (fun j hj => by have := hb j hj; omega) h
        omega
theorem X7_brings_end {g : zG} {q : Nat} (hq : q + 9 ≤ 2766) (b : Bool) : ∃ g', X7_brings_b212 (bI b) (nI q) g = some (nI q, g') ∧ g' 43 0 = rUse b q (g 43 0) ∧ FrN g g' := by
  unfold X7_brings_b212 X7_brings_b226
  cases b with
  | false =>
    refine ⟨zU g 43 0 (q + 4) (g 43 0 0), by simp (disch := omega) only [zc_some, zw_eq, zi_nI, nI_clamp, nI_add, nI_1, nI_lti, nI_inj, nI_ltz, nI_eq0, nI_0lt, nI_ne_m1, nI_ne_m2, nI_m1_ne, nI_m2_ne, if_true, if_false, zU_eq, zU_ne, Nat.add_zero, pk_mul, bI0], ?_, (FrN.rfl' g).row _ _⟩
    rw [zU_row]; rfl
  | true =>
    refine ⟨zU (zU g 43 0 (q + 1) (nI 3)) 43 0 (q + 4) (zU g 43 0 (q + 1) (nI 3) 43 0 0), ?_, ?_, ((FrN.rfl' g).row _ _).row _ _⟩
    · simp (disch := omega) only [bI1, nI_eq0, if_false, zi_nI, nI_add, zw_eq, nI_clamp, Nat.add_zero, show ¬ (1 = 0) by omega]
    · rw [zU_row, zU_row]; rfl
theorem X7_brings_lay {S W PL NC : Nat} {g : zG} (hP : MPar S W PL NC g) {q ℓ : Nat} (hq : q + 9 ≤ 2766) (hq0 : 318 ≤ q) (hℓ : ℓ ≤ 16) (h b : Bool) : ∃ g', X7_brings_b123 (nI ℓ) (bI b) (nI q) (nI (q + 1)) (nI (if h = true then 1 else 2)) (zU g 43 0 q (nI ℓ)) = some (nI q, g') ∧ g' 43 0 = rUse b q (rLay PL h q ℓ (g 43 0)) ∧ FrN g g' := by
  obtain ⟨⟨p1, p2, p3, p4, p5, p6, p7, p8⟩, q1, q2, q3, q4⟩ := id hP
  unfold X7_brings_b123
  simp (disch := omega) only [zc_some, zw_eq, zi_nI, nI_clamp, nI_add, nI_1, nI_lti, nI_inj, nI_ltz, nI_eq0, nI_0lt, nI_ne_m1, nI_ne_m2, nI_m1_ne, nI_m2_ne, if_true, if_false, zU_eq, zU_ne, Nat.add_zero, pk_mul]
  obtain ⟨g4, hg4⟩ : ∃ g4, g4 = zU (zU (zU (zU g 43 0 q (nI ℓ)) 43 0 (q + 1) (nI (if h = true then 1 else 2))) 43 0 (q + 2) (nI 0)) 43 0 (q + 3) (nI 0) := ⟨_, rfl⟩
  rw [← hg4]
  have hf4 : FrN g g4 := by rw [hg4]; exact ((((FrN.rfl' g).row _ _).row _ _).row _ _).row _ _
  have hr4 : ∀ i, g4 43 0 i = if i = q then nI ℓ else if i = q + 1 then nI (if h = true then 1 else 2) else if i = q + 2 then nI 0 else if i = q + 3 then nI 0 else g 43 0 i := by
    intro i
    rw [hg4]
    simp only [zU_row]
    unfold upd
    by_cases z0 : i = q
    · rw [if_neg (by omega), if_neg (by omega), if_neg (by omega), if_pos z0, if_pos z0]
    · by_cases z1 : i = q + 1
      · rw [if_neg (by omega), if_neg (by omega), if_pos z1, if_neg z0, if_pos z1]
      · by_cases z2 : i = q + 2
        · rw [if_neg (by omega), if_pos z2, if_neg z0, if_neg z1, if_pos z2]
        · by_cases z3 : i = q + 3
          · rw [if_pos z3, if_neg z0, if_neg z1, if_neg z2, if_pos z3]
          · rw [if_neg z3, if_neg z2, if_neg z1, if_neg z0, if_neg z0, if_neg z1, if_neg z2, if_neg z3]
  have fin : ∀ (h5 : zG), FrN g h5 → (∀ i, h5 43 0 i = if ℓ ≠ 16 ∧ q + 5 ≤ i ∧ i < q + 5 + PL then g 43 0 (254 + PL * ℓ + (i - (q + 5))) else g4 43 0 i) → ∃ g', X7_brings_b202 (bI b) (nI q) h5 = some (nI q, g') ∧ g' 43 0 = rUse b q (rLay PL h q ℓ (g 43 0)) ∧ FrN g g' := by
    intro h5 hf5 hr5
    unfold X7_brings_b202
    obtain ⟨g', k1, k2, k3⟩ := X7_brings_end (g := zU h5 43 0 1 (h5 43 0 1 + nI 1)) hq b
    refine ⟨g', by simp (disch := omega) only [zc_some, zw_eq, zi_nI, nI_clamp, nI_add, nI_1, nI_lti, nI_inj, nI_ltz, nI_eq0, nI_0lt, nI_ne_m1, nI_ne_m2, nI_m1_ne, nI_m2_ne, if_true, if_false, zU_eq, zU_ne, Nat.add_zero, pk_mul, k1], ?_, (hf5.row _ _).trans k3⟩
    rw [k2, zU_row]
    congr 1
    funext i
    unfold rLay upd
    have h51 : h5 43 0 1 = g 43 0 1 := by
      rw [hr5, if_neg (by omega), hr4, if_neg (by omega), if_neg (by omega), if_neg (by omega), if_neg (by omega)]
    by_cases zz : i = 1
    · subst zz
      rw [if_pos rfl, if_neg (by omega), if_neg (by omega), if_neg (by omega), if_neg (by omega), if_neg (by omega), if_pos rfl, h51]
    · rw [if_neg zz, hr5, hr4]
      by_cases z : ℓ ≠ 16 ∧ q + 5 ≤ i ∧ i < q + 5 + PL
      · rw [if_pos z, if_neg (by omega), if_neg (by omega), if_neg (by omega), if_neg (by omega), if_pos z]
      · rw [if_neg z, if_neg z, if_neg zz]
  by_cases e : ℓ = 16
  · subst e
    have a1 : g4 31 0 2 = nI PL := by rw [hf4 _ _ _ (by decide)]; exact q3
    obtain ⟨n, hn⟩ : ∃ n, zfuel = n + 1 := ⟨99999, rfl⟩
    rw [hn, X7_brings_l147.eq_2]
    simp (disch := omega) only [zc_some, zw_eq, zi_nI, nI_clamp, nI_add, nI_1, nI_lti, nI_inj, nI_ltz, nI_eq0, nI_0lt, nI_ne_m1, nI_ne_m2, nI_m1_ne, nI_m2_ne, if_true, if_false, zU_eq, zU_ne, Nat.add_zero, pk_mul, a1]
    rw [if_pos p5]
    exact fin g4 hf4 (fun i => by rw [if_neg (fun z => z.1 rfl)])
  · have hml := mul_le_64 p6 (show ℓ < 16 by omega)
    refine loopN (M := fun n i h => X7_brings_l147 (fun (v3 : Int32) (v5 : Int32) g => X7_brings_b202 v3 v5 g) n (nI ℓ) (bI b) (nI q) (nI i) h) PL (fun k h5 => FrN g h5 ∧ ∀ i, h5 43 0 i = if q + 5 ≤ i ∧ i < q + 5 + k then g 43 0 (254 + PL * ℓ + (i - (q + 5))) else g4 43 0 i) (fun o => ∃ g', o = some (nI q, g') ∧ g' 43 0 = rUse b q (rLay PL h q ℓ (g 43 0)) ∧ FrN g g') ?_ ?_ (i0 := 0) ⟨hf4, fun i => by rw [if_neg (by omega)]⟩ (by omega) (zfuel_ge (by omega))
    · rintro n k h5 hk ⟨hf5, hr5⟩
      left
      have a1 : h5 31 0 2 = nI PL := by rw [hf5 _ _ _ (by decide)]; exact q3
      have a2 : h5 43 0 (254 + PL * ℓ + k) = g 43 0 (254 + PL * ℓ + k) := by
        rw [hr5, if_neg (by omega), hr4, if_neg (by omega), if_neg (by omega), if_neg (by omega), if_neg (by omega)]
      refine ⟨zU h5 43 0 (q + 5 + k) (g 43 0 (254 + PL * ℓ + k)), ⟨hf5.row _ _, fun i => ?_⟩, ?_⟩
      · rw [zU_row]
        unfold upd
        by_cases z : i = q + 5 + k
        · rw [if_pos z, if_pos (by omega)]
          congr 1
          omega
        · rw [if_neg z, hr5]
          by_cases z2 : q + 5 ≤ i ∧ i < q + 5 + k
          · rw [if_pos z2, if_pos (show q + 5 ≤ i ∧ i < q + 5 + (k + 1) by omega)]
          · rw [if_neg z2, if_neg (show ¬ (q + 5 ≤ i ∧ i < q + 5 + (k + 1)) by omega)]
      · rw [X7_brings_l147.eq_2]
        simp (disch := omega) only [zc_some, zw_eq, zi_nI, nI_clamp, nI_add, nI_1, nI_lti, nI_inj, nI_ltz, nI_eq0, nI_0lt, nI_ne_m1, nI_ne_m2, nI_m1_ne, nI_m2_ne, if_true, if_false, zU_eq, zU_ne, Nat.add_zero, pk_mul, a1, a2, hk, e]
    · rintro n h5 ⟨hf5, hr5⟩
      have a1 : h5 31 0 2 = nI PL := by rw [hf5 _ _ _ (by decide)]; exact q3
      rw [X7_brings_l147.eq_2]
      simp (disch := omega) only [zc_some, zw_eq, zi_nI, nI_clamp, nI_add, nI_1, nI_lti, nI_inj, nI_ltz, nI_eq0, nI_0lt, nI_ne_m1, nI_ne_m2, nI_m1_ne, nI_m2_ne, if_true, if_false, zU_eq, zU_ne, Nat.add_zero, pk_mul, a1, Nat.lt_irrefl]
      refine fin h5 hf5 (fun i => ?_)
      rw [hr5]
      by_cases z : q + 5 ≤ i ∧ i < q + 5 + PL
      · rw [if_pos z, if_pos ⟨e, z⟩]
      · rw [if_neg z, if_neg (fun y => z y.2)]
