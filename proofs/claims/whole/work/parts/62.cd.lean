/-! ===== a run copied ===== -/
theorem zcp_at (g : zG) {t i t' i' n j : Nat} (h : j < n) : zcp g t i t' i' n t i j = g t' i' j := by
  unfold zcp zUA
  rw [if_pos ⟨rfl, rfl⟩]
  exact if_pos h
theorem zcp_ne (g : zG) {t i t' i' n f a j : Nat} (h : ¬ (f = t ∧ a = i)) : zcp g t i t' i' n f a j = g f a j := by
  unfold zcp zUA
  rw [if_neg h]
theorem zcq_eq (g : zG) (t i t' i' n : Nat) (k : zG → zR0) : zcq g t i t' i' n k = k (zcp g t i t' i' n) := rfl
/-- cache q as cache q' was -/
def CpC (g g' : zG) (q q' : Nat) : Prop := (∀ f j, f = 22 ∨ f = 23 ∨ f = 26 → j < 16 → g' f q j = g f q' j) ∧ (∀ j, j < 64 → g' 27 q j = g 27 q' j) ∧ (∀ f j, f = 24 ∨ f = 25 → j < 16 → g' f q j = vp_nar .boolean (g f q' j)) ∧ ∀ f i j, ¬ (i = q ∧ 22 ≤ f ∧ f ≤ 27) → g' f i j = g f i j
theorem X0_copyFrom_ok {q q' : Nat} (hq : q ≠ q') (g : zG) : ∃ g', X0_copyFrom q q' g = some (0, g') ∧ CpC g g' q q' := by
  unfold X0_copyFrom
  simp only [zcq_eq]
  obtain ⟨G, hG⟩ : ∃ G, G = zcp (zcp (zcp (zcp g 22 q 22 q' 16) 23 q 23 q' 16) 26 q 26 q' 16) 27 q 27 q' 64 := ⟨_, rfl⟩
  rw [← hG]
  have e : ∀ f j, f = 22 ∨ f = 23 ∨ f = 26 → j < 16 → G f q j = g f q' j := fun f j hf hj => by
    rw [hG]
    rcases hf with rfl | rfl | rfl
    · rw [zcp_ne _ (by omega), zcp_ne _ (by omega), zcp_ne _ (by omega), zcp_at _ hj]
    · rw [zcp_ne _ (by omega), zcp_ne _ (by omega), zcp_at _ hj, zcp_ne _ (by omega)]
    · rw [zcp_ne _ (by omega), zcp_at _ hj, zcp_ne _ (by omega), zcp_ne _ (by omega)]
  have e27 : ∀ j, j < 64 → G 27 q j = g 27 q' j := fun j hj => by
    rw [hG, zcp_at _ hj, zcp_ne _ (by omega), zcp_ne _ (by omega), zcp_ne _ (by omega)]
  have eo : ∀ f i j, ¬ (i = q ∧ (f = 22 ∨ f = 23 ∨ f = 26 ∨ f = 27)) → G f i j = g f i j := fun f i j hf => by
    rw [hG, zcp_ne _ (by omega), zcp_ne _ (by omega), zcp_ne _ (by omega), zcp_ne _ (by omega)]
  refine loopN (M := fun n i h => X0_copyFrom_l62 n q q' (nI i) h) 16 (fun i h => (∀ f j, f = 24 ∨ f = 25 → j < i → h f q j = vp_nar .boolean (g f q' j)) ∧ ∀ f a j, ¬ (a = q ∧ (f = 24 ∨ f = 25)) → h f a j = G f a j) (fun o => ∃ g', o = some (0, g') ∧ CpC g g' q q') ?_ ?_ (i0 := 0) ⟨fun f j _ hj => by omega, fun _ _ _ _ => rfl⟩ (by omega) (zfuel_ge (by omega))
  · rintro n i h hi ⟨h1, h2⟩
    left
    have a24 : h 24 q' i = g 24 q' i := by rw [h2 _ _ _ (by omega), eo _ _ _ (by omega)]
    have a25 : h 25 q' i = g 25 q' i := by rw [h2 _ _ _ (by omega), eo _ _ _ (by omega)]
    refine ⟨zU (zU h 24 q i (vp_nar .boolean (g 24 q' i))) 25 q i (vp_nar .boolean (g 25 q' i)), ⟨fun f j hf hj => ?_, fun f a j hf => ?_⟩, ?_⟩
    · by_cases z : j = i
      · subst z
        rcases hf with rfl | rfl
        · rw [zU_ne _ _ (by omega), zU_self]
        · rw [zU_self]
      · rw [zU_ne _ _ (by omega), zU_ne _ _ (by omega)]; exact h1 f j hf (by omega)
    · rw [zU_ne _ _ (by omega), zU_ne _ _ (by omega)]; exact h2 f a j hf
    · rw [X0_copyFrom_l62.eq_2]
      simp (disch := omega) only [zc_some, zw_eq, zi_nI, nI_clamp, nI_add, nI_1, nI_lti, nI_inj, nI_ltz, nI_eq0, nI_0lt, nI_ne_m1, nI_ne_m2, nI_m1_ne, nI_m2_ne, if_true, if_false, zU_eq, zU_ne, Nat.add_zero, pk_mul, hi, a24, a25]
  · rintro n h ⟨h1, h2⟩
    rw [X0_copyFrom_l62.eq_2]
    simp (disch := omega) only [zc_some, zw_eq, zi_nI, nI_clamp, nI_add, nI_1, nI_lti, nI_inj, nI_ltz, nI_eq0, nI_0lt, nI_ne_m1, nI_ne_m2, nI_m1_ne, nI_m2_ne, if_true, if_false, zU_eq, zU_ne, Nat.add_zero, pk_mul, Nat.lt_irrefl]
    refine ⟨h, rfl, fun f j hf hj => by rw [h2 _ _ _ (by omega)]; exact e f j hf hj, fun j hj => by rw [h2 _ _ _ (by omega)]; exact e27 j hj, h1, fun f i j hf => by rw [h2 _ _ _ (by omega)]; exact eo f i j (by omega)⟩
def CpN (g g' : zG) (q q' : Nat) : Prop := (∀ f, f = 1005 ∨ f = 2005 ∨ f = 3005 ∨ f = 4005 ∨ f = 5005 ∨ f = 6005 ∨ f = 7005 → g' f q 0 = g f q' 0) ∧ (∀ k, k < 7 → g' 28 q k = g 28 q' k) ∧ ∀ f i j, ¬ (i = q ∧ (f = 28 ∨ f = 1005 ∨ f = 2005 ∨ f = 3005 ∨ f = 4005 ∨ f = 5005 ∨ f = 6005 ∨ f = 7005)) → g' f i j = g f i j
theorem X1_copyFrom_ok {q q' : Nat} (hq : q ≠ q') (g : zG) : ∃ g', X1_copyFrom q q' g = some (0, g') ∧ CpN g g' q q' := by
  unfold X1_copyFrom
  simp only [zw_eq, zcq_eq]
  refine ⟨_, rfl, fun f hf => ?_, fun k hk => ?_, fun f i j hf => ?_⟩
  · rcases hf with rfl | rfl | rfl | rfl | rfl | rfl | rfl
    all_goals
      rw [zcp_ne _ (by omega)]
      simp (disch := omega) only [zU_ne, zU_eq]
  · rw [zcp_at _ hk]
    simp (disch := omega) only [zU_ne]
  · rw [zcp_ne _ (by omega)]
    simp (disch := omega) only [zU_ne]
/-- run r as run r' was -/
def CpR (g g' : zG) (r r' : Nat) : Prop := (∀ f, f = 7003 ∨ f = 8003 ∨ f = 9003 ∨ f = 10003 ∨ f = 11003 ∨ f = 12003 → g' f r 0 = g f r' 0) ∧ (∀ j, j < 68 → g' 17 r j = g 17 r' j) ∧ (∀ j, j < 3 → g' 20 r j = g 20 r' j) ∧ (∀ j, j < 192 → g' 21 r j = g 21 r' j) ∧
  (∀ c, c < 4 → (∀ f j, f = 22 ∨ f = 23 ∨ f = 26 → j < 16 → g' f (4 * r + c) j = g f (4 * r' + c) j) ∧ (∀ j, j < 64 → g' 27 (4 * r + c) j = g 27 (4 * r' + c) j) ∧ (∀ f j, f = 24 ∨ f = 25 → j < 16 → g' f (4 * r + c) j = vp_nar .boolean (g f (4 * r' + c) j)) ∧ (∀ f, f = 1005 ∨ f = 2005 ∨ f = 3005 ∨ f = 4005 ∨ f = 5005 ∨ f = 6005 ∨ f = 7005 → g' f (4 * r + c) 0 = g f (4 * r' + c) 0) ∧ ∀ k, k < 7 → g' 28 (4 * r + c) k = g 28 (4 * r' + c) k) ∧ FrD r g g'
theorem X3_copyFrom_ok {r r' : Nat} (hr : r ≠ r') (g : zG) : ∃ g', X3_copyFrom r r' g = some (0, g') ∧ CpR g g' r r' := by
  unfold X3_copyFrom
  simp only [zw_eq, zcq_eq]
  obtain ⟨G, hG⟩ : ∃ G, G = zU (zU (zU (zU (zU (zU g 8003 r 0 (g 8003 r' 0)) 9003 r 0 (g 9003 r' 0)) 7003 r 0 (g 7003 r' 0)) 10003 r 0 (g 10003 r' 0)) 11003 r 0 (g 11003 r' 0)) 12003 r 0 (g 12003 r' 0) := ⟨_, rfl⟩
  obtain ⟨G2, hG2⟩ : ∃ G2, G2 = zcp (zcp (zcp G 17 r 17 r' 68) 20 r 20 r' 3) 21 r 21 r' 192 := ⟨_, rfl⟩
  simp (disch := omega) only [zU_ne]
  rw [← hG, ← hG2]
  have e1 : ∀ f, f = 7003 ∨ f = 8003 ∨ f = 9003 ∨ f = 10003 ∨ f = 11003 ∨ f = 12003 → G2 f r 0 = g f r' 0 := fun f hf => by
    rw [hG2, zcp_ne _ (by omega), zcp_ne _ (by omega), zcp_ne _ (by omega), hG]
    rcases hf with rfl | rfl | rfl | rfl | rfl | rfl
    all_goals simp (disch := omega) only [zU_ne, zU_eq]
  have G0 : ∀ f i j, ¬ (i = r ∧ (f = 7003 ∨ f = 8003 ∨ f = 9003 ∨ f = 10003 ∨ f = 11003 ∨ f = 12003)) → G f i j = g f i j := fun f i j hf => by
    rw [hG]
    simp (disch := omega) only [zU_ne]
  have e17 : ∀ j, j < 68 → G2 17 r j = g 17 r' j := fun j hj => by
    rw [hG2, zcp_ne _ (by omega), zcp_ne _ (by omega), zcp_at _ hj]; exact G0 _ _ _ (by omega)
  have e20 : ∀ j, j < 3 → G2 20 r j = g 20 r' j := fun j hj => by
    rw [hG2, zcp_ne _ (by omega), zcp_at _ hj, zcp_ne _ (by omega)]; exact G0 _ _ _ (by omega)
  have e21 : ∀ j, j < 192 → G2 21 r j = g 21 r' j := fun j hj => by
    rw [hG2, zcp_at _ hj, zcp_ne _ (by omega), zcp_ne _ (by omega)]; exact G0 _ _ _ (by omega)
  have eo : ∀ f i j, ¬ (i = r ∧ (f = 17 ∨ f = 20 ∨ f = 21 ∨ f = 7003 ∨ f = 8003 ∨ f = 9003 ∨ f = 10003 ∨ f = 11003 ∨ f = 12003)) → G2 f i j = g f i j := fun f i j hf => by
    rw [hG2, zcp_ne _ (by omega), zcp_ne _ (by omega), zcp_ne _ (by omega)]; exact G0 _ _ _ (by omega)
  refine loopN (M := fun n i h => X3_copyFrom_l95 n r r' (nI i) h) 4 (fun i h => (∀ c, c < i → (∀ f j, f = 22 ∨ f = 23 ∨ f = 26 → j < 16 → h f (4 * r + c) j = g f (4 * r' + c) j) ∧ (∀ j, j < 64 → h 27 (4 * r + c) j = g 27 (4 * r' + c) j) ∧ (∀ f j, f = 24 ∨ f = 25 → j < 16 → h f (4 * r + c) j = vp_nar .boolean (g f (4 * r' + c) j)) ∧ (∀ f, f = 1005 ∨ f = 2005 ∨ f = 3005 ∨ f = 4005 ∨ f = 5005 ∨ f = 6005 ∨ f = 7005 → h f (4 * r + c) 0 = g f (4 * r' + c) 0) ∧ ∀ k, k < 7 → h 28 (4 * r + c) k = g 28 (4 * r' + c) k) ∧ ∀ f a j, ¬ (4 * r ≤ a ∧ a < 4 * r + 4 ∧ ((22 ≤ f ∧ f ≤ 28) ∨ f = 1005 ∨ f = 2005 ∨ f = 3005 ∨ f = 4005 ∨ f = 5005 ∨ f = 6005 ∨ f = 7005)) → h f a j = G2 f a j) (fun o => ∃ g', o = some (0, g') ∧ CpR g g' r r') ?_ ?_ (i0 := 0) ⟨fun c hc => by omega, fun _ _ _ _ => rfl⟩ (by omega) (zfuel_ge (by omega))
  · rintro n i h hi ⟨h1, h2⟩
    left
    obtain ⟨ga, a1, a2, a3, a4, a5⟩ := X0_copyFrom_ok (q := 4 * r + i) (q' := 4 * r' + i) (by omega) h
    obtain ⟨gb, b1, b2, b3, b4⟩ := X1_copyFrom_ok (q := 4 * r + i) (q' := 4 * r' + i) (by omega) ga
    have src : ∀ f j, ((22 ≤ f ∧ f ≤ 28) ∨ f = 1005 ∨ f = 2005 ∨ f = 3005 ∨ f = 4005 ∨ f = 5005 ∨ f = 6005 ∨ f = 7005) → h f (4 * r' + i) j = g f (4 * r' + i) j := fun f j hf => by
      rw [h2 _ _ _ (by omega), eo _ _ _ (by omega)]
    refine ⟨gb, ⟨fun c hc => ?_, fun f a j hf => ?_⟩, ?_⟩
    · by_cases z : c = i
      · subst z
        refine ⟨fun f j hf hj => ?_, fun j hj => ?_, fun f j hf hj => ?_, fun f hf => ?_, fun k hk => ?_⟩
        · rw [b4 _ _ _ (by omega), a2 f j hf hj]; exact src f j (by omega)
        · rw [b4 _ _ _ (by omega), a3 j hj]; exact src 27 j (by omega)
        · rw [b4 _ _ _ (by omega), a4 f j hf hj, src f j (by omega)]
        · rw [b2 f hf, a5 _ _ _ (by omega)]; exact src f 0 (by omega)
        · rw [b3 k hk, a5 _ _ _ (by omega)]; exact src 28 k (by omega)
      · obtain ⟨y1, y2, y3, y4, y5⟩ := h1 c (by omega)
        have ee : ∀ f j, gb f (4 * r + c) j = h f (4 * r + c) j := fun f j => by rw [b4 _ _ _ (by omega), a5 _ _ _ (by omega)]
        simp only [ee]
        exact ⟨y1, y2, y3, y4, y5⟩
    · rw [b4 _ _ _ (by omega), a5 _ _ _ (by omega)]; exact h2 f a j hf
    · rw [X3_copyFrom_l95.eq_2]
      simp (disch := omega) only [zc_some, zw_eq, zi_nI, nI_clamp, nI_add, nI_1, nI_lti, nI_inj, nI_ltz, nI_eq0, nI_0lt, nI_ne_m1, nI_ne_m2, nI_m1_ne, nI_m2_ne, if_true, if_false, zU_eq, zU_ne, Nat.add_zero, pk_mul, hi, a1, b1]
  · rintro n h ⟨h1, h2⟩
    rw [X3_copyFrom_l95.eq_2]
    simp (disch := omega) only [zc_some, zw_eq, zi_nI, nI_clamp, nI_add, nI_1, nI_lti, nI_inj, nI_ltz, nI_eq0, nI_0lt, nI_ne_m1, nI_ne_m2, nI_m1_ne, nI_m2_ne, if_true, if_false, zU_eq, zU_ne, Nat.add_zero, pk_mul, Nat.lt_irrefl]
    refine ⟨h, rfl, fun f hf => by rw [h2 _ _ _ (by omega)]; exact e1 f hf, fun j hj => by rw [h2 _ _ _ (by omega)]; exact e17 j hj, fun j hj => by rw [h2 _ _ _ (by omega)]; exact e20 j hj, fun j hj => by rw [h2 _ _ _ (by omega)]; exact e21 j hj, h1, fun f i j hf hf2 => ?_⟩
    unfold ofRun at hf
    rw [h2 _ _ _ (by omega)]; exact eo f i j (by omega)
/-- a copied run's bond -/
theorem Sim_copy {S W PL NC r r' : Nat} {g g' : zG} {m : Rw} (hz : Siz4 S W PL NC) (hp : PI S W PL NC m) (h : Sim S W PL NC r' g m) (hc : CpR g g' r r') : Sim S W PL NC r g' m := by
  obtain ⟨p1, p2, p3, p4, p5, p6, p7, p8⟩ := id hz
  have h16 := pl_16 hz
  obtain ⟨c1, c2, c3, c4, c5, -⟩ := hc
  obtain ⟨h1, h2, h3, ⟨s1, s2, ⟨n, s3, s4, s5, s6⟩, s7, s8⟩, h5⟩ := h
  have bit : ∀ x : Int32, x = nI 0 ∨ x = nI 1 → vp_nar .boolean x = x := fun x hx => by
    rcases hx with rfl | rfl
    · exact zvb0
    · exact zvb1
  refine ⟨fun c s w a1 a2 a3 a4 => ?_, fun c p a1 a2 a3 => ?_, fun c a1 => ?_, ⟨fun a ha => ?_, fun k hk => ?_, ⟨n, s3, s4, ?_, fun i hi => ?_⟩, ?_, ?_⟩, fun c a1 a2 => ⟨fun p a3 => ?_, fun k a3 => ?_⟩⟩
  · obtain ⟨d1, d2, d3, -, -⟩ := c5 c (by omega)
    have hlt := pl_lt a2 a3
    obtain ⟨q1, q2, q3, q4, q5, q6, q7⟩ := h1 c s w a1 a2 a3 a4
    obtain ⟨m2, m3⟩ := hp.mk c s w a1 a2 a3
    unfold PlS
    rw [d1 22 _ (by omega) (by omega), d1 23 _ (by omega) (by omega), d1 26 _ (by omega) (by omega), d3 24 _ (by omega) (by omega), d3 25 _ (by omega) (by omega), bit _ (by rw [q3]; exact m2), bit _ (by rw [q4]; exact m3)]
    exact ⟨q1, q2, q3, q4, q5, q6, fun x y k hk => by rw [d2 _ (by omega)]; exact q7 x y k hk⟩
  · obtain ⟨d1, -⟩ := c5 c (by omega)
    rw [d1 22 _ (by omega) a3]; exact h2 c p a1 a2 a3
  · obtain ⟨-, -, -, d4, d5⟩ := c5 c (by omega)
    obtain ⟨n1, n2, n3, n4, n5, n6, n7, n8⟩ := h3 c a1
    unfold NuS
    rw [d4 1005 (by omega), d4 2005 (by omega), d4 3005 (by omega), d4 4005 (by omega), d4 5005 (by omega), d4 6005 (by omega), d4 7005 (by omega)]
    exact ⟨n1, n2, n3, n4, n5, n6, n7, fun k hk => by rw [d5 k hk]; exact n8 k hk⟩
  · rw [c2 _ (by omega)]; exact s1 a ha
  · rw [c3 _ hk]; exact s2 k hk
  · rw [c1 _ (by omega)]; exact s5
  · rw [c4 _ (by omega)]; exact s6 i hi
  · rw [c1 _ (by omega)]; exact s7
  · rw [c1 _ (by omega)]; exact s8
  · obtain ⟨d1, -⟩ := c5 c a2
    rw [d1 22 _ (by omega) a3]; exact (h5 c a1 a2).1 p a3
  · obtain ⟨-, -, -, -, d5⟩ := c5 c a2
    rw [d5 k a3]; exact (h5 c a1 a2).2 k a3
/-- another run's bond stays -/
theorem Sim_other {S W PL NC r r' : Nat} {g g' : zG} {m : Rw} (hz : Siz4 S W PL NC) (hr : r ≠ r') (h : Sim S W PL NC r' g m) (hf : FrD r g g') : Sim S W PL NC r' g' m := by
  obtain ⟨p1, p2, p3, p4, p5, p6, p7, p8⟩ := id hz
  obtain ⟨h1, h2, h3, h4, h5⟩ := h
  have c : ∀ f c j, c < 4 → (22 ≤ f ∧ f ≤ 28) ∨ f = 1005 ∨ f = 2005 ∨ f = 3005 ∨ f = 4005 ∨ f = 5005 ∨ f = 6005 ∨ f = 7005 → g' f (4 * r' + c) j = g f (4 * r' + c) j := fun f c j a b => hf _ _ _ (by unfold ofRun; omega) (by omega)
  have s : ∀ f j, f = 17 ∨ f = 20 ∨ f = 21 ∨ f = 7003 ∨ f = 10003 ∨ f = 11003 → g' f r' j = g f r' j := fun f j a => hf _ _ _ (by unfold ofRun; omega) (by omega)
  refine ⟨fun c' s' w a1 a2 a3 a4 => (h1 c' s' w a1 a2 a3 a4).congr p6 (fun f x y => c f c' _ (by omega) (by omega)) (fun k _ => c 27 c' _ (by omega) (by omega)) (fun k _ => rfl), fun c' p a1 a2 a3 => by rw [c 22 c' _ (by omega) (by omega)]; exact h2 c' p a1 a2 a3, fun c' a1 => (h3 c' a1).congr (fun f j a => c f c' j (by omega) (by omega)) (fun k _ => rfl), h4.congr p6 (fun f j a => s f j a) (fun i _ => rfl), fun c' a1 a2 => ⟨fun p a3 => by rw [c 22 c' _ (by omega) (by omega)]; exact (h5 c' a1 a2).1 p a3, fun k a3 => by rw [c 28 c' _ (by omega) (by omega)]; exact (h5 c' a1 a2).2 k a3⟩⟩
