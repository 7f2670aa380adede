/-! ===== the reader: the text ===== -/
theorem X2_clear_ok (g : zG) : ∃ g', X2_clear 1 g = some (0, g') ∧ g' 6001 1 0 = nI 0 ∧ g' 7001 1 0 = nI 0 ∧ (∀ c, c < 4 → g' 11 1 c = nI 0) ∧ (∀ a, a < 64 → g' 15 1 a = nI 0) ∧ FrPc g g' := by
  unfold X2_clear
  simp only [zw_eq]
  obtain ⟨G, hG⟩ : ∃ G, G = zU (zU (zU (zU (zU (zU (zU g 1001 1 0 (nI 0)) 2001 1 0 (nI 0)) 3001 1 0 (nI 0)) 4001 1 0 (nI 0)) 5001 1 0 (nI 0)) 6001 1 0 (nI 0)) 7001 1 0 (nI 0) := ⟨_, rfl⟩
  rw [← hG]
  have F : FrPc g G := by
    rw [hG]
    exact ((((((((FrPc.rfl' g).u _ (by omega)).u _ (by omega)).u _ (by omega)).u _ (by omega)).u _ (by omega)).u _ (by omega)).u _ (by omega))
  have e6 : G 6001 1 0 = nI 0 := by rw [hG, zU_ne _ _ (by omega), zU_self]
  have e7 : G 7001 1 0 = nI 0 := by rw [hG, zU_self]
  refine loopN (M := fun n i h => X2_clear_l37 (fun (r0 : Nat) (v1 : Int32) g => X2_clear_l57 zfuel r0 v1 g) n 1 (nI i) h) 4 (fun i h => (∀ c, c < i → h 11 1 c = nI 0) ∧ (∀ f a j, f ≠ 11 → h f a j = G f a j) ∧ FrPc g h) (fun o => ∃ g', o = some (0, g') ∧ g' 6001 1 0 = nI 0 ∧ g' 7001 1 0 = nI 0 ∧ (∀ c, c < 4 → g' 11 1 c = nI 0) ∧ (∀ a, a < 64 → g' 15 1 a = nI 0) ∧ FrPc g g') ?_ ?_ (i0 := 0) ⟨fun c hc => by omega, fun _ _ _ _ => rfl, F⟩ (by omega) (zfuel_ge (by omega))
  · rintro n i h hi ⟨h1, h2, h3⟩
    left
    refine ⟨zU h 11 1 i (nI 0), ⟨fun c hc => ?_, fun f a j x => by rw [zU_ne _ _ (by omega)]; exact h2 f a j x, h3.u _ (by omega)⟩, ?_⟩
    · by_cases z : c = i
      · rw [z, zU_self]
      · rw [zU_ne _ _ (by omega)]; exact h1 c (by omega)
    · rw [X2_clear_l37.eq_2]
      simp (disch := omega) only [zc_some, zw_eq, zi_nI, nI_clamp, nI_add, nI_1, nI_lti, nI_inj, nI_ltz, nI_eq0, nI_0lt, nI_ne_m1, nI_ne_m2, nI_m1_ne, nI_m2_ne, if_true, if_false, zU_eq, zU_ne, Nat.add_zero, pk_mul, hi]
  · rintro n h ⟨h1, h2, h3⟩
    rw [X2_clear_l37.eq_2]
    simp (disch := omega) only [zc_some, zw_eq, zi_nI, nI_clamp, nI_add, nI_1, nI_lti, nI_inj, nI_ltz, nI_eq0, nI_0lt, nI_ne_m1, nI_ne_m2, nI_m1_ne, nI_m2_ne, if_true, if_false, zU_eq, zU_ne, Nat.add_zero, pk_mul, Nat.lt_irrefl]
    refine loopN (M := fun n i h' => X2_clear_l57 n 1 (nI i) h') 64 (fun i h' => (∀ a, a < i → h' 15 1 a = nI 0) ∧ (∀ f a j, f ≠ 15 → h' f a j = h f a j) ∧ FrPc g h') (fun o => ∃ g', o = some (0, g') ∧ g' 6001 1 0 = nI 0 ∧ g' 7001 1 0 = nI 0 ∧ (∀ c, c < 4 → g' 11 1 c = nI 0) ∧ (∀ a, a < 64 → g' 15 1 a = nI 0) ∧ FrPc g g') ?_ ?_ (i0 := 0) ⟨fun c hc => by omega, fun _ _ _ _ => rfl, h3⟩ (by omega) (zfuel_ge (by omega))
    · rintro n i h' hi ⟨k1, k2, k3⟩
      left
      refine ⟨zU h' 15 1 i (nI 0), ⟨fun a ha => ?_, fun f a j x => by rw [zU_ne _ _ (by omega)]; exact k2 f a j x, k3.u _ (by omega)⟩, ?_⟩
      · by_cases z : a = i
        · rw [z, zU_self]
        · rw [zU_ne _ _ (by omega)]; exact k1 a (by omega)
      · rw [X2_clear_l57.eq_2]
        simp (disch := omega) only [zc_some, zw_eq, zi_nI, nI_clamp, nI_add, nI_1, nI_lti, nI_inj, nI_ltz, nI_eq0, nI_0lt, nI_ne_m1, nI_ne_m2, nI_m1_ne, nI_m2_ne, if_true, if_false, zU_eq, zU_ne, Nat.add_zero, pk_mul, hi]
    · rintro n h' ⟨k1, k2, k3⟩
      rw [X2_clear_l57.eq_2]
      simp (disch := omega) only [zc_some, zw_eq, zi_nI, nI_clamp, nI_add, nI_1, nI_lti, nI_inj, nI_ltz, nI_eq0, nI_0lt, nI_ne_m1, nI_ne_m2, nI_m1_ne, nI_m2_ne, if_true, if_false, zU_eq, zU_ne, Nat.add_zero, pk_mul, Nat.lt_irrefl]
      refine ⟨h', rfl, ?_, ?_, fun c hc => ?_, k1, k3⟩
      · rw [k2 _ _ _ (by omega), h2 _ _ _ (by omega)]; exact e6
      · rw [k2 _ _ _ (by omega), h2 _ _ _ (by omega)]; exact e7
      · rw [k2 _ _ _ (by omega)]; exact h1 c hc
/-- the reader forgets which ADDRESSES were told -/
theorem X5_given_ok (k : Int32 → zG → zR0) (g : zG) : ∃ g', X5_readText_l51 k zfuel (nI 0) g = zc (X5_advance g') (fun x1 g2 => k (nI 0) g2) ∧ (∀ a, a < 64 → g' 16 1 a = nI 0) ∧ (∀ f i j, f ≠ 16 → g' f i j = g f i j) ∧ FrPc g g' := by
  refine loopN (M := fun n i h => X5_readText_l51 k n (nI i) h) 64 (fun i h => (∀ a, a < i → h 16 1 a = nI 0) ∧ (∀ f a j, f ≠ 16 → h f a j = g f a j) ∧ FrPc g h) (fun o => ∃ g', o = zc (X5_advance g') (fun x1 g2 => k (nI 0) g2) ∧ (∀ a, a < 64 → g' 16 1 a = nI 0) ∧ (∀ f i j, f ≠ 16 → g' f i j = g f i j) ∧ FrPc g g') ?_ ?_ (i0 := 0) ⟨fun c hc => by omega, fun _ _ _ _ => rfl, FrPc.rfl' g⟩ (by omega) (zfuel_ge (by omega))
  · rintro n i h hi ⟨h1, h2, h3⟩
    left
    refine ⟨zU h 16 1 i (nI 0), ⟨fun c hc => ?_, fun f a j x => by rw [zU_ne _ _ (by omega)]; exact h2 f a j x, h3.u _ (by omega)⟩, ?_⟩
    · by_cases z : c = i
      · rw [z, zU_self]
      · rw [zU_ne _ _ (by omega)]; exact h1 c (by omega)
    · rw [X5_readText_l51.eq_2]
      simp (disch := omega) only [zc_some, zw_eq, zi_nI, nI_clamp, nI_add, nI_1, nI_lti, nI_inj, nI_ltz, nI_eq0, nI_0lt, nI_ne_m1, nI_ne_m2, nI_m1_ne, nI_m2_ne, if_true, if_false, zU_eq, zU_ne, Nat.add_zero, pk_mul, hi]
  · rintro n h ⟨h1, h2, h3⟩
    rw [X5_readText_l51.eq_2, if_neg (by rw [nI_lti (by omega) (by omega)]; omega)]
    exact ⟨h, rfl, h1, h2, h3⟩
theorem X7_text_start {v : Nat} (gm : zG) : ∃ gm1, X7_readText (nI v) gm = zc (X7_nextToken gm1) (fun x1 g2 => zc (X7_readLine g2) (fun x4 g5 => if x4 = -1 then some (-1, g5) else X7_readText_l67 zfuel g5)) ∧ gm1 22007 0 0 = nI v ∧ gm1 24007 0 0 = nI 0 ∧ gm1 29007 0 0 = nI 0 ∧ gm1 30007 0 0 = nI 0 ∧ gm1 10007 0 0 = nI 0 ∧ gm1 32 0 5 = nI 0 ∧ (∀ a, a < 64 → gm1 34 0 a = -1) ∧ FrPm gm gm1 := by
  have c5 : (nI 5).toNatClampNeg = 5 := nI_clamp (by omega)
  unfold X7_readText
  simp only [zw_eq]
  rw [zi_nI (by omega) (by omega), c5]
  obtain ⟨G, hG⟩ : ∃ G, G = zU (zU (zU (zU (zU (zU gm 22007 0 0 (nI v)) 24007 0 0 (nI 0)) 29007 0 0 (nI 0)) 30007 0 0 (nI 0)) 10007 0 0 (nI 0)) 32 0 5 (nI 0) := ⟨_, rfl⟩
  rw [← hG]
  have F : FrPm gm G := by
    rw [hG]
    exact ((((((FrPm.rfl' gm).u _ (by omega)).u _ (by omega)).u _ (by omega)).u _ (by omega)).u _ (by omega)).u _ (by omega)
  refine loopN (M := fun n i h => X7_readText_l34 (fun g => X7_readText_l67 zfuel g) n (nI i) h) 64 (fun i h => (∀ a, a < i → h 34 0 a = -1) ∧ (∀ f a j, f ≠ 34 → h f a j = G f a j) ∧ FrPm gm h) (fun o => ∃ gm1, o = zc (X7_nextToken gm1) (fun x1 g2 => zc (X7_readLine g2) (fun x4 g5 => if x4 = -1 then some (-1, g5) else X7_readText_l67 zfuel g5)) ∧ gm1 22007 0 0 = nI v ∧ gm1 24007 0 0 = nI 0 ∧ gm1 29007 0 0 = nI 0 ∧ gm1 30007 0 0 = nI 0 ∧ gm1 10007 0 0 = nI 0 ∧ gm1 32 0 5 = nI 0 ∧ (∀ a, a < 64 → gm1 34 0 a = -1) ∧ FrPm gm gm1) ?_ ?_ (i0 := 0) ⟨fun c hc => by omega, fun _ _ _ _ => rfl, F⟩ (by omega) (zfuel_ge (by omega))
  · rintro n i h hi ⟨h1, h2, h3⟩
    left
    refine ⟨zU h 34 0 i (-1), ⟨fun c hc => ?_, fun f a j x => by rw [zU_ne _ _ (by omega)]; exact h2 f a j x, h3.u _ (by omega)⟩, ?_⟩
    · by_cases z : c = i
      · rw [z, zU_self]
      · rw [zU_ne _ _ (by omega)]; exact h1 c (by omega)
    · rw [X7_readText_l34.eq_2]
      simp (disch := omega) only [zc_some, zw_eq, zi_nI, nI_clamp, nI_add, nI_1, nI_lti, nI_inj, nI_ltz, nI_eq0, nI_0lt, nI_ne_m1, nI_ne_m2, nI_m1_ne, nI_m2_ne, if_true, if_false, zU_eq, zU_ne, Nat.add_zero, pk_mul, hi]
  · rintro n h ⟨h1, h2, h3⟩
    rw [X7_readText_l34.eq_2, if_neg (by rw [nI_lti (by omega) (by omega)]; omega)]
    refine ⟨h, rfl, ?_, ?_, ?_, ?_, ?_, ?_, h1, h3⟩
    all_goals
      rw [h2 _ _ _ (by omega), hG]
      simp (disch := omega) only [zU_ne, zU_eq]
theorem text_ok {v : Nat} {B : Nat → Nat} {gc gm : zG} (hv : v ≤ 900) (hb : ∀ k, k < 900 → gc 10 0 k = nI (B k) ∧ gm 30 0 k = nI (B k) ∧ B k < 256) :
    (∃ gc' gm', X5_readText (nI v) gc = some (nI 0, gc') ∧ X7_readText (nI v) gm = some (-1, gm') ∧ Fl gc gm gc' gm') ∨
    (∃ nc gc' gm', nc ≤ 4 ∧ X5_readText (nI v) gc = some (nI 1, gc') ∧ X7_readText (nI v) gm = some (nI nc, gm') ∧ FrPc gc gc' ∧ FrPm gm gm' ∧ Fin gc' gm' nc) := by
  have hzf : zfuel = 100000 := rfl
  obtain ⟨g1, a1, a2, a3, a4, a5, a6⟩ := X2_clear_ok gc
  obtain ⟨gm1, b1, b2, b3, b4, b5, b6, b7, b8, b9⟩ := X7_text_start (v := v) gm
  have mn : J9_min_7cf53 (nI v) (nI 900) g1 = some (nI v, g1) := by
    unfold J9_min_7cf53
    rw [if_neg (show ¬ nI 900 < nI v by rw [nI_lti (by omega) (by omega)]; omega)]
  have mx : J9_max_7cf53 (nI 0) (nI v) g1 = some (nI v, g1) := by
    unfold J9_max_7cf53
    by_cases z : v = 0
    · rw [z]; rfl
    · rw [if_pos (show nI 0 < nI v by rw [nI_lti (by omega) (by omega)]; omega)]
  unfold X5_readText
  rw [a1, zc_some, mn, zc_some, mx, zc_some, zw_eq, zw_eq, zw_eq, zw_eq, zw_eq, zw_eq, b1]
  have F0 : FrPc gc (zU (zU (zU (zU (zU (zU g1 4002 0 0 (nI v)) 7002 0 0 (nI 0)) 9002 0 0 (nI 0)) 10002 0 0 (nI 0)) 11002 0 0 (nI 0)) 12002 0 0 (nI 0)) := (((((a6.u _ (by omega)).u _ (by omega)).u _ (by omega)).u _ (by omega)).u _ (by omega)).u _ (by omega)
  obtain ⟨G, hG⟩ : ∃ G, G = zU (zU (zU (zU (zU (zU g1 4002 0 0 (nI v)) 7002 0 0 (nI 0)) 9002 0 0 (nI 0)) 10002 0 0 (nI 0)) 11002 0 0 (nI 0)) 12002 0 0 (nI 0) := ⟨_, rfl⟩
  rw [← hG] at F0 ⊢
  obtain ⟨G', c1, c2, c3, c4⟩ := X5_given_ok (fun (v2 : Int32) g => X5_readText_l76 zfuel v2 g) G
  rw [c1]
  have F1 : FrPc gc G' := F0.trans c4
  have X : ∀ f j, f < 2000 ∨ 12002 < f ∨ f % 1000 = 1 → f ≠ 16 → G' f 1 j = g1 f 1 j := fun f j x y => by
    rw [c3 _ _ _ y, hG, zU_ne _ _ (by omega), zU_ne _ _ (by omega), zU_ne _ _ (by omega), zU_ne _ _ (by omega), zU_ne _ _ (by omega), zU_ne _ _ (by omega)]
  have hR : Rd v B G' gm1 := ⟨hv, by rw [c3 _ _ _ (by omega), hG]; simp (disch := omega) only [zU_ne, zU_eq], b2, fun k hk => by rw [F1 10 _ _ (by omega) (by omega), b9 30 _ _ (by omega)]; exact hb k hk⟩
  have hD : DrS G' gm1 := by
    refine Or.inl ⟨by rw [c3 _ _ _ (by omega), hG]; simp (disch := omega) only [zU_ne, zU_eq], b4, ⟨by rw [c3 _ _ _ (by omega), hG]; simp (disch := omega) only [zU_ne, zU_eq]; rfl, by rw [b5]; rfl⟩, ⟨by rw [X _ _ (by omega) (by omega)]; exact a2, b7, by omega⟩, ⟨by rw [X _ _ (by omega) (by omega)]; exact a3, b6, by omega, fun a ha => Or.inl ⟨c2 a ha, by rw [X _ _ (by omega) (by omega)]; exact a5 a ha, b8 a ha⟩⟩, fun c hc => by rw [X _ _ (by omega) (by omega)]; exact a4 c hc⟩
  obtain ⟨gc2, gm2, s, e, k, y1, y2, y3, y4, y5, y6, -⟩ := lex_next hR (Nat.zero_le v) (by rw [c3 _ _ _ (by omega), hG]; simp (disch := omega) only [zU_ne, zU_eq]) b3
  have hD2 : DrS gc2 gm2 := by
    rcases hD with h | ⟨S, W, PL, rl, tr, nc, nw, op, len, so, wh, ix, h⟩
    · exact Or.inl (h.fr y3 y4)
    · exact Or.inr ⟨S, W, PL, rl, tr, nc, nw, op, len, so, wh, ix, h.fr y3 y4⟩
  rw [y1, y2, zc_some, zc_some]
  have := text_loop v s e k 0 (zfuel - v - 1) (zfuel - v - 1) gc2 gm2 (by omega) (Nat.zero_le s) y5 y6 hD2
  rw [show zfuel - v - 1 + v + 1 = zfuel by omega] at this
  rcases this with ⟨gc3, gm3, z1, z2, z3⟩ | ⟨nc, gc3, gm3, z0, z1, z2, z3, z4, z5⟩
  · exact Or.inl ⟨gc3, gm3, z1, z2, z3.from (F1.trans y3.P) (b9.trans y4.P)⟩
  · exact Or.inr ⟨nc, gc3, gm3, z0, z1, z2, (F1.trans y3.P).trans z3, (b9.trans y4.P).trans z4, z5⟩
