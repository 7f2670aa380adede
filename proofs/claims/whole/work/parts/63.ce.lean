/-! ===== rows laid aside, taken back, kept ===== -/
theorem X7_laysAside_ok (g : zG) : ∃ g', X7_laysAside g = some (0, g') ∧ (∀ k, k < 2766 → g' 44 0 k = g 43 0 k) ∧ ∀ f i j, f ≠ 44 → g' f i j = g f i j := by
  unfold X7_laysAside
  refine loopN (M := fun n i h => X7_laysAside_l2 n (nI i) h) 2766 (fun i h => (∀ k, k < i → h 44 0 k = g 43 0 k) ∧ ∀ f a j, f ≠ 44 → h f a j = g f a j) (fun o => ∃ g', o = some (0, g') ∧ (∀ k, k < 2766 → g' 44 0 k = g 43 0 k) ∧ ∀ f i j, f ≠ 44 → g' f i j = g f i j) ?_ ?_ (i0 := 0) ⟨fun k hk => by omega, fun _ _ _ _ => rfl⟩ (by omega) (zfuel_ge (by omega))
  · rintro n i h hi ⟨h1, h2⟩
    left
    have e : h 43 0 i = g 43 0 i := h2 _ _ _ (by omega)
    refine ⟨zU h 44 0 i (g 43 0 i), ⟨fun k hk => ?_, fun f a j hf => ?_⟩, ?_⟩
    · by_cases z : k = i
      · rw [z, zU_self]
      · rw [zU_ne _ _ (by omega)]; exact h1 k (by omega)
    · rw [zU_ne _ _ (by omega)]; exact h2 f a j hf
    · rw [X7_laysAside_l2.eq_2]
      simp (disch := omega) only [zc_some, zw_eq, zi_nI, nI_clamp, nI_add, nI_1, nI_lti, nI_inj, nI_ltz, nI_eq0, nI_0lt, nI_ne_m1, nI_ne_m2, nI_m1_ne, nI_m2_ne, if_true, if_false, zU_eq, zU_ne, Nat.add_zero, pk_mul, hi, e]
  · rintro n h hu
    rw [X7_laysAside_l2.eq_2]
    simp (disch := omega) only [zc_some, zw_eq, zi_nI, nI_clamp, nI_add, nI_1, nI_lti, nI_inj, nI_ltz, nI_eq0, nI_0lt, nI_ne_m1, nI_ne_m2, nI_m1_ne, nI_m2_ne, if_true, if_false, zU_eq, zU_ne, Nat.add_zero, pk_mul, Nat.lt_irrefl]
    exact ⟨h, rfl, hu⟩
theorem X7_takesBack_ok (g : zG) : ∃ g', X7_takesBack g = some (0, g') ∧ (∀ k, k < 2766 → g' 43 0 k = g 44 0 k) ∧ g' 35007 0 0 = g 31 0 3 ∧ g' 36007 0 0 = g 31 0 4 ∧ g' 37007 0 0 = g 31 0 1 ∧ ∀ f i j, f ≠ 43 → f ≠ 35007 → f ≠ 36007 → f ≠ 37007 → g' f i j = g f i j := by
  unfold X7_takesBack
  refine loopN (M := fun n i h => X7_takesBack_l2 n (nI i) h) 2766 (fun i h => (∀ k, k < i → h 43 0 k = g 44 0 k) ∧ ∀ f a j, f ≠ 43 → h f a j = g f a j) (fun o => ∃ g', o = some (0, g') ∧ (∀ k, k < 2766 → g' 43 0 k = g 44 0 k) ∧ g' 35007 0 0 = g 31 0 3 ∧ g' 36007 0 0 = g 31 0 4 ∧ g' 37007 0 0 = g 31 0 1 ∧ ∀ f i j, f ≠ 43 → f ≠ 35007 → f ≠ 36007 → f ≠ 37007 → g' f i j = g f i j) ?_ ?_ (i0 := 0) ⟨fun k hk => by omega, fun _ _ _ _ => rfl⟩ (by omega) (zfuel_ge (by omega))
  · rintro n i h hi ⟨h1, h2⟩
    left
    have e : h 44 0 i = g 44 0 i := h2 _ _ _ (by omega)
    refine ⟨zU h 43 0 i (g 44 0 i), ⟨fun k hk => ?_, fun f a j hf => ?_⟩, ?_⟩
    · by_cases z : k = i
      · rw [z, zU_self]
      · rw [zU_ne _ _ (by omega)]; exact h1 k (by omega)
    · rw [zU_ne _ _ (by omega)]; exact h2 f a j hf
    · rw [X7_takesBack_l2.eq_2]
      simp (disch := omega) only [zc_some, zw_eq, zi_nI, nI_clamp, nI_add, nI_1, nI_lti, nI_inj, nI_ltz, nI_eq0, nI_0lt, nI_ne_m1, nI_ne_m2, nI_m1_ne, nI_m2_ne, if_true, if_false, zU_eq, zU_ne, Nat.add_zero, pk_mul, hi, e]
  · rintro n h ⟨h1, h2⟩
    rw [X7_takesBack_l2.eq_2]
    unfold X7_asTold
    simp (disch := omega) only [zc_some, zw_eq, zi_nI, nI_clamp, nI_add, nI_1, nI_lti, nI_inj, nI_ltz, nI_eq0, nI_0lt, nI_ne_m1, nI_ne_m2, nI_m1_ne, nI_m2_ne, if_true, if_false, zU_eq, zU_ne, Nat.add_zero, pk_mul, Nat.lt_irrefl]
    refine ⟨_, rfl, fun k hk => ?_, ?_, ?_, ?_, fun f i j a b d e => ?_⟩
    · simp (disch := omega) only [zU_ne]; exact h1 k hk
    · simp (disch := omega) only [zU_ne, zU_eq]; exact h2 _ _ _ (by omega)
    · simp (disch := omega) only [zU_ne, zU_eq]; exact h2 _ _ _ (by omega)
    · simp (disch := omega) only [zU_ne, zU_eq]; exact h2 _ _ _ (by omega)
    · simp (disch := omega) only [zU_ne]; exact h2 _ _ _ a
theorem X7_keep_ok (g : zG) : ∃ g', X7_keep_l20 zfuel (nI 0) g = some (nI 1, g') ∧ (∀ k, k < 2766 → g' 45 0 k = g 43 0 k) ∧ g' 34007 0 0 = nI 1 ∧ ∀ f i j, f ≠ 45 → f ≠ 34007 → g' f i j = g f i j := by
  refine loopN (M := fun n i h => X7_keep_l20 n (nI i) h) 2766 (fun i h => (∀ k, k < i → h 45 0 k = g 43 0 k) ∧ ∀ f a j, f ≠ 45 → h f a j = g f a j) (fun o => ∃ g', o = some (nI 1, g') ∧ (∀ k, k < 2766 → g' 45 0 k = g 43 0 k) ∧ g' 34007 0 0 = nI 1 ∧ ∀ f i j, f ≠ 45 → f ≠ 34007 → g' f i j = g f i j) ?_ ?_ (i0 := 0) ⟨fun k hk => by omega, fun _ _ _ _ => rfl⟩ (by omega) (zfuel_ge (by omega))
  · rintro n i h hi ⟨h1, h2⟩
    left
    have e : h 43 0 i = g 43 0 i := h2 _ _ _ (by omega)
    refine ⟨zU h 45 0 i (g 43 0 i), ⟨fun k hk => ?_, fun f a j hf => ?_⟩, ?_⟩
    · by_cases z : k = i
      · rw [z, zU_self]
      · rw [zU_ne _ _ (by omega)]; exact h1 k (by omega)
    · rw [zU_ne _ _ (by omega)]; exact h2 f a j hf
    · rw [X7_keep_l20.eq_2]
      simp (disch := omega) only [zc_some, zw_eq, zi_nI, nI_clamp, nI_add, nI_1, nI_lti, nI_inj, nI_ltz, nI_eq0, nI_0lt, nI_ne_m1, nI_ne_m2, nI_m1_ne, nI_m2_ne, if_true, if_false, zU_eq, zU_ne, Nat.add_zero, pk_mul, hi, e]
  · rintro n h ⟨h1, h2⟩
    rw [X7_keep_l20.eq_2]
    simp (disch := omega) only [zc_some, zw_eq, zi_nI, nI_clamp, nI_add, nI_1, nI_lti, nI_inj, nI_ltz, nI_eq0, nI_0lt, nI_ne_m1, nI_ne_m2, nI_m1_ne, nI_m2_ne, if_true, if_false, zU_eq, zU_ne, Nat.add_zero, pk_mul, Nat.lt_irrefl]
    refine ⟨_, rfl, fun k hk => ?_, zU_self _ _ _ _ _, fun f i j a b => ?_⟩
    · rw [zU_ne _ _ (by omega)]; exact h1 k hk
    · rw [zU_ne _ _ (by omega)]; exact h2 _ _ _ a
theorem X7_back_ok (g : zG) : ∃ g', X7_back_l20 zfuel (nI 0) g = some (nI 1, g') ∧ (∀ k, k < 2766 → g' 43 0 k = g 45 0 k) ∧ ∀ f i j, f ≠ 43 → g' f i j = g f i j := by
  refine loopN (M := fun n i h => X7_back_l20 n (nI i) h) 2766 (fun i h => (∀ k, k < i → h 43 0 k = g 45 0 k) ∧ ∀ f a j, f ≠ 43 → h f a j = g f a j) (fun o => ∃ g', o = some (nI 1, g') ∧ (∀ k, k < 2766 → g' 43 0 k = g 45 0 k) ∧ ∀ f i j, f ≠ 43 → g' f i j = g f i j) ?_ ?_ (i0 := 0) ⟨fun k hk => by omega, fun _ _ _ _ => rfl⟩ (by omega) (zfuel_ge (by omega))
  · rintro n i h hi ⟨h1, h2⟩
    left
    have e : h 45 0 i = g 45 0 i := h2 _ _ _ (by omega)
    refine ⟨zU h 43 0 i (g 45 0 i), ⟨fun k hk => ?_, fun f a j hf => ?_⟩, ?_⟩
    · by_cases z : k = i
      · rw [z, zU_self]
      · rw [zU_ne _ _ (by omega)]; exact h1 k (by omega)
    · rw [zU_ne _ _ (by omega)]; exact h2 f a j hf
    · rw [X7_back_l20.eq_2]
      simp (disch := omega) only [zc_some, zw_eq, zi_nI, nI_clamp, nI_add, nI_1, nI_lti, nI_inj, nI_ltz, nI_eq0, nI_0lt, nI_ne_m1, nI_ne_m2, nI_m1_ne, nI_m2_ne, if_true, if_false, zU_eq, zU_ne, Nat.add_zero, pk_mul, hi, e]
  · rintro n h hu
    rw [X7_back_l20.eq_2]
    simp (disch := omega) only [zc_some, zw_eq, zi_nI, nI_clamp, nI_add, nI_1, nI_lti, nI_inj, nI_ltz, nI_eq0, nI_0lt, nI_ne_m1, nI_ne_m2, nI_m1_ne, nI_m2_ne, if_true, if_false, zU_eq, zU_ne, Nat.add_zero, pk_mul, Nat.lt_irrefl]
    exact ⟨h, rfl, hu⟩
/-- a row is what lies below 2766 -/
def RwE (m m' : Rw) : Prop := ∀ i, i < 2766 → m' i = m i
theorem RwE.symm' {m m' : Rw} (h : RwE m m') : RwE m' m := fun i hi => (h i hi).symm
theorem Sim_ext {S W PL NC r : Nat} {g : zG} {m m' : Rw} (hz : Siz4 S W PL NC) (e : RwE m m') (h : Sim S W PL NC r g m) : Sim S W PL NC r g m' := by
  obtain ⟨p1, p2, p3, p4, p5, p6, p7, p8⟩ := id hz
  obtain ⟨h1, h2, h3, h4, h5⟩ := h
  refine ⟨fun c s w a1 a2 a3 a4 => (h1 c s w a1 a2 a3 a4).congr p6 (fun f x y => rfl) (fun k _ => rfl) (fun k hk => e _ (by have := pos_lt (show c < 4 by omega) (show s < 4 by omega) (show w < 17 by omega); omega)), h2, fun c a1 => (h3 c a1).congr (fun f j a => rfl) (fun k hk => e _ (by have := cat_lt (show c < 4 by omega) hk; omega)), h4.congr p6 (fun f j a => rfl) (fun i hi => e i (by omega)), h5⟩
theorem RI_ext {S W PL NC : Nat} {len : Nat → Nat} {so wh : Nat → Nat → Nat} {m m' : Rw} (hz : Siz S W PL NC) (e : RwE m m') (h : RI S W PL NC len so wh m) : RI S W PL NC len so wh m' := by
  obtain ⟨p1, p2, p3, p4, p5, p6, p7, p8⟩ := id hz
  obtain ⟨hp, h2, h3, h4⟩ := h
  have eP : ∀ c s w f, c < NC → s < S → w < W → f < 9 → m' (pos c s w + f) = m (pos c s w + f) := fun c s w f a b d x => e _ (by have := pos_lt (show c < 4 by omega) (show s < 4 by omega) (show w < 17 by omega); omega)
  have eP0 : ∀ c s w, c < NC → s < S → w < W → m' (pos c s w) = m (pos c s w) := fun c s w a b d => by
    have := eP c s w 0 a b d (by omega)
    rwa [Nat.add_zero] at this
  have eC : ∀ c k, c < NC → k < 14 → m' (cat c k) = m (cat c k) := fun c k a b => e _ (by have := cat_lt (show c < 4 by omega) b; omega)
  refine ⟨⟨fun c s w a1 a2 a3 => ?_, fun c s w w' a1 a2 a3 a4 b1 b2 => ?_, fun c s w a1 a2 a3 => ?_, fun o w a1 a2 b => ?_, fun c s w k a1 a2 a3 a4 => ?_, fun i a1 a2 => ?_⟩, h2, fun c hc => ?_, ?_⟩
  · rw [eP0 c s w a1 a2 a3]; exact hp.lok c s w a1 a2 a3
  · rw [eP0 c s w a1 a2 a3] at b1 b2
    rw [eP0 c s w' a1 a2 a4] at b2
    exact hp.one c s w w' a1 a2 a3 a4 b1 b2
  · rw [eP c s w 2 a1 a2 a3 (by omega), eP c s w 3 a1 a2 a3 (by omega)]; exact hp.mk c s w a1 a2 a3
  · have hs : 16 % S < S := Nat.mod_lt _ p1
    rw [eP0 o _ w a1 hs a2] at b
    rw [eP o _ w 3 a1 hs a2 (by omega)]; exact hp.lk o w a1 a2 b
  · rw [Nat.add_assoc, eP c s w (5 + k) a1 a2 a3 (by omega), ← Nat.add_assoc]; exact hp.wd c s w k a1 a2 a3 a4
  · rw [e i (by omega)]; exact hp.mm i a1 a2
  · exact CI_same (h3 c hc) (fun k hk => eC c k hc (by omega)) (fun z s w a b => by rw [eP c s w 2 hc a b (by omega), eP c s w 3 hc a b (by omega)]; exact z s w a b)
  · rw [e 4 (by omega), h4]
    congr 1
    exact (nAll_congr NC (fun o ho => by rw [eC o 0 ho (by omega)])).symm
theorem CMT_ext {NC : Nat} {len : Nat → Nat} {so : Nat → Nat → Nat} {m m' : Rw} (e : RwE m m') (h : CMT NC len so m) : CMT NC len so m' := CMT_low (fun i hi _ => e i (by have := hi.lt.1; omega)) h
/-! ===== what holds of both between two calls ===== -/
/-- what is there whether a machine is told or not -/
def Base (gc gm : zG) : Prop :=
  (∃ t, t ≤ 900 ∧ gc 2000 0 0 = nI t ∧ gm 6007 0 0 = nI t) ∧ (∀ k, k < 900 → gc 10 0 k = gm 30 0 k ∧ ∃ v, v < 256 ∧ gm 30 0 k = nI v) ∧ gc 12000 0 0 = gm 3007 0 0 ∧ gc 13000 0 0 = gm 2007 0 0 ∧ (gm 2007 0 0 = nI 4 → gc 12002 0 0 = gm 4007 0 0) ∧ gc 7001 0 0 = gm 9007 0 0 ∧ (∀ c, c < 4 → gc 11 0 c = gm 35 0 c) ∧ ∃ b : Bool, gc 11000 0 0 = bI b ∧ gm 34007 0 0 = bI b
/-- no machine -/
def NoM (gc gm : zG) : Prop := gc 10000 0 0 = nI 0 ∧ gm 21007 0 0 = nI 0 ∧ gc 6001 0 0 = nI 0 ∧ gc 3001 0 0 = nI 0 ∧ gc 7003 0 0 = nI 0 ∧ gc 11000 0 0 = nI 0 ∧ ∀ c, c < 4 → gc 11 0 c = nI 0
/-- the told numbers, in both -/
def Told (S W PL NC rl tr : Nat) (len : Nat → Nat) (so wh : Nat → Nat → Nat) (ix : Nat → Nat → Bool) (gc gm : zG) : Prop :=
  CPar S W PL NC gc ∧ MPar S W PL NC gm ∧ gm 31 0 1 = nI W ∧ gm 31 0 3 = nI rl ∧ gm 31 0 4 = nI tr ∧ gm 35007 0 0 = nI rl ∧ gm 36007 0 0 = nI tr ∧ rl ≤ 2 ∧ 1 ≤ tr ∧ tr ≤ 9 ∧ gc 4001 0 0 = nI rl ∧ gc 5001 0 0 = nI tr ∧
  (∀ c, c < NC → DeedsC c (len c) (so c) (wh c) (ix c) gc ∧ DeedsM c (len c) (so c) (wh c) (ix c) gm ∧ WfD (so c) (wh c) PL (len c) ∧ ∀ j, j < len c → gc 13 0 (24 * c + j) = gm 39 0 (24 * c + j) ∧ gc 14 0 (24 * c + j) = bI (ix c j) ∧ gm 41 0 (24 * c + j) = bI (ix c j)) ∧
  (∀ c, NC ≤ c → c < 4 → gc 11 0 c = nI 0) ∧ (∀ a, a < 64 → gc 15 0 a = gm 33 0 a ∧ ∃ v, v < 1000 ∧ gm 33 0 a = nI v) ∧ gc 10000 0 0 = nI 1 ∧ gm 21007 0 0 = nI 1
/-- run r is bound to a row -/
def Bnd (S W PL NC rl tr r : Nat) (len : Nat → Nat) (so wh : Nat → Nat → Nat) (gc : zG) (m : Rw) : Prop := Sim S W PL NC r gc m ∧ RI S W PL NC len so wh m ∧ CMT NC len so m ∧ gc 8003 r 0 = nI rl ∧ gc 9003 r 0 = nI tr
def Tld (S W PL NC rl tr : Nat) (len : Nat → Nat) (so wh : Nat → Nat → Nat) (ix : Nat → Nat → Bool) (gc gm : zG) : Prop :=
  Told S W PL NC rl tr len so wh ix gc gm ∧ Bnd S W PL NC rl tr 0 len so wh gc (gm 43 0) ∧ (gm 34007 0 0 = nI 1 → Bnd S W PL NC rl tr 1 len so wh gc (gm 45 0))
def INV (gc gm : zG) : Prop := Base gc gm ∧ (NoM gc gm ∨ ∃ S W PL NC rl tr len so wh ix, Tld S W PL NC rl tr len so wh ix gc gm)
theorem Told.fr {S W PL NC rl tr : Nat} {len : Nat → Nat} {so wh : Nat → Nat → Nat} {ix : Nat → Nat → Bool} {gc gm gc' gm' : zG} (h : Told S W PL NC rl tr len so wh ix gc gm)
    (hc : ∀ f i j, (f = 1001 ∨ f = 2001 ∨ f = 3001 ∨ f = 6001 ∨ f = 4001 ∨ f = 5001 ∨ (11 ≤ f ∧ f ≤ 15) ∨ f = 10000) → i = 0 → gc' f i j = gc f i j)
    (hm : ∀ f i j, f = 31 ∨ f = 33 ∨ f = 35 ∨ f = 37 ∨ f = 39 ∨ f = 41 ∨ f = 37007 ∨ f = 35007 ∨ f = 36007 ∨ f = 21007 → gm' f i j = gm f i j) : Told S W PL NC rl tr len so wh ix gc' gm' := by
  obtain ⟨⟨a0, a1, a2, a3, a4⟩, ⟨b0, b1, b2, b3, b4⟩, h3, h4, h5, h6, h7, h8, h9, h10, h11, h12, h13, h14, h15, h16, h17⟩ := h
  refine ⟨⟨a0, ?_, ?_, ?_, ?_⟩, ⟨b0, ?_, ?_, ?_, ?_⟩, ?_, ?_, ?_, ?_, ?_, h8, h9, h10, ?_, ?_, fun c a => ?_, fun c x y => ?_, fun a ha => ?_, ?_, ?_⟩
  all_goals try first
    | (rw [hc _ _ _ (by omega) rfl]; assumption)
    | (rw [hm _ _ _ (by omega)]; assumption)
  · obtain ⟨⟨d1, d2, d3⟩, ⟨e1, e2⟩, w, x⟩ := h13 c a
    refine ⟨⟨by rw [hc _ _ _ (by omega) rfl]; exact d1, d2, fun j hj => ?_⟩, ⟨by rw [hm _ _ _ (by omega)]; exact e1, fun j hj => ?_⟩, w, fun j hj => ?_⟩
    · rw [hc 12 _ _ (by omega) rfl, hc 13 _ _ (by omega) rfl, hc 14 _ _ (by omega) rfl]; exact d3 j hj
    · rw [hm 37 _ _ (by omega), hm 39 _ _ (by omega), hm 41 _ _ (by omega)]; exact e2 j hj
    · rw [hc 13 _ _ (by omega) rfl, hc 14 _ _ (by omega) rfl, hm 39 _ _ (by omega), hm 41 _ _ (by omega)]; exact x j hj
  · rw [hc _ _ _ (by omega) rfl]; exact h14 c x y
  · rw [hc _ _ _ (by omega) rfl, hm _ _ _ (by omega)]; exact h15 a ha
theorem Bnd.fr {S W PL NC rl tr r : Nat} {len : Nat → Nat} {so wh : Nat → Nat → Nat} {gc gc' : zG} {m : Rw} (hz : Siz4 S W PL NC) (h : Bnd S W PL NC rl tr r len so wh gc m) (hc : ∀ f i j, ofRun r f i ∨ ((f = 8003 ∨ f = 9003) ∧ i = r) → f ≠ 12003 → gc' f i j = gc f i j) : Bnd S W PL NC rl tr r len so wh gc' m := by
  obtain ⟨p1, p2, p3, p4, p5, p6, p7, p8⟩ := id hz
  obtain ⟨⟨h1, h2, h3, h4, h5⟩, hR, hC, h8, h9⟩ := h
  have c : ∀ f c j, c < 4 → (22 ≤ f ∧ f ≤ 28) ∨ f = 1005 ∨ f = 2005 ∨ f = 3005 ∨ f = 4005 ∨ f = 5005 ∨ f = 6005 ∨ f = 7005 → gc' f (4 * r + c) j = gc f (4 * r + c) j := fun f c j a b => hc _ _ _ (Or.inl (by unfold ofRun; omega)) (by omega)
  have s : ∀ f j, f = 17 ∨ f = 20 ∨ f = 21 ∨ f = 7003 ∨ f = 10003 ∨ f = 11003 → gc' f r j = gc f r j := fun f j a => hc _ _ _ (Or.inl (by unfold ofRun; omega)) (by omega)
  refine ⟨⟨fun c' s' w a1 a2 a3 a4 => (h1 c' s' w a1 a2 a3 a4).congr p6 (fun f x y => c f c' _ (by omega) (by omega)) (fun k _ => c 27 c' _ (by omega) (by omega)) (fun k _ => rfl), fun c' p a1 a2 a3 => by rw [c 22 c' _ (by omega) (by omega)]; exact h2 c' p a1 a2 a3, fun c' a1 => (h3 c' a1).congr (fun f j a => c f c' j (by omega) (by omega)) (fun k _ => rfl), h4.congr p6 (fun f j a => s f j a) (fun i _ => rfl), fun c' a1 a2 => ⟨fun p a3 => by rw [c 22 c' _ (by omega) (by omega)]; exact (h5 c' a1 a2).1 p a3, fun k a3 => by rw [c 28 c' _ (by omega) (by omega)]; exact (h5 c' a1 a2).2 k a3⟩⟩, hR, hC, by rw [hc _ _ _ (Or.inr (by omega)) (by omega)]; exact h8, by rw [hc _ _ _ (Or.inr (by omega)) (by omega)]; exact h9⟩
/-- a call that changes nothing but what is told of it -/
theorem INV_q {gc gm gc' gm' : zG} (h : INV gc gm) (hc : ∀ f i j, f ≠ 13000 → gc' f i j = gc f i j) (hm : ∀ f i j, f ≠ 1007 → f ≠ 2007 → f ≠ 4007 → gm' f i j = gm f i j) (ht : gc' 13000 0 0 = gm' 2007 0 0) (h4 : gm' 2007 0 0 = nI 4 → gc 12002 0 0 = gm' 4007 0 0) : INV gc' gm' := by
  obtain ⟨⟨⟨t, b1, b2, b3⟩, b4, b5, -, -, b8, b9, b, b10, b11⟩, hT⟩ := h
  refine ⟨⟨⟨t, b1, by rw [hc _ _ _ (by omega)]; exact b2, by rw [hm _ _ _ (by omega) (by omega) (by omega)]; exact b3⟩, fun k hk => ?_, ?_, ht, fun z => by rw [hc _ _ _ (by omega)]; exact h4 z, ?_, fun c a => ?_, b, by rw [hc _ _ _ (by omega)]; exact b10, by rw [hm _ _ _ (by omega) (by omega) (by omega)]; exact b11⟩, ?_⟩
  · rw [hc _ _ _ (by omega), hm _ _ _ (by omega) (by omega) (by omega)]; exact b4 k hk
  · rw [hc _ _ _ (by omega), hm _ _ _ (by omega) (by omega) (by omega)]; exact b5
  · rw [hc _ _ _ (by omega), hm _ _ _ (by omega) (by omega) (by omega)]; exact b8
  · rw [hc _ _ _ (by omega), hm _ _ _ (by omega) (by omega) (by omega)]; exact b9 c a
  · rcases hT with ⟨a1, a2, a3, a4, a5, a6, a7⟩ | ⟨S, W, PL, NC, rl, tr, len, so, wh, ix, hT, hB, hK⟩
    · refine Or.inl ⟨?_, ?_, ?_, ?_, ?_, ?_, fun c a => ?_⟩
      · rw [hc _ _ _ (by omega)]; exact a1
      · rw [hm _ _ _ (by omega) (by omega) (by omega)]; exact a2
      · rw [hc _ _ _ (by omega)]; exact a3
      · rw [hc _ _ _ (by omega)]; exact a4
      · rw [hc _ _ _ (by omega)]; exact a5
      · rw [hc _ _ _ (by omega)]; exact a6
      · rw [hc _ _ _ (by omega)]; exact a7 c a
    · have e43 : gm' 43 0 = gm 43 0 := funext (fun k => hm _ _ _ (by omega) (by omega) (by omega))
      have e45 : gm' 45 0 = gm 45 0 := funext (fun k => hm _ _ _ (by omega) (by omega) (by omega))
      refine Or.inr ⟨S, W, PL, NC, rl, tr, len, so, wh, ix, hT.fr (fun f i j a _ => hc f i j (by omega)) (fun f i j a => hm f i j (by omega) (by omega) (by omega)), ?_, fun z => ?_⟩
      · rw [e43]
        exact hB.fr hT.1.1 (fun f i j a _ => hc f i j (by unfold ofRun at a; omega))
      · rw [e45]
        rw [hm _ _ _ (by omega) (by omega) (by omega)] at z
        exact (hK z).fr hT.1.1 (fun f i j a _ => hc f i j (by unfold ofRun at a; omega))
