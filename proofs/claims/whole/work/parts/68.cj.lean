/-! ===== tried, triedWord, best ===== -/
theorem Tld_trial {S W PL NC rl tr : Nat} {len : Nat → Nat} {so wh : Nat → Nat → Nat} {ix : Nat → Nat → Bool} {gc g gc1 g1 : zG} (hT : Tld S W PL NC rl tr len so wh ix gc g) (f1 : FrD 2 gc gc1) (hr : RwE (g 43 0) (g1 43 0)) (hm : ∀ f i j, f ≠ 43 → f ≠ 44 → f ≠ 38007 → f ≠ 42007 → f ≠ 35007 → f ≠ 36007 → f ≠ 37007 → g1 f i j = g f i j) (e1 : g1 35007 0 0 = nI rl) (e2 : g1 36007 0 0 = nI tr) (e3 : g1 37007 0 0 = nI W) : Tld S W PL NC rl tr len so wh ix gc1 g1 := by
  have hz := hT.1.1.1
  refine ⟨?_, ?_, fun z => ?_⟩
  · have hT1 := hT.1.fr (gc' := gc1) (gm' := fun f i j => if f = 35007 ∨ f = 36007 ∨ f = 37007 then g f i j else g1 f i j) (fun f i j a b => f1 f i j (by unfold ofRun; omega) (by omega)) (fun f i j a => by
      by_cases z : f = 35007 ∨ f = 36007 ∨ f = 37007
      · rw [if_pos z]
      · rw [if_neg z]; exact hm f i j (by omega) (by omega) (by omega) (by omega) (by omega) (by omega) (by omega))
    obtain ⟨t1, ⟨u0, u1, u2, u3, u4⟩, t3, t4, t5, t6, t7, t8, t9, t10, t11, t12, t13, t14, t15, t16, t17⟩ := hT1
    exact ⟨t1, ⟨u0, u1, e3, u3, u4⟩, t3, t4, t5, e1, e2, t8, t9, t10, t11, t12, t13, t14, t15, t16, t17⟩
  · obtain ⟨hS, hR, hC, h8, h9⟩ := hT.2.1
    exact Bnd.fr hz ⟨Sim_ext hz hr hS, RI_ext hz.siz hr hR, CMT_ext hr hC, h8, h9⟩ (fun f i j a _ => f1 f i j (by unfold ofRun at *; omega) (by unfold ofRun at *; omega))
  · rw [hm _ _ _ (by omega) (by omega) (by omega) (by omega) (by omega) (by omega) (by omega)] at z
    have e45 : g1 45 0 = g 45 0 := funext (fun k => hm _ _ _ (by omega) (by omega) (by omega) (by omega) (by omega) (by omega) (by omega))
    rw [e45]
    exact (hT.2.2 z).fr hz (fun f i j a _ => f1 f i j (by unfold ofRun at *; omega) (by unfold ofRun at *; omega))
/-- what a trial leaves in the reference but for its row -/
def FrT (g g1 : zG) : Prop := ∀ f i j, f ≠ 43 → f ≠ 44 → f ≠ 38007 → f ≠ 42007 → f ≠ 35007 → f ≠ 36007 → f ≠ 37007 → g1 f i j = g f i j
theorem FrT.trans {a b c : zG} (h1 : FrT a b) (h2 : FrT b c) : FrT a c := fun f i j x1 x2 x3 x4 x5 x6 x7 => (h2 f i j x1 x2 x3 x4 x5 x6 x7).trans (h1 f i j x1 x2 x3 x4 x5 x6 x7)
theorem RwE.trans {a b c : Rw} (h1 : RwE a b) (h2 : RwE b c) : RwE a c := fun i hi => (h2 i hi).trans (h1 i hi)
theorem jtrial {S W PL NC rl tr rl' tr' s : Nat} {len : Nat → Nat} {so wh : Nat → Nat → Nat} {ix : Nat → Nat → Bool} {gc g : zG} (hT : Tld S W PL NC rl tr len so wh ix gc g) (hrl : rl' ≤ 2) (hs : s < 65536) :
    ∃ x gc1 gc2 g2, X3_startOver 2 (nI rl') (nI tr') gc = some (0, gc1) ∧ X3_takeDraws 2 (nI 2000) (nI s) gc1 = some (x, gc2) ∧ X7_tries (nI rl') (nI tr') (nI s) g = some (0, g2) ∧ Jn S W PL NC rl' 2 len so wh ix gc2 g2 ∧ FrD 2 gc gc2 ∧ (∀ k, k < 2766 → g2 44 0 k = g 43 0 k) ∧ (∀ f i j, f ≠ 43 → f ≠ 44 → f ≠ 38007 → f ≠ 42007 → f ≠ 35007 → f ≠ 36007 → g2 f i j = g f i j) ∧ ∃ t, t ≤ 2000 ∧ g2 43 0 0 = nI t := by
  have hz := hT.1.1.1
  obtain ⟨gc1, a1, a2, a3, a4, a5, a6, a7, a8, a9, f1⟩ := X3_startOver_ok (r := 2) (nI rl') (nI tr') gc
  obtain ⟨ga, b1, b2, b3⟩ := X7_laysAside_ok g
  obtain ⟨gb, c1, c2, c3⟩ := X7_begins_ok ga
  obtain ⟨t1, t2, t3, t4, t5, t6, t7, t8, t9, t10, t11, t12, t13, t14, t15, t16, t17⟩ := id hT.1
  have e33 : ∀ a, ga 33 0 a = g 33 0 a := fun a => b3 _ _ _ (by omega)
  -- the reference's start
  have hR := BegM.RI (S := S) (W := W) (PL := PL) (NC := NC) (len := len) (so := so) (wh := wh) hz.siz c2 (fun a ha => by rw [e33]; exact (t15 a ha).2) (fun c hc => (t13 c hc).2.2.1)
  have hM : ∀ f i j, f ≠ 43 → f ≠ 44 → f ≠ 35007 → f ≠ 36007 → f ≠ 42007 → zU (zU (zU gb 35007 0 0 (nI rl')) 36007 0 0 (nI tr')) 42007 0 0 (nI s) f i j = g f i j := fun f i j x1 x2 x3 x4 x5 => by
    rw [zU_ne _ _ (by omega), zU_ne _ _ (by omega), zU_ne _ _ (by omega), c3 f i j x1, b3 f i j x2]
  have e43 : (zU (zU (zU gb 35007 0 0 (nI rl')) 36007 0 0 (nI tr')) 42007 0 0 (nI s)) 43 0 = gb 43 0 := funext (fun k => by rw [zU_ne _ _ (by omega), zU_ne _ _ (by omega), zU_ne _ _ (by omega)])
  have e36 : (zU (zU (zU gb 35007 0 0 (nI rl')) 36007 0 0 (nI tr')) 42007 0 0 (nI s)) 36007 0 0 = nI tr' := by rw [zU_ne _ _ (by omega), zU_self]
  have e35 : (zU (zU (zU gb 35007 0 0 (nI rl')) 36007 0 0 (nI tr')) 42007 0 0 (nI s)) 35007 0 0 = nI rl' := by rw [zU_ne _ _ (by omega), zU_ne _ _ (by omega), zU_self]
  have P : ∀ f j, f = 1001 ∨ f = 2001 ∨ f = 3001 ∨ f = 6001 ∨ f = 11 ∨ f = 12 ∨ f = 13 ∨ f = 14 → gc1 f 0 j = gc f 0 j := fun f j a => f1 f 0 j (by unfold ofRun; omega) (by omega)
  have hJ : Jn S W PL NC rl' 2 len so wh ix gc1 (zU (zU (zU gb 35007 0 0 (nI rl')) 36007 0 0 (nI tr')) 42007 0 0 (nI s)) := by
    obtain ⟨u0, u1, u2, u3, u4⟩ := t1
    obtain ⟨m0, m1, m2, m3, m4⟩ := t2
    refine ⟨⟨⟨u0, ?_, ?_, ?_, ?_⟩, ⟨m0, ?_, ?_, ?_, ?_⟩, fun c a => ?_, a2, e35, hrl, by rw [e36]; exact a3⟩, ?_, ?_, ?_⟩
    · rw [P _ _ (by omega)]; exact u1
    · rw [P _ _ (by omega)]; exact u2
    · rw [P _ _ (by omega)]; exact u3
    · rw [P _ _ (by omega)]; exact u4
    · rw [hM _ _ _ (by omega) (by omega) (by omega) (by omega) (by omega)]; exact m1
    · rw [hM _ _ _ (by omega) (by omega) (by omega) (by omega) (by omega)]; exact m2
    · rw [hM _ _ _ (by omega) (by omega) (by omega) (by omega) (by omega)]; exact m3
    · rw [hM _ _ _ (by omega) (by omega) (by omega) (by omega) (by omega)]; exact m4
    · obtain ⟨⟨d1, d2, d3⟩, ⟨x1, x2⟩, -⟩ := t13 c a
      refine ⟨⟨?_, d2, fun j hj => ?_⟩, ⟨?_, fun j hj => ?_⟩⟩
      · rw [P _ _ (by omega)]; exact d1
      · rw [P 12 _ (by omega), P 13 _ (by omega), P 14 _ (by omega)]; exact d3 j hj
      · rw [hM _ _ _ (by omega) (by omega) (by omega) (by omega) (by omega)]; exact x1
      · rw [hM 37 _ _ (by omega) (by omega) (by omega) (by omega) (by omega), hM 39 _ _ (by omega) (by omega) (by omega) (by omega) (by omega), hM 41 _ _ (by omega) (by omega) (by omega) (by omega) (by omega)]; exact x2 j hj
    · rw [e43]
      exact Sim_start hz c2 a4 a5 a6 (fun i hi => by rw [a7 i hi, e33]; exact (t15 i hi).1) a8 a9
    · rw [e43]; exact hR.1
    · rw [e43]; exact hR.2
  obtain ⟨x, gc2, g2, s1, s2, s3, s4, s5, s6⟩ := jtries hJ hs (zU_self _ _ _ _ _)
  refine ⟨x, gc1, gc2, g2, a1, s1, ?_, s3, f1.trans s4.D, fun k hk => ?_, fun f i j x1 x2 x3 x4 x5 x6 => ?_, ?_⟩
  · unfold X7_tries
    rw [b1, zc_some, c1, zc_some, zw_eq, zw_eq, zw_eq]
    exact s2
  · rw [s5 _ _ _ (by omega) (by omega) (by omega), zU_ne _ _ (by omega), zU_ne _ _ (by omega), zU_ne _ _ (by omega), c3 _ _ _ (by omega)]
    exact b2 k hk
  · rw [s5 f i j x1 x3 x4]; exact hM f i j x1 x2 x5 x6 x4
  · obtain ⟨t', t1', t2'⟩ := s6 0 (by rw [e43, c2 0 (by omega)]; rfl)
    exact ⟨t', by omega, t2'⟩
theorem jtrialBack {S W PL NC rl tr rl' : Nat} {len : Nat → Nat} {so wh : Nat → Nat → Nat} {ix : Nat → Nat → Bool} {gc g gc2 g2 : zG} (hT : Tld S W PL NC rl tr len so wh ix gc g) (f1 : FrD 2 gc gc2) (h44 : ∀ k, k < 2766 → g2 44 0 k = g 43 0 k) (hm : ∀ f i j, f ≠ 43 → f ≠ 44 → f ≠ 38007 → f ≠ 42007 → f ≠ 35007 → f ≠ 36007 → g2 f i j = g f i j) :
    ∃ g3, X7_takesBack g2 = some (0, g3) ∧ RwE (g 43 0) (g3 43 0) ∧ FrT g g3 ∧ g3 35007 0 0 = nI rl ∧ g3 36007 0 0 = nI tr ∧ g3 37007 0 0 = nI W ∧ Tld S W PL NC rl tr len so wh ix gc2 g3 := by
  obtain ⟨g3, d1, d2, d3, d4, d5, d6⟩ := X7_takesBack_ok g2
  obtain ⟨-, w1, w2, w3, w4, w5, w6⟩ := hT.par
  have hr : RwE (g 43 0) (g3 43 0) := fun i hi => by rw [d2 i hi, h44 i hi]
  have hf : FrT g g3 := fun f i j x1 x2 x3 x4 x5 x6 x7 => by rw [d6 f i j x1 x5 x6 x7, hm f i j x1 x2 x3 x4 x5 x6]
  have e1 : g3 35007 0 0 = nI rl := by rw [d3, hm _ _ _ (by omega) (by omega) (by omega) (by omega) (by omega) (by omega)]; exact w4
  have e2 : g3 36007 0 0 = nI tr := by rw [d4, hm _ _ _ (by omega) (by omega) (by omega) (by omega) (by omega) (by omega)]; exact w5
  have e3 : g3 37007 0 0 = nI W := by rw [d5, hm _ _ _ (by omega) (by omega) (by omega) (by omega) (by omega) (by omega)]; exact w2
  exact ⟨g3, d1, hr, hf, e1, e2, e3, Tld_trial hT f1 hr hf e1 e2 e3⟩
theorem jcount {S W PL NC rl r k : Nat} {len : Nat → Nat} {so wh : Nat → Nat → Nat} {ix : Nat → Nat → Bool} {gc gm : zG} (h : Jn S W PL NC rl r len so wh ix gc gm) (hk : k < 7) : ∃ x, X3_countInAll r (nI k) gc = some (x, gc) ∧ X7_countAll (nI k) gm = some (x, gm) := by
  obtain ⟨hs, hS, hR, hC⟩ := h
  have hP := hs.1
  have m4 := hs.2.1.2.2.2.2
  obtain ⟨p1, p2, p3, p4, p5, p6, p7, p8⟩ := id hP.1
  have st : ∀ n u i, i < 4 → X3_countInAll_l4 (n + 1) r (nI k) u (nI i) gc = X3_countInAll_l4 n r (nI k) (u + gc 28 (4 * r + i) k) (nI (i + 1)) gc := fun n u i hi => by
    rw [X3_countInAll_l4.eq_2]
    unfold X3_countInAll_b33
    simp (disch := omega) only [zc_some, zw_eq, zi_nI, nI_clamp, nI_add, nI_1, nI_lti, nI_inj, nI_ltz, nI_eq0, nI_0lt, nI_ne_m1, nI_ne_m2, nI_m1_ne, nI_m2_ne, if_true, if_false, zU_eq, zU_ne, Nat.add_zero, pk_mul, hi, hk]
  have cl : ∀ d i n u, i + d = 4 → NC ≤ i → X3_countInAll_l4 (n + d + 1) r (nI k) u (nI i) gc = some (u, gc) := by
    intro d
    induction d with
    | zero =>
      intro i n u e _
      rw [X3_countInAll_l4.eq_2, if_neg (by rw [nI_lti (by omega) (by omega)]; omega)]
    | succ d ih =>
      intro i n u e hi
      rw [show n + (d + 1) + 1 = (n + d + 1) + 1 by omega, st _ _ _ (by omega), (hS.2.2.2.2 i hi (by omega)).2 k hk, show u + nI 0 = u by rw [nI_0]; exact Int32.add_zero _]
      exact ih (i + 1) n u (by omega) (by omega)
  have both : ∀ d i n n' u, i + d = NC → ∃ x, X3_countInAll_l4 (n + d + (4 - NC) + 1) r (nI k) u (nI i) gc = some (x, gc) ∧ X7_countAll_l4 (n' + d + 1) (nI k) u (nI i) gm = some (x, gm) := by
    intro d
    induction d with
    | zero =>
      intro i n n' u e
      have e' : i = NC := by omega
      subst e'
      refine ⟨u, by rw [show n + 0 + (4 - i) + 1 = n + (4 - i) + 1 by omega]; exact cl (4 - i) i n u (by omega) (by omega), ?_⟩
      rw [X7_countAll_l4.eq_2]
      simp (disch := omega) only [zc_some, zw_eq, zi_nI, nI_clamp, nI_add, nI_1, nI_lti, nI_inj, nI_ltz, nI_eq0, nI_0lt, nI_ne_m1, nI_ne_m2, nI_m1_ne, nI_m2_ne, if_true, if_false, zU_eq, zU_ne, Nat.add_zero, pk_mul, m4, Nat.lt_irrefl]
    | succ d ih =>
      intro i n n' u e
      have e28 := (hS.2.2.1 i (by omega)).2.2.2.2.2.2.2 k hk
      obtain ⟨x, a1, a2⟩ := ih (i + 1) n n' (u + gm 43 0 (cat i (7 + k))) (by omega)
      have hlt := cat_lt (show i < 4 by omega) (show 7 + k < 14 by omega)
      refine ⟨x, ?_, ?_⟩
      · rw [show n + (d + 1) + (4 - NC) + 1 = (n + d + (4 - NC) + 1) + 1 by omega, st _ _ _ (by omega), e28]; exact a1
      · rw [show n' + (d + 1) + 1 = (n' + d + 1) + 1 by omega, X7_countAll_l4.eq_2]
        simp (disch := omega) only [zc_some, zw_eq, zi_nI, nI_clamp, nI_add, nI_1, nI_lti, nI_inj, nI_ltz, nI_eq0, nI_0lt, nI_ne_m1, nI_ne_m2, nI_m1_ne, nI_m2_ne, if_true, if_false, zU_eq, zU_ne, Nat.add_zero, pk_mul, m4, show i < NC by omega, X7_coreAt_ok]
        exact a2
  obtain ⟨x, a1, a2⟩ := both NC 0 (99999 - 4) (99999 - NC) (nI 0) (by omega)
  refine ⟨x, ?_, ?_⟩
  · unfold X3_countInAll
    rw [show zfuel = 99999 - 4 + NC + (4 - NC) + 1 by have : zfuel = 100000 := rfl; omega]
    exact a1
  · unfold X7_countAll
    rw [show zfuel = 99999 - NC + NC + 1 by have : zfuel = 100000 := rfl; omega]
    exact a2
theorem trial_cases (v1 v2 v3 : Int32) {g : zG} (h21 : g 21007 0 0 = nI 1) (g' : zG) : (X6_isTrial v1 v2 v3 g' = some (nI 0, g') ∧ X7_triedWhy (nI 1) v1 v2 v3 g = some (nI 2, g)) ∨ ∃ rl tr s, rl ≤ 2 ∧ 1 ≤ tr ∧ tr ≤ 9 ∧ s < 65536 ∧ v1 = nI rl ∧ v2 = nI tr ∧ v3 = nI s ∧ X6_isTrial v1 v2 v3 g' = some (nI 1, g') ∧ X7_triedWhy (nI 1) v1 v2 v3 g = some (nI 0, g) := by
  unfold X6_isTrial X7_triedWhy X7_triedWhy_b11
  rw [h21, ite1, ite1]
  rcases within_cases v1 (a := 0) (n := 2) (by omega) (by omega) with h1 | ⟨rl, a1, a2, rfl, h1⟩
  · rw [(h1 _).1, (h1 _).2, zc_some, zc_some, ite0, ite0]; exact Or.inl ⟨rfl, rfl⟩
  · rw [(h1 _).1, (h1 _).2, zc_some, zc_some, ite1, ite1]
    rcases within_cases v2 (a := 1) (n := 9) (by omega) (by omega) with h2 | ⟨tr, b1, b2, rfl, h2⟩
    · rw [(h2 _).1, (h2 _).2, zc_some, zc_some, ite0, ite0]; exact Or.inl ⟨rfl, rfl⟩
    · rw [(h2 _).1, (h2 _).2, zc_some, zc_some, ite1, ite1]
      rcases seed_cases v3 with h3 | ⟨s, s1, rfl, h3⟩
      · rw [(h3 _).1, (h3 _).2, zc_some, zc_some, ite0, ite0]; exact Or.inl ⟨rfl, rfl⟩
      · rw [(h3 _).1, (h3 _).2, zc_some, zc_some, ite1, ite1]; exact Or.inr ⟨rl, tr, s, a2, b1, b2, s1, rfl, rfl, rfl, rfl, rfl⟩
theorem triedWhy_no {x v1 v2 v3 : Int32} {g : zG} (h : g 21007 0 0 = nI 0 ∨ (g 21007 0 0 = nI 1 ∧ x = nI 0)) : X7_triedWhy x v1 v2 v3 g = some (nI 1, g) := by
  unfold X7_triedWhy X7_triedWhy_b11
  rcases h with h | ⟨h, rfl⟩
  · rw [h, ite0]
  · rw [h, ite1, ite0]
theorem zx_ne {k : Nat} {α : Type} (h0 : 0 < k) (hk : k < 10) (A B : α) : (if nI k = 0 then A else B) = B := if_neg (by rw [nI_eq0 (by omega)]; omega)
theorem q_tried {gc gm : zG} (h : INV gc gm) (v1 v2 v3 v4 : Int32) : Alike (X6_tried v1 v2 v3 v4 gc) (X7_tried v1 v2 v3 v4 gm) := by
  unfold X6_tried X7_tried X6_tried_b17
  rw [X7_anew_eq]
  rcases within_cases v4 (a := 0) (n := 5) (by omega) (by omega) with hw | ⟨k, k1, k2, rfl, hw⟩
  · rw [(hw (aN gm)).2, zc_some]
    rcases told_cases h with ⟨a, b⟩ | ⟨S, W, PL, NC, rl, tr, len, so, wh, ix, hT, a, b⟩
    · rw [a, triedWhy_no (Or.inl b), zc_some, ite0, ite1]; exact no_alike h (by omega)
    · rw [a, triedWhy_no (Or.inr ⟨b, rfl⟩), zc_some, ite1, ite1, (hw gc).1, zc_some, ite0]; exact no_alike h (by omega)
  · rw [(hw (aN gm)).2, zc_some]
    rcases told_cases h with ⟨a, b⟩ | ⟨S, W, PL, NC, rl, tr, len, so, wh, ix, hT, a, b⟩
    · rw [a, triedWhy_no (Or.inl b), zc_some, ite0, ite1]; exact no_alike h (by omega)
    · rw [a, ite1, (hw gc).1, zc_some, ite1]
      rcases trial_cases v1 v2 v3 b gc with ⟨t1, t2⟩ | ⟨rl', tr', s, r1, r2, r3, r4, rfl, rfl, rfl, t1, t2⟩
      · rw [t1, t2, zc_some, zc_some, ite0, zx_ne (by omega) (by omega)]; exact no_alike h (by omega)
      · obtain ⟨x, gc1, gc2, g2, j1, j2, j3, j4, j5, j6, j7, -⟩ := jtrial (tr' := tr') hT r1 r4
        obtain ⟨g3, b1, b2, b3, b4, b5, b6, -⟩ := jtrialBack (rl' := rl') hT j5 j6 j7
        obtain ⟨d, d1, d2, -⟩ := jall j4
        have fin : ∀ y : Int32, Alike (zc (X6_answer y gc2) (fun x g => some (x, g))) (zc (X7_triedAll_b25 y g2) (fun x g => some (x, g))) := fun y => by
          unfold X7_triedAll_b25
          rw [b1, zc_some]
          exact ⟨y, _, _, rfl, rfl, INV_trial h hT j5 b2 b3 b4 b5 b6⟩
        have et : gc2 10003 2 0 = g2 43 0 0 := j4.2.1.time
        have cnt : ∀ q, q < 7 → ∃ y, X3_countInAll 2 (nI q) gc2 = some (y, gc2) ∧ X7_countAll (nI q) g2 = some (y, g2) := fun q hq => jcount j4 hq
        rw [t1, t2, zc_some, zc_some, ite1, ite0, j1, zc_some, j2, zc_some, d1, zc_some, iteB]
        unfold X7_triedAll
        rw [j3, zc_some, d2, zc_some, iteB]
        cases d with
        | false =>
          simp only [Bool.not_false, Bool.false_eq_true, if_true, if_false]
          exact fin (-2)
        | true =>
          simp only [Bool.not_true, Bool.false_eq_true, if_true, if_false]
          unfold X7_triedOf
          have hk : k = 0 ∨ k = 1 ∨ k = 2 ∨ k = 3 ∨ k = 4 ∨ k = 5 := by omega
          rcases hk with rfl | rfl | rfl | rfl | rfl | rfl
          · simp (disch := omega) only [zc_some, zw_eq, zi_nI, nI_clamp, nI_add, nI_1, nI_lti, nI_inj, nI_ltz, nI_eq0, nI_0lt, nI_ne_m1, nI_ne_m2, nI_m1_ne, nI_m2_ne, if_true, if_false, zU_eq, zU_ne, Nat.add_zero, pk_mul, et]
            exact fin _
          · obtain ⟨y, y1, y2⟩ := cnt 0 (by omega)
            simp (disch := omega) only [zc_some, zw_eq, zi_nI, nI_clamp, nI_add, nI_1, nI_lti, nI_inj, nI_ltz, nI_eq0, nI_0lt, nI_ne_m1, nI_ne_m2, nI_m1_ne, nI_m2_ne, if_true, if_false, zU_eq, zU_ne, Nat.add_zero, pk_mul, y1, y2, show ¬ (1 = 0) by omega]
            exact fin y
          · obtain ⟨y, y1, y2⟩ := cnt 1 (by omega)
            simp (disch := omega) only [zc_some, zw_eq, zi_nI, nI_clamp, nI_add, nI_1, nI_lti, nI_inj, nI_ltz, nI_eq0, nI_0lt, nI_ne_m1, nI_ne_m2, nI_m1_ne, nI_m2_ne, if_true, if_false, zU_eq, zU_ne, Nat.add_zero, pk_mul, y1, y2, show ¬ (2 = 0) by omega, show ¬ (2 = 1) by omega]
            exact fin y
          · obtain ⟨y, y1, y2⟩ := cnt 3 (by omega)
            simp (disch := omega) only [zc_some, zw_eq, zi_nI, nI_clamp, nI_add, nI_1, nI_lti, nI_inj, nI_ltz, nI_eq0, nI_0lt, nI_ne_m1, nI_ne_m2, nI_m1_ne, nI_m2_ne, if_true, if_false, zU_eq, zU_ne, Nat.add_zero, pk_mul, y1, y2, show ¬ (3 = 0) by omega, show ¬ (3 = 1) by omega, show ¬ (3 = 2) by omega]
            exact fin y
          · obtain ⟨y, y1, y2⟩ := cnt 5 (by omega)
            simp (disch := omega) only [zc_some, zw_eq, zi_nI, nI_clamp, nI_add, nI_1, nI_lti, nI_inj, nI_ltz, nI_eq0, nI_0lt, nI_ne_m1, nI_ne_m2, nI_m1_ne, nI_m2_ne, if_true, if_false, zU_eq, zU_ne, Nat.add_zero, pk_mul, y1, y2, show ¬ (4 = 0) by omega, show ¬ (4 = 1) by omega, show ¬ (4 = 2) by omega, show ¬ (4 = 3) by omega]
            exact fin y
          · obtain ⟨y, y1, y2⟩ := cnt 6 (by omega)
            simp (disch := omega) only [zc_some, zw_eq, zi_nI, nI_clamp, nI_add, nI_1, nI_lti, nI_inj, nI_ltz, nI_eq0, nI_0lt, nI_ne_m1, nI_ne_m2, nI_m1_ne, nI_m2_ne, if_true, if_false, zU_eq, zU_ne, Nat.add_zero, pk_mul, y1, y2, show ¬ (5 = 0) by omega, show ¬ (5 = 1) by omega, show ¬ (5 = 2) by omega, show ¬ (5 = 3) by omega, show ¬ (5 = 4) by omega]
            exact fin y
theorem q_triedWord {gc gm : zG} (h : INV gc gm) (v1 v2 v3 v4 : Int32) : Alike (X6_triedWord v1 v2 v3 v4 gc) (X7_triedWord v1 v2 v3 v4 gm) := by
  unfold X6_triedWord X7_triedWord
  rw [X7_anew_eq]
  rcases addr_cases h v4 with ⟨a, b⟩ | ⟨S, W, PL, NC, rl, tr, len, so, wh, ix, x, hT, hx, hPL, rfl, a, b⟩
  · have h21 : aN gm 21007 0 0 = nI 0 ∨ (aN gm 21007 0 0 = nI 1 ∧ nI 0 = nI 0) := by
      rcases told_cases h with ⟨-, z⟩ | ⟨_, _, _, _, _, _, _, _, _, _, -, -, z⟩
      · exact Or.inl z
      · exact Or.inr ⟨z, rfl⟩
    rw [a, b, zc_some, zc_some, triedWhy_no h21, zc_some, ite0, ite1]; exact no_alike h (by omega)
  · have h21 : aN gm 21007 0 0 = nI 1 := hT.1.2.2.2.2.2.2.2.2.2.2.2.2.2.2.2.2
    rw [a, b, zc_some, zc_some, ite1]
    rcases trial_cases v1 v2 v3 h21 gc with ⟨t1, t2⟩ | ⟨rl', tr', s, r1, r2, r3, r4, rfl, rfl, rfl, t1, t2⟩
    · rw [t1, t2, zc_some, zc_some, ite0, zx_ne (by omega) (by omega)]; exact no_alike h (by omega)
    · obtain ⟨y, gc1, gc2, g2, j1, j2, j3, j4, j5, j6, j7, -⟩ := jtrial (tr' := tr') hT r1 r4
      obtain ⟨g3, b1, b2, b3, b4, b5, b6, -⟩ := jtrialBack (rl' := rl') hT j5 j6 j7
      obtain ⟨w, w1, w2⟩ := jword j4.1.1 j4.1.2.1 j4.2.1 j4.2.2.1.1 hx
      rw [t1, t2, zc_some, zc_some, ite1, ite0, j1, j3, zc_some, zc_some, j2, w2, zc_some, zc_some, w1, b1, zc_some, zc_some]
      exact ⟨w, _, _, rfl, rfl, INV_trial h hT j5 b2 b3 b4 b5 b6⟩
theorem q_best {gc gm : zG} (h : INV gc gm) (v : Int32) : Alike (X6_best v gc) (X7_best v gm) := by
  unfold X6_best X7_best
  rw [X7_anew_eq]
  rcases told_cases h with ⟨a, b⟩ | ⟨S, W, PL, NC, rl, tr, len, so, wh, ix, hT, a, b⟩
  · rw [a, b, ite0, ite0]; exact no_alike h (by omega)
  · rw [a, b, ite1, ite1]
    rcases seed_cases v with hs | ⟨s, s1, rfl, hs⟩
    · rw [(hs _).1, (hs _).2, zc_some, zc_some, ite0, ite0]; exact no_alike h (by omega)
    · rw [(hs _).1, (hs _).2, zc_some, zc_some, ite1, ite1]
      have key : ∀ d i n n' (fd fw : Int32) gc' g', Tld S W PL NC rl tr len so wh ix gc' g' → FrD 2 gc gc' → RwE (aN gm 43 0) (g' 43 0) → FrT (aN gm) g' → i + d = 3 → Alike (X6_best_l34 (n + d + 1) (nI s) fd fw (nI i) gc') (X7_best_l38 (n' + d + 1) (nI s) fd fw (nI i) g') := by
        intro d
        induction d with
        | zero =>
          intro i n n' fd fw gc' g' hT' f1 hr hf e
          have e' : i = 3 := by omega
          subst e'
          obtain ⟨q1, q2, -⟩ := hT'.tr
          have q3 := hT'.1.2.1.2.2.1
          rw [X6_best_l34.eq_2, X7_best_l38.eq_2, if_pos (show nI 2 < nI 3 by decide), if_neg (show ¬ nI 3 < nI 3 by decide)]
          exact ⟨fd, _, _, rfl, rfl, INV_trial h hT f1 hr hf hT'.1.2.2.2.2.2.1 q2 q3⟩
        | succ d ih =>
          intro i n n' fd fw gc' g' hT' f1 hr hf e
          obtain ⟨⟨c1, c2, c3, c4, c5, c6⟩, w1, w2, w3, w4, w5, w6⟩ := hT'.par
          obtain ⟨x, gc1, gc2, g2, j1, j2, j3, j4, j5, j6, j7, t, t1, t2⟩ := jtrial (rl' := i) (tr' := tr) hT' (by omega) s1
          obtain ⟨g3, b1, b2, b3, b4, b5, b6, b7⟩ := jtrialBack (rl' := i) hT' j5 j6 j7
          obtain ⟨dn, d1, d2, -⟩ := jall j4
          have et : gc2 10003 2 0 = nI t := j4.2.1.time.trans t2
          have ta : X7_triedAll (nI i) (nI tr) (nI s) (nI 0) g' = some (if dn = true then nI t else -2, g3) := by
            unfold X7_triedAll X7_triedAll_b25 X7_triedOf
            rw [j3, zc_some, d2, zc_some, iteB]
            cases dn with
            | false =>
              simp only [Bool.not_false, Bool.false_eq_true, if_true, if_false]
              rw [b1, zc_some]
            | true =>
              simp only [Bool.not_true, Bool.false_eq_true, if_true, if_false]
              rw [zi_nI (by omega) (by omega), show (nI 0).toNatClampNeg = 0 from nI_clamp (by omega), t2, zc_some, b1, zc_some]
          have nx := fun (n n' : Nat) (fd fw : Int32) => ih (i + 1) n n' fd fw gc2 g3 b7 (f1.trans j5) (hr.trans b2) (hf.trans b3) (by omega)
          have r1 : X6_best_l34 (n + (d + 1) + 1) (nI s) fd fw (nI i) gc' = if dn = true then (if fd = -2 then X6_best_l34 (n + d + 1) (nI s) (nI i) (nI t) (nI (i + 1)) gc2 else if nI t < fw then X6_best_l34 (n + d + 1) (nI s) (nI i) (nI t) (nI (i + 1)) gc2 else X6_best_l34 (n + d + 1) (nI s) fd fw (nI (i + 1)) gc2) else X6_best_l34 (n + d + 1) (nI s) fd fw (nI (i + 1)) gc2 := by
            rw [show n + (d + 1) + 1 = (n + d + 1) + 1 by omega, X6_best_l34.eq_2, if_neg (by rw [nI_lti (by omega) (by omega)]; omega), c5, j1, zc_some, j2, zc_some, d1, zc_some, iteB]
            unfold X6_best_b106 X6_best_b95
            unfold X6_best_b106
            rw [nI_add, et]
          have r2 : X7_best_l38 (n' + (d + 1) + 1) (nI s) fd fw (nI i) g' = if dn = true then (if fd = -2 then X7_best_l38 (n' + d + 1) (nI s) (nI i) (nI t) (nI (i + 1)) g3 else if nI t < fw then X7_best_l38 (n' + d + 1) (nI s) (nI i) (nI t) (nI (i + 1)) g3 else X7_best_l38 (n' + d + 1) (nI s) fd fw (nI (i + 1)) g3) else X7_best_l38 (n' + d + 1) (nI s) fd fw (nI (i + 1)) g3 := by
            rw [show n' + (d + 1) + 1 = (n' + d + 1) + 1 by omega, X7_best_l38.eq_2, if_pos (by rw [nI_lti (by omega) (by omega)]; omega), zi_nI (by omega) (by omega), show (nI 4).toNatClampNeg = 4 from nI_clamp (by omega), w5, ta, zc_some]
            unfold X7_best_b85 X7_best_b79
            unfold X7_best_b85
            rw [nI_add]
            cases dn with
            | false => rw [if_pos (show (if false = true then nI t else (-2 : Int32)) = -2 from if_neg (by decide)), if_neg (by decide)]
            | true =>
              have e1 : (if true = true then nI t else (-2 : Int32)) = nI t := if_pos rfl
              rw [e1, if_neg (by rw [nI_ne_m2 (by omega)]; exact id), if_pos rfl]
          rw [r1, r2]
          cases dn with
          | false => rw [if_neg (by decide), if_neg (by decide)]; exact nx n n' fd fw
          | true =>
            rw [if_pos rfl, if_pos rfl]
            by_cases z : fd = -2
            · rw [if_pos z, if_pos z]; exact nx n n' _ _
            · rw [if_neg z, if_neg z]
              by_cases y : nI t < fw
              · rw [if_pos y, if_pos y]; exact nx n n' _ _
              · rw [if_neg y, if_neg y]; exact nx n n' _ _
      exact key 3 0 99996 99996 (-2) (nI 0) gc (aN gm) hT (FrD.rfl' 2 gc) (fun _ _ => rfl) (fun _ _ _ _ _ _ _ _ _ _ => rfl) (by omega)
