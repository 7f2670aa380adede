/-! ===== calls that step: step, rounds, draws, interrupt, would, wouldEnd, keep, back ===== -/
theorem Base_run {gc gm gc1 gm1 : zG} (h : INV gc gm) (hc : ∀ f i j, (f = 2000 ∨ f = 10 ∨ f = 12000 ∨ f = 12002 ∨ f = 7001 ∨ f = 11 ∨ f = 11000) → gc1 f i j = gc f i j) (hm : ∀ f i j, (f = 6007 ∨ f = 30 ∨ f = 3007 ∨ f = 9007 ∨ f = 35 ∨ f = 34007) → gm1 f i j = gm f i j) (h2 : gm1 2007 0 0 = nI 0) : Base (zU gc1 13000 0 0 (nI 0)) gm1 := by
  obtain ⟨⟨t, b1, b2, b3⟩, b4, b5, -, -, b8, b9, b, b10, b11⟩ := h.1
  refine ⟨⟨t, b1, ?_, ?_⟩, fun k hk => ?_, ?_, ?_, fun z => ?_, ?_, fun c a => ?_, b, ?_, ?_⟩
  · rw [zU_ne _ _ (by omega), hc _ _ _ (by omega)]; exact b2
  · rw [hm _ _ _ (by omega)]; exact b3
  · rw [zU_ne _ _ (by omega), hc _ _ _ (by omega), hm _ _ _ (by omega)]; exact b4 k hk
  · rw [zU_ne _ _ (by omega), hc _ _ _ (by omega), hm _ _ _ (by omega)]; exact b5
  · rw [zU_self, h2]
  · rw [h2, nI_inj (by omega) (by omega)] at z; omega
  · rw [zU_ne _ _ (by omega), hc _ _ _ (by omega), hm _ _ _ (by omega)]; exact b8
  · rw [zU_ne _ _ (by omega), hc _ _ _ (by omega), hm _ _ _ (by omega)]; exact b9 c a
  · rw [zU_ne _ _ (by omega), hc _ _ _ (by omega)]; exact b10
  · rw [hm _ _ _ (by omega)]; exact b11
theorem Bnd.tro {S W PL NC rl tr r : Nat} {len : Nat → Nat} {so wh : Nat → Nat → Nat} {gc : zG} {m : Rw} {v : Int32} (hz : Siz4 S W PL NC) (h : Bnd S W PL NC rl tr r len so wh gc m) : Bnd S W PL NC rl tr r len so wh (zU gc 13000 0 0 v) m :=
  h.fr hz (fun f i j a _ => zU_ne _ _ (by unfold ofRun at a; omega))
theorem INV_run {S W PL NC rl tr : Nat} {len : Nat → Nat} {so wh : Nat → Nat → Nat} {ix : Nat → Nat → Bool} {gc gm gc1 gm1 : zG} (h : INV gc gm) (hT : Tld S W PL NC rl tr len so wh ix gc (aN gm)) (hJ : Jn S W PL NC rl 0 len so wh ix gc1 gm1) (f1 : FrC 0 gc gc1) (f2 : FrS (aN gm) gm1) : INV (zU gc1 13000 0 0 (nI 0)) gm1 := by
  have f2' : ∀ f i j, f ≠ 43 → f ≠ 38007 → f ≠ 42007 → f ≠ 1007 → f ≠ 2007 → f ≠ 4007 → gm1 f i j = gm f i j := fun f i j a b c d e x => by rw [f2 f i j a b c, aN_ne gm d e x]
  obtain ⟨t1, t2, -⟩ := hT.tr
  refine ⟨Base_run h (fun f i j a => f1 f i j (by unfold ofRun; omega)) (fun f i j a => f2' f i j (by omega) (by omega) (by omega) (by omega) (by omega) (by omega)) (by rw [f2 _ _ _ (by omega) (by omega) (by omega), aN_2007]), Or.inr ⟨S, W, PL, NC, rl, tr, len, so, wh, ix, hT.1.fr (fun f i j a _ => by rw [zU_ne _ _ (by omega)]; exact f1 f i j (by unfold ofRun; omega)) (fun f i j a => f2 f i j (by omega) (by omega) (by omega)), ?_, fun z => ?_⟩⟩
  · obtain ⟨⟨s1, s2, s3, s4, s5, s6, s7⟩, hS, hR, hC⟩ := hJ
    refine Bnd.tro s1.1 ⟨hS, hR, hC, s4, ?_⟩
    rw [s7, f2 _ _ _ (by omega) (by omega) (by omega)]; exact t2
  · rw [f2 _ _ _ (by omega) (by omega) (by omega)] at z
    have e45 : gm1 45 0 = aN gm 45 0 := funext (fun k => f2 _ _ _ (by omega) (by omega) (by omega))
    rw [e45]
    exact Bnd.tro hT.1.1.1 ((hT.2.2 z).fr hT.1.1.1 (fun f i j a _ => f1 f i j (by unfold ofRun at *; omega)))
theorem q_step {gc gm : zG} (h : INV gc gm) (v : Int32) : Alike (X6_step v gc) (X7_step v gm) := by
  unfold X6_step X7_step
  rw [X7_anew_eq]
  rcases core_cases h v with ⟨a, b⟩ | ⟨S, W, PL, NC, rl, tr, len, so, wh, ix, c, hT, hc, hN, rfl, a, b⟩
  · rw [a, b, zc_some, zc_some, ite0, ite0]; exact no_alike h (by omega)
  · obtain ⟨how, gc1, gm1, s1, s2, s3, s4, s5, s6, -⟩ := jstep hT.Jn hc
    rw [a, b, zc_some, zc_some, ite1, ite1, s1, s2, zc_some, zc_some]
    exact ⟨_, _, _, rfl, rfl, INV_run h hT s4 s5 s6.S⟩
theorem q_rounds {gc gm : zG} (h : INV gc gm) (v : Int32) : Alike (X6_rounds v gc) (X7_rounds v gm) := by
  unfold X6_rounds X7_rounds
  rw [X7_anew_eq]
  rcases told_cases h with ⟨a, b⟩ | ⟨S, W, PL, NC, rl, tr, len, so, wh, ix, hT, a, b⟩
  · rw [a, b, ite0, ite0]; exact no_alike h (by omega)
  · rw [a, b, ite1, ite1]
    rcases within_cases v (a := 1) (n := 200) (by omega) (by omega) with hw | ⟨k, k1, k2, rfl, hw⟩
    · rw [(hw _).1, (hw _).2, zc_some, zc_some, ite0, ite0]; exact no_alike h (by omega)
    · obtain ⟨u, gc1, gm1, s1, s2, s3, s4, s5⟩ := jrounds k2 hT.Jn
      rw [(hw _).1, (hw _).2, zc_some, zc_some, ite1, ite1, s1, s2, zc_some]
      exact ⟨_, _, _, rfl, rfl, INV_run h hT s3 s4 s5⟩
theorem seed_cases (v : Int32) : (∀ g, X6_isSeed v g = some (nI 0, g) ∧ X7_isSeed v g = some (nI 0, g)) ∨ ∃ s, s < 65536 ∧ v = nI s ∧ ∀ g, X6_isSeed v g = some (nI 1, g) ∧ X7_isSeed v g = some (nI 1, g) := by
  unfold X6_isSeed X7_isSeed
  rcases within_cases v (a := 0) (n := 65535) (by omega) (by omega) with hw | ⟨k, k1, k2, rfl, hw⟩
  · exact Or.inl (fun g => by rw [(hw g).1, (hw g).2, zc_some, show zbo (nI 0) (some (nI 0, g)) = some (nI 0, g) from if_pos (Or.inl rfl)]; exact ⟨rfl, rfl⟩)
  · exact Or.inr ⟨k, by omega, rfl, fun g => by rw [(hw g).1, (hw g).2, zc_some, show zbo (nI 1) (some (nI 1, g)) = some (nI 1, g) from if_pos (Or.inr rfl)]; exact ⟨rfl, rfl⟩⟩
theorem q_draws {gc gm : zG} (h : INV gc gm) (v u : Int32) : Alike (X6_draws v u gc) (X7_draws v u gm) := by
  unfold X6_draws X7_draws X6_draws_b31 X7_draws_b35
  rw [X7_anew_eq]
  rcases told_cases h with ⟨a, b⟩ | ⟨S, W, PL, NC, rl, tr, len, so, wh, ix, hT, a, b⟩
  · rw [a, b, ite0, ite0]; exact no_alike h (by omega)
  · rw [a, b, ite1, ite1]
    rcases within_cases v (a := 1) (n := 1000) (by omega) (by omega) with hw | ⟨k, k1, k2, rfl, hw⟩
    · rw [(hw _).1, (hw _).2, zc_some, zc_some, ite0, ite0]; exact no_alike h (by omega)
    · rw [(hw _).1, (hw _).2, zc_some, zc_some, ite1, ite1]
      rcases seed_cases u with hs | ⟨s, hs1, rfl, hs⟩
      · rw [(hs _).1, (hs _).2, zc_some, zc_some, ite0, ite0]; exact no_alike h (by omega)
      · obtain ⟨x, gc1, gm1, s1, s2, s3, s4, s5⟩ := jdraws (show k ≤ 2000 by omega) (hT.Jn.seed (v := nI s)) hs1 (zU_self _ _ _ _ _)
        rw [(hs _).1, (hs _).2, zc_some, zc_some, ite1, ite1, s1, zw_eq, s2, zc_some]
        exact ⟨_, _, _, rfl, rfl, INV_run h hT s3 s4 (((FrS.rfl' _).seed _).trans s5)⟩
theorem q_interrupt {gc gm : zG} (h : INV gc gm) (v : Int32) : Alike (X6_interrupt v gc) (X7_interrupt v gm) := by
  unfold X6_interrupt X7_interrupt
  rw [X7_anew_eq]
  rcases core_cases h v with ⟨a, b⟩ | ⟨S, W, PL, NC, rl, tr, len, so, wh, ix, c, hT, hc, hN, rfl, a, b⟩
  · rw [a, b, zc_some, zc_some, ite0, ite0]; exact no_alike h (by omega)
  · rw [a, b, zc_some, zc_some, ite1, ite1]
    have hJ := hT.Jn
    obtain ⟨hs, hS, hR, hC⟩ := id hJ
    obtain ⟨h1, h2, h3, h4, h5, h6, h7⟩ := id hs
    have hz := h1.1
    have hc4 : c < 4 := by omega
    have ecl : (nI c).toNatClampNeg = c := nI_clamp (by omega)
    have y3 := cat_lt hc4 (show 3 < 14 by omega)
    have y0 := cat_lt hc4 (show 0 < 14 by omega)
    obtain ⟨n1, n2, n3, n4, n5, n6, n7, n8⟩ := hS.2.2.1 c hc
    rw [zi_nI hc4 (by omega), ecl, n5, X7_coreAt_ok, zc_some, zi_nI (by omega) (by omega), show (nI (cat c 3)).toNatClampNeg = cat c 3 from nI_clamp (by omega)]
    by_cases e : aN gm 43 0 (cat c 3) = nI 1
    · obtain ⟨gm1, k1, k2, k3, k4⟩ := X7_ends_ok h2 hc4 (show 2 < 4 by omega)
      have k2' := k2
      rw [← h7] at k2'
      obtain ⟨gc1, j1, j2, j3, j4⟩ := c_endOne hz hS hR.1 hc (show 2 < 4 by omega) k2'
      have hR1 := RI_Ends hz.siz (show 2 < 4 by omega) hc (by rw [e, ne_eq, nI_inj (by omega) (by omega)]; omega) k2 hR
      have hC1 : CMT NC len so (gm1 43 0) := CMT_low (fun i hi _ => Zon_Ends (by omega) hc4 k2 hi) hC
      have hJ1 : Jn S W PL NC rl 0 len so wh ix gc1 gm1 := ⟨hs.fr j3 k3.S, j2, hR1, hC1⟩
      have e0 : gc1 1005 (4 * 0 + c) 0 = gm1 43 0 (cat c 0) := (j2.2.2.1 c hc).1
      rw [if_pos e, if_pos e, j1, k1, zc_some, zc_some, zi_nI hc4 (by omega), e0, X7_coreAt_ok, zc_some, zi_nI (by omega) (by omega), show (nI (cat c 0)).toNatClampNeg = cat c 0 from nI_clamp (by omega)]
      exact ⟨_, _, _, rfl, rfl, INV_run h hT hJ1 j3 k3.S⟩
    · rw [if_neg e, if_neg e]; exact no_alike h (by omega)
/-- a trial in run 2, taken back -/
theorem INV_trial {S W PL NC rl tr : Nat} {len : Nat → Nat} {so wh : Nat → Nat → Nat} {ix : Nat → Nat → Bool} {gc gm gc1 gm1 : zG} (h : INV gc gm) (hT : Tld S W PL NC rl tr len so wh ix gc (aN gm)) (f1 : FrD 2 gc gc1) (hr : RwE (aN gm 43 0) (gm1 43 0)) (hm : ∀ f i j, f ≠ 43 → f ≠ 44 → f ≠ 38007 → f ≠ 42007 → f ≠ 35007 → f ≠ 36007 → f ≠ 37007 → gm1 f i j = aN gm f i j) (e1 : gm1 35007 0 0 = nI rl) (e2 : gm1 36007 0 0 = nI tr) (e3 : gm1 37007 0 0 = nI W) : INV (zU gc1 13000 0 0 (nI 0)) gm1 := by
  have hz := hT.1.1.1
  refine ⟨Base_run h (fun f i j a => f1 f i j (by unfold ofRun; omega) (by omega)) (fun f i j a => by rw [hm f i j (by omega) (by omega) (by omega) (by omega) (by omega) (by omega) (by omega), aN_ne gm (by omega) (by omega) (by omega)]) (by rw [hm _ _ _ (by omega) (by omega) (by omega) (by omega) (by omega) (by omega) (by omega), aN_2007]), Or.inr ⟨S, W, PL, NC, rl, tr, len, so, wh, ix, ?_, ?_, fun z => ?_⟩⟩
  · -- the three numbers first as they were, then as they are: the same
    have hT1 := hT.1.fr (gc' := zU gc1 13000 0 0 (nI 0)) (gm' := fun f i j => if f = 35007 ∨ f = 36007 ∨ f = 37007 then aN gm f i j else gm1 f i j) (fun f i j a b => by rw [zU_ne _ _ (by omega)]; exact f1 f i j (by unfold ofRun; omega) (by omega)) (fun f i j a => by
      by_cases z : f = 35007 ∨ f = 36007 ∨ f = 37007
      · rw [if_pos z]
      · rw [if_neg z]; exact hm f i j (by omega) (by omega) (by omega) (by omega) (by omega) (by omega) (by omega))
    obtain ⟨t1, ⟨u0, u1, u2, u3, u4⟩, t3, t4, t5, t6, t7, t8, t9, t10, t11, t12, t13, t14, t15, t16, t17⟩ := hT1
    exact ⟨t1, ⟨u0, u1, e3, u3, u4⟩, t3, t4, t5, e1, e2, t8, t9, t10, t11, t12, t13, t14, t15, t16, t17⟩
  · obtain ⟨hS, hR, hC, h8, h9⟩ := hT.2.1
    exact Bnd.tro hz (Bnd.fr hz ⟨Sim_ext hz hr hS, RI_ext hz.siz hr hR, CMT_ext hr hC, h8, h9⟩ (fun f i j a _ => f1 f i j (by unfold ofRun at *; omega) (by unfold ofRun at *; omega)))
  · rw [hm _ _ _ (by omega) (by omega) (by omega) (by omega) (by omega) (by omega) (by omega)] at z
    have e45 : gm1 45 0 = aN gm 45 0 := funext (fun k => hm _ _ _ (by omega) (by omega) (by omega) (by omega) (by omega) (by omega) (by omega))
    rw [e45]
    exact Bnd.tro hz ((hT.2.2 z).fr hz (fun f i j a _ => f1 f i j (by unfold ofRun at *; omega) (by unfold ofRun at *; omega)))
theorem Jn_copy {S W PL NC rl tr : Nat} {len : Nat → Nat} {so wh : Nat → Nat → Nat} {ix : Nat → Nat → Bool} {gc gm gc1 gm1 : zG} (hT : Tld S W PL NC rl tr len so wh ix gc gm) (hc : CpR gc gc1 2 0) (hm : ∀ f i j, f ≠ 44 → gm1 f i j = gm f i j) : Jn S W PL NC rl 2 len so wh ix gc1 gm1 ∧ FrD 2 gc gc1 := by
  have hJ := hT.Jn
  obtain ⟨⟨⟨h0, q1, q2, q3, q4⟩, ⟨m0, m1, m2, m3, m4⟩, h3, h4, h5, h6, h7⟩, hS, hR, hC⟩ := hJ
  have f1 : FrD 2 gc gc1 := hc.2.2.2.2.2
  have e43 : gm1 43 0 = gm 43 0 := funext (fun k => hm _ _ _ (by omega))
  have P : ∀ f j, f = 1001 ∨ f = 2001 ∨ f = 3001 ∨ f = 6001 ∨ f = 11 ∨ f = 12 ∨ f = 13 ∨ f = 14 → gc1 f 0 j = gc f 0 j := fun f j a => f1 f 0 j (by unfold ofRun; omega) (by omega)
  refine ⟨⟨⟨⟨h0, ?_, ?_, ?_, ?_⟩, ⟨m0, ?_, ?_, ?_, ?_⟩, fun c a => ?_, ?_, ?_, h6, ?_⟩, ?_, ?_, ?_⟩, f1⟩
  · rw [P _ _ (by omega)]; exact q1
  · rw [P _ _ (by omega)]; exact q2
  · rw [P _ _ (by omega)]; exact q3
  · rw [P _ _ (by omega)]; exact q4
  · rw [hm _ _ _ (by omega)]; exact m1
  · rw [hm _ _ _ (by omega)]; exact m2
  · rw [hm _ _ _ (by omega)]; exact m3
  · rw [hm _ _ _ (by omega)]; exact m4
  · obtain ⟨⟨d1, d2, d3⟩, ⟨x1, x2⟩⟩ := h3 c a
    refine ⟨⟨?_, d2, fun j hj => ?_⟩, ⟨?_, fun j hj => ?_⟩⟩
    · rw [P _ _ (by omega)]; exact d1
    · rw [P 12 _ (by omega), P 13 _ (by omega), P 14 _ (by omega)]; exact d3 j hj
    · rw [hm _ _ _ (by omega)]; exact x1
    · rw [hm 37 _ _ (by omega), hm 39 _ _ (by omega), hm 41 _ _ (by omega)]; exact x2 j hj
  · rw [hc.1 _ (by omega)]; exact h4
  · rw [hm _ _ _ (by omega)]; exact h5
  · rw [hc.1 _ (by omega), hm _ _ _ (by omega)]; exact h7
  · rw [e43]; exact Sim_copy h0 hR.1 hS hc
  · rw [e43]; exact hR
  · rw [e43]; exact hC
theorem would_both {S W PL NC rl tr c : Nat} {len : Nat → Nat} {so wh : Nat → Nat → Nat} {ix : Nat → Nat → Bool} {gc gm : zG} (h : INV gc gm) (hT : Tld S W PL NC rl tr len so wh ix gc (aN gm)) (hc : c < NC) :
    ∃ how gc1 gc2 gm1 gm2 gm3, X3_copyFrom 2 0 gc = some (0, gc1) ∧ X3_takeStep 2 (nI c) gc1 = some (nI how, gc2) ∧ X7_laysAside (aN gm) = some (0, gm1) ∧ X7_steps (nI c) gm1 = some (nI how, gm2) ∧ X7_takesBack gm2 = some (0, gm3) ∧ gc2 12003 2 0 = gm3 38007 0 0 ∧ INV (zU gc2 13000 0 0 (nI 0)) gm3 := by
  obtain ⟨gc1, a1, a2⟩ := X3_copyFrom_ok (r := 2) (r' := 0) (by omega) gc
  obtain ⟨gm1, b1, b2, b3⟩ := X7_laysAside_ok (aN gm)
  obtain ⟨hJ, f1⟩ := Jn_copy hT a2 b3
  obtain ⟨how, gc2, gm2, s1, s2, s3, s4, s5, s6, s7, -⟩ := jstep hJ hc
  obtain ⟨gm3, d1, d2, d3, d4, d5, d6⟩ := X7_takesBack_ok gm2
  obtain ⟨-, w1, w2, w3, w4, w5, w6⟩ := hT.par
  have M : ∀ f i j, f ≠ 43 → f ≠ 44 → f ≠ 38007 → gm2 f i j = aN gm f i j := fun f i j x y z => by rw [s6 f i j x z, b3 f i j y]
  refine ⟨how, gc1, gc2, gm1, gm2, gm3, a1, s1, b1, s2, d1, by rw [s7, d6 _ _ _ (by omega) (by omega) (by omega) (by omega)], INV_trial h hT (f1.trans s5.D) (fun i hi => ?_) (fun f i j x1 x2 x3 x4 x5 x6 x7 => by rw [d6 f i j x1 x5 x6 x7, M f i j x1 x2 x3]) ?_ ?_ ?_⟩
  · rw [d2 i hi, s6 _ _ _ (by omega) (by omega), b2 i hi]
  · rw [d3, M _ _ _ (by omega) (by omega) (by omega)]; exact w4
  · rw [d4, M _ _ _ (by omega) (by omega) (by omega)]; exact w5
  · rw [d5, M _ _ _ (by omega) (by omega) (by omega)]; exact w2
theorem q_would {gc gm : zG} (h : INV gc gm) (v : Int32) : Alike (X6_would v gc) (X7_would v gm) := by
  unfold X6_would X7_would
  rw [X7_anew_eq]
  rcases core_cases h v with ⟨a, b⟩ | ⟨S, W, PL, NC, rl, tr, len, so, wh, ix, c, hT, hc, hN, rfl, a, b⟩
  · rw [a, b, zc_some, zc_some, ite0, ite0]; exact no_alike h (by omega)
  · obtain ⟨how, gc1, gc2, gm1, gm2, gm3, s1, s2, s3, s4, s5, s6, s7⟩ := would_both h hT hc
    rw [a, b, zc_some, zc_some, ite1, ite1, s1, s3, zc_some, zc_some, s2, s4, zc_some, zc_some, s5, zc_some]
    exact ⟨_, _, _, rfl, rfl, s7⟩
theorem q_wouldEnd {gc gm : zG} (h : INV gc gm) (v : Int32) : Alike (X6_wouldEnd v gc) (X7_wouldEnd v gm) := by
  unfold X6_wouldEnd X7_wouldEnd
  rw [X7_anew_eq]
  rcases core_cases h v with ⟨a, b⟩ | ⟨S, W, PL, NC, rl, tr, len, so, wh, ix, c, hT, hc, hN, rfl, a, b⟩
  · rw [a, b, zc_some, zc_some, ite0, ite0]; exact no_alike h (by omega)
  · obtain ⟨how, gc1, gc2, gm1, gm2, gm3, s1, s2, s3, s4, s5, s6, s7⟩ := would_both h hT hc
    rw [a, b, zc_some, zc_some, ite1, ite1, s1, s3, zc_some, zc_some, s2, s4, zc_some, zc_some, s5, zc_some, s6]
    exact ⟨_, _, _, rfl, rfl, s7⟩
theorem Bnd_copy {S W PL NC rl tr r r' : Nat} {len : Nat → Nat} {so wh : Nat → Nat → Nat} {gc gc1 : zG} {m m' : Rw} (hz : Siz4 S W PL NC) (h : Bnd S W PL NC rl tr r' len so wh gc m) (hc : CpR gc gc1 r r') (hr : RwE m m') : Bnd S W PL NC rl tr r len so wh gc1 m' := by
  obtain ⟨hS, hR, hC, h8, h9⟩ := h
  exact ⟨Sim_ext hz hr (Sim_copy hz hR.1 hS hc), RI_ext hz.siz hr hR, CMT_ext hr hC, by rw [hc.1 _ (by omega)]; exact h8, by rw [hc.1 _ (by omega)]; exact h9⟩
theorem q_keep {gc gm : zG} (h : INV gc gm) : Alike (X6_keep gc) (X7_keep gm) := by
  unfold X6_keep X7_keep
  rw [X7_anew_eq]
  rcases told_cases h with ⟨a, b⟩ | ⟨S, W, PL, NC, rl, tr, len, so, wh, ix, hT, a, b⟩
  · rw [a, b, ite0, ite0]
    refine ⟨nI 0, zU gc 13000 0 0 (nI 1), zU (aN gm) 2007 0 0 (nI 1), rfl, rfl, INV_q h (fun f i j a => zU_ne _ _ (by omega)) (fun f i j a b d => by rw [zU_ne _ _ (by omega)]; exact aN_ne gm a b d) (by rw [zU_self, zU_self]) (fun z => ?_)⟩
    rw [zU_self, nI_inj (by omega) (by omega)] at z
    omega
  · rw [a, b, ite1, ite1]
    have hz := hT.1.1.1
    obtain ⟨gc1, a1, a2⟩ := X3_copyFrom_ok (r := 1) (r' := 0) (by omega) gc
    obtain ⟨gm1, b1, b2, b3, b4⟩ := X7_keep_ok (aN gm)
    have f1 : FrD 1 gc gc1 := a2.2.2.2.2.2
    rw [a1, zc_some, b1]
    refine ⟨nI 1, zU (zU gc1 11000 0 0 (nI 1)) 13000 0 0 (nI 0), gm1, rfl, rfl, ?_, Or.inr ⟨S, W, PL, NC, rl, tr, len, so, wh, ix, hT.1.fr (fun f i j x y => by rw [zU_ne _ _ (by omega), zU_ne _ _ (by omega)]; exact f1 f i j (by unfold ofRun; omega) (by omega)) (fun f i j x => b4 f i j (by omega) (by omega)), ?_, fun _ => ?_⟩⟩
    · obtain ⟨⟨t, c1, c2, c3⟩, c4, c5, -, -, c8, c9, -⟩ := h.1
      have G : ∀ f i j, f = 2000 ∨ f = 10 ∨ f = 12000 ∨ f = 7001 ∨ f = 11 → zU (zU gc1 11000 0 0 (nI 1)) 13000 0 0 (nI 0) f i j = gc f i j := fun f i j x => by
        rw [zU_ne _ _ (by omega), zU_ne _ _ (by omega)]; exact f1 f i j (by unfold ofRun; omega) (by omega)
      have M : ∀ f i j, f = 6007 ∨ f = 30 ∨ f = 3007 ∨ f = 9007 ∨ f = 35 → gm1 f i j = gm f i j := fun f i j x => by
        rw [b4 f i j (by omega) (by omega), aN_ne gm (by omega) (by omega) (by omega)]
      have e2 : gm1 2007 0 0 = nI 0 := by rw [b4 _ _ _ (by omega) (by omega), aN_2007]
      refine ⟨⟨t, c1, by rw [G _ _ _ (by omega)]; exact c2, by rw [M _ _ _ (by omega)]; exact c3⟩, fun k hk => ?_, ?_, by rw [zU_self, e2], fun z => ?_, ?_, fun c x => ?_, true, ?_, b3⟩
      · rw [G _ _ _ (by omega), M _ _ _ (by omega)]; exact c4 k hk
      · rw [G _ _ _ (by omega), M _ _ _ (by omega)]; exact c5
      · rw [e2, nI_inj (by omega) (by omega)] at z; omega
      · rw [G _ _ _ (by omega), M _ _ _ (by omega)]; exact c8
      · rw [G _ _ _ (by omega), M _ _ _ (by omega)]; exact c9 c x
      · rw [zU_ne _ _ (by omega), zU_self]; rfl
    · have e43 : gm1 43 0 = aN gm 43 0 := funext (fun k => b4 _ _ _ (by omega) (by omega))
      rw [e43]
      exact hT.2.1.fr hz (fun f i j x _ => by rw [zU_ne _ _ (by unfold ofRun at x; omega), zU_ne _ _ (by unfold ofRun at x; omega)]; exact f1 f i j (by unfold ofRun at *; omega) (by unfold ofRun at *; omega))
    · exact (Bnd_copy hz hT.2.1 a2 (fun i hi => b2 i hi)).fr hz (fun f i j x _ => by rw [zU_ne _ _ (by unfold ofRun at x; omega), zU_ne _ _ (by unfold ofRun at x; omega)])
theorem q_back {gc gm : zG} (h : INV gc gm) : Alike (X6_back gc) (X7_back gm) := by
  unfold X6_back X7_back
  rw [X7_anew_eq]
  obtain ⟨b, b10, b11⟩ := h.1.2.2.2.2.2.2.2
  rw [b10, aN_ne gm (show 34007 ≠ 1007 by omega) (by omega) (by omega), b11, iteB, iteB]
  cases b with
  | false =>
    rw [if_neg (by decide), if_neg (by decide)]
    refine ⟨nI 0, zU gc 13000 0 0 (nI 1), zU (aN gm) 2007 0 0 (nI 1), rfl, rfl, INV_q h (fun f i j a => zU_ne _ _ (by omega)) (fun f i j a b d => by rw [zU_ne _ _ (by omega)]; exact aN_ne gm a b d) (by rw [zU_self, zU_self]) (fun z => ?_)⟩
    rw [zU_self, nI_inj (by omega) (by omega)] at z
    omega
  | true =>
    rw [if_pos rfl, if_pos rfl]
    obtain ⟨S, W, PL, NC, rl, tr, len, so, wh, ix, hT⟩ : ∃ S W PL NC rl tr len so wh ix, Tld S W PL NC rl tr len so wh ix gc (aN gm) := by
      rcases h.2 with ⟨-, -, -, -, -, z, -⟩ | ⟨S, W, PL, NC, rl, tr, len, so, wh, ix, hT⟩
      · rw [b10] at z; exact absurd z (by decide)
      · exact ⟨S, W, PL, NC, rl, tr, len, so, wh, ix, Tld_aN hT⟩
    have hz := hT.1.1.1
    obtain ⟨gc1, a1, a2⟩ := X3_copyFrom_ok (r := 0) (r' := 1) (by omega) gc
    obtain ⟨gm1, d1, d2, d3⟩ := X7_back_ok (aN gm)
    have f1 : FrD 0 gc gc1 := a2.2.2.2.2.2
    have hK := hT.2.2 (by rw [aN_ne gm (by omega) (by omega) (by omega), b11]; rfl)
    rw [a1, zc_some, d1]
    refine ⟨nI 1, zU gc1 13000 0 0 (nI 0), gm1, rfl, rfl, Base_run h (fun f i j x => f1 f i j (by unfold ofRun; omega) (by omega)) (fun f i j x => by rw [d3 f i j (by omega), aN_ne gm (by omega) (by omega) (by omega)]) (by rw [d3 _ _ _ (by omega), aN_2007]), Or.inr ⟨S, W, PL, NC, rl, tr, len, so, wh, ix, hT.1.fr (fun f i j x y => by rw [zU_ne _ _ (by omega)]; exact f1 f i j (by unfold ofRun; omega) (by omega)) (fun f i j x => d3 f i j (by omega)), ?_, fun z => ?_⟩⟩
    · exact Bnd.tro hz (Bnd_copy hz hK a2 (fun i hi => d2 i hi))
    · have e45 : gm1 45 0 = aN gm 45 0 := funext (fun k => d3 _ _ _ (by omega))
      rw [e45]
      exact Bnd.tro hz (hK.fr hz (fun f i j x _ => f1 f i j (by unfold ofRun at *; omega) (by unfold ofRun at *; omega)))
