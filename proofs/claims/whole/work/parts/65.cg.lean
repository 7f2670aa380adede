/-! ===== deed, core, advice, commit, place, cached, word, sharers, reads, writes ===== -/
theorem lt_cases (u : Int32) {n : Nat} (hn : n < 2 ^ 30) : ((∀ g, X7_in u (nI 0) (nI n - nI 1) g = some (nI 0, g) ∧ X6_isWithin u (nI 0) (nI n - nI 1) g = some (nI 0, g)) ∧ (u < 0 ∨ ¬ u < nI n)) ∨ ∃ j, j < n ∧ u = nI j ∧ ∀ g, X7_in u (nI 0) (nI n - nI 1) g = some (nI 1, g) ∧ X6_isWithin u (nI 0) (nI n - nI 1) g = some (nI 1, g) := by
  have e := pk_sub_toInt (a := n) (b := 1) hn (by omega)
  unfold X7_in X6_isWithin
  rcases pk_ix u (n := n) (by omega) with z | z | ⟨j, j1, rfl⟩
  · exact Or.inl ⟨fun g => by rw [if_pos (show u < nI 0 from z)]; exact ⟨rfl, rfl⟩, Or.inl z⟩
  · have z' := Int32.le_iff_toInt_le.mp z
    rw [nI_toInt (show n < 2 ^ 31 by omega)] at z'
    refine Or.inl ⟨fun g => ?_, Or.inr (fun y => ?_)⟩
    · by_cases z0 : u < nI 0
      · rw [if_pos z0]; exact ⟨rfl, rfl⟩
      · rw [if_neg z0, if_pos (show nI n - nI 1 < u from Int32.lt_iff_toInt_lt.mpr (by omega))]; exact ⟨rfl, rfl⟩
    · have := Int32.lt_iff_toInt_lt.mp y
      rw [nI_toInt (show n < 2 ^ 31 by omega)] at this
      omega
  · refine Or.inr ⟨j, j1, rfl, fun g => ?_⟩
    rw [if_neg (by rw [nI_lti (by omega) (by omega)]; omega), if_neg (fun y => by
      have := Int32.lt_iff_toInt_lt.mp y
      rw [e, nI_toInt (show j < 2 ^ 31 by omega)] at this
      omega)]
    exact ⟨rfl, rfl⟩
theorem hasDeed_no {v u : Int32} {g : zG} (h : X2_hasCore 0 v g = some (nI 0, g)) : X2_hasDeed 0 v u g = some (nI 0, g) := by
  unfold X2_hasCore at h
  unfold X2_hasDeed
  by_cases z0 : v < 0
  · rw [if_pos z0]
  · rw [if_neg z0] at h ⊢
    by_cases z1 : v < g 6001 0 0
    · rw [if_pos z1] at h ⊢
      by_cases z2 : v < nI 4
      · rw [if_pos z2] at h
        have e' : nI 1 = nI 0 := congrArg (fun o => (o.map Prod.fst).getD 0) h
        exact absurd e' (by decide)
      · rw [if_neg z2]
    · rw [if_neg z1]
theorem q_deed {gc gm : zG} (h : INV gc gm) (v u x : Int32) : Alike (X6_deed v u x gc) (X7_deed v u x gm) := by
  unfold X6_deed X7_deed X6_deed_b21 X7_deed_b28
  rw [X7_anew_eq]
  rcases core_cases h v with ⟨a, b⟩ | ⟨S, W, PL, NC, rl, tr, len, so, wh, ix, c, hT, hc, hN, rfl, a, b⟩
  · rw [hasDeed_no a, b, zc_some, zc_some, ite0, ite0]; exact no_alike h (by omega)
  · obtain ⟨dC, dM, hW, dX⟩ := hT.1.2.2.2.2.2.2.2.2.2.2.2.2.1 c hc
    have hl24 := dC.2.1
    have hP := hT.1.1
    have hc4 : c < 4 := by omega
    rw [b, zc_some, ite1, zi_nI hc4 (by omega), show (nI c).toNatClampNeg = c from nI_clamp (by omega), dM.1]
    rcases lt_cases u (n := len c) (by omega) with ⟨hw, hu⟩ | ⟨j, j1, rfl, hw⟩
    · have : X2_hasDeed 0 (nI c) u gc = some (nI 0, gc) := by
        obtain ⟨-, q1, q2, q3, q4⟩ := hP
        unfold X2_hasDeed
        simp (disch := omega) only [zc_some, zw_eq, zi_nI, nI_clamp, nI_add, nI_1, nI_lti, nI_inj, nI_ltz, nI_eq0, nI_0lt, nI_ne_m1, nI_ne_m2, nI_m1_ne, nI_m2_ne, if_true, if_false, zU_eq, zU_ne, Nat.add_zero, pk_mul, q4, hc, hc4]
        rcases hu with z | z
        · rw [if_pos z]
        · by_cases z0 : u < 0
          · rw [if_pos z0]
          · rw [if_neg z0, dC.1, if_neg z]
      rw [this, zc_some, ite0, (hw _).1, zc_some, ite0]; exact no_alike h (by omega)
    · rw [hP.hasDeed dC hc j1, zc_some, ite1, (hw _).1, zc_some, ite1]
      obtain ⟨x1, x2, x3⟩ := dX j j1
      have eS := hP.sortOf dC hc j1
      have eW := hP.wholeOf dC hc j1
      have eI : X2_isIndexed 0 (nI c) (nI j) gc = some (bI (ix c j), gc) := by
        have hD := hP.hasDeed dC hc j1
        unfold X2_isIndexed
        simp (disch := omega) only [zc_some, zw_eq, zi_nI, nI_clamp, nI_add, nI_1, nI_lti, nI_inj, nI_ltz, nI_eq0, nI_0lt, nI_ne_m1, nI_ne_m2, nI_m1_ne, nI_m2_ne, if_true, if_false, zU_eq, zU_ne, Nat.add_zero, pk_mul, hD, show ¬ (1 = 0) by omega, Nat.mul_comm c 24, x2]
        rw [iteB]
        cases ix c j with
        | false => rw [if_neg (by decide)]; rfl
        | true => rw [if_pos rfl]; rfl
      have m0 : nI 24 * nI c + nI j = nI (24 * c + j) := by rw [pk_mul, nI_add]
      rw [m0, zi_nI (show 24 * c + j < 96 by omega) (by omega), zi_nI (show 24 * c + j < 96 by omega) (by omega), zi_nI (show 24 * c + j < 96 by omega) (by omega), show (nI (24 * c + j)).toNatClampNeg = 24 * c + j from nI_clamp (by omega), (dM.2 j j1).1, ← x1, x3]
      rcases within_cases x (a := 0) (n := 2) (by omega) (by omega) with hx | ⟨k, k1, k2, rfl, hx⟩
      · have e := (hx gc).2
        unfold X7_in at e
        rw [(hx _).1, zc_some, ite0, if_neg, if_neg, if_neg]
        · exact no_alike h (by omega)
        · rintro rfl; rw [if_neg (by decide), if_neg (by decide)] at e; exact absurd (congrArg (fun o => (o.map Prod.fst).getD 0) e : nI 1 = nI 0) (by decide)
        · rintro rfl; rw [if_neg (by decide), if_neg (by decide)] at e; exact absurd (congrArg (fun o => (o.map Prod.fst).getD 0) e : nI 1 = nI 0) (by decide)
        · rintro rfl; rw [if_neg (by decide), if_neg (by decide)] at e; exact absurd (congrArg (fun o => (o.map Prod.fst).getD 0) e : nI 1 = nI 0) (by decide)
      · rw [(hx _).1, zc_some, ite1]
        have hk : k = 0 ∨ k = 1 ∨ k = 2 := by omega
        unfold X6_deed_b75
        rcases hk with rfl | rfl | rfl
        · rw [ite0, if_pos rfl, eS, zc_some]; exact ok_alike h _
        · rw [ite1, if_pos rfl, if_neg (by decide), if_pos rfl, eW, zc_some]; exact ok_alike h _
        · rw [if_neg (by decide), if_neg (by decide), if_neg (by decide), if_neg (by decide), if_pos rfl, eI, zc_some]
          unfold X6_asBit
          rw [iteB]
          cases ix c j with
          | false => rw [if_neg (by decide), zc_some]; exact ok_alike h _
          | true => rw [if_pos rfl, zc_some]; exact ok_alike h _
theorem Tld.Jn {S W PL NC rl tr : Nat} {len : Nat → Nat} {so wh : Nat → Nat → Nat} {ix : Nat → Nat → Bool} {gc gm : zG} (h : Tld S W PL NC rl tr len so wh ix gc gm) : Jn S W PL NC rl 0 len so wh ix gc gm := by
  obtain ⟨hT, ⟨hS, hR, hC, h8, h9⟩, -⟩ := h
  obtain ⟨t1, t2, t3, t4, t5, t6, t7, t8, t9, t10, t11, t12, t13, -⟩ := hT
  exact ⟨⟨t1, t2, fun c hc => ⟨(t13 c hc).1, (t13 c hc).2.1⟩, h8, t6, t8, h9.trans t7.symm⟩, hS, hR, hC⟩
theorem q_core {gc gm : zG} (h : INV gc gm) (v u : Int32) : Alike (X6_core v u gc) (X7_core v u gm) := by
  unfold X6_core X7_core X6_core_b93
  rw [X7_anew_eq]
  rcases core_cases h v with ⟨a, b⟩ | ⟨S, W, PL, NC, rl, tr, len, so, wh, ix, c, hT, hc, hN, rfl, a, b⟩
  · rw [a, b, zc_some, zc_some, ite0, ite0]; exact no_alike h (by omega)
  · rw [a, b, zc_some, zc_some, ite1, ite1]
    have hJ := hT.Jn
    obtain ⟨k, k1, k2, k3⟩ := Jn_at hJ hc
    obtain ⟨l1, l2⟩ := Jn_left hJ hc k1 (by omega)
    obtain ⟨n1, n2, n3, n4, n5, n6, n7, n8⟩ := hT.2.1.1.2.2.1 c hc
    have hc4 : c < 4 := by omega
    have L := fun k (hk : k < 14) => cat_lt hc4 hk
    have e35 := (hT.1.2.2.2.2.2.2.2.2.2.2.2.2.1 c hc).2.1.1
    have e11 := (hT.1.2.2.2.2.2.2.2.2.2.2.2.2.1 c hc).1.1
    have y0 := L 0 (by omega)
    have y1 := L 1 (by omega)
    have y2 := L 2 (by omega)
    have y3 := L 3 (by omega)
    have y4 := L 4 (by omega)
    have y5 := L 5 (by omega)
    rw [zi_nI hc4 (by omega), l1, l2]
    simp only [zc_some]
    rw [iteB, iteB]
    simp (disch := omega) only [zc_some, zw_eq, zi_nI, nI_clamp, nI_add, nI_1, nI_lti, nI_inj, nI_ltz, nI_eq0, nI_0lt, nI_ne_m1, nI_ne_m2, nI_m1_ne, nI_m2_ne, if_true, if_false, zU_eq, zU_ne, Nat.add_zero, pk_mul, hc4, X7_coreAt_ok, n1, n3, n4, n5, n6, n7, e35, e11]
    by_cases z0 : u = nI 0
    · rw [if_pos z0, if_pos z0]
      by_cases z : k < len c
      · rw [if_pos (decide_eq_true z), if_pos (decide_eq_true z)]; exact ok_alike h _
      · rw [if_neg (by simp [z]), if_neg (by simp [z])]; exact ok_alike h _
    · rw [if_neg z0, if_neg z0]
      by_cases z1 : u = nI 1
      · rw [if_pos z1, if_pos z1]; exact ok_alike h _
      · rw [if_neg z1, if_neg z1]
        by_cases z2 : u = nI 2
        · rw [if_pos z2, if_pos z2]; exact ok_alike h _
        · rw [if_neg z2, if_neg z2]
          by_cases z3 : u = nI 3
          · rw [if_pos z3, if_pos z3]; exact ok_alike h _
          · rw [if_neg z3, if_neg z3]
            by_cases z4 : u = nI 4
            · rw [if_pos z4, if_pos z4]; exact ok_alike h _
            · rw [if_neg z4, if_neg z4]
              by_cases z5 : u = nI 5
              · rw [if_pos z5, if_pos z5]; exact ok_alike h _
              · rw [if_neg z5, if_neg z5]
                by_cases z6 : u = nI 6
                · rw [if_pos z6, if_pos z6]; exact ok_alike h _
                · rw [if_neg z6, if_neg z6]; exact no_alike h (by omega)
theorem Tld.tr {S W PL NC rl tr : Nat} {len : Nat → Nat} {so wh : Nat → Nat → Nat} {ix : Nat → Nat → Bool} {gc gm : zG} (h : Tld S W PL NC rl tr len so wh ix gc gm) : gc 9003 0 0 = nI tr ∧ gm 36007 0 0 = nI tr ∧ 1 ≤ tr ∧ tr ≤ 9 ∧ rl ≤ 2 := by
  obtain ⟨⟨t1, t2, t3, t4, t5, t6, t7, t8, t9, t10, -⟩, ⟨-, -, -, -, h9⟩, -⟩ := h
  exact ⟨h9, t7, t9, t10, t8⟩
theorem q_advice {gc gm : zG} (h : INV gc gm) (v u : Int32) : Alike (X6_advice v u gc) (X7_advice v u gm) := by
  unfold X6_advice X7_advice
  rw [X7_anew_eq]
  rcases core_cases h v with ⟨a, b⟩ | ⟨S, W, PL, NC, rl, tr, len, so, wh, ix, c, hT, hc, hN, rfl, a, b⟩
  · rw [a, b, zc_some, zc_some, ite0, ite0]; exact no_alike h (by omega)
  · rw [a, b, zc_some, zc_some, ite1, ite1]
    rcases within_cases u (a := 0) (n := 3) (by omega) (by omega) with hw | ⟨k, k1, k2, rfl, hw⟩
    · rw [(hw _).1, (hw _).2, zc_some, zc_some, ite0, ite0]; exact no_alike h (by omega)
    · rw [(hw _).1, (hw _).2, zc_some, zc_some, ite1, ite1]
      obtain ⟨n1, n2, n3, n4, n5, n6, n7, n8⟩ := hT.2.1.1.2.2.1 c hc
      have hc4 : c < 4 := by omega
      have y3 := cat_lt hc4 (show 3 < 14 by omega)
      have y4 := cat_lt hc4 (show 4 < 14 by omega)
      obtain ⟨t1, t2, t3, t4, -⟩ := hT.tr
      rw [zi_nI hc4 (by omega), show (nI c).toNatClampNeg = c from nI_clamp (by omega), n5, X7_coreAt_ok, zc_some, zi_nI (by omega) (by omega), show (nI (cat c 3)).toNatClampNeg = cat c 3 from nI_clamp (by omega)]
      by_cases e : aN gm 43 0 (cat c 3) = nI 1
      · rw [if_pos e, if_pos e, X7_coreAt_ok, zc_some, zi_nI (by omega) (by omega), show (nI (cat c 4)).toNatClampNeg = cat c 4 from nI_clamp (by omega)]
        unfold X3_lostAfter X6_advice_b79 X6_asBit X7_advice_b72 X7_advice_b87
        have hk : k = 0 ∨ k = 1 ∨ k = 2 ∨ k = 3 := by omega
        have go : ∀ x y : Int32, y = x → Alike (if x < nI tr then zc (X6_answer (nI 0) gc) (fun x4 g5 => some (x4, g5)) else zc (X6_answer (nI 1) gc) (fun x4 g5 => some (x4, g5))) (if y < nI tr then some (nI 0, aN gm) else some (nI 1, aN gm)) := by
          rintro x y rfl
          by_cases q : y < nI tr
          · rw [if_pos q, if_pos q]; exact ok_alike h _
          · rw [if_neg q, if_neg q]; exact ok_alike h _
        have z0 : ∀ x : Int32, x + nI 0 = x := fun x => by rw [nI_0]; exact Int32.add_zero _
        have f00 : (nI 0 = (0 : Int32)) = True := eq_true (by decide)
        have f10 : (nI 1 = (0 : Int32)) = False := eq_false (by decide)
        have f20 : (nI 2 = (0 : Int32)) = False := eq_false (by decide)
        have f30 : (nI 3 = (0 : Int32)) = False := eq_false (by decide)
        have f01 : (nI 0 = nI 1) = False := eq_false (by decide)
        have f21 : (nI 2 = nI 1) = False := eq_false (by decide)
        have f31 : (nI 3 = nI 1) = False := eq_false (by decide)
        have ecl : (nI c).toNatClampNeg = c := nI_clamp (by omega)
        have ttl : (nI tr < nI tr) = False := eq_false (by rw [nI_lti (by omega) (by omega)]; omega)
        have zic := fun A => @zi_nI c 4 A hc4 (by omega)
        rcases hk with rfl | rfl | rfl | rfl
        · simp only [f00, f10, f01, if_true, if_false, zic, ecl, n6, zc_some, t1, t2]
          exact go _ _ rfl
        · simp only [f00, f10, if_true, if_false, t1, zc_some, ttl]
          exact ok_alike h _
        · simp only [f00, f10, f20, f21, if_true, if_false, zic, ecl, n6, zc_some, t1, t2, z0]
          exact go _ _ rfl
        · simp only [f00, f10, f30, f31, if_true, if_false, zic, ecl, n6, zc_some, t1, t2, z0]
          exact go _ _ rfl
      · rw [if_neg e, if_neg e]; exact no_alike h (by omega)
theorem q_commit {gc gm : zG} (h : INV gc gm) (v u : Int32) : Alike (X6_commit v u gc) (X7_commit v u gm) := by
  unfold X6_commit X7_commit X6_commit_b27 X6_commit_b28 X6_commit_b49 X7_commit_b52
  rw [X7_anew_eq]
  rcases told_cases h with ⟨a, b⟩ | ⟨S, W, PL, NC, rl, tr, len, so, wh, ix, hT, a, b⟩
  · have e7 : gc 7003 0 0 = nI 0 := by
      rcases h.2 with z | ⟨S, W, PL, NC, rl, tr, len, so, wh, ix, hT⟩
      · exact z.2.2.2.2.1
      · have := hT.1.2.2.2.2.2.2.2.2.2.2.2.2.2.2.2.1
        rw [this] at a
        exact absurd a (by decide)
    rw [b, ite0, e7]
    rcases lt_cases v (n := 0) (by omega) with ⟨hw, -⟩ | ⟨j, j1, -⟩
    · rw [(hw _).2, zc_some, ite0, a, ite0]; exact no_alike h (by omega)
    · omega
  · obtain ⟨n, s3, s4, s5, s6⟩ := hT.2.1.1.2.2.2.1.2.2.1
    rw [b, ite1, zi_nI (by omega) (by omega), show (nI 4).toNatClampNeg = 4 from nI_clamp (by omega), s4, s5]
    rcases lt_cases v (n := n) (by omega) with ⟨hw, -⟩ | ⟨j, j1, rfl, hw⟩
    · simp only [(hw gc).2, (hw (aN gm)).1, zc_some, ite0, ite1, a]; exact no_alike h (by omega)
    · have j48 : (nI j < nI 48) = True := eq_true (by rw [nI_lti (by omega) (by omega)]; omega)
      simp only [(hw gc).2, (hw (aN gm)).1, zc_some, ite0, ite1, a, j48, if_true]
      rcases within_cases u (a := 0) (n := 3) (by omega) (by omega) with hx | ⟨k, k1, k2, rfl, hx⟩
      · simp only [(hx gc).1, (hx (aN gm)).2, zc_some, ite0]; exact no_alike h (by omega)
      · have e := s6 (4 * j + k) (by omega)
        simp only [(hx gc).1, (hx (aN gm)).2, zc_some, ite1]
        simp (disch := omega) only [zc_some, zw_eq, zi_nI, nI_clamp, nI_add, nI_1, nI_lti, nI_inj, nI_ltz, nI_eq0, nI_0lt, nI_ne_m1, nI_ne_m2, nI_m1_ne, nI_m2_ne, if_true, if_false, zU_eq, zU_ne, Nat.add_zero, pk_mul, Nat.mul_comm j 4, show 4 * j + k < 192 by omega, e, ← Nat.add_assoc]
        exact ok_alike h _
theorem q_place {gc gm : zG} (h : INV gc gm) (v s w u : Int32) : Alike (X6_place v s w u gc) (X7_place v s w u gm) := by
  unfold X6_place X7_place X7_place_b54
  rw [X7_anew_eq]
  rcases core_cases h v with ⟨a, b⟩ | ⟨S, W, PL, NC, rl, tr, len, so, wh, ix, c, hT, hc, hN, rfl, a, b⟩
  · rw [a, b, zc_some, zc_some, ite0, ite0]
    unfold X6_place_b49 X6_place_b50 X6_place_b67
    rw [ite0]; exact no_alike h (by omega)
  · rw [a, b, zc_some, zc_some, ite1, ite1]
    obtain ⟨⟨c1, c2, c3, c4, c5, c6⟩, d1, d2, d3, d4, d5, d6⟩ := hT.par
    have hz := hT.1.1.1
    obtain ⟨p1, p2, p3, p4, p5, p6, p7, p8⟩ := id hz
    have h16 := pl_16 hz
    rw [c1, zi_nI (by omega) (by omega), show (nI 0).toNatClampNeg = 0 from nI_clamp (by omega), d1]
    rcases lt_cases s (n := S) (by omega) with ⟨hs, -⟩ | ⟨j, j1, rfl, hs⟩
    · rw [(hs _).1, (hs _).2, zc_some, zc_some, ite0, ite0]
      unfold X6_place_b49 X6_place_b50 X6_place_b67
      rw [ite0]; exact no_alike h (by omega)
    · rw [(hs _).1, (hs _).2, zc_some, zc_some, ite1, ite1, c2, zi_nI (by omega) (by omega), show (nI 1).toNatClampNeg = 1 from nI_clamp (by omega), d2]
      rcases lt_cases w (n := W) (by omega) with ⟨hw, -⟩ | ⟨i, i1, rfl, hw⟩
      · rw [(hw _).1, (hw _).2, zc_some, zc_some, ite0, ite0]
        unfold X6_place_b49 X6_place_b50 X6_place_b67
        rw [ite0]; exact no_alike h (by omega)
      · rw [(hw _).1, (hw _).2, zc_some, zc_some, ite1, ite1]
        unfold X6_place_b50 X6_place_b67
        rw [ite1]
        rcases within_cases u (a := 0) (n := 4) (by omega) (by omega) with hx | ⟨k, k1, k2, rfl, hx⟩
        · rw [(hx _).1, (hx _).2, zc_some, zc_some, ite0, ite0]; exact no_alike h (by omega)
        · have hlt := pl_lt j1 i1
          have hpl := pos_lt (show c < 4 by omega) (show j < 4 by omega) (show i < 17 by omega)
          obtain ⟨e0, e1, e2, e3, e4, e5, -⟩ := hT.2.1.1.1 c j i hc j1 i1 (by omega)
          obtain ⟨m2, m3⟩ := hT.2.1.2.1.1.mk c j i hc j1 i1
          rw [(hx _).1, (hx _).2, zc_some, zc_some, ite1, ite1, zi_nI (show c < 4 by omega) (by omega), c2, pk_mul, nI_add]
          have hy : X6_isWithin (nI (j * W + i)) (nI 0) (nI 15) gc = some (nI 1, gc) := by
            unfold X6_isWithin
            rw [if_neg (by rw [nI_lti (by omega) (by omega)]; omega), if_neg (by rw [nI_lti (by omega) (by omega)]; omega)]
          rw [hy, zc_some, ite1, X7_placeAt_ok, zc_some]
          unfold X6_asBit X7_place_b93
          have asb : ∀ x : Int32, x = nI 0 ∨ x = nI 1 → ∀ K : Int32 → zG → zR0, zc (if x = 0 then some (nI 0, gc) else some (nI 1, gc)) K = K x gc := by
            rintro x (rfl | rfl) K
            · rw [ite0]; rfl
            · rw [ite1]; rfl
          have hk : k = 0 ∨ k = 1 ∨ k = 2 ∨ k = 3 ∨ k = 4 := by omega
          rcases hk with rfl | rfl | rfl | rfl | rfl
          · simp (disch := omega) only [zc_some, zw_eq, zi_nI, nI_clamp, nI_add, nI_1, nI_lti, nI_inj, nI_ltz, nI_eq0, nI_0lt, nI_ne_m1, nI_ne_m2, nI_m1_ne, nI_m2_ne, if_true, if_false, zU_eq, zU_ne, Nat.add_zero, pk_mul, show ¬ (0 = 4) by omega, show c < 4 by omega, show j * W + i < 16 by omega, e0]
            exact ok_alike h _
          · simp (disch := omega) only [zc_some, zw_eq, zi_nI, nI_clamp, nI_add, nI_1, nI_lti, nI_inj, nI_ltz, nI_eq0, nI_0lt, nI_ne_m1, nI_ne_m2, nI_m1_ne, nI_m2_ne, if_true, if_false, zU_eq, zU_ne, Nat.add_zero, pk_mul, show ¬ (1 = 4) by omega, show ¬ (1 = 0) by omega, show c < 4 by omega, show j * W + i < 16 by omega, e1]
            exact ok_alike h _
          · simp (disch := omega) only [zc_some, zw_eq, zi_nI, nI_clamp, nI_add, nI_1, nI_lti, nI_inj, nI_ltz, nI_eq0, nI_0lt, nI_ne_m1, nI_ne_m2, nI_m1_ne, nI_m2_ne, if_true, if_false, zU_eq, zU_ne, Nat.add_zero, pk_mul, show ¬ (2 = 4) by omega, show ¬ (2 = 0) by omega, show ¬ (2 = 1) by omega, show c < 4 by omega, show j * W + i < 16 by omega, e2]
            rw [asb _ m2]
            exact ok_alike h _
          · simp (disch := omega) only [zc_some, zw_eq, zi_nI, nI_clamp, nI_add, nI_1, nI_lti, nI_inj, nI_ltz, nI_eq0, nI_0lt, nI_ne_m1, nI_ne_m2, nI_m1_ne, nI_m2_ne, if_true, if_false, zU_eq, zU_ne, Nat.add_zero, pk_mul, show ¬ (3 = 4) by omega, show ¬ (3 = 0) by omega, show ¬ (3 = 1) by omega, show ¬ (3 = 2) by omega, show c < 4 by omega, show j * W + i < 16 by omega, e3]
            rw [asb _ m3]
            exact ok_alike h _
          · simp (disch := omega) only [zc_some, zw_eq, zi_nI, nI_clamp, nI_add, nI_1, nI_lti, nI_inj, nI_ltz, nI_eq0, nI_0lt, nI_ne_m1, nI_ne_m2, nI_m1_ne, nI_m2_ne, if_true, if_false, zU_eq, zU_ne, Nat.add_zero, pk_mul, show ¬ (4 = 0) by omega, show ¬ (4 = 1) by omega, show ¬ (4 = 2) by omega, show ¬ (4 = 3) by omega, show c < 4 by omega, show j * W + i < 16 by omega]
            by_cases z : aN gm 43 0 (pos c j i) = -2
            · rw [if_pos z, (e4 z).2]; exact ok_alike h _
            · rw [if_neg z, e5 z]; exact ok_alike h _
