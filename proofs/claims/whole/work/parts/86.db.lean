/-! ===== the reader: a word's line, a core's line ===== -/
theorem hasAddr_d {PL x : Nat} {g : zG} (hPL : 0 < PL ∧ PL ≤ 4) (h : g 3001 1 0 = nI PL) (hx : x < 16 * PL) : X2_hasAddress 1 (nI x) g = some (nI 1, g) := by
  unfold X2_hasAddress X2_addresses
  rw [if_neg (show ¬ nI x < 0 by rw [nI_ltz (by omega)]; exact id), zc_some, h, pk_mul, if_pos (show nI x < nI (16 * PL) by rw [nI_lti (by omega) (by omega)]; exact hx), if_pos (show nI x < nI 64 by rw [nI_lti (by omega) (by omega)]; omega)]
theorem word_line {T s e k S W PL rl tr nc nw : Nat} {op : Bool} {len : Nat → Nat} {so wh : Nat → Nat → Nat} {ix : Nat → Nat → Bool} {B : Nat → Nat} {gc gm : zG} (hR : Rd T B gc gm) (hk : Tk T s e k gc gm) (hD : Dr1 S W PL rl tr nc nw op len so wh ix gc gm) :
    (∃ gc' gm', X5_readWord gc = some (nI 0, gc') ∧ X7_readToldWord gm = some (-1, gm') ∧ Fl gc gm gc' gm') ∨
    (∃ gc' gm', X5_readWord gc = some (nI 1, gc') ∧ X7_readToldWord gm = some (nI 0, gm') ∧ Ok T B e gc gm gc' gm') := by
  obtain ⟨d1, d2, d3, d4, d5, ⟨d6, d6', d6'', -⟩, -⟩ := id hD
  have c2 : (nI 2).toNatClampNeg = 2 := nI_clamp (by omega)
  unfold X5_readWord X7_readToldWord
  rw [d6, d6']
  by_cases q : nw = 12
  · left
    rw [if_neg (show ¬ nI nw < nI 12 by rw [nI_lti (by omega) (by omega)]; omega), if_pos (show nI nw = nI 12 by rw [q]), hk.2.2.1, fail_ok, zc_some, zbo0, errs_ok hk.2.2.2.1, zc_some]
    exact ⟨_, _, rfl, rfl, fl_of 4 s gc gm⟩
  · rw [if_pos (show nI nw < nI 12 by rw [nI_lti (by omega) (by omega)]; omega), if_neg (show ¬ nI nw = nI 12 by rw [nI_inj (by omega) (by omega)]; exact q), d2, if_neg (show ¬ nI 1 = 0 by decide)]
    obtain ⟨gc1, gm1, x1, x2, x3, x4, hR1, s1, e1, k1, hk1, hl1⟩ := go_next hR hk
    have hD1 := hD.fr x3 x4
    obtain ⟨a1, a2, ⟨hz, a3, a3', a4, a4', a5, a5', -⟩, -⟩ := id hD1
    rw [x1, x2, zc_some, zc_some, zi_nI (by omega) (by omega), c2, a5']
    unfold X2_addresses X7_addresses
    rw [zc_some, zc_some, a5, pk_mul, pk_sub (by omega)]
    rcases wholeHere_ok hR1 hk1 (show 0 < 2 ^ 31 by omega) (show 16 * PL - 1 < 2 ^ 31 by omega) with ⟨gc2, gm2, y1, y2, y3⟩ | ⟨n, n0, n1, -, n3, n4, n5, n6, gc2, y1, y2⟩
    · left
      rw [y1, y2, zc_some, zc_some, ite0, if_pos rfl]
      exact ⟨_, _, rfl, rfl, y3.from x3.P x4.P⟩
    · obtain ⟨gc2', gm2, z1, z2, z3⟩ := go_next hR1 hk1
      have : gc2' = gc2 := by
        rw [z1] at y1
        exact (Prod.mk.inj (Option.some.inj y1)).2
      subst this
      obtain ⟨w1, w2, hR2, s2, e2, k2, hk2, hl2⟩ := id z3
      have hD2 := hD1.fr w1 w2
      obtain ⟨b1, b2, b3, b4, b5, ⟨b6, b6', b6'', b6w⟩, -⟩ := id hD2
      have b31 : gc2' 3001 1 0 = nI PL := b3.2.2.2.2.2.1
      have ecl : (nI n).toNatClampNeg = n := nI_clamp (by omega)
      have e16 : gc2' 16 1 n = gc1 16 1 n := w1 _ _ _ (by omega) (by omega) (by omega) (by omega)
      have e34 : gm1 34 0 n = gm2 34 0 n := (w2 _ _ _ (by omega) (by omega) (by omega) (by omega)).symm
      have n64 : n < 64 := by omega
      rw [y2, n6, zc_some, zc_some, ite1, if_neg (show ¬ nI n = -1 by rw [nI_ne_m1 (by omega)]; exact id), n4, hasAddr_d ⟨by omega, by omega⟩ b31 (by omega), zc_some, ite1, zi_nI n64 (by omega), zi_nI n64 (by omega), ecl, e34]
      rcases b6w n n64 with ⟨t1, t2, t3⟩ | ⟨t1, t2⟩
      · rw [t1, t3, if_pos (show nI 0 = 0 from rfl), if_pos rfl, z2, zc_some]
        rcases whole_ok hR2 hk2 (show 0 < 2 ^ 31 by omega) (show 999 < 2 ^ 31 by omega) with ⟨gc3, gm3, y1, y2, y3⟩ | ⟨v, gc3, gm3, v0, v1, -, v3, v4, v5, y1, y2, y3⟩
        · left
          rw [y1, y2, zc_some, zc_some, ite0, if_pos rfl]
          exact ⟨_, _, rfl, rfl, y3.from (x3.P.trans w1.P) (x4.P.trans w2.P)⟩
        · right
          obtain ⟨u1, u2, hR3, s3, e3, k3, hk3, hl3⟩ := id y3
          have hD3 := hD2.fr u1 u2
          obtain ⟨f1, f2, f3, f4, f5, ⟨f6, f6', f6'', f6w⟩, f7, f8, f9⟩ := id hD3
          rw [y1, y2, zc_some, zc_some, ite1, if_neg (show ¬ nI v = -1 by rw [nI_ne_m1 (by omega)]; exact id), v4, zi_nI n64 (by omega), zw_eq, zi_nI n64 (by omega), zw_eq, zU_ne _ _ (by omega), f6', zw_eq]
          have f31 : (zU gc3 16 1 n (nI 1)) 3001 1 0 = nI PL := by rw [zU_ne _ _ (by omega)]; exact f3.2.2.2.2.2.1
          unfold X2_addWord
          rw [hasAddr_d ⟨by omega, by omega⟩ f31 (by omega), zc_some, ite1, zi_nI n64 (by omega), ecl, zw_eq, zU_ne _ _ (by omega), zU_ne _ _ (by omega), f6, zw_eq, zc_some, nI_add]
          have FC : FrPc gc3 (zU (zU (zU gc3 16 1 n (nI 1)) 15 1 n (nI v)) 7001 1 0 (nI (nw + 1))) := (((FrPc.rfl' gc3).u _ (by omega)).u _ (by omega)).u _ (by omega)
          have FM : FrPm gm3 (zU (zU gm3 34 0 n (nI v)) 10007 0 0 (nI (nw + 1))) := ((FrPm.rfl' gm3).u _ (by omega)).u _ (by omega)
          refine ⟨_, _, rfl, rfl, ((x3.P.trans w1.P).trans u1.P).trans FC, ((x4.P.trans w2.P).trans u2.P).trans FM, hR3.set (fun f j x => ?_) (fun f j x => ?_), ⟨s3, e3, k3, hk3.set (fun f x => ?_) (fun f x => ?_), ?_⟩, Or.inr ⟨S, W, PL, rl, tr, nc, nw + 1, op, len, so, wh, ix, ?_, ?_, f3.fr (fun f x => ?_) (fun j x => ?_), ⟨?_, ?_⟩, ⟨?_, ?_, f5.2.2⟩, ⟨?_, ?_, by omega, fun a ha => ?_⟩, fun c x => (f7 c x).fr ?_ ?_ (fun f j y y' => ?_) (fun f j y y' => ?_), fun c x y => ?_, f9⟩⟩
          all_goals try (simp (disch := omega) only [zU_ne] <;> first | exact f1 | exact f2 | exact f4.1 | exact f4.2 | exact f5.1 | exact f5.2.1 | exact f8 c x y)
          · have := hk.1; have := hk1.1; have := hk2.1; omega
          · rw [zU_self]
          · rw [zU_self]
          · by_cases q : a = n
            · right
              subst q
              refine ⟨by rw [zU_ne _ _ (by omega), zU_ne _ _ (by omega), zU_self], v, v1, by rw [zU_ne _ _ (by omega), zU_self], by rw [zU_ne _ _ (by omega), zU_self]⟩
            · rw [zU_ne _ _ (by omega), zU_ne _ _ (by omega), zU_ne _ _ (by omega), zU_ne _ _ (by omega), zU_ne _ _ (by omega), zU_ne _ _ (by omega), zU_ne _ _ (by omega), zU_ne _ _ (by omega)]
              exact f6w a ha
      · obtain ⟨v, v1, v2, v3⟩ := t2
        left
        rw [t1, v3, if_neg (show ¬ nI 1 = 0 by decide), if_neg (show ¬ nI v = -1 by rw [nI_ne_m1 (by omega)]; exact id)]
        unfold X5_readWord_b75
        rw [hk1.2.2.1, fail_ok, zc_some, zbo0, errs_ok hk1.2.2.2.1, zc_some]
        have := fl_of 3 s1 gc2' gm1
        exact ⟨_, _, rfl, rfl, this.from (x3.P.trans w1.P) x4.P⟩
theorem core_line {T s e k S W PL rl tr nc nw : Nat} {op : Bool} {len : Nat → Nat} {so wh : Nat → Nat → Nat} {ix : Nat → Nat → Bool} {B : Nat → Nat} {gc gm : zG} (hR : Rd T B gc gm) (hk : Tk T s e k gc gm) (hD : Dr1 S W PL rl tr nc nw op len so wh ix gc gm) :
    (∃ gc' gm', X5_readCore gc = some (nI 0, gc') ∧ X7_readCore gm = some (-1, gm') ∧ Fl gc gm gc' gm') ∨
    (∃ gc' gm', X5_readCore gc = some (nI 1, gc') ∧ X7_readCore gm = some (nI 0, gm') ∧ Ok T B e gc gm gc' gm') := by
  obtain ⟨d1, d2, d3, ⟨d4, d4'⟩, ⟨d5, d5', d5''⟩, d6, d7, d8, d9, d10, d11⟩ := id hD
  have c5 : (nI 5).toNatClampNeg = 5 := nI_clamp (by omega)
  unfold X5_readCore X7_readCore
  rw [d5, zi_nI (by omega) (by omega), c5, d5', d2, d4, d4']
  by_cases q : nc = 4
  · left
    rw [if_neg (show ¬ nI nc < nI 4 by rw [nI_lti (by omega) (by omega)]; omega), if_pos (show nI nc = nI 4 by rw [q]), hk.2.2.1, fail_ok, zc_some, zbo0, errs_ok hk.2.2.2.1, zc_some]
    exact ⟨_, _, rfl, rfl, fl_of 4 s gc gm⟩
  · rw [if_pos (show nI nc < nI 4 by rw [nI_lti (by omega) (by omega)]; omega), if_neg (show ¬ nI nc = nI 4 by rw [nI_inj (by omega) (by omega)]; exact q), if_neg (show ¬ nI 1 = 0 by decide), iteB, iteB]
    cases op with
    | true =>
      left
      simp only [if_true]
      rw [hk.2.2.1, fail_ok, zc_some, zbo0, errs_ok hk.2.2.2.1, zc_some]
      exact ⟨_, _, rfl, rfl, fl_of 6 s gc gm⟩
    | false =>
      right
      simp only [Bool.false_eq_true, if_false]
      have ecl : (nI nc).toNatClampNeg = nc := nI_clamp (by omega)
      rw [zw_eq, zi_nI (by omega) (by omega), zi_nI (by omega) (by omega), ecl, zw_eq, zi_nI (by omega) (by omega), zi_nI (by omega) (by omega), zU_ne _ _ (by omega), d5', zw_eq, nI_add]
      have hR0 : Rd T B (zU gc 6001 1 0 (nI (nc + 1))) (zU (zU gm 36 0 nc (nI 0)) 32 0 5 (nI (nc + 1))) := hR.set (fun f j x => zU_ne _ _ (by omega)) (fun f j x => by rw [zU_ne _ _ (by omega), zU_ne _ _ (by omega)])
      have hk0 : Tk T s e k (zU gc 6001 1 0 (nI (nc + 1))) (zU (zU gm 36 0 nc (nI 0)) 32 0 5 (nI (nc + 1))) := hk.set (fun f x => zU_ne _ _ (by omega)) (fun f x => by rw [zU_ne _ _ (by omega), zU_ne _ _ (by omega)])
      have hD0 : Dr1 S W PL rl tr (nc + 1) nw false (fun c => if c = nc then 0 else len c) so wh ix (zU gc 6001 1 0 (nI (nc + 1))) (zU (zU gm 36 0 nc (nI 0)) 32 0 5 (nI (nc + 1))) := by
        refine ⟨by rw [zU_ne _ _ (by omega)]; exact d1, by rw [zU_ne _ _ (by omega), zU_ne _ _ (by omega)]; exact d2, d3.fr (fun f x => zU_ne _ _ (by omega)) (fun j x => by rw [zU_ne _ _ (by omega), zU_ne _ _ (by omega)]), ⟨by rw [zU_ne _ _ (by omega)]; exact d4, by rw [zU_ne _ _ (by omega), zU_ne _ _ (by omega)]; exact d4'⟩, ⟨zU_self _ _ _ _ _, zU_self _ _ _ _ _, by omega⟩, d6.fr (zU_ne _ _ (by omega)) (by rw [zU_ne _ _ (by omega), zU_ne _ _ (by omega)]) (fun f j x _ => zU_ne _ _ (by omega)) (fun j _ => by rw [zU_ne _ _ (by omega), zU_ne _ _ (by omega)]), fun c x => ?_, fun c x y => by rw [zU_ne _ _ (by omega)]; exact d8 c (by omega) y, fun c x => ?_, fun z => by omega, fun _ => ?_⟩
        · dsimp only
          by_cases y : c = nc
          · rw [if_pos y]
            refine ⟨by rw [zU_ne _ _ (by omega)]; exact d8 c (by omega) (by omega), by rw [zU_ne _ _ (by omega), y, zU_self], by omega, fun j hj => by omega⟩
          · rw [if_neg y]
            exact (d7 c (by omega)).fr (zU_ne _ _ (by omega)) (by rw [zU_ne _ _ (by omega), zU_ne _ _ (by omega)]) (fun f j x _ => zU_ne _ _ (by omega)) (fun f j x _ => by rw [zU_ne _ _ (by omega), zU_ne _ _ (by omega)])
        · dsimp only
          rw [if_neg (by omega)]
          by_cases y : c + 1 = nc
          · have := d11 (by omega)
            rwa [show nc - 1 = c by omega] at this
          · exact d9 c (by omega)
        · dsimp only
          rw [if_pos (by omega)]; rfl
      obtain ⟨gc1, gm1, x1, x2, x3, x4, hR1, s1, e1, k1, hk1, hl1⟩ := go_next hR0 hk0
      rw [x1, x2, zc_some, zc_some]
      exact ⟨_, _, rfl, rfl, ((FrPc.rfl' gc).u _ (by omega)).trans x3.P, (((FrPm.rfl' gm).u _ (by omega)).u _ (by omega)).trans x4.P, hR1, ⟨s1, e1, k1, hk1, hl1⟩, Or.inr ⟨_, _, _, _, _, _, _, _, _, _, _, _, hD0.fr x3 x4⟩⟩
