/-! ===== alone ===== -/
theorem q_alone {gc gm : zG} (h : INV gc gm) (v u : Int32) : Alike (X6_alone v u gc) (X7_alone v u gm) := by
  unfold X6_alone X7_alone X6_alone_b22 X7_alone_b20
  rw [X7_anew_eq]
  rcases core_cases h v with ⟨a, b⟩ | ⟨S', W', PL', NC', rl', tr', len', so', wh', ix', c, hT', hc, hN, rfl, a, b⟩
  · rw [a, b, zc_some, zc_some, ite0, ite0]; exact no_alike h (by omega)
  · rw [a, b, zc_some, zc_some, ite1, ite1]
    rcases addr_cases h u with ⟨a', b'⟩ | ⟨S, W, PL, NC, rl, tr, len, so, wh, ix, x, hT, hx, hPL, rfl, a', b'⟩
    · rw [a', b', zc_some, zc_some, ite0, ite0]; exact no_alike h (by omega)
    · rw [a', b', zc_some, zc_some, ite1, ite1]
      have eNC : NC' = NC := by
        have e1 := hT.par.1.2.2.2.2.2
        have e2 := hT'.par.1.2.2.2.2.2
        rw [e1, nI_inj (by have := hT.1.1.1.2.2.2.2.2.2.2; omega) (by omega)] at e2
        exact e2.symm
      subst eNC
      obtain ⟨p1, p2, p3, p4, p5, p6, p7, p8⟩ := id hT.1.1.1
      obtain ⟨fw1, fw2⟩ := fstW_ok hT.1
      obtain ⟨gc0, a1, a2, a3⟩ := X4_startOver_ok (fun i hi => (fw1 i hi).1)
      obtain ⟨g0, b1, b2, b3⟩ := X7_plainBegins_ok (fun i hi => (fw1 i hi).2)
      obtain ⟨t1, t2, t3, t4, t5, t6, t7, t8, t9, t10, t11, t12, t13, -⟩ := id hT.1
      have hz : zfuel = 100000 := rfl
      rw [a1, b1, zc_some, zc_some]
      have key : ∀ d i f f' gc1 g1 t, i + d = NC' → FrO gc gc1 → FrP (aN gm) g1 → SoS gc1 t → StB t → PlW g1 t.1 → Alike (X6_alone_l37 (fun (v2 : Int32) g => X6_alone_b100 v2 g) (f + d + 1) (nI c) (nI x) (nI i) gc1) (X7_alone_l32 (f' + d + 1) (nI c) (nI x) (nI i) g1) := by
        intro d
        induction d with
        | zero =>
          intro i f f' gc1 g1 t e f1 f2 hS hB hW
          have e' : i = NC' := by omega
          subst e'
          have e6 : gc1 6001 0 0 = nI i := by rw [f1 _ _ _ (by omega) (by omega) (by omega) (by omega) (by omega)]; exact t1.2.2.2.2
          have e5 : g1 31 0 5 = nI i := by rw [f2 _ _ _ (by omega) (by omega) (by omega)]; exact t2.2.2.2.2
          rw [X6_alone_l37.eq_2, e6, if_neg (by rw [nI_lti (by omega) (by omega)]; omega), X7_alone_l32.eq_2, zi_nI (by omega) (by omega), show (nI 5).toNatClampNeg = 5 from nI_clamp (by omega), e5, if_neg (show ¬ nI i < nI i by rw [nI_lti (by omega) (by omega)]; omega), zi_nI (show x < 64 by omega) (by omega), show (nI x).toNatClampNeg = x from nI_clamp (by omega), hW x (by omega)]
          unfold X6_alone_b100
          rw [zi_nI (show x < 64 by omega) (by omega), show (nI x).toNatClampNeg = x from nI_clamp (by omega), hS.1 x (by omega)]
          exact ⟨_, _, _, rfl, rfl, (INV_o h hT f1 f2).1⟩
        | succ d ih =>
          intro i f f' gc1 g1 t e f1 f2 hS hB hW
          have e6 : gc1 6001 0 0 = nI NC' := by rw [f1 _ _ _ (by omega) (by omega) (by omega) (by omega) (by omega)]; exact t1.2.2.2.2
          have e5 : g1 31 0 5 = nI NC' := by rw [f2 _ _ _ (by omega) (by omega) (by omega)]; exact t2.2.2.2.2
          have hcc : (c + i) % NC' < NC' := Nat.mod_lt _ p7
          obtain ⟨dC, dM, hw, -⟩ := t13 ((c + i) % NC') hcc
          have hl := hw.1
          obtain ⟨gc2, j1, j2, j3⟩ := X4_play_all hcc hw (len ((c + i) % NC')) 0 (zfuel - len ((c + i) % NC') - 1) gc1 t (by omega) (t1.frO f1) (dC.frO f1) hS hB
          rw [show zfuel - len ((c + i) % NC') - 1 + len ((c + i) % NC') + 1 = zfuel by omega] at j1
          have fq : FrP (aN gm) (zU (zU g1 40007 0 0 (nI 0)) 41007 0 0 (nI 0)) := fun f i j x1 x2 x3 => by rw [zU_ne _ _ (by omega), zU_ne _ _ (by omega)]; exact f2 f i j x1 x2 x3
          have hP0 : PlP (zU (zU g1 40007 0 0 (nI 0)) 41007 0 0 (nI 0)) (t.1, 0, 0, 0, 0) := ⟨fun i hi => by rw [zU_ne _ _ (by omega), zU_ne _ _ (by omega)]; exact hW i hi, by rw [zU_ne _ _ (by omega), zU_self], by rw [zU_self]⟩
          have hB0 : StB (t.1, 0, 0, 0, 0) := ⟨hB.1, by simp, by simp, by simp, by simp⟩
          obtain ⟨g2, k1, k2, k3⟩ := X7_plain_all (S := S) (W := W) (NC := NC') (X7_alone_l32 (f' + d + 1)) (nI c) (nI x) (nI i) ⟨p5, p6⟩ (show (c + i) % NC' < 4 by omega) hw (len ((c + i) % NC')) 0 (zfuel - len ((c + i) % NC') - 1) _ _ (by omega) (by rw [fq _ _ _ (by omega) (by omega) (by omega)]; exact t2.2.2.2.1) (dM.frP fq) hP0 hB0
          rw [show zfuel - len ((c + i) % NC') - 1 + len ((c + i) % NC') + 1 = zfuel by omega] at k1
          have hws := (WS_run (S := S) (k := 0) (ix := ix ((c + i) % NC')) (t := t) (t' := (t.1, 0, 0, 0, 0)) hw ⟨rfl, fun z => by cases z⟩ (len ((c + i) % NC')) (by omega)).1
          have r1 : X6_alone_l37 (fun (v2 : Int32) g => X6_alone_b100 v2 g) (f + (d + 1) + 1) (nI c) (nI x) (nI i) gc1 = X6_alone_l37 (fun (v2 : Int32) g => X6_alone_b100 v2 g) (f + d + 1) (nI c) (nI x) (nI (i + 1)) gc2 := by
            have q : ∀ s1 : Int32, s1 = nI ((c + i) % NC') → X6_alone_b89 (X6_alone_l37 (fun (v2 : Int32) g => X6_alone_b100 v2 g) (f + d + 1)) (nI c) (nI x) (nI i) s1 gc1 = X6_alone_l37 (fun (v2 : Int32) g => X6_alone_b100 v2 g) (f + d + 1) (nI c) (nI x) (nI (i + 1)) gc2 := fun s1 hs1 => by
              unfold X6_alone_b89 X4_play
              rw [hs1, j1, zc_some, nI_add]
            rw [show f + (d + 1) + 1 = (f + d + 1) + 1 by omega, X6_alone_l37.eq_2, e6, if_pos (by rw [nI_lti (by omega) (by omega)]; omega), if_pos (by rw [nI_lti (by omega) (by omega)]; omega), nI_add]
            by_cases z : c + i < NC'
            · rw [if_pos (by rw [nI_lti (by omega) (by omega)]; exact z)]
              exact q _ (by rw [Nat.mod_eq_of_lt z])
            · rw [if_neg (by rw [nI_lti (by omega) (by omega)]; exact z)]
              exact q _ (by rw [pk_sub (by omega), Nat.mod_eq_sub_mod (by omega), Nat.mod_eq_of_lt (by omega)])
          have r2 : X7_alone_l32 (f' + (d + 1) + 1) (nI c) (nI x) (nI i) g1 = X7_alone_l32 (f' + d + 1) (nI c) (nI x) (nI (i + 1)) g2 := by
            rw [show f' + (d + 1) + 1 = (f' + d + 1) + 1 by omega, X7_alone_l32.eq_2, zi_nI (by omega) (by omega), show (nI 5).toNatClampNeg = 5 from nI_clamp (by omega), e5, if_pos (by rw [nI_lti (by omega) (by omega)]; omega), zi_nI (show 5 < 6 by omega) (by omega), if_neg (show ¬ nI NC' = 0 by rw [nI_eq0 (by omega)]; omega), zw_eq, zw_eq, nI_add, pk_rem (by omega) p7 (by omega), k1, nI_add]
          rw [r1, r2]
          exact ih (i + 1) f f' gc2 g2 _ (by omega) (f1.trans j3) (fq.trans k3) j2 (hB.run p5 0 _) (by rw [hws]; exact k2.1)
      have := key NC' 0 (zfuel - NC' - 1) (zfuel - NC' - 1) gc0 g0 (fstW (aN gm), 0, 0, 0, 1) (by omega) a3 b3 a2 ⟨fw2, by simp, by simp, by simp, by simp⟩ b2
      rw [show zfuel - NC' - 1 + NC' + 1 = zfuel by omega] at this
      exact this
