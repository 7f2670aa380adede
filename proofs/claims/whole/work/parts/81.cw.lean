/-! ===== the reader: a token, a name ===== -/
def rk (k : Nat) : Nat := if k = 0 then 0 else if k = 1 then 2 else if k = 2 then 3 else if k = 3 then 59 else 1
/-- the token from s to e, of kind k, in both -/
def Tk (T s e k : Nat) (gc gm : zG) : Prop := s ≤ e ∧ e ≤ T ∧ gc 6002 0 0 = nI s ∧ gm 23007 0 0 = nI s ∧ gc 7002 0 0 = nI e ∧ gm 24007 0 0 = nI e ∧ gc 5002 0 0 = nI k ∧ gm 25007 0 0 = nI (rk k) ∧ k ≤ 4 ∧ (k = 0 → s = T) ∧ (k ≠ 0 → s < e) ∧ (k = 2 → ∃ n, n < 1000 ∧ gc 8002 0 0 = nI n ∧ gm 26007 0 0 = nI n)
theorem lex_next {T i : Nat} {B : Nat → Nat} {gc gm : zG} (hR : Rd T B gc gm) (hi : i ≤ T) (h6 : gc 7002 0 0 = nI i) (h24 : gm 24007 0 0 = nI i) :
    ∃ (gc' gm' : zG) (s e k : Nat), X5_advance gc = some (0, gc') ∧ X7_nextToken gm = some (0, gm') ∧ FrA gc gc' ∧ FrB gm gm' ∧ Rd T B gc' gm' ∧ Tk T s e k gc' gm' ∧ i ≤ s := by
  have hT := hR.1
  have hzf : zfuel = 100000 := rfl
  obtain ⟨j, gc1, gm1, y1, y2, y3, y4, y5, y6, y7, y8⟩ := lex_skip (fun g => X5_advance_b46 g) (fun g => X7_nextToken_l65 (fun (s1 : Int32) g => X7_nextToken_b116 s1 g) zfuel g) (fun g => X7_nextToken_l136 (fun (s1 : Int32) g => X7_nextToken_b229 s1 g) zfuel g) (fun (s1 : Int32) g => X7_nextToken_b255 s1 g) (T - i) i (zfuel - (T - i) - 1) (zfuel - (T - i) - 1) (zU gc 6002 0 0 (nI i)) gm (by omega) (hR.fr ((FrA.rfl' gc).u _ (by omega)) (FrB.rfl' gm)) (zU_self _ _ _ _ _) h24
  rw [show zfuel - (T - i) - 1 + (T - i) + 1 = zfuel by omega] at y3 y4
  have fA : FrA gc gc1 := ((FrA.rfl' gc).u _ (by omega)).trans y7
  have c0 : X5_advance gc = X5_advance_b46 gc1 := by
    unfold X5_advance
    rw [zw_eq, h6]; exact y3
  have m0 : X7_nextToken gm = _ := y4
  rw [c0, m0]
  -- both at j: the kind
  have fA2 : FrA gc (zU gc1 7002 0 0 (nI j)) := fA.u _ (by omega)
  have fB2 : FrB gm (zU gm1 23007 0 0 (nI j)) := y8.u _ (by omega)
  have hR2 := hR.fr fA2 fB2
  by_cases z : j < T
  · obtain ⟨b1, b2, b3⟩ := hR2.2.2.2 j (by omega)
    have hk := kindOf_ok b3 (zU gc1 7002 0 0 (nI j))
    have c1 : X5_advance_b46 gc1 = (if kd (B j) = 1 ∨ kd (B j) = 2 then X5_advance_l114 (fun g => X5_advance_b157 g) zfuel (zU (zU (zU gc1 7002 0 0 (nI j)) 5002 0 0 (nI (kd (B j)))) 7002 0 0 (nI (j + 1))) else some (0, zU (zU (zU gc1 7002 0 0 (nI j)) 5002 0 0 (nI (kd (B j)))) 7002 0 0 (nI (j + 1)))) := by
      have k4 : kd (B j) < 2 ^ 31 := by unfold kd; split <;> (try split) <;> (try split) <;> omega
      unfold X5_advance_b46
      rw [y5, zw_eq, zU_ne _ _ (by omega), y5, zU_ne _ _ (by omega), hR.fr fA y8 |>.2.1, if_pos (by rw [nI_lti (by omega) (by omega)]; exact z), zi_nI (by omega) (by omega), show (nI j).toNatClampNeg = j from nI_clamp (by omega), b1, hk, zc_some, zw_eq, zU_ne _ _ (by omega), zU_self, zw_eq, nI_add, zU_ne _ _ (by omega), zU_self]
      by_cases x1 : kd (B j) = 1
      · rw [if_pos (show nI (kd (B j)) = nI 1 by rw [x1]), if_pos (Or.inl x1)]
      · rw [if_neg (show ¬ nI (kd (B j)) = nI 1 by rw [nI_inj k4 (by omega)]; exact x1)]
        by_cases x2 : kd (B j) = 2
        · rw [if_pos (show nI (kd (B j)) = nI 2 by rw [x2]), if_pos (Or.inr x2)]
        · rw [if_neg (show ¬ nI (kd (B j)) = nI 2 by rw [nI_inj k4 (by omega)]; exact x2), if_neg (by omega)]
    have fA3 : ∀ v, FrA gc (zU (zU (zU gc1 7002 0 0 (nI j)) 5002 0 0 v) 7002 0 0 (nI (j + 1))) := fun v => (fA2.u _ (by omega)).u _ (by omega)
    have e5 : ∀ v, (zU (zU (zU gc1 7002 0 0 (nI j)) 5002 0 0 v) 7002 0 0 (nI (j + 1))) 6002 0 0 = nI j := fun v => by rw [zU_ne _ _ (by omega), zU_ne _ _ (by omega), zU_ne _ _ (by omega)]; exact y5
    rw [c1]
    unfold lexB
    rw [if_pos z]
    by_cases z1 : 97 ≤ B j ∧ B j ≤ 122
    · have k1 : kd (B j) = 1 := by unfold kd; rw [if_pos z1]
      rw [if_pos (Or.inl k1), if_pos z1, k1]
      -- one letter ahead in the reference
      have r2 : X7_nextToken_l65 (fun (s1 : Int32) g => X7_nextToken_b116 s1 g) zfuel (zU gm1 23007 0 0 (nI j)) = X7_nextToken_l65 (fun (s1 : Int32) g => X7_nextToken_b116 s1 g) (zfuel - 1) (zU (zU gm1 23007 0 0 (nI j)) 24007 0 0 (nI (j + 1))) := by
        rw [show zfuel = (zfuel - 1) + 1 by omega, X7_nextToken_l65.eq_2, zU_ne _ _ (by omega), y6, see_ok hR2 (by omega), zc_some, if_pos (show j < T by omega), in_ok (by omega) (by omega) (by omega), zc_some, iteB, decide_eq_true z1, if_pos rfl, zU_ne _ _ (by omega), y6, zw_eq, nI_add]
        rfl
      have fB3 : FrB gm (zU (zU gm1 23007 0 0 (nI j)) 24007 0 0 (nI (j + 1))) := fB2.u _ (by omega)
      obtain ⟨e', gc2, gm2, x1, x2, x3, x4, x5, x6, x7, x8⟩ := lex_let (s := j) (fun g => X5_advance_b157 g) (fun (s1 : Int32) g => X7_nextToken_b116 s1 g) (T - (j + 1)) (j + 1) (zfuel - (T - (j + 1)) - 1) (zfuel - 1 - (T - (j + 1)) - 1) _ _ (by omega) (hR.fr (fA3 (nI 1)) fB3) (zU_self _ _ _ _ _) (zU_self _ _ _ _ _) (by rw [zU_ne _ _ (by omega), zU_self]) (by rw [zU_ne _ _ (by omega), zU_self]) (by omega)
      rw [show zfuel - (T - (j + 1)) - 1 + (T - (j + 1)) + 1 = zfuel by omega] at x3
      rw [show zfuel - 1 - (T - (j + 1)) - 1 + (T - (j + 1)) + 1 = zfuel - 1 by omega] at x4
      have fc2 : FrA gc gc2 := (fA3 (nI 1)).trans (fun f i j a b d e => x7 f i j d)
      have fm2 : FrB gm gm2 := fB3.trans (fun f i j a b d e => x8 f i j b)
      have g4 : gc2 5002 0 0 = nI 1 := by rw [x7 _ _ _ (by omega), zU_ne _ _ (by omega), zU_self]
      have g5 : gc2 6002 0 0 = nI j := by rw [x7 _ _ _ (by omega)]; exact e5 _
      have m23 : gm2 23007 0 0 = nI j := by rw [x8 _ _ _ (by omega), zU_ne _ _ (by omega), zU_self]
      try dsimp only
      rw [x3, r2, x4]
      unfold X5_advance_b157 X7_nextToken_b116 X5_advance_b180
      rw [g4, if_pos rfl, x5, g5, pk_sub (by omega), zw_eq]
      by_cases q : 7 < e' - j
      · rw [if_pos (show nI 7 < nI (e' - j) by rw [nI_lti (by omega) (by omega)]; exact q), if_pos q, zw_eq]
        exact ⟨_, _, j, e', 4, rfl, rfl, fc2.u _ (by omega), fm2.u _ (by omega), hR.fr (fc2.u _ (by omega)) (fm2.u _ (by omega)), ⟨by omega, x2, by rw [zU_ne _ _ (by omega)]; exact g5, by rw [zU_ne _ _ (by omega)]; exact m23, by rw [zU_ne _ _ (by omega)]; exact x5, by rw [zU_ne _ _ (by omega)]; exact x6, zU_self _ _ _ _ _, by rw [zU_self]; rfl, by omega, fun y => by omega, fun _ => by omega, fun y => by omega⟩, y1⟩
      · rw [if_neg (show ¬ nI 7 < nI (e' - j) by rw [nI_lti (by omega) (by omega)]; exact q), if_neg q, if_neg (by decide)]
        exact ⟨_, _, j, e', 1, rfl, rfl, fc2, fm2.u _ (by omega), hR.fr fc2 (fm2.u _ (by omega)), ⟨by omega, x2, g5, by rw [zU_ne _ _ (by omega)]; exact m23, x5, by rw [zU_ne _ _ (by omega)]; exact x6, g4, by rw [zU_self]; rfl, by omega, fun y => by omega, fun _ => by omega, fun y => by omega⟩, y1⟩
    · rw [if_neg z1]
      by_cases z2 : 48 ≤ B j ∧ B j ≤ 57
      · have k1 : kd (B j) = 2 := by unfold kd; rw [if_neg z1, if_pos z2]
        rw [if_pos (Or.inr k1), if_pos z2, k1]
        have fB2' : FrB gm (zU (zU gm1 23007 0 0 (nI j)) 26007 0 0 (nI 0)) := fB2.u _ (by omega)
        have hR3 := hR.fr fA2 fB2'
        have v1 : vl B j 1 = B j - 48 := by
          show 0 * 10 + B (j + 0) - 48 = _
          rw [Nat.add_zero]; omega
        have r2 : X7_nextToken_l136 (fun (s1 : Int32) g => X7_nextToken_b229 s1 g) zfuel (zU (zU gm1 23007 0 0 (nI j)) 26007 0 0 (nI 0)) = X7_nextToken_l136 (fun (s1 : Int32) g => X7_nextToken_b229 s1 g) (zfuel - 1) (zU (zU (zU (zU gm1 23007 0 0 (nI j)) 26007 0 0 (nI 0)) 26007 0 0 (nI (vl B j (min (j + 1 - j) 3)))) 24007 0 0 (nI (j + 1))) := by
          rw [show zfuel = (zfuel - 1) + 1 by omega, X7_nextToken_l136.eq_2, zU_ne _ _ (by omega), zU_ne _ _ (by omega), y6, see_ok hR3 (by omega), zc_some, if_pos (show j < T by omega), in_ok (by omega) (by omega) (by omega), zc_some, iteB, decide_eq_true z2, if_pos rfl, zU_ne _ _ (by omega), zU_ne _ _ (by omega), y6, zU_ne _ _ (by omega), zU_self, pk_sub (Nat.le_refl _), Nat.sub_self, if_pos (by decide), see_ok hR3 (by omega), zc_some, if_pos (show j < T by omega), zU_self]
          unfold X7_nextToken_b194
          rw [pk_mul, nI_add, pk_sub (by omega), zw_eq, zU_ne _ _ (by omega), zU_ne _ _ (by omega), zU_ne _ _ (by omega), y6, zw_eq, nI_add, show min (j + 1 - j) 3 = 1 by omega, v1, show 10 * 0 + B j - 48 = B j - 48 by omega]
          rfl
        have fB3 : FrB gm (zU (zU (zU (zU gm1 23007 0 0 (nI j)) 26007 0 0 (nI 0)) 26007 0 0 (nI (vl B j (min (j + 1 - j) 3)))) 24007 0 0 (nI (j + 1))) := (fB2'.u _ (by omega)).u _ (by omega)
        obtain ⟨e', gc2, gm2, x1, x2, x3, x4, x5, x6, x7, x8, x9, x10⟩ := lex_dig (s := j) (fun g => X5_advance_b157 g) (fun (s1 : Int32) g => X7_nextToken_b229 s1 g) (T - (j + 1)) (j + 1) (zfuel - (T - (j + 1)) - 1) (zfuel - 1 - (T - (j + 1)) - 1) _ _ (by omega) (hR.fr (fA3 (nI 2)) fB3) (zU_self _ _ _ _ _) (zU_self _ _ _ _ _) (by rw [zU_ne _ _ (by omega), zU_self]) (by rw [zU_ne _ _ (by omega), zU_ne _ _ (by omega), zU_ne _ _ (by omega), zU_self]) (by omega) (fun k hk => by rw [show j + k = j by omega]; exact z2) (by rw [zU_ne _ _ (by omega), zU_self])
        rw [show zfuel - (T - (j + 1)) - 1 + (T - (j + 1)) + 1 = zfuel by omega] at x3
        rw [show zfuel - 1 - (T - (j + 1)) - 1 + (T - (j + 1)) + 1 = zfuel - 1 by omega] at x4
        have fc2 : FrA gc gc2 := (fA3 (nI 2)).trans (fun f i j a b d e => x7 f i j d)
        have fm2 : FrB gm gm2 := fB3.trans (fun f i j a b d e => x8 f i j b e)
        have g4 : gc2 5002 0 0 = nI 2 := by rw [x7 _ _ _ (by omega), zU_ne _ _ (by omega), zU_self]
        have g5 : gc2 6002 0 0 = nI j := by rw [x7 _ _ _ (by omega)]; exact e5 _
        have m23 : gm2 23007 0 0 = nI j := by rw [x8 _ _ _ (by omega) (by omega), zU_ne _ _ (by omega), zU_ne _ _ (by omega), zU_ne _ _ (by omega), zU_self]
        try dsimp only
        rw [x3, r2, x4]
        unfold X5_advance_b157 X7_nextToken_b229 X5_advance_b180
        rw [g4, if_neg (by decide), x5, g5, pk_sub (by omega), zw_eq]
        by_cases q : 3 < e' - j
        · rw [if_pos (show nI 3 < nI (e' - j) by rw [nI_lti (by omega) (by omega)]; exact q), if_pos q, zw_eq]
          exact ⟨_, _, j, e', 4, rfl, rfl, fc2.u _ (by omega), fm2.u _ (by omega), hR.fr (fc2.u _ (by omega)) (fm2.u _ (by omega)), ⟨by omega, x2, by rw [zU_ne _ _ (by omega)]; exact g5, by rw [zU_ne _ _ (by omega)]; exact m23, by rw [zU_ne _ _ (by omega)]; exact x5, by rw [zU_ne _ _ (by omega)]; exact x6, zU_self _ _ _ _ _, by rw [zU_self]; rfl, by omega, fun y => by omega, fun _ => by omega, fun y => by omega⟩, y1⟩
        · have fc3 : FrA gc (zU gc2 8002 0 0 (nI 0)) := fc2.u _ (by omega)
          obtain ⟨gc3, w1, w2, w3⟩ := lex_val (s := j) (e := e') (gm := gm2) (by omega) x2 x9 (e' - j) j (zfuel - (e' - j) - 1) (zU gc2 8002 0 0 (nI 0)) (by omega) (Nat.le_refl _) (hR.fr fc3 fm2) (by rw [zU_ne _ _ (by omega)]; exact x5) (by rw [zU_self, Nat.sub_self]; rfl)
          rw [show zfuel - (e' - j) - 1 + (e' - j) + 1 = zfuel by omega] at w1
          have fc4 : FrA gc gc3 := fc3.trans (fun f i j a b d e => w3 f i j e)
          rw [if_neg (show ¬ nI 3 < nI (e' - j) by rw [nI_lti (by omega) (by omega)]; exact q), if_neg q, if_pos rfl, zw_eq, zU_ne _ _ (by omega), g5, w1]
          refine ⟨_, _, j, e', 2, rfl, rfl, fc4, fm2.u _ (by omega), hR.fr fc4 (fm2.u _ (by omega)), ⟨by omega, x2, ?_, ?_, ?_, ?_, ?_, ?_, by omega, fun y => by omega, fun _ => by omega, fun _ => ⟨vl B j (e' - j), vl_1000 (by omega) (fun k hk => x9 k (by omega)), w2, ?_⟩⟩, y1⟩
          · rw [w3 _ _ _ (by omega), zU_ne _ _ (by omega)]; exact g5
          · rw [zU_ne _ _ (by omega)]; exact m23
          · rw [w3 _ _ _ (by omega), zU_ne _ _ (by omega)]; exact x5
          · rw [zU_ne _ _ (by omega)]; exact x6
          · rw [w3 _ _ _ (by omega), zU_ne _ _ (by omega)]; exact g4
          · rw [zU_self]; rfl
          · rw [zU_ne _ _ (by omega), x10, show min (e' - j) 3 = e' - j by omega]
      · have k34 : kd (B j) = if B j = 59 then 3 else 4 := by unfold kd; rw [if_neg z1, if_neg z2]
        rw [if_neg (by rw [k34]; split <;> omega), if_neg z2, k34]
        unfold X7_nextToken_b255
        try dsimp only
        rw [zw_eq]
        have fc := fA3 (nI (if B j = 59 then 3 else 4))
        have fm : FrB gm (zU (zU (zU gm1 23007 0 0 (nI j)) 24007 0 0 (nI (j + 1))) 25007 0 0 (nI (if B j = 59 then 59 else 1))) := (fB2.u _ (by omega)).u _ (by omega)
        refine ⟨_, _, j, j + 1, if B j = 59 then 3 else 4, rfl, rfl, fc, fm, hR.fr fc fm, ⟨by omega, by omega, e5 _, ?_, zU_self _ _ _ _ _, ?_, ?_, ?_, ?_, fun y => ?_, fun _ => by omega, fun y => ?_⟩, y1⟩
        · rw [zU_ne _ _ (by omega), zU_ne _ _ (by omega), zU_self]
        · rw [zU_ne _ _ (by omega), zU_self]
        · rw [zU_ne _ _ (by omega), zU_self]
        · rw [zU_self]; split <;> rfl
        · split <;> omega
        · split at y <;> omega
        · split at y <;> omega
  · have ej : j = T := by omega
    subst ej
    unfold lexB X5_advance_b46
    rw [if_neg (show ¬ j < j by omega), y5, zw_eq, zU_ne _ _ (by omega), y5, zU_ne _ _ (by omega), hR.fr fA y8 |>.2.1, if_neg (show ¬ nI j < nI j by rw [nI_lti (by omega) (by omega)]; omega), zw_eq]
    have fc : FrA gc (zU (zU gc1 7002 0 0 (nI j)) 5002 0 0 (nI 0)) := fA2.u _ (by omega)
    have fm : FrB gm (zU (zU gm1 23007 0 0 (nI j)) 25007 0 0 (nI 0)) := fB2.u _ (by omega)
    exact ⟨_, _, j, j, 0, rfl, rfl, fc, fm, hR.fr fc fm, ⟨by omega, by omega, by rw [zU_ne _ _ (by omega), zU_ne _ _ (by omega)]; exact y5, by rw [zU_ne _ _ (by omega), zU_self], by rw [zU_ne _ _ (by omega), zU_self], by rw [zU_ne _ _ (by omega), zU_ne _ _ (by omega)]; exact y6, zU_self _ _ _ _ _, by rw [zU_self]; rfl, by omega, fun _ => rfl, fun y => absurd rfl y, fun y => by omega⟩, y1⟩
