/-! ===== the reader: the next token, in both ===== -/
theorem lex_let {T s : Nat} {B : Nat → Nat} (K : zG → zR0) (k116 : Int32 → zG → zR0) : ∀ d e n n' gc gm, e + d = T → Rd T B gc gm → gc 7002 0 0 = nI e → gm 24007 0 0 = nI e → gc 5002 0 0 = nI 1 → gm 23007 0 0 = nI s → s ≤ e → ∃ (e' : Nat) (gc1 gm1 : zG), e ≤ e' ∧ e' ≤ T ∧ X5_advance_l114 K (n + d + 1) gc = K gc1 ∧ X7_nextToken_l65 k116 (n' + d + 1) gm = k116 (nI (if 7 < e' - s then 1 else 2)) gm1 ∧ gc1 7002 0 0 = nI e' ∧ gm1 24007 0 0 = nI e' ∧ (∀ f i j, f ≠ 7002 → gc1 f i j = gc f i j) ∧ (∀ f i j, f ≠ 24007 → gm1 f i j = gm f i j) := by
  intro d
  induction d with
  | zero =>
    intro e n n' gc gm e0 hR h6 h24 h4 h23 hs
    have e' : e = T := by omega
    subst e'
    have hT := hR.1
    refine ⟨e, gc, gm, Nat.le_refl _, Nat.le_refl _, ?_, ?_, h6, h24, fun _ _ _ _ => rfl, fun _ _ _ _ => rfl⟩
    · rw [X5_advance_l114.eq_2, h6, hR.2.1, if_neg (by rw [nI_lti (by omega) (by omega)]; omega)]
    · rw [X7_nextToken_l65.eq_2, h24, see_ok hR (Nat.le_refl _), zc_some, if_neg (show ¬ e < e by omega), in_m1 (by omega) _ (by omega), zc_some, ite0, h24, h23, pk_sub hs]
      by_cases z : 7 < e - s
      · rw [if_pos (show nI 7 < nI (e - s) by rw [nI_lti (by omega) (by omega)]; exact z), if_pos z]
      · rw [if_neg (show ¬ nI 7 < nI (e - s) by rw [nI_lti (by omega) (by omega)]; exact z), if_neg z]
  | succ d ih =>
    intro e n n' gc gm e0 hR h6 h24 h4 h23 hs
    have hT := hR.1
    obtain ⟨b1, b2, b3⟩ := hR.2.2.2 e (by omega)
    have hk := kindOf_ok b3 gc
    have k4 : kd (B e) < 2 ^ 31 := by unfold kd; split <;> (try split) <;> (try split) <;> omega
    have r1 : X5_advance_l114 K (n + (d + 1) + 1) gc = if kd (B e) = 1 then X5_advance_l114 K (n + d + 1) (zU gc 7002 0 0 (nI (e + 1))) else K gc := by
      rw [show n + (d + 1) + 1 = (n + d + 1) + 1 by omega, X5_advance_l114.eq_2, h6, hR.2.1, if_pos (by rw [nI_lti (by omega) (by omega)]; omega), zi_nI (by omega) (by omega), show (nI e).toNatClampNeg = e from nI_clamp (by omega), b1, hk, zc_some, h4, h6, zw_eq, nI_add]
      by_cases z : kd (B e) = 1
      · rw [if_pos z, if_pos (by rw [z])]
      · rw [if_neg z, if_neg (by rw [nI_inj k4 (by omega)]; exact z)]
    have r2 : X7_nextToken_l65 k116 (n' + (d + 1) + 1) gm = if 97 ≤ B e ∧ B e ≤ 122 then X7_nextToken_l65 k116 (n' + d + 1) (zU gm 24007 0 0 (nI (e + 1))) else k116 (nI (if 7 < e - s then 1 else 2)) gm := by
      rw [show n' + (d + 1) + 1 = (n' + d + 1) + 1 by omega, X7_nextToken_l65.eq_2, h24, see_ok hR (by omega), zc_some, if_pos (show e < T by omega), in_ok (by omega) (by omega) (by omega), zc_some, iteB, h24, h23, pk_sub hs, zw_eq, nI_add]
      by_cases z : 97 ≤ B e ∧ B e ≤ 122
      · rw [decide_eq_true z, if_pos z, if_pos rfl]
      · rw [decide_eq_false z, if_neg z]
        simp only [Bool.false_eq_true, if_false]
        by_cases z : 7 < e - s
        · rw [if_pos (show nI 7 < nI (e - s) by rw [nI_lti (by omega) (by omega)]; exact z), if_pos z]
        · rw [if_neg (show ¬ nI 7 < nI (e - s) by rw [nI_lti (by omega) (by omega)]; exact z), if_neg z]
    by_cases z : 97 ≤ B e ∧ B e ≤ 122
    · have z1 : kd (B e) = 1 := by unfold kd; rw [if_pos z]
      obtain ⟨e', gc1, gm1, y1, y2, y3, y4, y5, y6, y7, y8⟩ := ih (e + 1) n n' (zU gc 7002 0 0 (nI (e + 1))) (zU gm 24007 0 0 (nI (e + 1))) (by omega) (hR.fr ((FrA.rfl' gc).u _ (by omega)) ((FrB.rfl' gm).u _ (by omega))) (zU_self _ _ _ _ _) (zU_self _ _ _ _ _) (by rw [zU_ne _ _ (by omega)]; exact h4) (by rw [zU_ne _ _ (by omega)]; exact h23) (by omega)
      exact ⟨e', gc1, gm1, by omega, y2, by rw [r1, if_pos z1]; exact y3, by rw [r2, if_pos z]; exact y4, y5, y6, fun f i j x => by rw [y7 f i j x, zU_ne _ _ (by omega)], fun f i j x => by rw [y8 f i j x, zU_ne _ _ (by omega)]⟩
    · have z1 : ¬ kd (B e) = 1 := by unfold kd; rw [if_neg z]; split <;> (try split) <;> omega
      exact ⟨e, gc, gm, Nat.le_refl _, by omega, by rw [r1, if_neg z1], by rw [r2, if_neg z], h6, h24, fun _ _ _ _ => rfl, fun _ _ _ _ => rfl⟩
/-- what the digits from s on tell -/
def vl (B : Nat → Nat) (s : Nat) : Nat → Nat
  | 0 => 0
  | m + 1 => vl B s m * 10 + B (s + m) - 48
theorem vl_lt {B : Nat → Nat} {s : Nat} : ∀ m, m ≤ 3 → (∀ k, k < m → 48 ≤ B (s + k) ∧ B (s + k) ≤ 57) → vl B s m < 10 ^ m := by
  intro m
  induction m with
  | zero => intro _ _; exact Nat.zero_lt_one
  | succ m ih =>
    intro hm h
    have h1 := ih (by omega) (fun k hk => h k (by omega))
    have h2 := h m (by omega)
    unfold vl
    rw [Nat.pow_succ]
    omega
theorem vl_1000 {B : Nat → Nat} {s m : Nat} (hm : m ≤ 3) (h : ∀ k, k < m → 48 ≤ B (s + k) ∧ B (s + k) ≤ 57) : vl B s m < 1000 := by
  have h1 := vl_lt m hm h
  have : 10 ^ m ≤ 10 ^ 3 := Nat.pow_le_pow_right (by omega) hm
  omega
theorem lex_dig {T s : Nat} {B : Nat → Nat} (K : zG → zR0) (k229 : Int32 → zG → zR0) : ∀ d e n n' gc gm, e + d = T → Rd T B gc gm → gc 7002 0 0 = nI e → gm 24007 0 0 = nI e → gc 5002 0 0 = nI 2 → gm 23007 0 0 = nI s → s ≤ e → (∀ k, s + k < e → 48 ≤ B (s + k) ∧ B (s + k) ≤ 57) → gm 26007 0 0 = nI (vl B s (min (e - s) 3)) → ∃ (e' : Nat) (gc1 gm1 : zG), e ≤ e' ∧ e' ≤ T ∧ X5_advance_l114 K (n + d + 1) gc = K gc1 ∧ X7_nextToken_l136 k229 (n' + d + 1) gm = k229 (nI (if 3 < e' - s then 1 else 3)) gm1 ∧ gc1 7002 0 0 = nI e' ∧ gm1 24007 0 0 = nI e' ∧ (∀ f i j, f ≠ 7002 → gc1 f i j = gc f i j) ∧ (∀ f i j, f ≠ 24007 → f ≠ 26007 → gm1 f i j = gm f i j) ∧ (∀ k, s + k < e' → 48 ≤ B (s + k) ∧ B (s + k) ≤ 57) ∧ gm1 26007 0 0 = nI (vl B s (min (e' - s) 3)) := by
  intro d
  induction d with
  | zero =>
    intro e n n' gc gm e0 hR h6 h24 h4 h23 hs hd h26
    have e' : e = T := by omega
    subst e'
    have hT := hR.1
    refine ⟨e, gc, gm, Nat.le_refl _, Nat.le_refl _, ?_, ?_, h6, h24, fun _ _ _ _ => rfl, fun _ _ _ _ _ => rfl, hd, h26⟩
    · rw [X5_advance_l114.eq_2, h6, hR.2.1, if_neg (by rw [nI_lti (by omega) (by omega)]; omega)]
    · rw [X7_nextToken_l136.eq_2, h24, see_ok hR (Nat.le_refl _), zc_some, if_neg (show ¬ e < e by omega), in_m1 (by omega) _ (by omega), zc_some, ite0, h24, h23, pk_sub hs]
      by_cases z : 3 < e - s
      · rw [if_pos (show nI 3 < nI (e - s) by rw [nI_lti (by omega) (by omega)]; exact z), if_pos z]
      · rw [if_neg (show ¬ nI 3 < nI (e - s) by rw [nI_lti (by omega) (by omega)]; exact z), if_neg z]
  | succ d ih =>
    intro e n n' gc gm e0 hR h6 h24 h4 h23 hs hd h26
    have hT := hR.1
    obtain ⟨b1, b2, b3⟩ := hR.2.2.2 e (by omega)
    have hk := kindOf_ok b3 gc
    have k4 : kd (B e) < 2 ^ 31 := by unfold kd; split <;> (try split) <;> (try split) <;> omega
    have r1 : X5_advance_l114 K (n + (d + 1) + 1) gc = if kd (B e) = 2 then X5_advance_l114 K (n + d + 1) (zU gc 7002 0 0 (nI (e + 1))) else K gc := by
      rw [show n + (d + 1) + 1 = (n + d + 1) + 1 by omega, X5_advance_l114.eq_2, h6, hR.2.1, if_pos (by rw [nI_lti (by omega) (by omega)]; omega), zi_nI (by omega) (by omega), show (nI e).toNatClampNeg = e from nI_clamp (by omega), b1, hk, zc_some, h4, h6, zw_eq, nI_add]
      by_cases z : kd (B e) = 2
      · rw [if_pos z, if_pos (by rw [z])]
      · rw [if_neg z, if_neg (by rw [nI_inj k4 (by omega)]; exact z)]
    by_cases z : 48 ≤ B e ∧ B e ≤ 57
    · have z1 : kd (B e) = 2 := by unfold kd; rw [if_neg (by omega), if_pos z]
      have hd' : ∀ k, s + k < e + 1 → 48 ≤ B (s + k) ∧ B (s + k) ≤ 57 := fun k hk => by
        by_cases y : s + k = e
        · rw [y]; exact z
        · exact hd k (by omega)
      have r2 : X7_nextToken_l136 k229 (n' + (d + 1) + 1) gm = X7_nextToken_l136 k229 (n' + d + 1) (zU (zU gm 26007 0 0 (nI (vl B s (min (e + 1 - s) 3)))) 24007 0 0 (nI (e + 1))) := by
        rw [show n' + (d + 1) + 1 = (n' + d + 1) + 1 by omega, X7_nextToken_l136.eq_2, h24, see_ok hR (by omega), zc_some, if_pos (show e < T by omega), in_ok (by omega) (by omega) (by omega), zc_some, iteB, decide_eq_true z, if_pos rfl, h24, h23, pk_sub hs]
        unfold X7_nextToken_b194
        by_cases y : e - s < 3
        · have hv := vl_1000 (B := B) (s := s) (m := e - s) (by omega) (fun k hk => hd k (by omega))
          rw [if_pos (show nI (e - s) < nI 3 by rw [nI_lti (by omega) (by omega)]; exact y), see_ok hR (by omega), zc_some, if_pos (show e < T by omega), h26, show min (e - s) 3 = e - s by omega, pk_mul, nI_add, pk_sub (by omega), zw_eq, zU_ne _ _ (by omega), h24, zw_eq, nI_add, show min (e + 1 - s) 3 = (e - s) + 1 by omega, show vl B s (e - s + 1) = vl B s (e - s) * 10 + B (s + (e - s)) - 48 from rfl, show s + (e - s) = e by omega, Nat.mul_comm 10]
        · rw [if_neg (show ¬ nI (e - s) < nI 3 by rw [nI_lti (by omega) (by omega)]; exact y), h26, zw_eq, zU_ne _ _ (by omega), h24, zw_eq, nI_add, show min (e + 1 - s) 3 = min (e - s) 3 by omega]
      obtain ⟨e', gc1, gm1, y1, y2, y3, y4, y5, y6, y7, y8, y9, y10⟩ := ih (e + 1) n n' (zU gc 7002 0 0 (nI (e + 1))) (zU (zU gm 26007 0 0 (nI (vl B s (min (e + 1 - s) 3)))) 24007 0 0 (nI (e + 1))) (by omega) (hR.fr ((FrA.rfl' gc).u _ (by omega)) (((FrB.rfl' gm).u _ (by omega)).u _ (by omega))) (zU_self _ _ _ _ _) (zU_self _ _ _ _ _) (by rw [zU_ne _ _ (by omega)]; exact h4) (by rw [zU_ne _ _ (by omega), zU_ne _ _ (by omega)]; exact h23) (by omega) hd' (by rw [zU_ne _ _ (by omega), zU_self])
      exact ⟨e', gc1, gm1, by omega, y2, by rw [r1, if_pos z1]; exact y3, by rw [r2]; exact y4, y5, y6, fun f i j x => by rw [y7 f i j x, zU_ne _ _ (by omega)], fun f i j x x' => by rw [y8 f i j x x', zU_ne _ _ (by omega), zU_ne _ _ (by omega)], y9, y10⟩
    · have z1 : ¬ kd (B e) = 2 := by unfold kd; rw [if_neg z]; split <;> (try split) <;> omega
      refine ⟨e, gc, gm, Nat.le_refl _, by omega, by rw [r1, if_neg z1], ?_, h6, h24, fun _ _ _ _ => rfl, fun _ _ _ _ _ => rfl, hd, h26⟩
      rw [show n' + (d + 1) + 1 = (n' + d + 1) + 1 by omega, X7_nextToken_l136.eq_2, h24, see_ok hR (by omega), zc_some, if_pos (show e < T by omega), in_ok (by omega) (by omega) (by omega), zc_some, iteB, decide_eq_false z]
      simp only [Bool.false_eq_true, if_false]
      rw [h24, h23, pk_sub hs]
      by_cases z : 3 < e - s
      · rw [if_pos (show nI 3 < nI (e - s) by rw [nI_lti (by omega) (by omega)]; exact z), if_pos z]
      · rw [if_neg (show ¬ nI 3 < nI (e - s) by rw [nI_lti (by omega) (by omega)]; exact z), if_neg z]
/-- the class counts a whole out behind its digits -/
theorem lex_val {T s e : Nat} {B : Nat → Nat} (hes : e - s ≤ 3) (heT : e ≤ T) (hd : ∀ k, s + k < e → 48 ≤ B (s + k) ∧ B (s + k) ≤ 57) {gm : zG} : ∀ d i f gc, i + d = e → s ≤ i → Rd T B gc gm → gc 7002 0 0 = nI e → gc 8002 0 0 = nI (vl B s (i - s)) → ∃ gc1, X5_advance_l209 (f + d + 1) (nI i) gc = some (0, gc1) ∧ gc1 8002 0 0 = nI (vl B s (e - s)) ∧ (∀ f i j, f ≠ 8002 → gc1 f i j = gc f i j) := by
  intro d
  induction d with
  | zero =>
    intro i f gc e0 hi hR h6 h7
    have hT := hR.1
    have e' : i = e := by omega
    subst e'
    exact ⟨gc, by rw [X5_advance_l209.eq_2, h6, if_neg (by rw [nI_lti (by omega) (by omega)]; omega)], h7, fun _ _ _ _ => rfl⟩
  | succ d ih =>
    intro i f gc e0 hi hR h6 h7
    have hT := hR.1
    obtain ⟨b1, b2, b3⟩ := hR.2.2.2 i (by omega)
    have hb := hd (i - s) (by omega)
    rw [show s + (i - s) = i by omega] at hb
    obtain ⟨gc1, y1, y2, y3⟩ := ih (i + 1) f (zU gc 8002 0 0 (nI (vl B s (i + 1 - s)))) (by omega) (by omega) (hR.fr ((FrA.rfl' gc).u _ (by omega)) (FrB.rfl' gm)) (by rw [zU_ne _ _ (by omega)]; exact h6) (zU_self _ _ _ _ _)
    refine ⟨gc1, ?_, y2, fun f i j x => by rw [y3 f i j x, zU_ne _ _ (by omega)]⟩
    rw [show f + (d + 1) + 1 = (f + d + 1) + 1 by omega, X5_advance_l209.eq_2, h6, if_pos (by rw [nI_lti (by omega) (by omega)]; omega), zi_nI (by omega) (by omega), show (nI i).toNatClampNeg = i from nI_clamp (by omega), h7, b1, pk_mul, nI_add, pk_sub (by omega), zw_eq, nI_add, ← y1, show i + 1 - s = (i - s) + 1 by omega, show vl B s (i - s + 1) = vl B s (i - s) * 10 + B (s + (i - s)) - 48 from rfl, show s + (i - s) = i by omega]
