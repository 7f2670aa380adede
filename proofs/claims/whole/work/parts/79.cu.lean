/-! ===== the reader: tokens ===== -/
/-- the text: T bytes B, in both -/
def Rd (T : Nat) (B : Nat → Nat) (gc gm : zG) : Prop := T ≤ 900 ∧ gc 4002 0 0 = nI T ∧ gm 22007 0 0 = nI T ∧ ∀ k, k < 900 → gc 10 0 k = nI (B k) ∧ gm 30 0 k = nI (B k) ∧ B k < 256
def FrA (g g' : zG) : Prop := ∀ f i j, f ≠ 5002 → f ≠ 6002 → f ≠ 7002 → f ≠ 8002 → g' f i j = g f i j
def FrB (g g' : zG) : Prop := ∀ f i j, f ≠ 23007 → f ≠ 24007 → f ≠ 25007 → f ≠ 26007 → g' f i j = g f i j
theorem FrA.rfl' (g : zG) : FrA g g := fun _ _ _ _ _ _ _ => rfl
theorem FrB.rfl' (g : zG) : FrB g g := fun _ _ _ _ _ _ _ => rfl
theorem FrA.trans {a b c : zG} (h1 : FrA a b) (h2 : FrA b c) : FrA a c := fun f i j x1 x2 x3 x4 => (h2 f i j x1 x2 x3 x4).trans (h1 f i j x1 x2 x3 x4)
theorem FrB.trans {a b c : zG} (h1 : FrB a b) (h2 : FrB b c) : FrB a c := fun f i j x1 x2 x3 x4 => (h2 f i j x1 x2 x3 x4).trans (h1 f i j x1 x2 x3 x4)
theorem FrA.u {a b : zG} (h : FrA a b) {f : Nat} (v : Int32) (hf : f = 5002 ∨ f = 6002 ∨ f = 7002 ∨ f = 8002) : FrA a (zU b f 0 0 v) := fun f' i j x1 x2 x3 x4 => by
  rw [zU_ne _ _ (by omega)]; exact h f' i j x1 x2 x3 x4
theorem FrB.u {a b : zG} (h : FrB a b) {f : Nat} (v : Int32) (hf : f = 23007 ∨ f = 24007 ∨ f = 25007 ∨ f = 26007) : FrB a (zU b f 0 0 v) := fun f' i j x1 x2 x3 x4 => by
  rw [zU_ne _ _ (by omega)]; exact h f' i j x1 x2 x3 x4
theorem Rd.fr {T : Nat} {B : Nat → Nat} {gc gm gc' gm' : zG} (h : Rd T B gc gm) (h1 : FrA gc gc') (h2 : FrB gm gm') : Rd T B gc' gm' := by
  obtain ⟨a, b, d, e⟩ := h
  refine ⟨a, by rw [h1 _ _ _ (by omega) (by omega) (by omega) (by omega)]; exact b, by rw [h2 _ _ _ (by omega) (by omega) (by omega) (by omega)]; exact d, fun k hk => ?_⟩
  rw [h1 10 _ _ (by omega) (by omega) (by omega) (by omega), h2 30 _ _ (by omega) (by omega) (by omega) (by omega)]
  exact e k hk
def kd (b : Nat) : Nat := if 97 ≤ b ∧ b ≤ 122 then 1 else if 48 ≤ b ∧ b ≤ 57 then 2 else if b = 59 then 3 else 4
theorem kindOf_ok {b : Nat} (hb : b < 256) (g : zG) : X5_kindOf (nI b) g = some (nI (kd b), g) := by
  have r28 : X5_kindOf_b28 (nI b) g = some (nI (if b = 59 then 3 else 4), g) := by
    unfold X5_kindOf_b28
    by_cases z : b = 59
    · rw [if_pos (by rw [z]), if_pos z]
    · rw [if_neg (by rw [nI_inj (by omega) (by omega)]; exact z), if_neg z]
  have r14 : X5_kindOf_b14 (nI b) g = some (nI (if 48 ≤ b ∧ b ≤ 57 then 2 else if b = 59 then 3 else 4), g) := by
    unfold X5_kindOf_b14
    by_cases z : b < 48
    · rw [if_pos (by rw [nI_lti (by omega) (by omega)]; exact z), r28, if_neg (show ¬ (48 ≤ b ∧ b ≤ 57) by omega)]
    · rw [if_neg (by rw [nI_lti (by omega) (by omega)]; exact z)]
      by_cases z2 : 57 < b
      · rw [if_pos (by rw [nI_lti (by omega) (by omega)]; exact z2), r28, if_neg (show ¬ (48 ≤ b ∧ b ≤ 57) by omega)]
      · rw [if_neg (by rw [nI_lti (by omega) (by omega)]; exact z2), if_pos (by omega)]
  unfold X5_kindOf kd
  by_cases z : b < 97
  · rw [if_pos (by rw [nI_lti (by omega) (by omega)]; exact z), r14, if_neg (show ¬ (97 ≤ b ∧ b ≤ 122) by omega)]
  · rw [if_neg (by rw [nI_lti (by omega) (by omega)]; exact z)]
    by_cases z2 : 122 < b
    · rw [if_pos (by rw [nI_lti (by omega) (by omega)]; exact z2), r14, if_neg (show ¬ (97 ≤ b ∧ b ≤ 122) by omega)]
    · rw [if_neg (by rw [nI_lti (by omega) (by omega)]; exact z2), if_pos (by omega)]
theorem in_ok {b lo hi : Nat} (hb : b < 2 ^ 31) (h1 : lo < 2 ^ 31) (h2 : hi < 2 ^ 31) (g : zG) : X7_in (nI b) (nI lo) (nI hi) g = some (bI (decide (lo ≤ b ∧ b ≤ hi)), g) := by
  unfold X7_in
  by_cases z : b < lo
  · rw [if_pos (by rw [nI_lti hb h1]; exact z), decide_eq_false (by omega)]; rfl
  · rw [if_neg (by rw [nI_lti hb h1]; exact z)]
    by_cases z2 : hi < b
    · rw [if_pos (by rw [nI_lti h2 hb]; exact z2), decide_eq_false (by omega)]; rfl
    · rw [if_neg (by rw [nI_lti h2 hb]; exact z2), decide_eq_true (by omega)]; rfl
theorem in_m1 {lo hi : Nat} (h1 : lo < 2 ^ 31) (g : zG) (hl : 0 < lo) : X7_in (-1) (nI lo) (nI hi) g = some (nI 0, g) := by
  unfold X7_in
  rw [if_pos (show (-1 : Int32) < nI lo from Int32.lt_iff_toInt_lt.mpr (by rw [nI_toInt h1, show (-1 : Int32).toInt = -1 by decide]; omega))]
theorem see_ok {T i : Nat} {B : Nat → Nat} {gc gm : zG} (h : Rd T B gc gm) (hi : i ≤ T) : X7_see (nI i) gm = some (if i < T then nI (B i) else -1, gm) := by
  obtain ⟨a, -, d, e⟩ := h
  unfold X7_see
  rw [d]
  by_cases z : i < T
  · rw [if_pos (show nI i < nI T by rw [nI_lti (by omega) (by omega)]; exact z), if_pos z, zi_nI (by omega) (by omega), show (nI i).toNatClampNeg = i from nI_clamp (by omega), (e i (by omega)).2.1]
  · rw [if_neg (show ¬ nI i < nI T by rw [nI_lti (by omega) (by omega)]; exact z), if_neg z]
/-- the reference's token behind its blanks -/
def lexB (k65 k136 : zG → zR0) (k255 : Int32 → zG → zR0) (B : Nat → Nat) (T j : Nat) (g : zG) : zR0 :=
  if j < T then (if 97 ≤ B j ∧ B j ≤ 122 then k65 g else if 48 ≤ B j ∧ B j ≤ 57 then k136 (zU g 26007 0 0 (nI 0)) else k255 (nI (if B j = 59 then 59 else 1)) (zU g 24007 0 0 (nI (j + 1)))) else some (0, zU g 25007 0 0 (nI 0))
theorem lex_skip {T : Nat} {B : Nat → Nat} (K k65 k136 : zG → zR0) (k255 : Int32 → zG → zR0) : ∀ d i n n' gc gm, i + d = T → Rd T B gc gm → gc 6002 0 0 = nI i → gm 24007 0 0 = nI i → ∃ (j : Nat) (gc1 gm1 : zG), i ≤ j ∧ j ≤ T ∧ X5_advance_l8 K (n + d + 1) gc = K gc1 ∧ X7_nextToken_l0 k65 k136 k255 (n' + d + 1) gm = lexB k65 k136 k255 B T j (zU gm1 23007 0 0 (nI j)) ∧ gc1 6002 0 0 = nI j ∧ gm1 24007 0 0 = nI j ∧ FrA gc gc1 ∧ FrB gm gm1 := by
  intro d
  induction d with
  | zero =>
    intro i n n' gc gm e hR h5 h24
    have e' : i = T := by omega
    subst e'
    have hT := hR.1
    refine ⟨i, gc, gm, Nat.le_refl _, Nat.le_refl _, ?_, ?_, h5, h24, FrA.rfl' gc, FrB.rfl' gm⟩
    · rw [X5_advance_l8.eq_2, h5, hR.2.1, if_neg (by rw [nI_lti (by omega) (by omega)]; omega)]
    · have hR1 : Rd i B gc (zU gm 23007 0 0 (nI i)) := hR.fr (FrA.rfl' gc) ((FrB.rfl' gm).u _ (by omega))
      rw [X7_nextToken_l0.eq_2, h24, see_ok hR (Nat.le_refl _), zc_some, if_neg (show ¬ i < i by omega), if_neg (show ¬ (-1 = nI 32) by decide), h24, zw_eq, zU_ne _ _ (by omega), h24, see_ok hR1 (Nat.le_refl _), zc_some, if_neg (show ¬ i < i by omega), if_pos rfl, zw_eq]
      unfold lexB
      rw [if_neg (show ¬ i < i by omega)]
  | succ d ih =>
    intro i n n' gc gm e hR h5 h24
    have hT := hR.1
    obtain ⟨b1, b2, b3⟩ := hR.2.2.2 i (by omega)
    have r1 : X5_advance_l8 K (n + (d + 1) + 1) gc = if B i = 32 then X5_advance_l8 K (n + d + 1) (zU gc 6002 0 0 (nI (i + 1))) else K gc := by
      rw [show n + (d + 1) + 1 = (n + d + 1) + 1 by omega, X5_advance_l8.eq_2, h5, hR.2.1, if_pos (by rw [nI_lti (by omega) (by omega)]; omega), zi_nI (by omega) (by omega), show (nI i).toNatClampNeg = i from nI_clamp (by omega), b1, zw_eq, nI_add]
      by_cases z : B i = 32
      · rw [if_pos z, if_pos (by rw [z])]
      · rw [if_neg z, if_neg (by rw [nI_inj (by omega) (by omega)]; exact z)]
    have hR1 : Rd T B gc (zU gm 23007 0 0 (nI i)) := hR.fr (FrA.rfl' gc) ((FrB.rfl' gm).u _ (by omega))
    by_cases z : B i = 32
    · obtain ⟨j, gc1, gm1, y1, y2, y3, y4, y5, y6, y7, y8⟩ := ih (i + 1) n n' (zU gc 6002 0 0 (nI (i + 1))) (zU gm 24007 0 0 (nI (i + 1))) (by omega) (hR.fr ((FrA.rfl' gc).u _ (by omega)) ((FrB.rfl' gm).u _ (by omega))) (zU_self _ _ _ _ _) (zU_self _ _ _ _ _)
      refine ⟨j, gc1, gm1, by omega, y2, by rw [r1, if_pos z]; exact y3, ?_, y5, y6, ((FrA.rfl' gc).u _ (by omega)).trans y7, ((FrB.rfl' gm).u _ (by omega)).trans y8⟩
      rw [show n' + (d + 1) + 1 = (n' + d + 1) + 1 by omega, X7_nextToken_l0.eq_2, h24, see_ok hR (by omega), zc_some, if_pos (show i < T by omega), if_pos (show nI (B i) = nI 32 by rw [z]), h24, zw_eq, nI_add]
      exact y4
    · refine ⟨i, gc, gm, Nat.le_refl _, by omega, by rw [r1, if_neg z], ?_, h5, h24, FrA.rfl' gc, FrB.rfl' gm⟩
      rw [show n' + (d + 1) + 1 = (n' + d + 1) + 1 by omega, X7_nextToken_l0.eq_2, h24, see_ok hR (by omega), zc_some, if_pos (show i < T by omega), if_neg (show ¬ nI (B i) = nI 32 by rw [nI_inj (by omega) (by omega)]; exact z), h24, zw_eq, zU_ne _ _ (by omega), h24, see_ok hR1 (by omega), zc_some, if_pos (show i < T by omega), if_neg (show ¬ nI (B i) = -1 by rw [nI_ne_m1 (by omega)]; exact id), in_ok (by omega) (by omega) (by omega), zc_some, iteB]
      unfold lexB
      rw [if_pos (show i < T by omega)]
      by_cases z1 : 97 ≤ B i ∧ B i ≤ 122
      · rw [decide_eq_true z1, if_pos z1, if_pos rfl]
      · rw [decide_eq_false z1, if_neg z1]
        simp only [Bool.false_eq_true, if_false]
        rw [in_ok (by omega) (by omega) (by omega), zc_some, iteB]
        by_cases z2 : 48 ≤ B i ∧ B i ≤ 57
        · rw [decide_eq_true z2, if_pos z2, if_pos rfl, zw_eq]
        · rw [decide_eq_false z2, if_neg z2]
          simp only [Bool.false_eq_true, if_false]
          rw [zU_ne _ _ (by omega), h24, zw_eq, nI_add]
          by_cases z3 : B i = 59
          · rw [if_pos (show nI (B i) = nI 59 by rw [z3]), if_pos z3, z3]
          · rw [if_neg (show ¬ nI (B i) = nI 59 by rw [nI_inj (by omega) (by omega)]; exact z3), if_neg z3]
