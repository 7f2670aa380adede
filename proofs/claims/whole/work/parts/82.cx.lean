/-! ===== the reader: names, wholes, settings ===== -/
def Nm (B : Nat → Nat) (s e k v : Nat) : Prop := k = 1 ∧ e = s + zslen v ∧ ∀ i, i < zslen v → nI (B (s + i)) = zsch v i
theorem zslen_le : ∀ v, v < 19 → 1 ≤ zslen v ∧ zslen v ≤ 7 := by decide +kernel
theorem names_two : ∀ v, v < 10 → ∀ w, w < 10 → v = w ∨ zslen v ≠ zslen w ∨ ∃ i, i < zslen v ∧ zsch v i ≠ zsch w i := by decide +kernel
theorem Nm_one {B : Nat → Nat} {s e k v w : Nat} (hv : v < 10) (hw : w < 10) (h1 : Nm B s e k v) (h2 : Nm B s e k w) : v = w := by
  rcases names_two v hv w hw with h | h | ⟨i, hi, h⟩
  · exact h
  · have := h1.2.1
    have := h2.2.1
    omega
  · have e1 : zslen v = zslen w := by have := h1.2.1; have := h2.2.1; omega
    exact absurd ((h1.2.2 i hi).symm.trans (h2.2.2 i (by omega))) h
theorem rk_inj {a b : Nat} (ha : a ≤ 4) (hb : b ≤ 4) (h : rk a = rk b) : a = b := by
  unfold rk at h
  have : (a = 0 ∨ a = 1 ∨ a = 2 ∨ a = 3 ∨ a = 4) ∧ (b = 0 ∨ b = 1 ∨ b = 2 ∨ b = 3 ∨ b = 4) := by omega
  obtain ⟨h1 | h1 | h1 | h1 | h1, h2 | h2 | h2 | h2 | h2⟩ := this <;> subst h1 <;> subst h2 <;> simp at h ⊢
theorem rk_lt (k : Nat) : rk k < 60 := by unfold rk; split <;> (try split) <;> (try split) <;> (try split) <;> omega
theorem Tk.cl {T s e k : Nat} {gc gm : zG} (h : Tk T s e k gc gm) {j : Nat} (hj : j ≤ 4) : (gc 5002 0 0 = nI j) = (k = j) := by
  rw [h.2.2.2.2.2.2.1, nI_inj (by have := h.2.2.2.2.2.2.2.2.1; omega) (by omega)]
theorem Tk.rf {T s e k : Nat} {gc gm : zG} (h : Tk T s e k gc gm) {j : Nat} (hj : j ≤ 4) : (gm 25007 0 0 = nI (rk j)) = (k = j) := by
  have h1 := h.2.2.2.2.2.2.2.2.1
  rw [h.2.2.2.2.2.2.2.1, nI_inj (by have := rk_lt k; omega) (by have := rk_lt j; omega)]
  exact propext ⟨fun z => rk_inj h1 hj z, fun z => by rw [z]⟩
theorem isName_ok {T s e k v : Nat} {B : Nat → Nat} {gc gm : zG} (hR : Rd T B gc gm) (hk : Tk T s e k gc gm) (hv : v < 19) : ∃ b : Bool, X5_isName v gc = some (bI b, gc) ∧ X7_isWord v gm = some (bI b, gm) ∧ (b = true ↔ Nm B s e k v) := by
  have hT := hR.1
  have hzf : zfuel = 100000 := rfl
  obtain ⟨l1, l2⟩ := zslen_le v hv
  obtain ⟨t1, t2, t3, t4, t5, t6, t7, t8, t9, t10, t11, t12⟩ := id hk
  have key : ∀ d i n n', i + d = zslen v → e = s + zslen v → ∃ b : Bool, X5_isName_l28 (n + d + 1) v (nI i) gc = some (bI b, gc) ∧ X7_isWord_l28 (n' + d + 1) v (nI i) gm = some (bI b, gm) ∧ (b = true ↔ ∀ j, i ≤ j → j < zslen v → nI (B (s + j)) = zsch v j) := by
    intro d
    induction d with
    | zero =>
      intro i n n' e1 e2
      refine ⟨true, ?_, ?_, ⟨fun _ j a b => by omega, fun _ => rfl⟩⟩
      · rw [X5_isName_l28.eq_2, if_neg (by rw [nI_lti (by omega) (by omega)]; omega)]; rfl
      · rw [X7_isWord_l28.eq_2, if_neg (by rw [nI_lti (by omega) (by omega)]; omega)]; rfl
    | succ d ih =>
      intro i n n' e1 e2
      obtain ⟨b1, b2, b3⟩ := hR.2.2.2 (s + i) (by omega)
      have ecl : (nI (s + i)).toNatClampNeg = s + i := nI_clamp (by omega)
      have ecl2 : (nI i).toNatClampNeg = i := nI_clamp (by omega)
      have r1 : X5_isName_l28 (n + (d + 1) + 1) v (nI i) gc = if nI (B (s + i)) = zsch v i then X5_isName_l28 (n + d + 1) v (nI (i + 1)) gc else some (nI 0, gc) := by
        rw [show n + (d + 1) + 1 = (n + d + 1) + 1 by omega, X5_isName_l28.eq_2, if_pos (show nI i < nI (zslen v) by rw [nI_lti (by omega) (by omega)]; omega), t3, nI_add, if_pos (show nI (s + i) < nI 900 by rw [nI_lti (by omega) (by omega)]; omega), zi_nI (by omega) (by omega), zi_nI (by omega) (by omega), ecl, ecl2, b1, nI_add]
      have r2 : X7_isWord_l28 (n' + (d + 1) + 1) v (nI i) gm = if nI (B (s + i)) = zsch v i then X7_isWord_l28 (n' + d + 1) v (nI (i + 1)) gm else some (nI 0, gm) := by
        rw [show n' + (d + 1) + 1 = (n' + d + 1) + 1 by omega, X7_isWord_l28.eq_2, if_pos (show nI i < nI (zslen v) by rw [nI_lti (by omega) (by omega)]; omega), t4, nI_add, zi_nI (by omega) (by omega), zi_nI (by omega) (by omega), ecl, ecl2, b2, nI_add]
      by_cases z : nI (B (s + i)) = zsch v i
      · obtain ⟨b, y1, y2, y3⟩ := ih (i + 1) n n' (by omega) e2
        refine ⟨b, by rw [r1, if_pos z]; exact y1, by rw [r2, if_pos z]; exact y2, ?_⟩
        rw [y3]
        constructor
        · intro h j a c
          by_cases q : j = i
          · rw [q]; exact z
          · exact h j (by omega) c
        · intro h j a c
          exact h j (by omega) c
      · exact ⟨false, by rw [r1, if_neg z]; rfl, by rw [r2, if_neg z]; rfl, ⟨(fun y => by cases y), fun y => absurd (y i (Nat.le_refl _) (by omega)) z⟩⟩
  unfold X5_isName X7_isWord
  by_cases z : k = 1
  · rw [if_pos (show gc 5002 0 0 = nI 1 by rw [hk.cl (by omega)]; exact z), if_pos (show gm 25007 0 0 = nI 2 by rw [show nI 2 = nI (rk 1) from rfl, hk.rf (by omega)]; exact z), t3, t4, t5, t6, pk_sub t1]
    by_cases z2 : e - s = zslen v
    · rw [if_pos (show nI (e - s) = nI (zslen v) by rw [z2]), if_pos (show nI (e - s) = nI (zslen v) by rw [z2])]
      obtain ⟨b, y1, y2, y3⟩ := key (zslen v) 0 (zfuel - zslen v - 1) (zfuel - zslen v - 1) (by omega) (by omega)
      rw [show zfuel - zslen v - 1 + zslen v + 1 = zfuel by omega] at y1 y2
      refine ⟨b, y1, y2, ?_⟩
      rw [y3]
      exact ⟨fun h => ⟨z, by omega, fun i hi => h i (by omega) hi⟩, fun h j _ hj => h.2.2 j hj⟩
    · rw [if_neg (show ¬ nI (e - s) = nI (zslen v) by rw [nI_inj (by omega) (by omega)]; exact z2), if_neg (show ¬ nI (e - s) = nI (zslen v) by rw [nI_inj (by omega) (by omega)]; exact z2)]
      exact ⟨false, rfl, rfl, ⟨(fun y => by cases y), fun y => absurd (by have := y.2.1; omega) z2⟩⟩
  · rw [if_neg (show ¬ gc 5002 0 0 = nI 1 by rw [hk.cl (by omega)]; exact z), if_neg (show ¬ gm 25007 0 0 = nI 2 by rw [show nI 2 = nI (rk 1) from rfl, hk.rf (by omega)]; exact z)]
    exact ⟨false, rfl, rfl, ⟨(fun y => by cases y), fun y => absurd y.1 z⟩⟩
/-- what a reading may change -/
def FrPc (g g' : zG) : Prop := ∀ f i j, ¬ (4002 ≤ f ∧ f ≤ 12002 ∧ f % 1000 = 2) → ¬ (i = 1 ∧ ((11 ≤ f ∧ f ≤ 16) ∨ (1001 ≤ f ∧ f ≤ 7001 ∧ f % 1000 = 1))) → g' f i j = g f i j
def FrPm (g g' : zG) : Prop := ∀ f i j, ¬ (f = 10007 ∨ (22007 ≤ f ∧ f ≤ 30007 ∧ f % 1000 = 7) ∨ f = 32 ∨ f = 34 ∨ f = 36 ∨ f = 38 ∨ f = 40 ∨ f = 42) → g' f i j = g f i j
theorem FrPc.rfl' (g : zG) : FrPc g g := fun _ _ _ _ _ => rfl
theorem FrPm.rfl' (g : zG) : FrPm g g := fun _ _ _ _ => rfl
theorem FrPc.trans {a b c : zG} (h1 : FrPc a b) (h2 : FrPc b c) : FrPc a c := fun f i j x y => (h2 f i j x y).trans (h1 f i j x y)
theorem FrPm.trans {a b c : zG} (h1 : FrPm a b) (h2 : FrPm b c) : FrPm a c := fun f i j x => (h2 f i j x).trans (h1 f i j x)
theorem FrA.P {a b : zG} (h : FrA a b) : FrPc a b := fun f i j x y => h f i j (by omega) (by omega) (by omega) (by omega)
theorem FrB.P {a b : zG} (h : FrB a b) : FrPm a b := fun f i j x => h f i j (by omega) (by omega) (by omega) (by omega)
theorem FrPc.u {a b : zG} (h : FrPc a b) {f i j : Nat} (v : Int32) (hf : (4002 ≤ f ∧ f ≤ 12002 ∧ f % 1000 = 2) ∨ (i = 1 ∧ ((11 ≤ f ∧ f ≤ 16) ∨ (1001 ≤ f ∧ f ≤ 7001 ∧ f % 1000 = 1)))) : FrPc a (zU b f i j v) := fun f' i' j' x y => by
  rw [zU_ne _ _ (by omega)]; exact h f' i' j' x y
theorem FrPm.u {a b : zG} (h : FrPm a b) {f i j : Nat} (v : Int32) (hf : f = 10007 ∨ (22007 ≤ f ∧ f ≤ 30007 ∧ f % 1000 = 7) ∨ f = 32 ∨ f = 34 ∨ f = 36 ∨ f = 38 ∨ f = 40 ∨ f = 42) : FrPm a (zU b f i j v) := fun f' i' j' x => by
  rw [zU_ne _ _ (by omega)]; exact h f' i' j' x
/-- both failed alike -/
def Fl (gc gm gc' gm' : zG) : Prop := FrPc gc gc' ∧ FrPm gm gm' ∧ gc' 11002 0 0 = gm' 27007 0 0 ∧ gc' 12002 0 0 = gm' 28007 0 0
theorem Fl.from {gc gm gc1 gm1 gc' gm' : zG} (h : Fl gc1 gm1 gc' gm') (h1 : FrPc gc gc1) (h2 : FrPm gm gm1) : Fl gc gm gc' gm' := ⟨h1.trans h.1, h2.trans h.2.1, h.2.2⟩
theorem fail_ok (n s : Nat) (gc : zG) : X5_fail (nI n) (nI s) gc = some (nI 0, zU (zU gc 11002 0 0 (nI n)) 12002 0 0 (nI s)) := rfl
theorem errs_ok {n s : Nat} {gm : zG} (h : gm 23007 0 0 = nI s) : X7_errs (nI n) gm = some (-1, zU (zU gm 27007 0 0 (nI n)) 28007 0 0 (nI s)) := by
  unfold X7_errs
  rw [zw_eq, zU_ne _ _ (by omega), h, zw_eq]
theorem fl_of (n s : Nat) (gc gm : zG) : Fl gc gm (zU (zU gc 11002 0 0 (nI n)) 12002 0 0 (nI s)) (zU (zU gm 27007 0 0 (nI n)) 28007 0 0 (nI s)) :=
  ⟨((FrPc.rfl' gc).u _ (by omega)).u _ (by omega), ((FrPm.rfl' gm).u _ (by omega)).u _ (by omega), by rw [zU_ne _ _ (by omega), zU_self, zU_ne _ _ (by omega), zU_self], by rw [zU_self, zU_self]⟩
theorem zbo0 (A : zR0) : zbo (nI 0) A = A := zbo_bI false A
theorem zbo1 (A : zR0) : zbo (nI 1) A = A := zbo_bI true A
/-- a reading goes on -/
def Go (T : Nat) (B : Nat → Nat) (lo : Nat) (gc gm gc' gm' : zG) : Prop := FrA gc gc' ∧ FrB gm gm' ∧ Rd T B gc' gm' ∧ ∃ s e k, Tk T s e k gc' gm' ∧ lo ≤ s
theorem go_next {T s e k : Nat} {B : Nat → Nat} {gc gm : zG} (hR : Rd T B gc gm) (hk : Tk T s e k gc gm) : ∃ gc' gm', X5_advance gc = some (0, gc') ∧ X7_nextToken gm = some (0, gm') ∧ Go T B e gc gm gc' gm' := by
  obtain ⟨t1, t2, t3, t4, t5, t6, -⟩ := id hk
  obtain ⟨gc', gm', s', e', k', y1, y2, y3, y4, y5, y6, y7⟩ := lex_next hR t2 t5 t6
  exact ⟨gc', gm', y1, y2, y3, y4, y5, s', e', k', y6, y7⟩
/-- a whole within bounds -/
theorem wholeHere_ok {T s e k lo hi : Nat} {B : Nat → Nat} {gc gm : zG} (hR : Rd T B gc gm) (hk : Tk T s e k gc gm) (h1 : lo < 2 ^ 31) (h2 : hi < 2 ^ 31) :
    (∃ gc' gm', X5_takeWhole (nI lo) (nI hi) gc = some (nI 0, gc') ∧ X7_wholeHere (nI lo) (nI hi) gm = some (-1, gm') ∧ Fl gc gm gc' gm') ∨
    (∃ n, k = 2 ∧ n < 1000 ∧ lo ≤ n ∧ n ≤ hi ∧ gc 8002 0 0 = nI n ∧ gm 26007 0 0 = nI n ∧ X7_wholeHere (nI lo) (nI hi) gm = some (nI n, gm) ∧ ∃ gc', X5_advance gc = some (0, gc') ∧ X5_takeWhole (nI lo) (nI hi) gc = some (nI 1, gc')) := by
  obtain ⟨t1, t2, t3, t4, t5, t6, t7, t8, t9, t10, t11, t12⟩ := id hk
  unfold X5_takeWhole X7_wholeHere X5_takeWhole_b34
  by_cases z : k = 2
  · obtain ⟨n, n1, n2, n3⟩ := t12 z
    rw [if_pos (show gc 5002 0 0 = nI 2 by rw [hk.cl (by omega)]; exact z), if_pos (show gm 25007 0 0 = nI 3 by rw [show nI 3 = nI (rk 2) from rfl, hk.rf (by omega)]; exact z), n2, n3, in_ok (by omega) h1 h2, zc_some, iteB, t3, fail_ok, zc_some, zbo0, errs_ok t4, zc_some]
    by_cases y1 : n < lo
    · left
      rw [if_pos (show nI n < nI lo by rw [nI_lti (by omega) h1]; exact y1), decide_eq_false (by omega)]
      simp only [Bool.false_eq_true, if_false]
      exact ⟨_, _, rfl, rfl, fl_of 2 s gc gm⟩
    · rw [if_neg (show ¬ nI n < nI lo by rw [nI_lti (by omega) h1]; exact y1)]
      by_cases y2 : hi < n
      · left
        rw [if_pos (show nI hi < nI n by rw [nI_lti h2 (by omega)]; exact y2), decide_eq_false (by omega)]
        simp only [Bool.false_eq_true, if_false]
        exact ⟨_, _, rfl, rfl, fl_of 2 s gc gm⟩
      · right
        obtain ⟨gc', gm', x1, -⟩ := go_next hR hk
        rw [if_neg (show ¬ nI hi < nI n by rw [nI_lti h2 (by omega)]; exact y2), decide_eq_true (by omega), if_pos rfl, x1, zc_some]
        exact ⟨n, z, n1, by omega, by omega, rfl, rfl, by rw [n3], gc', rfl, rfl⟩
  · left
    rw [if_neg (show ¬ gc 5002 0 0 = nI 2 by rw [hk.cl (by omega)]; exact z), if_neg (show ¬ gm 25007 0 0 = nI 3 by rw [show nI 3 = nI (rk 2) from rfl, hk.rf (by omega)]; exact z), t3, fail_ok, zc_some, zbo0, errs_ok t4, zc_some]
    exact ⟨_, _, rfl, rfl, fl_of 1 s gc gm⟩
theorem whole_ok {T s e k lo hi : Nat} {B : Nat → Nat} {gc gm : zG} (hR : Rd T B gc gm) (hk : Tk T s e k gc gm) (h1 : lo < 2 ^ 31) (h2 : hi < 2 ^ 31) :
    (∃ gc' gm', X5_takeWhole (nI lo) (nI hi) gc = some (nI 0, gc') ∧ X7_passes (nI lo) (nI hi) gm = some (-1, gm') ∧ Fl gc gm gc' gm') ∨
    (∃ n gc' gm', k = 2 ∧ n < 1000 ∧ lo ≤ n ∧ n ≤ hi ∧ gc 8002 0 0 = nI n ∧ gm 26007 0 0 = nI n ∧ X5_takeWhole (nI lo) (nI hi) gc = some (nI 1, gc') ∧ X7_passes (nI lo) (nI hi) gm = some (nI n, gm') ∧ Go T B e gc gm gc' gm') := by
  rcases wholeHere_ok hR hk h1 h2 with ⟨gc', gm', y1, y2, y3⟩ | ⟨n, n0, n1, n2, n3, n4, n5, n6, gc', y1, y2⟩
  · left
    refine ⟨gc', gm', y1, ?_, y3⟩
    unfold X7_passes
    rw [y2, zc_some, if_pos rfl]
  · right
    obtain ⟨gc'', gm', x1, x2, x3⟩ := go_next hR hk
    have : gc'' = gc' := by
      rw [x1] at y1
      exact (Prod.mk.inj (Option.some.inj y1)).2
    subst this
    refine ⟨n, gc'', gm', n0, n1, n2, n3, n4, n5, y2, ?_, x3⟩
    unfold X7_passes
    rw [n6, zc_some, if_neg (show ¬ nI n = -1 by rw [nI_ne_m1 (by omega)]; exact id), x2, zc_some]
