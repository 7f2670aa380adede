/-! ===== the reader: what is read so far ===== -/
def DrM (S W PL rl tr : Nat) (gc gm : zG) : Prop := (0 < S ∧ S ≤ 4 ∧ 0 < W ∧ W ≤ 4 ∧ 0 < PL ∧ PL ≤ 4) ∧ gc 1001 1 0 = nI S ∧ gm 32 0 0 = nI S ∧ gc 2001 1 0 = nI W ∧ gm 32 0 1 = nI W ∧ gc 3001 1 0 = nI PL ∧ gm 32 0 2 = nI PL ∧ gc 4001 1 0 = nI rl ∧ gm 32 0 3 = nI rl ∧ gc 5001 1 0 = nI tr ∧ gm 32 0 4 = nI tr ∧ rl ≤ 2 ∧ 1 ≤ tr ∧ tr ≤ 9
def DrC (PL c l : Nat) (so wh : Nat → Nat) (ix : Nat → Bool) (gc gm : zG) : Prop := gc 11 1 c = nI l ∧ gm 36 0 c = nI l ∧ l ≤ 24 ∧ ∀ j, j < l → (gc 12 1 (24 * c + j) = nI (so j) ∧ gm 38 0 (24 * c + j) = nI (so j) ∧ gc 13 1 (24 * c + j) = gm 40 0 (24 * c + j) ∧ (3 ≤ so j → gc 13 1 (24 * c + j) = nI (wh j)) ∧ gc 14 1 (24 * c + j) = bI (ix j) ∧ gm 42 0 (24 * c + j) = bI (ix j)) ∧ so j ≤ 6 ∧ (so j = 0 → opn so j = false) ∧ ((so j = 1 ∨ so j = 3 ∨ so j = 4) → opn so j = true) ∧ (5 ≤ so j → wh j < 1000) ∧ ((so j = 3 ∨ so j = 4) → wh j < 16 * PL)
def DrW (nw : Nat) (gc gm : zG) : Prop := gc 7001 1 0 = nI nw ∧ gm 10007 0 0 = nI nw ∧ nw ≤ 12 ∧ ∀ a, a < 64 → (gc 16 1 a = nI 0 ∧ gc 15 1 a = nI 0 ∧ gm 34 0 a = -1) ∨ (gc 16 1 a = nI 1 ∧ ∃ v, v < 1000 ∧ gc 15 1 a = nI v ∧ gm 34 0 a = nI v)
def DrO (op : Bool) (gc gm : zG) : Prop := gc 10002 0 0 = bI op ∧ gm 30007 0 0 = bI op
def DrN (nc : Nat) (gc gm : zG) : Prop := gc 6001 1 0 = nI nc ∧ gm 32 0 5 = nI nc ∧ nc ≤ 4
def Dr0 (gc gm : zG) : Prop := gc 9002 0 0 = nI 0 ∧ gm 29007 0 0 = nI 0 ∧ DrO false gc gm ∧ DrN 0 gc gm ∧ DrW 0 gc gm ∧ ∀ c, c < 4 → gc 11 1 c = nI 0
def Dr1 (S W PL rl tr nc nw : Nat) (op : Bool) (len : Nat → Nat) (so wh : Nat → Nat → Nat) (ix : Nat → Nat → Bool) (gc gm : zG) : Prop := gc 9002 0 0 = nI 1 ∧ gm 29007 0 0 = nI 1 ∧ DrM S W PL rl tr gc gm ∧ DrO op gc gm ∧ DrN nc gc gm ∧ DrW nw gc gm ∧ (∀ c, c < nc → DrC PL c (len c) (so c) (wh c) (ix c) gc gm) ∧ (∀ c, nc ≤ c → c < 4 → gc 11 1 c = nI 0) ∧ (∀ c, c + 1 < nc → opn (so c) (len c) = false) ∧ (op = true → 0 < nc) ∧ (0 < nc → opn (so (nc - 1)) (len (nc - 1)) = op)
def DrS (gc gm : zG) : Prop := Dr0 gc gm ∨ ∃ S W PL rl tr nc nw op len so wh ix, Dr1 S W PL rl tr nc nw op len so wh ix gc gm
theorem DrM.fr {S W PL rl tr : Nat} {gc gm gc' gm' : zG} (h : DrM S W PL rl tr gc gm) (hc : ∀ f, f = 1001 ∨ f = 2001 ∨ f = 3001 ∨ f = 4001 ∨ f = 5001 → gc' f 1 0 = gc f 1 0) (hm : ∀ k, k < 5 → gm' 32 0 k = gm 32 0 k) : DrM S W PL rl tr gc' gm' := by
  obtain ⟨z, a1, a2, a3, a4, a5, a6, a7, a8, a9, a10, r⟩ := h
  exact ⟨z, by rw [hc _ (by omega)]; exact a1, by rw [hm _ (by omega)]; exact a2, by rw [hc _ (by omega)]; exact a3, by rw [hm _ (by omega)]; exact a4, by rw [hc _ (by omega)]; exact a5, by rw [hm _ (by omega)]; exact a6, by rw [hc _ (by omega)]; exact a7, by rw [hm _ (by omega)]; exact a8, by rw [hc _ (by omega)]; exact a9, by rw [hm _ (by omega)]; exact a10, r⟩
theorem DrC.fr {PL c l : Nat} {so wh : Nat → Nat} {ix : Nat → Bool} {gc gm gc' gm' : zG} (h : DrC PL c l so wh ix gc gm) (h11 : gc' 11 1 c = gc 11 1 c) (h36 : gm' 36 0 c = gm 36 0 c) (hc : ∀ f j, f = 12 ∨ f = 13 ∨ f = 14 → j < l → gc' f 1 (24 * c + j) = gc f 1 (24 * c + j)) (hm : ∀ f j, f = 38 ∨ f = 40 ∨ f = 42 → j < l → gm' f 0 (24 * c + j) = gm f 0 (24 * c + j)) : DrC PL c l so wh ix gc' gm' := by
  obtain ⟨a, b, d, e⟩ := h
  refine ⟨h11.trans a, h36.trans b, d, fun j hj => ?_⟩
  rw [hc 12 j (by omega) hj, hc 13 j (by omega) hj, hc 14 j (by omega) hj, hm 38 j (by omega) hj, hm 40 j (by omega) hj, hm 42 j (by omega) hj]
  exact e j hj
theorem DrW.fr {nw : Nat} {gc gm gc' gm' : zG} (h : DrW nw gc gm) (h7 : gc' 7001 1 0 = gc 7001 1 0) (h10 : gm' 10007 0 0 = gm 10007 0 0) (hc : ∀ f j, f = 15 ∨ f = 16 → j < 64 → gc' f 1 j = gc f 1 j) (hm : ∀ j, j < 64 → gm' 34 0 j = gm 34 0 j) : DrW nw gc' gm' := by
  obtain ⟨a, b, d, e⟩ := h
  refine ⟨h7.trans a, h10.trans b, d, fun j hj => ?_⟩
  rw [hc 16 j (by omega) hj, hc 15 j (by omega) hj, hm j hj]
  exact e j hj
theorem Dr1.fr {S W PL rl tr nc nw : Nat} {op : Bool} {len : Nat → Nat} {so wh : Nat → Nat → Nat} {ix : Nat → Nat → Bool} {gc gm gc' gm' : zG} (h : Dr1 S W PL rl tr nc nw op len so wh ix gc gm) (h1 : FrA gc gc') (h2 : FrB gm gm') : Dr1 S W PL rl tr nc nw op len so wh ix gc' gm' := by
  obtain ⟨a1, a2, a3, ⟨a4, a4'⟩, ⟨a5, a5', a5''⟩, a6, a7, a8, r⟩ := h
  have H1 : ∀ f i j, f % 1000 ≠ 2 ∨ f = 9002 ∨ f = 10002 → gc' f i j = gc f i j := fun f i j x => h1 f i j (by omega) (by omega) (by omega) (by omega)
  have H2 : ∀ f i j, f ≠ 23007 → f ≠ 24007 → f ≠ 25007 → f ≠ 26007 → gm' f i j = gm f i j := h2
  refine ⟨by rw [H1 _ _ _ (by omega)]; exact a1, by rw [H2 _ _ _ (by omega) (by omega) (by omega) (by omega)]; exact a2, a3.fr (fun f x => H1 _ _ _ (by omega)) (fun k x => H2 _ _ _ (by omega) (by omega) (by omega) (by omega)), ⟨by rw [H1 _ _ _ (by omega)]; exact a4, by rw [H2 _ _ _ (by omega) (by omega) (by omega) (by omega)]; exact a4'⟩, ⟨by rw [H1 _ _ _ (by omega)]; exact a5, by rw [H2 _ _ _ (by omega) (by omega) (by omega) (by omega)]; exact a5', a5''⟩, a6.fr (H1 _ _ _ (by omega)) (H2 _ _ _ (by omega) (by omega) (by omega) (by omega)) (fun f j x _ => H1 _ _ _ (by omega)) (fun j _ => H2 _ _ _ (by omega) (by omega) (by omega) (by omega)), fun c x => (a7 c x).fr (H1 _ _ _ (by omega)) (H2 _ _ _ (by omega) (by omega) (by omega) (by omega)) (fun f j y _ => H1 _ _ _ (by omega)) (fun f j y _ => H2 _ _ _ (by omega) (by omega) (by omega) (by omega)), fun c x y => by rw [H1 _ _ _ (by omega)]; exact a8 c x y, r⟩
theorem Dr0.fr {gc gm gc' gm' : zG} (h : Dr0 gc gm) (h1 : FrA gc gc') (h2 : FrB gm gm') : Dr0 gc' gm' := by
  obtain ⟨a1, a2, ⟨a4, a4'⟩, ⟨a5, a5', a5''⟩, a6, a8⟩ := h
  have H1 : ∀ f i j, f % 1000 ≠ 2 ∨ f = 9002 ∨ f = 10002 → gc' f i j = gc f i j := fun f i j x => h1 f i j (by omega) (by omega) (by omega) (by omega)
  have H2 : ∀ f i j, f ≠ 23007 → f ≠ 24007 → f ≠ 25007 → f ≠ 26007 → gm' f i j = gm f i j := h2
  exact ⟨by rw [H1 _ _ _ (by omega)]; exact a1, by rw [H2 _ _ _ (by omega) (by omega) (by omega) (by omega)]; exact a2, ⟨by rw [H1 _ _ _ (by omega)]; exact a4, by rw [H2 _ _ _ (by omega) (by omega) (by omega) (by omega)]; exact a4'⟩, ⟨by rw [H1 _ _ _ (by omega)]; exact a5, by rw [H2 _ _ _ (by omega) (by omega) (by omega) (by omega)]; exact a5', a5''⟩, a6.fr (H1 _ _ _ (by omega)) (H2 _ _ _ (by omega) (by omega) (by omega) (by omega)) (fun f j x _ => H1 _ _ _ (by omega)) (fun j _ => H2 _ _ _ (by omega) (by omega) (by omega) (by omega)), fun c x => by rw [H1 _ _ _ (by omega)]; exact a8 c x⟩
/-- a reading came out: on, all read so far alike -/
def Ok (T : Nat) (B : Nat → Nat) (lo : Nat) (gc gm gc' gm' : zG) : Prop := FrPc gc gc' ∧ FrPm gm gm' ∧ Rd T B gc' gm' ∧ (∃ s e k, Tk T s e k gc' gm' ∧ lo ≤ s) ∧ DrS gc' gm'
theorem Rd.set {T : Nat} {B : Nat → Nat} {gc gm gc' gm' : zG} (h : Rd T B gc gm) (h1 : ∀ f j, f = 4002 ∨ f = 10 → gc' f 0 j = gc f 0 j) (h2 : ∀ f j, f = 22007 ∨ f = 30 → gm' f 0 j = gm f 0 j) : Rd T B gc' gm' := by
  obtain ⟨a, b, d, e⟩ := h
  refine ⟨a, by rw [h1 _ _ (by omega)]; exact b, by rw [h2 _ _ (by omega)]; exact d, fun k hk => ?_⟩
  rw [h1 10 _ (by omega), h2 30 _ (by omega)]
  exact e k hk
theorem Tk.set {T s e k : Nat} {gc gm gc' gm' : zG} (h : Tk T s e k gc gm) (h1 : ∀ f, f = 5002 ∨ f = 6002 ∨ f = 7002 ∨ f = 8002 → gc' f 0 0 = gc f 0 0) (h2 : ∀ f, f = 23007 ∨ f = 24007 ∨ f = 25007 ∨ f = 26007 → gm' f 0 0 = gm f 0 0) : Tk T s e k gc' gm' := by
  obtain ⟨t1, t2, t3, t4, t5, t6, t7, t8, t9, t10, t11, t12⟩ := h
  exact ⟨t1, t2, by rw [h1 _ (by omega)]; exact t3, by rw [h2 _ (by omega)]; exact t4, by rw [h1 _ (by omega)]; exact t5, by rw [h2 _ (by omega)]; exact t6, by rw [h1 _ (by omega)]; exact t7, by rw [h2 _ (by omega)]; exact t8, t9, t10, t11, fun z => by rw [h1 _ (by omega), h2 _ (by omega)]; exact t12 z⟩
/-- the rule's name -/
theorem rule_ok {T s e k : Nat} {B : Nat → Nat} {gc gm : zG} (hR : Rd T B gc gm) (hk : Tk T s e k gc gm) :
    (∃ gc', X5_readRule gc = some (nI 0, gc') ∧ (∀ r : Int32 → zG → zR0, zc (X7_isWord 14 gm) (fun x22 g23 => if x22 = 0 then zc (X7_isWord 15 g23) (fun x25 g26 => if x25 = 0 then zc (X7_isWord 16 g26) (fun x28 g29 => if x28 = 0 then r (-1) g29 else r (nI 2) g29) else r (nI 1) g26) else r (nI 0) g23) = r (-1) gm) ∧ FrPc gc gc' ∧ gc' 11002 0 0 = nI 1 ∧ gc' 12002 0 0 = nI s) ∨
    (∃ rl gc', rl ≤ 2 ∧ X5_readRule gc = zc (X5_advance gc') (fun x1 g2 => some (nI 1, g2)) ∧ gc' = zU gc 4001 1 0 (nI rl) ∧ ∀ r : Int32 → zG → zR0, zc (X7_isWord 14 gm) (fun x22 g23 => if x22 = 0 then zc (X7_isWord 15 g23) (fun x25 g26 => if x25 = 0 then zc (X7_isWord 16 g26) (fun x28 g29 => if x28 = 0 then r (-1) g29 else r (nI 2) g29) else r (nI 1) g26) else r (nI 0) g23) = r (nI rl) gm) := by
  obtain ⟨b1, x1, y1, -⟩ := isName_ok (v := 14) hR hk (by omega)
  obtain ⟨b2, x2, y2, -⟩ := isName_ok (v := 15) hR hk (by omega)
  obtain ⟨b3, x3, y3, -⟩ := isName_ok (v := 16) hR hk (by omega)
  unfold X5_readRule X5_readRule_b70
  rw [x1, y1, zc_some, iteB]
  cases b1 with
  | true => exact Or.inr ⟨0, _, by omega, by rw [if_pos rfl, zw_eq], rfl, fun r => by rw [zc_some, iteB, if_pos rfl]⟩
  | false =>
    simp only [Bool.false_eq_true, if_false]
    rw [x2, zc_some, iteB]
    cases b2 with
    | true => exact Or.inr ⟨1, _, by omega, by rw [if_pos rfl, zw_eq], rfl, fun r => by rw [zc_some, iteB, if_neg (by decide), y2, zc_some, iteB, if_pos rfl]⟩
    | false =>
      simp only [Bool.false_eq_true, if_false]
      rw [x3, zc_some, iteB]
      cases b3 with
      | true => exact Or.inr ⟨2, _, by omega, by rw [if_pos rfl, zw_eq], rfl, fun r => by rw [zc_some, iteB, if_neg (by decide), y2, zc_some, iteB, if_neg (by decide), y3, zc_some, iteB, if_pos rfl]⟩
      | false =>
        left
        simp only [Bool.false_eq_true, if_false]
        rw [hk.2.2.1, fail_ok, zc_some, zbo0]
        exact ⟨_, rfl, fun r => by rw [zc_some, iteB, if_neg (by decide), y2, zc_some, iteB, if_neg (by decide), y3, zc_some, iteB, if_neg (by decide)], (fl_of 1 s gc gm).1, by rw [zU_ne _ _ (by omega), zU_self], zU_self _ _ _ _ _⟩
