/-! ===== the reader: settings ===== -/
theorem Go.from {T lo lo' : Nat} {B : Nat → Nat} {gc gm gc1 gm1 gc' gm' : zG} (h : Go T B lo gc1 gm1 gc' gm') (h1 : FrA gc gc1) (h2 : FrB gm gm1) (hl : lo' ≤ lo) : Go T B lo' gc gm gc' gm' := by
  obtain ⟨a, b, d, s, e, k, x, y⟩ := h
  exact ⟨h1.trans a, h2.trans b, d, s, e, k, x, by omega⟩
theorem name_or {T s e k v : Nat} {B : Nat → Nat} {gc gm : zG} (hR : Rd T B gc gm) (hk : Tk T s e k gc gm) (hv : v < 19) :
    (∃ gc' gm', X5_takeName v gc = some (nI 0, gc') ∧ X7_isWord v gm = some (nI 0, gm) ∧ X7_errs (nI 1) gm = some (-1, gm') ∧ Fl gc gm gc' gm') ∨
    (∃ gc' gm', X5_takeName v gc = some (nI 1, gc') ∧ X7_isWord v gm = some (nI 1, gm) ∧ X7_nextToken gm = some (0, gm') ∧ Go T B e gc gm gc' gm') := by
  obtain ⟨b, b1, b2, -⟩ := isName_ok hR hk hv
  unfold X5_takeName
  rw [b1, b2, zc_some, iteB]
  cases b with
  | false =>
    left
    simp only [Bool.false_eq_true, if_false]
    rw [hk.2.2.1, fail_ok, zc_some, zbo0, errs_ok hk.2.2.2.1]
    exact ⟨_, _, rfl, rfl, rfl, fl_of 1 s gc gm⟩
  | true =>
    right
    obtain ⟨gc', gm', x1, x2, x3⟩ := go_next hR hk
    rw [if_pos rfl, x1, zc_some]
    exact ⟨gc', gm', rfl, rfl, x2, x3⟩
/-- name, then whole; p: a power of two is asked -/
theorem set_ok {T s e k v hi : Nat} {B : Nat → Nat} {gc gm : zG} (p : Bool) (hR : Rd T B gc gm) (hk : Tk T s e k gc gm) (hv : v < 19) (hhi : hi < 1000) (hp : p = true → hi = 4) :
    (∃ gc' gm', X5_takeSetting v (nI hi) (bI p) gc = some (-1, gc') ∧ (if p = true then X7_power v gm else X7_after v (nI 1) (nI hi) gm) = some (-1, gm') ∧ Fl gc gm gc' gm') ∨
    (∃ n gc' gm', 1 ≤ n ∧ n ≤ hi ∧ X5_takeSetting v (nI hi) (bI p) gc = some (nI n, gc') ∧ (if p = true then X7_power v gm else X7_after v (nI 1) (nI hi) gm) = some (nI n, gm') ∧ Go T B e gc gm gc' gm') := by
  unfold X5_takeSetting X7_power X7_after
  rcases name_or hR hk hv with ⟨gc1, gm1, a1, a2, a3, a4⟩ | ⟨gc1, gm1, a1, a2, a3, a4⟩
  · left
    rw [a1, a2, zc_some, zc_some, zc_some, ite0, ite0, ite0, a3, zc_some, ite_self]
    exact ⟨_, _, rfl, rfl, a4⟩
  · rw [a1, a2, zc_some, zc_some, zc_some, ite1, ite1, ite1, a3, zc_some, zc_some]
    obtain ⟨f1, f2, hR1, s1, e1, k1, hk1, hl⟩ := id a4
    -- the class' part behind the name
    have hb := whole_ok hR1 hk1 (show 1 < 2 ^ 31 by omega) (show hi < 2 ^ 31 by omega)
    have hh := wholeHere_ok hR1 hk1 (show 1 < 2 ^ 31 by omega) (show hi < 2 ^ 31 by omega)
    have b46 : ∀ x, X5_takeSetting_b46 (nI hi) x gc1 = zc (X5_takeWhole (nI 1) (nI hi) gc1) (fun x1 g2 => if x1 = 0 then some (-1, g2) else some (x, g2)) := fun x => rfl
    have le1 : e ≤ s1 := hl
    cases p with
    | false =>
      simp only [Bool.false_eq_true, if_false]
      have cR : (if gc1 5002 0 0 = nI 2 then (if bI false = 0 then X5_takeSetting_b46 (nI hi) (gc1 8002 0 0) gc1 else if gc1 8002 0 0 = nI 3 then zc (X5_fail (nI 2) (gc1 6002 0 0) gc1) (fun x4 g5 => some (-1, g5)) else X5_takeSetting_b46 (nI hi) (gc1 8002 0 0) gc1) else X5_takeSetting_b46 (nI hi) (gc1 8002 0 0) gc1) = X5_takeSetting_b46 (nI hi) (gc1 8002 0 0) gc1 := by
        split
        · rw [if_pos (show bI false = 0 by decide)]
        · rfl
      rw [cR, b46]
      rcases hb with ⟨gc2, gm2, y1, y2, y3⟩ | ⟨n, gc2, gm2, -, -, n2, n3, n4, -, y1, y2, y3⟩
      · left
        rw [y1, y2, zc_some, zc_some, ite0]
        exact ⟨_, _, rfl, rfl, y3.from f1.P f2.P⟩
      · right
        rw [y1, y2, zc_some, zc_some, ite1, n4]
        exact ⟨n, _, _, n2, n3, rfl, rfl, y3.from f1 f2 (by have := hk1.1; omega)⟩
    | true =>
      have h4 := hp rfl
      subst h4
      simp only [if_true]
      rcases hh with ⟨gc2, gm2, y1, y2, y3⟩ | ⟨n, n0, n1, n2, n3, n4, n5, y2, -⟩
      · left
        rw [y2, zc_some, if_pos rfl]
        obtain ⟨t1, t2, t3, t4, t5, t6, t7, t8, t9, t10, t11, t12⟩ := id hk1
        by_cases z : gc1 5002 0 0 = nI 2 ∧ gc1 8002 0 0 = nI 3
        · -- 3 is within 1..4: no failing then
          exfalso
          have k2 : k1 = 2 := by rw [← hk1.cl (show 2 ≤ 4 by omega)]; exact z.1
          obtain ⟨n, n1, n2, n3⟩ := t12 k2
          have : n = 3 := by
            have := z.2
            rw [n2, nI_inj (by omega) (by omega)] at this
            exact this
          subst this
          unfold X5_takeWhole at y1
          rw [if_pos z.1, n2, if_neg (by decide), if_neg (by decide)] at y1
          obtain ⟨gc', gm', x1, -⟩ := go_next hR1 hk1
          rw [x1, zc_some] at y1
          exact absurd (Prod.mk.inj (Option.some.inj y1)).1 (by decide)
        · have cR : (if gc1 5002 0 0 = nI 2 then (if bI true = 0 then X5_takeSetting_b46 (nI 4) (gc1 8002 0 0) gc1 else if gc1 8002 0 0 = nI 3 then zc (X5_fail (nI 2) (gc1 6002 0 0) gc1) (fun x4 g5 => some (-1, g5)) else X5_takeSetting_b46 (nI 4) (gc1 8002 0 0) gc1) else X5_takeSetting_b46 (nI 4) (gc1 8002 0 0) gc1) = X5_takeSetting_b46 (nI 4) (gc1 8002 0 0) gc1 := by
            by_cases z1 : gc1 5002 0 0 = nI 2
            · rw [if_pos z1, if_neg (show ¬ bI true = 0 by decide), if_neg (fun y => z ⟨z1, y⟩)]
            · rw [if_neg z1]
          rw [cR, b46, y1, zc_some, ite0]
          exact ⟨_, _, rfl, rfl, y3.from f1.P f2.P⟩
      · rw [y2, zc_some, if_neg (show ¬ nI n = -1 by rw [nI_ne_m1 (by omega)]; exact id), n5, n4, if_pos (show gc1 5002 0 0 = nI 2 by rw [hk1.cl (by omega)]; exact n0), if_neg (show ¬ bI true = 0 by decide)]
        by_cases z : n = 3
        · left
          subst z
          rw [if_pos rfl, if_pos rfl, hk1.2.2.1, fail_ok, zc_some, errs_ok hk1.2.2.2.1, zc_some]
          exact ⟨_, _, rfl, rfl, (fl_of 2 s1 gc1 gm1).from f1.P f2.P⟩
        · right
          rw [if_neg (show ¬ nI n = nI 3 by rw [nI_inj (by omega) (by omega)]; exact z), if_neg (show ¬ nI n = nI 3 by rw [nI_inj (by omega) (by omega)]; exact z), b46]
          rcases hb with ⟨gc2, gm2, x1, x2, x3⟩ | ⟨n', gc2, gm2, -, -, m2, m3, m4, -, x1, x2, x3⟩
          · exfalso
            unfold X7_passes at x2
            rw [y2, zc_some, if_neg (show ¬ nI n = -1 by rw [nI_ne_m1 (by omega)]; exact id)] at x2
            obtain ⟨gc', gm', -, w2, -⟩ := go_next hR1 hk1
            rw [w2, zc_some] at x2
            exact absurd (Prod.mk.inj (Option.some.inj x2)).1 (by rw [nI_ne_m1 (by omega)]; exact id)
          · have : n' = n := by
              rw [n4, nI_inj (by omega) (by omega)] at m4
              exact m4.symm
            subst this
            rw [x1, x2, zc_some, zc_some, ite1]
            exact ⟨n', _, _, n2, n3, rfl, rfl, x3.from f1 f2 (by have := hk1.1; omega)⟩
