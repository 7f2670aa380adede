/-! ===== the reader: the text's lines ===== -/
def Fin (gc gm : zG) (nc : Nat) : Prop := ∃ S W PL rl tr nw len so wh ix, 0 < nc ∧ Dr1 S W PL rl tr nc nw false len so wh ix gc gm
theorem end_ok {T s e : Nat} {B : Nat → Nat} {gc gm : zG} (n : Nat) (hR : Rd T B gc gm) (hk : Tk T s e 0 gc gm) (hD : DrS gc gm) :
    (∃ gc' gm', X5_readEnd gc = some (nI 0, gc') ∧ X7_readText_l67 (n + 1) gm = some (-1, gm') ∧ Fl gc gm gc' gm') ∨
    (∃ nc, X5_readEnd gc = some (nI 1, gc) ∧ X7_readText_l67 (n + 1) gm = some (nI nc, gm) ∧ nc ≤ 4 ∧ Fin gc gm nc) := by
  have sT : s = T := hk.2.2.2.2.2.2.2.2.2.1 rfl
  have c5 : (nI 5).toNatClampNeg = 5 := nI_clamp (by omega)
  have e25 : gm 25007 0 0 = nI 0 := hk.2.2.2.2.2.2.2.1
  have e3 : gc 4002 0 0 = nI s := by rw [sT]; exact hR.2.1
  have r : X7_readText_l67 (n + 1) gm = if gm 32 0 5 = 0 then zc (X7_errs (nI 5) gm) (fun x4 g5 => some (x4, g5)) else if gm 30007 0 0 = 0 then some (gm 32 0 5, gm) else zc (X7_errs (nI 6) gm) (fun x1 g2 => some (x1, g2)) := by
    rw [X7_readText_l67.eq_2, e25, if_neg (show ¬ nI 0 = nI 59 by decide), if_pos (show nI 0 = 0 by decide), zi_nI (by omega) (by omega), zi_nI (by omega) (by omega), c5]
  have E : ∀ nc op, nc ≤ 4 → gc 6001 1 0 = nI nc → gm 32 0 5 = nI nc → gc 10002 0 0 = bI op → gm 30007 0 0 = bI op → (nc = 0 → ∃ gc' gm', X5_readEnd gc = some (nI 0, gc') ∧ X7_readText_l67 (n + 1) gm = some (-1, gm') ∧ Fl gc gm gc' gm') ∧ (0 < nc → op = true → ∃ gc' gm', X5_readEnd gc = some (nI 0, gc') ∧ X7_readText_l67 (n + 1) gm = some (-1, gm') ∧ Fl gc gm gc' gm') ∧ (0 < nc → op = false → X5_readEnd gc = some (nI 1, gc) ∧ X7_readText_l67 (n + 1) gm = some (nI nc, gm)) := by
    intro nc op h4 a1 a2 a3 a4
    unfold X5_readEnd
    rw [r, a1, a2, a3, a4, e3]
    refine ⟨fun z => ?_, fun z y => ?_, fun z y => ?_⟩
    · rw [if_pos (show nI nc = 0 by rw [nI_eq0 (by omega)]; exact z), if_pos (show nI nc = 0 by rw [nI_eq0 (by omega)]; exact z), fail_ok, zc_some, zbo0, errs_ok hk.2.2.2.1, zc_some]
      exact ⟨_, _, rfl, rfl, fl_of 5 s gc gm⟩
    · rw [if_neg (show ¬ nI nc = 0 by rw [nI_eq0 (by omega)]; omega), if_neg (show ¬ nI nc = 0 by rw [nI_eq0 (by omega)]; omega), y, if_neg (show ¬ bI true = 0 by decide), if_neg (show ¬ bI true = 0 by decide), fail_ok, zc_some, zbo0, errs_ok hk.2.2.2.1, zc_some]
      exact ⟨_, _, rfl, rfl, fl_of 6 s gc gm⟩
    · rw [if_neg (show ¬ nI nc = 0 by rw [nI_eq0 (by omega)]; omega), if_neg (show ¬ nI nc = 0 by rw [nI_eq0 (by omega)]; omega), y, if_pos (show bI false = 0 by decide), if_pos (show bI false = 0 by decide)]
      exact ⟨rfl, rfl⟩
  rcases hD with ⟨d1, d2, ⟨d3, d3'⟩, ⟨d4, d4', -⟩, -⟩ | ⟨S, W, PL, rl, tr, nc, nw, op, len, so, wh, ix, h1⟩
  · exact Or.inl ((E 0 false (by omega) d4 d4' d3 d3').1 rfl)
  · obtain ⟨d1, d2, d3, ⟨d4, d4'⟩, ⟨d5, d5', d5''⟩, -⟩ := id h1
    obtain ⟨E1, E2, E3⟩ := E nc op d5'' d5 d5' d4 d4'
    rcases Nat.eq_zero_or_pos nc with z | z
    · exact Or.inl (E1 z)
    · cases op with
      | true => exact Or.inl (E2 z rfl)
      | false =>
        obtain ⟨y1, y2⟩ := E3 z rfl
        exact Or.inr ⟨nc, y1, y2, d5'', S, W, PL, rl, tr, nw, len, so, wh, ix, z, h1⟩
theorem text_loop {T : Nat} {B : Nat → Nat} : ∀ d s e k v n m gc gm, T - s ≤ d → v ≤ s → Rd T B gc gm → Tk T s e k gc gm → DrS gc gm →
    (∃ gc' gm', X5_readText_l76 (n + d + 1) (nI v) gc = some (nI 0, gc') ∧ zc (X7_readLine gm) (fun x g5 => if x = -1 then some (-1, g5) else X7_readText_l67 (m + d + 1) g5) = some (-1, gm') ∧ Fl gc gm gc' gm') ∨
    (∃ nc gc' gm', nc ≤ 4 ∧ X5_readText_l76 (n + d + 1) (nI v) gc = some (nI 1, gc') ∧ zc (X7_readLine gm) (fun x g5 => if x = -1 then some (-1, g5) else X7_readText_l67 (m + d + 1) g5) = some (nI nc, gm') ∧ FrPc gc gc' ∧ FrPm gm gm' ∧ Fin gc' gm' nc) := by
  intro d
  induction d with
  | zero =>
    intro s e k v n m gc gm hs hv hR hk hD
    have hT := hR.1
    have := hk.1; have := hk.2.1
    rw [X5_readText_l76.eq_2, if_neg (show ¬ nI 900 < nI v by rw [nI_lti (by omega) (by omega)]; omega)]
    rcases line_ok hR hk hD with ⟨gc1, gm1, y1, y2, y3⟩ | ⟨x, gc1, gm1, -, -, -, -, -, -, ⟨s1, e1, k1, hk1, hl1⟩, -⟩
    · left
      rw [y1, y2, zc_some, zc_some, ite0, if_pos rfl]
      exact ⟨_, _, rfl, rfl, y3⟩
    · have := hk1.1; have := hk1.2.1; omega
  | succ d ih =>
    intro s e k v n m gc gm hs hv hR hk hD
    have hT := hR.1
    have := hk.1; have := hk.2.1
    rw [show n + (d + 1) + 1 = (n + d + 1) + 1 by omega, X5_readText_l76.eq_2, if_neg (show ¬ nI 900 < nI v by rw [nI_lti (by omega) (by omega)]; omega)]
    rcases line_ok hR hk hD with ⟨gc1, gm1, y1, y2, y3⟩ | ⟨x, gc1, gm1, x0, y1, y2, f1, f2, hR1, ⟨s1, e1, k1, hk1, hl1⟩, hD1⟩
    · left
      rw [y1, y2, zc_some, zc_some, ite0, if_pos rfl]
      exact ⟨_, _, rfl, rfl, y3⟩
    · have := hk1.1; have := hk1.2.1
      rw [y1, y2, zc_some, zc_some, ite1, if_neg (show ¬ nI x = -1 by rw [nI_ne_m1 (by omega)]; exact id)]
      have k14 := hk1.2.2.2.2.2.2.2.2.1
      by_cases z0 : k1 = 0
      · subst z0
        rw [if_pos (show gc1 5002 0 0 = 0 by have := hk1.2.2.2.2.2.2.1; rw [this]; rfl)]
        rcases end_ok (m + (d + 1)) hR1 hk1 hD1 with ⟨gc2, gm2, y1, y2, y3⟩ | ⟨nc, y1, y2, y3, y4⟩
        · left
          rw [y1, y2, zc_some, zbo0]
          exact ⟨_, _, rfl, rfl, y3.from f1 f2⟩
        · right
          rw [y1, y2, zc_some, zbo1]
          exact ⟨nc, _, _, y3, rfl, rfl, f1, f2, y4⟩
      rw [if_neg (show ¬ gc1 5002 0 0 = 0 by rw [show (0 : Int32) = nI 0 from rfl, hk1.cl (by omega)]; exact z0), X7_readText_l67.eq_2]
      by_cases z3 : k1 = 3
      · subst z3
        rw [if_pos (show gc1 5002 0 0 = nI 3 by rw [hk1.cl (by omega)]), if_pos (show gm1 25007 0 0 = nI 59 by rw [show nI 59 = nI (rk 3) from rfl, hk1.rf (by omega)])]
        have := hk1.2.2.2.2.2.2.2.2.2.2.1 (by omega)
        obtain ⟨gc2, gm2, x1, x2, g1, g2, hR2, s2, e2, k2, hk2, hl2⟩ := go_next hR1 hk1
        have hD2 : DrS gc2 gm2 := by
          rcases hD1 with h | ⟨S, W, PL, rl, tr, nc, nw, op, len, so, wh, ix, h⟩
          · exact Or.inl (h.fr g1 g2)
          · exact Or.inr ⟨S, W, PL, rl, tr, nc, nw, op, len, so, wh, ix, h.fr g1 g2⟩
        have := hk2.1; have := hk2.2.1
        rw [x1, x2, zc_some, zc_some, nI_add, show m + (d + 1) = m + d + 1 by omega]
        rcases ih s2 e2 k2 (v + 1) n m gc2 gm2 (by omega) (by omega) hR2 hk2 hD2 with ⟨gc3, gm3, y1, y2, y3⟩ | ⟨nc, gc3, gm3, y0, y1, y2, y3, y4, y5⟩
        · exact Or.inl ⟨gc3, gm3, y1, y2, y3.from (f1.trans g1.P) (f2.trans g2.P)⟩
        · exact Or.inr ⟨nc, gc3, gm3, y0, y1, y2, (f1.trans g1.P).trans y3, (f2.trans g2.P).trans y4, y5⟩
      · left
        rw [if_neg (show ¬ gc1 5002 0 0 = nI 3 by rw [hk1.cl (by omega)]; exact z3), if_neg (show ¬ gm1 25007 0 0 = nI 59 by rw [show nI 59 = nI (rk 3) from rfl, hk1.rf (by omega)]; exact z3), if_neg (show ¬ gm1 25007 0 0 = 0 by rw [show (0 : Int32) = nI (rk 0) from rfl, hk1.rf (by omega)]; exact z0), hk1.2.2.1, fail_ok, zc_some, zbo0, errs_ok hk1.2.2.2.1, zc_some]
        exact ⟨_, _, rfl, rfl, (fl_of 1 s1 gc1 gm1).from f1 f2⟩
