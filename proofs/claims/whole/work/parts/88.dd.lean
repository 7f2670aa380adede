/-! ===== the reader: a deed's line ===== -/
theorem deed_line {T s e k S W PL rl tr nc nw so0 : Nat} {op : Bool} {len : Nat → Nat} {so wh : Nat → Nat → Nat} {ix : Nat → Nat → Bool} {B : Nat → Nat} {gc gm : zG} (hR : Rd T B gc gm) (hk : Tk T s e k gc gm) (hD : Dr1 S W PL rl tr nc nw op len so wh ix gc gm) (hso : so0 ≤ 6) :
    (∃ gc' gm', X5_readDeed (nI so0) gc = some (nI 0, gc') ∧ X7_readDeed (nI so0) gm = some (-1, gm') ∧ Fl gc gm gc' gm') ∨
    (∃ gc' gm', X5_readDeed (nI so0) gc = some (nI 1, gc') ∧ X7_readDeed (nI so0) gm = some (nI 0, gm') ∧ Ok T B e gc gm gc' gm') := by
  obtain ⟨d1, d2, d3, ⟨d4, d4'⟩, ⟨d5, d5', d5''⟩, d6, d7, d8, d9, d10, d11⟩ := id hD
  have c5 : (nI 5).toNatClampNeg = 5 := nI_clamp (by omega)
  have c2 : (nI 2).toNatClampNeg = 2 := nI_clamp (by omega)
  rcases Nat.eq_zero_or_pos nc with z | z
  · subst z
    left
    have hm : X2_hasCore 1 (-1) gc = some (nI 0, gc) := by
      unfold X2_hasCore
      rw [if_pos (by decide)]
    unfold X5_readDeed X7_readDeed X5_readDeed_b45 X7_readDeed_b30 X7_readDeed_b41
    rw [d5, zi_nI (by omega) (by omega), c5, d5', show nI 0 - nI 1 = (-1 : Int32) by decide, hm, zc_some, ite0, hm, zc_some, ite0, if_pos (show (-1 : Int32) < 0 by decide), d2, if_neg (show ¬ nI 1 = 0 by decide), if_pos (show (-1 : Int32) < 0 by decide), hk.2.2.1, fail_ok, zc_some, zbo0, errs_ok hk.2.2.2.1, zc_some]
    exact ⟨_, _, rfl, rfl, fl_of 5 s gc gm⟩
  obtain ⟨c, rfl⟩ : ∃ c, nc = c + 1 := ⟨nc - 1, by omega⟩
  obtain ⟨q1, q2, q3, q4⟩ := d7 c (by omega)
  have ecl : (nI c).toNatClampNeg = c := nI_clamp (by omega)
  unfold X5_readDeed X7_readDeed
  rw [d5, zi_nI (by omega) (by omega), c5, d5', pk_sub (by omega), show c + 1 - 1 = c by omega, core_d d5 (by omega) (by omega), zc_some, ite1, zi_nI (by omega) (by omega), ecl, q1, if_neg (show ¬ nI c < 0 by rw [nI_ltz (by omega)]; exact id), zi_nI (by omega) (by omega), q2]
  by_cases hl : len c = 24
  · left
    rw [if_neg (show ¬ nI (len c) < nI 24 by rw [nI_lti (by omega) (by omega)]; omega), if_pos (show nI (len c) = nI 24 by rw [hl]), hk.2.2.1, fail_ok, zc_some, zbo0, errs_ok hk.2.2.2.1, zc_some]
    exact ⟨_, _, rfl, rfl, fl_of 4 s gc gm⟩
  rw [if_pos (show nI (len c) < nI 24 by rw [nI_lti (by omega) (by omega)]; omega), if_neg (show ¬ nI (len c) = nI 24 by rw [nI_inj (by omega) (by omega)]; exact hl)]
  have ne : ∀ j, j < 100 → so0 ≠ j → ¬ (nI so0 = nI j) := fun j hj h => by rw [nI_inj (by omega) (by omega)]; exact h
  have ne0 : so0 ≠ 0 → ¬ (nI so0 = 0) := fun h => by rw [nI_eq0 (by omega)]; exact h
  -- what the nesting asks
  have B98_1 : ∀ v, X5_readDeed_b98 v (nI 1) gc = if op = true then X5_readDeed_b120 v gc else X5_readDeed_b109 gc := fun v => by
    unfold X5_readDeed_b98
    rw [if_neg (show ¬ nI 1 = 0 by decide), d4, iteB]
  have B98_0 : ∀ v, X5_readDeed_b98 v (nI 0) gc = X5_readDeed_b120 v gc := fun v => by
    unfold X5_readDeed_b98
    rw [if_pos (show nI 0 = 0 by decide)]
  have B86_0 : ∀ x, X5_readDeed_b86 (nI 0) x gc = if op = true then X5_readDeed_b109 gc else X5_readDeed_b98 (nI 0) x gc := fun x => by
    unfold X5_readDeed_b86
    rw [if_pos (show nI 0 = 0 by decide), d4, iteB]
  have B86_n : ∀ x, so0 ≠ 0 → X5_readDeed_b86 (nI so0) x gc = X5_readDeed_b98 (nI so0) x gc := fun x h => by
    unfold X5_readDeed_b86
    rw [if_neg (ne0 h)]
  have B86 : X5_readDeed_b45 (nI so0) (nI c) gc = if (so0 = 0 ∧ op = true) ∨ ((so0 = 1 ∨ so0 = 3 ∨ so0 = 4) ∧ op = false) then X5_readDeed_b109 gc else X5_readDeed_b120 (nI so0) gc := by
    unfold X5_readDeed_b45 X5_readDeed_b81
    rw [core_d d5 (by omega) (by omega), zc_some, ite1]
    have low : (so0 = 1 ∨ so0 = 3 ∨ so0 = 4) → X5_readDeed_b86 (nI so0) (nI 1) gc = if (so0 = 0 ∧ op = true) ∨ ((so0 = 1 ∨ so0 = 3 ∨ so0 = 4) ∧ op = false) then X5_readDeed_b109 gc else X5_readDeed_b120 (nI so0) gc := fun h => by
      rw [B86_n _ (by omega), B98_1]
      cases op with
      | true => rw [if_pos rfl, if_neg (by rintro (⟨y, -⟩ | ⟨-, y⟩); omega; cases y)]
      | false => rw [if_neg (by decide), if_pos (Or.inr ⟨h, rfl⟩)]
    by_cases z1 : so0 = 1
    · rw [if_pos (show nI so0 = nI 1 by rw [z1])]; exact low (by omega)
    · rw [if_neg (ne 1 (by omega) z1)]
      by_cases z3 : so0 = 3
      · rw [if_pos (show nI so0 = nI 3 by rw [z3])]; exact low (by omega)
      · rw [if_neg (ne 3 (by omega) z3)]
        by_cases z4 : so0 = 4
        · rw [if_pos (show nI so0 = nI 4 by rw [z4])]; exact low (by omega)
        · rw [if_neg (ne 4 (by omega) z4)]
          by_cases z0 : so0 = 0
          · rw [z0, B86_0, B98_0]
            cases op with
            | true => rw [if_pos rfl, if_pos (Or.inl ⟨rfl, rfl⟩)]
            | false => rw [if_neg (by decide), if_neg (by rintro (⟨-, y⟩ | ⟨y, -⟩); cases y; omega)]
          · rw [B86_n _ z0, B98_0, if_neg (by rintro (⟨y, -⟩ | ⟨y, -⟩) <;> omega)]
  have M30 : X7_readDeed_b30 (nI so0) (nI c) gm = if (so0 = 0 ∧ op = true) ∨ ((so0 = 1 ∨ so0 = 3 ∨ so0 = 4) ∧ op = false) then X7_readDeed_b80 gm else X7_readDeed_b87 (nI so0) (nI c) gm := by
    unfold X7_readDeed_b30 X7_readDeed_b58 X7_readDeed_b73
    rw [d2, if_neg (show ¬ nI 1 = 0 by decide), if_neg (show ¬ nI c < 0 by rw [nI_ltz (by omega)]; exact id), d4', iteB, iteB]
    by_cases z0 : so0 = 0
    · rw [if_pos (show nI so0 = 0 by rw [nI_eq0 (by omega)]; exact z0), if_neg (ne 1 (by omega) (by omega)), if_neg (ne 3 (by omega) (by omega)), if_neg (ne 4 (by omega) (by omega))]
      cases op with
      | true => rw [if_pos rfl, if_pos (Or.inl ⟨z0, rfl⟩)]
      | false => rw [if_neg (by decide), if_neg (by rintro (⟨-, y⟩ | ⟨y, -⟩); cases y; omega)]
    · rw [if_neg (ne0 z0)]
      have low : (so0 = 1 ∨ so0 = 3 ∨ so0 = 4) → (if op = true then X7_readDeed_b87 (nI so0) (nI c) gm else X7_readDeed_b80 gm) = if (so0 = 0 ∧ op = true) ∨ ((so0 = 1 ∨ so0 = 3 ∨ so0 = 4) ∧ op = false) then X7_readDeed_b80 gm else X7_readDeed_b87 (nI so0) (nI c) gm := fun h => by
        cases op with
        | true => rw [if_pos rfl, if_neg (by rintro (⟨y, -⟩ | ⟨-, y⟩); omega; cases y)]
        | false => rw [if_neg (by decide), if_pos (Or.inr ⟨h, rfl⟩)]
      by_cases z1 : so0 = 1
      · rw [if_pos (show nI so0 = nI 1 by rw [z1])]; exact low (by omega)
      · rw [if_neg (ne 1 (by omega) z1)]
        by_cases z3 : so0 = 3
        · rw [if_pos (show nI so0 = nI 3 by rw [z3])]; exact low (by omega)
        · rw [if_neg (ne 3 (by omega) z3)]
          by_cases z4 : so0 = 4
          · rw [if_pos (show nI so0 = nI 4 by rw [z4])]; exact low (by omega)
          · rw [if_neg (ne 4 (by omega) z4), if_neg (by rintro (⟨y, -⟩ | ⟨y, -⟩) <;> omega)]
  rw [B86, M30]
  by_cases bad : (so0 = 0 ∧ op = true) ∨ ((so0 = 1 ∨ so0 = 3 ∨ so0 = 4) ∧ op = false)
  · left
    rw [if_pos bad, if_pos bad]
    unfold X5_readDeed_b109 X7_readDeed_b80
    rw [hk.2.2.1, fail_ok, zc_some, zbo0, errs_ok hk.2.2.2.1, zc_some]
    exact ⟨_, _, rfl, rfl, fl_of 6 s gc gm⟩
  rw [if_neg bad, if_neg bad]
  -- the brackets' state in the class
  have hA : ∃ gcA, X5_readDeed_b120 (nI so0) gc = X5_readDeed_b142 (nI so0) gcA ∧ gcA 10002 0 0 = bI (if so0 = 0 then true else if so0 = 1 then false else op) ∧ ∀ f i j, f ≠ 10002 → gcA f i j = gc f i j := by
    unfold X5_readDeed_b120 X5_readDeed_b129 X5_readDeed_b139
    by_cases z0 : so0 = 0
    · exact ⟨zU gc 10002 0 0 (nI 1), by rw [if_pos (show nI so0 = 0 by rw [nI_eq0 (by omega)]; exact z0), if_pos (show nI so0 = 0 by rw [nI_eq0 (by omega)]; exact z0), zbo1, zw_eq], by rw [zU_self, if_pos z0]; rfl, fun f i j x => zU_ne _ _ (by omega)⟩
    · by_cases z1 : so0 = 1
      · exact ⟨zU gc 10002 0 0 (nI 0), by rw [if_neg (ne0 z0), if_pos (show nI so0 = nI 1 by rw [z1]), if_neg (ne0 z0), zbo0, zw_eq], by rw [zU_self, if_neg z0, if_pos z1]; rfl, fun f i j x => zU_ne _ _ (by omega)⟩
      · exact ⟨gc, by rw [if_neg (ne0 z0), if_neg (ne 1 (by omega) z1)], by rw [d4, if_neg z0, if_neg z1], fun _ _ _ _ => rfl⟩
  obtain ⟨gcA, rA, h9, fA⟩ := hA
  have hRA : Rd T B gcA gm := hR.set (fun f j x => fA _ _ _ (by omega)) (fun _ _ _ => rfl)
  have hkA : Tk T s e k gcA gm := hk.set (fun f x => fA _ _ _ (by omega)) (fun _ _ => rfl)
  obtain ⟨gc1, gm1, x1, x2, x3, x4, hR1, s1, e1, k1, hk1, hl1⟩ := go_next hRA hkA
  have F1 : ∀ f i j, f ≠ 5002 → f ≠ 6002 → f ≠ 7002 → f ≠ 8002 → f ≠ 10002 → gc1 f i j = gc f i j := fun f i j a1 a2 a3 a4 a5 => (x3 f i j a1 a2 a3 a4).trans (fA f i j a5)
  have h91 : gc1 10002 0 0 = bI (if so0 = 0 then true else if so0 = 1 then false else op) := by rw [x3 _ _ _ (by omega) (by omega) (by omega) (by omega)]; exact h9
  have edl : (nI (24 * c + len c)).toNatClampNeg = 24 * c + len c := nI_clamp (by omega)
  have e36 : gm1 36 0 c = nI (len c) := by rw [x4 _ _ _ (by omega) (by omega) (by omega) (by omega)]; exact q2
  have e322 : gm1 32 0 2 = nI PL := by rw [x4 _ _ _ (by omega) (by omega) (by omega) (by omega)]; exact d3.2.2.2.2.2.2.1
  have e3001 : gc1 3001 1 0 = nI PL := by rw [F1 _ _ _ (by omega) (by omega) (by omega) (by omega) (by omega)]; exact d3.2.2.2.2.2.1
  have hPL := d3.1
  have M87 : X7_readDeed_b87 (nI so0) (nI c) gm = (fun g6 => if nI so0 < nI 3 then X7_readDeed_b201 (nI so0) (nI c) g6 else if nI so0 < nI 5 then X7_readDeed_b160 (nI so0) (nI c) (nI (24 * c + len c)) (nI (24 * c + len c)) (nI 0) (nI (16 * PL - 1)) g6 else X7_readDeed_b160 (nI so0) (nI c) (nI (24 * c + len c)) (nI (24 * c + len c)) (nI 0) (nI 999) g6) (zU (zU (zU gm1 38 0 (24 * c + len c) (nI so0)) 40 0 (24 * c + len c) (-2)) 42 0 (24 * c + len c) (nI 0)) := by
    unfold X7_readDeed_b87 X7_addresses
    rw [x2, zc_some, zi_nI (by omega) (by omega), ecl, e36, pk_mul, nI_add, zi_nI (by omega) (by omega), edl, zw_eq, zi_nI (by omega) (by omega), zw_eq, zi_nI (by omega) (by omega), zw_eq, zi_nI (by omega) (by omega), c2, zU_ne _ _ (by omega), zU_ne _ _ (by omega), zU_ne _ _ (by omega), e322, pk_mul, zc_some, pk_sub (by omega)]
  rw [rA, M87]
  dsimp only
  unfold X5_readDeed_b142
  rw [x1, zc_some]
  have G2 : ∀ f i j, f ≠ 23007 → f ≠ 24007 → f ≠ 25007 → f ≠ 26007 → ¬ ((f = 38 ∨ f = 40 ∨ f = 42) ∧ i = 0 ∧ j = 24 * c + len c) → zU (zU (zU gm1 38 0 (24 * c + len c) (nI so0)) 40 0 (24 * c + len c) (-2)) 42 0 (24 * c + len c) (nI 0) f i j = gm f i j := fun f i j a1 a2 a3 a4 a5 => by
    rw [zU_ne _ _ (by omega), zU_ne _ _ (by omega), zU_ne _ _ (by omega)]
    exact x4 f i j a1 a2 a3 a4
  have w38 : zU (zU (zU gm1 38 0 (24 * c + len c) (nI so0)) 40 0 (24 * c + len c) (-2)) 42 0 (24 * c + len c) (nI 0) 38 0 (24 * c + len c) = nI so0 := by rw [zU_ne _ _ (by omega), zU_ne _ _ (by omega), zU_self]
  have w40 : zU (zU (zU gm1 38 0 (24 * c + len c) (nI so0)) 40 0 (24 * c + len c) (-2)) 42 0 (24 * c + len c) (nI 0) 40 0 (24 * c + len c) = -2 := by rw [zU_ne _ _ (by omega), zU_self]
  have w42 : zU (zU (zU gm1 38 0 (24 * c + len c) (nI so0)) 40 0 (24 * c + len c) (-2)) 42 0 (24 * c + len c) (nI 0) 42 0 (24 * c + len c) = nI 0 := zU_self _ _ _ _ _
  have hR2 : Rd T B gc1 (zU (zU (zU gm1 38 0 (24 * c + len c) (nI so0)) 40 0 (24 * c + len c) (-2)) 42 0 (24 * c + len c) (nI 0)) := hR1.set (fun _ _ _ => rfl) (fun f j x => by rw [zU_ne _ _ (by omega), zU_ne _ _ (by omega), zU_ne _ _ (by omega)])
  have hk2 : Tk T s1 e1 k1 gc1 (zU (zU (zU gm1 38 0 (24 * c + len c) (nI so0)) 40 0 (24 * c + len c) (-2)) 42 0 (24 * c + len c) (nI 0)) := hk1.set (fun _ _ => rfl) (fun f x => by rw [zU_ne _ _ (by omega), zU_ne _ _ (by omega), zU_ne _ _ (by omega)])
  generalize zU (zU (zU gm1 38 0 (24 * c + len c) (nI so0)) 40 0 (24 * c + len c) (-2)) 42 0 (24 * c + len c) (nI 0) = gm2 at G2 w38 w40 w42 hR2 hk2
  have nn1 : so0 = 0 → op = false := fun y => by
    cases op with
    | false => rfl
    | true => exact absurd (Or.inl ⟨y, rfl⟩) bad
  have nn2 : so0 = 1 ∨ so0 = 3 ∨ so0 = 4 → op = true := fun y => by
    cases op with
    | true => rfl
    | false => exact absurd (Or.inr ⟨y, rfl⟩) bad
  have lo1 : e ≤ s1 := hl1
  have fin : ∀ (w : Int32) (whn : Nat) (x : Bool) (gcZ gmZ : zG) (s' e' k' : Nat), (3 ≤ so0 → w = nI whn) → (5 ≤ so0 → whn < 1000) → (so0 = 3 ∨ so0 = 4 → whn < 16 * PL) → Rd T B gcZ gmZ → Tk T s' e' k' gcZ gmZ → e ≤ s' → FrA gc1 gcZ → (∀ f i j, f ≠ 23007 → f ≠ 24007 → f ≠ 25007 → f ≠ 26007 → ¬ ((f = 40 ∨ f = 42) ∧ i = 0 ∧ j = 24 * c + len c) → gmZ f i j = gm2 f i j) → gmZ 40 0 (24 * c + len c) = w → gmZ 42 0 (24 * c + len c) = bI x → ∃ gc' gm', X2_addDeed 1 (nI so0) w (bI x) gcZ = some (0, gc') ∧ X7_readDeed_b201 (nI so0) (nI c) gmZ = some (nI 0, gm') ∧ Ok T B e gc gm gc' gm' := by
    intro w whn x gcZ gmZ s' e' k' a1 a2 a3 a4 a5 a6 a7 a8 a9 a10
    exact deed_end hD (by omega) hso nn1 nn2 a1 a2 a3 a4 a5 a6 (fun f i j b1 b2 b3 b4 b5 => (a7 f i j b1 b2 b3 b4).trans (F1 f i j b1 b2 b3 b4 b5)) (by rw [a7 _ _ _ (by omega) (by omega) (by omega) (by omega)]; exact h91) (fun f i j b1 b2 b3 b4 b5 => (a8 f i j b1 b2 b3 b4 (by omega)).trans (G2 f i j b1 b2 b3 b4 b5)) (by rw [a8 _ _ _ (by omega) (by omega) (by omega) (by omega) (by omega)]; exact w38) a9 a10
  by_cases lt3 : so0 < 3
  · right
    obtain ⟨gc', gm', y1, y2, y3⟩ := fin (-2) 0 false gc1 gm2 s1 e1 k1 (fun y => by omega) (fun y => by omega) (fun y => by omega) hR2 hk2 lo1 (FrA.rfl' gc1) (fun _ _ _ _ _ _ _ _ => rfl) w40 w42
    rw [if_pos (show nI so0 < nI 3 by rw [nI_lti (by omega) (by omega)]; exact lt3), y2]
    unfold X5_readRest X5_readRest_b15
    rw [if_neg (ne 3 (by omega) (by omega)), if_neg (ne 4 (by omega) (by omega)), if_pos (show nI 0 = 0 by decide), if_neg (ne 5 (by omega) (by omega)), if_neg (ne 6 (by omega) (by omega)), show nI 0 = bI false from rfl, y1, zc_some, zc_some, zbo1]
    exact ⟨_, _, rfl, rfl, y3⟩
  rw [if_neg (show ¬ nI so0 < nI 3 by rw [nI_lti (by omega) (by omega)]; exact lt3)]
  have CR : X5_readRest (nI so0) gc1 = X5_readRest_b70 (nI so0) (bI (decide (so0 < 5))) (gc1 8002 0 0) (nI 0) (nI (if so0 < 5 then 16 * PL - 1 else 999)) gc1 := by
    unfold X5_readRest X5_readRest_b10 X5_readRest_b15 X5_readRest_b44 X2_addresses
    by_cases l5 : so0 < 5
    · rw [decide_eq_true l5, if_pos l5]
      have r : (if nI 1 = 0 then (if nI so0 = nI 5 then (if nI 1 = 0 then X5_readRest_b70 (nI so0) (nI 1) (gc1 8002 0 0) (nI 0) (nI 999) gc1 else zc (some (nI 16 * gc1 3001 1 0, gc1)) fun x1 g2 => X5_readRest_b70 (nI so0) (nI 1) (gc1 8002 0 0) (nI 0) (x1 - nI 1) g2) else if nI so0 = nI 6 then (if nI 1 = 0 then X5_readRest_b70 (nI so0) (nI 1) (gc1 8002 0 0) (nI 0) (nI 999) gc1 else zc (some (nI 16 * gc1 3001 1 0, gc1)) fun x1 g2 => X5_readRest_b70 (nI so0) (nI 1) (gc1 8002 0 0) (nI 0) (x1 - nI 1) g2) else zc (X2_addDeed 1 (nI so0) (-2) (nI 0) gc1) fun x1 g2 => some (nI 1, g2)) else if nI 1 = 0 then X5_readRest_b70 (nI so0) (nI 1) (gc1 8002 0 0) (nI 0) (nI 999) gc1 else zc (some (nI 16 * gc1 3001 1 0, gc1)) fun x1 g2 => X5_readRest_b70 (nI so0) (nI 1) (gc1 8002 0 0) (nI 0) (x1 - nI 1) g2) = X5_readRest_b70 (nI so0) (bI true) (gc1 8002 0 0) (nI 0) (nI (16 * PL - 1)) gc1 := by
        rw [if_neg (show ¬ nI 1 = 0 by decide), if_neg (show ¬ nI 1 = 0 by decide), e3001, pk_mul, zc_some, pk_sub (by omega)]; rfl
      by_cases z3 : so0 = 3
      · rw [if_pos (show nI so0 = nI 3 by rw [z3])]; exact r
      · rw [if_neg (ne 3 (by omega) z3), if_pos (show nI so0 = nI 4 by rw [show so0 = 4 by omega])]; exact r
    · rw [decide_eq_false l5, if_neg l5, if_neg (ne 3 (by omega) (by omega)), if_neg (ne 4 (by omega) (by omega)), if_pos (show nI 0 = 0 by decide)]
      by_cases z5 : so0 = 5
      · rw [if_pos (show nI so0 = nI 5 by rw [z5]), if_pos (show nI 0 = 0 by decide)]; rfl
      · rw [if_neg (ne 5 (by omega) z5), if_pos (show nI so0 = nI 6 by rw [show so0 = 6 by omega]), if_pos (show nI 0 = 0 by decide)]; rfl
  have MR : (if nI so0 < nI 5 then X7_readDeed_b160 (nI so0) (nI c) (nI (24 * c + len c)) (nI (24 * c + len c)) (nI 0) (nI (16 * PL - 1)) gm2 else X7_readDeed_b160 (nI so0) (nI c) (nI (24 * c + len c)) (nI (24 * c + len c)) (nI 0) (nI 999) gm2) = X7_readDeed_b160 (nI so0) (nI c) (nI (24 * c + len c)) (nI (24 * c + len c)) (nI 0) (nI (if so0 < 5 then 16 * PL - 1 else 999)) gm2 := by
    by_cases l5 : so0 < 5
    · rw [if_pos l5, if_pos (show nI so0 < nI 5 by rw [nI_lti (by omega) (by omega)]; exact l5)]
    · rw [if_neg l5, if_neg (show ¬ nI so0 < nI 5 by rw [nI_lti (by omega) (by omega)]; exact l5)]
  rw [CR, MR]
  have hhi : (if so0 < 5 then 16 * PL - 1 else 999) < 1000 := by split <;> omega
  unfold X5_readRest_b70 X7_readDeed_b160
  rcases whole_ok hR2 hk2 (show 0 < 2 ^ 31 by omega) (show (if so0 < 5 then 16 * PL - 1 else 999) < 2 ^ 31 by omega) with ⟨gc3, gm3, y1, y2, y3⟩ | ⟨n, gc3, gm3, n0, n1, -, n3, n4, n5, y1, y2, y3⟩
  · left
    rw [y1, y2, zc_some, zc_some, ite0, zc_some, zbo0, zi_nI (by omega) (by omega), edl, zw_eq, zi_nI (by omega) (by omega), zU_self, if_pos rfl]
    refine ⟨_, _, rfl, rfl, FrPc.trans (fun f i j b1 b2 => F1 f i j (by omega) (by omega) (by omega) (by omega) (by omega)) y3.1, (FrPm.trans (fun f i j b1 => G2 f i j (by omega) (by omega) (by omega) (by omega) (by omega)) y3.2.1).u _ (by omega), ?_, ?_⟩
    · rw [zU_ne _ _ (by omega)]; exact y3.2.2.1
    · rw [zU_ne _ _ (by omega)]; exact y3.2.2.2
  · right
    obtain ⟨u1, u2, hR3, s3, e3, k3, hk3, hl3⟩ := id y3
    have hR4 : Rd T B gc3 (zU gm3 40 0 (24 * c + len c) (nI n)) := hR3.set (fun _ _ _ => rfl) (fun f j x => zU_ne _ _ (by omega))
    have hk4 : Tk T s3 e3 k3 gc3 (zU gm3 40 0 (24 * c + len c) (nI n)) := hk3.set (fun _ _ => rfl) (fun f x => zU_ne _ _ (by omega))
    have A4 : ∀ f i j, f ≠ 23007 → f ≠ 24007 → f ≠ 25007 → f ≠ 26007 → ¬ ((f = 40 ∨ f = 42) ∧ i = 0 ∧ j = 24 * c + len c) → zU gm3 40 0 (24 * c + len c) (nI n) f i j = gm2 f i j := fun f i j a1 a2 a3 a4 a5 => by
      rw [zU_ne _ _ (by omega)]; exact u2 f i j a1 a2 a3 a4
    have B42 : zU gm3 40 0 (24 * c + len c) (nI n) 42 0 (24 * c + len c) = bI false := by
      rw [zU_ne _ _ (by omega), u2 _ _ _ (by omega) (by omega) (by omega) (by omega)]; exact w42
    have whb : (5 ≤ so0 → n < 1000) ∧ (so0 = 3 ∨ so0 = 4 → n < 16 * PL) := ⟨fun _ => n1, fun y => by rw [if_pos (by omega)] at n3; omega⟩
    have hs3 : e ≤ s3 := by have := hk1.1; omega
    rw [y1, y2, zc_some, zc_some, ite1, n4, zi_nI (by omega) (by omega), edl, zw_eq, zi_nI (by omega) (by omega), zU_self, if_neg (show ¬ nI n = -1 by rw [nI_ne_m1 (by omega)]; exact id), iteB]
    obtain ⟨gc', gm', z1, z2, z3⟩ := fin (nI n) n false gc3 (zU gm3 40 0 (24 * c + len c) (nI n)) s3 e3 k3 (fun _ => rfl) whb.1 whb.2 hR4 hk4 hs3 u1 A4 (zU_self _ _ _ _ _) B42
    unfold X5_readRest_b95 X5_readRest_b96 X5_readRest_b107
    by_cases l5 : so0 < 5
    · rw [decide_eq_true l5, if_pos (show nI so0 < nI 5 by rw [nI_lti (by omega) (by omega)]; exact l5), if_pos rfl]
      obtain ⟨b, b1, b2, -⟩ := isName_ok (v := 18) hR4 hk4 (by omega)
      rw [b1, b2, zc_some, zc_some, iteB, iteB]
      cases b with
      | false =>
        simp only [Bool.false_eq_true, if_false]
        rw [z2, if_pos (show nI 0 = 0 by decide), show nI 0 = bI false from rfl, z1, zc_some, zc_some, zbo1]
        exact ⟨_, _, rfl, rfl, z3⟩
      | true =>
        simp only [if_true]
        have hR5 : Rd T B gc3 (zU (zU gm3 40 0 (24 * c + len c) (nI n)) 42 0 (24 * c + len c) (nI 1)) := hR4.set (fun _ _ _ => rfl) (fun f j x => zU_ne _ _ (by omega))
        have hk5 : Tk T s3 e3 k3 gc3 (zU (zU gm3 40 0 (24 * c + len c) (nI n)) 42 0 (24 * c + len c) (nI 1)) := hk4.set (fun _ _ => rfl) (fun f x => zU_ne _ _ (by omega))
        obtain ⟨gc6, gm6, v1, v2, v3, v4, hR6, s6, e6, k6, hk6, hl6⟩ := go_next hR5 hk5
        obtain ⟨gc', gm', z1, z2, z3⟩ := fin (nI n) n true gc6 gm6 s6 e6 k6 (fun _ => rfl) whb.1 whb.2 hR6 hk6 (by have := hk3.1; omega) (u1.trans v3) (fun f i j a1 a2 a3 a4 a5 => by rw [v4 f i j a1 a2 a3 a4, zU_ne _ _ (by omega)]; exact A4 f i j a1 a2 a3 a4 a5) (by rw [v4 _ _ _ (by omega) (by omega) (by omega) (by omega), zU_ne _ _ (by omega), zU_self]) (by rw [v4 _ _ _ (by omega) (by omega) (by omega) (by omega), zU_self]; rfl)
        rw [if_neg (show ¬ nI 1 = 0 by decide), v1, zc_some, zi_nI (by omega) (by omega), zw_eq, v2, zc_some, z2, show nI 1 = bI true from rfl, z1, zc_some, zc_some, show bI true = nI 1 from rfl, zbo1]
        exact ⟨_, _, rfl, rfl, z3⟩
    · rw [decide_eq_false l5, if_neg (show ¬ nI so0 < nI 5 by rw [nI_lti (by omega) (by omega)]; exact l5), z2]
      simp only [Bool.false_eq_true, if_false]
      rw [if_pos (show nI 0 = 0 by decide), show nI 0 = bI false from rfl, z1, zc_some, zc_some, zbo1]
      exact ⟨_, _, rfl, rfl, z3⟩
