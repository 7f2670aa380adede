theorem rWB_out {PL : Nat} {m : Rw} {q ℓ i : Nat} (hPL : PL ≤ 4) (hl : m q = nI ℓ) (hℓ : ℓ ≤ 16) (h2 : i ≠ 2) (hm : ¬ (254 ≤ i ∧ i < 318)) : rWB PL m q i = m i := by
  unfold rWB
  have hcl : (m q).toNatClampNeg = ℓ := by rw [hl]; exact nI_clamp (by omega)
  rw [hcl]
  by_cases e : ℓ = 16
  · rw [if_neg (fun z => z.1 (by rw [hl, e])), if_neg h2]
  · have := mul_le_64 hPL (show ℓ < 16 by omega)
    rw [if_neg (fun z => hm (by omega)), if_neg h2]
/-- what stays when others' places change -/
theorem OthR_keep {S W PL c ℓ : Nat} {b : Bool} (hS : 0 < S ∧ S ≤ 4) (hW : W ≤ 17) (hPL : PL ≤ 4) (hℓ : ℓ ≤ 16) : ∀ (n : Nat) {m m' : Rw} {h : Bool}, n ≤ 4 → OthR S W PL c ℓ b n m h m' → ∀ i, i ≠ 2 → i ≠ 3 → ¬ (254 ≤ i ∧ i < 318) → (∀ o s w f, o < 4 → o ≠ c → s < 4 → w < 17 → f < 5 → i ≠ pos o s w + f) → m' i = m i := by
  intro n
  induction n with
  | zero => intro m m' h _ hh i _ _ _ _; rw [hh.2]
  | succ n ih =>
    intro m m' h hn hh i h2 h3 hm hp
    obtain ⟨m1, h1, k1, k2⟩ := hh
    have e1 := ih (by omega) k1 i h2 h3 hm hp
    have hs := Nat.mod_lt ℓ hS.1
    rcases k2 with ⟨-, -, rfl⟩ | ⟨-, -, -, rfl⟩ | ⟨hc, w, hf, -, hq⟩
    · exact e1
    · exact e1
    · obtain ⟨m2, rfl, rfl⟩ := hq
      have hw := hf.1
      have z := fun f hf' => hp n (ℓ % S) w f (by omega) hc (by omega) (by omega) hf'
      have z0 := z 0 (by omega)
      have z1 := z 1 (by omega)
      have z2 := z 2 (by omega)
      have z3 := z 3 (by omega)
      have z4 := z 4 (by omega)
      rw [Nat.add_zero] at z0
      have e2 : (if m1 (pos n (ℓ % S) w + 1) = nI 3 then rWB PL m1 (pos n (ℓ % S) w) else m1) i = m i := by
        split
        · rw [rWB_out hPL hf.2.1 hℓ h2 hm]; exact e1
        · exact e1
      cases b with
      | false =>
        rw [if_neg (by decide), upd_ne z1]; exact e2
      | true =>
        rw [if_pos rfl, upd_ne h3]
        unfold rEmp
        rw [upd_ne z4, upd_ne z3, upd_ne z2, upd_ne z1, upd_ne z0]
        exact e2
theorem X7_brings_ok {S W PL NC : Nat} {g : zG} (hP : MPar S W PL NC g) {c ℓ : Nat} (hc : c < NC) (hℓ : ℓ ≤ 16) (b : Bool) (hL : LOK S W NC (g 43 0)) : ∃ g' o, X7_brings (nI c) (nI ℓ) (bI b) g = some (posQ c (ℓ % S) o, g') ∧ BrgR S W PL NC (g 36007 0 0) c ℓ b (g 43 0) o (g' 43 0) ∧ FrM g g' ∧ (o ≠ none → g' 38007 0 0 = g 38007 0 0) ∧ (o = none → g' 38007 0 0 = g 38007 0 0 ||| bitc c) := by
  obtain ⟨⟨p1, p2, p3, p4, p5, p6, p7, p8⟩, q1, q2, q3, q4⟩ := id hP
  have hm : ℓ % S < S := Nat.mod_lt _ p1
  have hc4 : c < 4 := by omega
  obtain ⟨oo, k1, k2⟩ := X7_findR hP hc4 hℓ
  unfold X7_brings
  cases oo with
  | some w =>
    have hp := pos_lt hc4 (show ℓ % S < 4 by omega) (show w < 17 by have := k1.1; omega)
    obtain ⟨g1, h, j1, j2, j3⟩ := X7_othersHave_ok hP hc4 hℓ b
    obtain ⟨g2, i1, i2, i3⟩ := X7_brings_end (g := g1) hp b
    refine ⟨g2, some w, ?_, ⟨some w, k1, Or.inr (Or.inr ⟨w, g1 43 0, h, rfl, rfl, k1.1, j2, i2⟩)⟩, (j3.trans i3).M, fun _ => (j3.trans i3) _ _ _ (by decide), fun z => by cases z⟩
    have hn1 : ¬ (nI (pos c (ℓ % S) w) = -1) := by rw [nI_ne_m1 (by omega)]; exact id
    rw [k2, zc_some]
    show (if nI (pos c (ℓ % S) w) = -1 then _ else _) = _
    rw [if_neg hn1]
    show X7_brings_b25 _ _ _ (nI (pos c (ℓ % S) w)) (nI (pos c (ℓ % S) w)) g = _
    unfold X7_brings_b25
    rw [if_neg hn1, if_neg hn1]
    unfold X7_brings_b80
    rw [j1, zc_some, if_neg hn1]
    exact i1
  | none =>
    have hr := X7_room_ok hP hc4 hℓ
    cases hro : sroom (g 43 0) (pos c (ℓ % S)) W 0 none with
    | none =>
      obtain ⟨g1, j1, j2, j3, j4⟩ := X7_ends_ok hP hc4 (show 1 < 4 by omega)
      refine ⟨g1, none, ?_, ⟨none, k1, Or.inl ⟨rfl, hro, rfl, j2⟩⟩, j3, fun z => absurd rfl z, fun _ => j4⟩
      rw [hro] at hr
      simp (disch := omega) only [zc_some, zw_eq, zi_nI, nI_clamp, nI_add, nI_1, nI_lti, nI_inj, nI_ltz, nI_eq0, nI_0lt, nI_ne_m1, nI_ne_m2, nI_m1_ne, nI_m2_ne, if_true, if_false, zU_eq, zU_ne, Nat.add_zero, pk_mul, k2, posO, hr, posQ, X7_brings_b25, j1]
    | some w =>
      have hw : w < W := by
        have := sroom_lt W 0 none (fun j hj => by cases hj) hro
        omega
      have hp := pos_lt hc4 (show ℓ % S < 4 by omega) (show w < 17 by omega)
      have hp0 := pos_ge c (ℓ % S) w
      rw [hro] at hr
      -- the one that goes
      obtain ⟨g1, e1, f1, r1⟩ : ∃ g1, g1 43 0 = (if g 43 0 (pos c (ℓ % S) w) ≠ -2 ∧ g 43 0 (pos c (ℓ % S) w + 1) = nI 3 then rWB PL (g 43 0) (pos c (ℓ % S) w) else g 43 0) ∧ FrN g g1 ∧ X7_brings (nI c) (nI ℓ) (bI b) g = X7_brings_b80 (nI c) (nI ℓ) (bI b) (-1) (nI (pos c (ℓ % S) w)) g1 := by
        rcases hL c (ℓ % S) w hc hm hw with hz | ⟨ℓ', h16, hs', hz⟩
        · refine ⟨g, by rw [if_neg (fun y => y.1 hz)], FrN.rfl' g, ?_⟩
          unfold X7_brings
          simp (disch := omega) only [zc_some, zw_eq, zi_nI, nI_clamp, nI_add, nI_1, nI_lti, nI_inj, nI_ltz, nI_eq0, nI_0lt, nI_ne_m1, nI_ne_m2, nI_m1_ne, nI_m2_ne, if_true, if_false, zU_eq, zU_ne, Nat.add_zero, pk_mul, k2, posO, hr, posQ, X7_brings_b25, hz]
        · obtain ⟨g1, i1, i2, i3⟩ := X7_writesBack_ok hP hp hp0 hz h16
          by_cases e3 : g 43 0 (pos c (ℓ % S) w + 1) = nI 3
          · refine ⟨g1, by rw [if_pos ⟨by rw [hz]; exact fun y => by rw [nI_ne_m2 (by omega)] at y; exact y, e3⟩, i2], i3, ?_⟩
            unfold X7_brings
            simp (disch := omega) only [zc_some, zw_eq, zi_nI, nI_clamp, nI_add, nI_1, nI_lti, nI_inj, nI_ltz, nI_eq0, nI_0lt, nI_ne_m1, nI_ne_m2, nI_m1_ne, nI_m2_ne, if_true, if_false, zU_eq, zU_ne, Nat.add_zero, pk_mul, k2, posO, hr, posQ, X7_brings_b25, hz, e3, i1]
          · refine ⟨g, by rw [if_neg (fun y => e3 y.2)], FrN.rfl' g, ?_⟩
            unfold X7_brings
            simp (disch := omega) only [zc_some, zw_eq, zi_nI, nI_clamp, nI_add, nI_1, nI_lti, nI_inj, nI_ltz, nI_eq0, nI_0lt, nI_ne_m1, nI_ne_m2, nI_m1_ne, nI_m2_ne, if_true, if_false, zU_eq, zU_ne, Nat.add_zero, pk_mul, k2, posO, hr, posQ, X7_brings_b25, hz, e3]
      have r1' := r1
      unfold X7_brings at r1'
      rw [r1']
      have hP1 := hP.fr f1.M
      obtain ⟨g2, h, j1, j2, j3⟩ := X7_othersHave_ok hP1 hc4 hℓ b
      have hP2 := hP1.fr j3.M
      obtain ⟨g3, i1, i2, i3⟩ := X7_brings_lay hP2 hp hp0 hℓ h b
      refine ⟨g3, some w, ?_, ⟨none, k1, Or.inr (Or.inl ⟨w, g2 43 0, h, rfl, hro, rfl, hw, ?_, i2⟩)⟩, ((f1.trans j3).trans i3).M, fun _ => ((f1.trans j3).trans i3) _ _ _ (by decide), fun z => by cases z⟩
      · unfold X7_brings_b80
        rw [j1]
        cases h with
        | false =>
          simp (disch := omega) only [zc_some, zw_eq, zi_nI, nI_clamp, nI_add, nI_1, nI_lti, nI_inj, nI_ltz, nI_eq0, nI_0lt, nI_ne_m1, nI_ne_m2, nI_m1_ne, nI_m2_ne, if_true, if_false, zU_eq, zU_ne, Nat.add_zero, pk_mul, bI0]
          exact i1
        | true =>
          simp (disch := omega) only [zc_some, zw_eq, zi_nI, nI_clamp, nI_add, nI_1, nI_lti, nI_inj, nI_ltz, nI_eq0, nI_0lt, nI_ne_m1, nI_ne_m2, nI_m1_ne, nI_m2_ne, if_true, if_false, zU_eq, zU_ne, Nat.add_zero, pk_mul, bI1, show ¬ (1 = 0) by omega]
          exact i1
      · rw [← e1]; exact j2
theorem pos_inj {c s w c' s' w' f f' : Nat} (hs : s < 4) (hs' : s' < 4) (hw : w < 17) (hw' : w' < 17) (hf : f < 9) (hf' : f' < 9) (h : pos c s w + f = pos c' s' w' + f') : c = c' ∧ s = s' ∧ w = w' ∧ f = f' := (pos_ne hs hs' hw hw' hf hf').mp h
/-- the line is in the place then -/
theorem BrgR_line {S W PL NC c ℓ w : Nat} {tries : Int32} {b : Bool} {m m' : Rw} (hS : 0 < S ∧ S ≤ 4) (hW : W ≤ 17) (hPL : PL ≤ 4) (hℓ : ℓ ≤ 16) (hNC : NC ≤ 4) (hc : c < NC) (h : BrgR S W PL NC tries c ℓ b m (some w) m') : w < W ∧ m' (pos c (ℓ % S) w) = nI ℓ := by
  have hs := Nat.mod_lt ℓ hS.1
  have hp0 := pos_ge c (ℓ % S) w
  have use : ∀ (m2 : Rw), rUse b (pos c (ℓ % S) w) m2 (pos c (ℓ % S) w) = m2 (pos c (ℓ % S) w) := by
    intro m2
    unfold rUse
    rw [upd_ne (by omega)]
    split
    · rw [upd_ne (by omega)]
    · rfl
  obtain ⟨o0, h0, ⟨-, -, h1, -⟩ | ⟨w', m2, hh, rfl, h1, h2, h3, h4, rfl⟩ | ⟨w', m2, hh, rfl, h2, h3, h4, rfl⟩⟩ := h
  · cases h1
  · cases h2
    refine ⟨h3, ?_⟩
    rw [use]
    simp [rLay]
  · cases h2
    refine ⟨h3, ?_⟩
    rw [use, OthR_keep hS hW hPL hℓ NC hNC h4 _ (by omega) (by omega) (by omega) ?_]
    · exact h0.2.1
    · intro o s w2 f ho hoc hs2 hw2 hf2 hz
      have := pos_inj (f := 0) (f' := f) (show ℓ % S < 4 by omega) hs2 (show w < 17 by omega) hw2 (by omega) (by omega) (by rw [Nat.add_zero]; exact hz)
      exact hoc this.1.symm
