theorem upd_same {m : Rw} {i : Nat} {v : Int32} (h : v = m i) : upd m i v = m := by
  funext j
  unfold upd
  split
  · rename_i z; rw [z, h]
  · rfl
theorem X7_put_ok {S W PL NC : Nat} {g : zG} (hP : MPar S W PL NC g) {c p a ℓ : Nat} (hc : c < 4) (hp : p + 9 ≤ 2766) (hp0 : 318 ≤ p) (ha : a < 64) (hl : g 43 0 p = nI ℓ) (hℓ : ℓ ≤ 16) (old : Bool) : ∃ g', (if g 43 0 (cat c 3) = nI 1 then X7_touches_b193 (nI c) (nI a) (bI true) (bI old) (nI p) (nI 1) g else X7_touches_b193 (nI c) (nI a) (bI true) (bI old) (nI p) (nI 0) g) = some (nI 1, g') ∧ g' 43 0 = rPut PL c p (a % PL) old (g 43 0) ∧ FrN g g' := by
  obtain ⟨⟨p1, p2, p3, p4, p5, p6, p7, p8⟩, q1, q2, q3, q4⟩ := id hP
  have b1 := cat_lt hc (show 1 < 14 by omega)
  have b3 := cat_lt hc (show 3 < 14 by omega)
  have hm : a % PL < PL := Nat.mod_lt _ p5
  obtain ⟨g1, w1, w2, w3⟩ := X7_writesBack_ok hP hp hp0 hl hℓ
  have fin : ∀ (g2 : zG) (s2 : Int32), FrN g g2 → ∃ g', X7_touches_b304 (nI c) (nI (p + 5 + a % PL)) (nI (p + 3)) s2 g2 = some (nI 1, g') ∧ g' 43 0 = (let m4 := upd (g2 43 0) (p + 3) s2; upd m4 (p + 5 + a % PL) (m4 (cat c 1))) ∧ FrN g g' := by
    intro g2 s2 hf
    unfold X7_touches_b304
    simp (disch := omega) only [zc_some, zw_eq, zi_nI, nI_clamp, nI_add, nI_1, nI_lti, nI_inj, nI_ltz, nI_eq0, nI_0lt, nI_ne_m1, nI_ne_m2, nI_m1_ne, nI_m2_ne, if_true, if_false, zU_eq, zU_ne, Nat.add_zero, pk_mul, X7_coreAt_ok]
    refine ⟨_, rfl, ?_, (hf.row _ _).row _ _⟩
    rw [zU_row, zU_row]
    congr 1
    rw [upd_ne (by omega)]
  unfold X7_touches_b193
  by_cases e : g 43 0 (cat c 3) = nI 1
  · rw [if_pos e]
    cases old with
    | true =>
      simp (disch := omega) only [zc_some, zw_eq, zi_nI, nI_clamp, nI_add, nI_1, nI_lti, nI_inj, nI_ltz, nI_eq0, nI_0lt, nI_ne_m1, nI_ne_m2, nI_m1_ne, nI_m2_ne, if_true, if_false, zU_eq, zU_ne, Nat.add_zero, pk_mul, bI1, q3, pk_rem, show ¬ PL = 0 by omega, show ¬ (1 = 0) by omega, w1, X7_touches_b278]
      obtain ⟨g', k1, k2, k3⟩ := fin g1 (nI 1) w3
      refine ⟨g', k1, ?_, k3⟩
      rw [k2]
      unfold rPut
      dsimp only
      rw [if_pos e, if_pos ⟨e, rfl⟩, w2]
    | false =>
      simp (disch := omega) only [zc_some, zw_eq, zi_nI, nI_clamp, nI_add, nI_1, nI_lti, nI_inj, nI_ltz, nI_eq0, nI_0lt, nI_ne_m1, nI_ne_m2, nI_m1_ne, nI_m2_ne, if_true, if_false, zU_eq, zU_ne, Nat.add_zero, pk_mul, bI1, bI0, q3, pk_rem, show ¬ PL = 0 by omega, show ¬ (1 = 0) by omega, X7_touches_b278]
      obtain ⟨g', k1, k2, k3⟩ := fin g (nI 1) (FrN.rfl' g)
      refine ⟨g', k1, ?_, k3⟩
      rw [k2]
      unfold rPut
      dsimp only
      rw [if_pos e, if_neg (fun z => by cases z.2)]
  · rw [if_neg e]
    simp (disch := omega) only [zc_some, zw_eq, zi_nI, nI_clamp, nI_add, nI_1, nI_lti, nI_inj, nI_ltz, nI_eq0, nI_0lt, nI_ne_m1, nI_ne_m2, nI_m1_ne, nI_m2_ne, if_true, if_false, zU_eq, zU_ne, Nat.add_zero, pk_mul, bI1, q3, pk_rem, show ¬ PL = 0 by omega, show ¬ (1 = 0) by omega, X7_touches_b278]
    obtain ⟨g', k1, k2, k3⟩ := fin g (g 43 0 (p + 3)) (FrN.rfl' g)
    refine ⟨g', k1, ?_, k3⟩
    rw [k2]
    unfold rPut
    dsimp only
    rw [if_neg e, if_neg (fun z => e z.1), upd_same rfl]
theorem FindR_lt {S W c ℓ w : Nat} {m : Rw} (h : FindR S W m c ℓ (some w)) : w < W := h.1
/-- get, put: behind the rule's word -/
theorem X7_b72_ok {S W PL NC : Nat} {g : zG} (hP : MPar S W PL NC g) {c a rule : Nat} (hc : c < NC) (ha : a < 16 * PL) (b : Bool) (hr : g 35007 0 0 = nI rule) (hr2 : rule ≤ 2) (hL : LOK S W NC (g 43 0)) {e0 : Nat} (he0 : e0 < 16) (hE : g 38007 0 0 = nI e0) :
    ∃ g' how r, X7_touches_b72 (nI c) (nI a) (nI (a / PL)) (bI b) g = some (nI how, g') ∧ TchR S W PL NC rule (g 36007 0 0) c a b (g 43 0) how r (g' 43 0) ∧ FrM g g' ∧ EndE e0 r (g' 38007 0 0) ∧ 1 ≤ how ∧ how ≤ 3 := by
  obtain ⟨⟨p1, p2, p3, p4, p5, p6, p7, p8⟩, q1, q2, q3, q4⟩ := id hP
  have hc4 : c < 4 := by omega
  have h64 : 16 * PL ≤ 64 := by omega
  have hℓ : a / PL ≤ 16 := by
    have : a / PL < 16 := (Nat.div_lt_iff_lt_mul p5).mpr (by omega)
    omega
  have hs : a / PL % S < S := Nat.mod_lt _ p1
  obtain ⟨g1, h1, r1, e1, d1, d2, d3, d4, d5, d6⟩ := X7_decides_ok hP hc hℓ b hr hr2 he0 hE
  have hr1 := DecR_r hc4 d2
  have hE1 : EndE e0 r1 (g1 38007 0 0) := ⟨e1, d4, d5, d6⟩
  have hP1 := hP.fr d3
  have hL1 := LOK_Dec p2 p4 p8 hc4 d2 hL
  have ht1 : g1 36007 0 0 = g 36007 0 0 := d3 _ _ _ (by decide) (by decide)
  have hcs : h1 = 1 ∨ h1 = 2 ∨ h1 = 3 := by
    obtain ⟨v, -, ⟨-, h, -⟩ | ⟨-, -, -, h, -⟩ | ⟨-, -, h, -⟩ | ⟨-, -, -, h, -⟩⟩ := d2 <;> omega
  unfold X7_touches_b72
  rcases hcs with rfl | rfl | rfl
  · obtain ⟨oo, k1, k2⟩ := X7_findR hP1 hc4 hℓ
    obtain ⟨g2, o, b1, b2, b3, b4, b5⟩ := X7_brings_ok hP1 hc hℓ b hL1
    rw [ht1] at b2
    have hP2 := hP1.fr b3
    have red : X7_touches_b72 (nI c) (nI a) (nI (a / PL)) (bI b) g = X7_touches_b153 (nI c) (nI a) (nI (a / PL)) (bI b) (bI (oldO S c (a / PL) (g1 43 0) oo)) g1 := by
      unfold X7_touches_b72
      rw [d1, zc_some, if_pos rfl, k2, zc_some]
      cases oo with
      | none => rw [if_pos (show posO S c (a / PL) none = -1 from rfl)]; rfl
      | some w =>
        have hp := pos_lt hc4 (show a / PL % S < 4 by omega) (show w < 17 by have := k1.1; omega)
        simp only [posO]
        simp (disch := omega) only [zc_some, zw_eq, zi_nI, nI_clamp, nI_add, nI_1, nI_lti, nI_inj, nI_ltz, nI_eq0, nI_0lt, nI_ne_m1, nI_ne_m2, nI_m1_ne, nI_m2_ne, if_true, if_false, zU_eq, zU_ne, Nat.add_zero, pk_mul, X7_touches_b152, oldO]
        by_cases e3 : g1 43 0 (pos c (a / PL % S) w + 1) = nI 3
        · by_cases e4 : g1 43 0 (pos c (a / PL % S) w + 3) = 0
          · rw [if_pos e3, if_pos e4, decide_eq_true ⟨e3, e4⟩]; rfl
          · rw [if_pos e3, if_neg e4, decide_eq_false (fun z => e4 z.2)]; rfl
        · rw [if_neg e3, decide_eq_false (fun z => e3 z.1)]; rfl
    have red' := red
    unfold X7_touches_b72 at red'
    rw [red']
    unfold X7_touches_b153
    rw [b1, zc_some]
    cases o with
    | none =>
      rw [if_pos (show posQ c (a / PL % S) none = -1 from rfl)]
      refine ⟨g2, 3, r1 ||| 2 ^ c, rfl, ⟨1, r1, g1 43 0, d2, Or.inr (Or.inr ⟨rfl, oo, none, g2 43 0, k1, b2, Or.inl ⟨rfl, rfl, rfl, rfl⟩⟩)⟩, d3.trans b3, ?_, by omega, by omega⟩
      rw [b5 rfl]
      exact hE1.or hr1 hc4
    | some w =>
      obtain ⟨hw, hln⟩ := BrgR_line ⟨p1, p2⟩ p4 p6 hℓ p8 hc b2
      have hp := pos_lt hc4 (show a / PL % S < 4 by omega) (show w < 17 by omega)
      have hp0 := pos_ge c (a / PL % S) w
      have hb3 := cat_lt hc4 (show 3 < 14 by omega)
      have hE2 : EndE e0 r1 (g2 38007 0 0) := by rw [b4 (by simp)]; exact hE1
      cases b with
      | false =>
        obtain ⟨g3, j1, j2, j3⟩ := X7_get_ok (a := a) hP2 hc4 hp hp0 (by omega) (bI (oldO S c (a / PL) (g1 43 0) oo))
        refine ⟨g3, 1, r1, ?_, ⟨1, r1, g1 43 0, d2, Or.inr (Or.inr ⟨rfl, oo, some w, g2 43 0, k1, b2, Or.inr ⟨w, rfl, rfl, rfl, ?_⟩⟩)⟩, (d3.trans b3).trans j3.M, ?_, by omega, by omega⟩
        · simp only [posQ]
          simp (disch := omega) only [zc_some, zw_eq, zi_nI, nI_clamp, nI_add, nI_1, nI_lti, nI_inj, nI_ltz, nI_eq0, nI_0lt, nI_ne_m1, nI_ne_m2, nI_m1_ne, nI_m2_ne, if_true, if_false, zU_eq, zU_ne, Nat.add_zero, pk_mul, X7_coreAt_ok]
          exact j1
        · rw [j2]; rfl
        · rw [j3 _ _ _ (by decide)]; exact hE2
      | true =>
        obtain ⟨g3, j1, j2, j3⟩ := X7_put_ok (a := a) hP2 hc4 hp hp0 (by omega) hln hℓ (oldO S c (a / PL) (g1 43 0) oo)
        refine ⟨g3, 1, r1, ?_, ⟨1, r1, g1 43 0, d2, Or.inr (Or.inr ⟨rfl, oo, some w, g2 43 0, k1, b2, Or.inr ⟨w, rfl, rfl, rfl, ?_⟩⟩)⟩, (d3.trans b3).trans j3.M, ?_, by omega, by omega⟩
        · simp only [posQ]
          simp (disch := omega) only [zc_some, zw_eq, zi_nI, nI_clamp, nI_add, nI_1, nI_lti, nI_inj, nI_ltz, nI_eq0, nI_0lt, nI_ne_m1, nI_ne_m2, nI_m1_ne, nI_m2_ne, if_true, if_false, zU_eq, zU_ne, Nat.add_zero, pk_mul, X7_coreAt_ok]
          exact j1
        · rw [j2]; rfl
        · rw [j3 _ _ _ (by decide)]; exact hE2
  · refine ⟨zU g1 43 0 (cat c 13) (g1 43 0 (cat c 13) + nI 1), 2, r1, ?_, ⟨2, r1, g1 43 0, d2, Or.inl ⟨rfl, rfl, rfl, by rw [zU_row]; rfl⟩⟩, d3.trans ((FrN.rfl' g1).row _ _).M, ?_, by omega, by omega⟩
    · rw [d1, zc_some, if_neg (by decide +kernel), if_pos rfl, X7_waits_ok g1 hc4]
      rfl
    · rw [zU_ne _ _ (by omega)]; exact hE1
  · refine ⟨g1, 3, r1, ?_, ⟨3, r1, g1 43 0, d2, Or.inr (Or.inl ⟨rfl, rfl, rfl, rfl⟩)⟩, d3, hE1, by omega, by omega⟩
    rw [d1, zc_some, if_neg (by decide +kernel), if_neg (by decide +kernel)]
/-- a deed, as both have it told: sort, number, with x -/
def aOf (PL wh xx : Nat) (ix : Bool) : Nat := (wh + if ix = true then xx else 0) % (16 * PL)
theorem X7_touches_ok {S W PL NC : Nat} {g : zG} (hP : MPar S W PL NC g) {c d wh xx rule : Nat} (hc : c < NC) (hd : d < 96) (b ix : Bool) (hso : g 37 0 d = nI (if b = true then 4 else 3)) (hwh : g 39 0 d = nI wh) (hwl : wh < 1000) (hix : g 41 0 d = bI ix) (hxx : g 43 0 (cat c 2) = nI xx) (hxl : xx < 1000) (hr : g 35007 0 0 = nI rule) (hr2 : rule ≤ 2) (hL : LOK S W NC (g 43 0)) {e0 : Nat} (he0 : e0 < 16) (hE : g 38007 0 0 = nI e0) :
    ∃ g' how r, X7_touches (nI c) (nI d) g = some (nI how, g') ∧ TchR S W PL NC rule (g 36007 0 0) c (aOf PL wh xx ix) b (g 43 0) how r (g' 43 0) ∧ FrM g g' ∧ EndE e0 r (g' 38007 0 0) ∧ 1 ≤ how ∧ how ≤ 3 := by
  obtain ⟨⟨p1, p2, p3, p4, p5, p6, p7, p8⟩, q1, q2, q3, q4⟩ := id hP
  have hb2 := cat_lt (show c < 4 by omega) (show 2 < 14 by omega)
  have hal : aOf PL wh xx ix < 16 * PL := Nat.mod_lt _ (by omega)
  obtain ⟨g', how, r, k1, k2, k3, k4, k5, k6⟩ := X7_b72_ok hP hc hal b hr hr2 hL he0 hE
  refine ⟨g', how, r, ?_, k2, k3, k4, k5, k6⟩
  rw [← k1]
  unfold X7_touches
  simp (disch := omega) only [zc_some, zw_eq, zi_nI, nI_clamp, nI_add, nI_1, nI_lti, nI_inj, nI_ltz, nI_eq0, nI_0lt, nI_ne_m1, nI_ne_m2, nI_m1_ne, nI_m2_ne, if_true, if_false, zU_eq, zU_ne, Nat.add_zero, pk_mul, q3, X7_addresses, hix, hwh, X7_coreAt_ok, hxx]
  have fin : ∀ y, y = (if ix = true then xx else 0) → X7_touches_b41 (nI c) (nI d) (nI (16 * PL)) (nI wh) (nI y) g = X7_touches_b72 (nI c) (nI (aOf PL wh xx ix)) (nI (aOf PL wh xx ix / PL)) (bI b) g := by
    intro y hy
    unfold X7_touches_b41
    have hyl : y < 1000 := by rw [hy]; split <;> omega
    simp (disch := omega) only [zc_some, zw_eq, zi_nI, nI_clamp, nI_add, nI_1, nI_lti, nI_inj, nI_ltz, nI_eq0, nI_0lt, nI_ne_m1, nI_ne_m2, nI_m1_ne, nI_m2_ne, if_true, if_false, zU_eq, zU_ne, Nat.add_zero, pk_mul, q3, pk_rem, show ¬ 16 * PL = 0 by omega, show ¬ PL = 0 by omega, hso]
    have ha : (wh + y) % (16 * PL) = aOf PL wh xx ix := by rw [hy]; rfl
    rw [ha, pk_div (by omega) p5 (by omega)]
    cases b with
    | true => rw [if_pos rfl]; rfl
    | false => rw [if_neg (by decide +kernel)]; rfl
  cases ix with
  | true =>
    rw [bI1, if_pos rfl]
    exact fin xx rfl
  | false =>
    rw [bI0, if_neg (by decide +kernel)]
    exact fin 0 rfl
