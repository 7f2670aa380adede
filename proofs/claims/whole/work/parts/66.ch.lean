/-! ===== word, cached, sharers, reads, writes ===== -/
theorem jword {S W PL NC r a : Nat} {gc gm : zG} (hP : CPar S W PL NC gc) (hM : MPar S W PL NC gm) (hS : Sim S W PL NC r gc (gm 43 0)) (hp : PI S W PL NC (gm 43 0)) (ha : a < 16 * PL) : ∃ x, X3_wordAt r (nI a) gc = some (x, gc) ∧ X7_wordNow (nI a) gm = some (x, gm) := by
  have hz := hP.1
  obtain ⟨p1, p2, p3, p4, p5, p6, p7, p8⟩ := id hz
  obtain ⟨-, m1, m2, m3, m4⟩ := id hM
  have h16 := pl_16 hz
  have hℓ : a / PL < 16 := (Nat.div_lt_iff_lt_mul p5).mpr (by omega)
  have hs : a / PL % S < S := Nat.mod_lt _ p1
  have hk : a % PL < PL := Nat.mod_lt _ p5
  have cl : ∀ d i n, i + d = 4 → NC ≤ i → X3_wordAt_l11 (n + d + 1) r (nI a) (nI (a / PL)) (nI i) gc = some (gm 43 0 (254 + a), gc) := by
    intro d
    induction d with
    | zero =>
      intro i n e _
      have e17 := hS.2.2.2.1.1 a ha
      rw [X3_wordAt_l11.eq_2, if_neg (by rw [nI_lti (by omega) (by omega)]; omega)]
      simp (disch := omega) only [zc_some, zw_eq, zi_nI, nI_clamp, nI_add, nI_1, nI_lti, nI_inj, nI_ltz, nI_eq0, nI_0lt, nI_ne_m1, nI_ne_m2, nI_m1_ne, nI_m2_ne, if_true, if_false, zU_eq, zU_ne, Nat.add_zero, pk_mul, show a < 68 by omega, e17]
    | succ d ih =>
      intro i n e hi
      have := ih (i + 1) n (by omega) (by omega)
      have hf := c_find_out hS hi (show i < 4 by omega) (show a / PL ≤ 16 by omega)
      rw [show n + (d + 1) + 1 = (n + d + 1) + 1 by omega, X3_wordAt_l11.eq_2, if_pos (by rw [nI_lti (by omega) (by omega)]; omega), zi_nI (by omega) (by omega), show (nI i).toNatClampNeg = i from nI_clamp (by omega), hf, zc_some, if_pos rfl]
      unfold X3_wordAt_b85
      rw [nI_add]; exact this
  have both : ∀ d i n n', i + d = NC → ∃ x, X3_wordAt_l11 (n + d + (4 - NC) + 1) r (nI a) (nI (a / PL)) (nI i) gc = some (x, gc) ∧ X7_wordNow_l2 (n' + d + 1) (nI a) (nI i) gm = some (x, gm) := by
    intro d
    induction d with
    | zero =>
      intro i n n' e
      have e' : i = NC := by omega
      subst e'
      refine ⟨_, by rw [Nat.add_zero]; exact cl (4 - i) i n (by omega) (by omega), ?_⟩
      rw [X7_wordNow_l2.eq_2]
      simp (disch := omega) only [zc_some, zw_eq, zi_nI, nI_clamp, nI_add, nI_1, nI_lti, nI_inj, nI_ltz, nI_eq0, nI_0lt, nI_ne_m1, nI_ne_m2, nI_m1_ne, nI_m2_ne, if_true, if_false, zU_eq, zU_ne, Nat.add_zero, pk_mul, m4, Nat.lt_irrefl]
    | succ d ih =>
      intro i n n' e
      obtain ⟨x, a1, a2⟩ := ih (i + 1) n n' (by omega)
      obtain ⟨o, ho, hfm⟩ := X7_findR hM (show i < 4 by omega) (show a / PL ≤ 16 by omega)
      have hfc := c_find hz hS (show i < NC by omega) (by omega) hp.lok (show a / PL ≤ 16 by omega) ho
      have r1 : X3_wordAt_l11 (n + (d + 1) + (4 - NC) + 1) r (nI a) (nI (a / PL)) (nI i) gc = zc (some (cpO S W (a / PL) o, gc)) (fun x3 g4 => if x3 = -1 then some (x, gc) else zi (nI i) 4 (zi x3 16 (if g4 23 (4 * r + (nI i).toNatClampNeg) x3.toNatClampNeg = nI 3 then zi (nI i) 4 (zi x3 16 (if g4 25 (4 * r + (nI i).toNatClampNeg) x3.toNatClampNeg = 0 then zi (nI i) 4 (zc (X2_offsetOf 0 (nI a) g4) (fun x12 g13 => zc (X0_wordIn (4 * r + (nI i).toNatClampNeg) x3 x12 g13) (fun x15 g16 => some (x15, g16)))) else X3_wordAt_l11 (n + d + (4 - NC) + 1) r (nI a) (nI (a / PL)) (nI (i + 1)) g4)) else X3_wordAt_l11 (n + d + (4 - NC) + 1) r (nI a) (nI (a / PL)) (nI (i + 1)) g4))) := by
        rw [show n + (d + 1) + (4 - NC) + 1 = (n + d + (4 - NC) + 1) + 1 by omega, X3_wordAt_l11.eq_2, if_pos (by rw [nI_lti (by omega) (by omega)]; omega), zi_nI (by omega) (by omega), show (nI i).toNatClampNeg = i from nI_clamp (by omega), hfc]
        unfold X3_wordAt_b85
        rw [zc_some, zc_some, nI_add]
        by_cases z : cpO S W (a / PL) o = -1
        · rw [if_pos z, if_pos z, a1]
        · rw [if_neg z, if_neg z]
      have r2 : X7_wordNow_l2 (n' + (d + 1) + 1) (nI a) (nI i) gm = zc (some (posO S i (a / PL) o, gm)) (fun x1 g2 => if x1 = -1 then some (x, gm) else zi (x1 + nI 1) 2766 (if g2 43 0 (x1 + nI 1).toNatClampNeg = nI 3 then zi (x1 + nI 3) 2766 (if g2 43 0 (x1 + nI 3).toNatClampNeg = 0 then zi (x1 + nI 5 + nI (a % PL)) 2766 (some (g2 43 0 (x1 + nI 5 + nI (a % PL)).toNatClampNeg, g2)) else X7_wordNow_l2 (n' + d + 1) (nI a) (nI (i + 1)) g2) else X7_wordNow_l2 (n' + d + 1) (nI a) (nI (i + 1)) g2)) := by
        rw [show n' + (d + 1) + 1 = (n' + d + 1) + 1 by omega, X7_wordNow_l2.eq_2, zi_nI (by omega) (by omega), show (nI 5).toNatClampNeg = 5 from nI_clamp (by omega), m4, if_pos (by rw [nI_lti (by omega) (by omega)]; omega), zi_nI (by omega) (by omega), show (nI 2).toNatClampNeg = 2 from nI_clamp (by omega), m3, if_neg (by rw [nI_eq0 (by omega)]; omega), pk_div (by omega) (by omega) (by omega), hfm]
        unfold X7_wordNow_b72
        rw [zc_some, zc_some, nI_add, m3, if_neg (show ¬ nI PL = 0 by rw [nI_eq0 (by omega)]; omega), pk_rem (by omega) (by omega) (by omega), zi_nI (show 2 < 6 by omega) (by omega)]
        by_cases z : posO S i (a / PL) o = -1
        · rw [if_pos z, if_pos z, a2]
        · rw [if_neg z, if_neg z]
      rw [r1, r2, zc_some, zc_some]
      cases o with
      | none =>
        refine ⟨x, ?_, ?_⟩
        · rw [if_pos (show cpO S W (a / PL) none = -1 from rfl)]
        · rw [if_pos (show posO S i (a / PL) none = -1 from rfl)]
      | some w =>
        obtain ⟨o1, o2, o3⟩ := ho
        have hlt := pl_lt hs o1
        have hpl := pos_lt (show i < 4 by omega) (show a / PL % S < 4 by omega) (show w < 17 by omega)
        obtain ⟨-, e1, e2, e3, -, -, e6⟩ := hS.1 i _ w (by omega) hs o1 (by omega)
        have ew := e6 (ne_m2_of o2 (by omega)) (by rw [o2, ne_eq, nI_inj (by omega) (by omega)]; omega) _ hk
        have hwi := X0_wordIn_ok (q := 4 * r + i) (p := a / PL % S * W + w) (k := a % PL) gc (by omega) (by omega)
        have n1 : ¬ (cpO S W (a / PL) (some w) = -1) := by simp only [cpO]; rw [nI_ne_m1 (by omega)]; exact id
        have n2 : ¬ (posO S i (a / PL) (some w) = -1) := by simp only [posO]; rw [nI_ne_m1 (by omega)]; exact id
        rw [if_neg n1, if_neg n2]
        simp only [cpO, posO]
        have ecl : (nI i).toNatClampNeg = i := nI_clamp (by omega)
        rw [a1, a2]
        simp (disch := omega) only [zc_some, zw_eq, zi_nI, nI_clamp, nI_add, nI_1, nI_lti, nI_inj, nI_ltz, nI_eq0, nI_0lt, nI_ne_m1, nI_ne_m2, nI_m1_ne, nI_m2_ne, if_true, if_false, zU_eq, zU_ne, Nat.add_zero, pk_mul, show i < 4 by omega, show a / PL % S * W + w < 16 by omega, e1, e3, hP.offsetOf ha, hwi, ew]
        by_cases z1 : gm 43 0 (pos i (a / PL % S) w + 1) = nI 3
        · by_cases z3 : gm 43 0 (pos i (a / PL % S) w + 3) = 0
          · exact ⟨_, by rw [if_pos z1, if_pos z3], by rw [if_pos z1, if_pos z3]⟩
          · exact ⟨x, by rw [if_pos z1, if_neg z3], by rw [if_pos z1, if_neg z3]⟩
        · exact ⟨x, by rw [if_neg z1], by rw [if_neg z1]⟩
  obtain ⟨x, a1, a2⟩ := both NC 0 (99999 - 4) (99999 - NC) (by omega)
  refine ⟨x, ?_, ?_⟩
  · unfold X3_wordAt
    rw [hP.lineOf ha, zc_some, show zfuel = 99999 - 4 + NC + (4 - NC) + 1 by have : zfuel = 100000 := rfl; omega]
    exact a1
  · unfold X7_wordNow
    rw [show zfuel = 99999 - NC + NC + 1 by have : zfuel = 100000 := rfl; omega]
    exact a2
theorem q_word {gc gm : zG} (h : INV gc gm) (v : Int32) : Alike (X6_word v gc) (X7_word v gm) := by
  unfold X6_word X7_word
  rw [X7_anew_eq]
  rcases addr_cases h v with ⟨a, b⟩ | ⟨S, W, PL, NC, rl, tr, len, so, wh, ix, x, hT, hx, hPL, rfl, a, b⟩
  · rw [a, b, zc_some, zc_some, ite0, ite0]; exact no_alike h (by omega)
  · obtain ⟨y, y1, y2⟩ := jword hT.1.1 hT.1.2.1 hT.2.1.1 hT.2.1.2.1.1 hx
    rw [a, b, zc_some, zc_some, ite1, ite1, y1, y2, zc_some, zc_some]
    exact ok_alike h _
theorem q_cached {gc gm : zG} (h : INV gc gm) (v u : Int32) : Alike (X6_cached v u gc) (X7_cached v u gm) := by
  unfold X6_cached X7_cached X6_cached_b22 X7_cached_b20 X6_cached_b81
  rw [X7_anew_eq]
  rcases core_cases h v with ⟨a, b⟩ | ⟨S, W, PL, NC, rl, tr, len, so, wh, ix, c, hT, hc, hN, rfl, a, b⟩
  · rw [a, b, zc_some, zc_some, ite0, ite0]; exact no_alike h (by omega)
  · rw [a, b, zc_some, zc_some, ite1, ite1]
    rcases addr_cases h u with ⟨a', b'⟩ | ⟨S', W', PL', NC', rl', tr', len', so', wh', ix', x, hT', hx, hPL, rfl, a', b'⟩
    · rw [a', b', zc_some, zc_some, ite0, ite0]; exact no_alike h (by omega)
    · rw [a', b', zc_some, zc_some, ite1, ite1]
      have ePL : PL' = PL := by
        have e1 := hT.par.1.2.2.1
        have e2 := hT'.par.1.2.2.1
        rw [e1, nI_inj (by have := hT.1.1.1.2.2.2.2.2.1; omega) (by omega)] at e2
        exact e2.symm
      subst ePL
      have hP := hT.1.1
      have hM := hT.1.2.1
      have hS := hT.2.1.1
      have hp := hT.2.1.2.1.1
      have hz := hP.1
      obtain ⟨p1, p2, p3, p4, p5, p6, p7, p8⟩ := id hz
      have h16 := pl_16 hz
      have m3 := hM.2.2.2.1
      have hℓ : x / PL' < 16 := (Nat.div_lt_iff_lt_mul p5).mpr (by omega)
      have hs : x / PL' % S < S := Nat.mod_lt _ p1
      have hk : x % PL' < PL' := Nat.mod_lt _ p5
      obtain ⟨o, ho, hfm⟩ := X7_findR hM (show c < 4 by omega) (show x / PL' ≤ 16 by omega)
      have hfc := c_find hz hS hc (by omega) hp.lok (show x / PL' ≤ 16 by omega) ho
      have ecl : (nI c).toNatClampNeg = c := nI_clamp (by omega)
      rw [zi_nI (show c < 4 by omega) (by omega), hP.lineOf hx, zc_some, ecl, hfc, zc_some, zi_nI (show 2 < 6 by omega) (by omega), show (nI 2).toNatClampNeg = 2 from nI_clamp (by omega), m3, if_neg (show ¬ nI PL' = 0 by rw [nI_eq0 (by omega)]; omega), pk_div (by omega) (by omega) (by omega), hfm, zc_some, m3, if_neg (show ¬ nI PL' = 0 by rw [nI_eq0 (by omega)]; omega), pk_rem (by omega) (by omega) (by omega)]
      cases o with
      | none => rw [if_pos (show cpO S W (x / PL') none = -1 from rfl), if_pos (show posO S c (x / PL') none = -1 from rfl)]; exact ok_alike h _
      | some w =>
        obtain ⟨o1, o2, o3⟩ := ho
        have hlt := pl_lt hs o1
        have hpl := pos_lt (show c < 4 by omega) (show x / PL' % S < 4 by omega) (show w < 17 by omega)
        obtain ⟨-, -, -, -, -, -, e6⟩ := hS.1 c _ w hc hs o1 (by omega)
        have ew := e6 (ne_m2_of o2 (by omega)) (by rw [o2, ne_eq, nI_inj (by omega) (by omega)]; omega) _ hk
        have hwi := X0_wordIn_ok (q := 4 * 0 + c) (p := x / PL' % S * W + w) (k := x % PL') gc (by omega) (by omega)
        have n1 : ¬ (cpO S W (x / PL') (some w) = -1) := by simp only [cpO]; rw [nI_ne_m1 (by omega)]; exact id
        have n2 : ¬ (posO S c (x / PL') (some w) = -1) := by simp only [posO]; rw [nI_ne_m1 (by omega)]; exact id
        rw [if_neg n1, if_neg n2]
        simp only [cpO, posO]
        rw [zi_nI (show c < 4 by omega) (by omega), hP.offsetOf hx, zc_some, hwi, zc_some, ew]
        simp (disch := omega) only [zc_some, zw_eq, zi_nI, nI_clamp, nI_add, nI_1, nI_lti, nI_inj, nI_ltz, nI_eq0, nI_0lt, nI_ne_m1, nI_ne_m2, nI_m1_ne, nI_m2_ne, if_true, if_false, zU_eq, zU_ne, Nat.add_zero, pk_mul]
        exact ok_alike h _
theorem orI (a b : Nat) : nI a ||| nI b = nI (a ||| b) := Int32.toBitVec_inj.mp (by
  show BitVec.ofNat 32 a ||| BitVec.ofNat 32 b = BitVec.ofNat 32 (a ||| b)
  exact BitVec.ofNat_or.symm)
theorem shI : ∀ ℓ, ℓ ≤ 16 → nI 1 <<< (nI ℓ &&& 31) = nI (2 ^ ℓ) := by decide +kernel
theorem or_bit (u ℓ j : Nat) : (u ||| 2 ^ ℓ).testBit j = true ↔ (u.testBit j = true ∨ j = ℓ) := by
  rw [Nat.testBit_or, Nat.testBit_two_pow, Bool.or_eq_true, decide_eq_true_eq]
  exact ⟨fun z => z.imp id Eq.symm, fun z => z.imp id Eq.symm⟩
theorem bits_eq {u v : Nat} (h : ∀ j, u.testBit j = true ↔ v.testBit j = true) : u = v := by
  apply Nat.eq_of_testBit_eq
  intro j
  have := h j
  cases hu : u.testBit j <;> cases hv : v.testBit j <;> simp_all
theorem X6_sharers_ok {S W PL NC ℓ : Nat} {gc gm : zG} (h : INV gc gm) (hT : ∃ rl tr len so wh ix, Tld S W PL NC rl tr len so wh ix gc (aN gm)) (hℓ : ℓ ≤ 16) : Alike (X6_sharers_l27 zfuel (nI ℓ) (nI 0) (nI 0) gc) (X7_sharers_l31 zfuel (nI ℓ) (nI 0) (nI 0) (aN gm)) := by
  obtain ⟨rl, tr, len, so, wh, ix, hT⟩ := hT
  have hP := hT.1.1
  have hM := hT.1.2.1
  have hS := hT.2.1.1
  have hp := hT.2.1.2.1.1
  have hz := hP.1
  have m4 := hM.2.2.2.2
  obtain ⟨p1, p2, p3, p4, p5, p6, p7, p8⟩ := id hz
  have cl : ∀ d i n u, i + d = 4 → NC ≤ i → X6_sharers_l27 (n + d + 1) (nI ℓ) (nI u) (nI i) gc = zc (X6_answer (nI u) gc) (fun x1 g2 => some (x1, g2)) := by
    intro d
    induction d with
    | zero =>
      intro i n u e _
      rw [X6_sharers_l27.eq_2, if_neg (by rw [nI_lti (by omega) (by omega)]; omega)]
    | succ d ih =>
      intro i n u e hi
      have := ih (i + 1) n u (by omega) (by omega)
      have hf := c_find_out hS hi (show i < 4 by omega) hℓ
      rw [show n + (d + 1) + 1 = (n + d + 1) + 1 by omega, X6_sharers_l27.eq_2, if_pos (by rw [nI_lti (by omega) (by omega)]; omega), zi_nI (by omega) (by omega), show (nI i).toNatClampNeg = i from nI_clamp (by omega), hf, zc_some, if_pos rfl]
      unfold X6_sharers_b55
      rw [nI_add]; exact this
  have both : ∀ d i n n' u, i + d = NC → Alike (X6_sharers_l27 (n + d + (4 - NC) + 1) (nI ℓ) (nI u) (nI i) gc) (X7_sharers_l31 (n' + d + 1) (nI ℓ) (nI u) (nI i) (aN gm)) := by
    intro d
    induction d with
    | zero =>
      intro i n n' u e
      have e' : i = NC := by omega
      subst e'
      rw [show n + 0 + (4 - i) + 1 = n + (4 - i) + 1 by omega, cl (4 - i) i n u (by omega) (by omega), X7_sharers_l31.eq_2]
      simp (disch := omega) only [zc_some, zw_eq, zi_nI, nI_clamp, nI_add, nI_1, nI_lti, nI_inj, nI_ltz, nI_eq0, nI_0lt, nI_ne_m1, nI_ne_m2, nI_m1_ne, nI_m2_ne, if_true, if_false, zU_eq, zU_ne, Nat.add_zero, pk_mul, m4, Nat.lt_irrefl]
      exact ok_alike h _
    | succ d ih =>
      intro i n n' u e
      obtain ⟨o, ho, hfm⟩ := X7_findR hM (show i < 4 by omega) hℓ
      have hfc := c_find hz hS (show i < NC by omega) (by omega) hp.lok hℓ ho
      rw [show n + (d + 1) + (4 - NC) + 1 = (n + d + (4 - NC) + 1) + 1 by omega, X6_sharers_l27.eq_2, if_pos (by rw [nI_lti (by omega) (by omega)]; omega), zi_nI (by omega) (by omega), show (nI i).toNatClampNeg = i from nI_clamp (by omega), hfc, zc_some]
      rw [show n' + (d + 1) + 1 = (n' + d + 1) + 1 by omega, X7_sharers_l31.eq_2, zi_nI (by omega) (by omega), show (nI 5).toNatClampNeg = 5 from nI_clamp (by omega), m4, if_pos (show nI i < nI NC by rw [nI_lti (by omega) (by omega)]; omega), hfm, zc_some]
      unfold X6_sharers_b55 X7_sharers_b59
      rw [nI_add, shI i (by omega), orI, orI, Nat.or_zero]
      cases o with
      | none => rw [if_pos (show cpO S W ℓ none = -1 from rfl), if_pos (show posO S i ℓ none = -1 from rfl)]; exact ih (i + 1) n n' u (by omega)
      | some w =>
        have hlt := pl_lt (Nat.mod_lt ℓ p1) ho.1
        have h16 := pl_16 hz
        have hpl := pos_lt (show i < 4 by omega) (show ℓ % S < 4 by have := Nat.mod_lt ℓ p1; omega) (show w < 17 by have := ho.1; omega)
        have n1 : ¬ (cpO S W ℓ (some w) = -1) := by simp only [cpO]; rw [nI_ne_m1 (by omega)]; exact id
        have n2 : ¬ (posO S i ℓ (some w) = -1) := by simp only [posO]; rw [nI_ne_m1 (by omega)]; exact id
        rw [if_neg n1, if_neg n2]; exact ih (i + 1) n n' _ (by omega)
  have := both NC 0 (99999 - 4) (99999 - NC) 0 (by omega)
  rw [show 99999 - 4 + NC + (4 - NC) + 1 = zfuel by have : zfuel = 100000 := rfl; omega, show 99999 - NC + NC + 1 = zfuel by have : zfuel = 100000 := rfl; omega] at this
  exact this
theorem q_sharers {gc gm : zG} (h : INV gc gm) (v : Int32) : Alike (X6_sharers v gc) (X7_sharers v gm) := by
  unfold X6_sharers X7_sharers X6_sharers_b17 X7_sharers_b21
  rw [X7_anew_eq]
  rcases told_cases h with ⟨a, b⟩ | ⟨S, W, PL, NC, rl, tr, len, so, wh, ix, hT, a, b⟩
  · rw [a, b, ite0, ite0]; exact no_alike h (by omega)
  · rw [a, b, ite1, ite1]
    rcases within_cases v (a := 0) (n := 16) (by omega) (by omega) with hw | ⟨k, k1, k2, rfl, hw⟩
    · rw [(hw _).1, (hw _).2, zc_some, zc_some, ite0, ite0]; exact no_alike h (by omega)
    · rw [(hw _).1, (hw _).2, zc_some, zc_some, ite1, ite1]
      exact X6_sharers_ok h ⟨rl, tr, len, so, wh, ix, hT⟩ k2
/-- a core's marked lines -/
def MkL (S W c f : Nat) (m : Rw) (ℓ : Nat) : Prop := ℓ ≤ 16 ∧ ∃ w, w < W ∧ m (pos c (ℓ % S) w) = nI ℓ ∧ m (pos c (ℓ % S) w + f) = nI 1
theorem mk_ne0' {x : Int32} (h : x = nI 0 ∨ x = nI 1) {A B : zR0} : (if x = 0 then A else B) = if x = nI 1 then B else A := by
  rcases h with rfl | rfl
  · rw [if_pos (by decide), if_neg (by decide)]
  · rw [if_neg (by decide), if_pos rfl]
theorem X0_marked_ok {S W PL NC r c : Nat} {byW : Bool} {g : zG} {m : Rw} (hz : Siz4 S W PL NC) (h : Sim S W PL NC r g m) (hp : PI S W PL NC m) (hc : c < NC) : ∃ u, X0_markedLines (4 * r + c) (bI byW) g = some (nI u, g) ∧ ∀ ℓ, u.testBit ℓ = true ↔ MkL S W c (if byW = true then 3 else 2) m ℓ := by
  obtain ⟨p1, p2, p3, p4, p5, p6, p7, p8⟩ := id hz
  have h16 := pl_16 hz
  unfold X0_markedLines
  refine loopM (σ := Nat × Nat) (fun n s => X0_markedLines_l4 n (4 * r + c) (bI byW) (nI s.2) (nI s.1) g) (fun s => s.1 ≤ 16 ∧ ∀ ℓ, s.2.testBit ℓ = true ↔ ∃ p, p < s.1 ∧ ∃ s' w, s' < S ∧ w < W ∧ p = s' * W + w ∧ ℓ ≤ 16 ∧ m (pos c s' w) = nI ℓ ∧ m (pos c s' w + if byW = true then 3 else 2) = nI 1) (fun s => 16 - s.1) (fun o => ∃ u, o = some (nI u, g) ∧ ∀ ℓ, u.testBit ℓ = true ↔ MkL S W c (if byW = true then 3 else 2) m ℓ) ?_ zfuel (0, 0) ⟨Nat.zero_le _, fun ℓ => ?_⟩ (by simp only; exact zfuel_ge (by omega))
  · rintro n ⟨i, u⟩ ⟨h1, h2⟩
    simp only at h1 h2
    by_cases hi : i < 16
    · left
      rw [X0_markedLines_l4.eq_2]
      unfold X0_markedLines_b44 X0_markedLines_b55
      have skip : (∀ s' w, s' < S → w < W → i = s' * W + w → ∀ ℓ, ℓ ≤ 16 → m (pos c s' w) = nI ℓ → m (pos c s' w + if byW = true then 3 else 2) ≠ nI 1) → ∀ ℓ, u.testBit ℓ = true ↔ ∃ p, p < i + 1 ∧ ∃ s' w, s' < S ∧ w < W ∧ p = s' * W + w ∧ ℓ ≤ 16 ∧ m (pos c s' w) = nI ℓ ∧ m (pos c s' w + if byW = true then 3 else 2) = nI 1 := fun hno ℓ => by
        rw [h2]
        constructor
        · rintro ⟨p, a, b⟩; exact ⟨p, by omega, b⟩
        · rintro ⟨p, a, s', w, b1, b2, b3, b4, b5, b6⟩
          by_cases z : p = i
          · subst z; exact absurd b6 (hno s' w b1 b2 b3 ℓ b4 b5)
          · exact ⟨p, by omega, s', w, b1, b2, b3, b4, b5, b6⟩
      rcases Nat.lt_or_ge i (S * W) with hlt | hge
      · obtain ⟨s, w, hs, hw, rfl⟩ := pl_split p3 hlt
        obtain ⟨e0, e1, e2, e3, -⟩ := h.1 c s w hc hs hw (by omega)
        obtain ⟨m2, m3⟩ := hp.mk c s w hc hs hw
        rcases hp.lok c s w hc hs hw with z | ⟨ℓ, l1, l2, l3⟩
        · refine ⟨(s * W + w + 1, u), ⟨hi, skip (fun s' w' a b e ℓ b4 b5 => ?_)⟩, by simp only; omega, ?_⟩
          · obtain ⟨rfl, rfl⟩ := pl_inj hw b e
            rw [z] at b5; exact absurd b5.symm (by rw [nI_ne_m2 (by omega)]; exact id)
          · simp (disch := omega) only [zc_some, zw_eq, zi_nI, nI_clamp, nI_add, nI_1, nI_lti, nI_inj, nI_ltz, nI_eq0, nI_0lt, nI_ne_m1, nI_ne_m2, nI_m1_ne, nI_m2_ne, if_true, if_false, zU_eq, zU_ne, Nat.add_zero, pk_mul, hi, e0]
            rw [z, if_pos (by decide)]
        · have take : m (pos c s w + if byW = true then 3 else 2) = nI 1 → ∀ j, (u ||| 2 ^ ℓ).testBit j = true ↔ ∃ p, p < s * W + w + 1 ∧ ∃ s' w', s' < S ∧ w' < W ∧ p = s' * W + w' ∧ j ≤ 16 ∧ m (pos c s' w') = nI j ∧ m (pos c s' w' + if byW = true then 3 else 2) = nI 1 := fun hy j => by
            rw [or_bit, h2]
            constructor
            · rintro (⟨p, a, b⟩ | rfl)
              · exact ⟨p, by omega, b⟩
              · exact ⟨s * W + w, by omega, s, w, hs, hw, rfl, l1, l3, hy⟩
            · rintro ⟨p, a, s', w', b1, b2, b3, b4, b5, b6⟩
              by_cases z : p = s * W + w
              · right
                rw [z] at b3
                obtain ⟨rfl, rfl⟩ := pl_inj hw b2 b3
                rw [l3, nI_inj (by omega) (by omega)] at b5
                exact b5.symm
              · exact Or.inl ⟨p, by omega, s', w', b1, b2, b3, b4, b5, b6⟩
          have no : m (pos c s w + if byW = true then 3 else 2) ≠ nI 1 → ∀ s' w', s' < S → w' < W → s * W + w = s' * W + w' → ∀ ℓ, ℓ ≤ 16 → m (pos c s' w') = nI ℓ → m (pos c s' w' + if byW = true then 3 else 2) ≠ nI 1 := fun hy s' w' a b e ℓ' b4 b5 => by
            obtain ⟨rfl, rfl⟩ := pl_inj hw b e
            exact hy
          simp (disch := omega) only [zc_some, zw_eq, zi_nI, nI_clamp, nI_add, nI_1, nI_lti, nI_inj, nI_ltz, nI_eq0, nI_0lt, nI_ne_m1, nI_ne_m2, nI_m1_ne, nI_m2_ne, if_true, if_false, zU_eq, zU_ne, Nat.add_zero, pk_mul, hi, e0, l3, e2, e3, shI ℓ l1, orI]
          rw [iteB]
          cases byW with
          | false =>
            simp only [Bool.false_eq_true, if_false]
            rw [mk_ne0' m2]
            by_cases y : m (pos c s w + 2) = nI 1
            · exact ⟨(s * W + w + 1, u ||| 2 ^ ℓ), ⟨hi, take y⟩, by simp only; omega, by rw [if_pos y]⟩
            · exact ⟨(s * W + w + 1, u), ⟨hi, skip (no y)⟩, by simp only; omega, by rw [if_neg y]⟩
          | true =>
            simp only [if_true]
            rw [mk_ne0' m3]
            by_cases y : m (pos c s w + 3) = nI 1
            · exact ⟨(s * W + w + 1, u ||| 2 ^ ℓ), ⟨hi, take y⟩, by simp only; omega, by rw [if_pos y]⟩
            · exact ⟨(s * W + w + 1, u), ⟨hi, skip (no y)⟩, by simp only; omega, by rw [if_neg y]⟩
      · refine ⟨(i + 1, u), ⟨hi, skip (fun s' w' a b e => by have := pl_lt a b; omega)⟩, by simp only; omega, ?_⟩
        have e0 := h.2.1 c i hc hge hi
        simp (disch := omega) only [zc_some, zw_eq, zi_nI, nI_clamp, nI_add, nI_1, nI_lti, nI_inj, nI_ltz, nI_eq0, nI_0lt, nI_ne_m1, nI_ne_m2, nI_m1_ne, nI_m2_ne, if_true, if_false, zU_eq, zU_ne, Nat.add_zero, pk_mul, hi, e0]
        rw [if_pos (by decide)]
    · right
      have hie : i = 16 := by omega
      subst hie
      refine ⟨u, ?_, fun ℓ => ?_⟩
      · rw [X0_markedLines_l4.eq_2, if_neg (by rw [nI_lti (by omega) (by omega)]; omega)]
      · rw [h2]
        constructor
        · rintro ⟨p, a, s', w, b1, b2, b3, b4, b5, b6⟩
          refine ⟨b4, w, b2, ?_⟩
          rcases hp.lok c s' w hc b1 b2 with z | ⟨ℓ', l1, l2, l3⟩
          · rw [z] at b5; exact absurd b5.symm (by rw [nI_ne_m2 (by omega)]; exact id)
          · rw [l3, nI_inj (by omega) (by omega)] at b5
            subst b5
            rw [l2]
            exact ⟨l3, b6⟩
        · rintro ⟨b4, w, b2, b5, b6⟩
          have hs : ℓ % S < S := Nat.mod_lt _ p1
          have := pl_lt hs b2
          exact ⟨ℓ % S * W + w, by omega, ℓ % S, w, hs, b2, rfl, b4, b5, b6⟩
  · simp only [Nat.zero_testBit, Bool.false_eq_true, false_iff]
    rintro ⟨p, a, -⟩
    omega
theorem X7_marked_ok {S W PL NC c f : Nat} {g : zG} (hM : MPar S W PL NC g) (hp : PI S W PL NC (g 43 0)) (hc : c < NC) (hf : f < 5) : ∃ u, X7_marked (nI c) (nI f) g = some (nI u, g) ∧ ∀ ℓ, u.testBit ℓ = true ↔ MkL S W c f (g 43 0) ℓ := by
  obtain ⟨⟨p1, p2, p3, p4, p5, p6, p7, p8⟩, q1, q2, q3, q4⟩ := id hM
  unfold X7_marked
  refine loopM (σ := Nat × Nat) (fun n s => X7_marked_l5 n (nI c) (nI f) (nI s.2) (nI s.1) g) (fun s => s.1 ≤ 17 ∧ ∀ ℓ, s.2.testBit ℓ = true ↔ (ℓ < s.1 ∧ MkL S W c f (g 43 0) ℓ)) (fun s => 17 - s.1) (fun o => ∃ u, o = some (nI u, g) ∧ ∀ ℓ, u.testBit ℓ = true ↔ MkL S W c f (g 43 0) ℓ) ?_ zfuel (0, 0) ⟨Nat.zero_le _, fun ℓ => by simp⟩ (by simp only; exact zfuel_ge (by omega))
  rintro n ⟨i, u⟩ ⟨h1, h2⟩
  simp only at h1 h2
  by_cases hi : i < 17
  · left
    have skip : ¬ MkL S W c f (g 43 0) i → ∀ ℓ, u.testBit ℓ = true ↔ (ℓ < i + 1 ∧ MkL S W c f (g 43 0) ℓ) := fun hno ℓ => by
      rw [h2]
      constructor
      · rintro ⟨a, b⟩; exact ⟨by omega, b⟩
      · rintro ⟨a, b⟩
        by_cases z : ℓ = i
        · subst z; exact absurd b hno
        · exact ⟨by omega, b⟩
    have take : MkL S W c f (g 43 0) i → ∀ ℓ, (u ||| 2 ^ i).testBit ℓ = true ↔ (ℓ < i + 1 ∧ MkL S W c f (g 43 0) ℓ) := fun hy ℓ => by
      rw [or_bit, h2]
      constructor
      · rintro (⟨a, b⟩ | rfl)
        · exact ⟨by omega, b⟩
        · exact ⟨by omega, hy⟩
      · rintro ⟨a, b⟩
        by_cases z : ℓ = i
        · exact Or.inr z
        · exact Or.inl ⟨by omega, b⟩
    obtain ⟨o, ho, hfm⟩ := X7_findR hM (show c < 4 by omega) (show i ≤ 16 by omega)
    have uni : ∀ w w', w < W → w' < W → g 43 0 (pos c (i % S) w) = nI i → g 43 0 (pos c (i % S) w') = nI i → w = w' := fun w w' a b d e => hp.one c _ w w' hc (Nat.mod_lt _ p1) a b (ne_m2_of d (by omega)) (d.trans e.symm)
    have red : X7_marked_l5 (n + 1) (nI c) (nI f) (nI u) (nI i) g = zc (some (posO S c i o, g)) (fun x1 g2 => if x1 = -1 then X7_marked_l5 n (nI c) (nI f) (nI u) (nI (i + 1)) g2 else zi (x1 + nI f) 2766 (if g2 43 0 (x1 + nI f).toNatClampNeg = nI 1 then X7_marked_l5 n (nI c) (nI f) (nI (u ||| 2 ^ i)) (nI (i + 1)) g2 else X7_marked_l5 n (nI c) (nI f) (nI u) (nI (i + 1)) g2)) := by
      rw [X7_marked_l5.eq_2, if_neg (by rw [nI_lti (by omega) (by omega)]; omega), hfm]
      unfold X7_marked_b48 X7_marked_b49
      rw [nI_add, shI i (by omega), orI, orI, Nat.or_zero]
    rw [red, zc_some]
    cases o with
    | none =>
      refine ⟨(i + 1, u), ⟨hi, skip (fun z => ?_)⟩, by simp only; omega, by rw [if_pos (show posO S c i none = -1 from rfl)]⟩
      obtain ⟨-, w, a, b, -⟩ := z
      exact ho w a b
    | some w =>
      obtain ⟨o1, o2, o3⟩ := ho
      have hpl := pos_lt (show c < 4 by omega) (show i % S < 4 by have := Nat.mod_lt i p1; omega) (show w < 17 by omega)
      have n2 : ¬ (posO S c i (some w) = -1) := by simp only [posO]; rw [nI_ne_m1 (by omega)]; exact id
      rw [if_neg n2]
      simp only [posO]
      simp (disch := omega) only [zc_some, zw_eq, zi_nI, nI_clamp, nI_add, nI_1, nI_lti, nI_inj, nI_ltz, nI_eq0, nI_0lt, nI_ne_m1, nI_ne_m2, nI_m1_ne, nI_m2_ne, if_true, if_false, zU_eq, zU_ne, Nat.add_zero, pk_mul]
      by_cases y : g 43 0 (pos c (i % S) w + f) = nI 1
      · exact ⟨(i + 1, u ||| 2 ^ i), ⟨hi, take ⟨by omega, w, o1, o2, y⟩⟩, by simp only; omega, by rw [if_pos y]⟩
      · refine ⟨(i + 1, u), ⟨hi, skip (fun z => ?_)⟩, by simp only; omega, by rw [if_neg y]⟩
        obtain ⟨-, w', a, b, d⟩ := z
        rw [uni w' w a o1 b o2] at d
        exact y d
  · right
    have hie : i = 17 := by omega
    subst hie
    refine ⟨u, ?_, fun ℓ => ?_⟩
    · rw [X7_marked_l5.eq_2, if_pos (by rw [nI_lti (by omega) (by omega)]; omega)]
    · rw [h2]
      exact ⟨fun z => z.2, fun z => ⟨by have := z.1; omega, z⟩⟩
theorem q_reads {gc gm : zG} (h : INV gc gm) (v : Int32) : Alike (X6_reads v gc) (X7_reads v gm) := by
  unfold X6_reads X7_reads
  rw [X7_anew_eq]
  rcases core_cases h v with ⟨a, b⟩ | ⟨S, W, PL, NC, rl, tr, len, so, wh, ix, c, hT, hc, hN, rfl, a, b⟩
  · rw [a, b, zc_some, zc_some, ite0, ite0]; exact no_alike h (by omega)
  · rw [a, b, zc_some, zc_some, ite1, ite1]
    obtain ⟨u, u1, u2⟩ := X0_marked_ok (byW := false) hT.1.1.1 hT.2.1.1 hT.2.1.2.1.1 hc
    obtain ⟨w, w1, w2⟩ := X7_marked_ok (f := 2) hT.1.2.1 hT.2.1.2.1.1 hc (by omega)
    have e : u = w := bits_eq (fun j => (u2 j).trans (w2 j).symm)
    subst e
    rw [zi_nI (show c < 4 by omega) (by omega), show (nI c).toNatClampNeg = c from nI_clamp (by omega), ← bI0, u1, w1, zc_some, zc_some]
    exact ok_alike h _
theorem q_writes {gc gm : zG} (h : INV gc gm) (v : Int32) : Alike (X6_writes v gc) (X7_writes v gm) := by
  unfold X6_writes X7_writes
  rw [X7_anew_eq]
  rcases core_cases h v with ⟨a, b⟩ | ⟨S, W, PL, NC, rl, tr, len, so, wh, ix, c, hT, hc, hN, rfl, a, b⟩
  · rw [a, b, zc_some, zc_some, ite0, ite0]; exact no_alike h (by omega)
  · rw [a, b, zc_some, zc_some, ite1, ite1]
    obtain ⟨u, u1, u2⟩ := X0_marked_ok (byW := true) hT.1.1.1 hT.2.1.1 hT.2.1.2.1.1 hc
    obtain ⟨w, w1, w2⟩ := X7_marked_ok (f := 3) hT.1.2.1 hT.2.1.2.1.1 hc (by omega)
    have e : u = w := bits_eq (fun j => (u2 j).trans (w2 j).symm)
    subst e
    rw [zi_nI (show c < 4 by omega) (by omega), show (nI c).toNatClampNeg = c from nI_clamp (by omega), ← bI1, u1, w1, zc_some, zc_some]
    exact ok_alike h _
