/-! ===== rounds, draws, tries ===== -/
theorem Jn.fr {S W PL NC rl r : Nat} {len : Nat → Nat} {so wh : Nat → Nat → Nat} {ix : Nat → Nat → Bool} {gc gm gm' : zG} (h : Jn S W PL NC rl r len so wh ix gc gm) (hf : FrS gm gm') (hr : gm' 43 0 = gm 43 0) : Jn S W PL NC rl r len so wh ix gc gm' := by
  obtain ⟨a, b, c, d⟩ := h
  refine ⟨a.fr (FrC.rfl' r gc) hf, ?_, ?_, ?_⟩
  · rw [hr]; exact b
  · rw [hr]; exact c
  · rw [hr]; exact d
theorem Jn.ended {S W PL NC rl r : Nat} {len : Nat → Nat} {so wh : Nat → Nat → Nat} {ix : Nat → Nat → Bool} {gc gm : zG} {v : Int32} (h : Jn S W PL NC rl r len so wh ix gc gm) : Jn S W PL NC rl r len so wh ix (zU gc 12003 r 0 v) gm := by
  obtain ⟨a, b, c, d⟩ := h
  exact ⟨a.fr ((FrC.rfl' r gc).u _ _ (by unfold ofRun; omega)) (fun _ _ _ _ _ _ => rfl), Sim_12003 a.1.1 b, c, d⟩
/-- one round -/
theorem jround {S W PL NC rl r : Nat} {len : Nat → Nat} {so wh : Nat → Nat → Nat} {ix : Nat → Nat → Bool} (K : Nat → Int32 → Int32 → Int32 → zG → zR0) (K' : Int32 → Int32 → Int32 → zG → zR0) (v1 v3 : Int32) {u : Nat} {gc gm : zG} (h : Jn S W PL NC rl r len so wh ix gc gm) :
    ∃ u' gc' gm', X3_takeRounds_l12 K zfuel r v1 (nI u) v3 (nI 0) gc = K r v1 (nI u') (v3 + nI 1) gc' ∧ X7_rounds_l46 K' zfuel v1 (nI u) v3 (nI 0) gm = K' v1 (nI u') (v3 + nI 1) gm' ∧ Jn S W PL NC rl r len so wh ix gc' gm' ∧ FrC r gc gc' ∧ FrS gm gm' := by
  obtain ⟨p1, p2, p3, p4, p5, p6, p7, p8⟩ := id h.1.1.1
  have cl : ∀ d i n (u : Nat) g gm, Jn S W PL NC rl r len so wh ix g gm → i + d = 4 → NC ≤ i → ∃ g', X3_takeRounds_l12 K (n + d + 1) r v1 (nI u) v3 (nI i) g = K r v1 (nI u) (v3 + nI 1) g' ∧ Jn S W PL NC rl r len so wh ix g' gm ∧ FrC r g g' := by
    intro d
    induction d with
    | zero =>
      intro i n u g gm hj e _
      exact ⟨g, by rw [X3_takeRounds_l12.eq_2, if_neg (by rw [nI_lti (by omega) (by omega)]; omega)], hj, FrC.rfl' r g⟩
    | succ d ih =>
      intro i n u g gm hj e hi
      obtain ⟨g', a1, a2, a3⟩ := ih (i + 1) n u (zU g 12003 r 0 (nI 0)) gm hj.ended (by omega) (by omega)
      refine ⟨g', ?_, a2, ((FrC.rfl' r g).u _ _ (by unfold ofRun; omega)).trans a3⟩
      rw [show n + (d + 1) + 1 = (n + d + 1) + 1 by omega, X3_takeRounds_l12.eq_2, if_pos (by rw [nI_lti (by omega) (by omega)]; omega), takeStep_out hj.1.1 hi (by omega), zc_some, if_pos (by decide)]
      unfold X3_takeRounds_b30
      rw [nI_add]; exact a1
  have both : ∀ d i n n' (u : Nat) gc gm, Jn S W PL NC rl r len so wh ix gc gm → i + d = NC → ∃ u' gc' gm', X3_takeRounds_l12 K (n + d + (4 - NC) + 1) r v1 (nI u) v3 (nI i) gc = K r v1 (nI u') (v3 + nI 1) gc' ∧ X7_rounds_l46 K' (n' + d + 1) v1 (nI u) v3 (nI i) gm = K' v1 (nI u') (v3 + nI 1) gm' ∧ Jn S W PL NC rl r len so wh ix gc' gm' ∧ FrC r gc gc' ∧ FrS gm gm' := by
    intro d
    induction d with
    | zero =>
      intro i n n' u gc gm hj e
      have e' : i = NC := by omega
      subst e'
      obtain ⟨g', a1, a2, a3⟩ := cl (4 - i) i n u gc gm hj (by omega) (by omega)
      refine ⟨u, g', gm, by rw [Nat.add_zero]; exact a1, ?_, a2, a3, FrS.rfl' gm⟩
      have q5 := hj.1.2.1.2.2.2.2
      rw [X7_rounds_l46.eq_2]
      simp (disch := omega) only [zc_some, zw_eq, zi_nI, nI_clamp, nI_add, nI_1, nI_lti, nI_inj, nI_ltz, nI_eq0, nI_0lt, nI_ne_m1, nI_ne_m2, nI_m1_ne, nI_m2_ne, if_true, if_false, zU_eq, zU_ne, Nat.add_zero, pk_mul, q5, Nat.lt_irrefl]
    | succ d ih =>
      intro i n n' u gc gm hj e
      have q5 := hj.1.2.1.2.2.2.2
      obtain ⟨how, gc1, gm1, s1, s2, s3, s4, s5, s6, -⟩ := jstep hj (show i < NC by omega)
      obtain ⟨u', gc', gm', a1, a2, a3, a4, a5⟩ := ih (i + 1) n n' (if how = 0 then u else u + 1) gc1 gm1 s4 (by omega)
      refine ⟨u', gc', gm', ?_, ?_, a3, s5.trans a4, s6.S.trans a5⟩
      · rw [show n + (d + 1) + (4 - NC) + 1 = (n + d + (4 - NC) + 1) + 1 by omega, X3_takeRounds_l12.eq_2, if_pos (by rw [nI_lti (by omega) (by omega)]; omega), s1, zc_some, iteH s3]
        unfold X3_takeRounds_b30
        rw [nI_add, nI_add, ← a1]
        by_cases z : how = 0
        · rw [if_pos z, if_pos z]
        · rw [if_neg z, if_neg z]
      · rw [show n' + (d + 1) + 1 = (n' + d + 1) + 1 by omega, X7_rounds_l46.eq_2, zi_nI (by omega) (by omega), show (nI 5).toNatClampNeg = 5 from nI_clamp (by omega), q5, if_pos (by rw [nI_lti (by omega) (by omega)]; omega), s2, zc_some, iteH s3]
        unfold X7_rounds_b72
        rw [nI_add, nI_add, nI_add, ← a2]
        by_cases z : how = 0
        · rw [if_pos z, if_pos z]; rfl
        · rw [if_neg z, if_neg z]
  obtain ⟨u', gc', gm', a1, a2, a3, a4, a5⟩ := both NC 0 (99999 - 4) (99999 - NC) u gc gm h (by omega)
  refine ⟨u', gc', gm', ?_, ?_, a3, a4, a5⟩
  · rw [show zfuel = 99999 - 4 + NC + (4 - NC) + 1 by have : zfuel = 100000 := rfl; omega]
    exact a1
  · rw [show zfuel = 99999 - NC + NC + 1 by have : zfuel = 100000 := rfl; omega]
    exact a2
theorem jrounds {S W PL NC rl r N : Nat} {len : Nat → Nat} {so wh : Nat → Nat → Nat} {ix : Nat → Nat → Bool} (hN : N ≤ 200) {gc gm : zG} (h : Jn S W PL NC rl r len so wh ix gc gm) :
    ∃ u gc' gm', X3_takeRounds r (nI N) gc = some (nI u, gc') ∧ X7_rounds_l38 zfuel (nI N) (nI 0) (nI 0) gm = some (nI u, gm') ∧ Jn S W PL NC rl r len so wh ix gc' gm' ∧ FrC r gc gc' ∧ FrS gm gm' := by
  have both : ∀ d i n n' (u : Nat) gc gm, Jn S W PL NC rl r len so wh ix gc gm → i + d = N → ∃ u' gc' gm', X3_takeRounds_l4 (n + d + 1) r (nI N) (nI u) (nI i) gc = some (nI u', gc') ∧ X7_rounds_l38 (n' + d + 1) (nI N) (nI u) (nI i) gm = some (nI u', gm') ∧ Jn S W PL NC rl r len so wh ix gc' gm' ∧ FrC r gc gc' ∧ FrS gm gm' := by
    intro d
    induction d with
    | zero =>
      intro i n n' u gc gm hj e
      exact ⟨u, gc, gm, by rw [X3_takeRounds_l4.eq_2, if_neg (by rw [nI_lti (by omega) (by omega)]; omega)], by rw [X7_rounds_l38.eq_2, if_neg (by rw [nI_lti (by omega) (by omega)]; omega)], hj, FrC.rfl' r gc, FrS.rfl' gm⟩
    | succ d ih =>
      intro i n n' u gc gm hj e
      obtain ⟨u1, gc1, gm1, s1, s2, s3, s4, s5⟩ := jround (X3_takeRounds_l4 (n + d + 1)) (X7_rounds_l38 (n' + d + 1)) (nI N) (nI i) (u := u) hj
      obtain ⟨u', gc', gm', a1, a2, a3, a4, a5⟩ := ih (i + 1) n n' u1 gc1 gm1 s3 (by omega)
      refine ⟨u', gc', gm', ?_, ?_, a3, s4.trans a4, s5.trans a5⟩
      · rw [show n + (d + 1) + 1 = (n + d + 1) + 1 by omega, X3_takeRounds_l4.eq_2, if_pos (by rw [nI_lti (by omega) (by omega)]; omega), s1, nI_add]
        exact a1
      · rw [show n' + (d + 1) + 1 = (n' + d + 1) + 1 by omega, X7_rounds_l38.eq_2, if_pos (by rw [nI_lti (by omega) (by omega)]; omega), s2, nI_add]
        exact a2
  obtain ⟨u', gc', gm', a1, a2, a3⟩ := both N 0 (99999 - N) (99999 - N) 0 gc gm h (by omega)
  refine ⟨u', gc', gm', ?_, ?_, a3⟩
  · unfold X3_takeRounds
    rw [show zfuel = 99999 - N + N + 1 by have : zfuel = 100000 := rfl; omega]
    exact a1
  · rw [show zfuel = 99999 - N + N + 1 by have : zfuel = 100000 := rfl; omega]
    exact a2
/-! draws -/
def nxt (s : Nat) : Nat := (25173 * s + 13849) % 65536
theorem nxt_lt (s : Nat) : nxt s < 65536 := Nat.mod_lt _ (by omega)
theorem nxt_I {s : Nat} (hs : s < 65536) : nI 25173 * nI s + nI 13849 - (nI 25173 * nI s + nI 13849) / nI 65536 * nI 65536 = nI (nxt s) := by
  rw [pk_mul, nI_add, pk_rem (by omega) (by omega) (by omega)]; rfl
theorem X7_drawn_ok {S W PL NC s : Nat} {g : zG} (hP : MPar S W PL NC g) (hs : s < 65536) (he : g 42007 0 0 = nI s) : X7_drawn g = some (nI (nxt s / 256 % NC), zU g 42007 0 0 (nI (nxt s))) := by
  obtain ⟨⟨p1, p2, p3, p4, p5, p6, p7, p8⟩, q1, q2, q3, q4⟩ := hP
  have hn := nxt_lt s
  unfold X7_drawn
  rw [he, nxt_I hs, zw_eq, zi_nI (by omega) (by omega), show (nI 5).toNatClampNeg = 5 from nI_clamp (by omega), zU_ne _ _ (by omega), q4, if_neg (by rw [nI_eq0 (by omega)]; omega), zU_self, pk_div (by omega) (by omega) (by omega), pk_rem (by omega) p7 (by omega)]
theorem Jn.seed {S W PL NC rl r : Nat} {len : Nat → Nat} {so wh : Nat → Nat → Nat} {ix : Nat → Nat → Bool} {gc gm : zG} {v : Int32} (h : Jn S W PL NC rl r len so wh ix gc gm) : Jn S W PL NC rl r len so wh ix gc (zU gm 42007 0 0 v) :=
  h.fr (fun f i j _ _ z => zU_ne _ _ (by omega)) (zU_row' _ _ _ _ _ (by decide))
theorem FrS.seed {a b : zG} (h : FrS a b) (v : Int32) : FrS a (zU b 42007 0 0 v) := fun f i j x y z => by
  rw [zU_ne _ _ (by omega)]; exact h f i j x y z
/-- one step of the class' draws -/
theorem X3_draw1 {S W PL NC rl r N i s : Nat} {v3 : Int32} {len : Nat → Nat} {so wh : Nat → Nat → Nat} {ix : Nat → Nat → Bool} {gc gm : zG} (h : Jn S W PL NC rl r len so wh ix gc gm) (hN : N ≤ 2000) (hi : i < N) (hs : s < 65536) (n : Nat) {d : Bool} (hd : X3_isAllDone r gc = some (bI d, gc)) :
    X3_takeDraws_l8 (n + 1) r (nI N) v3 (nI s) (nI i) gc = if d = true then some (v3, gc) else zc (X3_takeStep r (nI (nxt s / 256 % NC)) gc) (fun x4 g5 => if x4 = 0 then X3_takeDraws_l8 n r (nI N) v3 (nI (nxt s)) (nI (i + 1)) g5 else X3_takeDraws_l8 n r (nI N) (v3 + nI 1) (nI (nxt s)) (nI (i + 1)) g5) := by
  obtain ⟨⟨p1, p2, p3, p4, p5, p6, p7, p8⟩, q1, q2, q3, q4⟩ := h.1.1
  have hn := nxt_lt s
  rw [X3_takeDraws_l8.eq_2, if_pos (by rw [nI_lti (by omega) (by omega)]; exact hi), q4, if_pos (by rw [nI_0lt (by omega)]; exact p7), hd, zc_some, iteB]
  cases d with
  | true => rw [if_pos rfl, if_pos rfl]
  | false =>
    simp only [Bool.false_eq_true, if_false]
    rw [q4, if_neg (by rw [nI_eq0 (by omega)]; omega), nxt_I hs, pk_div (by omega) (by omega) (by omega), pk_rem (by omega) p7 (by omega)]
    unfold X3_takeDraws_b70
    rw [nI_add]
theorem X7_draw1 {N i : Nat} {v3 : Int32} {g : zG} (hN : N ≤ 2000) (hi : i < N) (n : Nat) : X7_draws_l51 (n + 1) (nI N) v3 (nI i) g = zc (X7_drawn g) (fun x1 g2 => zc (X7_steps x1 g2) (fun x4 g5 => if x4 = 0 then X7_draws_l51 n (nI N) (v3 + nI 0) (nI (i + 1)) g5 else X7_draws_l51 n (nI N) (v3 + nI 1) (nI (i + 1)) g5)) := by
  rw [X7_draws_l51.eq_2, if_pos (by rw [nI_lti (by omega) (by omega)]; exact hi)]
  unfold X7_draws_b74
  rw [nI_add]
/-- all are through: the reference draws on, for nothing -/
theorem X7_drawRest {S W PL NC rl r N : Nat} {u : Nat} {len : Nat → Nat} {so wh : Nat → Nat → Nat} {ix : Nat → Nat → Bool} {gc : zG} (hN : N ≤ 2000) : ∀ d i n s gm, Jn S W PL NC rl r len so wh ix gc gm → s < 65536 → gm 42007 0 0 = nI s → (∀ c, c < NC → ∃ k, gm 43 0 (cat c 0) = nI k ∧ k ≤ 24 ∧ len c ≤ k) → i + d = N → ∃ gm', X7_draws_l51 (n + d + 1) (nI N) (nI u) (nI i) gm = some (nI u, gm') ∧ Jn S W PL NC rl r len so wh ix gc gm' ∧ FrS gm gm' := by
  intro d
  induction d with
  | zero =>
    intro i n s gm hj _ _ _ e
    exact ⟨gm, by rw [X7_draws_l51.eq_2, if_neg (by rw [nI_lti (by omega) (by omega)]; omega)], hj, FrS.rfl' gm⟩
  | succ d ih =>
    intro i n s gm hj hs he hall e
    have hn := nxt_lt s
    have p7 := hj.1.1.1.2.2.2.2.2.2.1
    have hc : nxt s / 256 % NC < NC := Nat.mod_lt _ p7
    have hj1 := hj.seed (v := nI (nxt s))
    obtain ⟨k, k1, k2, k3⟩ := hall _ hc
    obtain ⟨gm1, s1, s2, s3⟩ := jstep0 hj1 hc (by rw [zU_ne _ _ (by omega)]; exact k1) k2 k3
    have e1 : gm1 43 0 = gm 43 0 := by rw [s2, zU_row' _ _ _ _ _ (by decide)]
    have hj2 : Jn S W PL NC rl r len so wh ix gc gm1 := hj1.fr s3.S s2
    obtain ⟨gm', a1, a2, a3⟩ := ih (i + 1) n (nxt s) gm1 hj2 hn (by rw [s3 _ _ _ (by decide) (by decide), zU_self]) (by rw [e1]; exact hall) (by omega)
    refine ⟨gm', ?_, a2, (((FrS.rfl' gm).seed _).trans s3.S).trans a3⟩
    rw [show n + (d + 1) + 1 = (n + d + 1) + 1 by omega, X7_draw1 hN (by omega), X7_drawn_ok hj.1.2.1 hs he, zc_some, s1, zc_some, if_pos (by decide), nI_add, Nat.add_zero]
    exact a1
theorem jdraws {S W PL NC rl r N s : Nat} {len : Nat → Nat} {so wh : Nat → Nat → Nat} {ix : Nat → Nat → Bool} (hN : N ≤ 2000) {gc gm : zG} (h : Jn S W PL NC rl r len so wh ix gc gm) (hs : s < 65536) (he : gm 42007 0 0 = nI s) :
    ∃ u gc' gm', X3_takeDraws r (nI N) (nI s) gc = some (nI u, gc') ∧ X7_draws_l51 zfuel (nI N) (nI 0) (nI 0) gm = some (nI u, gm') ∧ Jn S W PL NC rl r len so wh ix gc' gm' ∧ FrC r gc gc' ∧ FrS gm gm' := by
  have both : ∀ d i n n' (u s : Nat) gc gm, Jn S W PL NC rl r len so wh ix gc gm → s < 65536 → gm 42007 0 0 = nI s → i + d = N → ∃ u' gc' gm', X3_takeDraws_l8 (n + d + 1) r (nI N) (nI u) (nI s) (nI i) gc = some (nI u', gc') ∧ X7_draws_l51 (n' + d + 1) (nI N) (nI u) (nI i) gm = some (nI u', gm') ∧ Jn S W PL NC rl r len so wh ix gc' gm' ∧ FrC r gc gc' ∧ FrS gm gm' := by
    intro d
    induction d with
    | zero =>
      intro i n n' u s gc gm hj hs he e
      exact ⟨u, gc, gm, by rw [X3_takeDraws_l8.eq_2, if_neg (by rw [nI_lti (by omega) (by omega)]; omega)], by rw [X7_draws_l51.eq_2, if_neg (by rw [nI_lti (by omega) (by omega)]; omega)], hj, FrC.rfl' r gc, FrS.rfl' gm⟩
    | succ d ih =>
      intro i n n' u s gc gm hj hs he e
      have hn := nxt_lt s
      have p7 := hj.1.1.1.2.2.2.2.2.2.1
      have hc : nxt s / 256 % NC < NC := Nat.mod_lt _ p7
      obtain ⟨a, d1, d2, d3⟩ := jall hj
      have r1 := X3_draw1 (v3 := nI u) hj hN (show i < N by omega) hs (n + d + 1) d1
      rw [show n + d + 1 + 1 = n + (d + 1) + 1 by omega] at r1
      rw [r1]
      cases a with
      | true =>
        obtain ⟨gm', a1, a2, a3⟩ := X7_drawRest (u := u) hN (d + 1) i n' s gm hj hs he (d3 rfl) e
        exact ⟨u, gc, gm', by rw [if_pos rfl], a1, a2, FrC.rfl' r gc, a3⟩
      | false =>
        rw [if_neg (by decide)]
        obtain ⟨how, gc1, gm1, s1, s2, s3, s4, s5, s6, -⟩ := jstep (hj.seed (v := nI (nxt s))) hc
        obtain ⟨u', gc', gm', a1, a2, a3, a4, a5⟩ := ih (i + 1) n n' (if how = 0 then u else u + 1) (nxt s) gc1 gm1 s4 hn (by rw [s6 _ _ _ (by decide) (by decide), zU_self]) (by omega)
        refine ⟨u', gc', gm', ?_, ?_, a3, s5.trans a4, (((FrS.rfl' gm).seed _).trans s6.S).trans a5⟩
        · rw [s1, zc_some, iteH s3, nI_add, ← a1]
          by_cases z : how = 0
          · rw [if_pos z, if_pos z]
          · rw [if_neg z, if_neg z]
        · rw [show n' + (d + 1) + 1 = (n' + d + 1) + 1 by omega, X7_draw1 hN (by omega), X7_drawn_ok hj.1.2.1 hs he, zc_some, s2, zc_some, iteH s3, nI_add, nI_add, ← a2]
          by_cases z : how = 0
          · rw [if_pos z, if_pos z]; rfl
          · rw [if_neg z, if_neg z]
  obtain ⟨u', gc', gm', a1, a2, a3⟩ := both N 0 (99999 - N) (99999 - N) 0 s gc gm h hs he (by omega)
  refine ⟨u', gc', gm', ?_, ?_, a3⟩
  · unfold X3_takeDraws
    rw [show zfuel = 99999 - N + N + 1 by have : zfuel = 100000 := rfl; omega]
    exact a1
  · rw [show zfuel = 99999 - N + N + 1 by have : zfuel = 100000 := rfl; omega]
    exact a2
theorem jtries {S W PL NC rl r s : Nat} {len : Nat → Nat} {so wh : Nat → Nat → Nat} {ix : Nat → Nat → Bool} {gc gm : zG} (h : Jn S W PL NC rl r len so wh ix gc gm) (hs : s < 65536) (he : gm 42007 0 0 = nI s) :
    ∃ x gc' gm', X3_takeDraws r (nI 2000) (nI s) gc = some (x, gc') ∧ X7_tries_l26 zfuel (nI 0) gm = some (0, gm') ∧ Jn S W PL NC rl r len so wh ix gc' gm' ∧ FrC r gc gc' ∧ FrS gm gm' ∧ (∀ t, gm 43 0 0 = nI t → ∃ t', t' ≤ t + 2000 ∧ gm' 43 0 0 = nI t') := by
  have both : ∀ d i n n' (u s : Nat) gc gm, Jn S W PL NC rl r len so wh ix gc gm → s < 65536 → gm 42007 0 0 = nI s → i + d = 2000 → ∃ x gc' gm', X3_takeDraws_l8 (n + d + 1) r (nI 2000) (nI u) (nI s) (nI i) gc = some (x, gc') ∧ X7_tries_l26 (n' + d + 1) (nI i) gm = some (0, gm') ∧ Jn S W PL NC rl r len so wh ix gc' gm' ∧ FrC r gc gc' ∧ FrS gm gm' ∧ (∀ t, gm 43 0 0 = nI t → ∃ t', t' ≤ t + d ∧ gm' 43 0 0 = nI t') := by
    intro d
    induction d with
    | zero =>
      intro i n n' u s gc gm hj hs he e
      exact ⟨nI u, gc, gm, by rw [X3_takeDraws_l8.eq_2, if_neg (by rw [nI_lti (by omega) (by omega)]; omega)], by rw [X7_tries_l26.eq_2, if_neg (by rw [nI_lti (by omega) (by omega)]; omega)], hj, FrC.rfl' r gc, FrS.rfl' gm, fun t ht => ⟨t, by omega, ht⟩⟩
    | succ d ih =>
      intro i n n' u s gc gm hj hs he e
      have hn := nxt_lt s
      have p7 := hj.1.1.1.2.2.2.2.2.2.1
      have hc : nxt s / 256 % NC < NC := Nat.mod_lt _ p7
      obtain ⟨a, d1, d2, d3⟩ := jall hj
      have r1 := X3_draw1 (N := 2000) (v3 := nI u) hj (Nat.le_refl _) (show i < 2000 by omega) hs (n + d + 1) d1
      rw [show n + d + 1 + 1 = n + (d + 1) + 1 by omega] at r1
      rw [r1]
      have r2 : X7_tries_l26 (n' + (d + 1) + 1) (nI i) gm = if a = true then some (0, gm) else zc (X7_drawn gm) (fun x4 g5 => zc (X7_steps x4 g5) (fun x7 g8 => X7_tries_l26 (n' + d + 1) (nI (i + 1)) g8)) := by
        rw [show n' + (d + 1) + 1 = (n' + d + 1) + 1 by omega, X7_tries_l26.eq_2, if_pos (by rw [nI_lti (by omega) (by omega)]; omega), d2, zc_some, iteB, nI_add]
        cases a with
        | true => rw [if_neg (by decide), if_pos rfl]
        | false => rw [if_pos (by decide), if_neg (by decide)]
      rw [r2]
      cases a with
      | true => exact ⟨nI u, gc, gm, by rw [if_pos rfl], by rw [if_pos rfl], hj, FrC.rfl' r gc, FrS.rfl' gm, fun t ht => ⟨t, by omega, ht⟩⟩
      | false =>
        rw [if_neg (by decide), if_neg (by decide)]
        obtain ⟨how, gc1, gm1, s1, s2, s3, s4, s5, s6, -, s8⟩ := jstep (hj.seed (v := nI (nxt s))) hc
        obtain ⟨x, gc', gm', a1, a2, a3, a4, a5, a6⟩ := ih (i + 1) n n' (if how = 0 then u else u + 1) (nxt s) gc1 gm1 s4 hn (by rw [s6 _ _ _ (by decide) (by decide), zU_self]) (by omega)
        refine ⟨x, gc', gm', ?_, ?_, a3, s5.trans a4, (((FrS.rfl' gm).seed _).trans s6.S).trans a5, fun t ht => ?_⟩
        · rw [s1, zc_some, iteH s3, nI_add, ← a1]
          by_cases z : how = 0
          · rw [if_pos z, if_pos z]
          · rw [if_neg z, if_neg z]
        · rw [X7_drawn_ok hj.1.2.1 hs he, zc_some, s2, zc_some]
          exact a2
        · rw [zU_ne _ _ (by omega)] at s8
          rcases s8 with z | z
          · obtain ⟨t', t1, t2⟩ := a6 t (z.trans ht)
            exact ⟨t', by omega, t2⟩
          · obtain ⟨t', t1, t2⟩ := a6 (t + 1) (by rw [z, ht, nI_add])
            exact ⟨t', by omega, t2⟩
  obtain ⟨x, gc', gm', a1, a2, a3⟩ := both 2000 0 97999 97999 0 s gc gm h hs he (by omega)
  exact ⟨x, gc', gm', a1, a2, a3⟩
