/-! ===== a deed, a step of the reference ===== -/
theorem nI_subm {a b : Nat} (h : b ≤ a + 1000) : nI a + -(nI b) + nI 1000 = nI (a + 1000 - b) := by
  have e : nI (a + 1000 - b) + nI b = nI a + nI 1000 := by
    rw [nI_add, nI_add]
    congr 1
    omega
  generalize nI (a + 1000 - b) = x at *
  generalize nI a = y at *
  generalize nI b = z at *
  generalize nI 1000 = u at *
  grind
theorem LOK_upd {S W NC : Nat} {m : Rw} {i : Nat} {v : Int32} (hi : i < 318) (h : LOK S W NC m) : LOK S W NC (upd m i v) := fun c s w h1 h2 h3 => by
  rw [upd_ne (by have := pos_ge c s w; omega)]
  exact h c s w h1 h2 h3
theorem NoMk_upd {S W c : Nat} {m : Rw} {i : Nat} {v : Int32} (hi : i < 318) (h : NoMk S W c m) : NoMk S W c (upd m i v) := fun s w h1 h2 => by
  rw [upd_ne (by have := pos_ge c s w; omega), upd_ne (by have := pos_ge c s w; omega)]
  exact h s w h1 h2
/-- the lock's line is not written in a try -/
def LkOK (S W NC : Nat) (m : Rw) : Prop := ∀ o w, o < NC → w < W → m (pos o (16 % S) w) = nI 16 → m (pos o (16 % S) w + 3) ≠ nI 1
theorem LkOK_upd {S W NC : Nat} {m : Rw} {i : Nat} {v : Int32} (hi : i < 318) (h : LkOK S W NC m) : LkOK S W NC (upd m i v) := fun o w h1 h2 => by
  rw [upd_ne (by have := pos_ge o (16 % S) w; omega), upd_ne (by have := pos_ge o (16 % S) w; omega)]
  exact h o w h1 h2
/-- a deed: 0 begin, 1 end, 2 index, 3 get, 4 put, 5 add, 6 sub -/
def DoesR (S W PL NC rule : Nat) (tries : Int32) (c so wh : Nat) (ix : Bool) (m : Rw) (how r : Nat) (m' : Rw) : Prop :=
  (so = 0 ∧ BgnR S W PL NC tries c m how r m') ∨
  (so = 1 ∧ how = 1 ∧ r = 0 ∧ ∃ n m1, m 4 = nI n ∧ n < 48 ∧ CmR S W c S 0 m m1 ∧ m' = rCmt c n m1) ∨
  (so = 2 ∧ how = 1 ∧ r = 0 ∧ m' = upd m (cat c 2) (m (cat c 1))) ∨
  ((so = 3 ∨ so = 4) ∧ ∃ xx, m (cat c 2) = nI xx ∧ xx < 1000 ∧ TchR S W PL NC rule tries c (aOf PL wh xx ix) (so == 4) m how r m') ∨
  (so = 5 ∧ how = 1 ∧ r = 0 ∧ ∃ a, a < 1000 ∧ m (cat c 1) = nI a ∧ m' = upd m (cat c 1) (nI ((a + wh) % 1000))) ∨
  (so = 6 ∧ how = 1 ∧ r = 0 ∧ ∃ a, a < 1000 ∧ m (cat c 1) = nI a ∧ m' = upd m (cat c 1) (nI ((a + 1000 - wh) % 1000)))
theorem X7_does_ok {S W PL NC : Nat} {g : zG} (hP : MPar S W PL NC g) {c d so wh rule : Nat} {ix : Bool} (hc : c < NC) (hd : d < 96) (hso : g 37 0 d = nI so) (hs6 : so ≤ 6) (hwh : 3 ≤ so → g 39 0 d = nI wh ∧ wh < 1000 ∧ g 41 0 d = bI ix) (hr : g 35007 0 0 = nI rule) (hr2 : rule ≤ 2) (hL : LOK S W NC (g 43 0)) (hLk : LkOK S W NC (g 43 0)) (hNM : so = 0 → NoMk S W c (g 43 0)) (hn : so = 1 → ∃ n, n < 48 ∧ g 43 0 4 = nI n) (ha : ∃ a, a < 1000 ∧ g 43 0 (cat c 1) = nI a) (hx : ∃ xx, xx < 1000 ∧ g 43 0 (cat c 2) = nI xx) {e0 : Nat} (he0 : e0 < 16) (hE : g 38007 0 0 = nI e0) :
    ∃ g' how r, X7_does (nI c) (nI d) g = some (nI how, g') ∧ DoesR S W PL NC rule (g 36007 0 0) c so wh ix (g 43 0) how r (g' 43 0) ∧ FrM g g' ∧ EndE e0 r (g' 38007 0 0) ∧ 1 ≤ how ∧ how ≤ 3 := by
  obtain ⟨⟨p1, p2, p3, p4, p5, p6, p7, p8⟩, q1, q2, q3, q4⟩ := id hP
  have hc4 : c < 4 := by omega
  have hb1 := cat_lt hc4 (show 1 < 14 by omega)
  have hb2 := cat_lt hc4 (show 2 < 14 by omega)
  have same : EndE e0 0 (g 38007 0 0) := ⟨e0, he0, hE, fun j _ => by simp⟩
  have row : ∀ j v, EndE e0 0 (zU g 43 0 j v 38007 0 0) := fun j v => by
    rw [zU_ne _ _ (by omega)]; exact same
  obtain ⟨a, hal, ha⟩ := ha
  obtain ⟨xx, hxl, hx⟩ := hx
  have hcs : so = 0 ∨ so = 1 ∨ so = 2 ∨ so = 3 ∨ so = 4 ∨ so = 5 ∨ so = 6 := by omega
  unfold X7_does
  rcases hcs with rfl | rfl | rfl | rfl | rfl | rfl | rfl
  · obtain ⟨g', how, r, k1, k2, k3, k4, k5, k6⟩ := X7_begin_ok hP hc hr hr2 hL (hNM rfl) hLk he0 hE
    refine ⟨g', how, r, ?_, Or.inl ⟨rfl, k2⟩, k3, k4, k5, k6⟩
    simp (disch := omega) only [zc_some, zw_eq, zi_nI, nI_clamp, nI_add, nI_1, nI_lti, nI_inj, nI_ltz, nI_eq0, nI_0lt, nI_ne_m1, nI_ne_m2, nI_m1_ne, nI_m2_ne, if_true, if_false, zU_eq, zU_ne, Nat.add_zero, pk_mul, hso]
    rw [k1, zc_some]
  · obtain ⟨n, hn1, hn2⟩ := hn rfl
    obtain ⟨g', m1, k1, k2, k3, k4⟩ := X7_commits_ok hP hc4 hn1 hn2
    refine ⟨g', 1, 0, ?_, Or.inr (Or.inl ⟨rfl, rfl, rfl, n, m1, hn2, hn1, k2, k3⟩), k4.M, by rw [k4 _ _ _ (by decide)]; exact same, by omega, by omega⟩
    simp (disch := omega) only [zc_some, zw_eq, zi_nI, nI_clamp, nI_add, nI_1, nI_lti, nI_inj, nI_ltz, nI_eq0, nI_0lt, nI_ne_m1, nI_ne_m2, nI_m1_ne, nI_m2_ne, if_true, if_false, zU_eq, zU_ne, Nat.add_zero, pk_mul, hso, show ¬ (1 = 0) by omega]
    rw [k1, zc_some]
  · refine ⟨zU g 43 0 (cat c 2) (g 43 0 (cat c 1)), 1, 0, ?_, Or.inr (Or.inr (Or.inl ⟨rfl, rfl, rfl, by rw [zU_row]⟩)), ((FrN.rfl' g).row _ _).M, row _ _, by omega, by omega⟩
    simp (disch := omega) only [zc_some, zw_eq, zi_nI, nI_clamp, nI_add, nI_1, nI_lti, nI_inj, nI_ltz, nI_eq0, nI_0lt, nI_ne_m1, nI_ne_m2, nI_m1_ne, nI_m2_ne, if_true, if_false, zU_eq, zU_ne, Nat.add_zero, pk_mul, hso, show ¬ (2 = 0) by omega, show ¬ (2 = 1) by omega]
    rw [X7_coreAt_ok, zc_some, X7_coreAt_ok, zc_some]
    simp (disch := omega) only [zc_some, zw_eq, zi_nI, nI_clamp, nI_add, nI_1, nI_lti, nI_inj, nI_ltz, nI_eq0, nI_0lt, nI_ne_m1, nI_ne_m2, nI_m1_ne, nI_m2_ne, if_true, if_false, zU_eq, zU_ne, Nat.add_zero, pk_mul]
  · obtain ⟨hwh, hwl, hix⟩ := hwh (by omega)
    obtain ⟨g', how, r, k1, k2, k3, k4, k5, k6⟩ := X7_touches_ok hP hc hd false ix hso hwh hwl hix hx hxl hr hr2 hL he0 hE
    refine ⟨g', how, r, ?_, Or.inr (Or.inr (Or.inr (Or.inl ⟨Or.inl rfl, xx, hx, hxl, k2⟩))), k3, k4, k5, k6⟩
    simp (disch := omega) only [zc_some, zw_eq, zi_nI, nI_clamp, nI_add, nI_1, nI_lti, nI_inj, nI_ltz, nI_eq0, nI_0lt, nI_ne_m1, nI_ne_m2, nI_m1_ne, nI_m2_ne, if_true, if_false, zU_eq, zU_ne, Nat.add_zero, pk_mul, hso, show ¬ (3 = 0) by omega, show ¬ (3 = 1) by omega, show ¬ (3 = 2) by omega]
    rw [k1, zc_some]
  · obtain ⟨hwh, hwl, hix⟩ := hwh (by omega)
    obtain ⟨g', how, r, k1, k2, k3, k4, k5, k6⟩ := X7_touches_ok hP hc hd true ix hso hwh hwl hix hx hxl hr hr2 hL he0 hE
    refine ⟨g', how, r, ?_, Or.inr (Or.inr (Or.inr (Or.inl ⟨Or.inr rfl, xx, hx, hxl, k2⟩))), k3, k4, k5, k6⟩
    simp (disch := omega) only [zc_some, zw_eq, zi_nI, nI_clamp, nI_add, nI_1, nI_lti, nI_inj, nI_ltz, nI_eq0, nI_0lt, nI_ne_m1, nI_ne_m2, nI_m1_ne, nI_m2_ne, if_true, if_false, zU_eq, zU_ne, Nat.add_zero, pk_mul, hso, show ¬ (4 = 0) by omega, show ¬ (4 = 1) by omega, show ¬ (4 = 2) by omega, show ¬ (4 = 3) by omega]
    rw [k1, zc_some]
  · obtain ⟨hwh, hwl, hix⟩ := hwh (by omega)
    refine ⟨zU g 43 0 (cat c 1) (nI ((a + wh) % 1000)), 1, 0, ?_, Or.inr (Or.inr (Or.inr (Or.inr (Or.inl ⟨rfl, rfl, rfl, a, hal, ha, by rw [zU_row]⟩)))), ((FrN.rfl' g).row _ _).M, row _ _, by omega, by omega⟩
    simp (disch := omega) only [zc_some, zw_eq, zi_nI, nI_clamp, nI_add, nI_1, nI_lti, nI_inj, nI_ltz, nI_eq0, nI_0lt, nI_ne_m1, nI_ne_m2, nI_m1_ne, nI_m2_ne, if_true, if_false, zU_eq, zU_ne, Nat.add_zero, pk_mul, hso, show ¬ (5 = 0) by omega, show ¬ (5 = 1) by omega, show ¬ (5 = 2) by omega, show ¬ (5 = 3) by omega, show ¬ (5 = 4) by omega, X7_coreAt_ok, ha, hwh, X7_plus, pk_rem, Nat.add_mod_right]
  · obtain ⟨hwh, hwl, hix⟩ := hwh (by omega)
    refine ⟨zU g 43 0 (cat c 1) (nI ((a + 1000 - wh) % 1000)), 1, 0, ?_, Or.inr (Or.inr (Or.inr (Or.inr (Or.inr ⟨rfl, rfl, rfl, a, hal, ha, by rw [zU_row]⟩)))), ((FrN.rfl' g).row _ _).M, row _ _, by omega, by omega⟩
    simp (disch := omega) only [zc_some, zw_eq, zi_nI, nI_clamp, nI_add, nI_1, nI_lti, nI_inj, nI_ltz, nI_eq0, nI_0lt, nI_ne_m1, nI_ne_m2, nI_m1_ne, nI_m2_ne, if_true, if_false, zU_eq, zU_ne, Nat.add_zero, pk_mul, hso, show ¬ (6 = 0) by omega, show ¬ (6 = 1) by omega, show ¬ (6 = 2) by omega, show ¬ (6 = 3) by omega, show ¬ (6 = 4) by omega, show ¬ (6 = 5) by omega, X7_coreAt_ok, ha, hwh, X7_plus, nI_subm, pk_rem]
/-- a step of a core: nothing left, or its next deed -/
def StepR (S W PL NC rule : Nat) (tries : Int32) (len : Nat) (so wh : Nat → Nat) (ix : Nat → Bool) (c : Nat) (m : Rw) (how r : Nat) (m' : Rw) : Prop :=
  ∃ k, k ≤ 24 ∧ m (cat c 0) = nI k ∧ ((len ≤ k ∧ how = 0 ∧ r = 0 ∧ m' = m) ∨
    (k < len ∧ 1 ≤ how ∧ ∃ m1, DoesR S W PL NC rule tries c (so k) (wh k) (ix k) (upd m 0 (m 0 + nI 1)) how r m1 ∧ m' = if how = 1 then upd m1 (cat c 0) (m1 (cat c 0) + nI 1) else m1))
theorem X7_steps_ok {S W PL NC : Nat} {g : zG} (hP : MPar S W PL NC g) {c k len rule : Nat} {so wh : Nat → Nat} {ix : Nat → Bool} (hc : c < NC) (hk : g 43 0 (cat c 0) = nI k) (hkl : k ≤ 24) (hlen : g 35 0 c = nI len) (hl24 : len ≤ 24) (hso : ∀ j, j < len → g 37 0 (24 * c + j) = nI (so j) ∧ so j ≤ 6 ∧ (3 ≤ so j → g 39 0 (24 * c + j) = nI (wh j) ∧ wh j < 1000 ∧ g 41 0 (24 * c + j) = bI (ix j))) (hr : g 35007 0 0 = nI rule) (hr2 : rule ≤ 2) (hL : LOK S W NC (g 43 0)) (hLk : LkOK S W NC (g 43 0)) (hNM : k < len → so k = 0 → NoMk S W c (g 43 0)) (hn : k < len → so k = 1 → ∃ n, n < 48 ∧ g 43 0 4 = nI n) (ha : ∃ a, a < 1000 ∧ g 43 0 (cat c 1) = nI a) (hx : ∃ xx, xx < 1000 ∧ g 43 0 (cat c 2) = nI xx) :
    ∃ g' how r, X7_steps (nI c) g = some (nI how, g') ∧ StepR S W PL NC rule (g 36007 0 0) len so wh ix c (g 43 0) how r (g' 43 0) ∧ FrM g g' ∧ EndE 0 r (g' 38007 0 0) ∧ how ≤ 3 := by
  obtain ⟨⟨p1, p2, p3, p4, p5, p6, p7, p8⟩, q1, q2, q3, q4⟩ := id hP
  have hc4 : c < 4 := by omega
  have hb0 := cat_lt hc4 (show 0 < 14 by omega)
  have hb1 := cat_lt hc4 (show 1 < 14 by omega)
  have hb2 := cat_lt hc4 (show 2 < 14 by omega)
  have g0 := (show cat c 0 = 6 + 14 * c + 0 from rfl)
  have g1 := (show cat c 1 = 6 + 14 * c + 1 from rfl)
  have g2 := (show cat c 2 = 6 + 14 * c + 2 from rfl)
  unfold X7_steps X7_hasLeft
  by_cases e : k < len
  · simp (disch := omega) only [zc_some, zw_eq, zi_nI, nI_clamp, nI_add, nI_1, nI_lti, nI_inj, nI_ltz, nI_eq0, nI_0lt, nI_ne_m1, nI_ne_m2, nI_m1_ne, nI_m2_ne, if_true, if_false, zU_eq, zU_ne, Nat.add_zero, pk_mul, X7_coreAt_ok, hk, hlen, e, show ¬ (1 = 0) by omega]
    have hP1 : MPar S W PL NC (zU (zU g 38007 0 0 (nI 0)) 43 0 0 (g 43 0 0 + nI 1)) := hP.fr (((FrM.rfl' g).end' _).row _ _)
    have er : (zU (zU g 38007 0 0 (nI 0)) 43 0 0 (g 43 0 0 + nI 1)) 43 0 = upd (g 43 0) 0 (g 43 0 0 + nI 1) := by
      rw [zU_row, zU_row' _ _ _ _ _ (by decide)]
    obtain ⟨o1, o2, o3⟩ := hso k e
    obtain ⟨g', how, r, k1, k2, k3, k4, k5, k6⟩ := X7_does_ok hP1 (c := c) (d := 24 * c + k) (so := so k) (wh := wh k) (rule := rule) (ix := ix k) hc (by omega)
      (by rw [zU_ne _ _ (by omega), zU_ne _ _ (by omega)]; exact o1) o2 (by rw [zU_ne _ _ (by omega), zU_ne _ _ (by omega), zU_ne _ _ (by omega), zU_ne _ _ (by omega)]; exact o3) (by rw [zU_ne _ _ (by omega), zU_ne _ _ (by omega)]; exact hr) hr2
      (by rw [er]; exact LOK_upd (by omega) hL) (by rw [er]; exact LkOK_upd (by omega) hLk) (fun z => by rw [er]; exact NoMk_upd (by omega) (hNM e z)) (fun z => by rw [er, upd_ne (by omega)]; exact hn e z) (by rw [er, upd_ne (by omega)]; exact ha) (by rw [er, upd_ne (by omega)]; exact hx) (e0 := 0) (by omega) (by rw [zU_ne _ _ (by omega), zU_self])
    have f1 : FrM g g' := (((FrM.rfl' g).end' _).row _ _).trans k3
    have f2 : (zU (zU g 38007 0 0 (nI 0)) 43 0 0 (g 43 0 0 + nI 1)) 36007 0 0 = g 36007 0 0 := by rw [zU_ne _ _ (by omega), zU_ne _ _ (by omega)]
    rw [er, f2] at k2
    rw [k1, zc_some]
    by_cases e1 : how = 1
    · refine ⟨zU g' 43 0 (cat c 0) (g' 43 0 (cat c 0) + nI 1), how, r, ?_, ⟨k, hkl, hk, Or.inr ⟨e, k5, g' 43 0, k2, ?_⟩⟩, f1.row _ _, ?_, k6⟩
      · simp (disch := omega) only [zc_some, zw_eq, zi_nI, nI_clamp, nI_add, nI_1, nI_lti, nI_inj, nI_ltz, nI_eq0, nI_0lt, nI_ne_m1, nI_ne_m2, nI_m1_ne, nI_m2_ne, if_true, if_false, zU_eq, zU_ne, Nat.add_zero, pk_mul, e1, X7_coreAt_ok]
      · rw [if_pos e1, zU_row]
      · rw [zU_ne _ _ (by omega)]; exact k4
    · refine ⟨g', how, r, ?_, ⟨k, hkl, hk, Or.inr ⟨e, k5, g' 43 0, k2, by rw [if_neg e1]⟩⟩, f1, k4, k6⟩
      simp (disch := omega) only [zc_some, zw_eq, zi_nI, nI_clamp, nI_add, nI_1, nI_lti, nI_inj, nI_ltz, nI_eq0, nI_0lt, nI_ne_m1, nI_ne_m2, nI_m1_ne, nI_m2_ne, if_true, if_false, zU_eq, zU_ne, Nat.add_zero, pk_mul, e1]
  · simp (disch := omega) only [zc_some, zw_eq, zi_nI, nI_clamp, nI_add, nI_1, nI_lti, nI_inj, nI_ltz, nI_eq0, nI_0lt, nI_ne_m1, nI_ne_m2, nI_m1_ne, nI_m2_ne, if_true, if_false, zU_eq, zU_ne, Nat.add_zero, pk_mul, X7_coreAt_ok, hk, hlen, e]
    refine ⟨_, 0, 0, rfl, ⟨k, hkl, hk, Or.inl ⟨by omega, rfl, rfl, zU_row' _ _ _ _ _ (by decide)⟩⟩, (FrM.rfl' g).end' _, ?_, by omega⟩
    rw [zU_self]
    exact ⟨0, by omega, rfl, fun j _ => by simp⟩
