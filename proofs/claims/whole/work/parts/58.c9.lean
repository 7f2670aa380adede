/-! ===== the class' begin ===== -/
theorem c_tail {S W PL NC r c : Nat} {g : zG} {m : Rw} (hz : Siz4 S W PL NC) (h : Sim S W PL NC r g m) (hc : c < NC) : ∃ g', X3_doBegin_b93 r (4 * r + c) g = some (nI 1, g') ∧ Sim S W PL NC r g' (rTail c m) ∧ FrC r g g' ∧ g' 12003 r 0 = g 12003 r 0 := by
  have hc4 : c < 4 := by have := hz.2.2.2.2.2.2.2; omega
  have k1 := c_num1 (f := 3005) (k := 1) (v := nI 0) hz h hc (by omega)
  have k2 := c_num1 (f := 4005) (k := 2) (v := nI 0) hz k1 hc (by omega)
  have e0 : g 1005 (4 * r + c) 0 = m (cat c 0) := (h.2.2.1 c hc).1
  have k3 := c_num1 (f := 2005) (k := 6) (v := m (cat c 0)) hz k2 hc (by omega)
  have e5 : g 7005 (4 * r + c) 0 = m (cat c 5) := (h.2.2.1 c hc).2.2.2.2.2.2.1
  have et : g 10003 r 0 = m 0 := h.time
  have f3 : FrC r g (zU (zU (zU g 3005 (4 * r + c) 0 (nI 0)) 4005 (4 * r + c) 0 (nI 0)) 2005 (4 * r + c) 0 (m (cat c 0))) := (((FrC.rfl' r g).u _ _ (by unfold ofRun; omega)).u _ _ (by unfold ofRun; omega)).u _ _ (by unfold ofRun; omega)
  unfold X3_doBegin_b93
  simp (disch := omega) only [zc_some, zw_eq, zi_nI, nI_clamp, nI_add, nI_1, nI_lti, nI_inj, nI_ltz, nI_eq0, nI_0lt, nI_ne_m1, nI_ne_m2, nI_m1_ne, nI_m2_ne, if_true, if_false, zU_eq, zU_ne, Nat.add_zero, pk_mul, e0, e5, et]
  by_cases e : m (cat c 5) = -2
  · rw [if_pos e]
    have k4 := c_num1 (f := 7005) (k := 5) (v := m 0) hz k3 hc (by omega)
    refine ⟨_, rfl, ?_, f3.u _ _ (by unfold ofRun; omega), by simp (disch := omega) only [zU_ne]⟩
    unfold rTail
    try dsimp only
    rw [if_pos e]
    exact k4
  · rw [if_neg e]
    refine ⟨_, rfl, ?_, f3, by simp (disch := omega) only [zU_ne]⟩
    unfold rTail
    try dsimp only
    rw [if_neg e]
    exact k3
theorem DecR_none {S W NC rule c ℓ : Nat} {tries : Int32} {b : Bool} {m : Rw} (h : ∀ o, o < NC → ¬ RivR S W m c o ℓ b) : DecR S W NC rule tries c ℓ b m 1 0 m :=
  ⟨0, ⟨by omega, fun o _ => ⟨fun z => by simp at z, fun z => absurd z.2 (h o z.1)⟩⟩, Or.inl ⟨rfl, rfl, rfl, rfl⟩⟩
theorem EndsL_noMk {S W PL NC cause v : Nat} {tries : Int32} (hz : Siz S W PL NC) (hk : cause < 4) : ∀ (n : Nat) {m m' : Rw}, n ≤ NC → EndsL S W cause tries v n m m' → PI S W PL NC m → ∀ o, o < n → v.testBit o = true → NoMk S W o m' := by
  obtain ⟨p1, p2, p3, p4, p5, p6, p7, p8⟩ := id hz
  intro n
  induction n with
  | zero => intro m m' _ _ _ o ho; omega
  | succ n ih =>
    intro m m' hn he hp o ho hb
    have hp1 := fun m1 (e1 : EndsL S W cause tries v n m m1) => PI_EndsL hz hk n (show n ≤ 4 by omega) e1 hp
    obtain ⟨m1, e1, ⟨h3, e2⟩ | ⟨h3, e2⟩⟩ := he
    · by_cases e : o = n
      · subst e
        exact EndsR_noMk (by omega) hk e2 (fun s w a b => ((hp1 m1 e1).mk o s w (by omega) a b).2)
      · have i := ih (by omega) e1 hp o (by omega) hb
        exact fun s w a b => by
          rw [EndsR_other p2 p4 hk (by omega) e2 e (by omega) (by omega) (by omega), EndsR_other p2 p4 hk (by omega) e2 e (by omega) (by omega) (by omega)]
          exact i s w a b
    · rw [e2]
      by_cases e : o = n
      · subst e; rw [h3] at hb; cases hb
      · exact ih (by omega) e1 hp o (by omega) hb
theorem NoMk_noRiv {S W c o ℓ : Nat} {b : Bool} {m : Rw} (hS : 0 < S) (h : NoMk S W o m) : ¬ RivR S W m c o ℓ b := by
  rintro ⟨-, w, hf, hm⟩
  have := h _ w (Nat.mod_lt ℓ hS) hf.1
  rcases hm with hm | ⟨-, hm⟩
  · rw [this.2, nI_inj (by omega) (by omega)] at hm; omega
  · rw [this.1, nI_inj (by omega) (by omega)] at hm; omega
theorem c_doBegin {S W PL NC r c rule how rr e0 : Nat} {g : zG} {m m' : Rw} (hP : CPar S W PL NC g) (h : Sim S W PL NC r g m) (hp : PI S W PL NC m) (hc : c < NC) (hr : g 8003 r 0 = nI rule) (hr2 : rule ≤ 2) (he0 : e0 < 16) (hE : g 12003 r 0 = nI e0) (hb : BgnR S W PL NC (g 9003 r 0) c m how rr m') :
    ∃ g' mid, X3_doBegin r (nI c) (4 * r + c) g = some (nI how, g') ∧ Sim S W PL NC r g' mid ∧ m' = (if how = 2 then rWait c mid else mid) ∧ FrC r g g' ∧ EndE e0 rr (g' 12003 r 0) := by
  have hz := hP.1
  obtain ⟨p1, p2, p3, p4, p5, p6, p7, p8⟩ := id hz
  have hs : 16 % S < S := Nat.mod_lt _ p1
  have e5 : g 11003 r 0 = m 5 := h.2.2.2.1.2.2.2.1
  have e4 : g 6005 (4 * r + c) 0 = m (cat c 4) := (h.2.2.1 c hc).2.2.2.2.2.1
  unfold X3_doBegin
  rw [e5, e4]
  rcases hb with ⟨h5, rfl, rfl, he⟩ | ⟨h5, hlt, rfl, rfl, w, m1, hb, he⟩ | ⟨h5, hlt, rfl, m1, w, m2, hv, hen, hb, he⟩
  · refine ⟨g, m, by rw [if_neg h5], h, by rw [if_pos rfl]; exact he, FrC.rfl' r g, by rw [hE]; exact EndE.self he0⟩
  · have hdec : DecR S W NC rule (g 9003 r 0) c 16 false m 1 0 m := DecR_none (fun o ho => by
      rintro ⟨-, w', hf, hm⟩
      rcases hm with hm | ⟨hm, -⟩
      · exact hp.lk o w' ho hf.1 hf.2.1 hm
      · cases hm)
    obtain ⟨g1, k1, k2, k3, k4, k5⟩ := c_reach hP h hp hc (Nat.le_refl 16) hr hr2 he0 hE hdec hb
    rw [if_neg (by simp)] at k1 k5
    obtain ⟨hw, hl⟩ := BrgR_line ⟨p1, p2⟩ (by omega) p6 (Nat.le_refl 16) p8 hc hb
    obtain ⟨g2, j1, j2, j3, j4⟩ := c_mark (b := false) hz k2 k3 hc hw (Nat.le_refl 16) hl
    rw [if_neg (by decide)] at j2
    have q := c_num1 (f := 5005) (k := 3) (v := nI 1) hz j2 hc (by omega)
    obtain ⟨g3, i1, i2, i3, i4⟩ := c_tail hz q hc
    refine ⟨g3, _, ?_, i2, by rw [if_neg (by omega)]; exact he, ((k4.trans j3).u _ _ (by unfold ofRun; omega)).trans i3, ?_⟩
    · rw [if_pos h5, if_pos hlt]
      show zc (X3_reach r (nI c) (nI 16) (bI false) g) _ = _
      rw [k1, zc_some, if_pos rfl]
      show zc (X3_markLine r (nI c) (nI 16) (bI false) g1) _ = _
      rw [j1, zc_some, zw_eq]
      exact i1
    · rw [i4, zU_ne _ _ (by omega), j4]; exact k5
  · have hm := c_marking hz h hc hp.lok hp.mk (Nat.le_refl 16) hv
    have hvn : ∀ j, rr.testBit j = true → j < NC := fun j hj => by
      by_cases z : j < 4
      · exact ((hv.2 j z).mp hj).1
      · rw [bit_ge rr hv.1 j (by omega)] at hj; cases hj
    obtain ⟨g1, k1, k2, k3, k4⟩ := c_endTries hz h hp (show 3 < 4 by omega) hv.1 hvn hen
    have hp1 := PI_EndsL hz.siz (show 3 < 4 by omega) NC p8 hen hp
    have hvc : rr.testBit c = false := by
      cases hb' : rr.testBit c with
      | false => rfl
      | true => exact absurd rfl ((hv.2 c (by omega)).mp hb').2.1
    obtain ⟨e1, x1, x2, x3⟩ : EndE e0 rr (g1 12003 r 0) := by
      rw [k4, hE]
      have := (EndE.self he0).or2 hv.1
      rwa [Nat.zero_or] at this
    have t8 : g1 8003 r 0 = g 8003 r 0 := k3 _ _ _ (by unfold ofRun; omega)
    have t9 : g1 9003 r 0 = g 9003 r 0 := k3 _ _ _ (by unfold ofRun; omega)
    have hdec : DecR S W NC rule (g1 9003 r 0) c 16 true m1 1 0 m1 := DecR_none (fun o ho => by
      cases hb' : rr.testBit o with
      | true => exact NoMk_noRiv p1 (EndsL_noMk hz.siz (by omega) NC (Nat.le_refl _) hen hp o ho hb')
      | false =>
        have pl : ∀ s w f, s < 4 → w < 17 → f < 9 → m1 (pos o s w + f) = m (pos o s w + f) := fun s w f a1 a2 a3 => EndsL_other p2 (by omega) (by omega) NC p8 hen o s w f (Or.inr hb') a1 a2 a3
        intro hriv
        have : RivR S W m c o 16 true := (RivR_congr (by omega) (by omega) pl).mp hriv
        rw [(hv.2 o (by omega)).mpr ⟨ho, this⟩] at hb'
        cases hb')
    obtain ⟨g2, j1, j2, j3, j4, j5⟩ := c_reach (e0 := e1) (hP.fr k3) k2 hp1 hc (Nat.le_refl 16) (t8.trans hr) hr2 x1 x2 hdec (by rw [t9]; exact hb)
    rw [if_neg (by simp)] at j1 j5
    have q1 := c_holder (v := nI c) hz j2
    have q2 := c_num1 (f := 5005) (k := 3) (v := nI 2) hz q1 hc (by omega)
    obtain ⟨g3, i1, i2, i3, i4⟩ := c_tail hz q2 hc
    refine ⟨g3, _, ?_, i2, by rw [if_neg (by omega)]; exact he, (((k3.trans j4).u _ _ (by unfold ofRun; omega)).u _ _ (by unfold ofRun; omega)).trans i3, ?_⟩
    · rw [if_pos h5, if_neg hlt]
      show zc (X3_marking r (nI c) (nI 16) (bI (!true)) g) _ = _
      rw [hm, zc_some, k1, zc_some]
      show zc (X3_reach r (nI c) (nI 16) (bI true) g1) _ = _
      rw [j1, zc_some, if_pos rfl, zw_eq, zw_eq]
      exact i1
    · rw [i4, zU_ne _ _ (by omega), zU_ne _ _ (by omega)]
      obtain ⟨e2, y1, y2, y3⟩ := j5
      refine ⟨e2, y1, y2, fun j hj => ?_⟩
      rw [y3 j hj, x3 j hj]
      simp
/-! ===== the class' end ===== -/
theorem upd_comm {m : Rw} {a b : Nat} {x y : Int32} (h : a ≠ b) : upd (upd m a x) b y = upd (upd m b y) a x := by
  funext i
  unfold upd
  by_cases e1 : i = b
  · rw [if_pos e1, if_neg (by omega), if_pos e1]
  · rw [if_neg e1, if_neg e1]
theorem CmR_unR {S W PL NC c : Nat} {m m1 : Rw} (hz : Siz S W PL NC) (h : CmR S W c S 0 m m1) : UnR S W c false m m1 := by
  obtain ⟨p1, p2, p3, p4, p5, p6, p7, p8⟩ := id hz
  refine ⟨fun s w hs hw => ?_, fun i hi => h.2 i (fun s w a b => ⟨hi s w 2 a b (by omega), hi s w 3 a b (by omega)⟩)⟩
  have ot : ∀ f, f < 9 → f ≠ 2 → f ≠ 3 → m1 (pos c s w + f) = m (pos c s w + f) := fun f a b d => h.2 _ (fun s' w' x y => ⟨fun z => by
      have := pos_inj (by omega) (by omega) (by omega) (by omega) (by omega) (by omega) z
      omega, fun z => by
      have := pos_inj (by omega) (by omega) (by omega) (by omega) (by omega) (by omega) z
      omega⟩)
  have o0 := ot 0 (by omega) (by omega) (by omega)
  rw [Nat.add_zero] at o0
  obtain ⟨a, b⟩ := h.1 s w hs hw (Or.inl hs)
  rw [if_neg (fun z => by cases z.1), if_neg (by decide)]
  exact ⟨o0, ot 1 (by omega) (by omega) (by omega), a, b, ot 4 (by omega) (by omega) (by omega)⟩
theorem CmR_id {S W c : Nat} {m m1 : Rw} (h : CmR S W c S 0 m m1) (hno : NoMk S W c m) : m1 = m := by
  funext i
  by_cases e : ∃ s w, s < S ∧ w < W ∧ (i = pos c s w + 2 ∨ i = pos c s w + 3)
  · obtain ⟨s, w, hs, hw, rfl | rfl⟩ := e
    · rw [(h.1 s w hs hw (Or.inl hs)).1, (hno s w hs hw).1]
    · rw [(h.1 s w hs hw (Or.inl hs)).2, (hno s w hs hw).2]
  · exact h.2 i (fun s w hs hw => ⟨fun z => e ⟨s, w, hs, hw, Or.inl z⟩, fun z => e ⟨s, w, hs, hw, Or.inr z⟩⟩)
theorem c_doEnd {S W PL NC r c n : Nat} {g : zG} {m m1 : Rw} (hP : CPar S W PL NC g) (h : Sim S W PL NC r g m) (hp : PI S W PL NC m) (hc : c < NC) (h4 : m 4 = nI n) (hn : n < 48) (hcm : CmR S W c S 0 m m1) (hno : m (cat c 3) = nI 2 → NoMk S W c m) :
    ∃ g', X3_doEnd r (nI c) (4 * r + c) g = some (0, g') ∧ Sim S W PL NC r g' (rCmt c n m1) ∧ FrC r g g' ∧ g' 12003 r 0 = g 12003 r 0 := by
  have hz := hP.1
  obtain ⟨p1, p2, p3, p4, p5, p6, p7, p8⟩ := id hz
  have hc4 : c < 4 := by omega
  have e3 : g 5005 (4 * r + c) 0 = m (cat c 3) := (h.2.2.1 c hc).2.2.2.2.1
  have lo : ∀ i, i < 318 → m1 i = m i := fun i hi => hcm.2 i (fun s w _ _ => by have := pos_ge c s w; omega)
  have hlt := fun k (hk : k < 14) => cat_lt hc4 hk
  have hgt : ∀ k, 6 ≤ cat c k := fun k => by unfold cat; omega
  have m13 : m1 (cat c 3) = m (cat c 3) := lo _ (by have := hlt 3 (by omega); omega)
  -- behind the marks
  have fin : ∀ (lk : Bool) (g2 : zG) (m2 : Rw), Sim S W PL NC r g2 m2 → (lk = true ↔ m (cat c 3) = nI 2) → m2 = (if m1 (cat c 3) = nI 2 then upd (upd m1 5 (-2)) (cat c 12) (m1 (cat c 12) + nI 1) else m1) → ∃ g', X3_doEnd_b47 r (nI c) (4 * r + c) (bI lk) g2 = some (0, g') ∧ Sim S W PL NC r g' (rCmt c n m1) ∧ FrC r g2 g' ∧ g' 12003 r 0 = g2 12003 r 0 := by
    intro lk g2 m2 hS hlk hm2
    have ne : ∀ {a b : Nat}, a ≠ b → cat c a ≠ cat c b := fun {a b} hab z => hab (by unfold cat at z; omega)
    have at' : ∀ i, i ≠ 5 → i ≠ cat c 12 → m2 i = m1 i := fun i a b => by
      rw [hm2]
      split
      · rw [upd_ne b, upd_ne a]
      · rfl
    have g12 := hgt 12
    have g11 := hgt 11
    have g6 := hgt 6
    have l12 := hlt 12 (by omega)
    have l11 := hlt 11 (by omega)
    have l6 := hlt 6 (by omega)
    have a4 : m2 4 = nI n := by rw [at' _ (by omega) (by omega), lo _ (by omega), h4]
    have a0 : m2 0 = m1 0 := at' _ (by omega) (by omega)
    have a6 : m2 (cat c 6) = m1 (cat c 6) := at' _ (by omega) (ne (by omega))
    have a11 : m2 (cat c 11) = m1 (cat c 11) := at' _ (by omega) (ne (by omega))
    have b4 : g2 28 (4 * r + c) 4 = m1 (cat c 11) := ((hS.2.2.1 c hc).2.2.2.2.2.2.2 4 (by omega)).trans a11
    have b7 : g2 7003 r 0 = nI n := by
      obtain ⟨n', y1, y2, y3, -⟩ := hS.2.2.2.1.2.2.1
      rw [y3, ← y2, a4]
    have b6 : g2 2005 (4 * r + c) 0 = m1 (cat c 6) := (hS.2.2.1 c hc).2.1.trans a6
    have bt : g2 10003 r 0 = m1 0 := hS.time.trans a0
    have k1 := c_cnt (k := 4) (v := m1 (cat c 11) + nI 1) hz hS hc (by omega)
    have k2 := c_commit (a := nI c) (b := m1 (cat c 6)) (d := m1 0) (e := bI lk) hz k1 hn (by rw [upd_ne (by have := hgt (7 + 4); omega)]; exact a4)
    have k3 := c_num1 (f := 6005) (k := 4) (v := nI 0) hz k2 hc (by omega)
    have k4 := c_num1 (f := 7005) (k := 5) (v := -2) hz k3 hc (by omega)
    have k5 := c_num1 (f := 5005) (k := 3) (v := nI 0) hz k4 hc (by omega)
    have e : rCmt c n m1 = upd (upd (upd (upd (upd (upd (upd (upd (upd m2 (cat c (7 + 4)) (m1 (cat c 11) + nI 1)) (62 + 4 * n) (nI c)) (62 + 4 * n + 1) (m1 (cat c 6))) (62 + 4 * n + 2) (m1 0)) (62 + 4 * n + 3) (bI lk)) 4 (nI (n + 1))) (cat c 4) (nI 0)) (cat c 5) (-2)) (cat c 3) (nI 0) := by
      have ef : (if m1 (cat c 3) = nI 2 then nI 1 else nI 0) = bI lk := by
        rw [m13]
        cases lk with
        | true => rw [if_pos (hlk.mp rfl)]; rfl
        | false => rw [if_neg (fun z => by have := hlk.mpr z; cases this)]; rfl
      unfold rCmt
      rw [← hm2, ef]
      rw [upd_comm (m := m2) (a := cat c (7 + 4)) (show cat c (7 + 4) ≠ 62 + 4 * n by have := hlt (7 + 4) (by omega); omega)]
      rw [upd_comm (a := cat c (7 + 4)) (show cat c (7 + 4) ≠ 62 + 4 * n + 1 by have := hlt (7 + 4) (by omega); omega)]
      rw [upd_comm (a := cat c (7 + 4)) (show cat c (7 + 4) ≠ 62 + 4 * n + 2 by have := hlt (7 + 4) (by omega); omega)]
      rw [upd_comm (a := cat c (7 + 4)) (show cat c (7 + 4) ≠ 62 + 4 * n + 3 by have := hlt (7 + 4) (by omega); omega)]
      rw [upd_comm (a := cat c (7 + 4)) (show cat c (7 + 4) ≠ 4 by have := hgt (7 + 4); omega)]
    rw [← e] at k5
    refine ⟨_, ?_, k5, ?_, ?_⟩
    · unfold X3_doEnd_b47 X3_doEnd_b125 X3_doEnd_b136
      have e44 : (nI 4).toNatClampNeg = 4 := nI_clamp (by omega)
      cases lk with
      | true =>
        simp (disch := omega) only [zc_some, zw_eq, zi_nI, nI_clamp, nI_add, nI_1, nI_lti, nI_inj, nI_ltz, nI_eq0, nI_0lt, nI_ne_m1, nI_ne_m2, nI_m1_ne, nI_m2_ne, if_true, if_false, zU_eq, zU_ne, Nat.add_zero, pk_mul, bI1, b4, b7, b6, bt, hn, Nat.mul_comm n 4, show ¬ (1 = 0) by omega, show 4 * n < 192 by omega]
      | false =>
        simp (disch := omega) only [zc_some, zw_eq, zi_nI, nI_clamp, nI_add, nI_1, nI_lti, nI_inj, nI_ltz, nI_eq0, nI_0lt, nI_ne_m1, nI_ne_m2, nI_m1_ne, nI_m2_ne, if_true, if_false, zU_eq, zU_ne, Nat.add_zero, pk_mul, bI0, b4, b7, b6, bt, hn, Nat.mul_comm n 4, show 4 * n < 192 by omega]
    · exact (((((((((FrC.rfl' r g2).u _ _ (by unfold ofRun; omega)).u _ _ (by unfold ofRun; omega)).u _ _ (by unfold ofRun; omega)).u _ _ (by unfold ofRun; omega)).u _ _ (by unfold ofRun; omega)).u _ _ (by unfold ofRun; omega)).u _ _ (by unfold ofRun; omega)).u _ _ (by unfold ofRun; omega)).u _ _ (by unfold ofRun; omega)
    · simp (disch := omega) only [zU_ne]
  unfold X3_doEnd
  rw [e3]
  by_cases e : m (cat c 3) = nI 2
  · rw [if_pos e]
    have hid := CmR_id hcm (hno e)
    subst hid
    have k1 := c_holder (v := -2) hz h
    have e5 : g 28 (4 * r + c) 5 = m1 (cat c 12) := (h.2.2.1 c hc).2.2.2.2.2.2.2 5 (by omega)
    have k2 := c_cnt (k := 5) (v := m1 (cat c 12) + nI 1) hz k1 hc (by omega)
    obtain ⟨g', y1, y2, y3, y4⟩ := fin true _ _ k2 ⟨fun _ => e, fun _ => rfl⟩ (by rw [if_pos e])
    refine ⟨g', ?_, y2, (((FrC.rfl' r g).u _ _ (by unfold ofRun; omega)).u _ _ (by unfold ofRun; omega)).trans y3, by rw [y4]; simp (disch := omega) only [zU_ne]⟩
    unfold X3_doEnd_b13
    rw [if_neg (by decide)]
    have e55 : (nI 5).toNatClampNeg = 5 := nI_clamp (by omega)
    rw [zw_eq, zi_nI (by omega) (by omega), zi_nI (by omega) (by omega), zw_eq, e55, zU_ne _ _ (by omega), e5]
    exact y1
  · rw [if_neg e]
    obtain ⟨gu, u1, u2⟩ := X0_unmark_ok (4 * r + c) false g
    have su := Sim_unR hz h hp hc (CmR_unR hz.siz hcm) u2
    obtain ⟨f1, f2⟩ := cUn_fr hc4 u2
    obtain ⟨g', y1, y2, y3, y4⟩ := fin false gu m1 su ⟨fun z => (by cases z), fun z => absurd z e⟩ (by rw [if_neg (by rw [m13]; exact e)])
    refine ⟨g', ?_, y2, f1.trans y3, by rw [y4, f2]⟩
    rw [bI0] at u1 y1
    unfold X3_doEnd_b13
    rw [if_pos (by decide), zi_nI hc4 (by omega)]
    have e44 : (nI c).toNatClampNeg = c := nI_clamp (by omega)
    rw [e44, u1, zc_some]
    exact y1
/-! ===== the class' step ===== -/
theorem J9_negs : ∀ d, d < 1000 → 0 < d → (((0 - nI d) ^^^ nI 1000) < 0) ∧ ¬ ((0 - nI d) - (0 - nI d) / nI 1000 * nI 1000 = 0) ∧ ((0 - nI d) - (0 - nI d) / nI 1000 * nI 1000) + nI 1000 = nI (1000 - d) := by decide +kernel
theorem J9_less {a b : Nat} (g : zG) (ha : a < 1000) (hb : b < 1000) : J9_floorMod_7cf53 (nI a - nI b) (nI 1000) g = some (nI ((a + 1000 - b) % 1000), g) := by
  by_cases e : b ≤ a
  · rw [pk_sub e, J9_mod g (by omega) (by omega) (by omega)]
    congr 3
    omega
  · have h : nI a - nI b = 0 - nI (b - a) := by
      have e1 : nI b = nI a + nI (b - a) := by rw [nI_add]; congr 1; omega
      rw [e1]
      generalize nI a = x
      generalize nI (b - a) = y
      grind
    obtain ⟨h1, h2, h3⟩ := J9_negs (b - a) (by omega) (by omega)
    rw [h]
    unfold J9_floorMod_7cf53
    rw [if_neg (by decide), if_pos h1, if_neg h2, h3]
    congr 3
    omega
theorem CPar.hasDeedsLeft {S W PL NC r c k len : Nat} {g : zG} {m : Rw} (hP : CPar S W PL NC g) (h : Sim S W PL NC r g m) (hc : c < NC) (hl : g 11 0 c = nI len) (hl24 : len ≤ 24) (hk : m (cat c 0) = nI k) (hk24 : k ≤ 24) : X3_hasDeedsLeft r (nI c) g = some (bI (decide (k < len)), g) := by
  have e1 : g 1005 (4 * r + c) 0 = nI k := (h.2.2.1 c hc).1.trans hk
  have hc4 : c < 4 := by have := hP.1.2.2.2.2.2.2.2; omega
  unfold X3_hasDeedsLeft
  rw [hP.hasCore hc, zc_some, if_neg (by decide)]
  simp (disch := omega) only [zc_some, zw_eq, zi_nI, nI_clamp, nI_add, nI_1, nI_lti, nI_inj, nI_ltz, nI_eq0, nI_0lt, nI_ne_m1, nI_ne_m2, nI_m1_ne, nI_m2_ne, if_true, if_false, zU_eq, zU_ne, Nat.add_zero, pk_mul, hc4, e1, hl]
  by_cases e : k < len
  · rw [if_pos e, decide_eq_true e]; rfl
  · rw [if_neg e, decide_eq_false e]; rfl
theorem c_b188 {S W PL NC r c how : Nat} {g : zG} {mid : Rw} (hz : Siz4 S W PL NC) (h : Sim S W PL NC r g mid) (hc : c < NC) (h1 : 1 ≤ how) (h3 : how ≤ 3) :
    ∃ g', X3_takeStep_b188 (4 * r + c) (nI how) g = some (nI how, g') ∧ Sim S W PL NC r g' (if how = 1 then upd mid (cat c 0) (mid (cat c 0) + nI 1) else if how = 2 then rWait c mid else mid) ∧ FrC r g g' ∧ g' 12003 r 0 = g 12003 r 0 := by
  have hc4 : c < 4 := by have := hz.2.2.2.2.2.2.2; omega
  obtain ⟨e0, -, -, -, -, -, -, e7⟩ := h.2.2.1 c hc
  have e13 := e7 6 (by omega)
  have e66 : (nI 6).toNatClampNeg = 6 := nI_clamp (by omega)
  unfold X3_takeStep_b188
  have hcs : how = 1 ∨ how = 2 ∨ how = 3 := by omega
  rcases hcs with rfl | rfl | rfl
  · refine ⟨_, by rw [if_pos rfl, e0, zw_eq], by rw [if_pos rfl]; exact c_num1 (k := 0) hz h hc (by omega), (FrC.rfl' r g).u _ _ (by unfold ofRun; omega), zU_ne _ _ (by omega)⟩
  · refine ⟨_, by rw [if_neg (by decide), if_pos rfl, zi_nI (by omega) (by omega), zi_nI (by omega) (by omega), e66, e13, zw_eq], by rw [if_neg (by omega), if_pos rfl]; exact c_cnt (k := 6) hz h hc (by omega), (FrC.rfl' r g).u _ _ (by unfold ofRun; omega), zU_ne _ _ (by omega)⟩
  · exact ⟨g, by rw [if_neg (by decide), if_neg (by decide)], by rw [if_neg (by omega), if_neg (by omega)]; exact h, FrC.rfl' r g, rfl⟩
theorem Sim_12003 {S W PL NC r c0 s0 w0 : Nat} {g : zG} {m : Rw} {v : Int32} (hz : Siz4 S W PL NC) (h : SimH S W PL NC r c0 s0 w0 g m) : SimH S W PL NC r c0 s0 w0 (zU g 12003 r 0 v) m :=
  SimH_sh hz h (fun f i j a _ => zU_ne _ _ (by omega)) (fun i _ => rfl) (h.2.2.2.1.congr hz.2.2.2.2.2.1 (fun f j a => zU_ne _ _ (by omega)) (fun i _ => rfl))
theorem c_takeStep {S W PL NC r c rule how rr : Nat} {len : Nat → Nat} {so wh : Nat → Nat → Nat} {ix : Nat → Nat → Bool} {g : zG} {m m' : Rw} (hP : CPar S W PL NC g) (h : Sim S W PL NC r g m) (hp : RI S W PL NC len so wh m) (hc : c < NC) (hd : DeedsC c (len c) (so c) (wh c) (ix c) g) (hr : g 8003 r 0 = nI rule) (hr2 : rule ≤ 2) (ht : StepR S W PL NC rule (g 9003 r 0) (len c) (so c) (wh c) (ix c) c m how rr m') :
    ∃ g', X3_takeStep r (nI c) g = some (nI how, g') ∧ Sim S W PL NC r g' m' ∧ FrC r g g' ∧ EndE 0 rr (g' 12003 r 0) := by
  have hz := hP.1
  obtain ⟨p1, p2, p3, p4, p5, p6, p7, p8⟩ := id hz
  have hc4 : c < 4 := by omega
  obtain ⟨k, hk24, hk, ht⟩ := ht
  have hw := hp.2.1 c hc
  have hw24 := hw.1
  -- ended is 0 first
  have s0 := Sim_12003 (v := nI 0) hz h
  have f0 : FrC r g (zU g 12003 r 0 (nI 0)) := (FrC.rfl' r g).u _ _ (by unfold ofRun; omega)
  have hP0 := hP.fr f0
  have hl0 := hP0.hasDeedsLeft s0 hc (show (zU g 12003 r 0 (nI 0)) 11 0 c = nI (len c) by rw [zU_ne _ _ (by omega)]; exact hd.1) hw24 hk hk24
  rcases ht with ⟨hle, rfl, rfl, he⟩ | ⟨hlt, h1, m1, hdo, he⟩
  · refine ⟨zU g 12003 r 0 (nI 0), ?_, by rw [he]; exact s0, f0, by rw [zU_self]; exact EndE.self (by omega)⟩
    unfold X3_takeStep
    rw [zw_eq, hl0, zc_some, if_pos (by rw [decide_eq_false (by omega)]; rfl)]
  · have s1 := c_time (v := m 0 + nI 1) hz s0
    have e10 : (zU g 12003 r 0 (nI 0)) 10003 r 0 = m 0 := s0.time
    have f1 : FrC r g (zU (zU g 12003 r 0 (nI 0)) 10003 r 0 (m 0 + nI 1)) := f0.u _ _ (by unfold ofRun; omega)
    have hE : (zU (zU g 12003 r 0 (nI 0)) 10003 r 0 (m 0 + nI 1)) 12003 r 0 = nI 0 := by rw [zU_ne _ _ (by omega), zU_self]
    have hP1 := hP.fr f1
    have hd1 := hd.fr f1
    have t8 : (zU (zU g 12003 r 0 (nI 0)) 10003 r 0 (m 0 + nI 1)) 8003 r 0 = nI rule := by rw [f1 _ _ _ (by unfold ofRun; omega)]; exact hr
    have t9 : (zU (zU g 12003 r 0 (nI 0)) 10003 r 0 (m 0 + nI 1)) 9003 r 0 = g 9003 r 0 := f1 _ _ _ (by unfold ofRun; omega)
    have hp1 : RI S W PL NC len so wh (upd m 0 (m 0 + nI 1)) := RI_num hz.siz (fun i hi => upd_ne (by omega)) (fun o j _ _ _ _ => upd_ne (by unfold cat; omega)) (upd_ne (by omega)) hp
    have hk1 : upd m 0 (m 0 + nI 1) (cat c 0) = nI k := by rw [upd_ne (by unfold cat; omega)]; exact hk
    have red : X3_takeStep r (nI c) g = (fun g5 => zc (X2_wholeOf 0 (nI c) (g5 1005 (4 * r + c) 0) g5) (fun x8 g9 =>
      zc (X2_sortOf 0 (nI c) (g9 1005 (4 * r + c) 0) g9) (fun x11 g12 =>
      (if x11 = (nI 0) then
        (zc (X3_doBegin r (nI c) (4 * r + c) g12) (fun x14 g15 =>
        X3_takeStep_b188  (4 * r + c) x14 g15))
      else (if x11 = (nI 1) then
        (zc (X3_doEnd r (nI c) (4 * r + c) g12) (fun x17 g18 =>
        X3_takeStep_b188  (4 * r + c) (nI 1) g18))
      else (if x11 = (nI 2) then
        (zw g12 4005 (4 * r + c) 0 (g12 3005 (4 * r + c) 0) (fun g20 =>
        X3_takeStep_b188  (4 * r + c) (nI 1) g20))
      else (if x11 = (nI 3) then
        (zc (X3_doGet r (nI c) (4 * r + c) g12) (fun x21 g22 =>
        X3_takeStep_b188  (4 * r + c) x21 g22))
      else (if x11 = (nI 4) then
        (zc (X3_doPut r (nI c) (4 * r + c) g12) (fun x24 g25 =>
        X3_takeStep_b188  (4 * r + c) x24 g25))
      else (if x11 = (nI 5) then
        (zc (J9_floorMod_7cf53 ((g12 3005 (4 * r + c) 0) + x8) (nI 1000) g12) (fun x27 g28 =>
        zw g28 3005 (4 * r + c) 0 x27 (fun g30 =>
        X3_takeStep_b188  (4 * r + c) (nI 1) g30)))
      else (zc (J9_floorMod_7cf53 ((g12 3005 (4 * r + c) 0) - x8) (nI 1000) g12) (fun x31 g32 =>
        zw g32 3005 (4 * r + c) 0 x31 (fun g34 =>
        X3_takeStep_b188  (4 * r + c) (nI 1) g34)))))))))))) (zU (zU g 12003 r 0 (nI 0)) 10003 r 0 (m 0 + nI 1)) := by
      unfold X3_takeStep
      have ecl : (nI c).toNatClampNeg = c := nI_clamp (by omega)
      rw [zw_eq, hl0, zc_some, if_neg (by rw [decide_eq_true hlt]; decide), e10, zw_eq, zi_nI hc4 (by omega), ecl]
    rw [red]
    try dsimp only
    generalize zU (zU g 12003 r 0 (nI 0)) 10003 r 0 (m 0 + nI 1) = g1 at s1 f1 hE hP1 hd1 t8 t9
    generalize upd m 0 (m 0 + nI 1) = m0 at hdo s1 hp1 hk1
    obtain ⟨k', b, st, c1, c2, c3, c4, c5, c6, c7, c8, ⟨a0, c9, c9'⟩, c10⟩ := hp1.2.2.1 c hc
    have e1k : g1 1005 (4 * r + c) 0 = nI k := (s1.2.2.1 c hc).1.trans hk1
    have e3a : g1 3005 (4 * r + c) 0 = m0 (cat c 1) := (s1.2.2.1 c hc).2.2.1
    obtain ⟨w1, w2, w3, w4, w5⟩ := hw.2.2 k hlt
    rw [e1k, hP1.wholeOf hd1 hc hlt, zc_some, e1k, hP1.sortOf hd1 hc hlt, zc_some]
    obtain ⟨hd11, -, hdd⟩ := hd1
    have hwo := fun z => (hdd k hlt).2 z
    have sim1 : ∀ (F : zG) (mid : Rw), Sim S W PL NC r F mid → FrC r g1 F → F 12003 r 0 = nI 0 → how = 1 → rr = 0 → m1 = mid → ∃ g', X3_takeStep_b188 (4 * r + c) (nI 1) F = some (nI how, g') ∧ Sim S W PL NC r g' m' ∧ FrC r g g' ∧ EndE 0 rr (g' 12003 r 0) := by
      intro F mid F1 F2 F3 F4 F5 F6
      obtain ⟨g', y1, y2, y3, y4⟩ := c_b188 (how := 1) hz F1 hc (by omega) (by omega)
      rw [if_pos rfl] at y2
      rw [he, F4, if_pos rfl, F6, F5]
      exact ⟨g', y1, y2, (f1.trans F2).trans y3, by rw [y4, F3]; exact EndE.self (by omega)⟩
    have sim2 : ∀ (F : zG) (mid : Rw), 1 ≤ how → how ≤ 3 → Sim S W PL NC r F mid → FrC r g1 F → EndE 0 rr (F 12003 r 0) → m1 = (if how = 2 then rWait c mid else mid) → ∃ g', X3_takeStep_b188 (4 * r + c) (nI how) F = some (nI how, g') ∧ Sim S W PL NC r g' m' ∧ FrC r g g' ∧ EndE 0 rr (g' 12003 r 0) := by
      intro F mid F0 F00 F1 F2 F3 F4
      obtain ⟨g', y1, y2, y3, y4⟩ := c_b188 hz F1 hc F0 F00
      refine ⟨g', y1, ?_, (f1.trans F2).trans y3, by rw [y4]; exact F3⟩
      rw [he, F4]
      by_cases z1 : how = 1
      · rw [if_pos z1, if_neg (by omega)]
        rw [if_pos z1] at y2; exact y2
      · rw [if_neg z1]
        rw [if_neg z1] at y2; exact y2
    rcases hdo with ⟨hs, hd'⟩ | ⟨hs, rfl, rfl, n, m2, h4, hn, hcm, rfl⟩ | ⟨hs, rfl, rfl, rfl⟩ | ⟨hs, xx, hx, hxl, hd'⟩ | ⟨hs, rfl, rfl, y, y1, y2, rfl⟩ | ⟨hs, rfl, rfl, y, y1, y2, rfl⟩
    · have hh : how ≤ 3 := by rcases hd' with ⟨-, z, -⟩ | ⟨-, -, z, -⟩ | ⟨-, -, z, -⟩ <;> omega
      rw [← t9] at hd'
      obtain ⟨g2, mid, j1, j2, j3, j4, j5⟩ := c_doBegin hP1 s1 hp1.1 hc t8 hr2 (show 0 < 16 by omega) hE hd'
      rw [hs, if_pos rfl, j1, zc_some]
      exact sim2 g2 mid h1 hh j2 j4 j5 j3
    · obtain ⟨g2, j1, j2, j3, j4⟩ := c_doEnd hP1 s1 hp1.1 hc h4 hn hcm (fun z => c8 (fun y => by rw [c4, y, nI_inj (by omega) (by omega)] at z; omega))
      rw [hs, if_neg (by decide), if_pos rfl, j1, zc_some]
      exact sim1 g2 _ j2 j3 (by rw [j4]; exact hE) rfl rfl rfl
    · rw [hs, if_neg (by decide), if_neg (by decide), if_pos rfl, zw_eq, e3a]
      exact sim1 _ _ (c_num1 (k := 2) hz s1 hc (by omega)) ((FrC.rfl' r g1).u _ _ (by unfold ofRun; omega)) (by rw [zU_ne _ _ (by omega)]; exact hE) rfl rfl rfl
    · have hal : wh c k < 16 * PL := w5 hs
      have hh : how ≤ 3 := by
        obtain ⟨z1, z2, z3, -, ⟨-, z, -⟩ | ⟨-, z, -⟩ | ⟨-, z4, z5, z6, -, -, ⟨-, z, -⟩ | ⟨z7, -, z, -⟩⟩⟩ := hd' <;> omega
      rw [← t9] at hd'
      rcases hs with hs | hs
      · rw [show (so c k == 4) = false by rw [hs]; rfl] at hd'
        obtain ⟨g2, mid, j1, j2, j3, j4, j5⟩ := c_doGet hP1 s1 hp1.1 hc ⟨hd11, hw24, hdd⟩ hk1 hlt (by omega) hal hx hxl t8 hr2 (show 0 < 16 by omega) hE hd'
        rw [hs, if_neg (by decide), if_neg (by decide), if_neg (by decide), if_pos rfl, j1, zc_some]
        exact sim2 g2 mid h1 hh j2 j4 j5 j3
      · rw [show (so c k == 4) = true by rw [hs]; rfl] at hd'
        obtain ⟨g2, mid, j1, j2, j3, j4, j5⟩ := c_doPut hP1 s1 hp1.1 hc ⟨hd11, hw24, hdd⟩ hk1 hlt (by omega) hal hx hxl t8 hr2 (show 0 < 16 by omega) hE hd'
        rw [hs, if_neg (by decide), if_neg (by decide), if_neg (by decide), if_neg (by decide), if_pos rfl, j1, zc_some]
        exact sim2 g2 mid h1 hh j2 j4 j5 j3
    · have hwl := w4 (by omega)
      rw [hs, if_neg (by decide), if_neg (by decide), if_neg (by decide), if_neg (by decide), if_neg (by decide), if_pos rfl, e3a, y2, (hwo (by omega)).1, nI_add, J9_mod g1 (by omega) (by omega) (by omega), zc_some, zw_eq]
      exact sim1 _ _ (c_num1 (k := 1) hz s1 hc (by omega)) ((FrC.rfl' r g1).u _ _ (by unfold ofRun; omega)) (by rw [zU_ne _ _ (by omega)]; exact hE) rfl rfl rfl
    · have hwl := w4 (by omega)
      rw [hs, if_neg (by decide), if_neg (by decide), if_neg (by decide), if_neg (by decide), if_neg (by decide), if_neg (by decide), e3a, y2, (hwo (by omega)).1, J9_less g1 y1 hwl, zc_some, zw_eq]
      exact sim1 _ _ (c_num1 (k := 1) hz s1 hc (by omega)) ((FrC.rfl' r g1).u _ _ (by unfold ofRun; omega)) (by rw [zU_ne _ _ (by omega)]; exact hE) rfl rfl rfl
