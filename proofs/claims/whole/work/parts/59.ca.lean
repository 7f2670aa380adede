/-! ===== the commits' record ===== -/
def CMT (NC : Nat) (len : Nat → Nat) (so : Nat → Nat → Nat) (m : Rw) : Prop := ∃ n, n ≤ 48 ∧ m 4 = nI n ∧ ∀ i, i < n → ∃ c b, c < NC ∧ b < len c ∧ so c b = 0 ∧ m (62 + 4 * i) = nI c ∧ m (62 + 4 * i + 1) = nI b
def Zon (i : Nat) : Prop := i = 0 ∨ i = 4 ∨ (62 ≤ i ∧ i < 254)
theorem CMT_low {NC : Nat} {len : Nat → Nat} {so : Nat → Nat → Nat} {m m' : Rw} (e : ∀ i, Zon i → i ≠ 0 → m' i = m i) (h : CMT NC len so m) : CMT NC len so m' := by
  obtain ⟨n, h1, h2, h3⟩ := h
  refine ⟨n, h1, by rw [e 4 (Or.inr (Or.inl rfl)) (by omega)]; exact h2, fun i hi => ?_⟩
  rw [e _ (Or.inr (Or.inr (by omega))) (by omega), e _ (Or.inr (Or.inr (by omega))) (by omega)]
  exact h3 i hi
theorem Zon.lt {i : Nat} (h : Zon i) : i < 254 ∧ True ∧ i ≠ 1 ∧ i ≠ 2 ∧ i ≠ 3 ∧ i ≠ 5 ∧ ∀ c k, c < 4 → k < 14 → i ≠ cat c k := by
  refine ⟨?_, ?_, ?_, ?_, ?_, ?_, fun c k hc hk => ?_⟩
  all_goals try trivial
  all_goals try (unfold Zon at h; omega)
  have := cat_lt hc hk
  have : 6 ≤ cat c k := by unfold cat; omega
  unfold Zon at h
  omega
theorem Zon_Ends {S W c cause : Nat} {tries : Int32} {m m' : Rw} (hk : cause < 4) (hc : c < 4) (h : EndsR S W c cause tries m m') {i : Nat} (hi : Zon i) : m' i = m i := by
  obtain ⟨a, -, -, -, -, -, b⟩ := hi.lt
  exact EndsR_low hk h (by omega) (fun k hk' => b c k hc hk')
theorem Zon_EndsL {S W NC cause r : Nat} {tries : Int32} (hk : cause < 4) (hN : NC ≤ 4) {m m' : Rw} (h : EndsL S W cause tries r NC m m') {i : Nat} (hi : Zon i) : m' i = m i := by
  obtain ⟨a, -, -, -, -, -, b⟩ := hi.lt
  exact EndsL_low hk NC h i (by omega) (fun o k ho _ hk' => b o k (by omega) hk')
theorem Zon_Dec {S W PL NC rule c ℓ how r : Nat} {tries : Int32} {b : Bool} (hz : Siz S W PL NC) (hc : c < NC) {m m' : Rw} (h : DecR S W NC rule tries c ℓ b m how r m') {i : Nat} (hi : Zon i) : m' i = m i := by
  obtain ⟨p1, p2, p3, p4, p5, p6, p7, p8⟩ := hz
  obtain ⟨v, -, ⟨-, -, -, h⟩ | ⟨-, -, -, -, -, h⟩ | ⟨-, -, -, -, h⟩ | ⟨-, -, -, -, -, h⟩⟩ := h
  · rw [h]
  · rw [h]
  · exact Zon_Ends (by omega) (by omega) h hi
  · exact Zon_EndsL (by omega) p8 h hi
theorem Zon_Brg {S W PL NC c ℓ : Nat} {tries : Int32} {b : Bool} {o : Option Nat} (hz : Siz S W PL NC) (hc : c < NC) (hℓ : ℓ ≤ 16) {m m' : Rw} (hL : LOK S W NC m) (h : BrgR S W PL NC tries c ℓ b m o m') {i : Nat} (hi : Zon i) : m' i = m i := by
  obtain ⟨p1, p2, p3, p4, p5, p6, p7, p8⟩ := id hz
  obtain ⟨a, -, h1, h2, h3, -, -⟩ := hi.lt
  cases o with
  | some w => exact BrgR_low hz hc hℓ hL h a h1 h2 h3
  | none =>
    obtain ⟨o0, -, ⟨-, -, -, h⟩ | ⟨w, m3, hh, -, -, h, -⟩ | ⟨w, m3, hh, -, h, -⟩⟩ := h
    · exact Zon_Ends (by omega) (by omega) h hi
    · cases h
    · cases h
theorem Zon_wait {c : Nat} (hc : c < 4) {m : Rw} {i : Nat} (hi : Zon i) : rWait c m i = m i := upd_ne (hi.lt.2.2.2.2.2.2 c 13 hc (by omega))
theorem Zon_Tch {S W PL NC rule c a how r : Nat} {tries : Int32} {b : Bool} (hz : Siz S W PL NC) (hc : c < NC) (ha : a < 16 * PL) {m m' : Rw} (hp : PI S W PL NC m) (h : TchR S W PL NC rule tries c a b m how r m') {i : Nat} (hi : Zon i) : m' i = m i := by
  obtain ⟨p1, p2, p3, p4, p5, p6, p7, p8⟩ := id hz
  have hℓ : a / PL < 16 := (Nat.div_lt_iff_lt_mul p5).mpr (by omega)
  obtain ⟨i1, -, -, i2, -, -, i3⟩ := hi.lt
  obtain ⟨h1, r1, m1, hd, ⟨-, -, -, he⟩ | ⟨-, -, -, he⟩ | ⟨rfl, was, o, m2, -, hb, ⟨e, -, -, he⟩ | ⟨w, e, -, -, he⟩⟩⟩ := h
  · rw [he, Zon_wait (by omega) hi, Zon_Dec hz hc hd hi]
  · rw [he, Zon_Dec hz hc hd hi]
  · rw [he, Zon_Brg hz hc (by omega) (PI_Dec hz (by omega) hd hp).lok hb hi, Zon_Dec hz hc hd hi]
  · subst e
    obtain ⟨hw, hl⟩ := BrgR_line ⟨p1, p2⟩ p4 p6 (by omega) p8 hc hb
    rw [← Zon_Dec hz hc hd hi, ← Zon_Brg hz hc (by omega) (PI_Dec hz (by omega) hd hp).lok hb hi, he]
    have gp := pos_ge c (a / PL % S) w
    have c1 := i3 c 1 (by omega) (by omega)
    split
    · unfold rPut
      try dsimp only
      rw [upd_ne (by omega)]
      split
      · rw [upd_ne (by omega)]
        split
        · exact rWB_low p6 ⟨a / PL, by omega, hl⟩ i2 (by omega)
        · rfl
      · split
        · exact rWB_low p6 ⟨a / PL, by omega, hl⟩ i2 (by omega)
        · rfl
    · unfold rGet
      try dsimp only
      rw [upd_ne c1]
      split
      · rw [upd_ne (by omega)]
      · rfl
theorem Zon_Bgn {S W PL NC c how r : Nat} {tries : Int32} (hz : Siz S W PL NC) (hc : c < NC) {m m' : Rw} (hp : PI S W PL NC m) (h : BgnR S W PL NC tries c m how r m') {i : Nat} (hi : Zon i) : m' i = m i := by
  obtain ⟨p1, p2, p3, p4, p5, p6, p7, p8⟩ := id hz
  obtain ⟨i1, -, -, i2, -, i5, i3⟩ := hi.lt
  have tl : ∀ M, rTail c M i = M i := fun M => rTail_out (fun k hk => i3 c k (by omega) (by omega))
  have c3 := i3 c 3 (by omega) (by omega)
  rcases h with ⟨-, -, -, he⟩ | ⟨-, -, -, -, w, m1, hb, he⟩ | ⟨-, -, -, m1, w, m2, hv, hen, hb, he⟩
  · rw [he, Zon_wait (by omega) hi]
  · have gp := pos_ge c (16 % S) w
    rw [he, tl, upd_ne c3, upd_ne (by omega), Zon_Brg hz hc (by omega) hp.lok hb hi]
  · rw [he, tl, upd_ne c3, upd_ne i5, Zon_Brg hz hc (by omega) (PI_EndsL hz (by omega) NC p8 hen hp).lok hb hi, Zon_EndsL (by omega) p8 hen hi]
theorem CMT_step {S W PL NC rule c how r : Nat} {tries : Int32} {len : Nat → Nat} {so wh : Nat → Nat → Nat} {ix : Nat → Bool} (hz : Siz S W PL NC) (hc : c < NC) {m m' : Rw} (hp : RI S W PL NC len so wh m) (hC : CMT NC len so m) (h : StepR S W PL NC rule tries (len c) (so c) (wh c) ix c m how r m') : CMT NC len so m' := by
  obtain ⟨p1, p2, p3, p4, p5, p6, p7, p8⟩ := id hz
  have hc4 : c < 4 := by omega
  obtain ⟨k, -, hk, ⟨-, -, -, he⟩ | ⟨hl, -, m1, hd, he⟩⟩ := h
  · rw [he]; exact hC
  have hp0 : RI S W PL NC len so wh (upd m 0 (m 0 + nI 1)) := RI_num hz (fun i hi => upd_ne (by omega)) (fun o j _ _ _ _ => upd_ne (by unfold cat; omega)) (upd_ne (by omega)) hp
  have hC0 : CMT NC len so (upd m 0 (m 0 + nI 1)) := CMT_low (fun i hi h0 => upd_ne h0) hC
  have hk0 : upd m 0 (m 0 + nI 1) (cat c 0) = nI k := by rw [upd_ne (by unfold cat; omega)]; exact hk
  generalize upd m 0 (m 0 + nI 1) = m0 at hd hp0 hC0 hk0
  have hC1 : CMT NC len so m1 → CMT NC len so m' := fun z => by
    rw [he]
    split
    · exact CMT_low (fun i hi _ => upd_ne (hi.lt.2.2.2.2.2.2 c 0 hc4 (by omega))) z
    · exact z
  refine hC1 ?_
  rcases hd with ⟨hs, hd⟩ | ⟨hs, -, -, n, m2, h4, hn, hcm, rfl⟩ | ⟨hs, -, -, rfl⟩ | ⟨hs, xx, hx, hxl, hd⟩ | ⟨hs, -, -, y, y1, y2, rfl⟩ | ⟨hs, -, -, y, y1, y2, rfl⟩
  · exact CMT_low (fun i hi _ => Zon_Bgn hz hc hp0.1 hd hi) hC0
  · obtain ⟨k', b, st, c1, c2, c3, c4, c5, c6, c7, -⟩ := hp0.2.2.1 c hc
    have hw := hp0.2.1 c hc
    rw [hk0, nI_inj (by have := hw.1; omega) (by have := hw.1; omega)] at c1
    subst c1
    have hst : st ≠ 0 := c6.mpr ((hw.2.2 k hl).2.2.1 (Or.inl hs))
    obtain ⟨b1, b2, -⟩ := c7 hst
    have lo : ∀ i, i < 318 → m2 i = m0 i := fun i hi => hcm.2 i (fun s w _ _ => by have := pos_ge c s w; omega)
    obtain ⟨n', d1, d2, d3⟩ := hC0
    have hnn : n' = n := by
      rw [h4, nI_inj (by omega) (by omega)] at d2
      exact d2.symm
    subst hnn
    have ge : ∀ j, 6 ≤ cat c j := fun j => by unfold cat; omega
    have lt : ∀ j, j < 14 → cat c j < 62 := fun j hj => cat_lt hc4 hj
    have g3 := ge 3; have g4 := ge 4; have g5 := ge 5; have g11 := ge 11; have g12 := ge 12
    have l3 := lt 3 (by omega); have l4 := lt 4 (by omega); have l5 := lt 5 (by omega); have l11 := lt 11 (by omega); have l12 := lt 12 (by omega); have l6 := lt 6 (by omega)
    have X : ∀ i, 62 ≤ i → i < 62 + 4 * n' → rCmt c n' m2 i = m0 i := fun i a b => by
      unfold rCmt
      rw [upd_ne (by omega), upd_ne (by omega), upd_ne (by omega), upd_ne (by omega), upd_ne (by omega), upd_ne (by omega), upd_ne (by omega), upd_ne (by omega), upd_ne (by omega)]
      split
      · rw [upd_ne (by omega), upd_ne (by omega)]; exact lo i (by omega)
      · exact lo i (by omega)
    refine ⟨n' + 1, by omega, ?_, fun i hi => ?_⟩
    · unfold rCmt
      rw [upd_ne (by omega), upd_ne (by omega), upd_ne (by omega), upd_ne (by omega), upd_eq rfl]
    · by_cases e : i = n'
      · refine ⟨c, b, hc, by omega, b2, ?_, ?_⟩
        · unfold rCmt
          rw [e, upd_ne (by omega), upd_ne (by omega), upd_ne (by omega), upd_ne (by omega), upd_ne (by omega), upd_ne (by omega), upd_ne (by omega), upd_ne (by omega), upd_eq rfl]
        · unfold rCmt
          rw [e, upd_ne (by omega), upd_ne (by omega), upd_ne (by omega), upd_ne (by omega), upd_ne (by omega), upd_ne (by omega), upd_ne (by omega), upd_eq rfl, lo _ (by omega)]
          exact c3
      · rw [X _ (by omega) (by omega), X _ (by omega) (by omega)]
        exact d3 i (by omega)
  · exact CMT_low (fun i hi _ => upd_ne (hi.lt.2.2.2.2.2.2 c 2 hc4 (by omega))) hC0
  · exact CMT_low (fun i hi _ => Zon_Tch hz hc (Nat.mod_lt _ (by omega)) hp0.1 hd hi) hC0
  · exact CMT_low (fun i hi _ => upd_ne (hi.lt.2.2.2.2.2.2 c 1 hc4 (by omega))) hC0
  · exact CMT_low (fun i hi _ => upd_ne (hi.lt.2.2.2.2.2.2 c 1 hc4 (by omega))) hC0
theorem time_step {S W PL NC rule c how r : Nat} {tries : Int32} {len : Nat → Nat} {so wh : Nat → Nat → Nat} {ix : Nat → Bool} (hz : Siz S W PL NC) (hc : c < NC) {m m' : Rw} (hp : RI S W PL NC len so wh m) (h : StepR S W PL NC rule tries (len c) (so c) (wh c) ix c m how r m') : m' 0 = m 0 ∨ m' 0 = m 0 + nI 1 := by
  obtain ⟨p1, p2, p3, p4, p5, p6, p7, p8⟩ := id hz
  have hc4 : c < 4 := by omega
  obtain ⟨k, -, hk, ⟨-, -, -, he⟩ | ⟨hl, -, m1, hd, he⟩⟩ := h
  · left; rw [he]
  right
  have hp0 : RI S W PL NC len so wh (upd m 0 (m 0 + nI 1)) := RI_num hz (fun i hi => upd_ne (by omega)) (fun o j _ _ _ _ => upd_ne (by unfold cat; omega)) (upd_ne (by omega)) hp
  have h0 : upd m 0 (m 0 + nI 1) 0 = m 0 + nI 1 := upd_eq rfl
  have Z : Zon 0 := Or.inl rfl
  generalize upd m 0 (m 0 + nI 1) = m0 at hd hp0 h0
  have hC1 : m1 0 = m0 0 → m' 0 = m 0 + nI 1 := fun z => by
    rw [he]
    split
    · rw [upd_ne (Z.lt.2.2.2.2.2.2 c 0 hc4 (by omega)), z, h0]
    · rw [z, h0]
  refine hC1 ?_
  rcases hd with ⟨hs, hd⟩ | ⟨hs, -, -, n, m2, h4, hn, hcm, rfl⟩ | ⟨hs, -, -, rfl⟩ | ⟨hs, xx, hx, hxl, hd⟩ | ⟨hs, -, -, y, y1, y2, rfl⟩ | ⟨hs, -, -, y, y1, y2, rfl⟩
  · exact Zon_Bgn hz hc hp0.1 hd Z
  · have K := fun k (hk : k < 14) => Z.lt.2.2.2.2.2.2 c k hc4 hk
    have lo : m2 0 = m0 0 := hcm.2 0 (fun s w _ _ => by have := pos_ge c s w; omega)
    unfold rCmt
    rw [upd_ne (K 3 (by omega)), upd_ne (K 5 (by omega)), upd_ne (K 4 (by omega)), upd_ne (K 11 (by omega)), upd_ne (by omega), upd_ne (by omega), upd_ne (by omega), upd_ne (by omega), upd_ne (by omega)]
    split
    · rw [upd_ne (K 12 (by omega)), upd_ne (by omega)]; exact lo
    · exact lo
  · exact upd_ne (Z.lt.2.2.2.2.2.2 c 2 hc4 (by omega))
  · exact Zon_Tch hz hc (Nat.mod_lt _ (by omega)) hp0.1 hd Z
  · exact upd_ne (Z.lt.2.2.2.2.2.2 c 1 hc4 (by omega))
  · exact upd_ne (Z.lt.2.2.2.2.2.2 c 1 hc4 (by omega))
/-! ===== both at once: a step, rounds, draws ===== -/
/-- what is told and a run's rule, alike in both -/
def Stc (S W PL NC rl r : Nat) (len : Nat → Nat) (so wh : Nat → Nat → Nat) (ix : Nat → Nat → Bool) (gc gm : zG) : Prop :=
  CPar S W PL NC gc ∧ MPar S W PL NC gm ∧ (∀ c, c < NC → DeedsC c (len c) (so c) (wh c) (ix c) gc ∧ DeedsM c (len c) (so c) (wh c) (ix c) gm) ∧ gc 8003 r 0 = nI rl ∧ gm 35007 0 0 = nI rl ∧ rl ≤ 2 ∧ gc 9003 r 0 = gm 36007 0 0
theorem Stc.fr {S W PL NC rl r : Nat} {len : Nat → Nat} {so wh : Nat → Nat → Nat} {ix : Nat → Nat → Bool} {gc gm gc' gm' : zG} (h : Stc S W PL NC rl r len so wh ix gc gm) (hc : FrC r gc gc') (hm : ∀ f i j, f ≠ 43 → f ≠ 38007 → f ≠ 42007 → gm' f i j = gm f i j) : Stc S W PL NC rl r len so wh ix gc' gm' := by
  obtain ⟨h1, h2, h3, h4, h5, h6, h7⟩ := h
  refine ⟨h1.fr hc, ?_, fun c a => ⟨(h3 c a).1.fr hc, ?_⟩, ?_, ?_, h6, ?_⟩
  · obtain ⟨z, a, b, d, e⟩ := h2
    exact ⟨z, by rw [hm _ _ _ (by omega) (by omega) (by omega)]; exact a, by rw [hm _ _ _ (by omega) (by omega) (by omega)]; exact b, by rw [hm _ _ _ (by omega) (by omega) (by omega)]; exact d, by rw [hm _ _ _ (by omega) (by omega) (by omega)]; exact e⟩
  · obtain ⟨a, b⟩ := (h3 c a).2
    refine ⟨by rw [hm _ _ _ (by omega) (by omega) (by omega)]; exact a, fun j hj => ?_⟩
    rw [hm _ _ _ (by omega) (by omega) (by omega), hm _ _ _ (by omega) (by omega) (by omega), hm _ _ _ (by omega) (by omega) (by omega)]
    exact b j hj
  · rw [hc _ _ _ (by unfold ofRun; omega)]; exact h4
  · rw [hm _ _ _ (by omega) (by omega) (by omega)]; exact h5
  · rw [hc _ _ _ (by unfold ofRun; omega), hm _ _ _ (by omega) (by omega) (by omega)]; exact h7
def Jn (S W PL NC rl r : Nat) (len : Nat → Nat) (so wh : Nat → Nat → Nat) (ix : Nat → Nat → Bool) (gc gm : zG) : Prop :=
  Stc S W PL NC rl r len so wh ix gc gm ∧ Sim S W PL NC r gc (gm 43 0) ∧ RI S W PL NC len so wh (gm 43 0) ∧ CMT NC len so (gm 43 0)
/-- the reference's frame over many steps -/
def FrS (g g' : zG) : Prop := ∀ f i j, f ≠ 43 → f ≠ 38007 → f ≠ 42007 → g' f i j = g f i j
theorem FrS.rfl' (g : zG) : FrS g g := fun _ _ _ _ _ _ => rfl
theorem FrS.trans {a b c : zG} (h1 : FrS a b) (h2 : FrS b c) : FrS a c := fun f i j x y z => (h2 f i j x y z).trans (h1 f i j x y z)
theorem FrM.S {a b : zG} (h : FrM a b) : FrS a b := fun f i j x y _ => h f i j x y
theorem EndE_eq {e0 r : Nat} {x y : Int32} (h1 : EndE e0 r x) (h2 : EndE e0 r y) : x = y := by
  obtain ⟨a, a1, rfl, a3⟩ := h1
  obtain ⟨b, b1, rfl, b3⟩ := h2
  congr 1
  apply Nat.eq_of_testBit_eq
  intro j
  by_cases hj : j < 4
  · have p := a3 j hj
    have q := b3 j hj
    rw [← q] at p
    cases ha : a.testBit j <;> cases hb : b.testBit j <;> simp_all
  · rw [bit_ge a a1 j (by omega), bit_ge b b1 j (by omega)]
theorem jstep {S W PL NC rl r c : Nat} {len : Nat → Nat} {so wh : Nat → Nat → Nat} {ix : Nat → Nat → Bool} {gc gm : zG} (h : Jn S W PL NC rl r len so wh ix gc gm) (hc : c < NC) :
    ∃ how gc' gm', X3_takeStep r (nI c) gc = some (nI how, gc') ∧ X7_steps (nI c) gm = some (nI how, gm') ∧ how ≤ 3 ∧ Jn S W PL NC rl r len so wh ix gc' gm' ∧ FrC r gc gc' ∧ FrM gm gm' ∧ gc' 12003 r 0 = gm' 38007 0 0 ∧ (gm' 43 0 0 = gm 43 0 0 ∨ gm' 43 0 0 = gm 43 0 0 + nI 1) := by
  obtain ⟨hs, hS, hR, hC⟩ := h
  obtain ⟨h1, h2, h3, h4, h5, h6, h7⟩ := id hs
  obtain ⟨gm', how, rr, k1, k2, k3, k4, k5, k6⟩ := X7_step_RI h2 (ix := ix) hc (h3 c hc).2 h5 h6 hR
  rw [← h7] at k2
  obtain ⟨gc', j1, j2, j3, j4⟩ := c_takeStep h1 hS hR hc (h3 c hc).1 h4 h6 k2
  exact ⟨how, gc', gm', j1, k1, k6, ⟨hs.fr j3 k4.S, j2, k3, CMT_step h1.1.siz hc hR hC k2⟩, j3, k4, EndE_eq j4 k5, time_step h1.1.siz hc hR k2⟩
/-- a core without deeds left: nothing -/
theorem jstep0 {S W PL NC rl r c k : Nat} {len : Nat → Nat} {so wh : Nat → Nat → Nat} {ix : Nat → Nat → Bool} {gc gm : zG} (h : Jn S W PL NC rl r len so wh ix gc gm) (hc : c < NC) (hk : gm 43 0 (cat c 0) = nI k) (hk24 : k ≤ 24) (hl : len c ≤ k) :
    ∃ gm', X7_steps (nI c) gm = some (nI 0, gm') ∧ gm' 43 0 = gm 43 0 ∧ FrM gm gm' := by
  obtain ⟨hs, hS, hR, hC⟩ := h
  obtain ⟨h1, h2, h3, h4, h5, h6, h7⟩ := id hs
  obtain ⟨gm', how, rr, k1, ⟨k', z1, z2, z3⟩, -, k4, -, -⟩ := X7_step_RI h2 (ix := ix) hc (h3 c hc).2 h5 h6 hR
  have : k' = k := by rw [hk, nI_inj (by omega) (by omega)] at z2; exact z2.symm
  subst this
  rcases z3 with ⟨-, rfl, -, z⟩ | ⟨z, -⟩
  · exact ⟨gm', k1, z, k4⟩
  · omega
/-- where a core stands -/
theorem Jn_at {S W PL NC rl r c : Nat} {len : Nat → Nat} {so wh : Nat → Nat → Nat} {ix : Nat → Nat → Bool} {gc gm : zG} (h : Jn S W PL NC rl r len so wh ix gc gm) (hc : c < NC) : ∃ k, gm 43 0 (cat c 0) = nI k ∧ k ≤ len c ∧ len c ≤ 24 := by
  obtain ⟨k, b, st, c1, c2, -⟩ := h.2.2.1.2.2.1 c hc
  exact ⟨k, c1, c2, (h.2.2.1.2.1 c hc).1⟩
theorem Jn_left {S W PL NC rl r c k : Nat} {len : Nat → Nat} {so wh : Nat → Nat → Nat} {ix : Nat → Nat → Bool} {gc gm : zG} (h : Jn S W PL NC rl r len so wh ix gc gm) (hc : c < NC) (hk : gm 43 0 (cat c 0) = nI k) (hk24 : k ≤ 24) : X3_hasDeedsLeft r (nI c) gc = some (bI (decide (k < len c)), gc) ∧ X7_hasLeft (nI c) gm = some (bI (decide (k < len c)), gm) := by
  obtain ⟨hs, hS, hR, hC⟩ := h
  obtain ⟨h1, h2, h3, h4, h5, h6, h7⟩ := id hs
  have hl24 := (hR.2.1 c hc).1
  have hc4 : c < 4 := by have := h1.1.2.2.2.2.2.2.2; omega
  refine ⟨h1.hasDeedsLeft hS hc (h3 c hc).1.1 hl24 hk hk24, ?_⟩
  have e35 := (h3 c hc).2.1
  have hlt := cat_lt hc4 (show 0 < 14 by omega)
  unfold X7_hasLeft
  simp (disch := omega) only [zc_some, zw_eq, zi_nI, nI_clamp, nI_add, nI_1, nI_lti, nI_inj, nI_ltz, nI_eq0, nI_0lt, nI_ne_m1, nI_ne_m2, nI_m1_ne, nI_m2_ne, if_true, if_false, zU_eq, zU_ne, Nat.add_zero, pk_mul, X7_coreAt_ok, hk, e35]
  by_cases e : k < len c
  · rw [if_pos e, decide_eq_true e]; rfl
  · rw [if_neg e, decide_eq_false e]; rfl
theorem hasCore_out {S W PL NC c : Nat} {g : zG} (h : CPar S W PL NC g) (hc : NC ≤ c) (hc4 : c < 2 ^ 31) : X2_hasCore 0 (nI c) g = some (nI 0, g) := by
  obtain ⟨⟨p1, p2, p3, p4, p5, p6, p7, p8⟩, q1, q2, q3, q4⟩ := h
  unfold X2_hasCore
  simp (disch := omega) only [zc_some, zw_eq, zi_nI, nI_clamp, nI_add, nI_1, nI_lti, nI_inj, nI_ltz, nI_eq0, nI_0lt, nI_ne_m1, nI_ne_m2, nI_m1_ne, nI_m2_ne, if_true, if_false, zU_eq, zU_ne, Nat.add_zero, pk_mul, q4, show ¬ c < NC by omega]
theorem hasDeedsLeft_out {S W PL NC r c : Nat} {g : zG} (h : CPar S W PL NC g) (hc : NC ≤ c) (hc4 : c < 2 ^ 31) : X3_hasDeedsLeft r (nI c) g = some (nI 0, g) := by
  unfold X3_hasDeedsLeft
  rw [hasCore_out h hc hc4, zc_some, if_pos (by decide)]
theorem takeStep_out {S W PL NC r c : Nat} {g : zG} (h : CPar S W PL NC g) (hc : NC ≤ c) (hc4 : c < 2 ^ 31) : X3_takeStep r (nI c) g = some (nI 0, zU g 12003 r 0 (nI 0)) := by
  have h' : CPar S W PL NC (zU g 12003 r 0 (nI 0)) := h.fr ((FrC.rfl' r g).u _ _ (by unfold ofRun; omega))
  unfold X3_takeStep
  rw [zw_eq, hasDeedsLeft_out h' hc hc4, zc_some, if_pos (by decide)]
theorem iteB {α : Type} (b : Bool) (A B : α) : (if bI b = 0 then A else B) = if b = true then B else A := by
  cases b with
  | false => rw [if_pos (show bI false = 0 by decide), if_neg (by decide)]
  | true => rw [if_neg (show ¬ bI true = 0 by decide), if_pos rfl]
theorem iteH {α : Type} {how : Nat} (h : how ≤ 3) (A B : α) : (if nI how = 0 then A else B) = if how = 0 then A else B := by
  by_cases e : how = 0
  · subst e; rw [if_pos (show nI 0 = 0 by decide), if_pos rfl]
  · rw [if_neg (by rw [nI_eq0 (by omega)]; exact e), if_neg e]
/-- are all through? -/
theorem jall {S W PL NC rl r : Nat} {len : Nat → Nat} {so wh : Nat → Nat → Nat} {ix : Nat → Nat → Bool} {gc gm : zG} (h : Jn S W PL NC rl r len so wh ix gc gm) :
    ∃ d : Bool, X3_isAllDone r gc = some (bI d, gc) ∧ X7_isAnyLeft gm = some (bI (!d), gm) ∧ (d = true → ∀ c, c < NC → ∃ k, gm 43 0 (cat c 0) = nI k ∧ k ≤ 24 ∧ len c ≤ k) := by
  have hP := h.1.1
  have q5 := h.1.2.1.2.2.2.2
  obtain ⟨p1, p2, p3, p4, p5, p6, p7, p8⟩ := id hP.1
  -- the class
  have cl : ∀ d i n, i + d = 4 → NC ≤ i → X3_isAllDone_l2 (n + d + 1) r (nI i) gc = some (nI 1, gc) := by
    intro d
    induction d with
    | zero =>
      intro i n e _
      rw [X3_isAllDone_l2.eq_2, if_neg (by rw [nI_lti (by omega) (by omega)]; omega)]
    | succ d ih =>
      intro i n e hi
      have := ih (i + 1) n (by omega) (by omega)
      rw [X3_isAllDone_l2.eq_2, if_pos (by rw [nI_lti (by omega) (by omega)]; omega), hasDeedsLeft_out hP hi (by omega), zc_some, if_pos (by decide), nI_add]
      exact this
  have both : ∀ d i n n', i + d = NC → ∃ a : Bool, X3_isAllDone_l2 (n + d + (4 - NC) + 1) r (nI i) gc = some (bI a, gc) ∧ X7_isAnyLeft_l2 (n' + d + 1) (nI i) gm = some (bI (!a), gm) ∧ (a = true → ∀ c, i ≤ c → c < NC → ∃ k, gm 43 0 (cat c 0) = nI k ∧ k ≤ 24 ∧ len c ≤ k) := by
    intro d
    induction d with
    | zero =>
      intro i n n' e
      have e' : i = NC := by omega
      subst e'
      refine ⟨true, ?_, ?_, fun _ c a b => by omega⟩
      · have := cl (4 - i) i n (by omega) (by omega)
        rw [Nat.add_zero]; exact this
      · rw [X7_isAnyLeft_l2.eq_2]
        simp (disch := omega) only [zc_some, zw_eq, zi_nI, nI_clamp, nI_add, nI_1, nI_lti, nI_inj, nI_ltz, nI_eq0, nI_0lt, nI_ne_m1, nI_ne_m2, nI_m1_ne, nI_m2_ne, if_true, if_false, zU_eq, zU_ne, Nat.add_zero, pk_mul, q5, Nat.lt_irrefl]
        rfl
    | succ d ih =>
      intro i n n' e
      obtain ⟨k, k1, k2, k3⟩ := Jn_at h (show i < NC by omega)
      obtain ⟨l1, l2⟩ := Jn_left h (show i < NC by omega) k1 (by omega)
      obtain ⟨a, a1, a2, a3⟩ := ih (i + 1) n n' (by omega)
      have r1 : X3_isAllDone_l2 (n + (d + 1) + (4 - NC) + 1) r (nI i) gc = if k < len i then some (nI 0, gc) else some (bI a, gc) := by
        rw [show n + (d + 1) + (4 - NC) + 1 = (n + d + (4 - NC) + 1) + 1 by omega, X3_isAllDone_l2.eq_2, if_pos (by rw [nI_lti (by omega) (by omega)]; omega), l1, zc_some, iteB, nI_add, a1]
        by_cases z : k < len i
        · rw [if_pos (decide_eq_true z), if_pos z]
        · rw [if_neg (by simp [z]), if_neg z]
      have r2 : X7_isAnyLeft_l2 (n' + (d + 1) + 1) (nI i) gm = if k < len i then some (nI 1, gm) else some (bI (!a), gm) := by
        rw [show n' + (d + 1) + 1 = (n' + d + 1) + 1 by omega, X7_isAnyLeft_l2.eq_2, zi_nI (by omega) (by omega), show (nI 5).toNatClampNeg = 5 from nI_clamp (by omega), q5, if_pos (by rw [nI_lti (by omega) (by omega)]; omega), l2, zc_some, iteB, nI_add, a2]
        by_cases z : k < len i
        · rw [if_pos (decide_eq_true z), if_pos z]
        · rw [if_neg (by simp [z]), if_neg z]
      by_cases z : k < len i
      · exact ⟨false, by rw [r1, if_pos z]; rfl, by rw [r2, if_pos z]; rfl, fun y => by cases y⟩
      · refine ⟨a, by rw [r1, if_neg z], by rw [r2, if_neg z], fun y c b1 b2 => ?_⟩
        by_cases e2 : c = i
        · subst e2; exact ⟨k, k1, by omega, by omega⟩
        · exact a3 y c (by omega) b2
  obtain ⟨a, a1, a2, a3⟩ := both NC 0 (99999 - 4) (99999 - NC) (by omega)
  refine ⟨a, ?_, ?_, fun y c b => a3 y c (Nat.zero_le _) b⟩
  · unfold X3_isAllDone
    rw [show zfuel = 99999 - 4 + NC + (4 - NC) + 1 by have : zfuel = 100000 := rfl; omega]
    exact a1
  · unfold X7_isAnyLeft
    rw [show zfuel = 99999 - NC + NC + 1 by have : zfuel = 100000 := rfl; omega]
    exact a2
