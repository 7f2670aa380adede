/-! ===== feed, done ===== -/
theorem INV_feed {gc gm gc' gm' : zG} {t : Nat} (h : INV gc gm) (hc : ∀ f i j, f ≠ 10 → f ≠ 2000 → gc' f i j = gc f i j) (hm : ∀ f i j, f ≠ 30 → f ≠ 6007 → f ≠ 1007 → gm' f i j = gm f i j) (ht : t ≤ 900) (h1 : gc' 2000 0 0 = nI t) (h2 : gm' 6007 0 0 = nI t) (h3 : ∀ k, k < 900 → gc' 10 0 k = gm' 30 0 k ∧ ∃ v, v < 256 ∧ gm' 30 0 k = nI v) : INV gc' gm' := by
  obtain ⟨⟨-, -, b5, b6, b7, b8, b9, b, b10, b11⟩, hT⟩ := h
  refine ⟨⟨⟨t, ht, h1, h2⟩, h3, ?_, ?_, fun z => ?_, ?_, fun c a => ?_, b, ?_, ?_⟩, ?_⟩
  · rw [hc _ _ _ (by omega) (by omega), hm _ _ _ (by omega) (by omega) (by omega)]; exact b5
  · rw [hc _ _ _ (by omega) (by omega), hm _ _ _ (by omega) (by omega) (by omega)]; exact b6
  · rw [hm _ _ _ (by omega) (by omega) (by omega)] at z
    rw [hc _ _ _ (by omega) (by omega), hm _ _ _ (by omega) (by omega) (by omega)]; exact b7 z
  · rw [hc _ _ _ (by omega) (by omega), hm _ _ _ (by omega) (by omega) (by omega)]; exact b8
  · rw [hc _ _ _ (by omega) (by omega), hm _ _ _ (by omega) (by omega) (by omega)]; exact b9 c a
  · rw [hc _ _ _ (by omega) (by omega)]; exact b10
  · rw [hm _ _ _ (by omega) (by omega) (by omega)]; exact b11
  · rcases hT with ⟨a1, a2, a3, a4, a5, a6, a7⟩ | ⟨S, W, PL, NC, rl, tr, len, so, wh, ix, hT, hB, hK⟩
    · refine Or.inl ⟨?_, ?_, ?_, ?_, ?_, ?_, fun c a => ?_⟩
      · rw [hc _ _ _ (by omega) (by omega)]; exact a1
      · rw [hm _ _ _ (by omega) (by omega) (by omega)]; exact a2
      · rw [hc _ _ _ (by omega) (by omega)]; exact a3
      · rw [hc _ _ _ (by omega) (by omega)]; exact a4
      · rw [hc _ _ _ (by omega) (by omega)]; exact a5
      · rw [hc _ _ _ (by omega) (by omega)]; exact a6
      · rw [hc _ _ _ (by omega) (by omega)]; exact a7 c a
    · have e43 : gm' 43 0 = gm 43 0 := funext (fun k => hm _ _ _ (by omega) (by omega) (by omega))
      have e45 : gm' 45 0 = gm 45 0 := funext (fun k => hm _ _ _ (by omega) (by omega) (by omega))
      refine Or.inr ⟨S, W, PL, NC, rl, tr, len, so, wh, ix, hT.fr (fun f i j a _ => hc f i j (by omega) (by omega)) (fun f i j a => hm f i j (by omega) (by omega) (by omega)), ?_, fun z => ?_⟩
      · rw [e43]
        exact hB.fr hT.1.1 (fun f i j a _ => hc f i j (by unfold ofRun at a; omega) (by unfold ofRun at a; omega))
      · rw [e45]
        rw [hm _ _ _ (by omega) (by omega) (by omega)] at z
        exact (hK z).fr hT.1.1 (fun f i j a _ => hc f i j (by unfold ofRun at a; omega) (by unfold ofRun at a; omega))
/-- the tape of both -/
def TP (t : Nat) (gc gm : zG) : Prop := gc 2000 0 0 = nI t ∧ gm 6007 0 0 = nI t ∧ ∀ k, k < 900 → gc 10 0 k = gm 30 0 k ∧ ∃ v, v < 256 ∧ gm 30 0 k = nI v
theorem TP.put {t : Nat} {gc gm : zG} {x : Int32} (h : TP t gc gm) (u : Nat) (hu : u < 900) (hx : ∃ v, v < 256 ∧ x = nI v) : ∀ k, k < 900 → zU gc 10 0 u x 10 0 k = zU gm 30 0 u x 30 0 k ∧ ∃ v, v < 256 ∧ zU gm 30 0 u x 30 0 k = nI v := fun k hk => by
  by_cases e : k = u
  · subst e; rw [zU_self, zU_self]; exact ⟨rfl, hx⟩
  · rw [zU_ne _ _ (by omega), zU_ne _ _ (by omega)]; exact h.2.2 k hk
theorem byteI (x : Int32) : ∃ v, v < 256 ∧ x &&& nI 255 = nI v := by
  obtain ⟨j, h1, h2⟩ := pk_andE x (m := nI 255) 8 (by decide)
  exact ⟨j, h1, h2⟩
theorem jput {t : Nat} {gc gm : zG} (v : Int32) (h : TP t gc gm) (ht : t + 4 ≤ 900) : ∃ gc' gm', X6_putBytes v gc = some (0, gc') ∧ X7_lays v gm = some (0, gm') ∧ TP (t + 4) gc' gm' ∧ (∀ f i j, f ≠ 10 → f ≠ 2000 → gc' f i j = gc f i j) ∧ ∀ f i j, f ≠ 30 → f ≠ 6007 → gm' f i j = gm f i j := by
  obtain ⟨h1, h2, h3⟩ := id h
  have s0 : nI 24 + -8 = nI 16 := by decide
  have s1 : nI 16 + -8 = nI 8 := by decide
  have s2 : nI 8 + -8 = nI 0 := by decide
  have s3 : nI 0 + -8 < 0 := by decide
  have r0 : nI 24 - nI 8 * nI 0 = nI 24 := by decide
  have r1 : nI 24 - nI 8 * nI 1 = nI 16 := by decide
  have r2 : nI 24 - nI 8 * nI 2 = nI 8 := by decide
  have r3 : nI 24 - nI 8 * nI 3 = nI 0 := by decide
  have c1 : ∀ n s u g, g 2000 0 0 = nI u → u < 900 → s < 2 ^ 31 → X6_putBytes_l3 (n + 1) v (nI s) g = X6_putBytes_l3 n v (nI s + -8) (zU (zU g 10 0 u ((v >>> (nI s &&& 31)) &&& nI 255)) 2000 0 0 (nI (u + 1))) := fun n s u g e hu hs => by
    rw [X6_putBytes_l3.eq_2]
    unfold X6_putBytes_b43
    simp (disch := omega) only [zc_some, zw_eq, zi_nI, nI_clamp, nI_add, nI_1, nI_lti, nI_inj, nI_ltz, nI_eq0, nI_0lt, nI_ne_m1, nI_ne_m2, nI_m1_ne, nI_m2_ne, if_true, if_false, zU_eq, zU_ne, Nat.add_zero, pk_mul, e, hu]
  have m1 : ∀ n k g, g 6007 0 0 = nI t → k < 4 → X7_lays_l2 (n + 1) v (nI k) g = X7_lays_l2 n v (nI (k + 1)) (zU g 30 0 (t + k) ((v >>> ((nI 24 - nI 8 * nI k) &&& 31)) &&& nI 255)) := fun n k g e hk => by
    rw [X7_lays_l2.eq_2, if_pos (by rw [nI_lti (by omega) (by omega)]; exact hk), e, nI_add, zi_nI (show t + k < 900 by omega) (by omega), show (nI (t + k)).toNatClampNeg = t + k from nI_clamp (by omega), zw_eq, nI_add]
  generalize hb0 : (v >>> (nI 24 &&& 31)) &&& nI 255 = b0 at *
  generalize hb1 : (v >>> (nI 16 &&& 31)) &&& nI 255 = b1 at *
  generalize hb2 : (v >>> (nI 8 &&& 31)) &&& nI 255 = b2 at *
  generalize hb3 : (v >>> (nI 0 &&& 31)) &&& nI 255 = b3 at *
  have k0 : ∃ x, x < 256 ∧ b0 = nI x := by rw [← hb0]; exact byteI _
  have k1 : ∃ x, x < 256 ∧ b1 = nI x := by rw [← hb1]; exact byteI _
  have k2 : ∃ x, x < 256 ∧ b2 = nI x := by rw [← hb2]; exact byteI _
  have k3 : ∃ x, x < 256 ∧ b3 = nI x := by rw [← hb3]; exact byteI _
  have p0 : TP t (zU gc 10 0 t b0) (zU gm 30 0 t b0) := ⟨by rw [zU_ne _ _ (by omega)]; exact h1, by rw [zU_ne _ _ (by omega)]; exact h2, h.put t (by omega) k0⟩
  have p1 : TP t (zU (zU gc 10 0 t b0) 10 0 (t + 1) b1) (zU (zU gm 30 0 t b0) 30 0 (t + 1) b1) := ⟨by rw [zU_ne _ _ (by omega)]; exact p0.1, by rw [zU_ne _ _ (by omega)]; exact p0.2.1, p0.put (t + 1) (by omega) k1⟩
  have p2 : TP t (zU (zU (zU gc 10 0 t b0) 10 0 (t + 1) b1) 10 0 (t + 2) b2) (zU (zU (zU gm 30 0 t b0) 30 0 (t + 1) b1) 30 0 (t + 2) b2) := ⟨by rw [zU_ne _ _ (by omega)]; exact p1.1, by rw [zU_ne _ _ (by omega)]; exact p1.2.1, p1.put (t + 2) (by omega) k2⟩
  have p3 := p2.put (t + 3) (by omega) k3
  refine ⟨zU (zU (zU (zU (zU (zU (zU (zU gc 10 0 t b0) 2000 0 0 (nI (t + 1))) 10 0 (t + 1) b1) 2000 0 0 (nI (t + 1 + 1))) 10 0 (t + 1 + 1) b2) 2000 0 0 (nI (t + 1 + 1 + 1))) 10 0 (t + 1 + 1 + 1) b3) 2000 0 0 (nI (t + 1 + 1 + 1 + 1)), zU (zU (zU (zU (zU gm 30 0 t b0) 30 0 (t + 1) b1) 30 0 (t + 2) b2) 30 0 (t + 3) b3) 6007 0 0 (nI (t + 4)), ?_, ?_, ⟨?_, ?_, fun k hk => ?_⟩, fun f i j a b => ?_, fun f i j a b => ?_⟩
  · unfold X6_putBytes
    rw [show zfuel = 99995 + 1 + 1 + 1 + 1 + 1 from rfl, c1 _ 24 t _ h1 (by omega) (by omega), hb0, s0, c1 _ 16 (t + 1) _ (zU_self _ _ _ _ _) (by omega) (by omega), hb1, s1, c1 _ 8 (t + 1 + 1) _ (zU_self _ _ _ _ _) (by omega) (by omega), hb2, s2, c1 _ 0 (t + 1 + 1 + 1) _ (zU_self _ _ _ _ _) (by omega) (by omega), hb3, X6_putBytes_l3.eq_2, if_pos s3]
  · unfold X7_lays
    have E : ∀ g : zG, ∀ u x, zU g 30 0 u x 6007 0 0 = g 6007 0 0 := fun g u x => zU_ne _ _ (by omega)
    rw [show zfuel = 99995 + 1 + 1 + 1 + 1 + 1 from rfl, m1 _ 0 _ h2 (by omega), r0, hb0, m1 _ 1 _ (by rw [E]; exact h2) (by omega), r1, hb1, m1 _ 2 _ (by rw [E, E]; exact h2) (by omega), r2, hb2, m1 _ 3 _ (by rw [E, E, E]; exact h2) (by omega), r3, hb3, X7_lays_l2.eq_2, if_neg (by decide), zw_eq, E, E, E, E, h2, nI_add]
    try rfl
  · rw [zU_self]
  · rw [zU_self]
  · rw [zU_ne (zU (zU (zU (zU gm 30 0 t b0) 30 0 (t + 1) b1) 30 0 (t + 2) b2) 30 0 (t + 3) b3) _ (by omega)]
    have e : ∀ a, (zU (zU (zU (zU (zU (zU (zU (zU gc 10 0 t b0) 2000 0 0 (nI (t + 1))) 10 0 (t + 1) b1) 2000 0 0 (nI (t + 1 + 1))) 10 0 (t + 1 + 1) b2) 2000 0 0 (nI (t + 1 + 1 + 1))) 10 0 (t + 1 + 1 + 1) b3) 2000 0 0 (nI (t + 1 + 1 + 1 + 1))) 10 0 a = zU (zU (zU (zU gc 10 0 t b0) 10 0 (t + 1) b1) 10 0 (t + 2) b2) 10 0 (t + 3) b3 10 0 a := fun a => by
      unfold zU
      simp
    rw [e]
    exact p3 k hk
  · simp (disch := omega) only [zU_ne]
  · simp (disch := omega) only [zU_ne]
theorem q_feed {gc gm : zG} (h : INV gc gm) (v1 v2 v3 v4 v5 : Int32) : Alike (X6_feed v1 v2 v3 v4 v5 gc) (X7_feed v1 v2 v3 v4 v5 gm) := by
  obtain ⟨⟨⟨t, b1, b2, b3⟩, b4, -⟩, hT⟩ := id h
  unfold X6_feed X7_feed
  rw [zw_eq, zU_ne _ _ (by omega), b2, b3, nI_add]
  have e : (nI 900 < nI (t + 20)) = (nI 880 < nI t) := by rw [nI_lti (by omega) (by omega), nI_lti (by omega) (by omega)]; exact propext ⟨fun z => by omega, fun z => by omega⟩
  by_cases z : nI 880 < nI t
  · rw [if_pos z, if_pos (by rw [e]; exact z)]; exact t_alike h _ _
  · rw [if_neg z, if_neg (by rw [e]; exact z)]
    rw [nI_lti (by omega) (by omega)] at z
    have T0 : TP t gc (zU gm 1007 0 0 (nI 0)) := ⟨b2, by rw [zU_ne _ _ (by omega)]; exact b3, fun k hk => by rw [zU_ne _ _ (by omega)]; exact b4 k hk⟩
    obtain ⟨c1, m1, x1, y1, T1, f1, g1⟩ := jput v1 T0 (by omega)
    obtain ⟨c2, m2, x2, y2, T2, f2, g2⟩ := jput v2 T1 (by omega)
    obtain ⟨c3, m3, x3, y3, T3, f3, g3⟩ := jput v3 T2 (by omega)
    obtain ⟨c4, m4, x4, y4, T4, f4, g4⟩ := jput v4 T3 (by omega)
    obtain ⟨c5, m5, x5, y5, T5, f5, g5⟩ := jput v5 T4 (by omega)
    rw [x1, y1, zc_some, zc_some, x2, y2, zc_some, zc_some, x3, y3, zc_some, zc_some, x4, y4, zc_some, zc_some, x5, y5, zc_some, zc_some, T5.1, T5.2.1]
    exact ⟨_, _, _, rfl, rfl, INV_feed h (fun f i j a b => by rw [f5 f i j a b, f4 f i j a b, f3 f i j a b, f2 f i j a b, f1 f i j a b]) (fun f i j a b d => by rw [g5 f i j a b, g4 f i j a b, g3 f i j a b, g2 f i j a b, g1 f i j a b, zU_ne _ _ (by omega)]) (by omega) T5.1 T5.2.1 T5.2.2⟩
/-- done: which core, or that there is none -/
theorem q_done {gc gm : zG} (h : INV gc gm) (v : Int32) : ∃ gm', INV gc gm' ∧ ((∃ c, c < 4 ∧ X6_done v gc = some (nI c, gc) ∧ X7_done v gm = some (nI c, gm') ∧ gm' 1007 0 0 = nI 0) ∨ (X6_done v gc = some (nI 1000, gc) ∧ X7_done v gm = some (nI 0, gm') ∧ gm' 1007 0 0 = nI 1)) := by
  unfold X6_done X7_done
  rw [zw_eq]
  have h0 : INV gc (zU gm 1007 0 0 (nI 0)) := INV_t h _
  rcases h0.2 with ⟨a1, a2, a3, -⟩ | ⟨S, W, PL, NC, rl, tr, len, so, wh, ix, hT⟩
  · refine ⟨zU (zU gm 1007 0 0 (nI 0)) 1007 0 0 (nI 1), INV_t h0 _, Or.inr ⟨?_, ?_, zU_self _ _ _ _ _⟩⟩
    · have hno : ∀ i, i < 4 → X2_hasCore 0 (nI i) gc = some (nI 0, gc) := fun i hi => by
        unfold X2_hasCore
        rw [a3, if_neg (nI_pos (by omega)), if_neg (show ¬ nI i < nI 0 from nI_pos (by omega))]
      have st : ∀ n i u, i < 4 → X6_done_l4 (n + 1) v u (nI i) gc = X6_done_l4 n v u (nI (i + 1)) gc := fun n i u hi => by
        rw [X6_done_l4.eq_2, if_pos (by rw [nI_lti (by omega) (by omega)]; exact hi), hno i hi, zc_some, ite0]
        unfold X6_done_b41
        rw [nI_add]
      rw [show zfuel = 99995 + 1 + 1 + 1 + 1 + 1 from rfl, st _ 0 _ (by omega), st _ 1 _ (by omega), st _ 2 _ (by omega), st _ 3 _ (by omega), X6_done_l4.eq_2, if_neg (by decide)]
    · rw [show zfuel = 99999 + 1 from rfl, X7_done_l9.eq_2, a2, ite0]
      rfl
  · have hJ := hT.Jn
    have hP := hT.1.1
    have t21 := hT.1.2.2.2.2.2.2.2.2.2.2.2.2.2.2.2.2
    have m5 := hT.1.2.1.2.2.2.2
    obtain ⟨p1, p2, p3, p4, p5, p6, p7, p8⟩ := id hP.1
    have cl : ∀ d i n u, i + d = 4 → NC ≤ i → X6_done_l4 (n + d + 1) v u (nI i) gc = some (nI 1000, gc) := by
      intro d
      induction d with
      | zero =>
        intro i n u e _
        rw [X6_done_l4.eq_2, if_neg (by rw [nI_lti (by omega) (by omega)]; omega)]
      | succ d ih =>
        intro i n u e hi
        rw [show n + (d + 1) + 1 = (n + d + 1) + 1 by omega, X6_done_l4.eq_2, if_pos (by rw [nI_lti (by omega) (by omega)]; omega), hasCore_out hP hi (by omega), zc_some, ite0]
        unfold X6_done_b41
        rw [nI_add]
        exact ih (i + 1) n u (by omega) (by omega)
    have both : ∀ d i n n' u, i + d = NC → ∃ gm', INV gc gm' ∧ ((∃ c, c < 4 ∧ X6_done_l4 (n + d + (4 - NC) + 1) v u (nI i) gc = some (nI c, gc) ∧ X7_done_l9 (fun g => X7_done_b50 g) (n' + d + 1) v u (nI i) (zU gm 1007 0 0 (nI 0)) = some (nI c, gm') ∧ gm' 1007 0 0 = nI 0) ∨ (X6_done_l4 (n + d + (4 - NC) + 1) v u (nI i) gc = some (nI 1000, gc) ∧ X7_done_l9 (fun g => X7_done_b50 g) (n' + d + 1) v u (nI i) (zU gm 1007 0 0 (nI 0)) = some (nI 0, gm') ∧ gm' 1007 0 0 = nI 1)) := by
      intro d
      induction d with
      | zero =>
        intro i n n' u e
        have e' : i = NC := by omega
        subst e'
        refine ⟨zU (zU gm 1007 0 0 (nI 0)) 1007 0 0 (nI 1), INV_t h0 _, Or.inr ⟨by rw [show n + 0 + (4 - i) + 1 = n + (4 - i) + 1 by omega]; exact cl (4 - i) i n u (by omega) (by omega), ?_, zU_self _ _ _ _ _⟩⟩
        rw [X7_done_l9.eq_2, t21, ite1, zi_nI (by omega) (by omega), show (nI 5).toNatClampNeg = 5 from nI_clamp (by omega), m5, if_neg (by rw [nI_lti (by omega) (by omega)]; omega)]
        rfl
      | succ d ih =>
        intro i n n' u e
        obtain ⟨k, k1, k2, k3⟩ := Jn_at hJ (show i < NC by omega)
        obtain ⟨l1, l2⟩ := Jn_left hJ (show i < NC by omega) k1 (by omega)
        have r1 : X6_done_l4 (n + (d + 1) + (4 - NC) + 1) v u (nI i) gc = if k < len i then X6_done_l4 (n + d + (4 - NC) + 1) v u (nI (i + 1)) gc else if u = v then some (nI i, gc) else X6_done_l4 (n + d + (4 - NC) + 1) v (u + nI 1) (nI (i + 1)) gc := by
          rw [show n + (d + 1) + (4 - NC) + 1 = (n + d + (4 - NC) + 1) + 1 by omega, X6_done_l4.eq_2, if_pos (by rw [nI_lti (by omega) (by omega)]; omega), hP.hasCore (by omega), zc_some, ite1, l1, zc_some, iteB]
          unfold X6_done_b41
          rw [nI_add]
          by_cases z : k < len i
          · rw [if_pos (decide_eq_true z), if_pos z]
          · rw [if_neg (by simp [z]), if_neg z]
        have r2 : X7_done_l9 (fun g => X7_done_b50 g) (n' + (d + 1) + 1) v u (nI i) (zU gm 1007 0 0 (nI 0)) = if k < len i then X7_done_l9 (fun g => X7_done_b50 g) (n' + d + 1) v u (nI (i + 1)) (zU gm 1007 0 0 (nI 0)) else if u = v then some (nI i, zU gm 1007 0 0 (nI 0)) else X7_done_l9 (fun g => X7_done_b50 g) (n' + d + 1) v (u + nI 1) (nI (i + 1)) (zU gm 1007 0 0 (nI 0)) := by
          rw [show n' + (d + 1) + 1 = (n' + d + 1) + 1 by omega, X7_done_l9.eq_2, t21, ite1, zi_nI (by omega) (by omega), show (nI 5).toNatClampNeg = 5 from nI_clamp (by omega), m5, if_pos (by rw [nI_lti (by omega) (by omega)]; omega), l2, zc_some, iteB]
          unfold X7_done_b44
          rw [nI_add]
          by_cases z : k < len i
          · rw [if_pos (decide_eq_true z), if_pos z]
          · rw [if_neg (by simp [z]), if_neg z]
        rw [r1, r2]
        by_cases z : k < len i
        · rw [if_pos z, if_pos z]; exact ih (i + 1) n n' u (by omega)
        · rw [if_neg z, if_neg z]
          by_cases y : u = v
          · rw [if_pos y, if_pos y]
            exact ⟨_, h0, Or.inl ⟨i, by omega, rfl, rfl, zU_self _ _ _ _ _⟩⟩
          · rw [if_neg y, if_neg y]; exact ih (i + 1) n n' _ (by omega)
    have := both NC 0 (99999 - 4) (99999 - NC) (nI 0) (by omega)
    rw [show 99999 - 4 + NC + (4 - NC) + 1 = zfuel by have : zfuel = 100000 := rfl; omega, show 99999 - NC + NC + 1 = zfuel by have : zfuel = 100000 := rfl; omega] at this
    exact this
