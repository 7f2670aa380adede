/-! ===== waysFor ===== -/
theorem zU_fr {g g' : zG} {f0 i0 j0 : Nat} {v : Int32} {P : Nat → Prop} (h : ∀ f i j, P f → g' f i j = g f i j) : ∀ f i j, P f → zU g' f0 i0 j0 v f i j = zU g f0 i0 j0 v f i j := fun f i j x => by
  by_cases z : f = f0 ∧ i = i0 ∧ j = j0
  · rw [zU_eq _ _ z, zU_eq _ _ z]
  · rw [zU_ne _ _ z, zU_ne _ _ z]; exact h f i j x
theorem INV_frO {gc gm gc' : zG} (h : INV gc gm) (hf : FrO gc gc') : INV gc' gm := by
  have G : ∀ f i j, f ≠ 29 → f % 1000 ≠ 6 → gc' f i j = gc f i j := fun f i j a b => hf f i j a (by omega) (by omega) (by omega) (by omega)
  obtain ⟨⟨⟨t, b1, b2, b3⟩, b4, b5, b6, b7, b8, b9, b, b10, b11⟩, hT⟩ := h
  refine ⟨⟨⟨t, b1, by rw [G _ _ _ (by omega) (by omega)]; exact b2, b3⟩, fun k hk => ?_, ?_, ?_, fun z => ?_, ?_, fun c a => ?_, b, ?_, b11⟩, ?_⟩
  · rw [G _ _ _ (by omega) (by omega)]; exact b4 k hk
  · rw [G _ _ _ (by omega) (by omega)]; exact b5
  · rw [G _ _ _ (by omega) (by omega)]; exact b6
  · rw [G _ _ _ (by omega) (by omega)]; exact b7 z
  · rw [G _ _ _ (by omega) (by omega)]; exact b8
  · rw [G _ _ _ (by omega) (by omega)]; exact b9 c a
  · rw [G _ _ _ (by omega) (by omega)]; exact b10
  · rcases hT with ⟨a1, a2, a3, a4, a5, a6, a7⟩ | ⟨S, W, PL, NC, rl, tr, len, so, wh, ix, hT⟩
    · refine Or.inl ⟨?_, a2, ?_, ?_, ?_, ?_, fun c a => ?_⟩
      · rw [G _ _ _ (by omega) (by omega)]; exact a1
      · rw [G _ _ _ (by omega) (by omega)]; exact a3
      · rw [G _ _ _ (by omega) (by omega)]; exact a4
      · rw [G _ _ _ (by omega) (by omega)]; exact a5
      · rw [G _ _ _ (by omega) (by omega)]; exact a6
      · rw [G _ _ _ (by omega) (by omega)]; exact a7 c a
    · have hz := hT.1.1.1
      exact Or.inr ⟨S, W, PL, NC, rl, tr, len, so, wh, ix, hT.1.fr (fun f i j a _ => G f i j (by omega) (by omega)) (fun f i j a => rfl), hT.2.1.fr hz (fun f i j a _ => hf f i j (by unfold ofRun at a; omega) (by unfold ofRun at a; omega) (by unfold ofRun at a; omega) (by unfold ofRun at a; omega) (by unfold ofRun at a; omega)), fun z => (hT.2.2 z).fr hz (fun f i j a _ => hf f i j (by unfold ofRun at a; omega) (by unfold ofRun at a; omega) (by unfold ofRun at a; omega) (by unfold ofRun at a; omega) (by unfold ofRun at a; omega))⟩
theorem sRun_mono (S PL : Nat) (so wh : Nat → Nat) (ix : Nat → Bool) (t : St) (k : Nat) : ∀ n, t.2.2.2.2 ≤ (sRun S PL so wh ix t k n).2.2.2.2 := by
  intro n
  induction n with
  | zero => exact Nat.le_refl _
  | succ n ih => exact Nat.le_trans ih (sDeed_mono S PL _ _ _ _).1
/-- so many ways a core alone needs -/
def needs (S PL len : Nat) (so wh : Nat → Nat) (ix : Nat → Bool) (w : Nat → Nat) : Nat := (sRun S PL so wh ix (w, 0, 0, 0, 1) 0 len).2.2.2.2
theorem isEnough_ok {S W0 PL NC rl tr c W : Nat} {len : Nat → Nat} {so wh : Nat → Nat → Nat} {ix : Nat → Nat → Bool} {gc gm g : zG} (hT : Tld S W0 PL NC rl tr len so wh ix gc gm) (hc : c < NC) (hW : 1 ≤ W ∧ W ≤ 17) (hf : ∀ f i j, f ≠ 43 → f ≠ 44 → f ≠ 38007 → f ≠ 37007 → g f i j = gm f i j) :
    ∃ ans g', X7_isEnough (nI c) (nI W) g = some (ans, g') ∧ (∀ f i j, f ≠ 43 → f ≠ 38007 → f ≠ 37007 → g' f i j = g f i j) ∧ ((ans = nI 1 ∧ needs S PL (len c) (so c) (wh c) (ix c) (fstW gm) ≤ W) ∨ (ans = nI 0 ∧ W < needs S PL (len c) (so c) (wh c) (ix c) (fstW gm))) := by
  obtain ⟨p1, p2, p3, p4, p5, p6, p7, p8⟩ := id hT.1.1.1
  have hz : Siz S W PL NC := ⟨p1, p2, by omega, by omega, p5, p6, p7, p8⟩
  obtain ⟨t1, ⟨u0, u1, u2, u3, u4⟩, t3, t4, t5, t6, t7, t8, t9, t10, t11, t12, t13, t14, t15, t16, t17⟩ := id hT.1
  obtain ⟨fw1, fw2⟩ := fstW_ok hT.1
  obtain ⟨g1, b1, b2, b3⟩ := X7_begins_ok g
  have e33 : ∀ a, g 33 0 a = gm 33 0 a := fun a => hf _ _ _ (by omega) (by omega) (by omega) (by omega)
  have F : ∀ f i j, f ≠ 43 → f ≠ 44 → f ≠ 38007 → f ≠ 37007 → zU g1 37007 0 0 (nI W) f i j = gm f i j := fun f i j x y z q => by rw [zU_ne _ _ (by omega), b3 f i j x]; exact hf f i j x y z q
  have e43 : zU g1 37007 0 0 (nI W) 43 0 = g1 43 0 := zU_row' _ _ _ _ _ (by decide)
  have hR := BegM.RI (S := S) (W := W) (PL := PL) (NC := NC) (len := len) (so := so) (wh := wh) hz b2 (fun a ha => by rw [e33]; exact (t15 a ha).2) (fun c hc => (t13 c hc).2.2.1)
  obtain ⟨dC, ⟨x1, x2⟩, hw, -⟩ := t13 c hc
  have hl := hw.1
  have hc4 : c < 4 := by omega
  have cz : ∀ k, k < 14 → g1 43 0 (cat c k) = if k = 5 then -2 else nI 0 := fun k hk => by
    have := cat_lt hc4 hk
    rw [b2 _ (by omega)]; exact begR_cat _ hc4 hk
  have pz : ∀ o s w f, o < 4 → s < 4 → w < 17 → f < 9 → g1 43 0 (pos o s w + f) = if f = 0 then -2 else nI 0 := fun o s w f a b d e => by
    have := pos_lt a b d
    rw [b2 _ (by omega)]; exact begR_pos _ e
  have pz0 : ∀ o s w, o < 4 → s < 4 → w < 17 → g1 43 0 (pos o s w) = -2 := fun o s w a b d => by
    have := pz o s w 0 a b d (by omega)
    rwa [Nat.add_zero, if_pos rfl] at this
  have hSol : Sol S W PL NC rl tr c len so wh (ix c) (zU g1 37007 0 0 (nI W)) := by
    refine ⟨⟨hz, ?_, ?_, ?_, ?_⟩, ⟨?_, fun j hj => ?_⟩, ?_, t8, ?_, ?_⟩
    · rw [F _ _ _ (by omega) (by omega) (by omega) (by omega)]; exact u1
    · rw [zU_self]
    · rw [F _ _ _ (by omega) (by omega) (by omega) (by omega)]; exact u3
    · rw [F _ _ _ (by omega) (by omega) (by omega) (by omega)]; exact u4
    · rw [F _ _ _ (by omega) (by omega) (by omega) (by omega)]; exact x1
    · rw [F 37 _ _ (by omega) (by omega) (by omega) (by omega), F 39 _ _ (by omega) (by omega) (by omega) (by omega), F 41 _ _ (by omega) (by omega) (by omega) (by omega)]; exact x2 j hj
    · rw [F _ _ _ (by omega) (by omega) (by omega) (by omega)]; exact t6
    · rw [F _ _ _ (by omega) (by omega) (by omega) (by omega)]; exact t7
    · rw [e43]; exact hR.1
  have hC : Cmn S W NC c tr 0 0 0 0 (zU g1 37007 0 0 (nI W) 43 0) := by
    rw [e43]
    refine ⟨?_, ?_, by omega, ?_, ?_, Or.inl rfl, fun z => by omega, fun z => by omega, ?_, fun o s w a _ b d => pz0 o s w (by omega) (by omega) (by omega)⟩
    · rw [cz 0 (by omega), if_neg (by omega)]
    · rw [cz 3 (by omega), if_neg (by omega)]
    · rw [if_neg (by omega), b2 5 (by omega)]; rfl
    · rw [cz 4 (by omega), if_neg (by omega)]
    · rw [cz 8 (by omega), if_neg (by omega)]
  have hS : SY S W PL c (opn (so c) 0) (zU g1 37007 0 0 (nI W) 43 0) (sRun S PL (so c) (wh c) (ix c) (fstW gm, 0, 0, 0, 1) 0 0) := by
    rw [e43]
    refine ⟨?_, ?_, ⟨fun ℓ w k a b d x => ?_, fun ℓ k a b _ => ?_⟩, (fun z => by cases z), ⟨fw2, by simp [sRun], by simp [sRun], by simp [sRun], by simp [sRun]⟩, hW.1⟩
    · rw [cz 1 (by omega), if_neg (by omega)]; rfl
    · rw [cz 2 (by omega), if_neg (by omega)]; rfl
    · have hs' : ℓ % S < S := Nat.mod_lt _ p1
      rw [pz0 _ _ _ hc4 (by omega) (by omega)] at x
      exact absurd x.symm (ne_m2_of rfl (by omega))
    · have := mul_le_64 p6 a
      rw [b2 _ (by omega)]
      unfold begR
      rw [if_neg (by omega), if_neg (by omega), if_pos (by omega), show 254 + PL * ℓ + k - 254 = PL * ℓ + k by omega, e33]
      exact (fw1 _ (by omega)).2
  obtain ⟨ans, g', y1, y2, y3⟩ := solo_A (f := zfuel - 1001 - len c) hc ⟨t9, t10⟩ (len c) 0 0 _ (by omega) hSol hC hS
  have hzf : zfuel = 100000 := rfl
  rw [show zfuel - 1001 - len c + 1000 + len c + 1 = zfuel by omega] at y1
  refine ⟨ans, g', ?_, fun f i j x y z => ?_, y3⟩
  · unfold X7_isEnough
    rw [b1, zc_some, zw_eq]
    exact y1
  · rw [y2 f i j x y, zU_ne _ _ (by omega), b3 f i j x]
theorem q_waysFor {gc gm : zG} (h : INV gc gm) (v : Int32) : Alike (X6_waysFor v gc) (X7_waysFor v gm) := by
  unfold X6_waysFor X7_waysFor
  rw [X7_anew_eq]
  rcases core_cases h v with ⟨a, b⟩ | ⟨S, W, PL, NC, rl, tr, len, so, wh, ix, c, hT, hc, hN, rfl, a, b⟩
  · rw [a, b, zc_some, zc_some, ite0, ite0]; exact no_alike h (by omega)
  · obtain ⟨fw1, fw2⟩ := fstW_ok hT.1
    obtain ⟨p1, p2, p3, p4, p5, p6, p7, p8⟩ := id hT.1.1.1
    obtain ⟨gc0, a1, a2, a3⟩ := X4_startOver_ok (fun i hi => (fw1 i hi).1)
    obtain ⟨t1, t2, t3, t4, t5, t6, t7, t8, t9, t10, t11, t12, t13, -⟩ := id hT.1
    obtain ⟨dC, dM, hw, -⟩ := t13 c hc
    have hl := hw.1
    have hzf : zfuel = 100000 := rfl
    have hB : StB (fstW (aN gm), 0, 0, 0, 1) := ⟨fw2, by simp, by simp, by simp, by simp⟩
    obtain ⟨gc2, j1, j2, j3⟩ := X4_play_all hc hw (len c) 0 (zfuel - len c - 1) gc0 _ (by omega) (t1.frO a3) (dC.frO a3) a2 hB
    rw [show zfuel - len c - 1 + len c + 1 = zfuel by omega] at j1
    obtain ⟨g1, b1, b2, b3⟩ := X7_laysAside_ok (aN gm)
    have n1 : 1 ≤ needs S PL (len c) (so c) (wh c) (ix c) (fstW (aN gm)) := sRun_mono S PL (so c) (wh c) (ix c) (fstW (aN gm), 0, 0, 0, 1) 0 (len c)
    have n17 : needs S PL (len c) (so c) (wh c) (ix c) (fstW (aN gm)) ≤ 17 := (hB.run (S := S) (so := so c) (wh := wh c) (ix := ix c) p5 0 (len c)).2.2.2.2
    obtain ⟨-, w1, w2, w3, w4, w5, w6⟩ := hT.par
    have key : ∀ d w f g, w + d = needs S PL (len c) (so c) (wh c) (ix c) (fstW (aN gm)) → 1 ≤ w → (∀ f i j, f ≠ 43 → f ≠ 44 → f ≠ 38007 → f ≠ 37007 → g f i j = aN gm f i j) → (∀ k, k < 2766 → g 44 0 k = aN gm 43 0 k) → ∃ g', X7_waysFor_l24 (f + d + 1) (nI c) (nI w) g = some (nI (needs S PL (len c) (so c) (wh c) (ix c) (fstW (aN gm))), g') ∧ INV (zU gc 13000 0 0 (nI 0)) g' := by
      intro d
      induction d with
      | zero =>
        intro w f g e hw1 hf h44
        obtain ⟨ans, g2, y1, y2, y3⟩ := isEnough_ok hT hc (W := w) (by omega) hf
        rcases y3 with ⟨rfl, -⟩ | ⟨-, z⟩
        · obtain ⟨g3, d1, d2, d3, d4, d5, d6⟩ := X7_takesBack_ok g2
          refine ⟨g3, ?_, INV_trial h hT (FrD.rfl' 2 gc) (fun i hi => ?_) (fun f i j x1 x2 x3 x4 x5 x6 x7 => ?_) ?_ ?_ ?_⟩
          · rw [X7_waysFor_l24.eq_2, y1, zc_some, ite1, d1, zc_some, show w = needs S PL (len c) (so c) (wh c) (ix c) (fstW (aN gm)) by omega]
          · rw [d2 i hi, y2 _ _ _ (by omega) (by omega) (by omega)]; exact h44 i hi
          · rw [d6 f i j x1 x5 x6 x7, y2 f i j x1 x3 x7]; exact hf f i j x1 x2 x3 x7
          · rw [d3, y2 _ _ _ (by omega) (by omega) (by omega), hf _ _ _ (by omega) (by omega) (by omega) (by omega)]; exact w4
          · rw [d4, y2 _ _ _ (by omega) (by omega) (by omega), hf _ _ _ (by omega) (by omega) (by omega) (by omega)]; exact w5
          · rw [d5, y2 _ _ _ (by omega) (by omega) (by omega), hf _ _ _ (by omega) (by omega) (by omega) (by omega)]; exact w2
        · omega
      | succ d ih =>
        intro w f g e hw1 hf h44
        obtain ⟨ans, g2, y1, y2, y3⟩ := isEnough_ok hT hc (W := w) (by omega) hf
        rcases y3 with ⟨-, z⟩ | ⟨rfl, -⟩
        · omega
        · obtain ⟨g', z1, z2⟩ := ih (w + 1) f g2 (by omega) (by omega) (fun f i j x1 x2 x3 x4 => by rw [y2 f i j x1 x3 x4]; exact hf f i j x1 x2 x3 x4) (fun k hk => by rw [y2 _ _ _ (by omega) (by omega) (by omega)]; exact h44 k hk)
          refine ⟨g', ?_, z2⟩
          rw [show f + (d + 1) + 1 = (f + d + 1) + 1 by omega, X7_waysFor_l24.eq_2, y1, zc_some, ite0, nI_add]
          exact z1
    obtain ⟨g', z1, z2⟩ := key (needs S PL (len c) (so c) (wh c) (ix c) (fstW (aN gm)) - 1) 1 (zfuel - needs S PL (len c) (so c) (wh c) (ix c) (fstW (aN gm))) g1 (by omega) (by omega) (fun f i j _ x _ _ => b3 f i j x) b2
    rw [show zfuel - needs S PL (len c) (so c) (wh c) (ix c) (fstW (aN gm)) + (needs S PL (len c) (so c) (wh c) (ix c) (fstW (aN gm)) - 1) + 1 = zfuel by omega] at z1
    rw [a, b, zc_some, zc_some, ite1, ite1, a1, b1, zc_some, zc_some]
    unfold X4_play
    rw [j1, zc_some, z1]
    have e6 : gc2 6006 0 0 = nI (needs S PL (len c) (so c) (wh c) (ix c) (fstW (aN gm))) := j2.2.2.2.2
    rw [e6]
    exact ⟨_, _, _, rfl, rfl, INV_frO z2 (fun f i j x1 x2 x3 x4 x5 => zU_fr (P := fun f => f ≠ 29 ∧ f ≠ 3006 ∧ f ≠ 4006 ∧ f ≠ 5006 ∧ f ≠ 6006) (fun f i j x => (a3.trans j3) f i j x.1 x.2.1 x.2.2.1 x.2.2.2.1 x.2.2.2.2) f i j ⟨x1, x2, x3, x4, x5⟩)⟩
