/-! ===== the reader: the machine's line ===== -/
def DP (n : Nat) (vs : Nat → Nat) (gc gm : zG) : Prop := ∀ i, i < n → gc (1001 + 1000 * i) 1 0 = nI (vs i) ∧ gm 32 0 i = nI (vs i)
def FrMc (g g' : zG) : Prop := ∀ f i j, f ≠ 5002 → f ≠ 6002 → f ≠ 7002 → f ≠ 8002 → f ≠ 9002 → ¬ (i = 1 ∧ 1001 ≤ f ∧ f ≤ 5001 ∧ f % 1000 = 1) → g' f i j = g f i j
def FrMm (g g' : zG) : Prop := ∀ f i j, f ≠ 23007 → f ≠ 24007 → f ≠ 25007 → f ≠ 26007 → f ≠ 29007 → ¬ (f = 32 ∧ j < 5) → g' f i j = g f i j
def MS (T : Nat) (B : Nat → Nat) (lo n : Nat) (vs : Nat → Nat) (gc0 gm0 gc gm : zG) : Prop := Rd T B gc gm ∧ (∃ s e k, Tk T s e k gc gm ∧ lo ≤ s) ∧ DP n vs gc gm ∧ FrMc gc0 gc ∧ FrMm gm0 gm ∧ gc 9002 0 0 = nI 1
theorem FrMc.P {a b : zG} (h : FrMc a b) : FrPc a b := fun f i j x y => h f i j (by omega) (by omega) (by omega) (by omega) (by omega) (by omega)
theorem FrMm.P {a b : zG} (h : FrMm a b) : FrPm a b := fun f i j x => h f i j (by omega) (by omega) (by omega) (by omega) (by omega) (by omega)
theorem FrMc.A {a b c : zG} (h : FrMc a b) (h2 : FrA b c) : FrMc a c := fun f i j x1 x2 x3 x4 x5 x6 => (h2 f i j x1 x2 x3 x4).trans (h f i j x1 x2 x3 x4 x5 x6)
theorem FrMm.B {a b c : zG} (h : FrMm a b) (h2 : FrB b c) : FrMm a c := fun f i j x1 x2 x3 x4 x5 x6 => (h2 f i j x1 x2 x3 x4).trans (h f i j x1 x2 x3 x4 x5 x6)
theorem MS.go {T lo lo' n : Nat} {B : Nat → Nat} {vs : Nat → Nat} {gc0 gm0 gc gm gc' gm' : zG} (h : MS T B lo n vs gc0 gm0 gc gm) (hn : n ≤ 5) (hg : Go T B lo' gc gm gc' gm') (hl : lo ≤ lo') : MS T B lo n vs gc0 gm0 gc' gm' := by
  obtain ⟨a1, a2, a3, a4, a5, a6⟩ := h
  obtain ⟨b1, b2, b3, s, e, k, b4, b5⟩ := hg
  refine ⟨b3, ⟨s, e, k, b4, by omega⟩, fun i hi => ?_, a4.A b1, a5.B b2, by rw [b1 _ _ _ (by omega) (by omega) (by omega) (by omega)]; exact a6⟩
  rw [b1 _ _ _ (by omega) (by omega) (by omega) (by omega), b2 _ _ _ (by omega) (by omega) (by omega) (by omega)]
  exact a3 i hi
/-- a number put down, in both -/
theorem MS.put {T lo n f v : Nat} {B : Nat → Nat} {vs : Nat → Nat} {gc0 gm0 gc gm : zG} (h : MS T B lo n vs gc0 gm0 gc gm) (hn : n < 5) (hf : f = 1001 + 1000 * n) : MS T B lo (n + 1) (fun i => if i = n then v else vs i) gc0 gm0 (zU gc f 1 0 (nI v)) (zU gm 32 0 n (nI v)) := by
  obtain ⟨a1, ⟨s, e, k, a2, a2'⟩, a3, a4, a5, a6⟩ := h
  refine ⟨a1.set (fun f' j x => zU_ne _ _ (by omega)) (fun f' j x => zU_ne _ _ (by omega)), ⟨s, e, k, a2.set (fun f' x => zU_ne _ _ (by omega)) (fun f' x => zU_ne _ _ (by omega)), a2'⟩, fun i hi => ?_, fun f' i j x1 x2 x3 x4 x5 x6 => ?_, fun f' i j x1 x2 x3 x4 x5 x6 => ?_, by rw [zU_ne _ _ (by omega)]; exact a6⟩
  · dsimp only
    by_cases z : i = n
    · rw [if_pos z, zU_eq _ _ (by omega), zU_eq _ _ (by omega)]; exact ⟨rfl, rfl⟩
    · rw [if_neg z, zU_ne _ _ (by omega), zU_ne _ _ (by omega)]; exact a3 i (by omega)
  · rw [zU_ne _ _ (by omega)]; exact a4 f' i j x1 x2 x3 x4 x5 x6
  · rw [zU_ne _ _ (by omega)]; exact a5 f' i j x1 x2 x3 x4 x5 x6
theorem Fl.put {gc gm gc' gm' : zG} {f n : Nat} (h : Fl gc gm gc' gm') (v : Int32) (hf : 1001 ≤ f ∧ f ≤ 5001 ∧ f % 1000 = 1) : Fl gc gm (zU gc' f 1 0 v) (zU gm' 32 0 n v) :=
  ⟨h.1.u _ (by omega), h.2.1.u _ (by omega), by rw [zU_ne _ _ (by omega), zU_ne _ _ (by omega)]; exact h.2.2.1, by rw [zU_ne _ _ (by omega), zU_ne _ _ (by omega)]; exact h.2.2.2⟩
theorem MS.set {T lo n f v hi : Nat} {B : Nat → Nat} {vs : Nat → Nat} {gc0 gm0 gc gm : zG} (p : Bool) (h : MS T B lo n vs gc0 gm0 gc gm) (hn : n < 5) (hf : f = 1001 + 1000 * n) (hv : v < 19) (hhi : hi < 1000) (hp : p = true → hi = 4) :
    (∃ gc' gm', X5_takeSetting v (nI hi) (bI p) gc = some (-1, gc') ∧ (if p = true then X7_power v gm else X7_after v (nI 1) (nI hi) gm) = some (-1, gm') ∧ Fl gc0 gm0 (zU gc' f 1 0 (-1)) (zU gm' 32 0 n (-1))) ∨
    (∃ x gc' gm', 1 ≤ x ∧ x ≤ hi ∧ X5_takeSetting v (nI hi) (bI p) gc = some (nI x, gc') ∧ (if p = true then X7_power v gm else X7_after v (nI 1) (nI hi) gm) = some (nI x, gm') ∧ MS T B lo (n + 1) (fun i => if i = n then x else vs i) gc0 gm0 (zU gc' f 1 0 (nI x)) (zU gm' 32 0 n (nI x))) := by
  obtain ⟨a1, ⟨s, e, k, a2, a2'⟩, a3, a4, a5, a6⟩ := id h
  rcases set_ok p a1 a2 hv hhi hp with ⟨gc', gm', y1, y2, y3⟩ | ⟨x, gc', gm', y0, y1, y2, y3, y4⟩
  · exact Or.inl ⟨gc', gm', y1, y2, (y3.from a4.P a5.P).put _ (by omega)⟩
  · exact Or.inr ⟨x, gc', gm', y0, y1, y2, y3, (h.go (by omega) y4 (by have := a2.1; omega)).put hn hf⟩
theorem machine_line {T s e k : Nat} {B : Nat → Nat} {gc gm : zG} (hR : Rd T B gc gm) (hk : Tk T s e k gc gm) (hD : DrS gc gm) :
    (∃ gc' gm', X5_readMachine gc = some (nI 0, gc') ∧ X7_readMachine gm = some (-1, gm') ∧ Fl gc gm gc' gm') ∨
    (∃ x gc' gm', x < 1000 ∧ X5_readMachine gc = some (nI 1, gc') ∧ X7_readMachine gm = some (nI x, gm') ∧ Ok T B e gc gm gc' gm') := by
  have c0 : (nI 0).toNatClampNeg = 0 := nI_clamp (by omega)
  have c1 : (nI 1).toNatClampNeg = 1 := nI_clamp (by omega)
  have c2 : (nI 2).toNatClampNeg = 2 := nI_clamp (by omega)
  have c3 : (nI 3).toNatClampNeg = 3 := nI_clamp (by omega)
  have c4 : (nI 4).toNatClampNeg = 4 := nI_clamp (by omega)
  have nm : ∀ x, x < 1000 → ¬ (nI x = -1) := fun x hx => by rw [nI_ne_m1 (by omega)]; exact id
  unfold X5_readMachine X7_readMachine
  rcases hD with h0 | ⟨S, W, PL, rl, tr, nc, nw, op, len, so, wh, ix, h1⟩
  · obtain ⟨d1, d2, ⟨d3, d3'⟩, ⟨d4, d4', -⟩, d5, d6⟩ := id h0
    rw [d1, d2, if_pos (show nI 0 = 0 from rfl), if_pos (show nI 0 = 0 from rfl), zw_eq]
    -- the token behind 'machine'
    have hR1 : Rd T B (zU gc 9002 0 0 (nI 1)) gm := hR.set (fun f j x => zU_ne _ _ (by omega)) (fun _ _ _ => rfl)
    have hk1 : Tk T s e k (zU gc 9002 0 0 (nI 1)) gm := hk.set (fun f x => zU_ne _ _ (by omega)) (fun _ _ => rfl)
    obtain ⟨gc1, gm1, x1, x2, x3⟩ := go_next hR1 hk1
    rw [x1, x2, zc_some, zc_some]
    have M0 : MS T B e 0 (fun _ => 0) gc gm gc1 gm1 := by
      obtain ⟨b1, b2, b3, s', e', k', b4, b5⟩ := x3
      exact ⟨b3, ⟨s', e', k', b4, b5⟩, fun i hi => by omega, fun f i j y1 y2 y3 y4 y5 y6 => by rw [b1 f i j y1 y2 y3 y4, zU_ne _ _ (by omega)], fun f i j y1 y2 y3 y4 y5 y6 => b2 f i j y1 y2 y3 y4, by rw [b1 _ _ _ (by omega) (by omega) (by omega) (by omega), zU_self]⟩
    rcases M0.set (f := 1001) (v := 10) (hi := 4) true (by omega) rfl (by omega) (by omega) (fun _ => rfl) with ⟨gc2, gm2, y1, y2, y3⟩ | ⟨n0, gc2, gm2, z0, z0', y1, y2, M1⟩
    · left
      rw [if_pos rfl] at y2
      rw [show nI 1 = bI true from rfl, y1, y2, zc_some, zc_some, zw_eq, zU_self, if_pos rfl, zi_nI (by omega) (by omega), zw_eq, zi_nI (by omega) (by omega), c0, zU_self, if_pos rfl]
      exact ⟨_, _, rfl, rfl, y3⟩
    rw [if_pos rfl] at y2
    rw [show X5_takeSetting 10 (nI 4) (nI 1) gc1 = some (nI n0, gc2) from y1, y2, zc_some, zc_some, zw_eq, zU_self, if_neg (nm n0 (by omega)), zi_nI (by omega) (by omega), zw_eq, zi_nI (by omega) (by omega), c0, zU_self, if_neg (nm n0 (by omega))]
    rcases M1.set (f := 2001) (v := 11) (hi := 4) false (by omega) rfl (by omega) (by omega) (fun z => by cases z) with ⟨gc3, gm3, y1, y2, y3⟩ | ⟨n1, gc3, gm3, z1, z1', y1, y2, M2⟩
    · left
      rw [if_neg (by decide)] at y2
      rw [show X5_takeSetting 11 (nI 4) (nI 0) _ = some (-1, gc3) from y1, y2, zc_some, zc_some, zw_eq, zU_self, if_pos rfl, zi_nI (by omega) (by omega), zw_eq, zi_nI (by omega) (by omega), c1, zU_self, if_pos rfl]
      exact ⟨_, _, rfl, rfl, y3⟩
    rw [if_neg (by decide)] at y2
    rw [show X5_takeSetting 11 (nI 4) (nI 0) _ = some (nI n1, gc3) from y1, y2, zc_some, zc_some, zw_eq, zU_self, if_neg (nm n1 (by omega)), zi_nI (by omega) (by omega), zw_eq, zi_nI (by omega) (by omega), c1, zU_self, if_neg (nm n1 (by omega))]
    rcases M2.set (f := 3001) (v := 12) (hi := 4) true (by omega) rfl (by omega) (by omega) (fun _ => rfl) with ⟨gc4, gm4, y1, y2, y3⟩ | ⟨n2, gc4, gm4, z2, z2', y1, y2, M3⟩
    · left
      rw [if_pos rfl] at y2
      rw [show X5_takeSetting 12 (nI 4) (nI 1) _ = some (-1, gc4) from y1, y2, zc_some, zc_some, zw_eq, zU_self, if_pos rfl, zi_nI (by omega) (by omega), zw_eq, zi_nI (by omega) (by omega), c2, zU_self, if_pos rfl]
      exact ⟨_, _, rfl, rfl, y3⟩
    rw [if_pos rfl] at y2
    rw [show X5_takeSetting 12 (nI 4) (nI 1) _ = some (nI n2, gc4) from y1, y2, zc_some, zc_some, zw_eq, zU_self, if_neg (nm n2 (by omega)), zi_nI (by omega) (by omega), zw_eq, zi_nI (by omega) (by omega), c2, zU_self, if_neg (nm n2 (by omega))]
    obtain ⟨r1, ⟨s3, e3, k3, r2, r2'⟩, r3, r4, r5, r6⟩ := id M3
    rcases name_or (v := 13) r1 r2 (by omega) with ⟨gc5, gm5, y1, y2, y3, y4⟩ | ⟨gc5, gm5, y1, y2, y3, y4⟩
    · left
      rw [y1, y2, zc_some, zc_some, ite0, ite0, y3, zc_some]
      exact ⟨_, _, rfl, rfl, y4.from r4.P r5.P⟩
    rw [y1, y2, zc_some, zc_some, ite1, ite1, y3, zc_some]
    have M3' := M3.go (by omega) y4 (by have := r2.1; omega)
    obtain ⟨r1, ⟨s3, e3, k3, r2, r2'⟩, r3, r4, r5, r6⟩ := id M3'
    rcases rule_ok r1 r2 with ⟨gc6, y1, y2, y3, y4, y5⟩ | ⟨rl, gc6, hrl, y1, rfl, y2⟩
    · left
      rw [y1, y2 (fun x g => X7_readMachine_b155 (nI 3) x g), zc_some, ite0]
      unfold X7_readMachine_b155
      rw [zi_nI (by omega) (by omega), zw_eq, zi_nI (by omega) (by omega), c3, zU_self, if_pos rfl, errs_ok (s := s3) (by rw [zU_ne _ _ (by omega)]; exact r2.2.2.2.1), zc_some]
      refine ⟨_, _, rfl, rfl, r4.P.trans y3, ((r5.P.u _ (by omega)).u _ (by omega)).u _ (by omega), ?_, ?_⟩
      · rw [y4, zU_ne _ _ (by omega), zU_self]
      · rw [y5, zU_self]
    have M4 := M3'.put (f := 4001) (v := rl) (by omega) rfl
    obtain ⟨r1, ⟨s4, e4, k4, r2, r2'⟩, r3, r4, r5, r6⟩ := id M4
    obtain ⟨gc7, gm7, x1, x2, x3⟩ := go_next r1 r2
    have M4' := M4.go (by omega) x3 (by have := r2.1; omega)
    rw [y1, y2 (fun x g => X7_readMachine_b155 (nI 3) x g), x1, zc_some, zc_some, ite1]
    unfold X7_readMachine_b155
    rw [zi_nI (by omega) (by omega), zw_eq, zi_nI (by omega) (by omega), c3, zU_self, if_neg (nm rl (by omega)), x2, zc_some]
    rcases M4'.set (f := 5001) (v := 17) (hi := 9) false (by omega) rfl (by omega) (by omega) (fun z => by cases z) with ⟨gc8, gm8, y1, y2, y3⟩ | ⟨n4, gc8, gm8, z4, z4', y1, y2, M5⟩
    · left
      rw [if_neg (by decide)] at y2
      unfold X7_readMachine_b207
      rw [show X5_takeSetting 17 (nI 9) (nI 0) _ = some (-1, gc8) from y1, y2, zc_some, zc_some, zw_eq, zU_self, if_pos rfl, zi_nI (by omega) (by omega), zw_eq, zi_nI (by omega) (by omega), c4, zU_self, if_pos rfl, zbo0, zw_eq, zi_nI (by omega) (by omega), zU_ne _ _ (by omega), zU_self]
      refine ⟨_, _, rfl, rfl, y3.1, y3.2.1.u _ (by omega), ?_, ?_⟩
      · rw [zU_ne _ _ (by omega)]; exact y3.2.2.1
      · rw [zU_ne _ _ (by omega)]; exact y3.2.2.2
    rw [if_neg (by decide)] at y2
    right
    unfold X7_readMachine_b207
    rw [show X5_takeSetting 17 (nI 9) (nI 0) _ = some (nI n4, gc8) from y1, y2, zc_some, zc_some, zw_eq, zU_self, if_neg (nm n4 (by omega)), zi_nI (by omega) (by omega), zw_eq, zi_nI (by omega) (by omega), c4, zU_self, if_neg (nm n4 (by omega)), zbo1, zw_eq, zi_nI (by omega) (by omega), zU_ne _ _ (by omega), zU_self]
    obtain ⟨r1, ⟨s5, e5, k5, r2, r2'⟩, r3, r4, r5, r6⟩ := id M5
    have Fm : FrMm gm (zU (zU gm8 32 0 4 (nI n4)) 29007 0 0 (nI 1)) := fun f i j y1 y2 y3 y4 y5 y6 => by rw [zU_ne _ _ (by omega)]; exact r5 f i j y1 y2 y3 y4 y5 y6
    refine ⟨n4, _, _, by omega, rfl, rfl, r4.P, Fm.P, r1.set (fun _ _ _ => rfl) (fun f j x => zU_ne _ _ (by omega)), ⟨s5, e5, k5, r2.set (fun _ _ => rfl) (fun f x => zU_ne _ _ (by omega)), r2'⟩, Or.inr ⟨n0, n1, n2, rl, n4, 0, 0, false, fun _ => 0, fun _ _ => 0, fun _ _ => 0, fun _ _ => false, r6, zU_self _ _ _ _ _, ?_, ⟨?_, ?_⟩, ⟨?_, ?_, by omega⟩, ?_, fun c x => by omega, fun c x y => ?_, fun c x => by omega, (fun z => by cases z), fun z => by omega⟩⟩
    · have G := fun i (hi : i < 5) => r3 i hi
      have g0 := G 0 (by omega); have g1 := G 1 (by omega); have g2 := G 2 (by omega); have g3 := G 3 (by omega); have g4 := G 4 (by omega)
      refine ⟨⟨by omega, by omega, by omega, by omega, by omega, by omega⟩, g0.1, ?_, g1.1, ?_, g2.1, ?_, g3.1, ?_, g4.1, ?_, hrl, by omega, by omega⟩
      · rw [zU_ne _ _ (by omega)]; exact g0.2
      · rw [zU_ne _ _ (by omega)]; exact g1.2
      · rw [zU_ne _ _ (by omega)]; exact g2.2
      · rw [zU_ne _ _ (by omega)]; exact g3.2
      · rw [zU_ne _ _ (by omega)]; exact g4.2
    · rw [r4 _ _ _ (by omega) (by omega) (by omega) (by omega) (by omega) (by omega)]; exact d3
    · rw [Fm _ _ _ (by omega) (by omega) (by omega) (by omega) (by omega) (by omega)]; exact d3'
    · rw [r4 _ _ _ (by omega) (by omega) (by omega) (by omega) (by omega) (by omega)]; exact d4
    · rw [Fm _ _ _ (by omega) (by omega) (by omega) (by omega) (by omega) (by omega)]; exact d4'
    · exact d5.fr (r4 _ _ _ (by omega) (by omega) (by omega) (by omega) (by omega) (by omega)) (Fm _ _ _ (by omega) (by omega) (by omega) (by omega) (by omega) (by omega)) (fun f j x _ => r4 _ _ _ (by omega) (by omega) (by omega) (by omega) (by omega) (by omega)) (fun j _ => Fm _ _ _ (by omega) (by omega) (by omega) (by omega) (by omega) (by omega))
    · rw [r4 _ _ _ (by omega) (by omega) (by omega) (by omega) (by omega) (by omega)]; exact d6 c y
  · left
    obtain ⟨d1, d2, -⟩ := h1
    rw [d1, d2, if_neg (show ¬ nI 1 = 0 by decide), if_neg (show ¬ nI 1 = 0 by decide), hk.2.2.1, fail_ok, zc_some, zbo0, errs_ok hk.2.2.2.1, zc_some]
    exact ⟨_, _, rfl, rfl, fl_of 3 s gc gm⟩
