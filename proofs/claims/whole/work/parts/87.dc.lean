/-! ===== the reader: a deed put down, in both ===== -/
theorem opn_congr {f g : Nat → Nat} : ∀ k, (∀ j, j < k → f j = g j) → opn f k = opn g k := by
  intro k
  induction k with
  | zero => intro _; rfl
  | succ k ih =>
    intro h
    have e := h k (by omega)
    rw [opn, opn, e, ih (fun j hj => h j (by omega))]
theorem core_d {nc c : Nat} {g : zG} (h : g 6001 1 0 = nI nc) (hn : nc ≤ 4) (hc : c < nc) : X2_hasCore 1 (nI c) g = some (nI 1, g) := by
  unfold X2_hasCore
  simp (disch := omega) only [zc_some, zw_eq, zi_nI, nI_clamp, nI_add, nI_1, nI_lti, nI_inj, nI_ltz, nI_eq0, nI_0lt, nI_ne_m1, nI_ne_m2, nI_m1_ne, nI_m2_ne, if_true, if_false, zU_eq, zU_ne, Nat.add_zero, pk_mul, h, hc, show c < 4 by omega]
theorem deed_end {T s e k lo S W PL rl tr c nw so0 whn : Nat} {op x : Bool} {w : Int32} {len : Nat → Nat} {so wh : Nat → Nat → Nat} {ix : Nat → Nat → Bool} {B : Nat → Nat} {gc gm gcZ gmZ : zG} (hD : Dr1 S W PL rl tr (c + 1) nw op len so wh ix gc gm) (hl : len c < 24) (hso : so0 ≤ 6) (n1 : so0 = 0 → op = false) (n2 : so0 = 1 ∨ so0 = 3 ∨ so0 = 4 → op = true) (hw : 3 ≤ so0 → w = nI whn) (hw5 : 5 ≤ so0 → whn < 1000) (hw3 : so0 = 3 ∨ so0 = 4 → whn < 16 * PL)
    (hR : Rd T B gcZ gmZ) (hk : Tk T s e k gcZ gmZ) (hlo : lo ≤ s)
    (fC : ∀ f i j, f ≠ 5002 → f ≠ 6002 → f ≠ 7002 → f ≠ 8002 → f ≠ 10002 → gcZ f i j = gc f i j) (h9 : gcZ 10002 0 0 = bI (if so0 = 0 then true else if so0 = 1 then false else op))
    (fM : ∀ f i j, f ≠ 23007 → f ≠ 24007 → f ≠ 25007 → f ≠ 26007 → ¬ ((f = 38 ∨ f = 40 ∨ f = 42) ∧ i = 0 ∧ j = 24 * c + len c) → gmZ f i j = gm f i j) (e38 : gmZ 38 0 (24 * c + len c) = nI so0) (e40 : gmZ 40 0 (24 * c + len c) = w) (e42 : gmZ 42 0 (24 * c + len c) = bI x) :
    ∃ gc' gm', X2_addDeed 1 (nI so0) w (bI x) gcZ = some (0, gc') ∧ X7_readDeed_b201 (nI so0) (nI c) gmZ = some (nI 0, gm') ∧ Ok T B lo gc gm gc' gm' := by
  obtain ⟨d1, d2, d3, ⟨d4, d4'⟩, ⟨d5, d5', d5''⟩, d6, d7, d8, d9, d10, d11⟩ := id hD
  obtain ⟨q1, q2, q3, q4⟩ := d7 c (by omega)
  have G6 : gcZ 6001 1 0 = nI (c + 1) := by rw [fC _ _ _ (by omega) (by omega) (by omega) (by omega) (by omega)]; exact d5
  have G11 : gcZ 11 1 c = nI (len c) := by rw [fC _ _ _ (by omega) (by omega) (by omega) (by omega) (by omega)]; exact q1
  have M36 : gmZ 36 0 c = nI (len c) := by rw [fM _ _ _ (by omega) (by omega) (by omega) (by omega) (by omega)]; exact q2
  have M30 : gmZ 30007 0 0 = bI op := by rw [fM _ _ _ (by omega) (by omega) (by omega) (by omega) (by omega)]; exact d4'
  have vpn : vp_nar .boolean (bI x) = bI x := by cases x <;> decide
  have ecl : (nI c).toNatClampNeg = c := nI_clamp (by omega)
  have ecl2 : (nI (c * 24 + len c)).toNatClampNeg = c * 24 + len c := nI_clamp (by omega)
  -- the class
  have r1 : X2_addDeed 1 (nI so0) w (bI x) gcZ = some (0, zU (zU (zU (zU gcZ 12 1 (24 * c + len c) (nI so0)) 13 1 (24 * c + len c) w) 14 1 (24 * c + len c) (bI x)) 11 1 c (nI (len c + 1))) := by
    unfold X2_addDeed
    rw [G6, pk_sub (by omega), show c + 1 - 1 = c by omega, core_d G6 (by omega) (by omega), zc_some, ite1, zi_nI (by omega) (by omega), ecl, G11, if_pos (show nI (len c) < nI 24 by rw [nI_lti (by omega) (by omega)]; exact hl), pk_mul, nI_add, zi_nI (by omega) (by omega), zi_nI (by omega) (by omega), ecl2, zw_eq, zi_nI (by omega) (by omega), zw_eq, zi_nI (by omega) (by omega), zw_eq, zi_nI (by omega) (by omega), zi_nI (by omega) (by omega), zU_ne _ _ (by omega), zU_ne _ _ (by omega), zU_ne _ _ (by omega), G11, zw_eq, nI_add, vpn, Nat.mul_comm c 24]
  have r2 : X7_readDeed_b201 (nI so0) (nI c) gmZ = some (nI 0, zU (zU gmZ 30007 0 0 (bI (if so0 = 0 then true else if so0 = 1 then false else op))) 36 0 c (nI (len c + 1))) := by
    have b : ∀ y : Bool, X7_readDeed_b223 (nI c) (bI y) gmZ = some (nI 0, zU (zU gmZ 30007 0 0 (bI y)) 36 0 c (nI (len c + 1))) := fun y => by
      unfold X7_readDeed_b223
      rw [zbo_bI, zw_eq, zi_nI (by omega) (by omega), zi_nI (by omega) (by omega), ecl, zU_ne _ _ (by omega), M36, zw_eq, nI_add]
    unfold X7_readDeed_b201 X7_readDeed_b218 X7_readDeed_b222
    rw [M30, iteB]
    by_cases z0 : so0 = 0
    · rw [if_pos (show nI so0 = 0 by rw [nI_eq0 (by omega)]; exact z0), if_pos z0]; exact b true
    · rw [if_neg (show ¬ nI so0 = 0 by rw [nI_eq0 (by omega)]; exact z0), if_neg z0]
      by_cases z1 : so0 = 1
      · rw [if_pos (show nI so0 = nI 1 by rw [z1]), if_pos z1]; exact b false
      · rw [if_neg (show ¬ nI so0 = nI 1 by rw [nI_inj (by omega) (by omega)]; exact z1), if_neg z1]
        cases op with
        | true => rw [if_pos rfl]; exact b true
        | false => rw [if_neg (by decide)]; exact b false
  refine ⟨_, _, r1, r2, ?_, ?_, hR.set (fun f j y => by simp (disch := omega) only [zU_ne]) (fun f j y => by simp (disch := omega) only [zU_ne]), ⟨s, e, k, hk.set (fun f y => by simp (disch := omega) only [zU_ne]) (fun f y => by simp (disch := omega) only [zU_ne]), hlo⟩, ?_⟩
  · intro f i j y1 y2
    rw [zU_ne _ _ (by omega), zU_ne _ _ (by omega), zU_ne _ _ (by omega), zU_ne _ _ (by omega)]
    exact fC f i j (by omega) (by omega) (by omega) (by omega) (by omega)
  · intro f i j y1
    rw [zU_ne _ _ (by omega), zU_ne _ _ (by omega)]
    exact fM f i j (by omega) (by omega) (by omega) (by omega) (by omega)
  · have opk : opn (so c) (len c) = op := by
      have := d11 (by omega)
      rwa [show c + 1 - 1 = c by omega] at this
    have cg : ∀ o j, j < (if o = c then len c else len o) → (if o = c ∧ j = len c then so0 else so o j) = so o j := fun o j h => by
      by_cases z : o = c
      · rw [if_pos z] at h; rw [if_neg (by omega)]
      · rw [if_neg (fun y => z y.1)]
    have C : ∀ f i j, f ≠ 5002 → f ≠ 6002 → f ≠ 7002 → f ≠ 8002 → f ≠ 10002 → ¬ (f = 11 ∧ i = 1 ∧ j = c) → ¬ ((f = 12 ∨ f = 13 ∨ f = 14) ∧ i = 1 ∧ j = 24 * c + len c) → (zU (zU (zU (zU gcZ 12 1 (24 * c + len c) (nI so0)) 13 1 (24 * c + len c) w) 14 1 (24 * c + len c) (bI x)) 11 1 c (nI (len c + 1))) f i j = gc f i j := fun f i j x1 x2 x3 x4 x5 x6 x7 => by
      rw [zU_ne _ _ (by omega), zU_ne _ _ (by omega), zU_ne _ _ (by omega), zU_ne _ _ (by omega)]
      exact fC f i j x1 x2 x3 x4 x5
    have D : ∀ f i j, f ≠ 23007 → f ≠ 24007 → f ≠ 25007 → f ≠ 26007 → f ≠ 30007 → ¬ (f = 36 ∧ i = 0 ∧ j = c) → ¬ ((f = 38 ∨ f = 40 ∨ f = 42) ∧ i = 0 ∧ j = 24 * c + len c) → (zU (zU gmZ 30007 0 0 (bI (if so0 = 0 then true else if so0 = 1 then false else op))) 36 0 c (nI (len c + 1))) f i j = gm f i j := fun f i j x1 x2 x3 x4 x5 x6 x7 => by
      rw [zU_ne _ _ (by omega), zU_ne _ _ (by omega)]
      exact fM f i j x1 x2 x3 x4 x7
    refine Or.inr ⟨S, W, PL, rl, tr, c + 1, nw, if so0 = 0 then true else if so0 = 1 then false else op, fun o => if o = c then len c + 1 else len o, fun o j => if o = c ∧ j = len c then so0 else so o j, fun o j => if o = c ∧ j = len c then whn else wh o j, fun o j => if o = c ∧ j = len c then x else ix o j, ?_, ?_, ?_, ⟨?_, ?_⟩, ⟨?_, ?_, d5''⟩, ?_, fun o ho => ?_, fun o y y' => ?_, fun o y => ?_, fun _ => by omega, fun _ => ?_⟩
    · rw [C _ _ _ (by omega) (by omega) (by omega) (by omega) (by omega) (by omega) (by omega)]; exact d1
    · rw [D _ _ _ (by omega) (by omega) (by omega) (by omega) (by omega) (by omega) (by omega)]; exact d2
    · exact d3.fr (fun f y => C _ _ _ (by omega) (by omega) (by omega) (by omega) (by omega) (by omega) (by omega)) (fun j y => D _ _ _ (by omega) (by omega) (by omega) (by omega) (by omega) (by omega) (by omega))
    · rw [zU_ne _ _ (by omega), zU_ne _ _ (by omega), zU_ne _ _ (by omega), zU_ne _ _ (by omega)]; exact h9
    · rw [zU_ne _ _ (by omega), zU_self]
    · rw [C _ _ _ (by omega) (by omega) (by omega) (by omega) (by omega) (by omega) (by omega)]; exact d5
    · rw [D _ _ _ (by omega) (by omega) (by omega) (by omega) (by omega) (by omega) (by omega)]; exact d5'
    · exact d6.fr (C _ _ _ (by omega) (by omega) (by omega) (by omega) (by omega) (by omega) (by omega)) (D _ _ _ (by omega) (by omega) (by omega) (by omega) (by omega) (by omega) (by omega)) (fun f j y _ => C _ _ _ (by omega) (by omega) (by omega) (by omega) (by omega) (by omega) (by omega)) (fun j _ => D _ _ _ (by omega) (by omega) (by omega) (by omega) (by omega) (by omega) (by omega))
    · have ol := (d7 o ho).2.2.1
      dsimp only
      by_cases z : o = c
      · subst z
        rw [if_pos rfl]
        refine ⟨zU_self _ _ _ _ _, zU_self _ _ _ _ _, by omega, fun j hj => ?_⟩
        by_cases z2 : j = len o
        · subst z2
          simp only [true_and, if_true]
          have ok : opn (fun j => if o = o ∧ j = len o then so0 else so o j) (len o) = op := by
            rw [← opk]
            exact opn_congr _ (fun j hj => if_neg (by omega))
          simp only [true_and] at ok
          refine ⟨⟨?_, ?_, ?_, fun y => ?_, ?_, ?_⟩, hso, fun y => by rw [ok]; exact n1 y, fun y => by rw [ok]; exact n2 y, hw5, hw3⟩
          · simp (disch := omega) only [zU_ne, zU_eq]
          · simp (disch := omega) only [zU_ne]; exact e38
          · simp (disch := omega) only [zU_ne, zU_eq]; exact e40.symm
          · simp (disch := omega) only [zU_ne, zU_eq]; exact hw y
          · simp (disch := omega) only [zU_ne, zU_eq]
          · simp (disch := omega) only [zU_ne]; exact e42
        · have hj' : j < len o := by omega
          have ok : ∀ i, i ≤ j → opn (fun j => if o = o ∧ j = len o then so0 else so o j) i = opn (so o) i := fun i hi => opn_congr _ (fun j' hj'' => if_neg (by omega))
          have okj := ok j (Nat.le_refl _)
          rw [C 12 _ _ (by omega) (by omega) (by omega) (by omega) (by omega) (by omega) (by omega), C 13 _ _ (by omega) (by omega) (by omega) (by omega) (by omega) (by omega) (by omega), C 14 _ _ (by omega) (by omega) (by omega) (by omega) (by omega) (by omega) (by omega), D 38 _ _ (by omega) (by omega) (by omega) (by omega) (by omega) (by omega) (by omega), D 40 _ _ (by omega) (by omega) (by omega) (by omega) (by omega) (by omega) (by omega), D 42 _ _ (by omega) (by omega) (by omega) (by omega) (by omega) (by omega) (by omega), okj]
          have ne1 : ¬ (o = o ∧ j = len o) := fun y => z2 y.2
          dsimp only
          rw [if_neg ne1, if_neg ne1, if_neg ne1]
          exact q4 j hj'
      · rw [if_neg z]
        obtain ⟨p1, p2, p3, p4⟩ := d7 o ho
        refine ⟨by rw [C _ _ _ (by omega) (by omega) (by omega) (by omega) (by omega) (by omega) (by omega)]; exact p1, by rw [D _ _ _ (by omega) (by omega) (by omega) (by omega) (by omega) (by omega) (by omega)]; exact p2, p3, fun j hj => ?_⟩
        have ok : opn (fun j => if o = c ∧ j = len c then so0 else so o j) j = opn (so o) j := opn_congr _ (fun j' _ => if_neg (fun y => z y.1))
        rw [C 12 _ _ (by omega) (by omega) (by omega) (by omega) (by omega) (by omega) (by omega), C 13 _ _ (by omega) (by omega) (by omega) (by omega) (by omega) (by omega) (by omega), C 14 _ _ (by omega) (by omega) (by omega) (by omega) (by omega) (by omega) (by omega), D 38 _ _ (by omega) (by omega) (by omega) (by omega) (by omega) (by omega) (by omega), D 40 _ _ (by omega) (by omega) (by omega) (by omega) (by omega) (by omega) (by omega), D 42 _ _ (by omega) (by omega) (by omega) (by omega) (by omega) (by omega) (by omega), ok]
        have ne1 : ¬ (o = c ∧ j = len c) := fun y => z y.1
        dsimp only
        rw [if_neg ne1, if_neg ne1, if_neg ne1]
        exact p4 j hj
    · rw [C _ _ _ (by omega) (by omega) (by omega) (by omega) (by omega) (by omega) (by omega)]; exact d8 o y y'
    · dsimp only
      rw [if_neg (by omega)]
      have ok : opn (fun j => if o = c ∧ j = len c then so0 else so o j) (len o) = opn (so o) (len o) := opn_congr _ (fun j' _ => if_neg (by omega))
      rw [ok]; exact d9 o y
    · dsimp only
      rw [show c + 1 - 1 = c by omega, if_pos rfl]
      have ok : opn (fun j => if c = c ∧ j = len c then so0 else so c j) (len c) = op := by
        rw [← opk]
        exact opn_congr _ (fun j hj => if_neg (by omega))
      rw [opn, ok]
      try dsimp only
      rw [if_pos (show c = c ∧ len c = len c from ⟨rfl, rfl⟩)]
