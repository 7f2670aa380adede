/-! ===== machine: a text that is one ===== -/
theorem told_start {nc : Nat} {gc gm : zG} (hF : Fin gc gm nc) (h4 : nc ≤ 4) (hb : ∀ k, k < 900 → gc 10 0 k = gm 30 0 k ∧ ∃ v, v < 256 ∧ gm 30 0 k = nI v) (t0 : gc 2000 0 0 = nI 0) (t1 : gm 6007 0 0 = nI 0) (t2 : gm 3007 0 0 = nI 0) (t3 : gm 2007 0 0 = nI 0) :
    ∃ gc' gm', zw gc 12000 0 0 (nI 0) (fun g8 => zc (X2_copyFrom 0 1 g8) (fun x9 g10 => zc (X3_startOver 0 (g10 4001 0 0) (g10 5001 0 0) g10) (fun x12 g13 => zw g13 10000 0 0 (nI 1) (fun g15 => zw g15 11000 0 0 (nI 0) (fun g16 => zc (X6_answer (g16 6001 0 0) g16) (fun x17 g18 => some (x17, g18))))))) = some (nI nc, gc') ∧
      X7_machine_l65 (fun (v2 : Int32) g => X7_machine_l99 (fun (v2 : Int32) g => X7_machine_l139 (fun (v2 : Int32) g => X7_machine_l178 zfuel v2 g) zfuel v2 g) zfuel v2 g) zfuel (nI 0) gm = some (nI nc, gm') ∧ INV gc' gm' := by
  obtain ⟨S, W, PL, rl, tr, nw, len, so, wh, ix, n0, -, -, ⟨⟨s1, s2, s3, s4, s5, s6⟩, m1, m2, m3, m4, m5, m6, m7, m8, m9, m10, m11, m12, m13⟩, -, ⟨n1, n2, n3⟩, ⟨w1, w2, w3, w4⟩, dc, dz, dl1, -, dl2⟩ := hF
  have hz : Siz4 S W PL nc := ⟨s1, s2, s3, s4, s5, s6, n0, n3⟩
  -- the class
  obtain ⟨G8, hG8⟩ : ∃ G8, G8 = zU gc 12000 0 0 (nI 0) := ⟨_, rfl⟩
  have o8 : ∀ f i j, f ≠ 12000 → G8 f i j = gc f i j := fun f i j x => by rw [hG8, zU_ne _ _ (by omega)]
  obtain ⟨g10, x1, x2, x3, x4, x5, x6, x7⟩ := X2_copyFrom_ok G8
  obtain ⟨g13, y1, y2, y3, y4, y5, y6, y7, y8, y9, y10⟩ := X3_startOver_ok (r := 0) (g10 4001 0 0) (g10 5001 0 0) g10
  obtain ⟨gc', hgc⟩ : ∃ gc', gc' = zU (zU (zU g13 10000 0 0 (nI 1)) 11000 0 0 (nI 0)) 13000 0 0 (nI 0) := ⟨_, rfl⟩
  have K1 : ∀ f i j, f ≠ 10000 → f ≠ 11000 → f ≠ 13000 → gc' f i j = g13 f i j := fun f i j a b c => by rw [hgc, zU_ne _ _ (by omega), zU_ne _ _ (by omega), zU_ne _ _ (by omega)]
  have K2 : ∀ f j, (f = 10 ∨ (11 ≤ f ∧ f ≤ 16) ∨ f = 2000 ∨ f = 12000 ∨ (1001 ≤ f ∧ f ≤ 7001 ∧ f % 1000 = 1)) → gc' f 0 j = g10 f 0 j := fun f j a => by
    rw [K1 _ _ _ (by omega) (by omega) (by omega), y10 f 0 j (by unfold ofRun; omega) (by omega)]
  have K3 : ∀ f, f = 1001 ∨ f = 2001 ∨ f = 3001 ∨ f = 4001 ∨ f = 5001 ∨ f = 6001 ∨ f = 7001 → g10 f 0 0 = gc f 1 0 := fun f a => by
    rw [x2 f a, o8 _ _ _ (by omega)]
  have K4 : ∀ f, f = 1001 ∨ f = 2001 ∨ f = 3001 ∨ f = 4001 ∨ f = 5001 ∨ f = 6001 ∨ f = 7001 → gc' f 0 0 = gc f 1 0 := fun f a => by
    rw [K2 f 0 (by omega), K3 f a]
  have k11 : ∀ j, j < 4 → gc' 11 0 j = gc 11 1 j := fun j hj => by rw [K2 _ _ (by omega), x3 j hj, o8 _ _ _ (by omega)]
  have k12 : ∀ f j, f = 12 ∨ f = 13 → j < 96 → gc' f 0 j = gc f 1 j := fun f j a hj => by rw [K2 _ _ (by omega), x4 f j a hj, o8 _ _ _ (by omega)]
  have k14 : ∀ j, j < 96 → gc' 14 0 j = vp_nar .boolean (gc 14 1 j) := fun j hj => by rw [K2 _ _ (by omega), x6 j hj, o8 _ _ _ (by omega)]
  have k15 : ∀ j, j < 64 → gc' 15 0 j = gc 15 1 j := fun j hj => by rw [K2 _ _ (by omega), x5 j hj, o8 _ _ _ (by omega)]
  have EC : zw gc 12000 0 0 (nI 0) (fun g8 => zc (X2_copyFrom 0 1 g8) (fun x9 g10 => zc (X3_startOver 0 (g10 4001 0 0) (g10 5001 0 0) g10) (fun x12 g13 => zw g13 10000 0 0 (nI 1) (fun g15 => zw g15 11000 0 0 (nI 0) (fun g16 => zc (X6_answer (g16 6001 0 0) g16) (fun x17 g18 => some (x17, g18))))))) = some (nI nc, gc') := by
    rw [zw_eq, ← hG8, x1, zc_some, y1, zc_some, zw_eq, zw_eq]
    unfold X6_answer
    have e6 : (zU (zU g13 10000 0 0 (nI 1)) 11000 0 0 (nI 0)) 6001 0 0 = nI nc := by
      rw [zU_ne _ _ (by omega), zU_ne _ _ (by omega), y10 6001 0 0 (by unfold ofRun; omega) (by omega), K3 _ (by omega)]
      exact n1
    rw [zw_eq, zc_some, ← hgc, e6]
  -- the reference
  obtain ⟨g1, u1, u2, u3, u4⟩ := X7_copies_ok gm n2 h4
  obtain ⟨g2, v1, v2, v3⟩ := X7_words_ok (fun (v2 : Int32) g => X7_machine_l139 (fun (v2 : Int32) g => X7_machine_l178 zfuel v2 g) zfuel v2 g) g1
  have q31 : ∀ k, k < 6 → g2 31 0 k = gm 32 0 k := fun k hk => by rw [v3 _ _ _ (by omega)]; exact u2 k hk
  obtain ⟨g3, p1, p2, p3⟩ := X7_lens_ok (nc := nc) (fun (v2 : Int32) g => X7_machine_l178 zfuel v2 g) g2 (by rw [q31 5 (by omega)]; exact n2) h4
  obtain ⟨gm', r1, r2, r3, r4, r5, r6, r7, r8, r9⟩ := X7_deeds_ok g3
  have r31 : ∀ k, k < 6 → g3 31 0 k = gm 32 0 k := fun k hk => by rw [p3 _ _ _ (by omega)]; exact q31 k hk
  have EM : X7_machine_l65 (fun (v2 : Int32) g => X7_machine_l99 (fun (v2 : Int32) g => X7_machine_l139 (fun (v2 : Int32) g => X7_machine_l178 zfuel v2 g) zfuel v2 g) zfuel v2 g) zfuel (nI 0) gm = some (nI nc, gm') := by
    rw [u1, v1]
    show X7_machine_l139 (fun (v2 : Int32) g => X7_machine_l178 zfuel v2 g) zfuel (nI 0) g2 = _
    rw [p1]
    show X7_machine_l178 zfuel (nI 0) g3 = _
    rw [r1, r31 5 (by omega), n2]
  have M : ∀ f i j, f ≠ 31 → f ≠ 33 → f ≠ 35 → f ≠ 37 → f ≠ 39 → f ≠ 41 → f ≠ 43 → f ≠ 9007 → f ≠ 21007 → f ≠ 34007 → f ≠ 35007 → f ≠ 36007 → f ≠ 37007 → gm' f i j = gm f i j := fun f i j a1 a2 a3 a4 a5 a6 a7 a8 a9 b1 b2 b3 b4 => by
    rw [r9 f i j a4 a5 a6 a7 a9 b1 b2 b3 b4, p3 _ _ _ a3, v3 _ _ _ a2, u4 _ _ _ a1 a8]
  have m31 : ∀ k, k < 6 → gm' 31 0 k = gm 32 0 k := fun k hk => by rw [r9 _ _ _ (by omega) (by omega) (by omega) (by omega) (by omega) (by omega) (by omega) (by omega) (by omega)]; exact r31 k hk
  have m35 : ∀ k, k < 4 → gm' 35 0 k = if k < nc then gm 36 0 k else nI 0 := fun k hk => by
    rw [r9 _ _ _ (by omega) (by omega) (by omega) (by omega) (by omega) (by omega) (by omega) (by omega) (by omega), p2 k hk, v3 _ _ _ (by omega), u4 _ _ _ (by omega) (by omega)]
  have m33 : ∀ a, a < 64 → gm' 33 0 a = if gm 34 0 a = -1 then nI 0 else gm 34 0 a := fun a ha => by
    rw [r9 _ _ _ (by omega) (by omega) (by omega) (by omega) (by omega) (by omega) (by omega) (by omega) (by omega), p3 _ _ _ (by omega), v2 a ha, u4 _ _ _ (by omega) (by omega)]
  have e33 : g3 33 0 = gm' 33 0 := funext (fun k => (r9 _ _ _ (by omega) (by omega) (by omega) (by omega) (by omega) (by omega) (by omega) (by omega) (by omega)).symm)
  have m37 : ∀ k, k < 96 → gm' 37 0 k = gm 38 0 k ∧ gm' 39 0 k = gm 40 0 k ∧ gm' 41 0 k = gm 42 0 k := fun k hk => by
    have := r2 k hk
    rwa [p3 38 _ _ (by omega), v3 38 _ _ (by omega), u4 38 _ _ (by omega) (by omega), p3 40 _ _ (by omega), v3 40 _ _ (by omega), u4 40 _ _ (by omega) (by omega), p3 42 _ _ (by omega), v3 42 _ _ (by omega), u4 42 _ _ (by omega) (by omega)] at this
  have m9007 : gm' 9007 0 0 = nI nw := by
    rw [r9 _ _ _ (by omega) (by omega) (by omega) (by omega) (by omega) (by omega) (by omega) (by omega) (by omega), p3 _ _ _ (by omega), v3 _ _ _ (by omega), u3]
    exact w2
  rw [e33] at r8
  -- the words told at first
  have hw : ∀ a, a < 64 → gc' 15 0 a = gm' 33 0 a ∧ ∃ v, v < 1000 ∧ gm' 33 0 a = nI v := fun a ha => by
    rw [k15 a ha, m33 a ha]
    rcases w4 a ha with ⟨-, b1, b2⟩ | ⟨-, v, b1, b2, b3⟩
    · rw [if_pos b2, b1]; exact ⟨rfl, 0, by omega, rfl⟩
    · rw [b3, if_neg (by rw [nI_ne_m1 (by omega)]; exact id), b2]; exact ⟨rfl, v, b1, rfl⟩
  have hop : ∀ c, c < nc → opn (so c) (len c) = false := fun c hc => by
    by_cases z : c + 1 < nc
    · exact dl1 c z
    · have e : c = nc - 1 := by omega
      rw [e]; exact dl2 n0
  have hwf : ∀ c, c < nc → WfD (so c) (wh c) PL (len c) := fun c hc => by
    obtain ⟨-, -, d3, d4⟩ := dc c hc
    exact ⟨d3, hop c hc, fun j hj => (d4 j hj).2⟩
  have hlen : ∀ c, c < 4 → gc' 11 0 c = gm' 35 0 c := fun c hc => by
    rw [k11 c hc, m35 c hc]
    by_cases z : c < nc
    · rw [if_pos z, (dc c z).1, (dc c z).2.1]
    · rw [if_neg z]; exact dz c (by omega) hc
  refine ⟨gc', gm', EC, EM, ⟨⟨0, by omega, ?_, ?_⟩, fun k hk => ?_, ?_, ?_, fun z => ?_, ?_, hlen, false, ?_, ?_⟩, Or.inr ⟨S, W, PL, nc, rl, tr, len, so, wh, ix, ⟨⟨hz, ?_, ?_, ?_, ?_⟩, ⟨hz.siz, ?_, ?_, ?_, ?_⟩, ?_, ?_, ?_, ?_, ?_, m11, m12, m13, ?_, ?_, fun c hc => ?_, fun c a b => ?_, hw, ?_, ?_⟩, ⟨?_, ?_, ?_, ?_, ?_⟩, fun z => ?_⟩⟩
  · rw [K2 _ _ (by omega), x7 _ _ _ (by omega), o8 _ _ _ (by omega)]; exact t0
  · rw [M _ _ _ (by omega) (by omega) (by omega) (by omega) (by omega) (by omega) (by omega) (by omega) (by omega) (by omega) (by omega) (by omega) (by omega)]; exact t1
  · rw [K2 _ _ (by omega), x7 _ _ _ (by omega), o8 _ _ _ (by omega), M _ _ _ (by omega) (by omega) (by omega) (by omega) (by omega) (by omega) (by omega) (by omega) (by omega) (by omega) (by omega) (by omega) (by omega)]; exact hb k hk
  · rw [K2 _ _ (by omega), x7 _ _ _ (by omega), hG8, zU_self, M _ _ _ (by omega) (by omega) (by omega) (by omega) (by omega) (by omega) (by omega) (by omega) (by omega) (by omega) (by omega) (by omega) (by omega)]; exact t2.symm
  · rw [hgc, zU_self, M _ _ _ (by omega) (by omega) (by omega) (by omega) (by omega) (by omega) (by omega) (by omega) (by omega) (by omega) (by omega) (by omega) (by omega)]; exact t3.symm
  · rw [M _ _ _ (by omega) (by omega) (by omega) (by omega) (by omega) (by omega) (by omega) (by omega) (by omega) (by omega) (by omega) (by omega) (by omega), t3] at z
    exact absurd z (by decide)
  · rw [K4 _ (by omega), m9007]; exact w1
  · rw [hgc, zU_ne _ _ (by omega), zU_self]; rfl
  · rw [r4]; rfl
  · rw [K4 _ (by omega)]; exact m1
  · rw [K4 _ (by omega)]; exact m3
  · rw [K4 _ (by omega)]; exact m5
  · rw [K4 _ (by omega)]; exact n1
  · rw [m31 0 (by omega)]; exact m2
  · rw [r7, r31 1 (by omega)]; exact m4
  · rw [m31 2 (by omega)]; exact m6
  · rw [m31 5 (by omega)]; exact n2
  · rw [m31 1 (by omega)]; exact m4
  · rw [m31 3 (by omega)]; exact m8
  · rw [m31 4 (by omega)]; exact m10
  · rw [r5, r31 3 (by omega)]; exact m8
  · rw [r6, r31 4 (by omega)]; exact m10
  · rw [K4 _ (by omega)]; exact m7
  · rw [K4 _ (by omega)]; exact m9
  · obtain ⟨d1, d2, d3, d4⟩ := dc c hc
    refine ⟨⟨by rw [k11 c (by omega)]; exact d1, d3, fun j hj => ?_⟩, ⟨by rw [m35 c (by omega), if_pos hc]; exact d2, fun j hj => ?_⟩, hwf c hc, fun j hj => ?_⟩
    · obtain ⟨⟨e1, e2, e3, e4, e5, e6⟩, -⟩ := d4 j hj
      rw [k12 12 _ (by omega) (by omega), k12 13 _ (by omega) (by omega), k14 _ (by omega), e5]
      exact ⟨e1, fun q => ⟨e4 q, vp_bI _⟩⟩
    · obtain ⟨⟨e1, e2, e3, e4, e5, e6⟩, -⟩ := d4 j hj
      obtain ⟨f1, f2, f3⟩ := m37 (24 * c + j) (by omega)
      rw [f1, f2, f3]
      exact ⟨e2, fun q => ⟨e3.symm.trans (e4 q), e6⟩⟩
    · obtain ⟨⟨e1, e2, e3, e4, e5, e6⟩, -⟩ := d4 j hj
      obtain ⟨f1, f2, f3⟩ := m37 (24 * c + j) (by omega)
      rw [k12 13 _ (by omega) (by omega), k14 _ (by omega), e5, f2, f3]
      exact ⟨e3, vp_bI _, e6⟩
  · rw [k11 c b]; exact dz c a b
  · rw [hgc, zU_ne _ _ (by omega), zU_ne _ _ (by omega), zU_self]
  · exact r3
  · refine Sim_start hz r8 ?_ ?_ ?_ (fun i hi => ?_) (fun k hk => ?_) (fun c hc => ?_)
    · rw [K1 _ _ _ (by omega) (by omega) (by omega)]; exact y4
    · rw [K1 _ _ _ (by omega) (by omega) (by omega)]; exact y5
    · rw [K1 _ _ _ (by omega) (by omega) (by omega)]; exact y6
    · rw [K1 _ _ _ (by omega) (by omega) (by omega), y7 i hi, ← K2 15 i (by omega)]; exact (hw i hi).1
    · rw [K1 _ _ _ (by omega) (by omega) (by omega)]; exact y8 k hk
    · exact CoreZ_fr (y9 c hc) (fun f i j a => K1 f i j (by omega) (by omega) (by omega))
  · exact (r8.RI hz.siz (fun a ha => (hw a ha).2) hwf).1
  · exact (r8.RI hz.siz (fun a ha => (hw a ha).2) hwf).2
  · rw [K1 _ _ _ (by omega) (by omega) (by omega), y2, K3 _ (by omega)]; exact m7
  · rw [K1 _ _ _ (by omega) (by omega) (by omega), y3, K3 _ (by omega)]; exact m9
  · rw [r4] at z
    exact absurd z (by decide)
