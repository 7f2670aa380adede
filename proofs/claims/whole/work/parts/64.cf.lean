/-! ===== calls that only ask: the means ===== -/
def Alike (A B : zR0) : Prop := ∃ x gc' gm', A = some (x, gc') ∧ B = some (x, gm') ∧ INV gc' gm'
def aN (g : zG) : zG := zU (zU (zU g 1007 0 0 (nI 0)) 2007 0 0 (nI 0)) 4007 0 0 (-1)
theorem X7_anew_eq (g : zG) (K : Int32 → zG → zR0) : zc (X7_anew g) K = K 0 (aN g) := rfl
theorem aN_ne (g : zG) {f i j : Nat} (h1 : f ≠ 1007) (h2 : f ≠ 2007) (h3 : f ≠ 4007) : aN g f i j = g f i j := by
  unfold aN
  rw [zU_ne _ _ (by omega), zU_ne _ _ (by omega), zU_ne _ _ (by omega)]
theorem aN_2007 (g : zG) : aN g 2007 0 0 = nI 0 := by
  unfold aN
  rw [zU_ne _ _ (by omega), zU_self]
theorem ite0 {α : Type} (A B : α) : (if nI 0 = 0 then A else B) = A := if_pos (by decide)
theorem ite1 {α : Type} (A B : α) : (if nI 1 = 0 then A else B) = B := if_neg (by decide)
theorem no_alike {gc gm : zG} {k : Nat} (h : INV gc gm) (hk : k = 1 ∨ k = 2 ∨ k = 5) : Alike (zc (X6_refuse (nI k) gc) (fun x g => some (x, g))) (zc (X7_no (nI k) (aN gm)) (fun x g => some (x, g))) := by
  refine ⟨-1, zU gc 13000 0 0 (nI k), zU (aN gm) 2007 0 0 (nI k), rfl, rfl, INV_q h (fun f i j a => zU_ne _ _ (by omega)) (fun f i j a b d => by rw [zU_ne _ _ (by omega)]; exact aN_ne gm a b d) (by rw [zU_self, zU_self]) (fun z => ?_)⟩
  rw [zU_self, nI_inj (by omega) (by omega)] at z
  omega
theorem INV_ok {gc gm : zG} (h : INV gc gm) : INV (zU gc 13000 0 0 (nI 0)) (aN gm) :=
  INV_q h (fun f i j a => zU_ne _ _ (by omega)) (fun f i j a b d => aN_ne gm a b d) (by rw [zU_self, aN_2007]) (fun z => by rw [aN_2007, nI_inj (by omega) (by omega)] at z; omega)
theorem ok_alike {gc gm : zG} (h : INV gc gm) (x : Int32) : Alike (zc (X6_answer x gc) (fun x g => some (x, g))) (some (x, aN gm)) :=
  ⟨x, zU gc 13000 0 0 (nI 0), aN gm, rfl, rfl, INV_ok h⟩
theorem INV_t {gc gm : zG} (h : INV gc gm) (v : Int32) : INV gc (zU gm 1007 0 0 v) :=
  INV_q h (fun f i j a => rfl) (fun f i j a b d => zU_ne _ _ (by omega)) (by rw [zU_ne _ _ (by omega)]; exact h.1.2.2.2.1) (fun z => by
    rw [zU_ne _ _ (by omega)] at z ⊢
    exact h.1.2.2.2.2.1 z)
theorem t_alike {gc gm : zG} (h : INV gc gm) (x v : Int32) : Alike (some (x, gc)) (some (x, zU gm 1007 0 0 v)) := ⟨x, gc, _, rfl, rfl, INV_t h v⟩
theorem Tld_aN {S W PL NC rl tr : Nat} {len : Nat → Nat} {so wh : Nat → Nat → Nat} {ix : Nat → Nat → Bool} {gc gm : zG} (h : Tld S W PL NC rl tr len so wh ix gc gm) : Tld S W PL NC rl tr len so wh ix gc (aN gm) := by
  obtain ⟨a, b, c⟩ := h
  have e43 : aN gm 43 0 = gm 43 0 := funext (fun k => aN_ne gm (by omega) (by omega) (by omega))
  have e45 : aN gm 45 0 = gm 45 0 := funext (fun k => aN_ne gm (by omega) (by omega) (by omega))
  refine ⟨a.fr (fun _ _ _ _ _ => rfl) (fun f i j z => aN_ne gm (by omega) (by omega) (by omega)), by rw [e43]; exact b, fun z => ?_⟩
  rw [aN_ne gm (by omega) (by omega) (by omega)] at z
  rw [e45]; exact c z
theorem told_cases {gc gm : zG} (h : INV gc gm) : (gc 10000 0 0 = nI 0 ∧ aN gm 21007 0 0 = nI 0) ∨ ∃ S W PL NC rl tr len so wh ix, Tld S W PL NC rl tr len so wh ix gc (aN gm) ∧ gc 10000 0 0 = nI 1 ∧ aN gm 21007 0 0 = nI 1 := by
  rcases h.2 with ⟨a1, a2, -⟩ | ⟨S, W, PL, NC, rl, tr, len, so, wh, ix, hT⟩
  · exact Or.inl ⟨a1, by rw [aN_ne gm (by omega) (by omega) (by omega)]; exact a2⟩
  · have := (Tld_aN hT)
    exact Or.inr ⟨S, W, PL, NC, rl, tr, len, so, wh, ix, this, this.1.2.2.2.2.2.2.2.2.2.2.2.2.2.2.2.1, this.1.2.2.2.2.2.2.2.2.2.2.2.2.2.2.2.2⟩
theorem within_cases (v : Int32) {a n : Nat} (hn : n < 2 ^ 30) (han : a ≤ n) : (∀ g, X6_isWithin v (nI a) (nI n) g = some (nI 0, g) ∧ X7_in v (nI a) (nI n) g = some (nI 0, g)) ∨ ∃ j, a ≤ j ∧ j ≤ n ∧ v = nI j ∧ ∀ g, X6_isWithin v (nI a) (nI n) g = some (nI 1, g) ∧ X7_in v (nI a) (nI n) g = some (nI 1, g) := by
  unfold X6_isWithin X7_in
  by_cases h1 : v < nI a
  · exact Or.inl (fun g => by rw [if_pos h1]; exact ⟨rfl, rfl⟩)
  · by_cases h2 : nI n < v
    · exact Or.inl (fun g => by rw [if_neg h1, if_pos h2]; exact ⟨rfl, rfl⟩)
    · right
      have hv : ∃ j, j < 2 ^ 31 ∧ v = nI j := by
        refine nI_of (fun z => h1 ?_)
        have e1 := Int32.lt_iff_toInt_lt.mp z
        have e2 : (0 : Int32).toInt = 0 := by decide
        apply Int32.lt_iff_toInt_lt.mpr
        rw [nI_toInt (show a < 2 ^ 31 by omega)]
        omega
      obtain ⟨j, j1, rfl⟩ := hv
      rw [nI_lti j1 (by omega)] at h1
      rw [nI_lti (by omega) j1] at h2
      refine ⟨j, by omega, by omega, rfl, fun g => ?_⟩
      rw [if_neg (by rw [nI_lti j1 (by omega)]; omega), if_neg (by rw [nI_lti (by omega) j1]; omega)]
      exact ⟨rfl, rfl⟩
theorem pm1 {n : Nat} (h : 0 < n) : nI n - nI 1 = nI (n - 1) := pk_sub h
/-- a core's number, whatever is asked -/
theorem core_cases {gc gm : zG} (h : INV gc gm) (v : Int32) : (X2_hasCore 0 v gc = some (nI 0, gc) ∧ X7_isCore v (aN gm) = some (nI 0, aN gm)) ∨ ∃ S W PL NC rl tr len so wh ix c, Tld S W PL NC rl tr len so wh ix gc (aN gm) ∧ c < NC ∧ NC ≤ 4 ∧ v = nI c ∧ X2_hasCore 0 v gc = some (nI 1, gc) ∧ X7_isCore v (aN gm) = some (nI 1, aN gm) := by
  rcases h.2 with ⟨a1, a2, a3, -⟩ | ⟨S, W, PL, NC, rl, tr, len, so, wh, ix, hT⟩
  · left
    constructor
    · unfold X2_hasCore
      rw [a3]
      by_cases z : v < 0
      · rw [if_pos z]
      · rw [if_neg z, if_neg (show ¬ v < nI 0 from z)]
    · unfold X7_isCore
      rw [aN_ne gm (by omega) (by omega) (by omega), a2, ite0]
  · have hT' := (Tld_aN hT)
    have hC := hT'.1.1
    obtain ⟨⟨p1, p2, p3, p4, p5, p6, p7, p8⟩, q1, q2, q3, q4⟩ := id hC
    have q5 := hT'.1.2.1.2.2.2.2
    have t21 := hT'.1.2.2.2.2.2.2.2.2.2.2.2.2.2.2.2.2
    have hm : ∀ y, X7_in v (nI 0) (nI (NC - 1)) (aN gm) = some (y, aN gm) → y = nI 0 ∨ y = nI 1 → X7_isCore v (aN gm) = some (y, aN gm) := fun y e hy => by
      unfold X7_isCore
      rw [t21, ite1, zi_nI (by omega) (by omega), show (nI 5).toNatClampNeg = 5 from nI_clamp (by omega), q5, pm1 p7, e, zc_some]
      rcases hy with rfl | rfl
      · rw [ite0]
      · rw [ite1]
    rcases within_cases v (a := 0) (n := NC - 1) (by omega) (by omega) with hw | ⟨c, c1, c2, rfl, hw⟩
    · left
      refine ⟨?_, hm _ (hw _).2 (Or.inl rfl)⟩
      rcases pk_ix v (n := NC) (by omega) with z | z | ⟨j, j1, rfl⟩
      · unfold X2_hasCore; rw [if_pos z]
      · unfold X2_hasCore
        by_cases z0 : v < 0
        · rw [if_pos z0]
        · rw [if_neg z0, q4, if_neg (by
            have := Int32.le_iff_toInt_le.mp z
            intro y
            have := Int32.lt_iff_toInt_lt.mp y
            omega)]
      · have e := (hw gc).2
        unfold X7_in at e
        rw [if_neg (by rw [nI_lti (by omega) (by omega)]; omega), if_neg (by rw [nI_lti (by omega) (by omega)]; omega)] at e
        have e' : nI 1 = nI 0 := congrArg (fun o => (o.map Prod.fst).getD 0) e
        exact absurd e' (by decide)
    · right
      exact ⟨S, W, PL, NC, rl, tr, len, so, wh, ix, c, hT', by omega, p8, rfl, hC.hasCore (by omega), hm _ (hw _).2 (Or.inr rfl)⟩
theorem addr_cases {gc gm : zG} (h : INV gc gm) (v : Int32) : (X2_hasAddress 0 v gc = some (nI 0, gc) ∧ X7_isAddress v (aN gm) = some (nI 0, aN gm)) ∨ ∃ S W PL NC rl tr len so wh ix a, Tld S W PL NC rl tr len so wh ix gc (aN gm) ∧ a < 16 * PL ∧ PL ≤ 4 ∧ v = nI a ∧ X2_hasAddress 0 v gc = some (nI 1, gc) ∧ X7_isAddress v (aN gm) = some (nI 1, aN gm) := by
  rcases h.2 with ⟨a1, a2, a3, a4, -⟩ | ⟨S, W, PL, NC, rl, tr, len, so, wh, ix, hT⟩
  · left
    constructor
    · unfold X2_hasAddress X2_addresses
      rw [zc_some, a4, pk_mul]
      by_cases z : v < 0
      · rw [if_pos z]
      · rw [if_neg z, if_neg (show ¬ v < nI (16 * 0) from z)]
    · unfold X7_isAddress
      rw [aN_ne gm (by omega) (by omega) (by omega), a2, ite0]
  · have hT' := (Tld_aN hT)
    have hC := hT'.1.1
    obtain ⟨⟨p1, p2, p3, p4, p5, p6, p7, p8⟩, q1, q2, q3, q4⟩ := id hC
    have q5 := hT'.1.2.1.2.2.2.1
    have t21 := hT'.1.2.2.2.2.2.2.2.2.2.2.2.2.2.2.2.2
    have hm : ∀ y, X7_in v (nI 0) (nI (16 * PL - 1)) (aN gm) = some (y, aN gm) → y = nI 0 ∨ y = nI 1 → X7_isAddress v (aN gm) = some (y, aN gm) := fun y e hy => by
      unfold X7_isAddress X7_addresses
      rw [t21, ite1, zi_nI (by omega) (by omega), show (nI 2).toNatClampNeg = 2 from nI_clamp (by omega), q5, zc_some, pk_mul, pm1 (by omega), e, zc_some]
      rcases hy with rfl | rfl
      · rw [ite0]
      · rw [ite1]
    rcases within_cases v (a := 0) (n := 16 * PL - 1) (by omega) (by omega) with hw | ⟨c, c1, c2, rfl, hw⟩
    · left
      refine ⟨?_, hm _ (hw _).2 (Or.inl rfl)⟩
      rcases pk_ix v (n := 16 * PL) (by omega) with z | z | ⟨j, j1, rfl⟩
      · unfold X2_hasAddress; rw [if_pos z]
      · unfold X2_hasAddress X2_addresses
        by_cases z0 : v < 0
        · rw [if_pos z0]
        · rw [if_neg z0, zc_some, q3, pk_mul, if_neg (by
            have := Int32.le_iff_toInt_le.mp z
            intro y
            have := Int32.lt_iff_toInt_lt.mp y
            omega)]
      · have e := (hw gc).2
        unfold X7_in at e
        rw [if_neg (by rw [nI_lti (by omega) (by omega)]; omega), if_neg (by rw [nI_lti (by omega) (by omega)]; omega)] at e
        have e' : nI 1 = nI 0 := congrArg (fun o => (o.map Prod.fst).getD 0) e
        exact absurd e' (by decide)
    · right
      exact ⟨S, W, PL, NC, rl, tr, len, so, wh, ix, c, hT', by omega, p6, rfl, hC.hasAddress (by omega), hm _ (hw _).2 (Or.inr rfl)⟩
/-! fault, where, trouble, size; about, lock, memory, traffic, count, core, advice, commit -/
theorem q_fault {gc gm : zG} (h : INV gc gm) : Alike (X6_fault gc) (X7_fault gm) := by
  unfold X6_fault X7_fault
  rw [zw_eq, zU_ne _ _ (by omega), h.1.2.2.1]
  exact t_alike h _ _
theorem q_where {gc gm : zG} (h : INV gc gm) : Alike (X6_where gc) (X7_where gm) := by
  have e := h.1.2.2.2.1
  have e2 := h.1.2.2.2.2.1
  unfold X6_where X7_where
  rw [zw_eq, zU_ne _ _ (by omega), zU_ne _ _ (by omega), e]
  by_cases z : gm 2007 0 0 = nI 4
  · rw [if_pos z, if_pos z, e2 z]; exact t_alike h _ _
  · rw [if_neg z, if_neg z]; exact t_alike h _ _
theorem q_trouble {gc gm : zG} (h : INV gc gm) : Alike (X6_trouble gc) (X7_trouble gm) := by
  unfold X6_trouble X7_trouble
  rw [zw_eq, zU_ne _ _ (by omega), h.1.2.2.2.1]
  exact t_alike h _ _
theorem ite01 {α : Type} {x : Int32} (h : x = nI 0 ∨ x = nI 1) (A B : α) : (if x = 0 then A else B) = if x = nI 0 then A else B := by
  rcases h with rfl | rfl
  · rw [if_pos (by decide), if_pos rfl]
  · rw [if_neg (by decide), if_neg (by decide)]
theorem sz_loop (K : zG → Int32 → zR0) {v : Int32} {g : zG} (hK : ∀ n s, X7_size_l9 (n + 1) v s (nI 4) g = K g s) : X7_size_l9 zfuel v (nI 0) (nI 0) g = K g (nI 0 + g 35 0 0 + g 35 0 1 + g 35 0 2 + g 35 0 3) := by
  have st : ∀ n i s, i < 4 → X7_size_l9 (n + 1) v s (nI i) g = X7_size_l9 n v (s + g 35 0 i) (nI (i + 1)) g := fun n i s hi => by
    rw [X7_size_l9.eq_2]
    simp (disch := omega) only [zc_some, zw_eq, zi_nI, nI_clamp, nI_add, nI_1, nI_lti, nI_inj, nI_ltz, nI_eq0, nI_0lt, nI_ne_m1, nI_ne_m2, nI_m1_ne, nI_m2_ne, if_true, if_false, zU_eq, zU_ne, Nat.add_zero, pk_mul, hi]
  rw [show zfuel = 99995 + 1 + 1 + 1 + 1 + 1 from rfl, st _ 0 _ (by omega), st _ 1 _ (by omega), st _ 2 _ (by omega), st _ 3 _ (by omega)]
  exact hK _ _
theorem q_size {gc gm : zG} (h : INV gc gm) (v : Int32) : Alike (X6_size v gc) (X7_size v gm) := by
  obtain ⟨⟨⟨t, b1, b2, b3⟩, b4, b5, b6, b7, b8, b9, b, b10, b11⟩, hT⟩ := id h
  have da : X2_deedsInAll 0 gc = some (nI 0 + gc 11 0 0 + gc 11 0 1 + gc 11 0 2 + gc 11 0 3, gc) := by
    have st : ∀ n i s, i < 4 → X2_deedsInAll_l4 (n + 1) 0 s (nI i) gc = X2_deedsInAll_l4 n 0 (s + gc 11 0 i) (nI (i + 1)) gc := fun n i s hi => by
      rw [X2_deedsInAll_l4.eq_2]
      simp (disch := omega) only [zc_some, zw_eq, zi_nI, nI_clamp, nI_add, nI_1, nI_lti, nI_inj, nI_ltz, nI_eq0, nI_0lt, nI_ne_m1, nI_ne_m2, nI_m1_ne, nI_m2_ne, if_true, if_false, zU_eq, zU_ne, Nat.add_zero, pk_mul, hi]
    unfold X2_deedsInAll
    rw [show zfuel = 99995 + 1 + 1 + 1 + 1 + 1 from rfl, st _ 0 _ (by omega), st _ 1 _ (by omega), st _ 2 _ (by omega), st _ 3 _ (by omega), X2_deedsInAll_l4.eq_2, if_neg (by decide)]
  unfold X6_size X7_size
  rw [zw_eq, sz_loop (fun g s => if v = nI 0 then some (g 6007 0 0, g) else if v = nI 1 then some (g 9007 0 0, g) else if v = nI 2 then some (s, g) else if v = nI 3 then (if g 34007 0 0 = 0 then some (nI 0, g) else some (nI 1, g)) else some (-1, g)) (fun n s => by rw [X7_size_l9.eq_2, if_neg (by decide)])]
  simp (disch := omega) only [zU_ne]
  by_cases z0 : v = nI 0
  · rw [if_pos z0, if_pos z0, b2, b3]; exact t_alike h _ _
  · rw [if_neg z0, if_neg z0]
    by_cases z1 : v = nI 1
    · rw [if_pos z1, if_pos z1, b8]; exact t_alike h _ _
    · rw [if_neg z1, if_neg z1]
      by_cases z2 : v = nI 2
      · rw [if_pos z2, if_pos z2, da, zc_some, b9 0 (by omega), b9 1 (by omega), b9 2 (by omega), b9 3 (by omega)]; exact t_alike h _ _
      · rw [if_neg z2, if_neg z2]
        by_cases z3 : v = nI 3
        · rw [if_pos z3, if_pos z3, b10, b11]
          unfold X6_asBit
          rw [iteB, iteB]
          cases b with
          | false => rw [if_neg (by decide), if_neg (by decide), zc_some]; exact t_alike h _ _
          | true => rw [if_pos rfl, if_pos rfl, zc_some]; exact t_alike h _ _
        · rw [if_neg z3, if_neg z3]; exact t_alike h _ _
theorem Tld.par {S W PL NC rl tr : Nat} {len : Nat → Nat} {so wh : Nat → Nat → Nat} {ix : Nat → Nat → Bool} {gc gm : zG} (h : Tld S W PL NC rl tr len so wh ix gc gm) : (gc 1001 0 0 = nI S ∧ gc 2001 0 0 = nI W ∧ gc 3001 0 0 = nI PL ∧ gc 4001 0 0 = nI rl ∧ gc 5001 0 0 = nI tr ∧ gc 6001 0 0 = nI NC) ∧ gm 31 0 0 = nI S ∧ gm 31 0 1 = nI W ∧ gm 31 0 2 = nI PL ∧ gm 31 0 3 = nI rl ∧ gm 31 0 4 = nI tr ∧ gm 31 0 5 = nI NC := by
  obtain ⟨⟨⟨-, a1, a2, a3, a4⟩, ⟨-, b1, b2, b3, b4⟩, h3, h4, h5, h6, h7, h8, h9, h10, h11, h12, -⟩, -⟩ := h
  exact ⟨⟨a1, a2, a3, h11, h12, a4⟩, b1, h3, b3, h4, h5, b4⟩
theorem Tld.nums {S W PL NC rl tr : Nat} {len : Nat → Nat} {so wh : Nat → Nat → Nat} {ix : Nat → Nat → Bool} {gc gm : zG} (h : Tld S W PL NC rl tr len so wh ix gc gm) : gc 10003 0 0 = gm 43 0 0 ∧ gc 7003 0 0 = gm 43 0 4 ∧ gc 11003 0 0 = gm 43 0 5 ∧ ∀ k, k < 3 → gc 20 0 k = gm 43 0 (1 + k) := by
  obtain ⟨-, ⟨hS, -⟩, -⟩ := h
  obtain ⟨-, -, -, ⟨h1, h2, ⟨n, h3, h4, h5, h6⟩, h7, h8⟩, -⟩ := hS
  exact ⟨h8, h5.trans h4.symm, h7, h2⟩
theorem q_about {gc gm : zG} (h : INV gc gm) (v : Int32) : Alike (X6_about v gc) (X7_about v gm) := by
  unfold X6_about X7_about
  rw [X7_anew_eq]
  rcases told_cases h with ⟨a, b⟩ | ⟨S, W, PL, NC, rl, tr, len, so, wh, ix, hT, a, b⟩
  · rw [a, b, ite0, ite0]; exact no_alike h (by omega)
  · rw [a, b, ite1, ite1]
    obtain ⟨⟨c1, c2, c3, c4, c5, c6⟩, d1, d2, d3, d4, d5, d6⟩ := hT.par
    obtain ⟨n1, n2, n3, n4⟩ := hT.nums
    unfold X2_addresses X7_addresses
    simp (disch := omega) only [zc_some, zw_eq, zi_nI, nI_clamp, nI_add, nI_1, nI_lti, nI_inj, nI_ltz, nI_eq0, nI_0lt, nI_ne_m1, nI_ne_m2, nI_m1_ne, nI_m2_ne, if_true, if_false, zU_eq, zU_ne, Nat.add_zero, pk_mul, c1, c2, c3, c4, c5, c6, d1, d2, d3, d4, d5, d6, n1, n2]
    by_cases z0 : v = nI 0
    · rw [if_pos z0, if_pos z0]; exact ok_alike h _
    · rw [if_neg z0, if_neg z0]
      by_cases z1 : v = nI 1
      · rw [if_pos z1, if_pos z1]; exact ok_alike h _
      · rw [if_neg z1, if_neg z1]
        by_cases z2 : v = nI 2
        · rw [if_pos z2, if_pos z2]; exact ok_alike h _
        · rw [if_neg z2, if_neg z2]
          by_cases z3 : v = nI 3
          · rw [if_pos z3, if_pos z3]; exact ok_alike h _
          · rw [if_neg z3, if_neg z3]
            by_cases z4 : v = nI 4
            · rw [if_pos z4, if_pos z4]; exact ok_alike h _
            · rw [if_neg z4, if_neg z4]
              by_cases z5 : v = nI 5
              · rw [if_pos z5, if_pos z5]; exact ok_alike h _
              · rw [if_neg z5, if_neg z5]
                by_cases z6 : v = nI 6
                · rw [if_pos z6, if_pos z6]; exact ok_alike h _
                · rw [if_neg z6, if_neg z6]
                  by_cases z7 : v = nI 7
                  · rw [if_pos z7, if_pos z7]; exact ok_alike h _
                  · rw [if_neg z7, if_neg z7]
                    by_cases z8 : v = nI 8
                    · rw [if_pos z8, if_pos z8]; exact ok_alike h _
                    · rw [if_neg z8, if_neg z8]; exact no_alike h (by omega)
theorem q_lock {gc gm : zG} (h : INV gc gm) : Alike (X6_lock gc) (X7_lock gm) := by
  unfold X6_lock X7_lock
  rw [X7_anew_eq]
  rcases told_cases h with ⟨a, b⟩ | ⟨S, W, PL, NC, rl, tr, len, so, wh, ix, hT, a, b⟩
  · rw [a, b, ite0, ite0]; exact no_alike h (by omega)
  · rw [a, b, ite1, ite1]
    obtain ⟨n1, n2, n3, n4⟩ := hT.nums
    simp (disch := omega) only [zc_some, zw_eq, zi_nI, nI_clamp, nI_add, nI_1, nI_lti, nI_inj, nI_ltz, nI_eq0, nI_0lt, nI_ne_m1, nI_ne_m2, nI_m1_ne, nI_m2_ne, if_true, if_false, zU_eq, zU_ne, Nat.add_zero, pk_mul, n3]
    exact ok_alike h _
theorem q_memory {gc gm : zG} (h : INV gc gm) (v : Int32) : Alike (X6_memory v gc) (X7_memory v gm) := by
  unfold X6_memory X7_memory
  rw [X7_anew_eq]
  rcases addr_cases h v with ⟨a, b⟩ | ⟨S, W, PL, NC, rl, tr, len, so, wh, ix, x, hT, hx, hPL, rfl, a, b⟩
  · rw [a, b, zc_some, zc_some, ite0, ite0]; exact no_alike h (by omega)
  · rw [a, b, zc_some, zc_some, ite1, ite1]
    have e := hT.2.1.1.2.2.2.1.1 x hx
    simp (disch := omega) only [zc_some, zw_eq, zi_nI, nI_clamp, nI_add, nI_1, nI_lti, nI_inj, nI_ltz, nI_eq0, nI_0lt, nI_ne_m1, nI_ne_m2, nI_m1_ne, nI_m2_ne, if_true, if_false, zU_eq, zU_ne, Nat.add_zero, pk_mul, e]
    exact ok_alike h _
theorem q_traffic {gc gm : zG} (h : INV gc gm) (v : Int32) : Alike (X6_traffic v gc) (X7_traffic v gm) := by
  unfold X6_traffic X7_traffic X6_traffic_b16 X7_traffic_b31
  rw [X7_anew_eq]
  rcases told_cases h with ⟨a, b⟩ | ⟨S, W, PL, NC, rl, tr, len, so, wh, ix, hT, a, b⟩
  · rw [a, b, ite0, ite0]; exact no_alike h (by omega)
  · rw [a, b, ite1, ite1]
    obtain ⟨n1, n2, n3, n4⟩ := hT.nums
    rcases within_cases v (a := 0) (n := 2) (by omega) (by omega) with hw | ⟨k, k1, k2, rfl, hw⟩
    · rw [(hw _).1, (hw _).2, zc_some, zc_some, ite0, ite0]; exact no_alike h (by omega)
    · rw [(hw _).1, (hw _).2, zc_some, zc_some, ite1, ite1]
      simp (disch := omega) only [zc_some, zw_eq, zi_nI, nI_clamp, nI_add, nI_1, nI_lti, nI_inj, nI_ltz, nI_eq0, nI_0lt, nI_ne_m1, nI_ne_m2, nI_m1_ne, nI_m2_ne, if_true, if_false, zU_eq, zU_ne, Nat.add_zero, pk_mul, n4 k (by omega)]
      exact ok_alike h _
theorem q_count {gc gm : zG} (h : INV gc gm) (v u : Int32) : Alike (X6_count v u gc) (X7_count v u gm) := by
  unfold X6_count X7_count X6_count_b21 X7_count_b38
  rw [X7_anew_eq]
  rcases core_cases h v with ⟨a, b⟩ | ⟨S, W, PL, NC, rl, tr, len, so, wh, ix, c, hT, hc, hN, rfl, a, b⟩
  · rw [a, b, zc_some, zc_some, ite0, ite0]; exact no_alike h (by omega)
  · rw [a, b, zc_some, zc_some, ite1, ite1]
    rcases within_cases u (a := 0) (n := 6) (by omega) (by omega) with hw | ⟨k, k1, k2, rfl, hw⟩
    · rw [(hw _).1, (hw _).2, zc_some, zc_some, ite0, ite0]; exact no_alike h (by omega)
    · rw [(hw _).1, (hw _).2, zc_some, zc_some, ite1, ite1]
      have e := (hT.2.1.1.2.2.1 c hc).2.2.2.2.2.2.2 k (by omega)
      have hlt := cat_lt (show c < 4 by omega) (show 7 + k < 14 by omega)
      simp (disch := omega) only [zc_some, zw_eq, zi_nI, nI_clamp, nI_add, nI_1, nI_lti, nI_inj, nI_ltz, nI_eq0, nI_0lt, nI_ne_m1, nI_ne_m2, nI_m1_ne, nI_m2_ne, if_true, if_false, zU_eq, zU_ne, Nat.add_zero, pk_mul, show c < 4 by omega, show k < 7 by omega, X7_coreAt_ok, e]
      exact ok_alike h _
