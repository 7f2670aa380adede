theorem Dec_cat {S W PL NC rule c ℓ r : Nat} {tries : Int32} {b : Bool} (hz : Siz S W PL NC) (hc : c < 4) {m m' : Rw} (h : DecR S W NC rule tries c ℓ b m 1 r m') : ∀ k, k < 14 → m' (cat c k) = m (cat c k) := by
  have h4 := hz.par.2.2.2
  intro k hk
  obtain ⟨v, hv, ⟨-, -, -, h⟩ | ⟨-, -, -, h, -⟩ | ⟨-, -, h, -⟩ | ⟨-, -, -, -, -, h⟩⟩ := h
  · rw [h]
  · omega
  · omega
  · have := cat_lt hc hk
    refine EndsL_low (by omega) NC h _ (by omega) (fun o j ho hb hj z => ?_)
    have e := (cat_inj hk hj z).1
    exact ((hv.2 o (by omega)).mp hb).2.1 e.symm
theorem RI_Tch {S W PL NC rule c a how r : Nat} {tries : Int32} {b : Bool} {len : Nat → Nat} {so wh : Nat → Nat → Nat} (hz : Siz S W PL NC) (hc : c < NC) (ha : a < 16 * PL) {m m' : Rw} (hst : m (cat c 3) ≠ nI 0) (h : TchR S W PL NC rule tries c a b m how r m') (hp : RI S W PL NC len so wh m) : RI S W PL NC len so wh m' := by
  obtain ⟨p1, p2, p3, p4, p5, p6, p7, p8⟩ := id hz
  have hℓ : a / PL < 16 := (Nat.div_lt_iff_lt_mul p5).mpr (by omega)
  have hs : a / PL % S < S := Nat.mod_lt _ p1
  have hk : a % PL < PL := Nat.mod_lt _ p5
  obtain ⟨h1, r1, m1, hd, ⟨-, -, -, he⟩ | ⟨-, -, -, he⟩ | ⟨rfl, was, o, m2, -, hb, ⟨e, -, -, he⟩ | ⟨w, e, -, -, he⟩⟩⟩ := h
  · rw [he]; exact RI_wait hz hc (RI_Dec hz hc hst hd hp)
  · rw [he]; exact RI_Dec hz hc hst hd hp
  · rw [he]
    have q := RI_Dec hz hc hst hd hp
    subst e
    obtain ⟨o0, -, ⟨-, -, -, h⟩ | ⟨w, m3, hh, -, -, h, -⟩ | ⟨w, m3, hh, -, h, -⟩⟩ := hb
    · refine RI_Ends hz (by omega) hc ?_ h q
      rw [Dec_cat hz (by omega) hd 3 (by omega)]; exact hst
    · cases h
    · cases h
  · subst e
    have q := RI_Brg hz hc (by omega) hb (RI_Dec hz hc hst hd hp)
    obtain ⟨hw, hl⟩ := BrgR_line ⟨p1, p2⟩ p4 p6 (by omega) p8 hc hb
    rw [he]
    split
    · exact RI_put hz hc hs hw hk hℓ hl q
    · exact RI_get hz hc hs hw hk q
/-- a deed that neither begins nor ends is behind the core -/
theorem RI_next {S W PL NC c k : Nat} {len : Nat → Nat} {so wh : Nat → Nat → Nat} (hz : Siz S W PL NC) (hc : c < NC) {m : Rw} (hn : m (cat c 0) = nI k) (hk : k < len c) (hs : 2 ≤ so c k) (hp : RI S W PL NC len so wh m) : RI S W PL NC len so wh (upd m (cat c 0) (nI (k + 1))) := by
  have hc4 : c < 4 := by have := hz.par.2.2.2; omega
  have hlt := cat_lt hc4 (show 0 < 14 by omega)
  obtain ⟨h1, h2, h3, h4⟩ := hp
  have h24 := (h2 c hc).1
  have e1 : ∀ i, 254 ≤ i → upd m (cat c 0) (nI (k + 1)) i = m i := fun i hi => upd_ne (by omega)
  have e2 : ∀ o j, j < 14 → j ≠ 0 → upd m (cat c 0) (nI (k + 1)) (cat o j) = m (cat o j) := fun o j hj hjk => upd_ne (fun z => hjk (cat_inj hj (by omega) z).2)
  have hop : opn (so c) (k + 1) = opn (so c) k := by
    rw [opn, if_neg (by omega), if_neg (by omega)]
  have hne : nend (so c) (k + 1) = nend (so c) k := by
    rw [nend, if_neg (by omega)]; rfl
  refine ⟨PI_low h1 e1, h2, fun o ho => ?_, ?_⟩
  · obtain ⟨n, b, st, c1, c2, c3, c4, c5, c6, c7, c8, c9, c10⟩ := h3 o ho
    have nm : st ≠ 1 → NoMk S W o (upd m (cat c 0) (nI (k + 1))) := fun z s w a1 a2 => by
      have := pos_ge o s w
      rw [e1 _ (by omega), e1 _ (by omega)]
      exact c8 z s w a1 a2
    by_cases e : o = c
    · subst e
      rw [hn, nI_inj (by omega) (by omega)] at c1
      subst c1
      exact ⟨k + 1, b, st, upd_eq rfl, by omega, by rw [e2 o 6 (by omega) (by omega)]; exact c3, by rw [e2 o 3 (by omega) (by omega)]; exact c4, c5, by rw [hop]; exact c6, fun z => by rw [hne]; exact ⟨by have := (c7 z).1; omega, (c7 z).2⟩, nm, by rw [e2 o 1 (by omega) (by omega)]; exact c9, by rw [e2 o 2 (by omega) (by omega)]; exact c10⟩
    · exact ⟨n, b, st, by rw [upd_ne (fun z => e (cat_inj (by omega) (by omega) z).1)]; exact c1, c2, by rw [e2 o 6 (by omega) (by omega)]; exact c3, by rw [e2 o 3 (by omega) (by omega)]; exact c4, c5, c6, c7, nm, by rw [e2 o 1 (by omega) (by omega)]; exact c9, by rw [e2 o 2 (by omega) (by omega)]; exact c10⟩
  · rw [upd_ne (by unfold cat; omega), h4]
    congr 1
    refine (nAll_congr NC (fun o ho => ?_)).symm
    by_cases e : o = c
    · subst e
      rw [upd_eq rfl, hn, nI_clamp (by omega), nI_clamp (by omega), hne]
    · rw [upd_ne (fun z => e (cat_inj (by omega) (by omega) z).1)]
