theorem CmR_cell {S W PL NC c : Nat} (hz : Siz S W PL NC) {m m1 : Rw} (hcm : CmR S W c S 0 m m1) {o s w f : Nat} (hs : s < S) (hw : w < W) (hf : f < 9) (h : o ≠ c ∨ (f ≠ 2 ∧ f ≠ 3)) : m1 (pos o s w + f) = m (pos o s w + f) := by
  obtain ⟨p1, p2, p3, p4, p5, p6, p7, p8⟩ := id hz
  refine hcm.2 _ (fun s' w' a1 a2 => ⟨fun z => ?_, fun z => ?_⟩)
  · have := pos_inj (by omega) (by omega) (by omega) (by omega) (by omega) (by omega) z
    omega
  · have := pos_inj (by omega) (by omega) (by omega) (by omega) (by omega) (by omega) z
    omega
theorem PI_Cm {S W PL NC c : Nat} (hz : Siz S W PL NC) {m m1 : Rw} (hcm : CmR S W c S 0 m m1) (h : PI S W PL NC m) : PI S W PL NC m1 := by
  obtain ⟨p1, p2, p3, p4, p5, p6, p7, p8⟩ := id hz
  have c0 : ∀ o s w, s < S → w < W → m1 (pos o s w) = m (pos o s w) := fun o s w a1 a2 => CmR_cell (f := 0) hz hcm a1 a2 (by omega) (Or.inr (by omega))
  refine ⟨fun o s w a1 a2 a3 => ?_, fun o s w w' a1 a2 a3 a4 => ?_, fun o s w a1 a2 a3 => ?_, fun o w a1 a2 b => ?_, fun o s w k a1 a2 a3 a4 => ?_, fun i a1 a2 => ?_⟩
  · rw [c0 o s w a2 a3]; exact h.lok o s w a1 a2 a3
  · rw [c0 o s w a2 a3, c0 o s w' a2 a4]; exact h.one o s w w' a1 a2 a3 a4
  · by_cases e : o = c
    · subst e
      have := hcm.1 s w a2 a3 (Or.inl a2)
      exact ⟨Or.inl this.1, Or.inl this.2⟩
    · rw [CmR_cell hz hcm a2 a3 (by omega) (Or.inl e), CmR_cell hz hcm a2 a3 (by omega) (Or.inl e)]; exact h.mk o s w a1 a2 a3
  · have hs : 16 % S < S := Nat.mod_lt _ p1
    rw [c0 o _ w hs a2] at b
    by_cases e : o = c
    · subst e
      rw [(hcm.1 _ w hs a2 (Or.inl hs)).2, ne_eq, nI_inj (by omega) (by omega)]
      omega
    · rw [CmR_cell hz hcm hs a2 (by omega) (Or.inl e)]; exact h.lk o w a1 a2 b
  · rw [Nat.add_assoc, CmR_cell hz hcm a2 a3 (by omega) (Or.inr (by omega)), ← Nat.add_assoc]; exact h.wd o s w k a1 a2 a3 a4
  · rw [hcm.2 i (fun s w _ _ => by have := pos_ge c s w; omega)]; exact h.mm i a1 a2
theorem RI_Cmt {S W PL NC c k : Nat} {len : Nat → Nat} {so wh : Nat → Nat → Nat} (hz : Siz S W PL NC) (hc : c < NC) {m m1 : Rw} {n : Nat} (hp : RI S W PL NC len so wh m) (hn : m (cat c 0) = nI k) (hk : k < len c) (hs : so c k = 1) (h4 : m 4 = nI n) (hn48 : n < 48) (hcm : CmR S W c S 0 m m1) : RI S W PL NC len so wh (upd (rCmt c n m1) (cat c 0) (rCmt c n m1 (cat c 0) + nI 1)) := by
  obtain ⟨p1, p2, p3, p4, p5, p6, p7, p8⟩ := id hz
  have hc4 : c < 4 := by omega
  have ne : ∀ {a b : Nat}, a ≠ b → cat c a ≠ cat c b := fun {a b} hab z => hab (by unfold cat at z; omega)
  have lt : ∀ o j, o < 4 → j < 14 → cat o j < 62 := fun o j ho hj => cat_lt ho hj
  have ge : ∀ o j, 6 ≤ cat o j := fun o j => by unfold cat; omega
  have lo : ∀ i, i < 318 → m1 i = m i := fun i hi => hcm.2 i (fun s w _ _ => by have := pos_ge c s w; omega)
  -- what rCmt leaves
  have out : ∀ i, i ≠ 5 → i ≠ 4 → ¬ (62 ≤ i ∧ i < 254) → (∀ j, j = 3 ∨ j = 4 ∨ j = 5 ∨ j = 11 ∨ j = 12 → i ≠ cat c j) → rCmt c n m1 i = m1 i := fun i a1 a2 a3 a4 => by
    unfold rCmt
    rw [upd_ne (a4 3 (by omega)), upd_ne (a4 5 (by omega)), upd_ne (a4 4 (by omega)), upd_ne (a4 11 (by omega)), upd_ne a2, upd_ne (by omega), upd_ne (by omega), upd_ne (by omega), upd_ne (by omega)]
    split
    · rw [upd_ne (a4 12 (by omega)), upd_ne a1]
    · rfl
  have hi : ∀ i, 254 ≤ i → rCmt c n m1 i = m1 i := fun i h => out i (by omega) (by omega) (by omega) (fun j _ => by have := lt c j hc4 (by omega); omega)
  have hF : ∀ i, 254 ≤ i → upd (rCmt c n m1) (cat c 0) (rCmt c n m1 (cat c 0) + nI 1) i = m1 i := fun i h => by
    rw [upd_ne (by have := lt c 0 hc4 (by omega); omega), hi i h]
  have c0 : rCmt c n m1 (cat c 0) = nI k := by
    have := ge c 0; have := lt c 0 hc4 (by omega)
    rw [out _ (by omega) (by omega) (by omega) (fun j _ => ne (by omega)), lo _ (by omega), hn]
  have own : ∀ j, j = 1 ∨ j = 2 ∨ j = 6 → upd (rCmt c n m1) (cat c 0) (rCmt c n m1 (cat c 0) + nI 1) (cat c j) = m (cat c j) := fun j hj => by
    have := ge c j; have := lt c j hc4 (by omega)
    rw [upd_ne (ne (by omega)), out _ (by omega) (by omega) (by omega) (fun j' _ => ne (by omega)), lo _ (by omega)]
  have st0 : upd (rCmt c n m1) (cat c 0) (rCmt c n m1 (cat c 0) + nI 1) (cat c 3) = nI 0 := by
    rw [upd_ne (ne (by omega))]
    unfold rCmt
    rw [upd_eq rfl]
  refine RI_close hz hc hp hn hk hs (PI_low (PI_Cm hz hcm hp.1) hF) (by rw [upd_eq rfl, c0, nI_add]) (own 1 (by omega)) (own 2 (by omega)) st0 (own 6 (by omega)) ?_ (fun o j ho hoc hj => ?_) (fun s w a1 a2 => ?_) (fun o ho hoc hno s w a1 a2 => ?_)
  · have g0 := ge c 0
    have g3 := ge c 3
    have g5 := ge c 5
    have g4 := ge c 4
    have g11 := ge c 11
    rw [upd_ne (by omega)]
    unfold rCmt
    rw [upd_ne (by omega), upd_ne (by omega), upd_ne (by omega), upd_ne (by omega), upd_eq rfl, ← nI_add, ← nI_add, ← h4, ← hp.2.2.2]
  · have := ge o j; have := lt o j (by omega) (by omega)
    rw [upd_ne (fun z => hoc (cat_inj (by omega) (by omega) z).1), out _ (by omega) (by omega) (by omega) (fun j' hj' z => hoc (cat_inj (by omega) (by omega) z).1), lo _ (by omega)]
  · have := pos_ge c s w
    rw [hF _ (by omega), hF _ (by omega)]
    exact hcm.1 s w a1 a2 (Or.inl a1)
  · have := pos_ge o s w
    rw [hF _ (by omega), hF _ (by omega), CmR_cell hz hcm a1 a2 (by omega) (Or.inl hoc), CmR_cell hz hcm a1 a2 (by omega) (Or.inl hoc)]
    exact hno s w a1 a2
