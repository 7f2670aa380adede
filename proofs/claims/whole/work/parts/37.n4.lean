/-! ===== what holds of the row between two steps: the cores ===== -/
/-- a try (or a lock's holding) is open ahead of deed k -/
def opn (so : Nat → Nat) : Nat → Bool
  | 0 => false
  | k + 1 => if so k = 0 then true else if so k = 1 then false else opn so k
/-- how many ends there are ahead of deed k -/
def nend (so : Nat → Nat) : Nat → Nat
  | 0 => 0
  | k + 1 => nend so k + (if so k = 1 then 1 else 0)
/-- the deeds of a core are well told -/
abbrev WfD (so wh : Nat → Nat) (PL len : Nat) : Prop := len ≤ 24 ∧ opn so len = false ∧ ∀ k, k < len → so k ≤ 6 ∧ (so k = 0 → opn so k = false) ∧ ((so k = 1 ∨ so k = 3 ∨ so k = 4) → opn so k = true) ∧ (5 ≤ so k → wh k < 1000) ∧ ((so k = 3 ∨ so k = 4) → wh k < 16 * PL)
theorem nend_le {so wh : Nat → Nat} {PL len : Nat} (h : WfD so wh PL len) : ∀ k, k ≤ len → 2 * nend so k + (if opn so k = true then 1 else 0) ≤ k := by
  intro k
  induction k with
  | zero => intro _; simp [nend, opn]
  | succ k ih =>
    intro hk
    have i := ih (by omega)
    obtain ⟨-, h2, h3, -, -⟩ := h.2.2 k (by omega)
    unfold nend opn
    by_cases e0 : so k = 0
    · rw [h2 e0] at i
      rw [if_pos e0, if_neg (show ¬ so k = 1 by omega), if_pos rfl]
      rw [if_neg (by decide)] at i
      omega
    · by_cases e1 : so k = 1
      · rw [h3 (Or.inl e1), if_pos rfl] at i
        rw [if_neg e0, if_pos e1, if_pos e1, if_neg (by decide)]
        omega
      · rw [if_neg e0, if_neg e1, if_neg e1]
        omega
/-- a core between two steps -/
abbrev CI (S W len : Nat) (so : Nat → Nat) (c : Nat) (m : Rw) : Prop := ∃ k b st, m (cat c 0) = nI k ∧ k ≤ len ∧ m (cat c 6) = nI b ∧ m (cat c 3) = nI st ∧ st ≤ 2 ∧ (st ≠ 0 ↔ opn so k = true) ∧ (st ≠ 0 → b < k ∧ so b = 0 ∧ nend so b = nend so k) ∧ (st ≠ 1 → NoMk S W c m) ∧ (∃ a, a < 1000 ∧ m (cat c 1) = nI a) ∧ (∃ x, x < 1000 ∧ m (cat c 2) = nI x)
/-- the ends of all cores, as far as they are -/
def nAll (so : Nat → Nat → Nat) (m : Rw) : Nat → Nat
  | 0 => 0
  | n + 1 => nAll so m n + nend (so n) (m (cat n 0)).toNatClampNeg
abbrev RI (S W PL NC : Nat) (len : Nat → Nat) (so wh : Nat → Nat → Nat) (m : Rw) : Prop := PI S W PL NC m ∧ (∀ c, c < NC → WfD (so c) (wh c) PL (len c)) ∧ (∀ c, c < NC → CI S W (len c) (so c) c m) ∧ m 4 = nI (nAll so m NC)
/-- a core that a try's end leaves out stays as it was -/
theorem CI_same {S W len c : Nat} {so : Nat → Nat} {m m' : Rw} (h : CI S W len so c m) (hcat : ∀ k, k < 7 → m' (cat c k) = m (cat c k)) (hmk : NoMk S W c m → NoMk S W c m') : CI S W len so c m' := by
  obtain ⟨k, b, st, h1, h2, h3, h4, h5, h6, h7, h8, h9, h10⟩ := h
  exact ⟨k, b, st, by rw [hcat 0 (by omega)]; exact h1, h2, by rw [hcat 6 (by omega)]; exact h3, by rw [hcat 3 (by omega)]; exact h4, h5, h6, h7, fun z => hmk (h8 z), by rw [hcat 1 (by omega)]; exact h9, by rw [hcat 2 (by omega)]; exact h10⟩
/-- the numbers that an ended try leaves to its core -/
theorem EndsR_cats {S W c cause : Nat} {tries : Int32} {m m' : Rw} (hc : c < 4) (hk : cause < 4) (h : EndsR S W c cause tries m m') : m' (cat c 0) = m (cat c 6) ∧ m' (cat c 1) = nI 0 ∧ m' (cat c 2) = nI 0 ∧ m' (cat c 3) = nI 0 ∧ m' (cat c 6) = m (cat c 6) := by
  obtain ⟨m1, h1, h2⟩ := h
  have e6 : m1 (cat c 6) = m (cat c 6) := h1.2 _ (fun s w f _ _ _ z => by have := pos_ge c s w; have := cat_lt hc (show 6 < 14 by omega); omega)
  have ne : ∀ {a b : Nat}, a ≠ b → cat c a ≠ cat c b := fun {a b} hab z => hab (by unfold cat at z; omega)
  have key : ∀ i, i < 7 → i ≠ 4 → m' (cat c i) = (upd (upd (upd (upd m1 (cat c 1) (nI 0)) (cat c 2) (nI 0)) (cat c 0) (m1 (cat c 6))) (cat c 3) (nI 0)) (cat c i) := fun i hi h4 => by
    rw [h2]
    unfold rEnds
    split
    · rw [upd_ne (ne h4), upd_ne (ne (by omega))]
    · split
      · rw [upd_ne (ne h4), upd_ne (ne (by omega))]
      · rw [upd_ne (ne (by omega))]
  refine ⟨?_, ?_, ?_, ?_, ?_⟩
  · rw [key 0 (by omega) (by omega), upd_ne (ne (by omega)), upd_eq rfl, e6]
  · rw [key 1 (by omega) (by omega), upd_ne (ne (by omega)), upd_ne (ne (by omega)), upd_ne (ne (by omega)), upd_eq rfl]
  · rw [key 2 (by omega) (by omega), upd_ne (ne (by omega)), upd_ne (ne (by omega)), upd_eq rfl]
  · rw [key 3 (by omega) (by omega), upd_eq rfl]
  · rw [key 6 (by omega) (by omega), upd_ne (ne (by omega)), upd_ne (ne (by omega)), upd_ne (ne (by omega)), upd_ne (ne (by omega)), e6]
theorem EndsR_noMk {S W c cause : Nat} {tries : Int32} {m m' : Rw} (hc : c < 4) (hk : cause < 4) (h : EndsR S W c cause tries m m') (hm : ∀ s w, s < S → w < W → m (pos c s w + 3) = nI 0 ∨ m (pos c s w + 3) = nI 1) : NoMk S W c m' := fun s w hs hw => by
  have i := EndsR_in hc hk h hs hw
  by_cases e : m (pos c s w + 3) = nI 1
  · rw [if_pos e] at i; exact ⟨i.2.2.1, i.2.2.2.1⟩
  · rw [if_neg e] at i
    exact ⟨i.2.2.1, by rw [i.2.2.2.1]; exact (hm s w hs hw).resolve_right e⟩
