theorem rTail_out {c i : Nat} {M : Rw} (h : ∀ k, k = 1 ∨ k = 2 ∨ k = 5 ∨ k = 6 → i ≠ cat c k) : rTail c M i = M i := by
  unfold rTail
  split
  · rw [upd_ne (h 5 (by omega)), upd_ne (h 6 (by omega)), upd_ne (h 2 (by omega)), upd_ne (h 1 (by omega))]
  · rw [upd_ne (h 6 (by omega)), upd_ne (h 2 (by omega)), upd_ne (h 1 (by omega))]
theorem rTail_at {c : Nat} {M : Rw} : rTail c M (cat c 1) = nI 0 ∧ rTail c M (cat c 2) = nI 0 ∧ rTail c M (cat c 6) = M (cat c 0) := by
  have ne : ∀ {a b : Nat}, a ≠ b → cat c a ≠ cat c b := fun {a b} hab z => hab (by unfold cat at z; omega)
  unfold rTail
  refine ⟨?_, ?_, ?_⟩
  · split
    · rw [upd_ne (ne (by omega)), upd_ne (ne (by omega)), upd_ne (ne (by omega)), upd_eq rfl]
    · rw [upd_ne (ne (by omega)), upd_ne (ne (by omega)), upd_eq rfl]
  · split
    · rw [upd_ne (ne (by omega)), upd_ne (ne (by omega)), upd_eq rfl]
    · rw [upd_ne (ne (by omega)), upd_eq rfl]
  · split
    · rw [upd_ne (ne (by omega)), upd_eq rfl]
    · rw [upd_eq rfl]
/-- a begin's last part, over a row m1 (the lock's line is there) -/
theorem RI_tail {S W PL NC c k st : Nat} {len : Nat → Nat} {so wh : Nat → Nat → Nat} (hz : Siz S W PL NC) (hc : c < NC) {m1 M : Rw} (hp : RI S W PL NC len so wh m1) (hn : m1 (cat c 0) = nI k) (hk : k < len c) (hs : so c k = 0) (hst : st = 1 ∨ st = 2) (h1 : PI S W PL NC M) (g0 : M (cat c 0) = nI k) (g3 : M (cat c 3) = nI st) (g4 : M 4 = m1 4)
    (fo : ∀ o j, o < NC → o ≠ c → j < 7 → M (cat o j) = m1 (cat o j)) (fm : st = 2 → NoMk S W c M) (fn : ∀ o, o < NC → o ≠ c → NoMk S W o m1 → NoMk S W o M) : RI S W PL NC len so wh (upd (rTail c M) (cat c 0) (rTail c M (cat c 0) + nI 1)) := by
  have hc4 : c < 4 := by have := hz.par.2.2.2; omega
  have ne : ∀ {a b : Nat}, a ≠ b → cat c a ≠ cat c b := fun {a b} hab z => hab (by unfold cat at z; omega)
  have lt : ∀ j, j < 14 → cat c j < 62 := fun j hj => cat_lt hc4 hj
  have hi : ∀ i, 254 ≤ i → upd (rTail c M) (cat c 0) (rTail c M (cat c 0) + nI 1) i = M i := fun i hi => by
    rw [upd_ne (by have := lt 0 (by omega); omega), rTail_out (fun j hj => by have := lt j (by omega); omega)]
  have r0 : rTail c M (cat c 0) = nI k := by rw [rTail_out (fun j hj => ne (by omega)), g0]
  obtain ⟨t1, t2, t6⟩ := @rTail_at c M
  have mk : ∀ o, NoMk S W o M → NoMk S W o (upd (rTail c M) (cat c 0) (rTail c M (cat c 0) + nI 1)) := fun o h s w a1 a2 => by
    have := pos_ge o s w
    rw [hi _ (by omega), hi _ (by omega)]
    exact h s w a1 a2
  refine RI_open hz hc hp hn hk hs (PI_low h1 hi) hst (by rw [upd_eq rfl, r0, nI_add]) (by rw [upd_ne (ne (by omega)), t1]) (by rw [upd_ne (ne (by omega)), t2]) (by rw [upd_ne (ne (by omega)), rTail_out (fun j hj => ne (by omega)), g3]) (by rw [upd_ne (ne (by omega)), t6, g0]) ?_ (fun o j ho hoc hj => ?_) (fun z => mk c (fm z)) (fun o ho hoc h => mk o (fn o ho hoc h))
  · rw [upd_ne (by unfold cat; omega), rTail_out (fun j hj => by unfold cat; omega), g4]
  · rw [upd_ne (fun z => hoc (cat_inj (by omega) (by omega) z).1), rTail_out (fun i hi z => hoc (cat_inj (by omega) (by omega) z).1)]
    exact fo o j ho hoc hj
