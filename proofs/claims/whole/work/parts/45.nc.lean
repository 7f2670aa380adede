theorem RI_Bgn {S W PL NC c k how r : Nat} {tries : Int32} {len : Nat → Nat} {so wh : Nat → Nat → Nat} (hz : Siz S W PL NC) (hc : c < NC) {m m' : Rw} (hp : RI S W PL NC len so wh m) (hn : m (cat c 0) = nI k) (hk : k < len c) (hs : so c k = 0) (hno : NoMk S W c m) (h : BgnR S W PL NC tries c m how r m') : RI S W PL NC len so wh (if how = 1 then upd m' (cat c 0) (m' (cat c 0) + nI 1) else m') := by
  obtain ⟨p1, p2, p3, p4, p5, p6, p7, p8⟩ := id hz
  have hc4 : c < 4 := by omega
  have hs16 : 16 % S < S := Nat.mod_lt _ p1
  have ne : ∀ {a b : Nat}, a ≠ b → cat c a ≠ cat c b := fun {a b} hab z => hab (by unfold cat at z; omega)
  have lt : ∀ o j, o < 4 → j < 14 → cat o j < 62 := fun o j ho hj => cat_lt ho hj
  have ge : ∀ o j, 6 ≤ cat o j := fun o j => by unfold cat; omega
  have ge3 := ge c 3
  have lt3 := lt c 3 hc4 (by omega)
  rcases h with ⟨-, rfl, -, rfl⟩ | ⟨-, -, rfl, -, w, m1, hb, rfl⟩ | ⟨-, -, rfl, m1, w, m2, hv, he, hb, rfl⟩
  · rw [if_neg (by omega)]; exact RI_wait hz hc hp
  · rw [if_pos rfl]
    obtain ⟨hw, hl⟩ := BrgR_line ⟨p1, p2⟩ p4 p6 (by omega) p8 hc hb
    have q := RI_Brg hz hc (by omega) hb hp
    have gp := pos_ge c (16 % S) w
    have lo : ∀ i, 5 < i → i < 62 → m1 i = m i := fun i a b => BrgR_low hz hc (by omega) hp.1.lok hb (by omega) (by omega) (by omega) (by omega)
    have hn1 : m1 (cat c 0) = nI k := by rw [lo _ (ge c 0) (lt c 0 hc4 (by omega)), hn]
    refine RI_tail (st := 1) hz hc q hn1 hk hs (Or.inl rfl) (PI_low1 (by omega) (PI_cell hz hc hs16 hw (by omega) (by omega) q.1 (fun _ => Or.inr rfl) (fun z => by omega) (fun z => by omega))) ?_ (upd_eq rfl) ?_ (fun o j ho hoc hj => ?_) (fun z => by omega) (fun o ho hoc h s w' a1 a2 => ?_)
    · have := lt c 0 hc4 (by omega)
      rw [upd_ne (ne (by omega)), upd_ne (by omega), hn1]
    · rw [upd_ne (by omega), upd_ne (by omega)]
    · have := lt o j (by omega) (by omega)
      rw [upd_ne (fun z => hoc (cat_inj (by omega) (by omega) z).1), upd_ne (by omega)]
    · have := pos_ge o s w'
      rw [upd_ne (by omega), upd_ne (fun z => hoc (pos_inj (by omega) (by omega) (by omega) (by omega) (by omega) (by omega) z).1), upd_ne (by omega), upd_ne (fun z => hoc (pos_inj (by omega) (by omega) (by omega) (by omega) (by omega) (by omega) z).1)]
      exact h s w' a1 a2
  · rw [if_pos rfl]
    have hbit : ∀ o, o < NC → r.testBit o = true → m (cat o 3) = nI 1 := fun o ho hb => RivR_try hz hp ho ((hv.2 o (by omega)).mp hb).2
    have hrc : r.testBit c = false := by
      cases hb' : r.testBit c with
      | false => rfl
      | true => exact absurd rfl ((hv.2 c hc4).mp hb').2.1
    have q0 := RI_EndsL hz (by omega) NC (Nat.le_refl _) hbit he hp
    have q := RI_Brg hz hc (by omega) hb q0
    have lo : ∀ j, j < 14 → m2 (cat c j) = m (cat c j) := fun j hj => by
      have := ge c j; have := lt c j hc4 hj
      rw [BrgR_low hz hc (by omega) q0.1.lok hb (by omega) (by omega) (by omega) (by omega)]
      exact EndsL_low (by omega) NC he _ (by omega) (fun o j' ho hb' hj' z => by
        have := (cat_inj hj hj' z).1
        subst this
        rw [hrc] at hb'; cases hb')
    have hn2 : m2 (cat c 0) = nI k := by rw [lo 0 (by omega), hn]
    have hno1 : NoMk S W c m1 := fun s w a1 a2 => by
      rw [EndsL_other p2 p4 (by omega) NC p8 he c s w 2 (Or.inr hrc) (by omega) (by omega) (by omega), EndsL_other p2 p4 (by omega) NC p8 he c s w 3 (Or.inr hrc) (by omega) (by omega) (by omega)]
      exact hno s w a1 a2
    have hno2 : NoMk S W c m2 := (MF_Brg hz hc (by omega) q0.1.lok hb).no hc hno1
    have mk : ∀ o, NoMk S W o m2 → NoMk S W o (upd (upd m2 5 (nI c)) (cat c 3) (nI 2)) := fun o h s w a1 a2 => by
      have := pos_ge o s w
      rw [upd_ne (by omega), upd_ne (by omega), upd_ne (by omega), upd_ne (by omega)]
      exact h s w a1 a2
    refine RI_tail (st := 2) hz hc q hn2 hk hs (Or.inr rfl) (PI_low1 (by omega) (PI_low1 (by omega) q.1)) ?_ (upd_eq rfl) ?_ (fun o j ho hoc hj => ?_) (fun _ => mk c hno2) (fun o ho hoc h => mk o h)
    · have := ge c 0
      rw [upd_ne (ne (by omega)), upd_ne (by omega), hn2]
    · rw [upd_ne (by omega), upd_ne (by omega)]
    · have := ge o j
      rw [upd_ne (fun z => hoc (cat_inj (by omega) (by omega) z).1), upd_ne (by omega)]
