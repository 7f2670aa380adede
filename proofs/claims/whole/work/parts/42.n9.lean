theorem nAll_bump {so : Nat → Nat → Nat} {m m' : Rw} {c : Nat} : ∀ n, c < n → (∀ o, o < n → o ≠ c → nend (so o) (m' (cat o 0)).toNatClampNeg = nend (so o) (m (cat o 0)).toNatClampNeg) → nend (so c) (m' (cat c 0)).toNatClampNeg = nend (so c) (m (cat c 0)).toNatClampNeg + 1 → nAll so m' n = nAll so m n + 1 := by
  intro n
  induction n with
  | zero => intro h; omega
  | succ n ih =>
    intro h ho hc
    unfold nAll
    by_cases e : c = n
    · subst e
      rw [nAll_congr c (fun o h1 => ho o (by omega) (by omega)), hc]
      omega
    · rw [ih (by omega) (fun o h1 => ho o (by omega)) hc, ho n (by omega) (fun z => e z.symm)]
      omega
/-- a begin is through -/
theorem RI_open {S W PL NC c k st : Nat} {len : Nat → Nat} {so wh : Nat → Nat → Nat} (hz : Siz S W PL NC) (hc : c < NC) {m F : Rw} (hp : RI S W PL NC len so wh m) (hn : m (cat c 0) = nI k) (hk : k < len c) (hs : so c k = 0) (h1 : PI S W PL NC F) (hst : st = 1 ∨ st = 2)
    (f0 : F (cat c 0) = nI (k + 1)) (f1 : F (cat c 1) = nI 0) (f2 : F (cat c 2) = nI 0) (f3 : F (cat c 3) = nI st) (f6 : F (cat c 6) = nI k) (f4 : F 4 = m 4)
    (fo : ∀ o j, o < NC → o ≠ c → j < 7 → F (cat o j) = m (cat o j)) (fm : st = 2 → NoMk S W c F) (fn : ∀ o, o < NC → o ≠ c → NoMk S W o m → NoMk S W o F) : RI S W PL NC len so wh F := by
  have h24 := (hp.2.1 c hc).1
  have hop : opn (so c) (k + 1) = true := by rw [opn, if_pos hs]
  have hne : nend (so c) (k + 1) = nend (so c) k := by rw [nend, if_neg (by omega)]; rfl
  refine ⟨h1, hp.2.1, fun o ho => ?_, ?_⟩
  · by_cases e : o = c
    · subst e
      exact ⟨k + 1, k, st, f0, by omega, f6, f3, by omega, by rw [hop]; exact ⟨fun _ => rfl, fun _ => by omega⟩, fun _ => ⟨by omega, hs, hne.symm⟩, fun z => fm (by omega), ⟨0, by omega, f1⟩, ⟨0, by omega, f2⟩⟩
    · exact CI_same (hp.2.2.1 o ho) (fun j hj => fo o j ho e hj) (fn o ho e)
  · rw [f4, hp.2.2.2]
    congr 1
    refine (nAll_congr NC (fun o ho => ?_)).symm
    by_cases e : o = c
    · subst e
      rw [f0, hn, nI_clamp (by omega), nI_clamp (by omega), hne]
    · rw [fo o 0 ho e (by omega)]
/-- an end is through -/
theorem RI_close {S W PL NC c k : Nat} {len : Nat → Nat} {so wh : Nat → Nat → Nat} (hz : Siz S W PL NC) (hc : c < NC) {m F : Rw} (hp : RI S W PL NC len so wh m) (hn : m (cat c 0) = nI k) (hk : k < len c) (hs : so c k = 1) (h1 : PI S W PL NC F)
    (f0 : F (cat c 0) = nI (k + 1)) (f1 : F (cat c 1) = m (cat c 1)) (f2 : F (cat c 2) = m (cat c 2)) (f3 : F (cat c 3) = nI 0) (f6 : F (cat c 6) = m (cat c 6)) (f4 : F 4 = nI (nAll so m NC + 1))
    (fo : ∀ o j, o < NC → o ≠ c → j < 7 → F (cat o j) = m (cat o j)) (fm : NoMk S W c F) (fn : ∀ o, o < NC → o ≠ c → NoMk S W o m → NoMk S W o F) : RI S W PL NC len so wh F := by
  have h24 := (hp.2.1 c hc).1
  have hop : opn (so c) (k + 1) = false := by rw [opn, if_neg (by omega), if_pos hs]
  have hne : nend (so c) (k + 1) = nend (so c) k + 1 := by rw [nend, if_pos hs]
  refine ⟨h1, hp.2.1, fun o ho => ?_, ?_⟩
  · by_cases e : o = c
    · subst e
      obtain ⟨n, b, st, c1, c2, c3, c4, c5, c6, c7, c8, c9, c10⟩ := hp.2.2.1 o ho
      exact ⟨k + 1, b, 0, f0, by omega, by rw [f6]; exact c3, f3, by omega, by rw [hop]; exact ⟨fun z => absurd rfl z, fun z => by cases z⟩, fun z => absurd rfl z, fun _ => fm, by rw [f1]; exact c9, by rw [f2]; exact c10⟩
    · exact CI_same (hp.2.2.1 o ho) (fun j hj => fo o j ho e hj) (fn o ho e)
  · rw [f4]
    congr 1
    refine (nAll_bump NC hc (fun o ho e => by rw [fo o 0 ho e (by omega)]) ?_).symm
    rw [f0, hn, nI_clamp (by omega), nI_clamp (by omega), hne]
