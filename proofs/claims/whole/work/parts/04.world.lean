def zcds : List (Nat × Nat) := [(0, 0), (10, 0), (1, 0), (11, 0), (12, 0), (13, 0), (14, 0), (15, 0), (1, 1), (11, 1), (12, 1), (13, 1), (14, 1), (15, 1), (2, 0), (16, 1), (3, 0), (17, 0), (18, 0), (19, 0), (20, 0), (21, 0), (4, 0), (22, 0), (23, 0), (24, 0), (25, 0), (26, 0), (27, 0), (5, 0), (28, 0), (4, 1), (22, 1), (23, 1), (24, 1), (25, 1), (26, 1), (27, 1), (5, 1), (28, 1), (4, 2), (22, 2), (23, 2), (24, 2), (25, 2), (26, 2), (27, 2), (5, 2), (28, 2), (4, 3), (22, 3), (23, 3), (24, 3), (25, 3), (26, 3), (27, 3), (5, 3), (28, 3), (3, 1), (17, 1), (18, 1), (19, 1), (20, 1), (21, 1), (4, 4), (22, 4), (23, 4), (24, 4), (25, 4), (26, 4), (27, 4), (5, 4), (28, 4), (4, 5), (22, 5), (23, 5), (24, 5), (25, 5), (26, 5), (27, 5), (5, 5), (28, 5), (4, 6), (22, 6), (23, 6), (24, 6), (25, 6), (26, 6), (27, 6), (5, 6), (28, 6), (4, 7), (22, 7), (23, 7), (24, 7), (25, 7), (26, 7), (27, 7), (5, 7), (28, 7), (3, 2), (17, 2), (18, 2), (19, 2), (20, 2), (21, 2), (4, 8), (22, 8), (23, 8), (24, 8), (25, 8), (26, 8), (27, 8), (5, 8), (28, 8), (4, 9), (22, 9), (23, 9), (24, 9), (25, 9), (26, 9), (27, 9), (5, 9), (28, 9), (4, 10), (22, 10), (23, 10), (24, 10), (25, 10), (26, 10), (27, 10), (5, 10), (28, 10), (4, 11), (22, 11), (23, 11), (24, 11), (25, 11), (26, 11), (27, 11), (5, 11), (28, 11), (6, 0), (29, 0), (7, 0), (30, 0), (31, 0), (32, 0), (33, 0), (34, 0), (35, 0), (36, 0), (37, 0), (38, 0), (39, 0), (40, 0), (41, 0), (42, 0), (43, 0), (44, 0), (45, 0), (46, 0), (47, 0)]
/-! ===== THE WORLD of the claim: its objects by (tag, index); what changes in it are ints alone, by (field, index, place) ===== -/
/-- field, index of the owner, place in the array (0 of a field that is no array) -/
abbrev zG : Type := Nat → Nat → Nat → Int32
/-- a value of a walk: an int, an object (tag, index), a long -/
abbrev zV : Type := Int32 ⊕ ((Nat × Nat) ⊕ Int64)
/-- where the world lies: the classes' numbers, the array classes', the first address, the addresses of the String constants and of their bytes; whose half is walked (true: the reference's), and what the other half holds -/
abbrev zX : Type := va_G × (Nat → ClassId) × Nat × (Nat → Nat) × (Nat → Nat) × Bool × zG
def zU (g : zG) (f i j : Nat) (v : Int32) : zG := fun a b c => if a = f ∧ b = i ∧ c = j then v else g a b c
/-- a whole array anew -/
def zUA (g : zG) (f i : Nat) (F : Nat → Int32) : zG := fun a b c => if a = f ∧ b = i then F c else g a b c
def zA (X : zX) (q : Nat × Nat) : Nat := if q.1 = 60 then X.2.2.2.1 q.2 else if q.1 = 61 then X.2.2.2.2.1 q.2 else X.2.2.1 + zcds.idxOf q
/-- what a tag's objects are: a class and its fields (none: an int; else to which object), an array of ints (type, length), an array of objects -/
def zK : Nat → (Nat × List (Option (Nat → Nat × Nat))) ⊕ ((Nat × Nat) ⊕ (Nat × Nat × (Nat → Nat → Nat × Nat)))
  | 0 => .inl (6, [some (fun _ => (10, 0)), none, some (fun _ => (1, 0)), some (fun _ => (1, 1)), some (fun _ => (2, 0)), some (fun _ => (3, 0)), some (fun _ => (3, 1)), some (fun _ => (3, 2)), some (fun _ => (6, 0)), none, none, none, none])
  | 1 => .inl (2, [none, none, none, none, none, none, none, some (fun x => (11, x)), some (fun x => (12, x)), some (fun x => (13, x)), some (fun x => (14, x)), some (fun x => (15, x))])
  | 2 => .inl (5, [some (fun _ => (1, 1)), some (fun _ => (10, 0)), some (fun _ => (16, 1)), none, none, none, none, none, none, none, none, none])
  | 3 => .inl (3, [some (fun _ => (1, 0)), some (fun x => (17, x)), some (fun x => (18, x)), some (fun x => (19, x)), some (fun x => (20, x)), some (fun x => (21, x)), none, none, none, none, none, none])
  | 4 => .inl (0, [some (fun _ => (1, 0)), some (fun x => (22, x)), some (fun x => (23, x)), some (fun x => (24, x)), some (fun x => (25, x)), some (fun x => (26, x)), some (fun x => (27, x))])
  | 5 => .inl (1, [none, none, none, none, none, none, none, some (fun x => (28, x))])
  | 6 => .inl (4, [some (fun _ => (1, 0)), some (fun x => (29, x)), none, none, none, none])
  | 7 => .inl (7, [none, none, none, none, some (fun x => (30, x)), none, some (fun x => (31, x)), some (fun x => (32, x)), none, none, some (fun x => (33, x)), some (fun x => (34, x)), some (fun x => (35, x)), some (fun x => (36, x)), some (fun x => (37, x)), some (fun x => (38, x)), some (fun x => (39, x)), some (fun x => (40, x)), some (fun x => (41, x)), some (fun x => (42, x)), none, none, none, none, none, none, none, none, none, none, some (fun x => (43, x)), some (fun x => (44, x)), some (fun x => (45, x)), none, none, none, none, none, some (fun x => (46, x)), none, none, none])
  | 10 => .inr (.inl (0, 900))
  | 11 => .inr (.inl (0, 4))
  | 12 => .inr (.inl (0, 96))
  | 13 => .inr (.inl (0, 96))
  | 14 => .inr (.inl (1, 96))
  | 15 => .inr (.inl (0, 64))
  | 16 => .inr (.inl (1, 64))
  | 17 => .inr (.inl (0, 68))
  | 18 => .inr (.inr (2, 4, fun r k => (4, 4 * r + k)))
  | 19 => .inr (.inr (3, 4, fun r k => (5, 4 * r + k)))
  | 20 => .inr (.inl (0, 3))
  | 21 => .inr (.inl (0, 192))
  | 22 => .inr (.inl (0, 16))
  | 23 => .inr (.inl (0, 16))
  | 24 => .inr (.inl (1, 16))
  | 25 => .inr (.inl (1, 16))
  | 26 => .inr (.inl (0, 16))
  | 27 => .inr (.inl (0, 64))
  | 28 => .inr (.inl (0, 7))
  | 29 => .inr (.inl (0, 64))
  | 30 => .inr (.inl (0, 900))
  | 31 => .inr (.inl (0, 6))
  | 32 => .inr (.inl (0, 6))
  | 33 => .inr (.inl (0, 64))
  | 34 => .inr (.inl (0, 64))
  | 35 => .inr (.inl (0, 4))
  | 36 => .inr (.inl (0, 4))
  | 37 => .inr (.inl (0, 96))
  | 38 => .inr (.inl (0, 96))
  | 39 => .inr (.inl (0, 96))
  | 40 => .inr (.inl (0, 96))
  | 41 => .inr (.inl (0, 96))
  | 42 => .inr (.inl (0, 96))
  | 43 => .inr (.inl (0, 2766))
  | 44 => .inr (.inl (0, 2766))
  | 45 => .inr (.inl (0, 2766))
  | 46 => .inr (.inl (0, 64))
  | _ => .inr (.inl (4, 1))
/-- a field's value -/
def zfv (X : zX) (g : zG) (t i k : Nat) (f : Option (Nat → Nat × Nat)) : Value := match f with
  | none => .int (g (1000 * (k + 1) + t) i 0)
  | some tg => .ref (zA X (tg i))
/-- is a tag the reference's half? -/
def zmod (t : Nat) : Bool := t == 7 || (Nat.ble 30 t && Nat.ble t 46)
def zfl (X : zX) : Bool := X.2.2.2.2.2.1
def zpk (X : zX) (g : zG) (t : Nat) : zG := if zmod t = zfl X then g else X.2.2.2.2.2.2
def zC0 (X : zX) (g : zG) (t i : Nat) : va_E := match zK t with
  | .inl (ci, fs) => .inr (ci, fs.mapIdx (fun k f => zfv X g t i k f))
  | .inr (.inl (j, n)) => if j = 4 then .inl (X.2.1 4, n, .inr (.inl (fun k => (g t i k).toInt64))) else .inl (X.2.1 j, n, .inl (g t i))
  | .inr (.inr (j, n, r)) => .inl (X.2.1 j, n, .inr (.inr (.inr (.inr (fun k => some (zA X (r i k)))))))
def zC (X : zX) (g : zG) (t i : Nat) : va_E := zC0 X (zpk X g t) t i
def zW (X : zX) (g : zG) : va_W := zcds.map (fun q => (zA X q, zC X g q.1 q.2))
def zF (X : zX) : Nat → Prop := fun q => X.2.2.1 ≤ q ∧ q < X.2.2.1 + zcds.length
abbrev zcl : List vw_C := [(RX0, TX0, 7), (RX1, TX1, 8), (RX2, TX2, 12), (RX3, TX3, 12), (RX4, TX4, 6), (RX5, TX5, 12), (RX6, TX6, 13), (RX7, TX7, 42)]
def zT (X : zX) : List (ClassId × FieldType) := [(X.2.1 0, .int), (X.2.1 1, .boolean), (X.2.1 2, .object RX0), (X.2.1 3, .object RX1), (X.2.1 4, .long)]
theorem zidx : ∀ i : Nat, i < zcds.length → ∀ q, zcds[i]? = some q → zcds.idxOf q = i := by
  have h : (List.range zcds.length).all (fun i => zcds.idxOf (zcds.getD i (0, 0)) == i) = true := by decide +kernel
  intro i hi q hq
  have h1 := List.all_eq_true.mp h i (List.mem_range.mpr hi)
  rw [beq_iff_eq] at h1
  rw [List.getD_eq_getElem?_getD, hq] at h1
  exact h1
theorem ztag : ∀ q ∈ zcds, q.1 < 60 := by
  have h : zcds.all (fun q => decide (q.1 < 60)) = true := by decide +kernel
  intro q hq
  exact of_decide_eq_true (List.all_eq_true.mp h q hq)
theorem zA_of (X : zX) {q : Nat × Nat} (h : q ∈ zcds) : zA X q = X.2.2.1 + zcds.idxOf q := by
  have := ztag q h
  unfold zA
  rw [if_neg (by omega), if_neg (by omega)]
theorem zget {q : Nat × Nat} (h : q ∈ zcds) : zcds[zcds.idxOf q]? = some q := by
  obtain ⟨i, hi⟩ := List.getElem?_of_mem h
  rw [zidx i (List.getElem?_eq_some_iff.mp hi).1 q hi]
  exact hi
theorem zA_inj (X : zX) {q q' : Nat × Nat} (h : q ∈ zcds) (h' : q' ∈ zcds) (he : zA X q = zA X q') : q = q' := by
  rw [zA_of X h, zA_of X h'] at he
  have e : zcds.idxOf q = zcds.idxOf q' := by omega
  have a := zget h
  have b := zget h'
  rw [e, b] at a
  exact (Option.some.inj a).symm
theorem zW_get (X : zX) (g : zG) {t i : Nat} (h : (t, i) ∈ zcds) : (zW X g)[zcds.idxOf (t, i)]? = some (zA X (t, i), zC X g t i) := by
  unfold zW
  rw [List.getElem?_map, zget h]
  rfl
theorem zW_D (X : zX) (g : zG) : va_D (zF X) (zW X g) := by
  have key : ∀ (k : Nat) (p : Nat × va_E), (zW X g)[k]? = some p → ∃ q, zcds[k]? = some q ∧ p = (zA X q, zC X g q.1 q.2) := by
    intro k p hk
    unfold zW at hk
    rw [List.getElem?_map] at hk
    cases hq : zcds[k]? with
    | none => rw [hq] at hk; cases hk
    | some q => rw [hq] at hk; exact ⟨q, rfl, (Option.some.inj hk).symm⟩
  refine ⟨fun i j p p' hi hj he => ?_, fun k p hk => ?_⟩
  · obtain ⟨q, h1, rfl⟩ := key i p hi
    obtain ⟨q', h2, rfl⟩ := key j p' hj
    have e := zA_inj X (List.mem_of_getElem? h1) (List.mem_of_getElem? h2) he
    subst e
    have a := zidx i (List.getElem?_eq_some_iff.mp h1).1 q h1
    have b := zidx j (List.getElem?_eq_some_iff.mp h2).1 q h2
    omega
  · obtain ⟨q, h1, rfl⟩ := key k p hk
    have hm := List.mem_of_getElem? h1
    show X.2.2.1 ≤ zA X q ∧ zA X q < X.2.2.1 + zcds.length
    rw [zA_of X hm]
    have := List.idxOf_lt_length_of_mem hm
    omega
theorem zC_ext0 (X : zX) {g g' : zG} {t i : Nat} (h1 : ∀ k, g t i k = g' t i k) (h2 : ∀ k, g (1000 * (k + 1) + t) i 0 = g' (1000 * (k + 1) + t) i 0) : zC0 X g t i = zC0 X g' t i := by
  have e1 : g t i = g' t i := funext h1
  have e2 : ∀ k f, zfv X g t i k f = zfv X g' t i k f := by
    intro k f
    cases f with
    | none => simp only [zfv, h2]
    | some tg => rfl
  unfold zC0
  simp only [e1, e2]
theorem zC_ext (X : zX) {g g' : zG} {t i : Nat} (h1 : ∀ k, g t i k = g' t i k) (h2 : ∀ k, g (1000 * (k + 1) + t) i 0 = g' (1000 * (k + 1) + t) i 0) : zC X g t i = zC X g' t i := by
  unfold zC zpk
  by_cases h : zmod t = zfl X
  · rw [if_pos h, if_pos h]; exact zC_ext0 X h1 h2
  · rw [if_neg h, if_neg h]
theorem zC_in (X : zX) (g : zG) {t i : Nat} (h : zmod t = zfl X) : zC X g t i = zC0 X g t i := by
  unfold zC zpk
  rw [if_pos h]
/-- a world with one cell set -/
theorem zW_set (X : zX) {g g' : zG} {t i : Nat} {e : va_E} (h : (t, i) ∈ zcds) (he : e = zC X g' t i) (hne : ∀ q ∈ zcds, q ≠ (t, i) → zC X g q.1 q.2 = zC X g' q.1 q.2) :
    (zW X g).set (zcds.idxOf (t, i)) (zA X (t, i), e) = zW X g' := by
  subst he
  apply List.ext_getElem?
  intro j
  rw [List.getElem?_set]
  by_cases hj : zcds.idxOf (t, i) = j
  · subst hj
    rw [if_pos rfl, zW_get X g' h, if_pos (by unfold zW; rw [List.length_map]; exact List.idxOf_lt_length_of_mem h)]
  · rw [if_neg hj]
    unfold zW
    rw [List.getElem?_map, List.getElem?_map]
    cases hq : zcds[j]? with
    | none => rfl
    | some q =>
      have hm := List.mem_of_getElem? hq
      have hn : q ≠ (t, i) := by
        intro hz
        rw [← hz] at hj
        exact hj (zidx j (List.getElem?_eq_some_iff.mp hq).1 q hq)
      simp only [Option.map_some, hne q hm hn]
theorem zW_setO (X : zX) {g : zG} {t i ci k : Nat} {fs : List (Option (Nat → Nat × Nat))} (hX : zmod t = zfl X) (h : (t, i) ∈ zcds) (hk : zK t = .inl (ci, fs)) (hf : fs[k]? = some none) (v : Int32) :
    (zW X g).set (zcds.idxOf (t, i)) (zA X (t, i), .inr (ci, (fs.mapIdx (fun k f => zfv X g t i k f)).set k (.int v))) = zW X (zU g (1000 * (k + 1) + t) i 0 v) := by
  have ht := ztag _ h
  refine zW_set X h ?_ ?_
  · rw [zC_in X _ hX]
    simp only [zC0, hk]
    congr 1
    congr 1
    apply List.ext_getElem?
    intro j
    have hlt := (List.getElem?_eq_some_iff.mp hf).1
    rw [List.getElem?_set, List.getElem?_mapIdx, List.getElem?_mapIdx, List.length_mapIdx]
    by_cases hj : k = j
    · subst hj
      rw [if_pos rfl, if_pos hlt, hf]
      simp [zfv, zU]
    · rw [if_neg hj]
      cases hq : fs[j]? with
      | none => rfl
      | some f =>
        cases f with
        | none =>
          have : ¬ (1000 * (j + 1) = 1000 * (k + 1)) := by omega
          simp [zfv, zU, this]
        | some tg => rfl
  · intro q hq hn
    have h2 := ztag _ hq
    have hn' : ¬ (q.1 = t ∧ q.2 = i) := fun z => hn (Prod.ext z.1 z.2)
    refine zC_ext X (fun j => ?_) (fun j => ?_)
    · have : ¬ (q.1 = 1000 * (k + 1) + t) := by omega
      simp [zU, this]
    · have : ¬ (1000 * (j + 1) + q.1 = 1000 * (k + 1) + t ∧ q.2 = i) := by
        intro z
        apply hn'
        refine ⟨?_, z.2⟩
        have h1 : t < 60 := ht
        omega
      unfold zU
      rw [if_neg (fun z => this ⟨z.1, z.2.1⟩)]
theorem zW_setA (X : zX) {g : zG} {t i j n : Nat} {F : Nat → Int32} (hX : zmod t = zfl X) (h : (t, i) ∈ zcds) (hk : zK t = .inr (.inl (j, n))) (hj : j ≠ 4) :
    (zW X g).set (zcds.idxOf (t, i)) (zA X (t, i), .inl (X.2.1 j, n, .inl F)) = zW X (zUA g t i F) := by
  have ht := ztag _ h
  refine zW_set X h ?_ ?_
  · rw [zC_in X _ hX]
    simp only [zC0, hk, if_neg hj]
    have : zUA g t i F t i = F := by funext c; simp [zUA]
    rw [this]
  · intro q hq hn
    have h2 := ztag _ hq
    have hn' : ¬ (q.1 = t ∧ q.2 = i) := fun z => hn (Prod.ext z.1 z.2)
    refine zC_ext X (fun j => ?_) (fun j => ?_)
    · simp [zUA, hn']
    · have h1 : t < 60 := ht
      have : ¬ (1000 * (j + 1) + q.1 = t ∧ q.2 = i) := by omega
      simp [zUA, this]
theorem zUA_upd (g : zG) (t i j : Nat) (v : Int32) : zUA g t i (upd (g t i) j v) = zU g t i j v := by
  funext a b c
  unfold zUA zU upd
  by_cases h : a = t ∧ b = i
  · obtain ⟨rfl, rfl⟩ := h
    simp
  · rw [if_neg h, if_neg (fun z => h ⟨z.1, z.2.1⟩)]
