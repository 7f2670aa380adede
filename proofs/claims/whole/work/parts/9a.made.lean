/-! ===== the world while it is made ===== -/
/-- in which order the references are laid -/
def zord : List (Nat × Nat × Nat) := [(0, 0, 0), (1, 0, 7), (1, 0, 8), (1, 0, 9), (1, 0, 10), (1, 0, 11), (0, 0, 2), (1, 1, 7), (1, 1, 8), (1, 1, 9), (1, 1, 10), (1, 1, 11), (0, 0, 3), (2, 0, 2), (2, 0, 0), (2, 0, 1), (0, 0, 4), (3, 0, 1), (3, 0, 2), (3, 0, 3), (3, 0, 4), (3, 0, 5), (3, 0, 0), (4, 0, 1), (4, 0, 2), (4, 0, 3), (4, 0, 4), (4, 0, 5), (4, 0, 6), (4, 0, 0), (18, 0, 0), (5, 0, 7), (19, 0, 0), (4, 1, 1), (4, 1, 2), (4, 1, 3), (4, 1, 4), (4, 1, 5), (4, 1, 6), (4, 1, 0), (18, 0, 1), (5, 1, 7), (19, 0, 1), (4, 2, 1), (4, 2, 2), (4, 2, 3), (4, 2, 4), (4, 2, 5), (4, 2, 6), (4, 2, 0), (18, 0, 2), (5, 2, 7), (19, 0, 2), (4, 3, 1), (4, 3, 2), (4, 3, 3), (4, 3, 4), (4, 3, 5), (4, 3, 6), (4, 3, 0), (18, 0, 3), (5, 3, 7), (19, 0, 3), (0, 0, 5), (3, 1, 1), (3, 1, 2), (3, 1, 3), (3, 1, 4), (3, 1, 5), (3, 1, 0), (4, 4, 1), (4, 4, 2), (4, 4, 3), (4, 4, 4), (4, 4, 5), (4, 4, 6), (4, 4, 0), (18, 1, 0), (5, 4, 7), (19, 1, 0), (4, 5, 1), (4, 5, 2), (4, 5, 3), (4, 5, 4), (4, 5, 5), (4, 5, 6), (4, 5, 0), (18, 1, 1), (5, 5, 7), (19, 1, 1), (4, 6, 1), (4, 6, 2), (4, 6, 3), (4, 6, 4), (4, 6, 5), (4, 6, 6), (4, 6, 0), (18, 1, 2), (5, 6, 7), (19, 1, 2), (4, 7, 1), (4, 7, 2), (4, 7, 3), (4, 7, 4), (4, 7, 5), (4, 7, 6), (4, 7, 0), (18, 1, 3), (5, 7, 7), (19, 1, 3), (0, 0, 6), (3, 2, 1), (3, 2, 2), (3, 2, 3), (3, 2, 4), (3, 2, 5), (3, 2, 0), (4, 8, 1), (4, 8, 2), (4, 8, 3), (4, 8, 4), (4, 8, 5), (4, 8, 6), (4, 8, 0), (18, 2, 0), (5, 8, 7), (19, 2, 0), (4, 9, 1), (4, 9, 2), (4, 9, 3), (4, 9, 4), (4, 9, 5), (4, 9, 6), (4, 9, 0), (18, 2, 1), (5, 9, 7), (19, 2, 1), (4, 10, 1), (4, 10, 2), (4, 10, 3), (4, 10, 4), (4, 10, 5), (4, 10, 6), (4, 10, 0), (18, 2, 2), (5, 10, 7), (19, 2, 2), (4, 11, 1), (4, 11, 2), (4, 11, 3), (4, 11, 4), (4, 11, 5), (4, 11, 6), (4, 11, 0), (18, 2, 3), (5, 11, 7), (19, 2, 3), (0, 0, 7), (6, 0, 1), (6, 0, 0), (0, 0, 8), (7, 0, 4), (7, 0, 6), (7, 0, 7), (7, 0, 10), (7, 0, 11), (7, 0, 12), (7, 0, 13), (7, 0, 14), (7, 0, 15), (7, 0, 16), (7, 0, 17), (7, 0, 18), (7, 0, 19), (7, 0, 30), (7, 0, 31), (7, 0, 32), (7, 0, 38)]
/-- is a reference laid at the time τ? -/
def laid (τ t i k : Nat) : Bool := decide (zord.idxOf (t, i, k) < τ)
def nfv (X : zX) (g : zG) (τ t i k : Nat) (f : Option (Nat → Nat × Nat)) : Value := match f with
  | none => .int (g (1000 * (k + 1) + t) i 0)
  | some tg => if laid τ t i k = true then .ref (zA X (tg i)) else .null
def nC (X : zX) (g : zG) (τ t i : Nat) : va_E := match zK t with
  | .inl (ci, fs) => .inr (ci, fs.mapIdx (fun k f => nfv X g τ t i k f))
  | .inr (.inl (j, n)) => if j = 4 then .inl (X.2.1 4, n, .inr (.inl (fun k => (g t i k).toInt64))) else .inl (X.2.1 j, n, .inl (g t i))
  | .inr (.inr (j, n, r)) => .inl (X.2.1 j, n, .inr (.inr (.inr (.inr (fun k => if laid τ t i k = true then some (zA X (r i k)) else none)))))
def nW (X : zX) (g : zG) (τ n : Nat) : va_W := (zcds.take n).map (fun q => (zA X q, nC X g τ q.1 q.2))
theorem zoidx : ∀ (j : Nat) (q : Nat × Nat × Nat), zord[j]? = some q → zord.idxOf q = j := by
  have h : (List.range zord.length).all (fun i => zord.idxOf (zord.getD i (0, 0, 0)) == i) = true := by decide +kernel
  intro j q hq
  have hj := (List.getElem?_eq_some_iff.mp hq).1
  have h1 := List.all_eq_true.mp h j (List.mem_range.mpr hj)
  rw [beq_iff_eq, List.getD_eq_getElem?_getD, hq] at h1
  exact h1
theorem zolen : zord.length = 178 := by decide +kernel
theorem laid_put {τ t i k : Nat} (h : zord[τ]? = some (t, i, k)) (t' i' k' : Nat) : laid (τ + 1) t' i' k' = if t' = t ∧ i' = i ∧ k' = k then true else laid τ t' i' k' := by
  have e := zoidx τ _ h
  have hl := (List.getElem?_eq_some_iff.mp h).1
  by_cases z : t' = t ∧ i' = i ∧ k' = k
  · obtain ⟨rfl, rfl, rfl⟩ := z
    rw [if_pos ⟨rfl, rfl, rfl⟩]
    unfold laid
    rw [e]
    exact decide_eq_true (by omega)
  · rw [if_neg z]
    unfold laid
    have ne : zord.idxOf (t', i', k') ≠ τ := by
      intro q
      have hm : (t', i', k') ∈ zord := List.idxOf_lt_length_iff.mp (by omega)
      obtain ⟨j, hj⟩ := List.getElem?_of_mem hm
      have e1 := zoidx j _ hj
      have e2 : j = τ := by omega
      rw [e2, h] at hj
      have e3 := Option.some.inj hj
      simp only [Prod.mk.injEq] at e3
      exact z ⟨e3.1.symm, e3.2.1.symm, e3.2.2.symm⟩
    generalize zord.idxOf (t', i', k') = a at ne ⊢
    exact decide_eq_decide.mpr (by omega)
theorem laid_new {τ t i : Nat} (h : (zord.take τ).all (fun x => !(x.1 == t && x.2.1 == i)) = true) (hτ : τ ≤ 178) (k : Nat) : laid τ t i k = false := by
  cases hb : laid τ t i k with
  | false => rfl
  | true =>
    unfold laid at hb
    have hb := of_decide_eq_true hb
    have hlen := zolen
    have hm : (t, i, k) ∈ zord := List.idxOf_lt_length_iff.mp (by omega)
    obtain ⟨j, hj⟩ := List.getElem?_of_mem hm
    have e := zoidx j _ hj
    have hj2 : (zord.take τ)[j]? = some (t, i, k) := by rw [List.getElem?_take, if_pos (by omega)]; exact hj
    have h2 := List.all_eq_true.mp h _ (List.mem_of_getElem? hj2)
    simp at h2
theorem nA_at (X : zX) {j : Nat} {q : Nat × Nat} (h : zcds[j]? = some q) : zA X q = X.2.2.1 + j := by
  rw [zA_of X (List.mem_of_getElem? h), zidx j (List.getElem?_eq_some_iff.mp h).1 q h]
theorem nW_get (X : zX) (g : zG) {τ n j t i : Nat} (h : zcds[j]? = some (t, i)) (hj : j < n) : (nW X g τ n)[j]? = some (zA X (t, i), nC X g τ t i) := by
  unfold nW
  rw [List.getElem?_map, List.getElem?_take, if_pos hj, h]
  rfl
theorem nW_key {X : zX} {g : zG} {τ n k : Nat} {p : Nat × va_E} (h : (nW X g τ n)[k]? = some p) : ∃ q, k < n ∧ zcds[k]? = some q ∧ p = (zA X q, nC X g τ q.1 q.2) := by
  unfold nW at h
  rw [List.getElem?_map, List.getElem?_take] at h
  by_cases hk : k < n
  · rw [if_pos hk] at h
    cases hq : zcds[k]? with
    | none => rw [hq] at h; cases h
    | some q => rw [hq] at h; exact ⟨q, hk, rfl, (Option.some.inj h).symm⟩
  · rw [if_neg hk] at h; cases h
theorem nW_D (X : zX) (g : zG) (τ n : Nat) : va_D (zF X) (nW X g τ n) := by
  refine ⟨fun i j p p' hi hj he => ?_, fun k p hk => ?_⟩
  · obtain ⟨q, -, h1, rfl⟩ := nW_key hi
    obtain ⟨q', -, h2, rfl⟩ := nW_key hj
    have e := zA_inj X (List.mem_of_getElem? h1) (List.mem_of_getElem? h2) he
    subst e
    have a := zidx i (List.getElem?_eq_some_iff.mp h1).1 q h1
    have b := zidx j (List.getElem?_eq_some_iff.mp h2).1 q h2
    omega
  · obtain ⟨q, -, h1, rfl⟩ := nW_key hk
    have hm := List.mem_of_getElem? h1
    show X.2.2.1 ≤ zA X q ∧ zA X q < X.2.2.1 + zcds.length
    rw [zA_of X hm]
    have := List.idxOf_lt_length_of_mem hm
    omega
theorem nW_push (X : zX) (g : zG) {τ n t i : Nat} (h : zcds[n]? = some (t, i)) : nW X g τ (n + 1) = nW X g τ n ++ [(X.2.2.1 + n, nC X g τ t i)] := by
  unfold nW
  rw [List.take_add_one, h, List.map_append, ← nA_at X h]
  rfl
theorem nC_ext (X : zX) (g : zG) {τ τ' t i : Nat} (h : ∀ k, laid τ' t i k = laid τ t i k) : nC X g τ' t i = nC X g τ t i := by
  have e : (fun k f => nfv X g τ' t i k f) = (fun k f => nfv X g τ t i k f) := by
    funext k f
    cases f with
    | none => rfl
    | some tg => simp only [nfv, h]
  unfold nC
  simp only [e, h]
theorem nC_extg (X : zX) {g g' : zG} {τ t i : Nat} (h1 : ∀ k, g' t i k = g t i k) (h2 : ∀ k, g' (1000 * (k + 1) + t) i 0 = g (1000 * (k + 1) + t) i 0) : nC X g' τ t i = nC X g τ t i := by
  have e : (fun k f => nfv X g' τ t i k f) = (fun k f => nfv X g τ t i k f) := by
    funext k f
    cases f with
    | none => simp only [nfv, h2]
    | some tg => rfl
  have e1 : g' t i = g t i := funext h1
  unfold nC
  simp only [e, e1]
theorem nW_set (X : zX) {g g' : zG} {τ τ' n j t i : Nat} {e : va_E} (h : zcds[j]? = some (t, i)) (hj : j < n) (he : e = nC X g' τ' t i) (hne : ∀ q ∈ zcds, q ≠ (t, i) → nC X g τ q.1 q.2 = nC X g' τ' q.1 q.2) : (nW X g τ n).set j (zA X (t, i), e) = nW X g' τ' n := by
  subst he
  apply List.ext_getElem?
  intro a
  rw [List.getElem?_set]
  by_cases ha : j = a
  · subst ha
    have hl : j < (nW X g τ n).length := (List.getElem?_eq_some_iff.mp (nW_get X g h hj)).1
    rw [if_pos rfl, nW_get X g' h hj, if_pos hl]
  · rw [if_neg ha]
    unfold nW
    rw [List.getElem?_map, List.getElem?_map, List.getElem?_take]
    by_cases hn : a < n
    · rw [if_pos hn]
      cases hq : zcds[a]? with
      | none => rfl
      | some q =>
        have hne' : q ≠ (t, i) := by
          intro hz
          rw [hz] at hq
          have e1 := zidx a (List.getElem?_eq_some_iff.mp hq).1 _ hq
          have e2 := zidx j (List.getElem?_eq_some_iff.mp h).1 _ h
          omega
        simp only [Option.map_some, hne q (List.mem_of_getElem? hq) hne']
    · rw [if_neg hn]
      rfl
theorem nW_setf (X : zX) (g : zG) {τ n j t i k ci : Nat} {fs : List (Option (Nat → Nat × Nat))} {tg : Nat → Nat × Nat} (h : zcds[j]? = some (t, i)) (hj : j < n) (ho : zord[τ]? = some (t, i, k)) (hk : zK t = .inl (ci, fs)) (hf : fs[k]? = some (some tg)) : (nW X g τ n).set j (zA X (t, i), .inr (ci, (fs.mapIdx (fun k f => nfv X g τ t i k f)).set k (.ref (zA X (tg i))))) = nW X g (τ + 1) n := by
  refine nW_set X h hj ?_ ?_
  · simp only [nC, hk]
    congr 1
    congr 1
    apply List.ext_getElem?
    intro a
    have hlt := (List.getElem?_eq_some_iff.mp hf).1
    rw [List.getElem?_set, List.getElem?_mapIdx, List.getElem?_mapIdx, List.length_mapIdx]
    by_cases ha : k = a
    · subst ha
      rw [if_pos rfl, if_pos hlt, hf]
      simp [nfv, laid_put ho]
    · rw [if_neg ha]
      cases hq : fs[a]? with
      | none => rfl
      | some f =>
        cases f with
        | none => rfl
        | some tg' =>
          have hz : ¬ (t = t ∧ i = i ∧ a = k) := fun z => ha z.2.2.symm
          have e1 : laid (τ + 1) t i a = laid τ t i a := by rw [laid_put ho, if_neg hz]
          simp only [Option.map_some, nfv, e1]
  · intro q _ hn
    refine (nC_ext X g (fun k' => ?_)).symm
    rw [laid_put ho, if_neg (fun z => hn (Prod.ext z.1 z.2.1))]
theorem nW_seta (X : zX) (g : zG) {τ n j t i k jj nn : Nat} {r : Nat → Nat → Nat × Nat} (h : zcds[j]? = some (t, i)) (hj : j < n) (ho : zord[τ]? = some (t, i, k)) (hk : zK t = .inr (.inr (jj, nn, r))) : (nW X g τ n).set j (zA X (t, i), .inl (X.2.1 jj, nn, .inr (.inr (.inr (.inr (va_up (fun k => if laid τ t i k = true then some (zA X (r i k)) else none) k (some (zA X (r i k))))))))) = nW X g (τ + 1) n := by
  refine nW_set X h hj ?_ ?_
  · simp only [nC, hk]
    congr 7
    funext a
    rw [laid_put ho]
    unfold va_up
    by_cases ha : a = k
    · subst ha
      simp
    · rw [if_neg (show ¬ (t = t ∧ i = i ∧ a = k) from fun z => ha z.2.2), if_neg ha]
  · intro q _ hn
    refine (nC_ext X g (fun k' => ?_)).symm
    rw [laid_put ho, if_neg (fun z => hn (Prod.ext z.1 z.2.1))]
theorem nW_seto (X : zX) (g : zG) {τ n j t i k ci : Nat} {fs : List (Option (Nat → Nat × Nat))} (h : zcds[j]? = some (t, i)) (hj : j < n) (hk : zK t = .inl (ci, fs)) (hf : fs[k]? = some none) (v : Int32) : (nW X g τ n).set j (zA X (t, i), .inr (ci, (fs.mapIdx (fun k f => nfv X g τ t i k f)).set k (.int v))) = nW X (zU g (1000 * (k + 1) + t) i 0 v) τ n := by
  have ht := ztag _ (List.mem_of_getElem? h)
  refine nW_set X h hj ?_ ?_
  · simp only [nC, hk]
    congr 1
    congr 1
    apply List.ext_getElem?
    intro a
    have hlt := (List.getElem?_eq_some_iff.mp hf).1
    rw [List.getElem?_set, List.getElem?_mapIdx, List.getElem?_mapIdx, List.length_mapIdx]
    by_cases ha : k = a
    · subst ha
      rw [if_pos rfl, if_pos hlt, hf]
      simp [nfv, zU]
    · rw [if_neg ha]
      cases hq : fs[a]? with
      | none => rfl
      | some f =>
        cases f with
        | none =>
          have : ¬ (1000 * (a + 1) = 1000 * (k + 1)) := by omega
          simp [nfv, zU, this]
        | some tg => rfl
  · intro q hq hn
    have h2 := ztag _ hq
    have hn' : ¬ (q.1 = t ∧ q.2 = i) := fun z => hn (Prod.ext z.1 z.2)
    refine (nC_extg X (fun a => ?_) (fun a => ?_)).symm
    · rw [zU_ne _ _ (by omega)]
    · have h1 : t < 60 := ht
      rw [zU_ne _ _ (fun z => hn' ⟨by omega, z.2.1⟩)]
/-- the state while the world is made: so many cells, so many references laid -/
def nH (X : zX) (g : zG) (τ n : Nat) (H : Heap) : Prop := va_P X.1 zcl (nW X g τ n) H ∧ H.size = X.2.2.1 + n
def nS (X : zX) (U : State) (H : Heap) : Prop := zS X U H ∧ va_AO RX0 U ∧ va_AO RX1 U
/-- a constructor's contract -/
def NC (X : zX) (y : MethodName) (bytes : ByteArray) (maxL d mc ms : Nat) (as : List zV) (g : zG) (τ n : Nat) (g' : zG) (τ' n' : Nat) : Prop :=
  ∀ l : Launch, Met l y (zws y bytes maxL none) ({ frames := d, cells := mc, slots := ms, locals := 36 * d }) (va_Pc (as.map (zM X)) (fun U => nH X g τ n U.heap ∧ nS X U U.heap)) (fun _ st o t => o = .returned none ∧ nH X g' τ' n' t.heap ∧ va_F (zF X) st t) mc ms (zF X)
section NV
variable {X : zX} {p : Program} {l : Launch} {e : Env} {R : Room} {s : State} {m : MethodId} {args : Array Value} {below : List Frame} {meth : Method} {c : Code} {cc : ByteArray} {nL : Nat} {own : String} {cells slots : Nat} {Q : State → Prop}
variable {g : zG} {τ n pc : Nat} {L L' : List (Option zV)} {st : List zV}
def Cn (X : zX) (p : Program) (s : State) (m : MethodId) (args : Array Value) (meth : Method) (c : Code) (cc : ByteArray) (nL : Nat) (own : String) : Prop :=
  p.tables.exec = Jvm.exec ∧ c.code = cc ∧ c.maxLocals = nL ∧ s.vm.findClass own = some m.cls ∧ (∀ w ∈ zall, w.before args s = true) ∧ nS X s s.heap ∧ meth.locks = false
theorem Cn.K (C : Cn X p s m args meth c cc nL own) : va_K X.1 zcl (zT X) s := C.2.2.2.2.2.1.1.1
theorem Cn.w (C : Cn X p s m args meth c cc nL own) : ∀ w ∈ zall, w.before args s = true := C.2.2.2.2.1
theorem Cn.ow (C : Cn X p s m args meth c cc nL own) : s.vm.findClass own = some m.cls := C.2.2.2.1
def NN (X : zX) (p : Program) (l : Launch) (e : Env) (R : Room) (s : State) (m : MethodId) (args : Array Value) (below : List Frame) (meth : Method) (c : Code) (nL : Nat) (Q : State → Prop) (g : zG) (τ n cells slots pc : Nat) (L : List (Option zV)) (st : List zV) : Prop :=
  ∀ (H : Heap) (locs : List Loc) (ls : Array Slot), nH X g τ n H → va_S (zF X) s.heap H locs → lv_has ls nL (zE X 0 L) → W p l e R s m args below meth c H locs cells slots Q (F0 m pc ls (st.map (zM X)))
theorem n_iconst (C : Cn X p s m args meth c cc nL own) {i : Int} (x : Int32) (hd : decode cc pc = .ok (.iconst i, 1)) (hv : Int32.ofInt i = x) (kk : NN X p l e R s m args below meth c nL Q g τ n cells slots (pc + 1) L (.inl x :: st)) : NN X p l e R s m args below meth c nL Q g τ n cells slots pc L st :=
  fun H locs ls hP hS hl => lv_iconst C.1 C.2.1 hd hv (kk H locs ls hP hS hl)
theorem n_bipush (C : Cn X p s m args meth c cc nL own) {i : Int} (x : Int32) (hd : decode cc pc = .ok (.bipush i, 2)) (hv : (Int8.ofInt i).toInt32 = x) (kk : NN X p l e R s m args below meth c nL Q g τ n cells slots (pc + 2) L (.inl x :: st)) : NN X p l e R s m args below meth c nL Q g τ n cells slots pc L st :=
  fun H locs ls hP hS hl => lv_bipush C.1 C.2.1 hd hv (kk H locs ls hP hS hl)
theorem n_sipush (C : Cn X p s m args meth c cc nL own) {i : Int} (x : Int32) (hd : decode cc pc = .ok (.sipush i, 3)) (hv : (Int16.ofInt i).toInt32 = x) (kk : NN X p l e R s m args below meth c nL Q g τ n cells slots (pc + 3) L (.inl x :: st)) : NN X p l e R s m args below meth c nL Q g τ n cells slots pc L st :=
  fun H locs ls hP hS hl => lv_sipush C.1 C.2.1 hd hv (kk H locs ls hP hS hl)
theorem n_aload_n (C : Cn X p s m args meth c cc nL own) {k : _root_.Fin 4} (i : Nat) {x : Nat × Nat} (hd : decode cc pc = .ok (.aload_n k, 1)) (hi : (k : Nat) = i) (hl : L[i]? = some (some (.inr (.inl x)))) (kk : NN X p l e R s m args below meth c nL Q g τ n cells slots (pc + 1) L (.inr (.inl x) :: st)) : NN X p l e R s m args below meth c nL Q g τ n cells slots pc L st :=
  fun H locs ls hP hS h => lv_aload_n C.1 C.2.1 hd hi (zE_at h hl (fun _ => by simp)) (kk H locs ls hP hS h)
theorem n_iload_n (C : Cn X p s m args meth c cc nL own) {k : _root_.Fin 4} (i : Nat) {x : Int32} (hd : decode cc pc = .ok (.iload_n k, 1)) (hi : (k : Nat) = i) (hl : L[i]? = some (some (.inl x))) (kk : NN X p l e R s m args below meth c nL Q g τ n cells slots (pc + 1) L (.inl x :: st)) : NN X p l e R s m args below meth c nL Q g τ n cells slots pc L st :=
  fun H locs ls hP hS h => lv_iload_n C.1 C.2.1 hd hi (zE_at h hl (fun _ => by simp)) (kk H locs ls hP hS h)
theorem n_istore_n (C : Cn X p s m args meth c cc nL own) {k : _root_.Fin 4} (i : Nat) {x : Int32} (hd : decode cc pc = .ok (.istore_n k, 1)) (hi : (k : Nat) = i) (hn : i < nL) (hL : L.set i (some (.inl x)) = L') (kk : NN X p l e R s m args below meth c nL Q g τ n cells slots (pc + 1) L' st) : NN X p l e R s m args below meth c nL Q g τ n cells slots pc L (.inl x :: st) :=
  fun H locs ls hP hS h => lv_istore_n C.1 C.2.1 hd hi h hn rfl (fun ls' h' => kk H locs ls' hP hS (zE_set (v := .inl x) h' hL))
theorem n_iinc (C : Cn X p s m args meth c cc nL own) (i : Nat) {j : Int} (k : Int32) {x : Int32} (hd : decode cc pc = .ok (.iinc i j, 3)) (hk : Int32.ofInt j = k) (hn : i < nL) (hl : L[i]? = some (some (.inl x))) (hL : L.set i (some (.inl (x + k))) = L') (kk : NN X p l e R s m args below meth c nL Q g τ n cells slots (pc + 3) L' st) : NN X p l e R s m args below meth c nL Q g τ n cells slots pc L st := by
  intro H locs ls hP hS h
  obtain ⟨q, hq⟩ := zE_idx (X := X) hl
  exact lv_iinc C.1 C.2.1 hd h hq (by rw [hk]) hn rfl (fun ls' h' => kk H locs ls' hP hS (zE_set (v := .inl (x + k)) h' hL))
theorem n_dup (C : Cn X p s m args meth c cc nL own) {x : Nat × Nat} (hd : decode cc pc = .ok (.dup, 1)) (kk : NN X p l e R s m args below meth c nL Q g τ n cells slots (pc + 1) L (.inr (.inl x) :: .inr (.inl x) :: st)) : NN X p l e R s m args below meth c nL Q g τ n cells slots pc L (.inr (.inl x) :: st) :=
  fun H locs ls hP hS h => lv_dup C.1 C.2.1 hd rfl (kk H locs ls hP hS h)
theorem n_goto (C : Cn X p s m args meth c cc nL own) {off : Int} (tgt : Nat) (hd : decode cc pc = .ok (.goto off, 3)) (ht : (pc : Int) + off = (tgt : Int)) (kk : NN X p l e R s m args below meth c nL Q g τ n cells slots tgt L st) : NN X p l e R s m args below meth c nL Q g τ n cells slots pc L st :=
  fun H locs ls hP hS h => lv_goto C.1 C.2.1 hd ht (kk H locs ls hP hS h)
theorem n_icmp_geN (C : Cn X p s m args meth c cc nL own) {x y : Int32} {off : Int} (tgt : Nat) (hd : decode cc pc = .ok (.if_icmp .ge off, 3)) (ht : (pc : Int) + off = (tgt : Int)) (hlt : x < y) (kk : NN X p l e R s m args below meth c nL Q g τ n cells slots (pc + 3) L st) : NN X p l e R s m args below meth c nL Q g τ n cells slots pc L (.inl y :: .inl x :: st) :=
  fun H locs ls hP hS h => lv_icmp_ge C.1 C.2.1 hd ht (fun q => absurd hlt (Int32.not_lt.mpr q)) (fun _ => kk H locs ls hP hS h)
theorem n_icmp_geY (C : Cn X p s m args meth c cc nL own) {x y : Int32} {off : Int} (tgt : Nat) (hd : decode cc pc = .ok (.if_icmp .ge off, 3)) (ht : (pc : Int) + off = (tgt : Int)) (hlt : ¬ x < y) (kk : NN X p l e R s m args below meth c nL Q g τ n cells slots tgt L st) : NN X p l e R s m args below meth c nL Q g τ n cells slots pc L (.inl y :: .inl x :: st) :=
  fun H locs ls hP hS h => lv_icmp_ge C.1 C.2.1 hd ht (fun _ => kk H locs ls hP hS h) (fun q => absurd (Int32.not_le.mp q) hlt)
theorem n_get (C : Cn X p s m args meth c cc nL own) {t i j ci N k index : Nat} {fs : List (Option (Nat → Nat × Nat))} {tg : Nat → Nat × Nat} {Cl : String} {T : u_T} (hq : zcds[j]? = some (t, i)) (hj : j < n) (hk : zK t = .inl (ci, fs)) (hc : zcl[ci]? = some (Cl, T, N)) (hin : ∀ w ∈ u_ws Cl T N, w ∈ zall) (hkN : k < N) (hf : fs[k]? = some (some tg)) (hlaid : laid τ t i k = true) {v : Nat × Nat} (hv : tg i = v) (hlink : Cond.fieldLink own index (T k).1 (T k).2.1 (T k).2.2.1 ∈ zall) (hd : decode cc pc = .ok (.getfield index, 3))
    (kk : NN X p l e R s m args below meth c nL Q g τ n cells slots (pc + 3) L (.inr (.inl v) :: st)) : NN X p l e R s m args below meth c nL Q g τ n cells slots pc L (.inr (.inl (t, i)) :: st) := by
  subst hv
  intro H locs ls hP hS h
  have he := nW_get X g (τ := τ) hq hj
  simp only [nC, hk] at he
  refine va_get (tys := zT X) (index := index) (v := .ref (zA X (tg i))) C.1 C.2.1 C.w hin C.ow C.K hP.1 j he hc k hkN (C.w _ hlink) (fun _ h9 => h9) ?_ hd (kk H locs ls hP hS h)
  rw [List.getElem?_mapIdx, hf, Option.map_some]
  simp only [nfv, if_pos hlaid]
theorem n_putf (C : Cn X p s m args meth c cc nL own) (hinit : meth.name = "<init>") {t i j ci N k index : Nat} {fs : List (Option (Nat → Nat × Nat))} {tg : Nat → Nat × Nat} {Cl : String} {T : u_T} (ty0 : Nat → FieldType) (hty : ∀ k, k < N → parseFieldDescriptor (T k).2.2.1 = some (ty0 k)) (hnm : ∀ a, a < N → ∀ b, b < N → a ≠ b → (T a).2.1 ≠ (T b).2.1) (hq : zcds[j]? = some (t, i)) (hj : j < n) (hk : zK t = .inl (ci, fs)) (hc : zcl[ci]? = some (Cl, T, N)) (hin : ∀ w ∈ u_ws Cl T N, w ∈ zall) (hkN : k < N) (hf : fs[k]? = some (some tg)) (ho : zord[τ]? = some (t, i, k)) (hlink : Cond.fieldLink own index (T k).1 (T k).2.1 (T k).2.2.1 ∈ zall) (hfin : (T k).2.2.2 = true) (hdecl : (T k).1 = own) (hn : ∀ a : Nat, narrow (ty0 k) (.ref a) = .ref a) (hfit : ∀ a : Nat, fits (ty0 k) (.ref a) = true) {v : Nat × Nat} (hv : tg i = v) (hd : decode cc pc = .ok (.putfield index, 3))
    (kk : NN X p l e R s m args below meth c nL Q g (τ + 1) n cells slots (pc + 3) L st) : NN X p l e R s m args below meth c nL Q g τ n cells slots pc L (.inr (.inl v) :: .inr (.inl (t, i)) :: st) := by
  subst hv
  intro H locs ls hP hS h
  have he := nW_get X g (τ := τ) hq hj
  simp only [nC, hk] at he
  have hap := va_apart (own := own) C.w hin ty0 hty hnm C.K hc
  obtain ⟨r, h1, cell, q1, q2, q3, q4⟩ := hP.1 j _ he
  have hr : r = (Cl, T, N) := Option.some.inj (h1.symm.trans hc)
  subst hr
  obtain ⟨hSl, hfc, kC, hkC, hkind⟩ := C.K.1 ci _ hc
  obtain ⟨cf, kf, fi, f, hi, hsl⟩ := hSl k hkN
  have hlay := C.w _ (hin _ (u_in_lay hkN))
  unfold u_lay at hlay
  rw [if_pos hfin] at hlay
  have hst := (u_facts hfc hkC (u_lays C.w hin hkN) hi).1
  have hcf : m.cls = cf := by
    obtain ⟨_, _, c', _, _, _, -, -, hf', -, -, -, hown2, -⟩ := Cond.laysFinal_spec hlay
    have e1 : c' = cf := by have := hi.symm.trans hf'; simp at this; exact this.1.symm
    rw [hdecl] at hown2
    rw [← e1]; exact Option.some.inj (C.ow.symm.trans hown2)
  have h6 := u_fits hfc hkC hkind (Or.inr hlay) hi (hty k hkN) (hn (zA X (tg i))) (hfit (zA X (tg i)))
  refine W.putFinK C.1 C.2.1 C.ow (C.w _ hlink) hi hst hcf hinit (by rw [q2]; exact h6) q1 q3 (by rw [hsl]; exact k2_hasslot (q4 k hkN)) rfl rfl hd fun H' e1 e2 e3 => ?_
  rw [hsl] at e1 ⊢
  refine kk H' _ ls ⟨?_, by rw [e2]; exact hP.2⟩ (hS.put e2 e3 ((nW_D X g τ n).2 j _ he)) h
  rw [← nW_setf X g hq hj ho hk hf]
  exact hP.1.set (nW_D X g τ n) (nW_get X g hq hj) ⟨_, hc, t_OB.to (V := updV (vp_V (fs.mapIdx (fun k f => nfv X g τ t i k f))) k (.ref (zA X (tg i)))) ⟨_, e1, q2, q3, t_set q4 hap hkN _⟩ (fun a _ => vp_updV_set (by rw [List.length_mapIdx]; exact (List.getElem?_eq_some_iff.mp hf).1) _ a)⟩ e3
theorem n_puti (C : Cn X p s m args meth c cc nL own) {t i j ci N k index : Nat} {fs : List (Option (Nat → Nat × Nat))} {Cl : String} {T : u_T} (ty0 : Nat → FieldType) (hty : ∀ k, k < N → parseFieldDescriptor (T k).2.2.1 = some (ty0 k)) (hnm : ∀ a, a < N → ∀ b, b < N → a ≠ b → (T a).2.1 ≠ (T b).2.1) (hq : zcds[j]? = some (t, i)) (hj : j < n) (hk : zK t = .inl (ci, fs)) (hc : zcl[ci]? = some (Cl, T, N)) (hin : ∀ w ∈ u_ws Cl T N, w ∈ zall) (hkN : k < N) (hf : fs[k]? = some none) (hlink : Cond.fieldLink own index (T k).1 (T k).2.1 (T k).2.2.1 ∈ zall) (hfin : (T k).2.2.2 = false) {x : Int32} (hn : narrow (ty0 k) (.int x) = .int x) (hfit : fits (ty0 k) (.int x) = true) (hd : decode cc pc = .ok (.putfield index, 3))
    (kk : NN X p l e R s m args below meth c nL Q (zU g (1000 * (k + 1) + t) i 0 x) τ n cells slots (pc + 3) L st) : NN X p l e R s m args below meth c nL Q g τ n cells slots pc L (.inl x :: .inr (.inl (t, i)) :: st) := by
  intro H locs ls hP hS h
  have he := nW_get X g (τ := τ) hq hj
  simp only [nC, hk] at he
  have hap := va_apart (own := own) C.w hin ty0 hty hnm C.K hc
  obtain ⟨r, h1, cell, q1, q2, q3, q4⟩ := hP.1 j _ he
  have hr : r = (Cl, T, N) := Option.some.inj (h1.symm.trans hc)
  subst hr
  obtain ⟨hSl, hfc, kC, hkC, hkind⟩ := C.K.1 ci _ hc
  obtain ⟨cf, kf, fi, f, hi, hsl⟩ := hSl k hkN
  have hlay := C.w _ (hin _ (u_in_lay hkN))
  unfold u_lay at hlay
  rw [if_neg (by rw [hfin]; decide)] at hlay
  have hst := (u_facts hfc hkC (u_lays C.w hin hkN) hi).1
  have h6 := u_store hfc hkC hkind hlay hi (hty k hkN) hn hfit
  refine W.putK C.1 C.2.1 (f := f) ⟨C.ow, C.w _ hlink, ⟨_, _, _, hi⟩, hst⟩ (by rw [q2]; exact h6) q1 q3 (by rw [hsl]; exact k2_hasslot (q4 k hkN)) rfl rfl hd fun H' e1 e2 e3 => ?_
  rw [hsl] at e1 ⊢
  refine kk H' _ ls ⟨?_, by rw [e2]; exact hP.2⟩ (hS.put e2 e3 ((nW_D X g τ n).2 j _ he)) h
  rw [← nW_seto X g hq hj hk hf x]
  exact hP.1.set (nW_D X g τ n) (nW_get X g hq hj) ⟨_, hc, t_OB.to (V := updV (vp_V (fs.mapIdx (fun k f => nfv X g τ t i k f))) k (.int x)) ⟨_, e1, q2, q3, t_set q4 hap hkN _⟩ (fun a _ => vp_updV_set (by rw [List.length_mapIdx]; exact (List.getElem?_eq_some_iff.mp hf).1) _ a)⟩ e3
/-- a new object's fields, before its constructor runs -/
theorem n_fs {t i N : Nat} {fs : List (Option (Nat → Nat × Nat))} (ty : Nat → FieldType) (h : ∀ j, j < N → ((fs[j]?.map Option.isSome = some false ∧ (ty j = .int ∨ ty j = .boolean)) ∨ (fs[j]?.map Option.isSome = some true ∧ ∃ C, ty j = .object C ∨ ∃ a, ty j = .array a))) (hg : ∀ k, g (1000 * (k + 1) + t) i 0 = 0) (hp : ∀ k, laid τ t i k = false) : ∀ j, j < N → defaultValue (ty j) = vp_V (fs.mapIdx (fun k f => nfv X g τ t i k f)) j := by
  intro j hj
  unfold vp_V
  rw [List.getD_eq_getElem?_getD, List.getElem?_mapIdx]
  rcases h j hj with ⟨h1, h2⟩ | ⟨h1, C, h2⟩
  · cases hf : fs[j]? with
    | none => rw [hf] at h1; cases h1
    | some f =>
      cases f with
      | none =>
        simp only [Option.map_some, Option.getD_some, nfv, hg]
        rcases h2 with h2 | h2 <;> rw [h2] <;> rfl
      | some tg => rw [hf] at h1; cases h1
  · cases hf : fs[j]? with
    | none => rw [hf] at h1; cases h1
    | some f =>
      cases f with
      | none => rw [hf] at h1; cases h1
      | some tg =>
        simp only [Option.map_some, Option.getD_some, nfv, hp]
        rcases h2 with h2 | ⟨a, h2⟩ <;> rw [h2] <;> rfl
theorem n_new (C : Cn X p s m args meth c cc nL own) {t i ci N index : Nat} {fs : List (Option (Nat → Nat × Nat))} {Cl : String} {T : u_T} (ty : Nat → FieldType) (hty : ∀ k, k < N → parseFieldDescriptor (T k).2.2.1 = some (ty k)) (hq : zcds[n]? = some (t, i)) (hk : zK t = .inl (ci, fs)) (hc : zcl[ci]? = some (Cl, T, N)) (hin : ∀ w ∈ u_ws Cl T N, w ∈ zall) (hfs : ∀ j, j < N → defaultValue (ty j) = vp_V (fs.mapIdx (fun k f => nfv X g τ t i k f)) j) (hcl : Cond.classLink own index Cl ∈ zall) (hinst : Cond.instantiable Cl N ∈ zall) (hini : Cond.initialized Cl ∈ zall) (hcells : cells + 1 ≤ R.cells) (hslots : slots + N ≤ R.slots) (hd : decode cc pc = .ok (.new index, 3))
    (kk : NN X p l e R s m args below meth c nL Q g τ (n + 1) (cells + 1) (slots + N) (pc + 3) L (.inr (.inl (t, i)) :: st)) : NN X p l e R s m args below meth c nL Q g τ n cells slots pc L st := by
  intro H locs ls hP hS h
  have hKn := C.K.1 ci _ hc
  refine W.newcK C.1 C.2.1 C.ow (C.w _ hcl) (C.w _ hinst) (C.w _ hini) rfl hd hcells hslots hKn.2.1 hP.2 fun H1 kC hkC e1 z1 o1 => ?_
  have hk1 : ∀ (k : Nat) (x : Nat × va_E), (nW X g τ n)[k]? = some x → H1[x.1]? = H[x.1]? := fun k x hx => o1 x.1 (by rw [← hP.2]; exact (hP.1 k x hx).lt)
  have e : W p l e R s m args below meth c H1 locs (cells + 1) (slots + N) Q (F0 m (pc + 3) ls (.ref (zA X (t, i)) :: st.map (zM X))) := by
    refine kk H1 locs ls ⟨?_, by rw [z1]; rfl⟩ ⟨Nat.le_trans hS.1 (by rw [z1, hP.2]; omega), fun x h1 h2 => (o1 x (by rw [← hP.2]; exact Nat.lt_of_lt_of_le h1 hS.1)).trans (hS.2.1 x h1 h2), hS.2.2⟩ h
    rw [nW_push X g hq]
    refine (hP.1.kept hk1).app (fun k x hx => ?_)
    have hz : k < 1 := (List.getElem?_eq_some_iff.mp hx).1
    rw [show k = 0 by omega] at hx
    cases hx
    simp only [nC, hk]
    exact ⟨_, hc, (u_born ty C.w hin hKn hkC e1 hty).to hfs⟩
  rw [nA_at X hq] at e
  exact e
theorem n_newa (C : Cn X p s m args meth c cc nL own) {t i j N : Nat} {ty : FieldType} (hq : zcds[n]? = some (t, i)) (hk : zK t = .inr (.inl (j, N))) (hj : j < 2) {atype : ArrayType} (hat : newarray.typeOf atype = ty) (htz : (zT X)[j]? = some (X.2.1 j, ty)) (hsi : ty = .int ∨ ty = .boolean) (hac : Cond.arrayClass ty ∈ zall) {x : Int32} (hx : ¬ x < 0) (hN : x.toNatClampNeg = N) (hb : N * componentBytes ty ≤ 536870912) (hg : ∀ k, g t i k = 0) (hcells : cells + 1 ≤ R.cells) (hslots : slots + N ≤ R.slots) (hd : decode cc pc = .ok (.newarray atype, 2))
    (kk : NN X p l e R s m args below meth c nL Q g τ (n + 1) (cells + 1) (slots + N) (pc + 2) L (.inr (.inl (t, i)) :: st)) : NN X p l e R s m args below meth c nL Q g τ n cells slots pc L (.inl x :: st) := by
  intro H locs ls hP hS h
  subst hat
  refine va_newaK C.1 C.2.1 (C.w _ hac) rfl hd rfl hx hN hb hcells hslots hP.2 fun H1 cA e1 z1 o1 hAr hNm => ?_
  have hRA := (C.K.2 j _ htz).2
  have hcA : cA = X.2.1 j := by
    rcases hsi with r | r
    · simp only [r] at hRA hNm
      exact Option.some.inj (hNm.symm.trans hRA)
    · simp only [r] at hRA hNm
      exact Option.some.inj (hNm.symm.trans hRA)
  have hdef : defaultValue (newarray.typeOf atype) = .int 0 := by
    rcases hsi with r | r <;> rw [r] <;> rfl
  have hk1 : ∀ (k : Nat) (x : Nat × va_E), (nW X g τ n)[k]? = some x → H1[x.1]? = H[x.1]? := fun k x hx => o1 x.1 (by rw [← hP.2]; exact (hP.1 k x hx).lt)
  have e : W p l e R s m args below meth c H1 locs (cells + 1) (slots + N) Q (F0 m (pc + 2) ls (.ref (zA X (t, i)) :: st.map (zM X))) := by
    refine kk H1 locs ls ⟨?_, by rw [z1]; rfl⟩ ⟨Nat.le_trans hS.1 (by rw [z1, hP.2]; omega), fun x h1 h2 => (o1 x (by rw [← hP.2]; exact Nat.lt_of_lt_of_le h1 hS.1)).trans (hS.2.1 x h1 h2), hS.2.2⟩ h
    rw [nW_push X g hq]
    refine (hP.1.kept hk1).app (fun k x hx => ?_)
    have hz : k < 1 := (List.getElem?_eq_some_iff.mp hx).1
    rw [show k = 0 by omega] at hx
    cases hx
    simp only [nC, hk]
    rw [if_neg (by omega)]
    show H1[X.2.2.1 + n]? = some (vp_cell (X.2.1 j) (N, .inl (g t i)))
    rw [vp_cell_i, e1, hcA, hdef]
    congr 2
    funext k
    rw [hg]
  rw [nA_at X hq] at e
  exact e
theorem n_anew (C : Cn X p s m args meth c cc nL own) {t i j N index : Nat} {Cl : String} {r : Nat → Nat → Nat × Nat} (hq : zcds[n]? = some (t, i)) (hk : zK t = .inr (.inr (j, N, r))) (htz : (zT X)[j]? = some (X.2.1 j, .object Cl)) (hao : va_AO Cl s) (hcl : Cond.classLink own index Cl ∈ zall) (hlaid : ∀ k, laid τ t i k = false) {x : Int32} (hx : ¬ x < 0) (hN : x.toNatClampNeg = N) (hb : N * 4 ≤ 536870912) (hcells : cells + 1 ≤ R.cells) (hslots : slots + N ≤ R.slots) (hd : decode cc pc = .ok (.anewarray index, 3))
    (kk : NN X p l e R s m args below meth c nL Q g τ (n + 1) (cells + 1) (slots + N) (pc + 3) L (.inr (.inl (t, i)) :: st)) : NN X p l e R s m args below meth c nL Q g τ n cells slots pc L (.inl x :: st) := by
  subst hN
  intro H locs ls hP hS h
  refine W.anew C.1 C.2.1 C.ow (C.w _ hcl) (va_AO.use hao) rfl hd rfl hx hb hcells hslots fun cA kA comp f1 f2 f3 f4 => ?_
  obtain ⟨kA', comp', -, -, -, hRA⟩ := (C.K.2 j _ htz).2
  have hcA : cA = X.2.1 j := Option.some.inj (f1.symm.trans hRA)
  generalize hH1 : H.push ({ cls := cA, slots := Array.replicate x.toNatClampNeg .null, vm := .none } : Cell) = H1
  have z1 : H1.size = H.size + 1 := by rw [← hH1, Array.size_push]
  have e1 : H1[H.size]? = some (arrV cA x.toNatClampNeg (fun _ => .null)) := by rw [← hH1, Array.getElem?_push_size, ← arrV_new]
  have o1 : ∀ q : Nat, q < H.size → H1[q]? = H[q]? := fun q hq => by rw [← hH1, Array.getElem?_push, if_neg (Nat.ne_of_lt hq)]
  have hk1 : ∀ (k : Nat) (x : Nat × va_E), (nW X g τ n)[k]? = some x → H1[x.1]? = H[x.1]? := fun k x hx => o1 x.1 (hP.1 k x hx).lt
  have e : W p l e R s m args below meth c H1 locs (cells + 1) (slots + x.toNatClampNeg) Q (F0 m (pc + 3) ls (.ref (zA X (t, i)) :: st.map (zM X))) := by
    refine kk H1 locs ls ⟨?_, by rw [z1, hP.2]; rfl⟩ ⟨Nat.le_trans hS.1 (by rw [z1]; omega), fun y h1 h2 => (o1 y (Nat.lt_of_lt_of_le h1 hS.1)).trans (hS.2.1 y h1 h2), hS.2.2⟩ h
    rw [nW_push X g hq]
    refine (hP.1.kept hk1).app (fun k y hy => ?_)
    have hz : k < 1 := (List.getElem?_eq_some_iff.mp hy).1
    rw [show k = 0 by omega] at hy
    cases hy
    simp only [nC, hk]
    show H1[X.2.2.1 + n]? = some (vp_cell (X.2.1 j) (x.toNatClampNeg, .inr (.inr (.inr (.inr (fun k => if laid τ t i k = true then some (zA X (r i k)) else none))))))
    rw [vp_cell_q, ← hP.2, e1, hcA]
    congr 2
    funext k
    rw [hlaid]
    rfl
  rw [nA_at X hq, ← hP.2] at e
  exact e
theorem n_aast (C : Cn X p s m args meth c cc nL own) {t i j k qk tk ik ci jj N NN0 : Nat} {Cl : String} {T : u_T} {fs : List (Option (Nat → Nat × Nat))} {r : Nat → Nat → Nat × Nat} (hq : zcds[j]? = some (t, i)) (hj : j < n) (hk : zK t = .inr (.inr (jj, N, r))) (htz : (zT X)[jj]? = some (X.2.1 jj, .object Cl)) (ho : zord[τ]? = some (t, i, k)) (hr : r i k = (tk, ik)) (hqk : zcds[qk]? = some (tk, ik)) (hqn : qk < n) (hkk : zK tk = .inl (ci, fs)) (hc : zcl[ci]? = some (Cl, T, NN0)) {x : Int32} (hx : ¬ x < 0) (hxk : x.toNatClampNeg = k) (hkN : k < N) (hd : decode cc pc = .ok (.aastore, 1))
    (kk : NN X p l e R s m args below meth c nL Q g (τ + 1) n cells slots (pc + 1) L st) : NN X p l e R s m args below meth c nL Q g τ n cells slots pc L (.inr (.inl (tk, ik)) :: .inl x :: .inr (.inl (t, i)) :: st) := by
  subst hxk
  intro H locs ls hP hS h
  have he := nW_get X g (τ := τ) hq hj
  simp only [nC, hk] at he
  have hv := nW_get X g (τ := τ) hqk hqn
  simp only [nC, hkk] at hv
  obtain ⟨r', hr', cellV, g1, g2, g3, -⟩ := hP.1 qk _ hv
  have hcls := (C.K.1 ci _ hc).2
  obtain ⟨kA, comp, k1, k2, k3, -⟩ := (C.K.2 jj _ htz).2
  have hcomp : comp = X.1.1 ci := Option.some.inj (k3.symm.trans hcls.1)
  subst hcomp
  obtain ⟨kC, hkC, -⟩ := hcls.2
  refine W.aast C.1 C.2.1 (hP.1 j _ he) (fun q h => by cases h) (fun h => by cases h) k1 k2 rfl hkC ⟨hx, by show _ < (arrV _ _ _).slots.size; rw [arrV_size]; exact hkN⟩ g1 (fun q h => by rw [g3] at h; cases h) (by rw [g2]; exact hkC) (by rw [g2]; exact va_assign hcls) rfl rfl hd fun H1 e z oq => ?_
  refine kk H1 _ ls ⟨?_, by rw [z]; exact hP.2⟩ (hS.put z oq ((nW_D X g τ n).2 j _ he)) h
  rw [← nW_seta X g hq hj ho hk]
  refine hP.1.set (nW_D X g τ n) (nW_get X g hq hj) ?_ oq
  show H1[_]? = some (vp_cell _ _)
  rw [e, hr]
  rw [vp_cell_q, vp_cell_q, arrV_store]
  congr 2
  funext q
  by_cases hq2 : q = x.toNatClampNeg
  · subst hq2
    simp [updV, va_up, va_rf]
  · simp [updV, va_up, hq2]
theorem n_init (C : Cn X p s m args meth c cc nL own) {index : Nat} {q : Nat × Nat} (hlink : Cond.methodLink own index Lib.objectInit ∈ zall) (hinst : Cond.instanceMethod Lib.objectInit ∈ zall) (hcode : Cond.code Lib.objectInit ⟨#[0xb1]⟩ 1 none ∈ zall) (hframes : 1 ≤ R.frames) (hlocals : 2 * st.length + 12 ≤ R.locals) (hd : decode cc pc = .ok (.invokespecial index, 3))
    (kk : NN X p l e R s m args below meth c nL Q g τ n cells slots (pc + 3) L st) : NN X p l e R s m args below meth c nL Q g τ n cells slots pc L (.inr (.inl q) :: st) := by
  intro H locs ls hP hS h
  have hcr := zcat X st
  exact W.objInit C.1 C.2.1 C.ow (C.w _ hlink) (C.w _ hinst) (C.w _ hcode) rfl (by rw [C.2.2.1]; exact h.1) rfl hd hframes (by show 2 * 0 + _ + 12 ≤ _; omega) (kk H locs ls hP hS h)
theorem nS_vm {u U : State} {H : Heap} (h : nS X u H) (hv : U.vm = u.vm) : nS X U H := by
  have hA : u.vm.Alike U.vm := by rw [hv]; exact Vm.Alike.refl u.vm
  exact ⟨zS_vm h.1 hv, va_AO.moved hA h.2.1, va_AO.moved hA h.2.2⟩
theorem nS_warm {s U : State} {H H1 : Heap} (h : nS X s H) (hW : s.WarmedH U.vm) (hq : ∀ a : Nat, a < H.size → ¬ zF X a → H1[a]? = H[a]?) : nS X U H1 :=
  ⟨zS_warm h.1 hW hq, va_AO.moved hW.alike h.2.1, va_AO.moved hW.alike h.2.2⟩
theorem nRS {H : Heap} {locs : List Loc} {av : List Value} (hSt : nS X s s.heap) (hP : nH X g τ n H) (hS : va_S (zF X) s.heap H locs) : ∀ U : State, U.heap = H → s.WarmedH U.vm → va_Pc av (fun U => nH X g τ n U.heap ∧ nS X U U.heap) av.toArray U :=
  fun U hU hW => ⟨rfl, by rw [hU]; exact hP, by rw [hU]; exact nS_warm hSt hW (fun a h1 h2 => hS.2.1 a h1 h2)⟩
theorem nblind {av : List Value} : FrameBlind (va_Pc av (fun U => nH X g τ n U.heap ∧ nS X U U.heap)) :=
  fun a U gg mk h => ⟨h.1, h.2.1, nS_vm (u := U) (U := U.calling gg mk a) h.2.2 rfl⟩
theorem nfix (C : Cn X p s m args meth c cc nL own) : CallFix p m c cc nL s args zall own := ⟨C.1, C.2.1, C.2.2.1, C.ow, C.w⟩
theorem n_call0 {mc ms : Nat} {g' : zG} {τ' n' : Nat} {ls : Array Slot} {st0 rest : List Value} {a : Array Value} {H : Heap} {locs : List Loc} (hr : va_Run p l e R s m args below meth c H locs cells slots mc ms (F0 m pc ls st0) rest ((fun (_ : Array Value) (st : State) (o : Outcome) (t : State) => o = .returned none ∧ nH X g' τ' n' t.heap ∧ va_F (zF X) st t) a) (zF X)) (hS : va_S (zF X) s.heap H locs)
    (kk : ∀ (H1 : Heap) (locs1 : List Loc), nH X g' τ' n' H1 → va_S (zF X) s.heap H1 locs1 → W p l e R s m args below meth c H1 locs1 (cells + mc) (slots + ms) Q (F0 m (pc + 3) ls rest)) : W p l e R s m args below meth c H locs cells slots Q (F0 m pc ls st0) := by
  intro T hT Y
  obtain ⟨v', st₀, t, T', L, h0, X', hL, e1, e2, ⟨hv, hP1, hz, hk⟩, stp⟩ := hr T hT Y
  cases hv
  rw [h0] at hz hk
  obtain ⟨t2, a1, b1⟩ := kk T'.heap (locs ++ L) (by rw [e1]; exact hP1)
    ⟨Nat.le_trans hS.1 (by rw [e1]; exact hz), fun q h1 h2 => by rw [e1, hk q (Nat.lt_of_lt_of_le h1 hS.1) h2]; exact hS.2.1 q h1 h2, fun q hq => by
      rcases List.mem_append.mp hq with h | h
      · exact hS.2.2 q h
      · exact hL q h⟩ T' rfl X'
  exact ⟨t2, stp t2 a1, b1⟩
theorem n_callN (C : Cn X p s m args meth c cc nL own) {y : MethodName} {bytes : ByteArray} {maxL k d mc ms index : Nat} {host : String} {q : Nat × Nat} {as rest : List zV} {g' : zG} {τ' n' : Nat} (hM : NC X y bytes maxL d mc ms (.inr (.inl q) :: as) g τ n g' τ' n') (hw : zMW y bytes maxL none k) (hy : y.name = "<init>") (hin : Cond.instanceMethod y ∈ zall) (hl : (own, index, y, host) ∈ znM) (hR : d + 1 ≤ R.frames ∧ 8 + (maxL + 11) + 36 * d ≤ R.locals) (hn : as.length = k) (hrest : rest.length ≤ 4) (hf : cells + mc ≤ R.cells ∧ slots + ms ≤ R.slots) (hd : decode cc pc = .ok (.invokespecial index, 3)) (hst : st = as.reverse ++ .inr (.inl q) :: rest)
    (kk : NN X p l e R s m args below meth c nL Q g' τ' n' (cells + mc) (slots + ms) (pc + 3) L rest) : NN X p l e R s m args below meth c nL Q g τ n cells slots pc L st := by
  subst hst
  intro H locs ls hP hS h
  have hsz : ls.size = nL := h.1
  have hcr := zcat X rest
  refine n_call0 (a := ((.inr (.inl q) :: as).map (zM X)).toArray) (rest := rest.map (zM X)) ?_ hS (fun H1 locs1 hP1 hS1 => kk H1 locs1 ls hP1 hS1 h)
  refine va_runIN (As := as.map (zM X)) (nfix C) (hM l) ⟨va_cnB k C.w (zgood hw.1) rfl rfl rfl (C.2.2.2.2.2.1.1.2.2.1 _ hl) (C.w _ hw.2.1) hw.2.2 hR, hy, C.w _ hin⟩ ⟨nblind, nRS C.2.2.2.2.2.1 hP hS⟩ rfl (by rw [List.length_map]; exact hn) hsz ?_ ?_ hd hf
  · simp [zM]
  · show 2 * 0 + _ ≤ 8
    omega
theorem n_ret (C : Cn X p s m args meth c cc nL own) {mc ms : Nat} {g' : zG} {τ' n' : Nat} (hr : meth.sig.returnType = none) (hd : decode cc pc = .ok (.return_, 1)) (hg : g = g') (hτ : τ = τ') (hn : n = n') (hc : cells = mc) (hs : slots = ms) : NN X p l e R s m args below meth c nL (MQ below (fun _ st o t => o = .returned none ∧ nH X g' τ' n' t.heap ∧ va_F (zF X) st t) args s mc ms (zF X)) g τ n cells slots pc L [] := by
  subst hg; subst hτ; subst hn; subst hc; subst hs
  intro H locs ls hP hS h
  exact W.vret C.1 C.2.1 hr (fun t ht hW => ⟨rfl, by rw [ht]; exact hP, hS.F ht⟩) hS.2.2 hd C.2.2.2.2.2.2
end NV
/-- a constructor's contract out of a walk -/
theorem NC.of {X : zX} {y : MethodName} {bytes : ByteArray} {maxL d mc ms : Nat} {as : List zV} {g g' : zG} {τ n τ' n' : Nat} {own : String} (hy : plainName y.cls = true) (hown : y.cls = own) (hyn : y.name = "<init>") (has : ∀ v ∈ as, ∀ y, v ≠ .inr (.inr y)) (hlen : as.length ≤ maxL) {L : List (Option zV)} (hL : as.map some ++ List.replicate (maxL - as.length) none = L)
    (body : ∀ p l e s m args below meth c, Cn X p s m args meth c bytes maxL own → meth.name = "<init>" → meth.sig.returnType = none → NN X p l e ({ frames := d, cells := mc, slots := ms, locals := 36 * d }) s m args below meth c maxL (MQ below (fun _ st o t => o = .returned none ∧ nH X g' τ' n' t.heap ∧ va_F (zF X) st t) args s mc ms (zF X)) g τ n 0 0 0 L []) : NC X y bytes maxL d mc ms as g τ n g' τ' n' := by
  subst hL
  subst hown
  intro l
  refine Met.ofW (cc := bytes) (maxL := maxL) (ret := none) hy rfl ?_
  intro p e s m args below meth c s₁ B hml hv
  obtain ⟨rfl, hP, hSt⟩ := hv
  have hts := atoms_spec (ws := zws y bytes maxL none) B.pre
  have hown : s.vm.findClass y.cls = some m.cls := findClass_of_methodNamed B.named
  have hinit : meth.name = "<init>" := by rw [← hyn]; exact (name_of_methodNamed B.named B.method).1
  have hb := body p l e s m (as.map (zM X)).toArray below meth c ⟨B.exec, B.bytes, hml, hown, fun w hw => hts w (List.mem_cons_of_mem _ hw), hSt, B.notSynchronized⟩ hinit B.returns
  have hl := lv_entry (as.map (zM X)) (n := maxL) (by rw [zsl X as has]; exact hlen)
  rw [lg_entry_eq]
  rw [← zE_args X as 0 (maxL - as.length) has] at hl
  exact hb s.heap [] _ hP va_S.rf hl
