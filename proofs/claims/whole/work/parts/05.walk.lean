/-! ===== what holds of a state beside the world, and what a method's body is walked in ===== -/
def zS (X : zX) (U : State) (H : Heap) : Prop :=
  va_K X.1 zcl (zT X) U ∧ (∀ q ∈ znF, va_Nw (.fieldLinkNest q.1 q.2.1 q.2.2.1 q.2.2.2.1 q.2.2.2.2.1 q.2.2.2.2.2) U) ∧ (∀ q ∈ znM, va_Nw (.methodLinkNest q.1 q.2.1 q.2.2.1 q.2.2.2) U) ∧
  (∀ i : Nat, i < 19 → vk_S 1 [zlen.getD i 0] [zbyt.getD i []] (fun _ => X.2.2.2.1 i) (fun _ => X.2.2.2.2.1 i) (zF X) U H) ∧ (∀ q ∈ zst, vk_R q.1 q.2.1 q.2.2.1 (X.2.2.2.1 q.2.2.2) U) ∧
  va_Z "java/lang/String" "COMPACT_STRINGS" "Z" (.int 1) (zF X) U H ∧ va_Zq "jdk/internal/util/Preconditions" "SIOOBE_FORMATTER" "Ljava/util/function/BiFunction;" (zF X) U H
theorem zS_vm {X : zX} {u U : State} {H : Heap} (h : zS X u H) (hv : U.vm = u.vm) : zS X U H := by
  have hA : u.vm.Alike U.vm := by rw [hv]; exact Vm.Alike.refl u.vm
  exact ⟨va_K.moved hA h.1, fun q hq => va_Nw.same rfl hv.symm (h.2.1 q hq), fun q hq => va_Nw.same rfl hv.symm (h.2.2.1 q hq), fun i hi => vk_S.moved hA (h.2.2.2.1 i hi), fun q hq => vk_R.same hv (h.2.2.2.2.1 q hq), va_Z.moved hA h.2.2.2.2.2.1, va_Zq.moved hA h.2.2.2.2.2.2⟩
theorem zS_warm {X : zX} {s U : State} {H H1 : Heap} (h : zS X s H) (hW : s.WarmedH U.vm) (hq : ∀ a : Nat, a < H.size → ¬ zF X a → H1[a]? = H[a]?) : zS X U H1 :=
  ⟨va_K.moved hW.alike h.1, fun q hq => va_Nw.warmF hW (h.2.1 q hq), fun q hq => va_Nw.warmM hW (h.2.2.1 q hq), fun i hi => (vk_S.moved hW.alike (h.2.2.2.1 i hi)).kept hq, fun q hq => vk_R.warm hW (h.2.2.2.2.1 q hq), (va_Z.moved hW.alike h.2.2.2.2.2.1).kept hq, (va_Zq.moved hW.alike h.2.2.2.2.2.2).kept hq⟩
/-- the start of a call: the world g, and what else holds -/
def zR (X : zX) (g : zG) (U : State) : Prop := va_P X.1 zcl (zW X g) U.heap ∧ zS X U U.heap
/-- its end: the answer, the world g' -/
def zQ (X : zX) (v : Option Value) (g' : zG) : Array Value → State → Outcome → State → Prop := fun _ st o t => o = .returned v ∧ va_P X.1 zcl (zW X g') t.heap ∧ va_F (zF X) st t
def zM (X : zX) : zV → Value
  | .inl x => .int x
  | .inr (.inl q) => .ref (zA X q)
  | .inr (.inr y) => .long y
def zrm (d : Nat) : Room := { frames := d, cells := 0, slots := 0, locals := 36 * d }
def zws (y : MethodName) (bytes : ByteArray) (maxL : Nat) (ret : Option FieldType) : List Cond := .code y bytes maxL ret :: zall
/-- a method's contract: from the world g with these arguments it returns this, the world is g' then -/
def MC (X : zX) (y : MethodName) (bytes : ByteArray) (maxL : Nat) (ret : Option FieldType) (d : Nat) (as : List zV) (rv : Option zV) (g g' : zG) : Prop :=
  ∀ l : Launch, Met l y (zws y bytes maxL ret) (zrm d) (va_Pc (as.map (zM X)) (zR X g)) (zQ X (rv.map (zM X)) g') 0 0 (zF X)
/-- the locals' list: ints and objects -/
def zE (X : zX) : Nat → List (Option zV) → List (Nat × Value)
  | _, [] => []
  | k, none :: L => zE X (k + 1) L
  | k, some (.inl x) :: L => (k, .int x) :: zE X (k + 1) L
  | k, some (.inr (.inl q)) :: L => (k, .ref (zA X q)) :: zE X (k + 1) L
  | k, some (.inr (.inr _)) :: L => zE X (k + 1) L
theorem zE_get (X : zX) {L : List (Option zV)} : ∀ (k i : Nat) {v : zV}, L[i]? = some (some v) → (∀ y, v ≠ .inr (.inr y)) → (k + i, zM X v) ∈ zE X k L := by
  induction L with
  | nil => intro k i v h; simp at h
  | cons a L ih =>
    intro k i v h hv
    cases i with
    | zero =>
      rw [List.getElem?_cons_zero] at h
      cases h
      rcases v with x | q | y
      · exact List.mem_cons_self
      · exact List.mem_cons_self
      · exact absurd rfl (hv y)
    | succ i =>
      rw [List.getElem?_cons_succ] at h
      have h1 := ih (k + 1) i h hv
      rw [show k + 1 + i = k + (i + 1) by omega] at h1
      rcases a with _ | x | q | y
      · exact h1
      · exact List.mem_cons_of_mem _ h1
      · exact List.mem_cons_of_mem _ h1
      · exact h1
theorem zE_at {X : zX} {ls : Array Slot} {nL : Nat} {L : List (Option zV)} (h : lv_has ls nL (zE X 0 L)) {i : Nat} {v : zV} (hi : L[i]? = some (some v)) (hv : ∀ y, v ≠ .inr (.inr y)) : ls[i]? = some (.val (zM X v)) := by
  have h1 := zE_get X 0 i hi hv
  rw [Nat.zero_add] at h1
  exact h.2.2 _ h1
theorem zE_mem (X : zX) {L : List (Option zV)} : ∀ (k : Nat) {q : Nat × Value}, q ∈ zE X k L → k ≤ q.1 ∧ q.2.category ≠ 2 ∧ ∃ v, L[q.1 - k]? = some (some v) ∧ (∀ y, v ≠ .inr (.inr y)) ∧ q.2 = zM X v := by
  induction L with
  | nil => intro k q h; cases h
  | cons a L ih =>
    intro k q h
    have up : q ∈ zE X (k + 1) L → k ≤ q.1 ∧ q.2.category ≠ 2 ∧ ∃ v, (a :: L)[q.1 - k]? = some (some v) ∧ (∀ y, v ≠ .inr (.inr y)) ∧ q.2 = zM X v := by
      intro h1
      obtain ⟨e1, e2, v, e3, e4⟩ := ih (k + 1) h1
      refine ⟨by omega, e2, v, ?_, e4⟩
      rw [show q.1 - k = (q.1 - (k + 1)) + 1 by omega, List.getElem?_cons_succ]
      exact e3
    rcases a with _ | x | p | y
    · exact up h
    · rcases List.mem_cons.mp h with h | h
      · subst h
        refine ⟨Nat.le_refl _, by simp [Value.category], .inl x, by simp, (fun y => by simp), rfl⟩
      · exact up h
    · rcases List.mem_cons.mp h with h | h
      · subst h
        refine ⟨Nat.le_refl _, by simp [Value.category], .inr (.inl p), by simp, (fun y => by simp), rfl⟩
      · exact up h
    · exact up h
theorem zE_set {X : zX} {ls : Array Slot} {nL : Nat} {L L' : List (Option zV)} {i : Nat} {v : zV} (h : lv_has ls nL ((i, zM X v) :: (zE X 0 L).filter (fun q => !(q.1 == i) && !(q.1 + 1 == i && q.2.category == 2)))) (hL : L.set i (some v) = L') : lv_has ls nL (zE X 0 L') := by
  subst hL
  refine ⟨h.1, h.2.1, fun q hq => h.2.2 q ?_⟩
  obtain ⟨-, e2, w, e3, e4, e5⟩ := zE_mem X 0 hq
  rw [Nat.sub_zero, List.getElem?_set] at e3
  by_cases hi : i = q.1
  · rw [if_pos hi] at e3
    split at e3
    · cases e3
      rw [show q = (i, zM X v) from Prod.ext hi.symm e5]
      exact List.mem_cons_self
    · cases e3
  · rw [if_neg hi] at e3
    refine List.mem_cons_of_mem _ (List.mem_filter.mpr ⟨?_, ?_⟩)
    · have h1 := zE_get X 0 q.1 e3 e4
      rw [Nat.zero_add, ← e5] at h1
      exact h1
    · have h1 : (q.1 == i) = false := by rw [beq_eq_false_iff_ne]; exact fun z => hi z.symm
      have h2 : (q.2.category == 2) = false := by rw [beq_eq_false_iff_ne]; exact e2
      simp [h1, h2]
/-- a bound name for a value: transparent -/
def zb {α β : Type} (x : α) (k : α → β) : β := k x
/-- behind a call -/
def zc (r : Option (Int32 × zG)) (k : Int32 → zG → Option (Int32 × zG)) : Option (Int32 × zG) := match r with
  | none => none
  | some (v, g) => k v g
section ZV
variable {X : zX} {p : Program} {l : Launch} {e : Env} {R : Room} {s : State} {m : MethodId} {args : Array Value} {below : List Frame} {meth : Method} {c : Code} {cc : ByteArray} {nL : Nat} {own : String} {cells slots : Nat} {Q : State → Prop}
/-- what a body is walked in: the machine, the code, the tables' words -/
def Cx (X : zX) (p : Program) (R : Room) (s : State) (m : MethodId) (args : Array Value) (meth : Method) (c : Code) (cc : ByteArray) (nL : Nat) (own : String) (cells slots : Nat) : Prop :=
  p.tables.exec = Jvm.exec ∧ c.code = cc ∧ c.maxLocals = nL ∧ s.vm.findClass own = some m.cls ∧ (∀ w ∈ zall, w.before args s = true) ∧ zS X s s.heap ∧ meth.locks = false ∧ cells ≤ R.cells ∧ slots ≤ R.slots
/-- the walk: from the world g, at pc, with these locals and this stack -/
def V (X : zX) (p : Program) (l : Launch) (e : Env) (R : Room) (s : State) (m : MethodId) (args : Array Value) (below : List Frame) (meth : Method) (c : Code) (nL : Nat) (cells slots : Nat) (Q : State → Prop) (g : zG) (pc : Nat) (L : List (Option zV)) (st : List zV) : Prop :=
  ∀ (H : Heap) (locs : List Loc) (ls : Array Slot), va_P X.1 zcl (zW X g) H → va_S (zF X) s.heap H locs → lv_has ls nL (zE X 0 L) → W p l e R s m args below meth c H locs cells slots Q (F0 m pc ls (st.map (zM X)))
variable {g : zG} {pc : Nat} {L L' : List (Option zV)} {st : List zV}
theorem v_iconst (C : Cx X p R s m args meth c cc nL own cells slots) {n : Int} (x : Int32) (hd : decode cc pc = .ok (.iconst n, 1)) (hv : Int32.ofInt n = x) (kk : V X p l e R s m args below meth c nL cells slots Q g (pc + 1) L (.inl x :: st)) : V X p l e R s m args below meth c nL cells slots Q g pc L st :=
  fun H locs ls hP hS hl => lv_iconst C.1 C.2.1 hd hv (kk H locs ls hP hS hl)
theorem v_bipush (C : Cx X p R s m args meth c cc nL own cells slots) {n : Int} (x : Int32) (hd : decode cc pc = .ok (.bipush n, 2)) (hv : (Int8.ofInt n).toInt32 = x) (kk : V X p l e R s m args below meth c nL cells slots Q g (pc + 2) L (.inl x :: st)) : V X p l e R s m args below meth c nL cells slots Q g pc L st :=
  fun H locs ls hP hS hl => lv_bipush C.1 C.2.1 hd hv (kk H locs ls hP hS hl)
theorem v_sipush (C : Cx X p R s m args meth c cc nL own cells slots) {n : Int} (x : Int32) (hd : decode cc pc = .ok (.sipush n, 3)) (hv : (Int16.ofInt n).toInt32 = x) (kk : V X p l e R s m args below meth c nL cells slots Q g (pc + 3) L (.inl x :: st)) : V X p l e R s m args below meth c nL cells slots Q g pc L st :=
  fun H locs ls hP hS hl => lv_sipush C.1 C.2.1 hd hv (kk H locs ls hP hS hl)
theorem v_ldc (C : Cx X p R s m args meth c cc nL own cells slots) {n : Nat} (x : Int32) (hd : decode cc pc = .ok (.ldc n, 2)) (hv : Cond.constant own n x ∈ zall) (kk : V X p l e R s m args below meth c nL cells slots Q g (pc + 2) L (.inl x :: st)) : V X p l e R s m args below meth c nL cells slots Q g pc L st :=
  fun H locs ls hP hS hl => lv_ldc C.1 C.2.1 C.2.2.2.1 (C.2.2.2.2.1 _ hv) hd (kk H locs ls hP hS hl)
theorem v_iload_n (C : Cx X p R s m args meth c cc nL own cells slots) {k : Fin 4} (i : Nat) {x : Int32} (hd : decode cc pc = .ok (.iload_n k, 1)) (hi : (k : Nat) = i) (hl : L[i]? = some (some (.inl x))) (kk : V X p l e R s m args below meth c nL cells slots Q g (pc + 1) L (.inl x :: st)) : V X p l e R s m args below meth c nL cells slots Q g pc L st :=
  fun H locs ls hP hS h => lv_iload_n C.1 C.2.1 hd hi (zE_at h hl (fun _ => by simp)) (kk H locs ls hP hS h)
theorem v_iload (C : Cx X p R s m args meth c cc nL own cells slots) (i : Nat) {x : Int32} (hd : decode cc pc = .ok (.iload i, 2)) (hl : L[i]? = some (some (.inl x))) (kk : V X p l e R s m args below meth c nL cells slots Q g (pc + 2) L (.inl x :: st)) : V X p l e R s m args below meth c nL cells slots Q g pc L st :=
  fun H locs ls hP hS h => lv_iload C.1 C.2.1 hd (zE_at h hl (fun _ => by simp)) (kk H locs ls hP hS h)
theorem v_aload_n (C : Cx X p R s m args meth c cc nL own cells slots) {k : Fin 4} (i : Nat) {x : Nat × Nat} (hd : decode cc pc = .ok (.aload_n k, 1)) (hi : (k : Nat) = i) (hl : L[i]? = some (some (.inr (.inl x)))) (kk : V X p l e R s m args below meth c nL cells slots Q g (pc + 1) L (.inr (.inl x) :: st)) : V X p l e R s m args below meth c nL cells slots Q g pc L st :=
  fun H locs ls hP hS h => lv_aload_n C.1 C.2.1 hd hi (zE_at h hl (fun _ => by simp)) (kk H locs ls hP hS h)
theorem v_aload (C : Cx X p R s m args meth c cc nL own cells slots) (i : Nat) {x : Nat × Nat} (hd : decode cc pc = .ok (.aload i, 2)) (hl : L[i]? = some (some (.inr (.inl x)))) (kk : V X p l e R s m args below meth c nL cells slots Q g (pc + 2) L (.inr (.inl x) :: st)) : V X p l e R s m args below meth c nL cells slots Q g pc L st :=
  fun H locs ls hP hS h => lv_aload C.1 C.2.1 hd (zE_at h hl (fun _ => by simp)) (kk H locs ls hP hS h)
theorem v_istore_n (C : Cx X p R s m args meth c cc nL own cells slots) {k : Fin 4} (i : Nat) {x : Int32} (hd : decode cc pc = .ok (.istore_n k, 1)) (hi : (k : Nat) = i) (hn : i < nL) (hL : L.set i (some (.inl x)) = L') (kk : V X p l e R s m args below meth c nL cells slots Q g (pc + 1) L' st) : V X p l e R s m args below meth c nL cells slots Q g pc L (.inl x :: st) :=
  fun H locs ls hP hS h => lv_istore_n C.1 C.2.1 hd hi h hn rfl (fun ls' h' => kk H locs ls' hP hS (zE_set (v := .inl x) h' hL))
theorem v_istore (C : Cx X p R s m args meth c cc nL own cells slots) (i : Nat) {x : Int32} (hd : decode cc pc = .ok (.istore i, 2)) (hn : i < nL) (hL : L.set i (some (.inl x)) = L') (kk : V X p l e R s m args below meth c nL cells slots Q g (pc + 2) L' st) : V X p l e R s m args below meth c nL cells slots Q g pc L (.inl x :: st) :=
  fun H locs ls hP hS h => lv_istore C.1 C.2.1 hd h hn rfl (fun ls' h' => kk H locs ls' hP hS (zE_set (v := .inl x) h' hL))
theorem v_astore_n (C : Cx X p R s m args meth c cc nL own cells slots) {k : Fin 4} (i : Nat) {x : Nat × Nat} (hd : decode cc pc = .ok (.astore_n k, 1)) (hi : (k : Nat) = i) (hn : i < nL) (hL : L.set i (some (.inr (.inl x))) = L') (kk : V X p l e R s m args below meth c nL cells slots Q g (pc + 1) L' st) : V X p l e R s m args below meth c nL cells slots Q g pc L (.inr (.inl x) :: st) :=
  fun H locs ls hP hS h => lv_astore_n C.1 C.2.1 hd hi h hn rfl (fun ls' h' => kk H locs ls' hP hS (zE_set (v := .inr (.inl x)) h' hL))
theorem v_astore (C : Cx X p R s m args meth c cc nL own cells slots) (i : Nat) {x : Nat × Nat} (hd : decode cc pc = .ok (.astore i, 2)) (hn : i < nL) (hL : L.set i (some (.inr (.inl x))) = L') (kk : V X p l e R s m args below meth c nL cells slots Q g (pc + 2) L' st) : V X p l e R s m args below meth c nL cells slots Q g pc L (.inr (.inl x) :: st) :=
  fun H locs ls hP hS h => lv_astore C.1 C.2.1 hd h hn rfl (fun ls' h' => kk H locs ls' hP hS (zE_set (v := .inr (.inl x)) h' hL))
theorem zE_idx {X : zX} {L : List (Option zV)} {i : Nat} {x : Int32} (hl : L[i]? = some (some (.inl x))) : ∃ k : Nat, (zE X 0 L)[k]? = some (i, .int x) := by
  have h := zE_get X 0 i hl (fun _ => by simp)
  rw [Nat.zero_add] at h
  exact List.getElem?_of_mem h
theorem v_iinc (C : Cx X p R s m args meth c cc nL own cells slots) (i : Nat) {n : Int} (k : Int32) {x : Int32} (hd : decode cc pc = .ok (.iinc i n, 3)) (hk : Int32.ofInt n = k) (hn : i < nL) (hl : L[i]? = some (some (.inl x))) (hL : L.set i (some (.inl (x + k))) = L') (kk : V X p l e R s m args below meth c nL cells slots Q g (pc + 3) L' st) : V X p l e R s m args below meth c nL cells slots Q g pc L st := by
  intro H locs ls hP hS h
  obtain ⟨q, hq⟩ := zE_idx (X := X) hl
  exact lv_iinc C.1 C.2.1 hd h hq (by rw [hk]) hn rfl (fun ls' h' => kk H locs ls' hP hS (zE_set (v := .inl (x + k)) h' hL))
theorem v_iadd (C : Cx X p R s m args meth c cc nL own cells slots) {x y : Int32} (hd : decode cc pc = .ok (.iadd, 1)) (kk : V X p l e R s m args below meth c nL cells slots Q g (pc + 1) L (.inl (x + y) :: st)) : V X p l e R s m args below meth c nL cells slots Q g pc L (.inl y :: .inl x :: st) :=
  fun H locs ls hP hS h => lv_iadd C.1 C.2.1 hd (kk H locs ls hP hS h)
theorem v_isub (C : Cx X p R s m args meth c cc nL own cells slots) {x y : Int32} (hd : decode cc pc = .ok (.isub, 1)) (kk : V X p l e R s m args below meth c nL cells slots Q g (pc + 1) L (.inl (x - y) :: st)) : V X p l e R s m args below meth c nL cells slots Q g pc L (.inl y :: .inl x :: st) :=
  fun H locs ls hP hS h => lv_isub C.1 C.2.1 hd (kk H locs ls hP hS h)
theorem v_imul (C : Cx X p R s m args meth c cc nL own cells slots) {x y : Int32} (hd : decode cc pc = .ok (.imul, 1)) (kk : V X p l e R s m args below meth c nL cells slots Q g (pc + 1) L (.inl (x * y) :: st)) : V X p l e R s m args below meth c nL cells slots Q g pc L (.inl y :: .inl x :: st) :=
  fun H locs ls hP hS h => lv_imul C.1 C.2.1 hd (kk H locs ls hP hS h)
theorem v_iand (C : Cx X p R s m args meth c cc nL own cells slots) {x y : Int32} (hd : decode cc pc = .ok (.iand, 1)) (kk : V X p l e R s m args below meth c nL cells slots Q g (pc + 1) L (.inl (x &&& y) :: st)) : V X p l e R s m args below meth c nL cells slots Q g pc L (.inl y :: .inl x :: st) :=
  fun H locs ls hP hS h => lv_iand C.1 C.2.1 hd (kk H locs ls hP hS h)
theorem v_ior (C : Cx X p R s m args meth c cc nL own cells slots) {x y : Int32} (hd : decode cc pc = .ok (.ior, 1)) (kk : V X p l e R s m args below meth c nL cells slots Q g (pc + 1) L (.inl (x ||| y) :: st)) : V X p l e R s m args below meth c nL cells slots Q g pc L (.inl y :: .inl x :: st) :=
  fun H locs ls hP hS h => lv_ior C.1 C.2.1 hd (kk H locs ls hP hS h)
theorem v_ishl (C : Cx X p R s m args meth c cc nL own cells slots) {x y : Int32} (hd : decode cc pc = .ok (.ishl, 1)) (kk : V X p l e R s m args below meth c nL cells slots Q g (pc + 1) L (.inl (x <<< (y &&& 31)) :: st)) : V X p l e R s m args below meth c nL cells slots Q g pc L (.inl y :: .inl x :: st) :=
  fun H locs ls hP hS h => lv_ishl C.1 C.2.1 hd (kk H locs ls hP hS h)
theorem v_ishr (C : Cx X p R s m args meth c cc nL own cells slots) {x y : Int32} (hd : decode cc pc = .ok (.ishr, 1)) (kk : V X p l e R s m args below meth c nL cells slots Q g (pc + 1) L (.inl (x >>> (y &&& 31)) :: st)) : V X p l e R s m args below meth c nL cells slots Q g pc L (.inl y :: .inl x :: st) :=
  fun H locs ls hP hS h => lv_ishr C.1 C.2.1 hd (kk H locs ls hP hS h)
theorem v_ineg (C : Cx X p R s m args meth c cc nL own cells slots) {x : Int32} (hd : decode cc pc = .ok (.ineg, 1)) (kk : V X p l e R s m args below meth c nL cells slots Q g (pc + 1) L (.inl (-x) :: st)) : V X p l e R s m args below meth c nL cells slots Q g pc L (.inl x :: st) :=
  fun H locs ls hP hS h => lv_ineg C.1 C.2.1 hd (kk H locs ls hP hS h)
theorem v_idiv (C : Cx X p R s m args meth c cc nL own cells slots) {x y : Int32} {A : Option (Int32 × zG)} {res : Int32 × zG} (hd : decode cc pc = .ok (.idiv, 1)) (hM : (if y = 0 then none else A) = some res) (kk : A = some res → V X p l e R s m args below meth c nL cells slots Q g (pc + 1) L (.inl (x / y) :: st)) : V X p l e R s m args below meth c nL cells slots Q g pc L (.inl y :: .inl x :: st) := by
  intro H locs ls hP hS h
  by_cases hy : y = 0
  · rw [if_pos hy] at hM; cases hM
  · rw [if_neg hy] at hM
    exact lv_idiv C.1 C.2.1 hd hy (kk hM H locs ls hP hS h)
theorem v_irem (C : Cx X p R s m args meth c cc nL own cells slots) {x y : Int32} {A : Option (Int32 × zG)} {res : Int32 × zG} (hd : decode cc pc = .ok (.irem, 1)) (hM : (if y = 0 then none else A) = some res) (kk : A = some res → V X p l e R s m args below meth c nL cells slots Q g (pc + 1) L (.inl (x - x / y * y) :: st)) : V X p l e R s m args below meth c nL cells slots Q g pc L (.inl y :: .inl x :: st) := by
  intro H locs ls hP hS h
  by_cases hy : y = 0
  · rw [if_pos hy] at hM; cases hM
  · rw [if_neg hy] at hM
    exact lv_irem C.1 C.2.1 hd hy (kk hM H locs ls hP hS h)
theorem zM_cat (X : zX) {v : zV} (hv : ∀ y, v ≠ .inr (.inr y)) : (zM X v).category = 1 := by
  rcases v with x | q | y
  · rfl
  · rfl
  · exact absurd rfl (hv y)
theorem v_dup_i (C : Cx X p R s m args meth c cc nL own cells slots) {x : Int32} (hd : decode cc pc = .ok (.dup, 1)) (kk : V X p l e R s m args below meth c nL cells slots Q g (pc + 1) L (.inl x :: .inl x :: st)) : V X p l e R s m args below meth c nL cells slots Q g pc L (.inl x :: st) :=
  fun H locs ls hP hS h => lv_dup C.1 C.2.1 hd rfl (kk H locs ls hP hS h)
theorem v_dup_a (C : Cx X p R s m args meth c cc nL own cells slots) {x : Nat × Nat} (hd : decode cc pc = .ok (.dup, 1)) (kk : V X p l e R s m args below meth c nL cells slots Q g (pc + 1) L (.inr (.inl x) :: .inr (.inl x) :: st)) : V X p l e R s m args below meth c nL cells slots Q g pc L (.inr (.inl x) :: st) :=
  fun H locs ls hP hS h => lv_dup C.1 C.2.1 hd rfl (kk H locs ls hP hS h)
theorem v_pop (C : Cx X p R s m args meth c cc nL own cells slots) {x : Int32} (hd : decode cc pc = .ok (.pop, 1)) (kk : V X p l e R s m args below meth c nL cells slots Q g (pc + 1) L st) : V X p l e R s m args below meth c nL cells slots Q g pc L (.inl x :: st) :=
  fun H locs ls hP hS h => lv_pop C.1 C.2.1 hd rfl (kk H locs ls hP hS h)
theorem v_dup2 (C : Cx X p R s m args meth c cc nL own cells slots) {x : Int32} {q : Nat × Nat} (hd : decode cc pc = .ok (.dup2, 1)) (kk : V X p l e R s m args below meth c nL cells slots Q g (pc + 1) L (.inl x :: .inr (.inl q) :: .inl x :: .inr (.inl q) :: st)) : V X p l e R s m args below meth c nL cells slots Q g pc L (.inl x :: .inr (.inl q) :: st) :=
  fun H locs ls hP hS h => lv_dup2_11 C.1 C.2.1 hd rfl rfl (kk H locs ls hP hS h)
theorem v_goto (C : Cx X p R s m args meth c cc nL own cells slots) {off : Int} (tgt : Nat) (hd : decode cc pc = .ok (.goto off, 3)) (ht : (pc : Int) + off = (tgt : Int)) (kk : V X p l e R s m args below meth c nL cells slots Q g tgt L st) : V X p l e R s m args below meth c nL cells slots Q g pc L st :=
  fun H locs ls hP hS h => lv_goto C.1 C.2.1 hd ht (kk H locs ls hP hS h)
theorem v_if_eq (C : Cx X p R s m args meth c cc nL own cells slots) {x : Int32} {A B : Option (Int32 × zG)} {res : Int32 × zG} {off : Int} (tgt : Nat) (hd : decode cc pc = .ok (.ifCond .eq off, 3)) (ht : (pc : Int) + off = (tgt : Int)) (hM : (if x = 0 then A else B) = some res) (kt : A = some res → V X p l e R s m args below meth c nL cells slots Q g tgt L st) (kf : B = some res → V X p l e R s m args below meth c nL cells slots Q g (pc + 3) L st) : V X p l e R s m args below meth c nL cells slots Q g pc L (.inl x :: st) := by
  intro H locs ls hP hS h
  exact lv_if_eq C.1 C.2.1 hd ht (fun q => kt (by rw [if_pos q] at hM; exact hM) H locs ls hP hS h) (fun q => kf (by rw [if_neg q] at hM; exact hM) H locs ls hP hS h)
theorem v_if_ne (C : Cx X p R s m args meth c cc nL own cells slots) {x : Int32} {A B : Option (Int32 × zG)} {res : Int32 × zG} {off : Int} (tgt : Nat) (hd : decode cc pc = .ok (.ifCond .ne off, 3)) (ht : (pc : Int) + off = (tgt : Int)) (hM : (if x = 0 then A else B) = some res) (kt : B = some res → V X p l e R s m args below meth c nL cells slots Q g tgt L st) (kf : A = some res → V X p l e R s m args below meth c nL cells slots Q g (pc + 3) L st) : V X p l e R s m args below meth c nL cells slots Q g pc L (.inl x :: st) := by
  intro H locs ls hP hS h
  exact lv_if_ne C.1 C.2.1 hd ht (fun q => kt (by rw [if_neg q] at hM; exact hM) H locs ls hP hS h) (fun q => kf (by rw [if_pos q] at hM; exact hM) H locs ls hP hS h)
theorem v_if_lt (C : Cx X p R s m args meth c cc nL own cells slots) {x : Int32} {A B : Option (Int32 × zG)} {res : Int32 × zG} {off : Int} (tgt : Nat) (hd : decode cc pc = .ok (.ifCond .lt off, 3)) (ht : (pc : Int) + off = (tgt : Int)) (hM : (if x < 0 then A else B) = some res) (kt : A = some res → V X p l e R s m args below meth c nL cells slots Q g tgt L st) (kf : B = some res → V X p l e R s m args below meth c nL cells slots Q g (pc + 3) L st) : V X p l e R s m args below meth c nL cells slots Q g pc L (.inl x :: st) := by
  intro H locs ls hP hS h
  exact lv_if_lt C.1 C.2.1 hd ht (fun q => kt (by rw [if_pos q] at hM; exact hM) H locs ls hP hS h) (fun q => kf (by rw [if_neg q] at hM; exact hM) H locs ls hP hS h)
theorem v_if_ge (C : Cx X p R s m args meth c cc nL own cells slots) {x : Int32} {A B : Option (Int32 × zG)} {res : Int32 × zG} {off : Int} (tgt : Nat) (hd : decode cc pc = .ok (.ifCond .ge off, 3)) (ht : (pc : Int) + off = (tgt : Int)) (hM : (if x < 0 then A else B) = some res) (kt : B = some res → V X p l e R s m args below meth c nL cells slots Q g tgt L st) (kf : A = some res → V X p l e R s m args below meth c nL cells slots Q g (pc + 3) L st) : V X p l e R s m args below meth c nL cells slots Q g pc L (.inl x :: st) := by
  intro H locs ls hP hS h
  exact lv_if_ge C.1 C.2.1 hd ht (fun q => kt (by rw [if_neg (Int32.not_lt.mpr q)] at hM; exact hM) H locs ls hP hS h) (fun q => kf (by rw [if_pos (Int32.not_le.mp q)] at hM; exact hM) H locs ls hP hS h)
theorem v_if_gt (C : Cx X p R s m args meth c cc nL own cells slots) {x : Int32} {A B : Option (Int32 × zG)} {res : Int32 × zG} {off : Int} (tgt : Nat) (hd : decode cc pc = .ok (.ifCond .gt off, 3)) (ht : (pc : Int) + off = (tgt : Int)) (hM : (if 0 < x then A else B) = some res) (kt : A = some res → V X p l e R s m args below meth c nL cells slots Q g tgt L st) (kf : B = some res → V X p l e R s m args below meth c nL cells slots Q g (pc + 3) L st) : V X p l e R s m args below meth c nL cells slots Q g pc L (.inl x :: st) := by
  intro H locs ls hP hS h
  exact lv_if_gt C.1 C.2.1 hd ht (fun q => kt (by rw [if_pos q] at hM; exact hM) H locs ls hP hS h) (fun q => kf (by rw [if_neg q] at hM; exact hM) H locs ls hP hS h)
theorem v_if_le (C : Cx X p R s m args meth c cc nL own cells slots) {x : Int32} {A B : Option (Int32 × zG)} {res : Int32 × zG} {off : Int} (tgt : Nat) (hd : decode cc pc = .ok (.ifCond .le off, 3)) (ht : (pc : Int) + off = (tgt : Int)) (hM : (if 0 < x then A else B) = some res) (kt : B = some res → V X p l e R s m args below meth c nL cells slots Q g tgt L st) (kf : A = some res → V X p l e R s m args below meth c nL cells slots Q g (pc + 3) L st) : V X p l e R s m args below meth c nL cells slots Q g pc L (.inl x :: st) := by
  intro H locs ls hP hS h
  exact lv_if_le C.1 C.2.1 hd ht (fun q => kt (by rw [if_neg (Int32.not_lt.mpr q)] at hM; exact hM) H locs ls hP hS h) (fun q => kf (by rw [if_pos (Int32.not_le.mp q)] at hM; exact hM) H locs ls hP hS h)
theorem v_icmp_eq (C : Cx X p R s m args meth c cc nL own cells slots) {x y : Int32} {A B : Option (Int32 × zG)} {res : Int32 × zG} {off : Int} (tgt : Nat) (hd : decode cc pc = .ok (.if_icmp .eq off, 3)) (ht : (pc : Int) + off = (tgt : Int)) (hM : (if x = y then A else B) = some res) (kt : A = some res → V X p l e R s m args below meth c nL cells slots Q g tgt L st) (kf : B = some res → V X p l e R s m args below meth c nL cells slots Q g (pc + 3) L st) : V X p l e R s m args below meth c nL cells slots Q g pc L (.inl y :: .inl x :: st) := by
  intro H locs ls hP hS h
  exact lv_icmp_eq C.1 C.2.1 hd ht (fun q => kt (by rw [if_pos q] at hM; exact hM) H locs ls hP hS h) (fun q => kf (by rw [if_neg q] at hM; exact hM) H locs ls hP hS h)
theorem v_icmp_ne (C : Cx X p R s m args meth c cc nL own cells slots) {x y : Int32} {A B : Option (Int32 × zG)} {res : Int32 × zG} {off : Int} (tgt : Nat) (hd : decode cc pc = .ok (.if_icmp .ne off, 3)) (ht : (pc : Int) + off = (tgt : Int)) (hM : (if x = y then A else B) = some res) (kt : B = some res → V X p l e R s m args below meth c nL cells slots Q g tgt L st) (kf : A = some res → V X p l e R s m args below meth c nL cells slots Q g (pc + 3) L st) : V X p l e R s m args below meth c nL cells slots Q g pc L (.inl y :: .inl x :: st) := by
  intro H locs ls hP hS h
  exact lv_icmp_ne C.1 C.2.1 hd ht (fun q => kt (by rw [if_neg q] at hM; exact hM) H locs ls hP hS h) (fun q => kf (by rw [if_pos q] at hM; exact hM) H locs ls hP hS h)
theorem v_icmp_lt (C : Cx X p R s m args meth c cc nL own cells slots) {x y : Int32} {A B : Option (Int32 × zG)} {res : Int32 × zG} {off : Int} (tgt : Nat) (hd : decode cc pc = .ok (.if_icmp .lt off, 3)) (ht : (pc : Int) + off = (tgt : Int)) (hM : (if x < y then A else B) = some res) (kt : A = some res → V X p l e R s m args below meth c nL cells slots Q g tgt L st) (kf : B = some res → V X p l e R s m args below meth c nL cells slots Q g (pc + 3) L st) : V X p l e R s m args below meth c nL cells slots Q g pc L (.inl y :: .inl x :: st) := by
  intro H locs ls hP hS h
  exact lv_icmp_lt C.1 C.2.1 hd ht (fun q => kt (by rw [if_pos q] at hM; exact hM) H locs ls hP hS h) (fun q => kf (by rw [if_neg q] at hM; exact hM) H locs ls hP hS h)
theorem v_icmp_ge (C : Cx X p R s m args meth c cc nL own cells slots) {x y : Int32} {A B : Option (Int32 × zG)} {res : Int32 × zG} {off : Int} (tgt : Nat) (hd : decode cc pc = .ok (.if_icmp .ge off, 3)) (ht : (pc : Int) + off = (tgt : Int)) (hM : (if x < y then A else B) = some res) (kt : B = some res → V X p l e R s m args below meth c nL cells slots Q g tgt L st) (kf : A = some res → V X p l e R s m args below meth c nL cells slots Q g (pc + 3) L st) : V X p l e R s m args below meth c nL cells slots Q g pc L (.inl y :: .inl x :: st) := by
  intro H locs ls hP hS h
  exact lv_icmp_ge C.1 C.2.1 hd ht (fun q => kt (by rw [if_neg (Int32.not_lt.mpr q)] at hM; exact hM) H locs ls hP hS h) (fun q => kf (by rw [if_pos (Int32.not_le.mp q)] at hM; exact hM) H locs ls hP hS h)
theorem v_icmp_gt (C : Cx X p R s m args meth c cc nL own cells slots) {x y : Int32} {A B : Option (Int32 × zG)} {res : Int32 × zG} {off : Int} (tgt : Nat) (hd : decode cc pc = .ok (.if_icmp .gt off, 3)) (ht : (pc : Int) + off = (tgt : Int)) (hM : (if y < x then A else B) = some res) (kt : A = some res → V X p l e R s m args below meth c nL cells slots Q g tgt L st) (kf : B = some res → V X p l e R s m args below meth c nL cells slots Q g (pc + 3) L st) : V X p l e R s m args below meth c nL cells slots Q g pc L (.inl y :: .inl x :: st) := by
  intro H locs ls hP hS h
  exact lv_icmp_gt C.1 C.2.1 hd ht (fun q => kt (by rw [if_pos q] at hM; exact hM) H locs ls hP hS h) (fun q => kf (by rw [if_neg q] at hM; exact hM) H locs ls hP hS h)
theorem v_icmp_le (C : Cx X p R s m args meth c cc nL own cells slots) {x y : Int32} {A B : Option (Int32 × zG)} {res : Int32 × zG} {off : Int} (tgt : Nat) (hd : decode cc pc = .ok (.if_icmp .le off, 3)) (ht : (pc : Int) + off = (tgt : Int)) (hM : (if y < x then A else B) = some res) (kt : B = some res → V X p l e R s m args below meth c nL cells slots Q g tgt L st) (kf : A = some res → V X p l e R s m args below meth c nL cells slots Q g (pc + 3) L st) : V X p l e R s m args below meth c nL cells slots Q g pc L (.inl y :: .inl x :: st) := by
  intro H locs ls hP hS h
  exact lv_icmp_le C.1 C.2.1 hd ht (fun q => kt (by rw [if_neg (Int32.not_lt.mpr q)] at hM; exact hM) H locs ls hP hS h) (fun q => kf (by rw [if_pos (Int32.not_le.mp q)] at hM; exact hM) H locs ls hP hS h)

/-- a table of jumps: the case's number is read by 'if' one after the other -/
theorem v_tblIn (C : Cx X p R s m args meth c cc nL own cells slots) {dflt lo hi : Int} {offs : Array Int} {len : Nat} {x : Int32} {off : Int} (tgt : Nat) (k : Int) (hd : decode cc pc = .ok (.tableswitch dflt lo hi offs, len)) (hk : x.toInt = k) (h1 : ¬ k < lo) (h2 : ¬ hi < k) (ho : offs[(k - lo).toNat]? = some off) (ht : (pc : Int) + off = (tgt : Int)) (kk : V X p l e R s m args below meth c nL cells slots Q g tgt L st) : V X p l e R s m args below meth c nL cells slots Q g pc L (.inl x :: st) := by
  subst hk
  exact fun H locs ls hP hS h => lv_tableIn C.1 C.2.1 hd h1 h2 ho ht (kk H locs ls hP hS h)
theorem v_tblOut (C : Cx X p R s m args meth c cc nL own cells slots) {dflt lo hi : Int} {offs : Array Int} {len : Nat} {x : Int32} (tgt : Nat) (hd : decode cc pc = .ok (.tableswitch dflt lo hi offs, len)) (h : x.toInt < lo ∨ hi < x.toInt) (ht : (pc : Int) + dflt = (tgt : Int)) (kk : V X p l e R s m args below meth c nL cells slots Q g tgt L st) : V X p l e R s m args below meth c nL cells slots Q g pc L (.inl x :: st) :=
  fun H locs ls hP hS hl => lv_tableOut C.1 C.2.1 hd h ht (kk H locs ls hP hS hl)
/-! the world's cells -/
def zin (j : Int32) (n : Nat) : Bool := decide (¬ j < 0) && decide (j.toNatClampNeg < n)
def zi (j : Int32) (n : Nat) (A : Option (Int32 × zG)) : Option (Int32 × zG) := if zin j n = true then A else none
theorem zin_vp {j : Int32} {n : Nat} (h : zin j n = true) : vp_in j n := by
  simp only [zin, Bool.and_eq_true, decide_eq_true_eq] at h
  rintro (q | q)
  · exact h.1 q
  · omega
theorem zi_elim {j : Int32} {n : Nat} {A : Option (Int32 × zG)} {res : Int32 × zG} (h : zi j n A = some res) : zin j n = true ∧ A = some res := by
  unfold zi at h
  by_cases q : zin j n = true
  · rw [if_pos q] at h; exact ⟨q, h⟩
  · rw [if_neg q] at h; cases h
theorem zin_lt {j : Int32} {n : Nat} (h : zin j n = true) : j.toNatClampNeg < n := by
  simp only [zin, Bool.and_eq_true, decide_eq_true_eq] at h
  exact h.2
theorem v_get (C : Cx X p R s m args meth c cc nL own cells slots) {t i ci N k index : Nat} {fs : List (Option (Nat → Nat × Nat))} {f : Option (Nat → Nat × Nat)} {Cn : String} {T : u_T} (hX : zmod t = zfl X) (hq : (t, i) ∈ zcds) (hk : zK t = .inl (ci, fs)) (hc : zcl[ci]? = some (Cn, T, N)) (hin : ∀ w ∈ u_ws Cn T N, w ∈ zall) (hkN : k < N) (hf : fs[k]? = some f) (hlink : Cond.fieldLink own index (T k).1 (T k).2.1 (T k).2.2.1 ∈ zall) (hd : decode cc pc = .ok (.getfield index, 3)) {v : zV} (hv : zfv X g t i k f = zM X v)
    (kk : V X p l e R s m args below meth c nL cells slots Q g (pc + 3) L (v :: st)) : V X p l e R s m args below meth c nL cells slots Q g pc L (.inr (.inl (t, i)) :: st) := by
  intro H locs ls hP hS h
  have he := zW_get X g hq
  rw [zC_in X g hX] at he
  simp only [zC0, hk] at he
  refine va_get (tys := zT X) (index := index) (v := zM X v) C.1 C.2.1 (fun w hw => C.2.2.2.2.1 w hw) hin C.2.2.2.1 C.2.2.2.2.2.1.1 hP (zcds.idxOf (t, i)) he hc k hkN (C.2.2.2.2.1 _ hlink) (fun _ h9 => h9) ?_ hd (kk H locs ls hP hS h)
  rw [List.getElem?_mapIdx, hf, Option.map_some, hv]
theorem v_getN (C : Cx X p R s m args meth c cc nL own cells slots) {t i ci N k index : Nat} {host : String} {fs : List (Option (Nat → Nat × Nat))} {f : Option (Nat → Nat × Nat)} {Cn : String} {T : u_T} (hX : zmod t = zfl X) (hq : (t, i) ∈ zcds) (hk : zK t = .inl (ci, fs)) (hc : zcl[ci]? = some (Cn, T, N)) (hin : ∀ w ∈ u_ws Cn T N, w ∈ zall) (hkN : k < N) (hf : fs[k]? = some f) (hlink : (own, index, (T k).1, (T k).2.1, (T k).2.2.1, host) ∈ znF) (hd : decode cc pc = .ok (.getfield index, 3)) {v : zV} (hv : zfv X g t i k f = zM X v)
    (kk : V X p l e R s m args below meth c nL cells slots Q g (pc + 3) L (v :: st)) : V X p l e R s m args below meth c nL cells slots Q g pc L (.inr (.inl (t, i)) :: st) := by
  intro H locs ls hP hS h
  have he := zW_get X g hq
  rw [zC_in X g hX] at he
  simp only [zC0, hk] at he
  refine va_getN (tys := zT X) (index := index) (host := host) (v := zM X v) C.1 C.2.1 (fun w hw => C.2.2.2.2.1 w hw) hin C.2.2.2.1 C.2.2.2.2.2.1.1 hP (zcds.idxOf (t, i)) he hc k hkN (va_Nw.use rfl (C.2.2.2.2.2.1.2.1 _ hlink)) (fun _ h9 => h9) ?_ hd (kk H locs ls hP hS h)
  rw [List.getElem?_mapIdx, hf, Option.map_some, hv]
theorem v_put (C : Cx X p R s m args meth c cc nL own cells slots) {t i ci N k index : Nat} {fs : List (Option (Nat → Nat × Nat))} {Cn : String} {T : u_T} {ty : FieldType} (ty0 : Nat → FieldType) (hty : ∀ k, k < N → parseFieldDescriptor (T k).2.2.1 = some (ty0 k)) (hnm : ∀ a, a < N → ∀ b, b < N → a ≠ b → (T a).2.1 ≠ (T b).2.1) (hX : zmod t = zfl X) (hq : (t, i) ∈ zcds) (hk : zK t = .inl (ci, fs)) (hc : zcl[ci]? = some (Cn, T, N)) (hin : ∀ w ∈ u_ws Cn T N, w ∈ zall) (hkN : k < N) (hf : fs[k]? = some none) (hlink : Cond.fieldLink own index (T k).1 (T k).2.1 (T k).2.2.1 ∈ zall) (hfin : (T k).2.2.2 = false) (hty1 : ty0 k = ty) {x : Int32} (hn : narrow ty (.int x) = .int x) (hfit : fits ty (.int x) = true) (hd : decode cc pc = .ok (.putfield index, 3))
    (kk : V X p l e R s m args below meth c nL cells slots Q (zU g (1000 * (k + 1) + t) i 0 x) (pc + 3) L st) : V X p l e R s m args below meth c nL cells slots Q g pc L (.inl x :: .inr (.inl (t, i)) :: st) := by
  intro H locs ls hP hS h
  have he := zW_get X g hq
  rw [zC_in X g hX] at he
  simp only [zC0, hk] at he
  subst hty1
  refine va_put (tys := zT X) (index := index) (v := .int x) C.1 C.2.1 (fun w hw => C.2.2.2.2.1 w hw) hin ty0 hty hnm C.2.2.2.1 C.2.2.2.2.2.1.1 hP (zW_D X g) hS (zcds.idxOf (t, i)) he hc k hkN (C.2.2.2.2.1 _ hlink) (fun _ h9 => h9) hfin (hty k hkN) hn hfit ?_ hd (fun H1 locs1 hP1 _ hS1 => kk H1 locs1 ls ?_ hS1 h)
  · rw [List.length_mapIdx]; exact (List.getElem?_eq_some_iff.mp hf).1
  · rw [← zW_setO X hX hq hk hf x]; exact hP1
theorem v_putN (C : Cx X p R s m args meth c cc nL own cells slots) {t i ci N k index : Nat} {host : String} {fs : List (Option (Nat → Nat × Nat))} {Cn : String} {T : u_T} {ty : FieldType} (ty0 : Nat → FieldType) (hty : ∀ k, k < N → parseFieldDescriptor (T k).2.2.1 = some (ty0 k)) (hnm : ∀ a, a < N → ∀ b, b < N → a ≠ b → (T a).2.1 ≠ (T b).2.1) (hX : zmod t = zfl X) (hq : (t, i) ∈ zcds) (hk : zK t = .inl (ci, fs)) (hc : zcl[ci]? = some (Cn, T, N)) (hin : ∀ w ∈ u_ws Cn T N, w ∈ zall) (hkN : k < N) (hf : fs[k]? = some none) (hlink : (own, index, (T k).1, (T k).2.1, (T k).2.2.1, host) ∈ znF) (hfin : (T k).2.2.2 = false) (hty1 : ty0 k = ty) {x : Int32} (hn : narrow ty (.int x) = .int x) (hfit : fits ty (.int x) = true) (hd : decode cc pc = .ok (.putfield index, 3))
    (kk : V X p l e R s m args below meth c nL cells slots Q (zU g (1000 * (k + 1) + t) i 0 x) (pc + 3) L st) : V X p l e R s m args below meth c nL cells slots Q g pc L (.inl x :: .inr (.inl (t, i)) :: st) := by
  intro H locs ls hP hS h
  have he := zW_get X g hq
  rw [zC_in X g hX] at he
  simp only [zC0, hk] at he
  subst hty1
  refine va_putN (tys := zT X) (index := index) (host := host) (v := .int x) C.1 C.2.1 (fun w hw => C.2.2.2.2.1 w hw) hin ty0 hty hnm C.2.2.2.1 C.2.2.2.2.2.1.1 hP (zW_D X g) hS (zcds.idxOf (t, i)) he hc k hkN (va_Nw.use rfl (C.2.2.2.2.2.1.2.1 _ hlink)) (fun _ h9 => h9) hfin (hty k hkN) hn hfit ?_ hd (fun H1 locs1 hP1 _ hS1 => kk H1 locs1 ls ?_ hS1 h)
  · rw [List.length_mapIdx]; exact (List.getElem?_eq_some_iff.mp hf).1
  · rw [← zW_setO X hX hq hk hf x]; exact hP1
theorem v_iald (C : Cx X p R s m args meth c cc nL own cells slots) {t i n : Nat} {j : Int32} (hX : zmod t = zfl X) (hq : (t, i) ∈ zcds) (hk : zK t = .inr (.inl (0, n))) (hj : zin j n = true) (hd : decode cc pc = .ok (.iaload, 1)) (kk : V X p l e R s m args below meth c nL cells slots Q g (pc + 1) L (.inl (g t i j.toNatClampNeg) :: st)) : V X p l e R s m args below meth c nL cells slots Q g pc L (.inl j :: .inr (.inl (t, i)) :: st) := by
  intro H locs ls hP hS h
  have he := zW_get X g hq
  rw [zC_in X g hX] at he
  simp only [zC0, hk] at he
  rw [if_neg (by decide)] at he
  exact va_iald (tys := zT X) C.1 C.2.1 C.2.2.2.2.2.1.1 hP (zcds.idxOf (t, i)) 0 he rfl (zin_vp hj) hd (kk H locs ls hP hS h)
theorem v_zald (C : Cx X p R s m args meth c cc nL own cells slots) {t i n : Nat} {j : Int32} (hX : zmod t = zfl X) (hq : (t, i) ∈ zcds) (hk : zK t = .inr (.inl (1, n))) (hj : zin j n = true) (hd : decode cc pc = .ok (.baload, 1)) (kk : V X p l e R s m args below meth c nL cells slots Q g (pc + 1) L (.inl (g t i j.toNatClampNeg) :: st)) : V X p l e R s m args below meth c nL cells slots Q g pc L (.inl j :: .inr (.inl (t, i)) :: st) := by
  intro H locs ls hP hS h
  have he := zW_get X g hq
  rw [zC_in X g hX] at he
  simp only [zC0, hk] at he
  rw [if_neg (by decide)] at he
  exact va_zald (tys := zT X) C.1 C.2.1 C.2.2.2.2.2.1.1 hP (zcds.idxOf (t, i)) 1 he rfl (zin_vp hj) hd (kk H locs ls hP hS h)
theorem v_aald (C : Cx X p R s m args meth c cc nL own cells slots) {t i n : Nat} {nm : String} {r : Nat → Nat → Nat × Nat} (k : Nat) {j : Int32} (hX : zmod t = zfl X) (hq : (t, i) ∈ zcds) (hk : zK t = .inr (.inr (k, n, r))) (ht : (zT X)[k]? = some (X.2.1 k, .object nm)) (hj : zin j n = true) (hd : decode cc pc = .ok (.aaload, 1)) (kk : V X p l e R s m args below meth c nL cells slots Q g (pc + 1) L (.inr (.inl (r i j.toNatClampNeg)) :: st)) : V X p l e R s m args below meth c nL cells slots Q g pc L (.inl j :: .inr (.inl (t, i)) :: st) := by
  intro H locs ls hP hS h
  have he := zW_get X g hq
  rw [zC_in X g hX] at he
  simp only [zC0, hk] at he
  exact va_aldq (tys := zT X) C.1 C.2.1 C.2.2.2.2.2.1.1 hP (zcds.idxOf (t, i)) k he ht (zin_vp hj) hd (kk H locs ls hP hS h)
theorem v_iast (C : Cx X p R s m args meth c cc nL own cells slots) {t i n : Nat} {j x : Int32} (hX : zmod t = zfl X) (hq : (t, i) ∈ zcds) (hk : zK t = .inr (.inl (0, n))) (hj : zin j n = true) (hd : decode cc pc = .ok (.iastore, 1)) (kk : V X p l e R s m args below meth c nL cells slots Q (zU g t i j.toNatClampNeg x) (pc + 1) L st) : V X p l e R s m args below meth c nL cells slots Q g pc L (.inl x :: .inl j :: .inr (.inl (t, i)) :: st) := by
  intro H locs ls hP hS h
  have he := zW_get X g hq
  rw [zC_in X g hX] at he
  simp only [zC0, hk] at he
  rw [if_neg (by decide)] at he
  refine va_iast (tys := zT X) C.1 C.2.1 C.2.2.2.2.2.1.1 hP (zW_D X g) hS (zcds.idxOf (t, i)) 0 he rfl (zin_vp hj) hd (fun H1 locs1 hP1 _ hS1 => kk H1 locs1 ls ?_ hS1 h)
  rw [← zUA_upd, ← zW_setA X hX hq hk (by decide)]
  exact hP1
theorem v_zast (C : Cx X p R s m args meth c cc nL own cells slots) {t i n : Nat} {j x y : Int32} (hX : zmod t = zfl X) (hq : (t, i) ∈ zcds) (hk : zK t = .inr (.inl (1, n))) (hj : zin j n = true) (hy : vp_nar .boolean x = y) (hd : decode cc pc = .ok (.bastore, 1)) (kk : V X p l e R s m args below meth c nL cells slots Q (zU g t i j.toNatClampNeg y) (pc + 1) L st) : V X p l e R s m args below meth c nL cells slots Q g pc L (.inl x :: .inl j :: .inr (.inl (t, i)) :: st) := by
  intro H locs ls hP hS h
  have he := zW_get X g hq
  rw [zC_in X g hX] at he
  simp only [zC0, hk] at he
  rw [if_neg (by decide)] at he
  refine va_zast (tys := zT X) C.1 C.2.1 C.2.2.2.2.2.1.1 hP (zW_D X g) hS (zcds.idxOf (t, i)) 1 he rfl (zin_vp hj) hd (fun H1 locs1 hP1 _ hS1 => kk H1 locs1 ls ?_ hS1 h)
  subst hy
  rw [← zUA_upd, ← zW_setA X hX hq hk (by decide)]
  exact hP1
theorem v_alen (C : Cx X p R s m args meth c cc nL own cells slots) {t i j n : Nat} (hX : zmod t = zfl X) (hq : (t, i) ∈ zcds) (hk : zK t = .inr (.inl (j, n))) (hj : j < 4) (hd : decode cc pc = .ok (.arraylength, 1)) (x : Int32) (hx : Int32.ofNat n = x) (kk : V X p l e R s m args below meth c nL cells slots Q g (pc + 1) L (.inl x :: st)) : V X p l e R s m args below meth c nL cells slots Q g pc L (.inr (.inl (t, i)) :: st) := by
  intro H locs ls hP hS h
  have he := zW_get X g hq
  rw [zC_in X g hX] at he
  simp only [zC0, hk] at he
  rw [if_neg (by omega)] at he
  have ht : ∃ ty, (zT X)[j]? = some (X.2.1 j, ty) := by
    match j, hj with
    | 0, _ => exact ⟨_, rfl⟩
    | 1, _ => exact ⟨_, rfl⟩
    | 2, _ => exact ⟨_, rfl⟩
    | 3, _ => exact ⟨_, rfl⟩
  obtain ⟨ty, ht⟩ := ht
  exact va_alen (tys := zT X) C.1 C.2.1 C.2.2.2.2.2.1.1 hP (zcds.idxOf (t, i)) j he ht hx hd (kk H locs ls hP hS h)
/-- a whole copy of one array onto the other, from 0 -/
def zcp (g : zG) (t i t' i' n : Nat) : zG := zUA g t i (fun k => if k < n then g t' i' k else g t i k)
end ZV
