section ZV2
variable {X : zX} {p : Program} {l : Launch} {e : Env} {R : Room} {s : State} {m : MethodId} {args : Array Value} {below : List Frame} {meth : Method} {c : Code} {cc : ByteArray} {nL : Nat} {own : String} {cells slots : Nat} {Q : State → Prop}
variable {g : zG} {pc : Nat} {L L' : List (Option zV)} {st : List zV}
theorem zgood {y : MethodName} {b : ByteArray} {n : Nat} {r : Option FieldType} (h : Cond.code y b n r ∈ zall) : GoodIn zall (zws y b n r) := by
  intro w hw
  rcases List.mem_cons.mp hw with rfl | hw
  · exact ⟨h, good_of_word (List.mem_filter.mp h).2⟩
  · exact ⟨hw, good_of_word (List.mem_filter.mp hw).2⟩
theorem zRS {X : zX} {g : zG} {H : Heap} {locs : List Loc} {av : List Value} (hSt : zS X s s.heap) (hP : va_P X.1 zcl (zW X g) H) (hS : va_S (zF X) s.heap H locs) : ∀ U : State, U.heap = H → s.WarmedH U.vm → va_Pc av (zR X g) av.toArray U :=
  fun U hU hW => ⟨rfl, by rw [hU]; exact hP, by rw [hU]; exact zS_warm hSt hW (fun a h1 h2 => hS.2.1 a h1 h2)⟩
theorem zblind {X : zX} {g : zG} {av : List Value} : FrameBlind (va_Pc av (zR X g)) :=
  fun a U gg mk h => ⟨h.1, h.2.1, zS_vm (u := U) (U := U.calling gg mk a) h.2.2 rfl⟩
theorem z_call {g' : zG} {v : Option Value} {ls : Array Slot} {st0 rest : List Value} {a : Array Value} {H : Heap} {locs : List Loc} (hr : va_Run p l e R s m args below meth c H locs cells slots 0 0 (F0 m pc ls st0) rest (zQ X v g' a) (zF X)) (hS : va_S (zF X) s.heap H locs)
    (kk : ∀ (H1 : Heap) (locs1 : List Loc), va_P X.1 zcl (zW X g') H1 → va_S (zF X) s.heap H1 locs1 → W p l e R s m args below meth c H1 locs1 cells slots Q (F0 m (pc + 3) ls (v.toList ++ rest))) : W p l e R s m args below meth c H locs cells slots Q (F0 m pc ls st0) := by
  intro T hT Y
  obtain ⟨v', st₀, t, T', L, h0, X', hL, e1, e2, ⟨hv, hP1, hz, hk⟩, stp⟩ := hr T hT Y
  cases hv
  rw [h0] at hz hk
  obtain ⟨t2, a1, b1⟩ := kk T'.heap (locs ++ L) (by rw [e1]; exact hP1)
    ⟨Nat.le_trans hS.1 (by rw [e1]; exact hz), fun q h1 h2 => by rw [e1, hk q (Nat.lt_of_lt_of_le h1 hS.1) h2]; exact hS.2.1 q h1 h2, fun q hq => by
      rcases List.mem_append.mp hq with h | h
      · exact hS.2.2 q h
      · exact hL q h⟩ T' rfl X'
  exact ⟨t2, stp t2 a1, b1⟩
theorem zfix (C : Cx X p R s m args meth c cc nL own cells slots) : CallFix p m c cc nL s args zall own := ⟨C.1, C.2.1, C.2.2.1, C.2.2.2.1, C.2.2.2.2.1⟩
theorem zcat (X : zX) : ∀ (st : List zV), ((st.map (zM X)).map fun v => v.category).sum ≤ 2 * st.length := by
  intro st
  induction st with
  | nil => simp
  | cons a st ih =>
    simp only [List.map_cons, List.sum_cons, List.length_cons]
    have : (zM X a).category ≤ 2 := by rcases a with x | q | y <;> simp [zM, Value.category]
    omega
theorem v_callV (C : Cx X p R s m args meth c cc nL own cells slots) {y : MethodName} {bytes : ByteArray} {maxL n d index : Nat} {ret : Option FieldType} {t i ci N : Nat} {fs : List (Option (Nat → Nat × Nat))} {T : u_T} {as rest : List zV} {rv : Option zV} {g' : zG} (hM : MC X y bytes maxL ret d (.inr (.inl (t, i)) :: as) rv g g') (hw : zMW y bytes maxL ret n) (hi : zMI y) (hl : Cond.methodLink own index y ∈ zall) (hX : zmod t = zfl X) (hq : (t, i) ∈ zcds) (hk : zK t = .inl (ci, fs)) (hc : zcl[ci]? = some (y.cls, T, N)) (hR : d + 1 ≤ R.frames ∧ 8 + (maxL + 11) + 36 * d ≤ R.locals) (hn : as.length = n) (hrest : rest.length ≤ 4) (hd : decode cc pc = .ok (.invokevirtual index, 3)) (hst : st = as.reverse ++ .inr (.inl (t, i)) :: rest) (kk : V X p l e R s m args below meth c nL cells slots Q g' (pc + 3) L (rv.toList ++ rest)) : V X p l e R s m args below meth c nL cells slots Q g pc L st := by
  subst hst
  intro H locs ls hP hS h
  have hsz : ls.size = nL := h.1
  have he := zW_get X g hq
  rw [zC_in X g hX] at he
  simp only [zC0, hk] at he
  have hrec := va_recv (tys := zT X) C.2.2.2.2.2.1.1 hP hc he
  have hcr := zcat X rest
  have hmap : (rv.toList ++ rest).map (zM X) = (rv.map (zM X)).toList ++ rest.map (zM X) := by cases rv <;> rfl
  refine z_call (v := rv.map (zM X)) (g' := g') (rest := rest.map (zM X)) (a := ((.inr (.inl (t, i)) :: as).map (zM X)).toArray) ?_ hS (fun H1 locs1 hP1 hS1 => by have k9 := kk H1 locs1 ls hP1 hS1 h; rw [hmap] at k9; exact k9)
  refine va_runV (As := as.map (zM X)) (zfix C) (hM l) (⟨callB_of n C.2.2.2.2.1 (zgood hw.1) rfl rfl rfl (C.2.2.2.2.1 _ hw.2.1) (C.2.2.2.2.1 _ hl) hw.2.2 hR, C.2.2.2.2.1 _ hi.1, C.2.2.2.2.1 _ hi.2⟩) ⟨zblind, hrec, zRS C.2.2.2.2.2.1 hP hS⟩ rfl (by rw [List.length_map]; exact hn) hsz ?_ ?_ hd ⟨C.2.2.2.2.2.2.2.1, C.2.2.2.2.2.2.2.2⟩
  · simp [zM]
  · show 2 * 0 + _ ≤ 8
    omega
theorem v_callVN (C : Cx X p R s m args meth c cc nL own cells slots) {y : MethodName} {bytes : ByteArray} {maxL n d index : Nat} {ret : Option FieldType} {host : String} {t i ci N : Nat} {fs : List (Option (Nat → Nat × Nat))} {T : u_T} {as rest : List zV} {rv : Option zV} {g' : zG} (hM : MC X y bytes maxL ret d (.inr (.inl (t, i)) :: as) rv g g') (hw : zMW y bytes maxL ret n) (hi : zMI y) (hl : (own, index, y, host) ∈ znM) (hX : zmod t = zfl X) (hq : (t, i) ∈ zcds) (hk : zK t = .inl (ci, fs)) (hc : zcl[ci]? = some (y.cls, T, N)) (hR : d + 1 ≤ R.frames ∧ 8 + (maxL + 11) + 36 * d ≤ R.locals) (hn : as.length = n) (hrest : rest.length ≤ 4) (hd : decode cc pc = .ok (.invokevirtual index, 3)) (hst : st = as.reverse ++ .inr (.inl (t, i)) :: rest) (kk : V X p l e R s m args below meth c nL cells slots Q g' (pc + 3) L (rv.toList ++ rest)) : V X p l e R s m args below meth c nL cells slots Q g pc L st := by
  subst hst
  intro H locs ls hP hS h
  have hsz : ls.size = nL := h.1
  have he := zW_get X g hq
  rw [zC_in X g hX] at he
  simp only [zC0, hk] at he
  have hrec := va_recv (tys := zT X) C.2.2.2.2.2.1.1 hP hc he
  have hcr := zcat X rest
  have hmap : (rv.toList ++ rest).map (zM X) = (rv.map (zM X)).toList ++ rest.map (zM X) := by cases rv <;> rfl
  refine z_call (v := rv.map (zM X)) (g' := g') (rest := rest.map (zM X)) (a := ((.inr (.inl (t, i)) :: as).map (zM X)).toArray) ?_ hS (fun H1 locs1 hP1 hS1 => by have k9 := kk H1 locs1 ls hP1 hS1 h; rw [hmap] at k9; exact k9)
  refine va_runVN (As := as.map (zM X)) (zfix C) (hM l) (⟨va_cnB n C.2.2.2.2.1 (zgood hw.1) rfl rfl rfl (C.2.2.2.2.2.1.2.2.1 _ hl) (C.2.2.2.2.1 _ hw.2.1) hw.2.2 hR, C.2.2.2.2.1 _ hi.1, C.2.2.2.2.1 _ hi.2⟩) ⟨zblind, hrec, zRS C.2.2.2.2.2.1 hP hS⟩ rfl (by rw [List.length_map]; exact hn) hsz ?_ ?_ hd ⟨C.2.2.2.2.2.2.2.1, C.2.2.2.2.2.2.2.2⟩
  · simp [zM]
  · show 2 * 0 + _ ≤ 8
    omega
theorem v_callS (C : Cx X p R s m args meth c cc nL own cells slots) {y : MethodName} {bytes : ByteArray} {maxL n d index : Nat} {ret : Option FieldType} {as rest : List zV} {rv : Option zV} {g' : zG} (hM : MC X y bytes maxL ret d (as) rv g g') (hw : zMW y bytes maxL ret n) (hi : Cond.static y ∈ zall) (hl : Cond.methodLink own index y ∈ zall) (hR : d + 1 ≤ R.frames ∧ 8 + (maxL + 11) + 36 * d ≤ R.locals) (hn : as.length = n) (hrest : rest.length ≤ 4) (hd : decode cc pc = .ok (.invokestatic index, 3)) (hst : st = as.reverse ++ rest) (kk : V X p l e R s m args below meth c nL cells slots Q g' (pc + 3) L (rv.toList ++ rest)) : V X p l e R s m args below meth c nL cells slots Q g pc L st := by
  subst hst
  intro H locs ls hP hS h
  have hsz : ls.size = nL := h.1
  have hcr := zcat X rest
  have hmap : (rv.toList ++ rest).map (zM X) = (rv.map (zM X)).toList ++ rest.map (zM X) := by cases rv <;> rfl
  refine z_call (v := rv.map (zM X)) (g' := g') (rest := rest.map (zM X)) (a := ((as).map (zM X)).toArray) ?_ hS (fun H1 locs1 hP1 hS1 => by have k9 := kk H1 locs1 ls hP1 hS1 h; rw [hmap] at k9; exact k9)
  refine va_runS (As := as.map (zM X)) (zfix C) (hM l) (⟨callB_of n C.2.2.2.2.1 (zgood hw.1) rfl rfl rfl (C.2.2.2.2.1 _ hw.2.1) (C.2.2.2.2.1 _ hl) hw.2.2 hR, C.2.2.2.2.1 _ hi⟩) ⟨zblind, zRS C.2.2.2.2.2.1 hP hS⟩ rfl (by rw [List.length_map]; exact hn) hsz ?_ ?_ hd ⟨C.2.2.2.2.2.2.2.1, C.2.2.2.2.2.2.2.2⟩
  · simp [zM]
  · show 2 * 0 + _ ≤ 8
    omega
theorem v_copy (C : Cx X p R s m args meth c cc nL own cells slots) {t i t' i' n n1 n2 index : Nat} (hX : zmod t = zfl X) (hX' : zmod t' = zfl X) (hq : (t, i) ∈ zcds) (hk : zK t = .inr (.inl (0, n1))) (hq' : (t', i') ∈ zcds) (hk' : zK t' = .inr (.inl (0, n2))) {x : Int32} (hx : x.toNatClampNeg = n) (hx0 : ¬ x < 0) (h1 : n ≤ n1) (h2 : n ≤ n2)
    (hl : Cond.methodLink own index arraycopyName ∈ zall) (hnat : Cond.native arraycopyName ∈ zall) (hstt : Cond.static arraycopyName ∈ zall) (hini : Cond.initialized "java/lang/System" ∈ zall) (hR : 1 ≤ R.frames ∧ 2 * st.length + (nativeFrameWords "java/lang/System" "arraycopy" 5 + 11) ≤ R.locals) (hd : decode cc pc = .ok (.invokestatic index, 3))
    (kk : V X p l e R s m args below meth c nL cells slots Q (zcp g t i t' i' n) (pc + 3) L st) : V X p l e R s m args below meth c nL cells slots Q g pc L (.inl x :: .inl 0 :: .inr (.inl (t, i)) :: .inl 0 :: .inr (.inl (t', i')) :: st) := by
  intro H locs ls hP hS h
  have he := zW_get X g hq
  rw [zC_in X g hX] at he
  simp only [zC0, hk] at he
  rw [if_neg (by decide)] at he
  have he' := zW_get X g hq'
  rw [zC_in X g hX'] at he'
  simp only [zC0, hk'] at he'
  rw [if_neg (by decide)] at he'
  have hcr := zcat X st
  subst hx
  refine va_copyi (tys := zT X) (ty := .int) C.1 C.2.1 (C.2.2.1.trans h.1.symm) C.2.2.2.1 (C.2.2.2.2.1 _ hl) (C.2.2.2.2.1 _ hnat) (C.2.2.2.2.1 _ hstt) (C.2.2.2.2.1 _ hini) C.2.2.2.2.2.1.1 hP (zW_D X g) hS (zcds.idxOf (t', i')) (zcds.idxOf (t, i)) 0 0 he' he rfl rfl rfl (by decide) (by decide) hx0 ?_ ?_ (fun _ _ => rfl) hR.1 (by omega) hd (fun H1 locs1 hP1 _ hS1 => kk H1 locs1 ls ?_ hS1 h)
  · show (0 : Int32).toNatClampNeg + _ ≤ _; rw [show (0 : Int32).toNatClampNeg = 0 from rfl]; omega
  · show (0 : Int32).toNatClampNeg + _ ≤ _; rw [show (0 : Int32).toNatClampNeg = 0 from rfl]; omega
  · rw [zW_setA X hX hq hk (by decide)] at hP1
    have : (va_cpy (g t' i') (g t i) (0 : Int32).toNatClampNeg (0 : Int32).toNatClampNeg x.toNatClampNeg) = fun k => if k < x.toNatClampNeg then g t' i' k else g t i k := by
      funext k
      simp [va_cpy, show (0 : Int32).toNatClampNeg = 0 from rfl]
    rw [this] at hP1
    exact hP1
/-! ends -/
theorem v_iret (C : Cx X p R s m args meth c cc nL own cells slots) {x : Int32} {res : Int32 × zG} (hr : meth.sig.returnType = some .int) (hd : decode cc pc = .ok (.ireturn, 1)) (hM : some (x, g) = some res) : V X p l e R s m args below meth c nL 0 0 (MQ below (zQ X (Option.map (zM X) (some (.inl res.1))) res.2) args s 0 0 (zF X)) g pc L [.inl x] := by
  cases hM
  intro H locs ls hP hS h
  exact W.iret C.1 C.2.1 hr (fun t ht hW => ⟨rfl, by rw [ht]; exact hP, hS.F ht⟩) hS.2.2 hd C.2.2.2.2.2.2.1
theorem v_zret (C : Cx X p R s m args meth c cc nL own cells slots) {x : Int32} {res : Int32 × zG} {ty : FieldType} (hr : meth.sig.returnType = some ty) (hn : narrow ty (.int x) = .int x) (hd : decode cc pc = .ok (.ireturn, 1)) (hM : some (x, g) = some res) : V X p l e R s m args below meth c nL 0 0 (MQ below (zQ X (Option.map (zM X) (some (.inl res.1))) res.2) args s 0 0 (zF X)) g pc L [.inl x] := by
  cases hM
  intro H locs ls hP hS h
  exact W.zret C.1 C.2.1 hr hn (fun t ht hW => ⟨rfl, by rw [ht]; exact hP, hS.F ht⟩) hS.2.2 hd C.2.2.2.2.2.2.1
theorem v_vret (C : Cx X p R s m args meth c cc nL own cells slots) {x : Int32} {res : Int32 × zG} (hr : meth.sig.returnType = none) (hd : decode cc pc = .ok (.return_, 1)) (hM : some (x, g) = some res) : V X p l e R s m args below meth c nL 0 0 (MQ below (zQ X (Option.map (zM X) none) res.2) args s 0 0 (zF X)) g pc L [] := by
  cases hM
  intro H locs ls hP hS h
  exact W.vret C.1 C.2.1 hr (fun t ht hW => ⟨rfl, by rw [ht]; exact hP, hS.F ht⟩) hS.2.2 hd C.2.2.2.2.2.2.1
end ZV2
theorem zE_args (X : zX) : ∀ (as : List zV) (k n : Nat), (∀ v ∈ as, ∀ y, v ≠ .inr (.inr y)) → zE X k (as.map some ++ List.replicate n none) = lv_args k (as.map (zM X)) := by
  intro as
  induction as with
  | nil =>
    intro k n _
    show zE X k (List.replicate n none) = []
    induction n generalizing k with
    | zero => rfl
    | succ n ih => rw [List.replicate_succ]; exact ih (k + 1)
  | cons a as ih =>
    intro k n h
    have h1 := ih (k + 1) n (fun v hv => h v (List.mem_cons_of_mem _ hv))
    rcases a with x | q | y
    · exact congrArg (List.cons (k, Value.int x)) h1
    · exact congrArg (List.cons (k, Value.ref (zA X q))) h1
    · exact absurd rfl (h _ List.mem_cons_self y)
theorem zsl (X : zX) : ∀ (as : List zV), (∀ v ∈ as, ∀ y, v ≠ .inr (.inr y)) → (lg_sl (as.map (zM X))).length = as.length := by
  intro as
  induction as with
  | nil => intro _; rfl
  | cons a as ih =>
    intro h
    have h1 := ih (fun v hv => h v (List.mem_cons_of_mem _ hv))
    rcases a with x | q | y
    · simp [lg_sl, zM, Value.category] at h1 ⊢; exact h1
    · simp [lg_sl, zM, Value.category] at h1 ⊢; exact h1
    · exact absurd rfl (h _ List.mem_cons_self y)
/-- a contract out of a walk -/
theorem MC.of {X : zX} {y : MethodName} {bytes : ByteArray} {maxL : Nat} {ret : Option FieldType} {d : Nat} {as : List zV} {rv : Option zV} {g g' : zG} {own : String} (hy : plainName y.cls = true) (hown : y.cls = own) (has : ∀ v ∈ as, ∀ y, v ≠ .inr (.inr y)) (hlen : as.length ≤ maxL) {L : List (Option zV)} (hL : as.map some ++ List.replicate (maxL - as.length) none = L)
    (body : ∀ p l e s m args below meth c, Cx X p (zrm d) s m args meth c bytes maxL own 0 0 → meth.sig.returnType = ret → V X p l e (zrm d) s m args below meth c maxL 0 0 (MQ below (zQ X (rv.map (zM X)) g') args s 0 0 (zF X)) g 0 L []) : MC X y bytes maxL ret d as rv g g' := by
  subst hL
  subst hown
  intro l
  refine Met.ofW (cc := bytes) (maxL := maxL) (ret := ret) hy rfl ?_
  intro p e s m args below meth c s₁ B hml hv
  obtain ⟨rfl, hP, hSt⟩ := hv
  have hts := atoms_spec (ws := zws y bytes maxL ret) B.pre
  have hown : s.vm.findClass y.cls = some m.cls := findClass_of_methodNamed B.named
  have hb := body p l e s m (as.map (zM X)).toArray below meth c ⟨B.exec, B.bytes, hml, hown, fun w hw => hts w (List.mem_cons_of_mem _ hw), hSt, B.notSynchronized, Nat.zero_le _, Nat.zero_le _⟩ B.returns
  have hl := lv_entry (as.map (zM X)) (n := maxL) (by rw [zsl X as has]; exact hlen)
  rw [lg_entry_eq]
  rw [← zE_args X as 0 (maxL - as.length) has] at hl
  exact hb s.heap [] _ hP va_S.rf hl
