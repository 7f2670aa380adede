/-! THE CLAIM OUT OF ONE WALK OF THE LAW'S BODY. Your part is whole_start (and what it stands on); all else here is the same for every law, but numbers. -/
def R_law : String := "TriedLinesLaw"
def lw_P (b : Addr) (xs : List Int32) (args : Array Value) (s : State) : Prop := args = #[.ref b] ∧ s.IntsAt b xs ∧ xs.length ≤ 3072 ∧ (Jvm.Cond.and given_1 narrow_1).before args s = true
def lw_Q (_ : Array Value) (s : State) (o : Outcome) (t : State) : Prop := o = .returned (some (.int 1)) ∧ Framed s o t [] 601024 7293034
def lw_Z (below : List Frame) (a : Array Value) (s : State) : State → Prop := fun t => ∃ o, t.status = .running ∧ Ended t below o ∧ lw_Q a s o t
/-- the law's own end, with 1 on the stack, nothing written that was there before, its room as the claim has it -/
theorem lw_ret {p : Program} {l : Launch} {e : Env} {s : State} {m : MethodId} {below : List Frame} {meth : Method} {c : Code} {b : Nat} (hx : p.tables.exec = Jvm.exec) (hb : c.code = code) (hr : meth.sig.returnType = ret) (hlocks : meth.locks = false) {pc : Nat} {H : Heap} {ls : Array Slot} (hdg : decode code pc = .ok (.ireturn, 1)) : W p l e room_1 s m #[Value.ref b] below meth c H [] 601024 7293034 (lw_Z below #[Value.ref b] s) (F0 m pc ls [.int 1]) := by
  intro T hT X
  obtain ⟨fs, hret, hrun, hended, hW, hframe⟩ := X.leave (v := some (.int 1)) (hlocks := hlocks) (fun h => by rw [hr] at h; cases h)
  have hmeth' : T.vm.method? m = some meth := X.method'
  refine ⟨T.setFrames fs, ?_, .returned (some (.int 1)), hrun, hended, rfl, ⟨_, rfl⟩, hW, hframe⟩
  jvm_step X.here [X.here.top, hx, hb, hdg, hmeth', hr, ret, narrow_b1]
  (try refine ⟨rfl, ?_⟩); (try refine ⟨rfl, ?_⟩)
  first | (intro acts; rw [hret _ acts rfl rfl rfl]) | rw [hret _ _ rfl rfl rfl]
  exact Steps.refl _
/-- what holds at the law's entry: the machine, the code, the tables' words (any of lw_tbl by 'hts w (by decide +kernel)'), the script of L ints xs at the cell b, what the Statement gives of the start (any of its parts by flat_of_before) -/
def lw_At (p : Program) (s : State) (m : MethodId) (meth : Method) (c : Code) (b L : Nat) (xs : Nat → Int32) : Prop :=
  p.tables.exec = Jvm.exec ∧ c.code = code ∧ meth.sig.returnType = ret ∧ c.maxLocals = 7 ∧ s.vm.findClass R_law = some m.cls ∧ (∀ w ∈ lw_tbl, w.before #[Value.ref b] s = true) ∧ va_X b L xs s s.heap ∧ b < s.heap.size ∧ meth.locks = false ∧ (Jvm.Cond.and given_1 narrow_1).before #[Value.ref b] s = true
/-! ===== what the Statement gives of the start ===== -/
abbrev zKp : Type := va_G × (Nat → ClassId) × Nat × (Nat → Nat) × (Nat → Nat)
/-- the world's place, a half of it walked, the other half -/
def XX (K : zKp) (fl : Bool) (o : zG) : zX := (K.1, K.2.1, K.2.2.1, K.2.2.2.1, K.2.2.2.2, fl, o)
def nP : List Cond := flatC (Jvm.Cond.and given_1 narrow_1)
/-- where the reader's pool has the texts -/
def kT : List Nat := [107, 109, 110, 112, 114, 116, 118, 120, 122, 124, 142, 150, 154, 159, 168, 172, 174, 164, 202]
theorem kp0 : ∀ i, i < 19 → zlen.getD i 0 < 2 ^ 31 := by decide +kernel
theorem kp1 : ∀ i, i < 19 → Cond.exactly (.string RX5 (kT.getD i 0)) "java/lang/String" ∈ nP := by decide +kernel
theorem kp2 : ∀ i, i < 19 → Cond.eq (.field (.string RX5 (kT.getD i 0)) "java/lang/String" "coder" "B") (.int 0) ∈ nP := by decide +kernel
theorem kp3 : ∀ i, i < 19 → Cond.arrayOf (.field (.string RX5 (kT.getD i 0)) "java/lang/String" "value" "[B") .byte ∈ nP := by decide +kernel
theorem kp4 : ∀ i, i < 19 → Cond.eq (.length (.field (.string RX5 (kT.getD i 0)) "java/lang/String" "value" "[B")) (.int (Int32.ofNat (zlen.getD i 0))) ∈ nP := by decide +kernel
theorem kp5 : ∀ i, i < 19 → ∀ j, j < zlen.getD i 0 → Cond.eq (.elem (.field (.string RX5 (kT.getD i 0)) "java/lang/String" "value" "[B") (.int (Int32.ofNat j))) (.int ((zbyt.getD i []).getD j 0)) ∈ nP := by decide +kernel
theorem kp6 : ∀ q ∈ zst, q.2.2.2 < 19 ∧ (q.1 = RX5 → q.2.1 = kT.getD q.2.2.2 0) := by decide +kernel
theorem kp7 : ∀ q ∈ zst, q.1 ≠ RX5 → Cond.eq (.string RX5 (kT.getD q.2.2.2 0)) (.string q.1 q.2.1) ∈ nP := by decide +kernel
theorem kp8 : ∀ q ∈ zst, Cond.stringRef q.1 q.2.1 q.2.2.1 ∈ lw_tbl := by decide +kernel
theorem kp9 : ∀ q ∈ znF, Cond.fieldLinkNest q.1 q.2.1 q.2.2.1 q.2.2.2.1 q.2.2.2.2.1 q.2.2.2.2.2 ∈ lw_tbl := by decide +kernel
theorem kp10 : ∀ q ∈ znM, Cond.methodLinkNest q.1 q.2.1 q.2.2.1 q.2.2.2 ∈ lw_tbl := by decide +kernel
theorem kp11 : Cond.laysStatic "java/lang/String" "COMPACT_STRINGS" "Z" ∈ lw_tbl ∧ Cond.initialized "java/lang/String" ∈ lw_tbl ∧ Cond.eq (.static "java/lang/String" "COMPACT_STRINGS" "Z") (.int 1) ∈ nP := by decide +kernel
theorem kp12 : Cond.laysStatic "jdk/internal/util/Preconditions" "SIOOBE_FORMATTER" "Ljava/util/function/BiFunction;" ∈ lw_tbl ∧ Cond.initialized "jdk/internal/util/Preconditions" ∈ lw_tbl ∧ Cond.isRef (.static "jdk/internal/util/Preconditions" "SIOOBE_FORMATTER" "Ljava/util/function/BiFunction;") ∈ nP := by decide +kernel
theorem kp13 : Cond.laysStatic Bundle.tN "UNASSIGNED_STACK" Bundle.steD ∈ lw_tbl ∧ Cond.initialized Bundle.tN ∈ lw_tbl ∧ Cond.isRef (.static Bundle.tN "UNASSIGNED_STACK" Bundle.steD) ∈ nP := by decide +kernel
theorem kp14 : Cond.laysStatic Bundle.tN "SUPPRESSED_SENTINEL" Bundle.listD ∈ lw_tbl ∧ Cond.isRef (.static Bundle.tN "SUPPRESSED_SENTINEL" Bundle.listD) ∈ nP := by decide +kernel
theorem kp15 : Cond.castable nse nse ∈ lw_tbl ∧ Cond.declares (Bundle.init0 "java/lang/RuntimeException") ∈ lw_tbl ∧ Cond.declares (Bundle.init0 "java/lang/Exception") ∈ lw_tbl ∧ Cond.declares (Bundle.init0 Bundle.tN) ∈ lw_tbl := by decide +kernel
theorem kp16 : Cond.arrayOver (.object RX0) ∈ lw_tbl ∧ Cond.arrayOver (.object RX1) ∈ lw_tbl ∧ Cond.arrayClass .long ∈ lw_tbl ∧ Cond.arrayClass .int ∈ lw_tbl ∧ Cond.arrayClass .boolean ∈ lw_tbl := by decide +kernel
theorem start_strs {args : Array Value} {s : State} {A : Nat → Prop} (hs : ∀ w ∈ nP, w.before args s = true) (hA : ∀ a : Nat, a < s.heap.size → ¬ A a) : ∃ str byt : Nat → Nat, ∀ i : Nat, i < 19 → vk_S 1 [zlen.getD i 0] [zbyt.getD i []] (fun _ => str i) (fun _ => byt i) A s s.heap ∧ (Term.string RX5 (kT.getD i 0)).eval args s none [] s = some (.ref (str i)) := by
  have h : ∀ i : Nat, ∃ q : Nat × Nat, i < 19 → vk_S 1 [zlen.getD i 0] [zbyt.getD i []] (fun _ => q.1) (fun _ => q.2) A s s.heap ∧ (Term.string RX5 (kT.getD i 0)).eval args s none [] s = some (.ref q.1) := by
    intro i
    by_cases hi : i < 19
    · obtain ⟨adK, adV, h1, h2⟩ := vk_Sof (args := args) (s := s) (N := 1) (tm := fun _ => Term.string RX5 (kT.getD i 0)) (len := [zlen.getD i 0]) (byt := [zbyt.getD i []]) (A := A)
        (fun j hj => by obtain rfl : j = 0 := by omega
                        exact kp0 i hi)
        (fun j hj => hs _ (kp1 i hi)) (fun j hj => hs _ (kp2 i hi)) (fun j hj => hs _ (kp3 i hi))
        (fun j hj => by obtain rfl : j = 0 := by omega
                        exact hs _ (kp4 i hi))
        (fun j hj k hk => by obtain rfl : j = 0 := by omega
                             exact hs _ (kp5 i hi k hk))
        (fun a b ha hb hab => absurd (show a = b by omega) hab) hA
      refine ⟨(adK 0, adV 0), fun _ => ⟨⟨fun j hj => ?_, fun a b ha hb _ => by omega⟩, h2 0 (by omega)⟩⟩
      obtain rfl : j = 0 := by omega
      exact h1.1 0 (by omega)
    · exact ⟨(0, 0), fun h => absurd h hi⟩
  obtain ⟨ad, had⟩ := Classical.axiomOfChoice h
  exact ⟨fun i => (ad i).1, fun i => (ad i).2, had⟩
theorem start_known {args : Array Value} {s : State} (hz : ∀ w ∈ zall, w.before args s = true) : ∃ D : va_G, ∀ (c : Nat) (q : vw_C), zcl[c]? = some q → u_Kn s q.1 q.2.1 q.2.2 (D.1 c) (D.2 c) := by
  have h : ∀ c : Nat, ∃ z : ClassId × (Nat → Nat), ∀ q : vw_C, zcl[c]? = some q → u_Kn s q.1 q.2.1 q.2.2 z.1 z.2 := by
    intro c
    match c with
    | 0 => obtain ⟨a, b, h⟩ := u_known (C := RX0) (T := TX0) (N := 7) (n := 7) hz zinX0 (hz _ wI_RX0); exact ⟨(a, b), fun q hq => by cases hq; exact h⟩
    | 1 => obtain ⟨a, b, h⟩ := u_known (C := RX1) (T := TX1) (N := 8) (n := 8) hz zinX1 (hz _ wI_RX1); exact ⟨(a, b), fun q hq => by cases hq; exact h⟩
    | 2 => obtain ⟨a, b, h⟩ := u_known (C := RX2) (T := TX2) (N := 12) (n := 12) hz zinX2 (hz _ wI_RX2); exact ⟨(a, b), fun q hq => by cases hq; exact h⟩
    | 3 => obtain ⟨a, b, h⟩ := u_known (C := RX3) (T := TX3) (N := 12) (n := 12) hz zinX3 (hz _ wI_RX3); exact ⟨(a, b), fun q hq => by cases hq; exact h⟩
    | 4 => obtain ⟨a, b, h⟩ := u_known (C := RX4) (T := TX4) (N := 6) (n := 6) hz zinX4 (hz _ wI_RX4); exact ⟨(a, b), fun q hq => by cases hq; exact h⟩
    | 5 => obtain ⟨a, b, h⟩ := u_known (C := RX5) (T := TX5) (N := 12) (n := 12) hz zinX5 (hz _ wI_RX5); exact ⟨(a, b), fun q hq => by cases hq; exact h⟩
    | 6 => obtain ⟨a, b, h⟩ := u_known (C := RX6) (T := TX6) (N := 13) (n := 13) hz zinX6 (hz _ wI_RX6); exact ⟨(a, b), fun q hq => by cases hq; exact h⟩
    | 7 => obtain ⟨a, b, h⟩ := u_known (C := RX7) (T := TX7) (N := 42) (n := 42) hz zinX7 (hz _ wI_RX7); exact ⟨(a, b), fun q hq => by cases hq; exact h⟩
    | c + 8 => exact ⟨(0, fun _ => 0), fun q hq => by simp at hq⟩
  obtain ⟨z, hz'⟩ := Classical.axiomOfChoice h
  exact ⟨(fun c => (z c).1, fun c => (z c).2), hz'⟩
theorem start_prim {args : Array Value} {s : State} {ty : FieldType} (hn : ∀ C, ty ≠ .object C) (h : (Cond.arrayClass ty).before args s = true) : ∃ cA : ClassId, ArrOfT s cA ty ∧ va_RA s cA ty := by
  obtain ⟨cA, kA, comp, h1, h2, h3⟩ := Cond.arrayClass_spec (o := none) (idx := []) (first := s) h
  refine ⟨cA, fun n z => ⟨fun k h => (by cases h), kA, h2, comp, h3⟩, ?_⟩
  cases ty with
  | object C => exact absurd rfl (hn C)
  | _ => exact h1
theorem start_obj {args : Array Value} {s : State} {C : String} (h : (Cond.arrayOver (.object C)).before args s = true) : ∃ cA : ClassId, ArrOfT s cA (.object C) ∧ va_RA s cA (.object C) := by
  obtain ⟨comp, cA, kA, h0, -, h2, h3, h1⟩ := Cond.arrayOver_spec (o := none) (idx := []) (first := s) h
  exact ⟨cA, fun n z => ⟨fun k h => (by cases h), kA, h2, comp, h3⟩, kA, comp, h2, h3, h0, h1⟩
theorem start_arr {args : Array Value} {s : State} (hts : ∀ w ∈ lw_tbl, w.before args s = true) : ∃ cA : Nat → ClassId, ∀ (k : Nat) (q : ClassId × FieldType), ([(cA 0, .int), (cA 1, .boolean), (cA 2, .object RX0), (cA 3, .object RX1), (cA 4, .long)] : List (ClassId × FieldType))[k]? = some q → ArrOfT s q.1 q.2 ∧ va_RA s q.1 q.2 := by
  obtain ⟨a0, h0⟩ := start_prim (fun C h => by cases h) (hts _ kp16.2.2.2.1)
  obtain ⟨a1, h1⟩ := start_prim (fun C h => by cases h) (hts _ kp16.2.2.2.2)
  obtain ⟨a2, h2⟩ := start_obj (hts _ kp16.1)
  obtain ⟨a3, h3⟩ := start_obj (hts _ kp16.2.1)
  obtain ⟨a4, h4⟩ := start_prim (fun C h => by cases h) (hts _ kp16.2.2.1)
  refine ⟨fun k => match k with | 0 => a0 | 1 => a1 | 2 => a2 | 3 => a3 | _ => a4, fun k q hq => ?_⟩
  match k, hq with
  | 0, hq => cases hq; exact h0
  | 1, hq => cases hq; exact h1
  | 2, hq => cases hq; exact h2
  | 3, hq => cases hq; exact h3
  | 4, hq => cases hq; exact h4
  | k + 5, hq => simp at hq
/-- the world's place at the law's entry, and what the Statement says of it -/
theorem lw_start {p : Program} {s : State} {m : MethodId} {meth : Method} {c : Code} {b L : Nat} {xs : Nat → Int32} (C0 : lw_At p s m meth c b L xs) : ∃ K : zKp, K.2.2.1 = s.heap.size ∧ K.2.2.2.1 1000 = b ∧ ∀ fl o, nS (XX K fl o) s s.heap ∧ yS (XX K fl o) s s.heap := by
  obtain ⟨hx, hb, hr, hml, hown, hts, hX, hbl, hlocks, hgv⟩ := C0
  have hs : ∀ w ∈ nP, w.before #[Value.ref b] s = true := flat_of_before _ hgv
  have hz : ∀ w ∈ zall, w.before #[Value.ref b] s = true := fun w hw => hts w (List.mem_filter.mp hw).1
  obtain ⟨D, hD⟩ := start_known hz
  obtain ⟨cA, hcA⟩ := start_arr hts
  have hA : ∀ a : Nat, a < s.heap.size → ¬ (s.heap.size ≤ a ∧ a < s.heap.size + zcds.length) := fun a h z => by omega
  obtain ⟨str, byt, hst⟩ := start_strs (A := fun q => s.heap.size ≤ q ∧ q < s.heap.size + zcds.length) hs hA
  refine ⟨(D, cA, s.heap.size, fun i => if i = 1000 then b else str i, byt), rfl, rfl, fun fl o => ⟨⟨⟨⟨hD, hcA⟩, fun q hq => va_Nw.of rfl (hts _ (kp9 q hq)), fun q hq => va_Nw.of rfl (hts _ (kp10 q hq)), fun i hi => ?_, fun q hq => ?_, ?_, ?_⟩, va_AO.of (hts _ kp16.1), va_AO.of (hts _ kp16.2.1)⟩, ?_⟩⟩
  · show vk_S 1 [zlen.getD i 0] [zbyt.getD i []] (fun _ => if i = 1000 then b else str i) (fun _ => byt i) _ s s.heap
    rw [if_neg (show ¬ i = 1000 by omega)]
    exact (hst i hi).1
  · have hq6 := kp6 q hq
    show vk_R q.1 q.2.1 q.2.2.1 (if q.2.2.2 = 1000 then b else str q.2.2.2) s
    rw [if_neg (show ¬ q.2.2.2 = 1000 by omega)]
    refine vk_R.of (hts _ (kp8 q hq)) ?_
    have he := (hst q.2.2.2 hq6.1).2
    by_cases hc : q.1 = RX5
    · rw [← hq6.2 hc, ← hc] at he
      exact he
    · exact va_eqR (hs _ (kp7 q hq hc)) he
  · exact va_Zof (hts _ kp11.1) (hts _ kp11.2.1) (va_eqi (hs _ kp11.2.2)) hA
  · exact va_Zqof (hts _ kp12.1) (hts _ kp12.2.1) (hs _ kp12.2.2) hA
  · exact ⟨va_Nw.of rfl (hts _ kp15.1), va_Nw.of rfl (hts _ kp15.2.1), va_Nw.of rfl (hts _ kp15.2.2.1), va_Nw.of rfl (hts _ kp15.2.2.2), vx_Zqof (hts _ kp13.1) (hts _ kp13.2.1) (hs _ kp13.2.2) hA, vx_Zqof (hts _ kp14.1) (hts _ kp13.2.1) (hs _ kp14.2) hA⟩
