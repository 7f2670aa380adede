/-! ===== the constructors ===== -/
/-- where all is 0 -/
def g0 : zG := fun _ _ _ => 0
theorem wOI : Cond.instanceMethod Lib.objectInit ∈ zall := zall_of (i := 155) (by decide +kernel) rfl
theorem wOC : Cond.code Lib.objectInit ⟨#[0xb1]⟩ 1 none ∈ zall := zall_of (i := 156) (by decide +kernel) rfl
theorem wO_RX0 : Cond.methodLink RX0 3 Lib.objectInit ∈ zall := zall_of (i := 284) (by decide +kernel) rfl
theorem wI_RX0 : Cond.instantiable RX0 7 ∈ zall := zall_of (i := 280) (by decide +kernel) rfl
theorem wT_RX0 : Cond.initialized RX0 ∈ zall := zall_of (i := 135) (by decide +kernel) rfl
theorem wO_RX1 : Cond.methodLink RX1 3 Lib.objectInit ∈ zall := zall_of (i := 321) (by decide +kernel) rfl
theorem wI_RX1 : Cond.instantiable RX1 8 ∈ zall := zall_of (i := 317) (by decide +kernel) rfl
theorem wT_RX1 : Cond.initialized RX1 ∈ zall := zall_of (i := 136) (by decide +kernel) rfl
theorem wO_RX2 : Cond.methodLink RX2 3 Lib.objectInit ∈ zall := zall_of (i := 162) (by decide +kernel) rfl
theorem wI_RX2 : Cond.instantiable RX2 12 ∈ zall := zall_of (i := 158) (by decide +kernel) rfl
theorem wT_RX2 : Cond.initialized RX2 ∈ zall := zall_of (i := 132) (by decide +kernel) rfl
theorem wO_RX3 : Cond.methodLink RX3 3 Lib.objectInit ∈ zall := zall_of (i := 275) (by decide +kernel) rfl
theorem wI_RX3 : Cond.instantiable RX3 12 ∈ zall := zall_of (i := 271) (by decide +kernel) rfl
theorem wT_RX3 : Cond.initialized RX3 ∈ zall := zall_of (i := 134) (by decide +kernel) rfl
theorem wO_RX4 : Cond.methodLink RX4 3 Lib.objectInit ∈ zall := zall_of (i := 414) (by decide +kernel) rfl
theorem wI_RX4 : Cond.instantiable RX4 6 ∈ zall := zall_of (i := 410) (by decide +kernel) rfl
theorem wT_RX4 : Cond.initialized RX4 ∈ zall := zall_of (i := 137) (by decide +kernel) rfl
theorem wO_RX5 : Cond.methodLink RX5 3 Lib.objectInit ∈ zall := zall_of (i := 230) (by decide +kernel) rfl
theorem wI_RX5 : Cond.instantiable RX5 12 ∈ zall := zall_of (i := 226) (by decide +kernel) rfl
theorem wT_RX5 : Cond.initialized RX5 ∈ zall := zall_of (i := 133) (by decide +kernel) rfl
theorem wO_RX6 : Cond.methodLink RX6 3 Lib.objectInit ∈ zall := zall_of (i := 154) (by decide +kernel) rfl
theorem wI_RX6 : Cond.instantiable RX6 13 ∈ zall := zall_of (i := 150) (by decide +kernel) rfl
theorem wT_RX6 : Cond.initialized RX6 ∈ zall := zall_of (i := 131) (by decide +kernel) rfl
theorem wO_RX7 : Cond.methodLink RX7 3 Lib.objectInit ∈ zall := zall_of (i := 1123) (by decide +kernel) rfl
theorem wI_RX7 : Cond.instantiable RX7 42 ∈ zall := zall_of (i := 1119) (by decide +kernel) rfl
theorem wT_RX7 : Cond.initialized RX7 ∈ zall := zall_of (i := 138) (by decide +kernel) rfl
theorem wL_RX6_13 : Cond.classLink RX6 13 RX2 ∈ zall := zall_of (i := 157) (by decide +kernel) rfl
theorem wL_RX6_23 : Cond.classLink RX6 23 RX5 ∈ zall := zall_of (i := 225) (by decide +kernel) rfl
theorem wL_RX6_32 : Cond.classLink RX6 32 RX3 ∈ zall := zall_of (i := 270) (by decide +kernel) rfl
theorem wL_RX3_15 : Cond.classLink RX3 15 RX0 ∈ zall := zall_of (i := 276) (by decide +kernel) rfl
theorem wL_RX3_21 : Cond.classLink RX3 21 RX1 ∈ zall := zall_of (i := 278) (by decide +kernel) rfl
theorem wL_RX6_47 : Cond.classLink RX6 47 RX4 ∈ zall := zall_of (i := 409) (by decide +kernel) rfl
theorem wA_int : Cond.arrayClass .int ∈ zall := zall_of (i := 223) (by decide +kernel) rfl
theorem wA_boolean : Cond.arrayClass .boolean ∈ zall := zall_of (i := 224) (by decide +kernel) rfl
theorem mw_X0_init : zMW yX0_init cX0_init 2 none 1 := ⟨zall_of (i := 283) (by decide +kernel) rfl, wT_RX0, by decide, by decide, by decide +kernel⟩
theorem mn_X0_init : Cond.instanceMethod yX0_init ∈ zall := zall_of (i := 282) (by decide +kernel) rfl
theorem mw_X1_init : zMW yX1_init cX1_init 1 none 0 := ⟨zall_of (i := 320) (by decide +kernel) rfl, wT_RX1, by decide, by decide, by decide +kernel⟩
theorem mn_X1_init : Cond.instanceMethod yX1_init ∈ zall := zall_of (i := 319) (by decide +kernel) rfl
theorem mw_X2_init : zMW yX2_init cX2_init 1 none 0 := ⟨zall_of (i := 161) (by decide +kernel) rfl, wT_RX2, by decide, by decide, by decide +kernel⟩
theorem mn_X2_init : Cond.instanceMethod yX2_init ∈ zall := zall_of (i := 160) (by decide +kernel) rfl
theorem mw_X3_init : zMW yX3_init cX3_init 3 none 1 := ⟨zall_of (i := 274) (by decide +kernel) rfl, wT_RX3, by decide, by decide, by decide +kernel⟩
theorem mn_X3_init : Cond.instanceMethod yX3_init ∈ zall := zall_of (i := 273) (by decide +kernel) rfl
theorem mw_X4_init : zMW yX4_init cX4_init 2 none 1 := ⟨zall_of (i := 413) (by decide +kernel) rfl, wT_RX4, by decide, by decide, by decide +kernel⟩
theorem mn_X4_init : Cond.instanceMethod yX4_init ∈ zall := zall_of (i := 412) (by decide +kernel) rfl
theorem mw_X5_init : zMW yX5_init cX5_init 3 none 2 := ⟨zall_of (i := 229) (by decide +kernel) rfl, wT_RX5, by decide, by decide, by decide +kernel⟩
theorem mn_X5_init : Cond.instanceMethod yX5_init ∈ zall := zall_of (i := 228) (by decide +kernel) rfl
theorem mw_X6_init : zMW yX6_init cX6_init 1 none 0 := ⟨zall_of (i := 153) (by decide +kernel) rfl, wT_RX6, by decide, by decide, by decide +kernel⟩
theorem mn_X6_init : Cond.instanceMethod yX6_init ∈ zall := zall_of (i := 152) (by decide +kernel) rfl
theorem mw_X7_init : zMW yX7_init cX7_init 1 none 0 := ⟨zall_of (i := 1122) (by decide +kernel) rfl, wT_RX7, by decide, by decide, by decide +kernel⟩
theorem mn_X7_init : Cond.instanceMethod yX7_init ∈ zall := zall_of (i := 1121) (by decide +kernel) rfl
theorem nf0 : ∀ (fs : List (Option (Nat → Nat × Nat))) (ci : Nat), zK 4 = .inl (ci, fs) → ∀ j, j < 7 → ((fs[j]?.map Option.isSome = some false ∧ (tyX0 j = .int ∨ tyX0 j = .boolean)) ∨ (fs[j]?.map Option.isSome = some true ∧ ∃ C, tyX0 j = .object C ∨ ∃ a, tyX0 j = .array a)) := by
  intro fs ci h j hj
  cases h
  match j, hj with
  | 0, _ => exact Or.inr ⟨rfl, _, Or.inl rfl⟩
  | 1, _ => exact Or.inr ⟨rfl, "", Or.inr ⟨_, rfl⟩⟩
  | 2, _ => exact Or.inr ⟨rfl, "", Or.inr ⟨_, rfl⟩⟩
  | 3, _ => exact Or.inr ⟨rfl, "", Or.inr ⟨_, rfl⟩⟩
  | 4, _ => exact Or.inr ⟨rfl, "", Or.inr ⟨_, rfl⟩⟩
  | 5, _ => exact Or.inr ⟨rfl, "", Or.inr ⟨_, rfl⟩⟩
  | 6, _ => exact Or.inr ⟨rfl, "", Or.inr ⟨_, rfl⟩⟩
  | j + 7, hj => exact absurd hj (by omega)
theorem nf1 : ∀ (fs : List (Option (Nat → Nat × Nat))) (ci : Nat), zK 5 = .inl (ci, fs) → ∀ j, j < 8 → ((fs[j]?.map Option.isSome = some false ∧ (tyX1 j = .int ∨ tyX1 j = .boolean)) ∨ (fs[j]?.map Option.isSome = some true ∧ ∃ C, tyX1 j = .object C ∨ ∃ a, tyX1 j = .array a)) := by
  intro fs ci h j hj
  cases h
  match j, hj with
  | 0, _ => exact Or.inl ⟨rfl, Or.inl rfl⟩
  | 1, _ => exact Or.inl ⟨rfl, Or.inl rfl⟩
  | 2, _ => exact Or.inl ⟨rfl, Or.inl rfl⟩
  | 3, _ => exact Or.inl ⟨rfl, Or.inl rfl⟩
  | 4, _ => exact Or.inl ⟨rfl, Or.inl rfl⟩
  | 5, _ => exact Or.inl ⟨rfl, Or.inl rfl⟩
  | 6, _ => exact Or.inl ⟨rfl, Or.inl rfl⟩
  | 7, _ => exact Or.inr ⟨rfl, "", Or.inr ⟨_, rfl⟩⟩
  | j + 8, hj => exact absurd hj (by omega)
theorem nf2 : ∀ (fs : List (Option (Nat → Nat × Nat))) (ci : Nat), zK 1 = .inl (ci, fs) → ∀ j, j < 12 → ((fs[j]?.map Option.isSome = some false ∧ (tyX2 j = .int ∨ tyX2 j = .boolean)) ∨ (fs[j]?.map Option.isSome = some true ∧ ∃ C, tyX2 j = .object C ∨ ∃ a, tyX2 j = .array a)) := by
  intro fs ci h j hj
  cases h
  match j, hj with
  | 0, _ => exact Or.inl ⟨rfl, Or.inl rfl⟩
  | 1, _ => exact Or.inl ⟨rfl, Or.inl rfl⟩
  | 2, _ => exact Or.inl ⟨rfl, Or.inl rfl⟩
  | 3, _ => exact Or.inl ⟨rfl, Or.inl rfl⟩
  | 4, _ => exact Or.inl ⟨rfl, Or.inl rfl⟩
  | 5, _ => exact Or.inl ⟨rfl, Or.inl rfl⟩
  | 6, _ => exact Or.inl ⟨rfl, Or.inl rfl⟩
  | 7, _ => exact Or.inr ⟨rfl, "", Or.inr ⟨_, rfl⟩⟩
  | 8, _ => exact Or.inr ⟨rfl, "", Or.inr ⟨_, rfl⟩⟩
  | 9, _ => exact Or.inr ⟨rfl, "", Or.inr ⟨_, rfl⟩⟩
  | 10, _ => exact Or.inr ⟨rfl, "", Or.inr ⟨_, rfl⟩⟩
  | 11, _ => exact Or.inr ⟨rfl, "", Or.inr ⟨_, rfl⟩⟩
  | j + 12, hj => exact absurd hj (by omega)
theorem nf3 : ∀ (fs : List (Option (Nat → Nat × Nat))) (ci : Nat), zK 3 = .inl (ci, fs) → ∀ j, j < 12 → ((fs[j]?.map Option.isSome = some false ∧ (tyX3 j = .int ∨ tyX3 j = .boolean)) ∨ (fs[j]?.map Option.isSome = some true ∧ ∃ C, tyX3 j = .object C ∨ ∃ a, tyX3 j = .array a)) := by
  intro fs ci h j hj
  cases h
  match j, hj with
  | 0, _ => exact Or.inr ⟨rfl, _, Or.inl rfl⟩
  | 1, _ => exact Or.inr ⟨rfl, "", Or.inr ⟨_, rfl⟩⟩
  | 2, _ => exact Or.inr ⟨rfl, "", Or.inr ⟨_, rfl⟩⟩
  | 3, _ => exact Or.inr ⟨rfl, "", Or.inr ⟨_, rfl⟩⟩
  | 4, _ => exact Or.inr ⟨rfl, "", Or.inr ⟨_, rfl⟩⟩
  | 5, _ => exact Or.inr ⟨rfl, "", Or.inr ⟨_, rfl⟩⟩
  | 6, _ => exact Or.inl ⟨rfl, Or.inl rfl⟩
  | 7, _ => exact Or.inl ⟨rfl, Or.inl rfl⟩
  | 8, _ => exact Or.inl ⟨rfl, Or.inl rfl⟩
  | 9, _ => exact Or.inl ⟨rfl, Or.inl rfl⟩
  | 10, _ => exact Or.inl ⟨rfl, Or.inl rfl⟩
  | 11, _ => exact Or.inl ⟨rfl, Or.inl rfl⟩
  | j + 12, hj => exact absurd hj (by omega)
theorem nf4 : ∀ (fs : List (Option (Nat → Nat × Nat))) (ci : Nat), zK 6 = .inl (ci, fs) → ∀ j, j < 6 → ((fs[j]?.map Option.isSome = some false ∧ (tyX4 j = .int ∨ tyX4 j = .boolean)) ∨ (fs[j]?.map Option.isSome = some true ∧ ∃ C, tyX4 j = .object C ∨ ∃ a, tyX4 j = .array a)) := by
  intro fs ci h j hj
  cases h
  match j, hj with
  | 0, _ => exact Or.inr ⟨rfl, _, Or.inl rfl⟩
  | 1, _ => exact Or.inr ⟨rfl, "", Or.inr ⟨_, rfl⟩⟩
  | 2, _ => exact Or.inl ⟨rfl, Or.inl rfl⟩
  | 3, _ => exact Or.inl ⟨rfl, Or.inl rfl⟩
  | 4, _ => exact Or.inl ⟨rfl, Or.inl rfl⟩
  | 5, _ => exact Or.inl ⟨rfl, Or.inl rfl⟩
  | j + 6, hj => exact absurd hj (by omega)
theorem nf5 : ∀ (fs : List (Option (Nat → Nat × Nat))) (ci : Nat), zK 2 = .inl (ci, fs) → ∀ j, j < 12 → ((fs[j]?.map Option.isSome = some false ∧ (tyX5 j = .int ∨ tyX5 j = .boolean)) ∨ (fs[j]?.map Option.isSome = some true ∧ ∃ C, tyX5 j = .object C ∨ ∃ a, tyX5 j = .array a)) := by
  intro fs ci h j hj
  cases h
  match j, hj with
  | 0, _ => exact Or.inr ⟨rfl, _, Or.inl rfl⟩
  | 1, _ => exact Or.inr ⟨rfl, "", Or.inr ⟨_, rfl⟩⟩
  | 2, _ => exact Or.inr ⟨rfl, "", Or.inr ⟨_, rfl⟩⟩
  | 3, _ => exact Or.inl ⟨rfl, Or.inl rfl⟩
  | 4, _ => exact Or.inl ⟨rfl, Or.inl rfl⟩
  | 5, _ => exact Or.inl ⟨rfl, Or.inl rfl⟩
  | 6, _ => exact Or.inl ⟨rfl, Or.inl rfl⟩
  | 7, _ => exact Or.inl ⟨rfl, Or.inl rfl⟩
  | 8, _ => exact Or.inl ⟨rfl, Or.inr rfl⟩
  | 9, _ => exact Or.inl ⟨rfl, Or.inr rfl⟩
  | 10, _ => exact Or.inl ⟨rfl, Or.inl rfl⟩
  | 11, _ => exact Or.inl ⟨rfl, Or.inl rfl⟩
  | j + 12, hj => exact absurd hj (by omega)
theorem nf6 : ∀ (fs : List (Option (Nat → Nat × Nat))) (ci : Nat), zK 0 = .inl (ci, fs) → ∀ j, j < 13 → ((fs[j]?.map Option.isSome = some false ∧ (tyX6 j = .int ∨ tyX6 j = .boolean)) ∨ (fs[j]?.map Option.isSome = some true ∧ ∃ C, tyX6 j = .object C ∨ ∃ a, tyX6 j = .array a)) := by
  intro fs ci h j hj
  cases h
  match j, hj with
  | 0, _ => exact Or.inr ⟨rfl, "", Or.inr ⟨_, rfl⟩⟩
  | 1, _ => exact Or.inl ⟨rfl, Or.inl rfl⟩
  | 2, _ => exact Or.inr ⟨rfl, _, Or.inl rfl⟩
  | 3, _ => exact Or.inr ⟨rfl, _, Or.inl rfl⟩
  | 4, _ => exact Or.inr ⟨rfl, _, Or.inl rfl⟩
  | 5, _ => exact Or.inr ⟨rfl, _, Or.inl rfl⟩
  | 6, _ => exact Or.inr ⟨rfl, _, Or.inl rfl⟩
  | 7, _ => exact Or.inr ⟨rfl, _, Or.inl rfl⟩
  | 8, _ => exact Or.inr ⟨rfl, _, Or.inl rfl⟩
  | 9, _ => exact Or.inl ⟨rfl, Or.inr rfl⟩
  | 10, _ => exact Or.inl ⟨rfl, Or.inr rfl⟩
  | 11, _ => exact Or.inl ⟨rfl, Or.inl rfl⟩
  | 12, _ => exact Or.inl ⟨rfl, Or.inl rfl⟩
  | j + 13, hj => exact absurd hj (by omega)
theorem nf7 : ∀ (fs : List (Option (Nat → Nat × Nat))) (ci : Nat), zK 7 = .inl (ci, fs) → ∀ j, j < 42 → ((fs[j]?.map Option.isSome = some false ∧ (tyX7 j = .int ∨ tyX7 j = .boolean)) ∨ (fs[j]?.map Option.isSome = some true ∧ ∃ C, tyX7 j = .object C ∨ ∃ a, tyX7 j = .array a)) := by
  intro fs ci h j hj
  cases h
  match j, hj with
  | 0, _ => exact Or.inl ⟨rfl, Or.inl rfl⟩
  | 1, _ => exact Or.inl ⟨rfl, Or.inl rfl⟩
  | 2, _ => exact Or.inl ⟨rfl, Or.inl rfl⟩
  | 3, _ => exact Or.inl ⟨rfl, Or.inl rfl⟩
  | 4, _ => exact Or.inr ⟨rfl, "", Or.inr ⟨_, rfl⟩⟩
  | 5, _ => exact Or.inl ⟨rfl, Or.inl rfl⟩
  | 6, _ => exact Or.inr ⟨rfl, "", Or.inr ⟨_, rfl⟩⟩
  | 7, _ => exact Or.inr ⟨rfl, "", Or.inr ⟨_, rfl⟩⟩
  | 8, _ => exact Or.inl ⟨rfl, Or.inl rfl⟩
  | 9, _ => exact Or.inl ⟨rfl, Or.inl rfl⟩
  | 10, _ => exact Or.inr ⟨rfl, "", Or.inr ⟨_, rfl⟩⟩
  | 11, _ => exact Or.inr ⟨rfl, "", Or.inr ⟨_, rfl⟩⟩
  | 12, _ => exact Or.inr ⟨rfl, "", Or.inr ⟨_, rfl⟩⟩
  | 13, _ => exact Or.inr ⟨rfl, "", Or.inr ⟨_, rfl⟩⟩
  | 14, _ => exact Or.inr ⟨rfl, "", Or.inr ⟨_, rfl⟩⟩
  | 15, _ => exact Or.inr ⟨rfl, "", Or.inr ⟨_, rfl⟩⟩
  | 16, _ => exact Or.inr ⟨rfl, "", Or.inr ⟨_, rfl⟩⟩
  | 17, _ => exact Or.inr ⟨rfl, "", Or.inr ⟨_, rfl⟩⟩
  | 18, _ => exact Or.inr ⟨rfl, "", Or.inr ⟨_, rfl⟩⟩
  | 19, _ => exact Or.inr ⟨rfl, "", Or.inr ⟨_, rfl⟩⟩
  | 20, _ => exact Or.inl ⟨rfl, Or.inr rfl⟩
  | 21, _ => exact Or.inl ⟨rfl, Or.inl rfl⟩
  | 22, _ => exact Or.inl ⟨rfl, Or.inl rfl⟩
  | 23, _ => exact Or.inl ⟨rfl, Or.inl rfl⟩
  | 24, _ => exact Or.inl ⟨rfl, Or.inl rfl⟩
  | 25, _ => exact Or.inl ⟨rfl, Or.inl rfl⟩
  | 26, _ => exact Or.inl ⟨rfl, Or.inl rfl⟩
  | 27, _ => exact Or.inl ⟨rfl, Or.inl rfl⟩
  | 28, _ => exact Or.inl ⟨rfl, Or.inr rfl⟩
  | 29, _ => exact Or.inl ⟨rfl, Or.inr rfl⟩
  | 30, _ => exact Or.inr ⟨rfl, "", Or.inr ⟨_, rfl⟩⟩
  | 31, _ => exact Or.inr ⟨rfl, "", Or.inr ⟨_, rfl⟩⟩
  | 32, _ => exact Or.inr ⟨rfl, "", Or.inr ⟨_, rfl⟩⟩
  | 33, _ => exact Or.inl ⟨rfl, Or.inr rfl⟩
  | 34, _ => exact Or.inl ⟨rfl, Or.inl rfl⟩
  | 35, _ => exact Or.inl ⟨rfl, Or.inl rfl⟩
  | 36, _ => exact Or.inl ⟨rfl, Or.inl rfl⟩
  | 37, _ => exact Or.inl ⟨rfl, Or.inl rfl⟩
  | 38, _ => exact Or.inr ⟨rfl, "", Or.inr ⟨_, rfl⟩⟩
  | 39, _ => exact Or.inl ⟨rfl, Or.inl rfl⟩
  | 40, _ => exact Or.inl ⟨rfl, Or.inl rfl⟩
  | 41, _ => exact Or.inl ⟨rfl, Or.inl rfl⟩
  | j + 42, hj => exact absurd hj (by omega)
theorem zqP0 : ∀ x, x < 2 → zcds[6 * x + 2]? = some (1, x) := by decide +kernel
theorem zqP : ∀ x, x < 2 → ∀ k, k < 5 → zcds[6 * x + 3 + k]? = some (11 + k, x) := by decide +kernel
theorem zoP : ∀ x, x < 2 → ∀ k, k < 5 → zord[6 * x + 1 + k]? = some (1, x, 7 + k) := by decide +kernel
theorem zqR0 : ∀ r, r < 3 → zcds[42 * r + 16]? = some (3, r) := by decide +kernel
theorem zqR : ∀ r, r < 3 → ∀ k, k < 5 → zcds[42 * r + 17 + k]? = some (17 + k, r) := by decide +kernel
theorem zoR : ∀ r, r < 3 → ∀ k, k < 5 → zord[47 * r + 17 + k]? = some (3, r, 1 + k) := by decide +kernel
theorem zoRp : ∀ r, r < 3 → zord[47 * r + 22]? = some (3, r, 0) := by decide +kernel
theorem zqC0 : ∀ r, r < 3 → ∀ c, c < 4 → zcds[42 * r + 9 * c + 22]? = some (4, 4 * r + c) := by decide +kernel
theorem zqC : ∀ r, r < 3 → ∀ c, c < 4 → ∀ k, k < 6 → zcds[42 * r + 9 * c + 23 + k]? = some (22 + k, 4 * r + c) := by decide +kernel
theorem zoC1 : ∀ r, r < 3 → ∀ c, c < 4 → (List.range 6).all (fun k => zord[47 * r + 10 * c + 23 + k]? == some (4, 4 * r + c, 1 + k)) = true := by decide +kernel
theorem zoC (r : Nat) (hr : r < 3) (c : Nat) (hc : c < 4) (k : Nat) (hk : k < 6) : zord[47 * r + 10 * c + 23 + k]? = some (4, 4 * r + c, 1 + k) := by
  have h := List.all_eq_true.mp (zoC1 r hr c hc) k (List.mem_range.mpr hk)
  rwa [beq_iff_eq] at h
theorem zoCp : ∀ r, r < 3 → ∀ c, c < 4 → zord[47 * r + 10 * c + 29]? = some (4, 4 * r + c, 0) := by decide +kernel
theorem zoA : ∀ r, r < 3 → ∀ c, c < 4 → zord[47 * r + 10 * c + 30]? = some (18, r, c) := by decide +kernel
theorem zqK0 : ∀ r, r < 3 → ∀ c, c < 4 → zcds[42 * r + 9 * c + 29]? = some (5, 4 * r + c) := by decide +kernel
theorem zqK : ∀ r, r < 3 → ∀ c, c < 4 → zcds[42 * r + 9 * c + 30]? = some (28, 4 * r + c) := by decide +kernel
theorem zoK : ∀ r, r < 3 → ∀ c, c < 4 → zord[47 * r + 10 * c + 31]? = some (5, 4 * r + c, 7) := by decide +kernel
theorem zoB : ∀ r, r < 3 → ∀ c, c < 4 → zord[47 * r + 10 * c + 32]? = some (19, r, c) := by decide +kernel
theorem lnC : ∀ r, r < 3 → ∀ c, c < 4 → (zord.take (47 * r + 10 * c + 23)).all (fun x => !(x.1 == 4 && x.2.1 == 4 * r + c)) = true := by decide +kernel
theorem lnK : ∀ r, r < 3 → ∀ c, c < 4 → (zord.take (47 * r + 10 * c + 31)).all (fun x => !(x.1 == 5 && x.2.1 == 4 * r + c)) = true := by decide +kernel
theorem lnA : ∀ r, r < 3 → (zord.take (47 * r + 18)).all (fun x => !(x.1 == 18 && x.2.1 == r)) = true := by decide +kernel
theorem lnB : ∀ r, r < 3 → (zord.take (47 * r + 19)).all (fun x => !(x.1 == 19 && x.2.1 == r)) = true := by decide +kernel
theorem ldR : ∀ r, r < 3 → ∀ c, c < 4 → laid (47 * r + 10 * c + 23) 3 r 2 = true ∧ laid (47 * r + 10 * c + 31) 3 r 3 = true := by decide +kernel
section NX
variable {X : zX} {p : Program} {l : Launch} {e : Env} {R : Room} {s : State} {m : MethodId} {args : Array Value} {below : List Frame} {meth : Method} {c : Code} {cc : ByteArray} {nL : Nat} {own : String} {cells slots : Nat} {Q : State → Prop}
variable {g : zG} {τ n pc : Nat} {L L' : List (Option zV)} {st : List zV}
theorem n_cast {τ' n' cells' slots' : Nat} (h1 : τ = τ') (h2 : n = n') (h3 : cells = cells') (h4 : slots = slots') (kk : NN X p l e R s m args below meth c nL Q g τ' n' cells' slots' pc L st) : NN X p l e R s m args below meth c nL Q g τ n cells slots pc L st := by
  subst h1; subst h2; subst h3; subst h4
  exact kk
end NX
set_option maxRecDepth 100000 in
set_option maxHeartbeats 4000000 in
theorem c_X2_init (X : zX) {x : Nat} (hx : x < 2) : NC X yX2_init cX2_init 1 1 5 356 [.inr (.inl (1, x))] g0 (6 * x + 1) (6 * x + 3) g0 (6 * x + 6) (6 * x + 8) := by
  refine NC.of (own := RX2) (L := [some (.inr (.inl (1, x)))]) (by decide) rfl rfl (by intro v hv y h; subst h; simp at hv) (Nat.le_of_ble_eq_true rfl) rfl ?_
  intro p l e s m args below meth c C hinit hr
  refine n_aload_n C 0 dX2_init_0 rfl rfl ?_
  refine n_init C wO_RX2 wOI wOC (by decide) (by decide) dX2_init_1 ?_
  refine n_aload_n C 0 dX2_init_4 rfl rfl ?_
  refine n_iconst C (nI 4) dX2_init_5 (by decide +kernel) ?_
  refine n_newa C (t := 11) (i := x) (N := 4) (ty := .int) (zqP x hx 0 (by omega)) rfl (by decide) rfl rfl (by decide) wA_int (nI_pos (by omega)) (nI_clamp (by omega)) (by decide) (fun _ => rfl) (by decide) (by decide) dX2_init_6 ?_
  refine n_putf C hinit (t := 1) (i := x) (k := 7) tyX2 tyX2_ok nmX2 (zqP0 x hx) (by omega) rfl rfl zinX2 (by decide) rfl (zoP x hx 0 (by omega)) fl_RX2_9 rfl rfl (fun _ => rfl) (fun _ => rfl) rfl dX2_init_8 ?_
  refine n_aload_n C 0 dX2_init_11 rfl rfl ?_
  refine n_bipush C (nI 96) dX2_init_12 (by decide +kernel) ?_
  refine n_newa C (t := 12) (i := x) (N := 96) (ty := .int) (zqP x hx 1 (by omega)) rfl (by decide) rfl rfl (by decide) wA_int (nI_pos (by omega)) (nI_clamp (by omega)) (by decide) (fun _ => rfl) (by decide) (by decide) dX2_init_14 ?_
  refine n_putf C hinit (t := 1) (i := x) (k := 8) tyX2 tyX2_ok nmX2 (zqP0 x hx) (by omega) rfl rfl zinX2 (by decide) rfl (zoP x hx 1 (by omega)) fl_RX2_15 rfl rfl (fun _ => rfl) (fun _ => rfl) rfl dX2_init_16 ?_
  refine n_aload_n C 0 dX2_init_19 rfl rfl ?_
  refine n_bipush C (nI 96) dX2_init_20 (by decide +kernel) ?_
  refine n_newa C (t := 13) (i := x) (N := 96) (ty := .int) (zqP x hx 2 (by omega)) rfl (by decide) rfl rfl (by decide) wA_int (nI_pos (by omega)) (nI_clamp (by omega)) (by decide) (fun _ => rfl) (by decide) (by decide) dX2_init_22 ?_
  refine n_putf C hinit (t := 1) (i := x) (k := 9) tyX2 tyX2_ok nmX2 (zqP0 x hx) (by omega) rfl rfl zinX2 (by decide) rfl (zoP x hx 2 (by omega)) fl_RX2_18 rfl rfl (fun _ => rfl) (fun _ => rfl) rfl dX2_init_24 ?_
  refine n_aload_n C 0 dX2_init_27 rfl rfl ?_
  refine n_bipush C (nI 96) dX2_init_28 (by decide +kernel) ?_
  refine n_newa C (t := 14) (i := x) (N := 96) (ty := .boolean) (zqP x hx 3 (by omega)) rfl (by decide) rfl rfl (by decide) wA_boolean (nI_pos (by omega)) (nI_clamp (by omega)) (by decide) (fun _ => rfl) (by decide) (by decide) dX2_init_30 ?_
  refine n_putf C hinit (t := 1) (i := x) (k := 10) tyX2 tyX2_ok nmX2 (zqP0 x hx) (by omega) rfl rfl zinX2 (by decide) rfl (zoP x hx 3 (by omega)) fl_RX2_21 rfl rfl (fun _ => rfl) (fun _ => rfl) rfl dX2_init_32 ?_
  refine n_aload_n C 0 dX2_init_35 rfl rfl ?_
  refine n_bipush C (nI 64) dX2_init_36 (by decide +kernel) ?_
  refine n_newa C (t := 15) (i := x) (N := 64) (ty := .int) (zqP x hx 4 (by omega)) rfl (by decide) rfl rfl (by decide) wA_int (nI_pos (by omega)) (nI_clamp (by omega)) (by decide) (fun _ => rfl) (by decide) (by decide) dX2_init_38 ?_
  refine n_putf C hinit (t := 1) (i := x) (k := 11) tyX2 tyX2_ok nmX2 (zqP0 x hx) (by omega) rfl rfl zinX2 (by decide) rfl (zoP x hx 4 (by omega)) fl_RX2_25 rfl rfl (fun _ => rfl) (fun _ => rfl) rfl dX2_init_40 ?_
  exact n_ret C hr dX2_init_43 rfl (by omega) (by omega) (by decide) (by decide)
set_option maxRecDepth 100000 in
set_option maxHeartbeats 4000000 in
theorem c_X5_init (X : zX)  : NC X yX5_init cX5_init 3 1 1 64 [.inr (.inl (2, 0)), .inr (.inl (1, 1)), .inr (.inl (10, 0))] g0 (13) (15) g0 (16) (16) := by
  refine NC.of (own := RX5) (L := [some (.inr (.inl (2, 0))), some (.inr (.inl (1, 1))), some (.inr (.inl (10, 0)))]) (by decide) rfl rfl (by intro v hv y h; subst h; simp at hv) (Nat.le_of_ble_eq_true rfl) rfl ?_
  intro p l e s m args below meth c C hinit hr
  refine n_aload_n C 0 dX5_init_0 rfl rfl ?_
  refine n_init C wO_RX5 wOI wOC (by decide) (by decide) dX5_init_1 ?_
  refine n_aload_n C 0 dX5_init_4 rfl rfl ?_
  refine n_bipush C (nI 64) dX5_init_5 (by decide +kernel) ?_
  refine n_newa C (t := 16) (i := 1) (N := 64) (ty := .boolean) (by decide +kernel) rfl (by decide) rfl rfl (by decide) wA_boolean (nI_pos (by omega)) (nI_clamp (by omega)) (by decide) (fun _ => rfl) (by decide) (by decide) dX5_init_7 ?_
  refine n_putf C hinit (t := 2) (i := 0) (k := 2) tyX5 tyX5_ok nmX5 (j := 14) (by decide +kernel) (by omega) rfl rfl zinX5 (by decide) rfl (by decide +kernel) fl_RX5_9 rfl rfl (fun _ => rfl) (fun _ => rfl) rfl dX5_init_9 ?_
  refine n_aload_n C 0 dX5_init_12 rfl rfl ?_
  refine n_aload_n C 1 dX5_init_13 rfl rfl ?_
  refine n_putf C hinit (t := 2) (i := 0) (k := 0) tyX5 tyX5_ok nmX5 (j := 14) (by decide +kernel) (by omega) rfl rfl zinX5 (by decide) rfl (by decide +kernel) fl_RX5_15 rfl rfl (fun _ => rfl) (fun _ => rfl) rfl dX5_init_14 ?_
  refine n_aload_n C 0 dX5_init_17 rfl rfl ?_
  refine n_aload_n C 2 dX5_init_18 rfl rfl ?_
  refine n_putf C hinit (t := 2) (i := 0) (k := 1) tyX5 tyX5_ok nmX5 (j := 14) (by decide +kernel) (by omega) rfl rfl zinX5 (by decide) rfl (by decide +kernel) fl_RX5_19 rfl rfl (fun _ => rfl) (fun _ => rfl) rfl dX5_init_19 ?_
  exact n_ret C hr dX5_init_22 rfl (by omega) (by omega) (by decide) (by decide)
set_option maxRecDepth 100000 in
set_option maxHeartbeats 4000000 in
theorem c_X0_init (X : zX) {r c0 : Nat} (hr0 : r < 3) (hc0 : c0 < 4) : NC X yX0_init cX0_init 2 1 6 144 [.inr (.inl (4, 4 * r + c0)), .inr (.inl (1, 0))] g0 (47 * r + 10 * c0 + 23) (42 * r + 9 * c0 + 23) g0 (47 * r + 10 * c0 + 30) (42 * r + 9 * c0 + 29) := by
  refine NC.of (own := RX0) (L := [some (.inr (.inl (4, 4 * r + c0))), some (.inr (.inl (1, 0)))]) (by decide) rfl rfl (by intro v hv y h; subst h; simp at hv) (Nat.le_of_ble_eq_true rfl) rfl ?_
  intro p l e s m args below meth c C hinit hr
  refine n_aload_n C 0 dX0_init_0 rfl rfl ?_
  refine n_init C wO_RX0 wOI wOC (by decide) (by decide) dX0_init_1 ?_
  refine n_aload_n C 0 dX0_init_4 rfl rfl ?_
  refine n_bipush C (nI 16) dX0_init_5 (by decide +kernel) ?_
  refine n_newa C (t := 22) (i := (4 * r + c0)) (N := 16) (ty := .int) (zqC r hr0 c0 hc0 0 (by omega)) rfl (by decide) rfl rfl (by decide) wA_int (nI_pos (by omega)) (nI_clamp (by omega)) (by decide) (fun _ => rfl) (by decide) (by decide) dX0_init_7 ?_
  refine n_putf C hinit (t := 4) (i := (4 * r + c0)) (k := 1) tyX0 tyX0_ok nmX0 (zqC0 r hr0 c0 hc0) (by omega) rfl rfl zinX0 (by decide) rfl (zoC r hr0 c0 hc0 0 (by omega)) fl_RX0_9 rfl rfl (fun _ => rfl) (fun _ => rfl) rfl dX0_init_9 ?_
  refine n_aload_n C 0 dX0_init_12 rfl rfl ?_
  refine n_bipush C (nI 16) dX0_init_13 (by decide +kernel) ?_
  refine n_newa C (t := 23) (i := (4 * r + c0)) (N := 16) (ty := .int) (zqC r hr0 c0 hc0 1 (by omega)) rfl (by decide) rfl rfl (by decide) wA_int (nI_pos (by omega)) (nI_clamp (by omega)) (by decide) (fun _ => rfl) (by decide) (by decide) dX0_init_15 ?_
  refine n_putf C hinit (t := 4) (i := (4 * r + c0)) (k := 2) tyX0 tyX0_ok nmX0 (zqC0 r hr0 c0 hc0) (by omega) rfl rfl zinX0 (by decide) rfl (zoC r hr0 c0 hc0 1 (by omega)) fl_RX0_15 rfl rfl (fun _ => rfl) (fun _ => rfl) rfl dX0_init_17 ?_
  refine n_aload_n C 0 dX0_init_20 rfl rfl ?_
  refine n_bipush C (nI 16) dX0_init_21 (by decide +kernel) ?_
  refine n_newa C (t := 24) (i := (4 * r + c0)) (N := 16) (ty := .boolean) (zqC r hr0 c0 hc0 2 (by omega)) rfl (by decide) rfl rfl (by decide) wA_boolean (nI_pos (by omega)) (nI_clamp (by omega)) (by decide) (fun _ => rfl) (by decide) (by decide) dX0_init_23 ?_
  refine n_putf C hinit (t := 4) (i := (4 * r + c0)) (k := 3) tyX0 tyX0_ok nmX0 (zqC0 r hr0 c0 hc0) (by omega) rfl rfl zinX0 (by decide) rfl (zoC r hr0 c0 hc0 2 (by omega)) fl_RX0_18 rfl rfl (fun _ => rfl) (fun _ => rfl) rfl dX0_init_25 ?_
  refine n_aload_n C 0 dX0_init_28 rfl rfl ?_
  refine n_bipush C (nI 16) dX0_init_29 (by decide +kernel) ?_
  refine n_newa C (t := 25) (i := (4 * r + c0)) (N := 16) (ty := .boolean) (zqC r hr0 c0 hc0 3 (by omega)) rfl (by decide) rfl rfl (by decide) wA_boolean (nI_pos (by omega)) (nI_clamp (by omega)) (by decide) (fun _ => rfl) (by decide) (by decide) dX0_init_31 ?_
  refine n_putf C hinit (t := 4) (i := (4 * r + c0)) (k := 4) tyX0 tyX0_ok nmX0 (zqC0 r hr0 c0 hc0) (by omega) rfl rfl zinX0 (by decide) rfl (zoC r hr0 c0 hc0 3 (by omega)) fl_RX0_22 rfl rfl (fun _ => rfl) (fun _ => rfl) rfl dX0_init_33 ?_
  refine n_aload_n C 0 dX0_init_36 rfl rfl ?_
  refine n_bipush C (nI 16) dX0_init_37 (by decide +kernel) ?_
  refine n_newa C (t := 26) (i := (4 * r + c0)) (N := 16) (ty := .int) (zqC r hr0 c0 hc0 4 (by omega)) rfl (by decide) rfl rfl (by decide) wA_int (nI_pos (by omega)) (nI_clamp (by omega)) (by decide) (fun _ => rfl) (by decide) (by decide) dX0_init_39 ?_
  refine n_putf C hinit (t := 4) (i := (4 * r + c0)) (k := 5) tyX0 tyX0_ok nmX0 (zqC0 r hr0 c0 hc0) (by omega) rfl rfl zinX0 (by decide) rfl (zoC r hr0 c0 hc0 4 (by omega)) fl_RX0_25 rfl rfl (fun _ => rfl) (fun _ => rfl) rfl dX0_init_41 ?_
  refine n_aload_n C 0 dX0_init_44 rfl rfl ?_
  refine n_bipush C (nI 64) dX0_init_45 (by decide +kernel) ?_
  refine n_newa C (t := 27) (i := (4 * r + c0)) (N := 64) (ty := .int) (zqC r hr0 c0 hc0 5 (by omega)) rfl (by decide) rfl rfl (by decide) wA_int (nI_pos (by omega)) (nI_clamp (by omega)) (by decide) (fun _ => rfl) (by decide) (by decide) dX0_init_47 ?_
  refine n_putf C hinit (t := 4) (i := (4 * r + c0)) (k := 6) tyX0 tyX0_ok nmX0 (zqC0 r hr0 c0 hc0) (by omega) rfl rfl zinX0 (by decide) rfl (zoC r hr0 c0 hc0 5 (by omega)) fl_RX0_28 rfl rfl (fun _ => rfl) (fun _ => rfl) rfl dX0_init_49 ?_
  refine n_aload_n C 0 dX0_init_52 rfl rfl ?_
  refine n_aload_n C 1 dX0_init_53 rfl rfl ?_
  refine n_putf C hinit (t := 4) (i := (4 * r + c0)) (k := 0) tyX0 tyX0_ok nmX0 (zqC0 r hr0 c0 hc0) (by omega) rfl rfl zinX0 (by decide) rfl (zoCp r hr0 c0 hc0) fl_RX0_31 rfl rfl (fun _ => rfl) (fun _ => rfl) rfl dX0_init_54 ?_
  exact n_ret C hr dX0_init_57 rfl (by omega) (by omega) (by decide) (by decide)
set_option maxRecDepth 100000 in
set_option maxHeartbeats 4000000 in
theorem c_X1_init (X : zX) {r c0 : Nat} (hr0 : r < 3) (hc0 : c0 < 4) : NC X yX1_init cX1_init 1 1 1 7 [.inr (.inl (5, 4 * r + c0))] g0 (47 * r + 10 * c0 + 31) (42 * r + 9 * c0 + 30) g0 (47 * r + 10 * c0 + 32) (42 * r + 9 * c0 + 31) := by
  refine NC.of (own := RX1) (L := [some (.inr (.inl (5, 4 * r + c0)))]) (by decide) rfl rfl (by intro v hv y h; subst h; simp at hv) (Nat.le_of_ble_eq_true rfl) rfl ?_
  intro p l e s m args below meth c C hinit hr
  refine n_aload_n C 0 dX1_init_0 rfl rfl ?_
  refine n_init C wO_RX1 wOI wOC (by decide) (by decide) dX1_init_1 ?_
  refine n_aload_n C 0 dX1_init_4 rfl rfl ?_
  refine n_bipush C (nI 7) dX1_init_5 (by decide +kernel) ?_
  refine n_newa C (t := 28) (i := (4 * r + c0)) (N := 7) (ty := .int) (zqK r hr0 c0 hc0) rfl (by decide) rfl rfl (by decide) wA_int (nI_pos (by omega)) (nI_clamp (by omega)) (by decide) (fun _ => rfl) (by decide) (by decide) dX1_init_7 ?_
  refine n_putf C hinit (t := 5) (i := (4 * r + c0)) (k := 7) tyX1 tyX1_ok nmX1 (zqK0 r hr0 c0 hc0) (by omega) rfl rfl zinX1 (by decide) rfl (zoK r hr0 c0 hc0) fl_RX1_9 rfl rfl (fun _ => rfl) (fun _ => rfl) rfl dX1_init_9 ?_
  exact n_ret C hr dX1_init_12 rfl (by omega) (by omega) (by decide) (by decide)
set_option maxRecDepth 100000 in
set_option maxHeartbeats 4000000 in
theorem c_X4_init (X : zX)  : NC X yX4_init cX4_init 2 1 1 64 [.inr (.inl (6, 0)), .inr (.inl (1, 0))] g0 (158) (143) g0 (160) (144) := by
  refine NC.of (own := RX4) (L := [some (.inr (.inl (6, 0))), some (.inr (.inl (1, 0)))]) (by decide) rfl rfl (by intro v hv y h; subst h; simp at hv) (Nat.le_of_ble_eq_true rfl) rfl ?_
  intro p l e s m args below meth c C hinit hr
  refine n_aload_n C 0 dX4_init_0 rfl rfl ?_
  refine n_init C wO_RX4 wOI wOC (by decide) (by decide) dX4_init_1 ?_
  refine n_aload_n C 0 dX4_init_4 rfl rfl ?_
  refine n_bipush C (nI 64) dX4_init_5 (by decide +kernel) ?_
  refine n_newa C (t := 29) (i := 0) (N := 64) (ty := .int) (by decide +kernel) rfl (by decide) rfl rfl (by decide) wA_int (nI_pos (by omega)) (nI_clamp (by omega)) (by decide) (fun _ => rfl) (by decide) (by decide) dX4_init_7 ?_
  refine n_putf C hinit (t := 6) (i := 0) (k := 1) tyX4 tyX4_ok nmX4 (j := 142) (by decide +kernel) (by omega) rfl rfl zinX4 (by decide) rfl (by decide +kernel) fl_RX4_9 rfl rfl (fun _ => rfl) (fun _ => rfl) rfl dX4_init_9 ?_
  refine n_aload_n C 0 dX4_init_12 rfl rfl ?_
  refine n_aload_n C 1 dX4_init_13 rfl rfl ?_
  refine n_putf C hinit (t := 6) (i := 0) (k := 0) tyX4 tyX4_ok nmX4 (j := 142) (by decide +kernel) (by omega) rfl rfl zinX4 (by decide) rfl (by decide +kernel) fl_RX4_15 rfl rfl (fun _ => rfl) (fun _ => rfl) rfl dX4_init_14 ?_
  exact n_ret C hr dX4_init_17 rfl (by omega) (by omega) (by decide) (by decide)
set_option maxRecDepth 100000 in
set_option maxHeartbeats 4000000 in
theorem c_X3_init (X : zX) {r : Nat} (hr0 : r < 3) : NC X yX3_init cX3_init 3 2 41 935 [.inr (.inl (3, r)), .inr (.inl (1, 0))] g0 (47 * r + 17) (42 * r + 17) g0 (47 * r + 63) (42 * r + 58) := by
  refine NC.of (own := RX3) (L := [some (.inr (.inl (3, r))), some (.inr (.inl (1, 0))), none]) (by decide) rfl rfl (by intro v hv y h; subst h; simp at hv) (Nat.le_of_ble_eq_true rfl) rfl ?_
  intro p l e s m args below meth c C hinit hr
  refine n_aload_n C 0 dX3_init_0 rfl rfl ?_
  refine n_init C wO_RX3 wOI wOC (by decide) (by decide) dX3_init_1 ?_
  refine n_aload_n C 0 dX3_init_4 rfl rfl ?_
  refine n_bipush C (nI 68) dX3_init_5 (by decide +kernel) ?_
  refine n_newa C (t := 17) (i := r) (N := 68) (ty := .int) (zqR r hr0 0 (by omega)) rfl (by decide) rfl rfl (by decide) wA_int (nI_pos (by omega)) (nI_clamp (by omega)) (by decide) (fun _ => rfl) (by decide) (by decide) dX3_init_7 ?_
  refine n_putf C hinit (t := 3) (i := r) (k := 1) tyX3 tyX3_ok nmX3 (zqR0 r hr0) (by omega) rfl rfl zinX3 (by decide) rfl (zoR r hr0 0 (by omega)) fl_RX3_9 rfl rfl (fun _ => rfl) (fun _ => rfl) rfl dX3_init_9 ?_
  refine n_aload_n C 0 dX3_init_12 rfl rfl ?_
  refine n_iconst C (nI 4) dX3_init_13 (by decide +kernel) ?_
  refine n_anew C (t := 18) (i := r) (N := 4) (zqR r hr0 1 (by omega)) rfl rfl C.2.2.2.2.2.1.2.1 wL_RX3_15 (laid_new (lnA r hr0) (by omega)) (nI_pos (by omega)) (nI_clamp (by omega)) (by decide) (by decide) (by decide) dX3_init_14 ?_
  refine n_putf C hinit (t := 3) (i := r) (k := 2) tyX3 tyX3_ok nmX3 (zqR0 r hr0) (by omega) rfl rfl zinX3 (by decide) rfl (zoR r hr0 1 (by omega)) fl_RX3_17 rfl rfl (fun _ => rfl) (fun _ => rfl) rfl dX3_init_17 ?_
  refine n_aload_n C 0 dX3_init_20 rfl rfl ?_
  refine n_iconst C (nI 4) dX3_init_21 (by decide +kernel) ?_
  refine n_anew C (t := 19) (i := r) (N := 4) (zqR r hr0 2 (by omega)) rfl rfl C.2.2.2.2.2.1.2.2 wL_RX3_21 (laid_new (lnB r hr0) (by omega)) (nI_pos (by omega)) (nI_clamp (by omega)) (by decide) (by decide) (by decide) dX3_init_22 ?_
  refine n_putf C hinit (t := 3) (i := r) (k := 3) tyX3 tyX3_ok nmX3 (zqR0 r hr0) (by omega) rfl rfl zinX3 (by decide) rfl (zoR r hr0 2 (by omega)) fl_RX3_23 rfl rfl (fun _ => rfl) (fun _ => rfl) rfl dX3_init_25 ?_
  refine n_aload_n C 0 dX3_init_28 rfl rfl ?_
  refine n_iconst C (nI 3) dX3_init_29 (by decide +kernel) ?_
  refine n_newa C (t := 20) (i := r) (N := 3) (ty := .int) (zqR r hr0 3 (by omega)) rfl (by decide) rfl rfl (by decide) wA_int (nI_pos (by omega)) (nI_clamp (by omega)) (by decide) (fun _ => rfl) (by decide) (by decide) dX3_init_30 ?_
  refine n_putf C hinit (t := 3) (i := r) (k := 4) tyX3 tyX3_ok nmX3 (zqR0 r hr0) (by omega) rfl rfl zinX3 (by decide) rfl (zoR r hr0 3 (by omega)) fl_RX3_27 rfl rfl (fun _ => rfl) (fun _ => rfl) rfl dX3_init_32 ?_
  refine n_aload_n C 0 dX3_init_35 rfl rfl ?_
  refine n_sipush C (nI 192) dX3_init_36 (by decide +kernel) ?_
  refine n_newa C (t := 21) (i := r) (N := 192) (ty := .int) (zqR r hr0 4 (by omega)) rfl (by decide) rfl rfl (by decide) wA_int (nI_pos (by omega)) (nI_clamp (by omega)) (by decide) (fun _ => rfl) (by decide) (by decide) dX3_init_39 ?_
  refine n_putf C hinit (t := 3) (i := r) (k := 5) tyX3 tyX3_ok nmX3 (zqR0 r hr0) (by omega) rfl rfl zinX3 (by decide) rfl (zoR r hr0 4 (by omega)) fl_RX3_30 rfl rfl (fun _ => rfl) (fun _ => rfl) rfl dX3_init_41 ?_
  refine n_aload_n C 0 dX3_init_44 rfl rfl ?_
  refine n_aload_n C 1 dX3_init_45 rfl rfl ?_
  refine n_putf C hinit (t := 3) (i := r) (k := 0) tyX3 tyX3_ok nmX3 (zqR0 r hr0) (by omega) rfl rfl zinX3 (by decide) rfl (zoRp r hr0) fl_RX3_33 rfl rfl (fun _ => rfl) (fun _ => rfl) rfl dX3_init_46 ?_
  refine n_iconst C (nI 0) dX3_init_49 (by decide +kernel) ?_
  refine n_istore_n C 2 dX3_init_50 rfl (by decide) rfl ?_
  refine n_cast (τ' := 47 * r + 10 * 0 + 23) (n' := 42 * r + 9 * 0 + 22) (cells' := 5) (slots' := 271) (by omega) (by omega) (by decide) (by decide) ?_
  refine n_iload_n C 2 dX3_init_51 rfl rfl ?_
  refine n_iconst C (nI 4) dX3_init_52 (by decide +kernel) ?_
  refine n_icmp_geN C 89 dX3_init_53 (by decide) (by decide +kernel) ?_
  refine n_aload_n C 0 dX3_init_56 rfl rfl ?_
  refine n_get C (t := 3) (i := r) (k := 2) (zqR0 r hr0) (by omega) rfl rfl zinX3 (by decide) rfl (ldR r hr0 0 (by omega)).1 rfl fl_RX3_17 dX3_init_57 ?_
  refine n_iload_n C 2 dX3_init_60 rfl rfl ?_
  refine n_new C (t := 4) (i := (4 * r + 0)) tyX0 tyX0_ok (zqC0 r hr0 0 (by omega)) rfl rfl zinX0 (n_fs tyX0 (nf0 _ _ rfl) (fun _ => rfl) (laid_new (lnC r hr0 0 (by omega)) (by omega))) wL_RX3_15 wI_RX0 wT_RX0 (by decide) (by decide) dX3_init_61 ?_
  refine n_dup C dX3_init_64 ?_
  refine n_aload_n C 1 dX3_init_65 rfl rfl ?_
  refine n_callN C (as := [.inr (.inl (1, 0))]) (rest := [.inr (.inl (4, 4 * r + 0)), .inl (nI 0), .inr (.inl (18, r))]) (c_X0_init X (r := r) (c0 := 0) hr0 (by omega)) mw_X0_init rfl mn_X0_init (host := "TriedLines") (index := 37) (by decide +kernel) (by decide) rfl (Nat.le_of_ble_eq_true rfl) (by decide) dX3_init_66 rfl ?_
  refine n_aast C (t := 18) (i := r) (k := 0) (tk := 4) (ik := 4 * r + 0) (zqR r hr0 1 (by omega)) (by omega) rfl rfl (zoA r hr0 0 (by omega)) rfl (zqC0 r hr0 0 (by omega)) (by omega) rfl rfl (by decide +kernel) (by decide +kernel) (by decide) dX3_init_69 ?_
  refine n_aload_n C 0 dX3_init_70 rfl rfl ?_
  refine n_get C (t := 3) (i := r) (k := 3) (zqR0 r hr0) (by omega) rfl rfl zinX3 (by decide) rfl (ldR r hr0 0 (by omega)).2 rfl fl_RX3_23 dX3_init_71 ?_
  refine n_iload_n C 2 dX3_init_74 rfl rfl ?_
  refine n_new C (t := 5) (i := (4 * r + 0)) tyX1 tyX1_ok (zqK0 r hr0 0 (by omega)) rfl rfl zinX1 (n_fs tyX1 (nf1 _ _ rfl) (fun _ => rfl) (laid_new (lnK r hr0 0 (by omega)) (by omega))) wL_RX3_21 wI_RX1 wT_RX1 (by decide) (by decide) dX3_init_75 ?_
  refine n_dup C dX3_init_78 ?_
  refine n_callN C (as := []) (rest := [.inr (.inl (5, 4 * r + 0)), .inl (nI 0), .inr (.inl (19, r))]) (c_X1_init X (r := r) (c0 := 0) hr0 (by omega)) mw_X1_init rfl mn_X1_init (host := "TriedLines") (index := 40) (by decide +kernel) (by decide) rfl (Nat.le_of_ble_eq_true rfl) (by decide) dX3_init_79 rfl ?_
  refine n_aast C (t := 19) (i := r) (k := 0) (tk := 5) (ik := 4 * r + 0) (zqR r hr0 2 (by omega)) (by omega) rfl rfl (zoB r hr0 0 (by omega)) rfl (zqK0 r hr0 0 (by omega)) (by omega) rfl rfl (by decide +kernel) (by decide +kernel) (by decide) dX3_init_82 ?_
  refine n_iinc C 2 1 dX3_init_83 (by decide) (by decide) rfl rfl ?_
  refine n_goto C 51 dX3_init_86 (by decide) ?_
  refine n_cast (τ' := 47 * r + 10 * 1 + 23) (n' := 42 * r + 9 * 1 + 22) (cells' := 14) (slots' := 437) (by omega) (by omega) (by decide) (by decide) ?_
  refine n_iload_n C 2 dX3_init_51 rfl rfl ?_
  refine n_iconst C (nI 4) dX3_init_52 (by decide +kernel) ?_
  refine n_icmp_geN C 89 dX3_init_53 (by decide) (by decide +kernel) ?_
  refine n_aload_n C 0 dX3_init_56 rfl rfl ?_
  refine n_get C (t := 3) (i := r) (k := 2) (zqR0 r hr0) (by omega) rfl rfl zinX3 (by decide) rfl (ldR r hr0 1 (by omega)).1 rfl fl_RX3_17 dX3_init_57 ?_
  refine n_iload_n C 2 dX3_init_60 rfl rfl ?_
  refine n_new C (t := 4) (i := (4 * r + 1)) tyX0 tyX0_ok (zqC0 r hr0 1 (by omega)) rfl rfl zinX0 (n_fs tyX0 (nf0 _ _ rfl) (fun _ => rfl) (laid_new (lnC r hr0 1 (by omega)) (by omega))) wL_RX3_15 wI_RX0 wT_RX0 (by decide) (by decide) dX3_init_61 ?_
  refine n_dup C dX3_init_64 ?_
  refine n_aload_n C 1 dX3_init_65 rfl rfl ?_
  refine n_callN C (as := [.inr (.inl (1, 0))]) (rest := [.inr (.inl (4, 4 * r + 1)), .inl (nI 0 + 1), .inr (.inl (18, r))]) (c_X0_init X (r := r) (c0 := 1) hr0 (by omega)) mw_X0_init rfl mn_X0_init (host := "TriedLines") (index := 37) (by decide +kernel) (by decide) rfl (Nat.le_of_ble_eq_true rfl) (by decide) dX3_init_66 rfl ?_
  refine n_aast C (t := 18) (i := r) (k := 1) (tk := 4) (ik := 4 * r + 1) (zqR r hr0 1 (by omega)) (by omega) rfl rfl (zoA r hr0 1 (by omega)) rfl (zqC0 r hr0 1 (by omega)) (by omega) rfl rfl (by decide +kernel) (by decide +kernel) (by decide) dX3_init_69 ?_
  refine n_aload_n C 0 dX3_init_70 rfl rfl ?_
  refine n_get C (t := 3) (i := r) (k := 3) (zqR0 r hr0) (by omega) rfl rfl zinX3 (by decide) rfl (ldR r hr0 1 (by omega)).2 rfl fl_RX3_23 dX3_init_71 ?_
  refine n_iload_n C 2 dX3_init_74 rfl rfl ?_
  refine n_new C (t := 5) (i := (4 * r + 1)) tyX1 tyX1_ok (zqK0 r hr0 1 (by omega)) rfl rfl zinX1 (n_fs tyX1 (nf1 _ _ rfl) (fun _ => rfl) (laid_new (lnK r hr0 1 (by omega)) (by omega))) wL_RX3_21 wI_RX1 wT_RX1 (by decide) (by decide) dX3_init_75 ?_
  refine n_dup C dX3_init_78 ?_
  refine n_callN C (as := []) (rest := [.inr (.inl (5, 4 * r + 1)), .inl (nI 0 + 1), .inr (.inl (19, r))]) (c_X1_init X (r := r) (c0 := 1) hr0 (by omega)) mw_X1_init rfl mn_X1_init (host := "TriedLines") (index := 40) (by decide +kernel) (by decide) rfl (Nat.le_of_ble_eq_true rfl) (by decide) dX3_init_79 rfl ?_
  refine n_aast C (t := 19) (i := r) (k := 1) (tk := 5) (ik := 4 * r + 1) (zqR r hr0 2 (by omega)) (by omega) rfl rfl (zoB r hr0 1 (by omega)) rfl (zqK0 r hr0 1 (by omega)) (by omega) rfl rfl (by decide +kernel) (by decide +kernel) (by decide) dX3_init_82 ?_
  refine n_iinc C 2 1 dX3_init_83 (by decide) (by decide) rfl rfl ?_
  refine n_goto C 51 dX3_init_86 (by decide) ?_
  refine n_cast (τ' := 47 * r + 10 * 2 + 23) (n' := 42 * r + 9 * 2 + 22) (cells' := 23) (slots' := 603) (by omega) (by omega) (by decide) (by decide) ?_
  refine n_iload_n C 2 dX3_init_51 rfl rfl ?_
  refine n_iconst C (nI 4) dX3_init_52 (by decide +kernel) ?_
  refine n_icmp_geN C 89 dX3_init_53 (by decide) (by decide +kernel) ?_
  refine n_aload_n C 0 dX3_init_56 rfl rfl ?_
  refine n_get C (t := 3) (i := r) (k := 2) (zqR0 r hr0) (by omega) rfl rfl zinX3 (by decide) rfl (ldR r hr0 2 (by omega)).1 rfl fl_RX3_17 dX3_init_57 ?_
  refine n_iload_n C 2 dX3_init_60 rfl rfl ?_
  refine n_new C (t := 4) (i := (4 * r + 2)) tyX0 tyX0_ok (zqC0 r hr0 2 (by omega)) rfl rfl zinX0 (n_fs tyX0 (nf0 _ _ rfl) (fun _ => rfl) (laid_new (lnC r hr0 2 (by omega)) (by omega))) wL_RX3_15 wI_RX0 wT_RX0 (by decide) (by decide) dX3_init_61 ?_
  refine n_dup C dX3_init_64 ?_
  refine n_aload_n C 1 dX3_init_65 rfl rfl ?_
  refine n_callN C (as := [.inr (.inl (1, 0))]) (rest := [.inr (.inl (4, 4 * r + 2)), .inl (nI 0 + 1 + 1), .inr (.inl (18, r))]) (c_X0_init X (r := r) (c0 := 2) hr0 (by omega)) mw_X0_init rfl mn_X0_init (host := "TriedLines") (index := 37) (by decide +kernel) (by decide) rfl (Nat.le_of_ble_eq_true rfl) (by decide) dX3_init_66 rfl ?_
  refine n_aast C (t := 18) (i := r) (k := 2) (tk := 4) (ik := 4 * r + 2) (zqR r hr0 1 (by omega)) (by omega) rfl rfl (zoA r hr0 2 (by omega)) rfl (zqC0 r hr0 2 (by omega)) (by omega) rfl rfl (by decide +kernel) (by decide +kernel) (by decide) dX3_init_69 ?_
  refine n_aload_n C 0 dX3_init_70 rfl rfl ?_
  refine n_get C (t := 3) (i := r) (k := 3) (zqR0 r hr0) (by omega) rfl rfl zinX3 (by decide) rfl (ldR r hr0 2 (by omega)).2 rfl fl_RX3_23 dX3_init_71 ?_
  refine n_iload_n C 2 dX3_init_74 rfl rfl ?_
  refine n_new C (t := 5) (i := (4 * r + 2)) tyX1 tyX1_ok (zqK0 r hr0 2 (by omega)) rfl rfl zinX1 (n_fs tyX1 (nf1 _ _ rfl) (fun _ => rfl) (laid_new (lnK r hr0 2 (by omega)) (by omega))) wL_RX3_21 wI_RX1 wT_RX1 (by decide) (by decide) dX3_init_75 ?_
  refine n_dup C dX3_init_78 ?_
  refine n_callN C (as := []) (rest := [.inr (.inl (5, 4 * r + 2)), .inl (nI 0 + 1 + 1), .inr (.inl (19, r))]) (c_X1_init X (r := r) (c0 := 2) hr0 (by omega)) mw_X1_init rfl mn_X1_init (host := "TriedLines") (index := 40) (by decide +kernel) (by decide) rfl (Nat.le_of_ble_eq_true rfl) (by decide) dX3_init_79 rfl ?_
  refine n_aast C (t := 19) (i := r) (k := 2) (tk := 5) (ik := 4 * r + 2) (zqR r hr0 2 (by omega)) (by omega) rfl rfl (zoB r hr0 2 (by omega)) rfl (zqK0 r hr0 2 (by omega)) (by omega) rfl rfl (by decide +kernel) (by decide +kernel) (by decide) dX3_init_82 ?_
  refine n_iinc C 2 1 dX3_init_83 (by decide) (by decide) rfl rfl ?_
  refine n_goto C 51 dX3_init_86 (by decide) ?_
  refine n_cast (τ' := 47 * r + 10 * 3 + 23) (n' := 42 * r + 9 * 3 + 22) (cells' := 32) (slots' := 769) (by omega) (by omega) (by decide) (by decide) ?_
  refine n_iload_n C 2 dX3_init_51 rfl rfl ?_
  refine n_iconst C (nI 4) dX3_init_52 (by decide +kernel) ?_
  refine n_icmp_geN C 89 dX3_init_53 (by decide) (by decide +kernel) ?_
  refine n_aload_n C 0 dX3_init_56 rfl rfl ?_
  refine n_get C (t := 3) (i := r) (k := 2) (zqR0 r hr0) (by omega) rfl rfl zinX3 (by decide) rfl (ldR r hr0 3 (by omega)).1 rfl fl_RX3_17 dX3_init_57 ?_
  refine n_iload_n C 2 dX3_init_60 rfl rfl ?_
  refine n_new C (t := 4) (i := (4 * r + 3)) tyX0 tyX0_ok (zqC0 r hr0 3 (by omega)) rfl rfl zinX0 (n_fs tyX0 (nf0 _ _ rfl) (fun _ => rfl) (laid_new (lnC r hr0 3 (by omega)) (by omega))) wL_RX3_15 wI_RX0 wT_RX0 (by decide) (by decide) dX3_init_61 ?_
  refine n_dup C dX3_init_64 ?_
  refine n_aload_n C 1 dX3_init_65 rfl rfl ?_
  refine n_callN C (as := [.inr (.inl (1, 0))]) (rest := [.inr (.inl (4, 4 * r + 3)), .inl (nI 0 + 1 + 1 + 1), .inr (.inl (18, r))]) (c_X0_init X (r := r) (c0 := 3) hr0 (by omega)) mw_X0_init rfl mn_X0_init (host := "TriedLines") (index := 37) (by decide +kernel) (by decide) rfl (Nat.le_of_ble_eq_true rfl) (by decide) dX3_init_66 rfl ?_
  refine n_aast C (t := 18) (i := r) (k := 3) (tk := 4) (ik := 4 * r + 3) (zqR r hr0 1 (by omega)) (by omega) rfl rfl (zoA r hr0 3 (by omega)) rfl (zqC0 r hr0 3 (by omega)) (by omega) rfl rfl (by decide +kernel) (by decide +kernel) (by decide) dX3_init_69 ?_
  refine n_aload_n C 0 dX3_init_70 rfl rfl ?_
  refine n_get C (t := 3) (i := r) (k := 3) (zqR0 r hr0) (by omega) rfl rfl zinX3 (by decide) rfl (ldR r hr0 3 (by omega)).2 rfl fl_RX3_23 dX3_init_71 ?_
  refine n_iload_n C 2 dX3_init_74 rfl rfl ?_
  refine n_new C (t := 5) (i := (4 * r + 3)) tyX1 tyX1_ok (zqK0 r hr0 3 (by omega)) rfl rfl zinX1 (n_fs tyX1 (nf1 _ _ rfl) (fun _ => rfl) (laid_new (lnK r hr0 3 (by omega)) (by omega))) wL_RX3_21 wI_RX1 wT_RX1 (by decide) (by decide) dX3_init_75 ?_
  refine n_dup C dX3_init_78 ?_
  refine n_callN C (as := []) (rest := [.inr (.inl (5, 4 * r + 3)), .inl (nI 0 + 1 + 1 + 1), .inr (.inl (19, r))]) (c_X1_init X (r := r) (c0 := 3) hr0 (by omega)) mw_X1_init rfl mn_X1_init (host := "TriedLines") (index := 40) (by decide +kernel) (by decide) rfl (Nat.le_of_ble_eq_true rfl) (by decide) dX3_init_79 rfl ?_
  refine n_aast C (t := 19) (i := r) (k := 3) (tk := 5) (ik := 4 * r + 3) (zqR r hr0 2 (by omega)) (by omega) rfl rfl (zoB r hr0 3 (by omega)) rfl (zqK0 r hr0 3 (by omega)) (by omega) rfl rfl (by decide +kernel) (by decide +kernel) (by decide) dX3_init_82 ?_
  refine n_iinc C 2 1 dX3_init_83 (by decide) (by decide) rfl rfl ?_
  refine n_goto C 51 dX3_init_86 (by decide) ?_
  refine n_iload_n C 2 dX3_init_51 rfl rfl ?_
  refine n_iconst C (nI 4) dX3_init_52 (by decide +kernel) ?_
  refine n_icmp_geY C 89 dX3_init_53 (by decide) (by decide +kernel) ?_
  exact n_ret C hr dX3_init_89 rfl (by omega) (by omega) (by decide) (by decide)
set_option maxRecDepth 100000 in
set_option maxHeartbeats 4000000 in
theorem c_X6_init (X : zX)  : NC X yX6_init cX6_init 1 3 143 4623 [.inr (.inl (0, 0))] g0 (0) (1) g0 (161) (144) := by
  refine NC.of (own := RX6) (L := [some (.inr (.inl (0, 0)))]) (by decide) rfl rfl (by intro v hv y h; subst h; simp at hv) (Nat.le_of_ble_eq_true rfl) rfl ?_
  intro p l e s m args below meth c C hinit hr
  refine n_aload_n C 0 dX6_init_0 rfl rfl ?_
  refine n_init C wO_RX6 wOI wOC (by decide) (by decide) dX6_init_1 ?_
  refine n_aload_n C 0 dX6_init_4 rfl rfl ?_
  refine n_sipush C (nI 900) dX6_init_5 (by decide +kernel) ?_
  refine n_newa C (t := 10) (i := 0) (N := 900) (ty := .int) (by decide +kernel) rfl (by decide) rfl rfl (by decide) wA_int (nI_pos (by omega)) (nI_clamp (by omega)) (by decide) (fun _ => rfl) (by decide) (by decide) dX6_init_8 ?_
  refine n_putf C hinit (t := 0) (i := 0) (k := 0) tyX6 tyX6_ok nmX6 (j := 0) rfl (by omega) rfl rfl zinX6 (by decide) rfl (by decide +kernel) fl_RX6_9 rfl rfl (fun _ => rfl) (fun _ => rfl) rfl dX6_init_10 ?_
  refine n_aload_n C 0 dX6_init_13 rfl rfl ?_
  refine n_new C (t := 1) (i := 0) tyX2 tyX2_ok (by decide +kernel) rfl rfl zinX2 (n_fs tyX2 (nf2 _ _ rfl) (fun _ => rfl) (laid_new (by decide +kernel) (by omega))) wL_RX6_13 wI_RX2 wT_RX2 (by decide) (by decide) dX6_init_14 ?_
  refine n_dup C dX6_init_17 ?_
  refine n_callN C (as := []) (rest := [.inr (.inl (1, 0)), .inr (.inl (0, 0))]) (c_X2_init X (x := 0) (by omega)) mw_X2_init rfl mn_X2_init (host := "TriedLines") (index := 15) (by decide +kernel) (by decide) rfl (Nat.le_of_ble_eq_true rfl) (by decide) dX6_init_18 rfl ?_
  refine n_cast (τ' := 6) (n' := 8) (cells' := 7) (slots' := 1268) (by omega) (by omega) (by decide) (by decide) ?_
  refine n_putf C hinit (t := 0) (i := 0) (k := 2) tyX6 tyX6_ok nmX6 (j := 0) rfl (by omega) rfl rfl zinX6 (by decide) rfl (by decide +kernel) fl_RX6_16 rfl rfl (fun _ => rfl) (fun _ => rfl) rfl dX6_init_21 ?_
  refine n_aload_n C 0 dX6_init_24 rfl rfl ?_
  refine n_new C (t := 1) (i := 1) tyX2 tyX2_ok (by decide +kernel) rfl rfl zinX2 (n_fs tyX2 (nf2 _ _ rfl) (fun _ => rfl) (laid_new (by decide +kernel) (by omega))) wL_RX6_13 wI_RX2 wT_RX2 (by decide) (by decide) dX6_init_25 ?_
  refine n_dup C dX6_init_28 ?_
  refine n_callN C (as := []) (rest := [.inr (.inl (1, 1)), .inr (.inl (0, 0))]) (c_X2_init X (x := 1) (by omega)) mw_X2_init rfl mn_X2_init (host := "TriedLines") (index := 15) (by decide +kernel) (by decide) rfl (Nat.le_of_ble_eq_true rfl) (by decide) dX6_init_29 rfl ?_
  refine n_cast (τ' := 12) (n' := 14) (cells' := 13) (slots' := 1636) (by omega) (by omega) (by decide) (by decide) ?_
  refine n_putf C hinit (t := 0) (i := 0) (k := 3) tyX6 tyX6_ok nmX6 (j := 0) rfl (by omega) rfl rfl zinX6 (by decide) rfl (by decide +kernel) fl_RX6_20 rfl rfl (fun _ => rfl) (fun _ => rfl) rfl dX6_init_32 ?_
  refine n_aload_n C 0 dX6_init_35 rfl rfl ?_
  refine n_new C (t := 2) (i := 0) tyX5 tyX5_ok (by decide +kernel) rfl rfl zinX5 (n_fs tyX5 (nf5 _ _ rfl) (fun _ => rfl) (laid_new (by decide +kernel) (by omega))) wL_RX6_23 wI_RX5 wT_RX5 (by decide) (by decide) dX6_init_36 ?_
  refine n_dup C dX6_init_39 ?_
  refine n_aload_n C 0 dX6_init_40 rfl rfl ?_
  refine n_get C (t := 0) (i := 0) (k := 3) (j := 0) rfl (by omega) rfl rfl zinX6 (by decide) rfl (by decide +kernel) rfl fl_RX6_20 dX6_init_41 ?_
  refine n_aload_n C 0 dX6_init_44 rfl rfl ?_
  refine n_get C (t := 0) (i := 0) (k := 0) (j := 0) rfl (by omega) rfl rfl zinX6 (by decide) rfl (by decide +kernel) rfl fl_RX6_9 dX6_init_45 ?_
  refine n_callN C (as := [.inr (.inl (1, 1)), .inr (.inl (10, 0))]) (rest := [.inr (.inl (2, 0)), .inr (.inl (0, 0))]) (c_X5_init X) mw_X5_init rfl mn_X5_init (host := "TriedLines") (index := 25) (by decide +kernel) (by decide) rfl (Nat.le_of_ble_eq_true rfl) (by decide) dX6_init_48 rfl ?_
  refine n_cast (τ' := 16) (n' := 16) (cells' := 15) (slots' := 1712) (by omega) (by omega) (by decide) (by decide) ?_
  refine n_putf C hinit (t := 0) (i := 0) (k := 4) tyX6 tyX6_ok nmX6 (j := 0) rfl (by omega) rfl rfl zinX6 (by decide) rfl (by decide +kernel) fl_RX6_28 rfl rfl (fun _ => rfl) (fun _ => rfl) rfl dX6_init_51 ?_
  refine n_aload_n C 0 dX6_init_54 rfl rfl ?_
  refine n_new C (t := 3) (i := 0) tyX3 tyX3_ok (by decide +kernel) rfl rfl zinX3 (n_fs tyX3 (nf3 _ _ rfl) (fun _ => rfl) (laid_new (by decide +kernel) (by omega))) wL_RX6_32 wI_RX3 wT_RX3 (by decide) (by decide) dX6_init_55 ?_
  refine n_dup C dX6_init_58 ?_
  refine n_aload_n C 0 dX6_init_59 rfl rfl ?_
  refine n_get C (t := 0) (i := 0) (k := 2) (j := 0) rfl (by omega) rfl rfl zinX6 (by decide) rfl (by decide +kernel) rfl fl_RX6_16 dX6_init_60 ?_
  refine n_callN C (as := [.inr (.inl (1, 0))]) (rest := [.inr (.inl (3, 0)), .inr (.inl (0, 0))]) (c_X3_init X (r := 0) (by omega)) mw_X3_init rfl mn_X3_init (host := "TriedLines") (index := 34) (by decide +kernel) (by decide) rfl (Nat.le_of_ble_eq_true rfl) (by decide) dX6_init_63 rfl ?_
  refine n_cast (τ' := 63) (n' := 58) (cells' := 57) (slots' := 2659) (by omega) (by omega) (by decide) (by decide) ?_
  refine n_putf C hinit (t := 0) (i := 0) (k := 5) tyX6 tyX6_ok nmX6 (j := 0) rfl (by omega) rfl rfl zinX6 (by decide) rfl (by decide +kernel) fl_RX6_37 rfl rfl (fun _ => rfl) (fun _ => rfl) rfl dX6_init_66 ?_
  refine n_aload_n C 0 dX6_init_69 rfl rfl ?_
  refine n_new C (t := 3) (i := 1) tyX3 tyX3_ok (by decide +kernel) rfl rfl zinX3 (n_fs tyX3 (nf3 _ _ rfl) (fun _ => rfl) (laid_new (by decide +kernel) (by omega))) wL_RX6_32 wI_RX3 wT_RX3 (by decide) (by decide) dX6_init_70 ?_
  refine n_dup C dX6_init_73 ?_
  refine n_aload_n C 0 dX6_init_74 rfl rfl ?_
  refine n_get C (t := 0) (i := 0) (k := 2) (j := 0) rfl (by omega) rfl rfl zinX6 (by decide) rfl (by decide +kernel) rfl fl_RX6_16 dX6_init_75 ?_
  refine n_callN C (as := [.inr (.inl (1, 0))]) (rest := [.inr (.inl (3, 1)), .inr (.inl (0, 0))]) (c_X3_init X (r := 1) (by omega)) mw_X3_init rfl mn_X3_init (host := "TriedLines") (index := 34) (by decide +kernel) (by decide) rfl (Nat.le_of_ble_eq_true rfl) (by decide) dX6_init_78 rfl ?_
  refine n_cast (τ' := 110) (n' := 100) (cells' := 99) (slots' := 3606) (by omega) (by omega) (by decide) (by decide) ?_
  refine n_putf C hinit (t := 0) (i := 0) (k := 6) tyX6 tyX6_ok nmX6 (j := 0) rfl (by omega) rfl rfl zinX6 (by decide) rfl (by decide +kernel) fl_RX6_41 rfl rfl (fun _ => rfl) (fun _ => rfl) rfl dX6_init_81 ?_
  refine n_aload_n C 0 dX6_init_84 rfl rfl ?_
  refine n_new C (t := 3) (i := 2) tyX3 tyX3_ok (by decide +kernel) rfl rfl zinX3 (n_fs tyX3 (nf3 _ _ rfl) (fun _ => rfl) (laid_new (by decide +kernel) (by omega))) wL_RX6_32 wI_RX3 wT_RX3 (by decide) (by decide) dX6_init_85 ?_
  refine n_dup C dX6_init_88 ?_
  refine n_aload_n C 0 dX6_init_89 rfl rfl ?_
  refine n_get C (t := 0) (i := 0) (k := 2) (j := 0) rfl (by omega) rfl rfl zinX6 (by decide) rfl (by decide +kernel) rfl fl_RX6_16 dX6_init_90 ?_
  refine n_callN C (as := [.inr (.inl (1, 0))]) (rest := [.inr (.inl (3, 2)), .inr (.inl (0, 0))]) (c_X3_init X (r := 2) (by omega)) mw_X3_init rfl mn_X3_init (host := "TriedLines") (index := 34) (by decide +kernel) (by decide) rfl (Nat.le_of_ble_eq_true rfl) (by decide) dX6_init_93 rfl ?_
  refine n_cast (τ' := 157) (n' := 142) (cells' := 141) (slots' := 4553) (by omega) (by omega) (by decide) (by decide) ?_
  refine n_putf C hinit (t := 0) (i := 0) (k := 7) tyX6 tyX6_ok nmX6 (j := 0) rfl (by omega) rfl rfl zinX6 (by decide) rfl (by decide +kernel) fl_RX6_44 rfl rfl (fun _ => rfl) (fun _ => rfl) rfl dX6_init_96 ?_
  refine n_aload_n C 0 dX6_init_99 rfl rfl ?_
  refine n_new C (t := 6) (i := 0) tyX4 tyX4_ok (by decide +kernel) rfl rfl zinX4 (n_fs tyX4 (nf4 _ _ rfl) (fun _ => rfl) (laid_new (by decide +kernel) (by omega))) wL_RX6_47 wI_RX4 wT_RX4 (by decide) (by decide) dX6_init_100 ?_
  refine n_dup C dX6_init_103 ?_
  refine n_aload_n C 0 dX6_init_104 rfl rfl ?_
  refine n_get C (t := 0) (i := 0) (k := 2) (j := 0) rfl (by omega) rfl rfl zinX6 (by decide) rfl (by decide +kernel) rfl fl_RX6_16 dX6_init_105 ?_
  refine n_callN C (as := [.inr (.inl (1, 0))]) (rest := [.inr (.inl (6, 0)), .inr (.inl (0, 0))]) (c_X4_init X) mw_X4_init rfl mn_X4_init (host := "TriedLines") (index := 49) (by decide +kernel) (by decide) rfl (Nat.le_of_ble_eq_true rfl) (by decide) dX6_init_108 rfl ?_
  refine n_cast (τ' := 160) (n' := 144) (cells' := 143) (slots' := 4623) (by omega) (by omega) (by decide) (by decide) ?_
  refine n_putf C hinit (t := 0) (i := 0) (k := 8) tyX6 tyX6_ok nmX6 (j := 0) rfl (by omega) rfl rfl zinX6 (by decide) rfl (by decide +kernel) fl_RX6_50 rfl rfl (fun _ => rfl) (fun _ => rfl) rfl dX6_init_111 ?_
  exact n_ret C hr dX6_init_114 rfl (by omega) (by omega) (by decide) (by decide)
def g1 : zG := zU g0 4007 0 0 (-1)
set_option maxRecDepth 100000 in
set_option maxHeartbeats 4000000 in
theorem c_X7_init (X : zX) : NC X yX7_init cX7_init 1 1 17 9986 [.inr (.inl (7, 0))] g0 161 145 g1 178 162 := by
  refine NC.of (own := RX7) (L := [some (.inr (.inl (7, 0)))]) (by decide) rfl rfl (by intro v hv y h; subst h; simp at hv) (Nat.le_of_ble_eq_true rfl) rfl ?_
  intro p l e s m args below meth c C hinit hr
  refine n_aload_n C 0 dX7_init_0 rfl rfl ?_
  refine n_init C wO_RX7 wOI wOC (by decide) (by decide) dX7_init_1 ?_
  refine n_aload_n C 0 dX7_init_4 rfl rfl ?_
  refine n_iconst C (-1) dX7_init_5 (by decide) ?_
  refine n_puti C (t := 7) (i := 0) (k := 3) tyX7 tyX7_ok nmX7 (j := 144) (by decide +kernel) (by omega) rfl rfl zinX7 (by decide) rfl fl_RX7_9 rfl rfl rfl dX7_init_6 ?_
  refine n_aload_n C 0 dX7_init_9 rfl rfl ?_
  refine n_sipush C (nI 900) dX7_init_10 (by decide +kernel) ?_
  refine n_newa C (t := 30) (i := 0) (N := 900) (ty := .int) (by decide +kernel) rfl (by decide) rfl rfl (by decide) wA_int (nI_pos (by omega)) (nI_clamp (by omega)) (by decide) (fun _ => zU_ne _ _ (by omega)) (by decide) (by decide) dX7_init_13 ?_
  refine n_putf C hinit (t := 7) (i := 0) (k := 4) tyX7 tyX7_ok nmX7 (j := 144) (by decide +kernel) (by omega) rfl rfl zinX7 (by decide) rfl (by decide +kernel) fl_RX7_13 rfl rfl (fun _ => rfl) (fun _ => rfl) rfl dX7_init_15 ?_
  refine n_aload_n C 0 dX7_init_18 rfl rfl ?_
  refine n_bipush C (nI 6) dX7_init_19 (by decide +kernel) ?_
  refine n_newa C (t := 31) (i := 0) (N := 6) (ty := .int) (by decide +kernel) rfl (by decide) rfl rfl (by decide) wA_int (nI_pos (by omega)) (nI_clamp (by omega)) (by decide) (fun _ => zU_ne _ _ (by omega)) (by decide) (by decide) dX7_init_21 ?_
  refine n_putf C hinit (t := 7) (i := 0) (k := 6) tyX7 tyX7_ok nmX7 (j := 144) (by decide +kernel) (by omega) rfl rfl zinX7 (by decide) rfl (by decide +kernel) fl_RX7_17 rfl rfl (fun _ => rfl) (fun _ => rfl) rfl dX7_init_23 ?_
  refine n_aload_n C 0 dX7_init_26 rfl rfl ?_
  refine n_bipush C (nI 6) dX7_init_27 (by decide +kernel) ?_
  refine n_newa C (t := 32) (i := 0) (N := 6) (ty := .int) (by decide +kernel) rfl (by decide) rfl rfl (by decide) wA_int (nI_pos (by omega)) (nI_clamp (by omega)) (by decide) (fun _ => zU_ne _ _ (by omega)) (by decide) (by decide) dX7_init_29 ?_
  refine n_putf C hinit (t := 7) (i := 0) (k := 7) tyX7 tyX7_ok nmX7 (j := 144) (by decide +kernel) (by omega) rfl rfl zinX7 (by decide) rfl (by decide +kernel) fl_RX7_20 rfl rfl (fun _ => rfl) (fun _ => rfl) rfl dX7_init_31 ?_
  refine n_aload_n C 0 dX7_init_34 rfl rfl ?_
  refine n_bipush C (nI 64) dX7_init_35 (by decide +kernel) ?_
  refine n_newa C (t := 33) (i := 0) (N := 64) (ty := .int) (by decide +kernel) rfl (by decide) rfl rfl (by decide) wA_int (nI_pos (by omega)) (nI_clamp (by omega)) (by decide) (fun _ => zU_ne _ _ (by omega)) (by decide) (by decide) dX7_init_37 ?_
  refine n_putf C hinit (t := 7) (i := 0) (k := 10) tyX7 tyX7_ok nmX7 (j := 144) (by decide +kernel) (by omega) rfl rfl zinX7 (by decide) rfl (by decide +kernel) fl_RX7_23 rfl rfl (fun _ => rfl) (fun _ => rfl) rfl dX7_init_39 ?_
  refine n_aload_n C 0 dX7_init_42 rfl rfl ?_
  refine n_bipush C (nI 64) dX7_init_43 (by decide +kernel) ?_
  refine n_newa C (t := 34) (i := 0) (N := 64) (ty := .int) (by decide +kernel) rfl (by decide) rfl rfl (by decide) wA_int (nI_pos (by omega)) (nI_clamp (by omega)) (by decide) (fun _ => zU_ne _ _ (by omega)) (by decide) (by decide) dX7_init_45 ?_
  refine n_putf C hinit (t := 7) (i := 0) (k := 11) tyX7 tyX7_ok nmX7 (j := 144) (by decide +kernel) (by omega) rfl rfl zinX7 (by decide) rfl (by decide +kernel) fl_RX7_26 rfl rfl (fun _ => rfl) (fun _ => rfl) rfl dX7_init_47 ?_
  refine n_aload_n C 0 dX7_init_50 rfl rfl ?_
  refine n_iconst C (nI 4) dX7_init_51 (by decide +kernel) ?_
  refine n_newa C (t := 35) (i := 0) (N := 4) (ty := .int) (by decide +kernel) rfl (by decide) rfl rfl (by decide) wA_int (nI_pos (by omega)) (nI_clamp (by omega)) (by decide) (fun _ => zU_ne _ _ (by omega)) (by decide) (by decide) dX7_init_52 ?_
  refine n_putf C hinit (t := 7) (i := 0) (k := 12) tyX7 tyX7_ok nmX7 (j := 144) (by decide +kernel) (by omega) rfl rfl zinX7 (by decide) rfl (by decide +kernel) fl_RX7_29 rfl rfl (fun _ => rfl) (fun _ => rfl) rfl dX7_init_54 ?_
  refine n_aload_n C 0 dX7_init_57 rfl rfl ?_
  refine n_iconst C (nI 4) dX7_init_58 (by decide +kernel) ?_
  refine n_newa C (t := 36) (i := 0) (N := 4) (ty := .int) (by decide +kernel) rfl (by decide) rfl rfl (by decide) wA_int (nI_pos (by omega)) (nI_clamp (by omega)) (by decide) (fun _ => zU_ne _ _ (by omega)) (by decide) (by decide) dX7_init_59 ?_
  refine n_putf C hinit (t := 7) (i := 0) (k := 13) tyX7 tyX7_ok nmX7 (j := 144) (by decide +kernel) (by omega) rfl rfl zinX7 (by decide) rfl (by decide +kernel) fl_RX7_32 rfl rfl (fun _ => rfl) (fun _ => rfl) rfl dX7_init_61 ?_
  refine n_aload_n C 0 dX7_init_64 rfl rfl ?_
  refine n_bipush C (nI 96) dX7_init_65 (by decide +kernel) ?_
  refine n_newa C (t := 37) (i := 0) (N := 96) (ty := .int) (by decide +kernel) rfl (by decide) rfl rfl (by decide) wA_int (nI_pos (by omega)) (nI_clamp (by omega)) (by decide) (fun _ => zU_ne _ _ (by omega)) (by decide) (by decide) dX7_init_67 ?_
  refine n_putf C hinit (t := 7) (i := 0) (k := 14) tyX7 tyX7_ok nmX7 (j := 144) (by decide +kernel) (by omega) rfl rfl zinX7 (by decide) rfl (by decide +kernel) fl_RX7_35 rfl rfl (fun _ => rfl) (fun _ => rfl) rfl dX7_init_69 ?_
  refine n_aload_n C 0 dX7_init_72 rfl rfl ?_
  refine n_bipush C (nI 96) dX7_init_73 (by decide +kernel) ?_
  refine n_newa C (t := 38) (i := 0) (N := 96) (ty := .int) (by decide +kernel) rfl (by decide) rfl rfl (by decide) wA_int (nI_pos (by omega)) (nI_clamp (by omega)) (by decide) (fun _ => zU_ne _ _ (by omega)) (by decide) (by decide) dX7_init_75 ?_
  refine n_putf C hinit (t := 7) (i := 0) (k := 15) tyX7 tyX7_ok nmX7 (j := 144) (by decide +kernel) (by omega) rfl rfl zinX7 (by decide) rfl (by decide +kernel) fl_RX7_38 rfl rfl (fun _ => rfl) (fun _ => rfl) rfl dX7_init_77 ?_
  refine n_aload_n C 0 dX7_init_80 rfl rfl ?_
  refine n_bipush C (nI 96) dX7_init_81 (by decide +kernel) ?_
  refine n_newa C (t := 39) (i := 0) (N := 96) (ty := .int) (by decide +kernel) rfl (by decide) rfl rfl (by decide) wA_int (nI_pos (by omega)) (nI_clamp (by omega)) (by decide) (fun _ => zU_ne _ _ (by omega)) (by decide) (by decide) dX7_init_83 ?_
  refine n_putf C hinit (t := 7) (i := 0) (k := 16) tyX7 tyX7_ok nmX7 (j := 144) (by decide +kernel) (by omega) rfl rfl zinX7 (by decide) rfl (by decide +kernel) fl_RX7_41 rfl rfl (fun _ => rfl) (fun _ => rfl) rfl dX7_init_85 ?_
  refine n_aload_n C 0 dX7_init_88 rfl rfl ?_
  refine n_bipush C (nI 96) dX7_init_89 (by decide +kernel) ?_
  refine n_newa C (t := 40) (i := 0) (N := 96) (ty := .int) (by decide +kernel) rfl (by decide) rfl rfl (by decide) wA_int (nI_pos (by omega)) (nI_clamp (by omega)) (by decide) (fun _ => zU_ne _ _ (by omega)) (by decide) (by decide) dX7_init_91 ?_
  refine n_putf C hinit (t := 7) (i := 0) (k := 17) tyX7 tyX7_ok nmX7 (j := 144) (by decide +kernel) (by omega) rfl rfl zinX7 (by decide) rfl (by decide +kernel) fl_RX7_44 rfl rfl (fun _ => rfl) (fun _ => rfl) rfl dX7_init_93 ?_
  refine n_aload_n C 0 dX7_init_96 rfl rfl ?_
  refine n_bipush C (nI 96) dX7_init_97 (by decide +kernel) ?_
  refine n_newa C (t := 41) (i := 0) (N := 96) (ty := .int) (by decide +kernel) rfl (by decide) rfl rfl (by decide) wA_int (nI_pos (by omega)) (nI_clamp (by omega)) (by decide) (fun _ => zU_ne _ _ (by omega)) (by decide) (by decide) dX7_init_99 ?_
  refine n_putf C hinit (t := 7) (i := 0) (k := 18) tyX7 tyX7_ok nmX7 (j := 144) (by decide +kernel) (by omega) rfl rfl zinX7 (by decide) rfl (by decide +kernel) fl_RX7_47 rfl rfl (fun _ => rfl) (fun _ => rfl) rfl dX7_init_101 ?_
  refine n_aload_n C 0 dX7_init_104 rfl rfl ?_
  refine n_bipush C (nI 96) dX7_init_105 (by decide +kernel) ?_
  refine n_newa C (t := 42) (i := 0) (N := 96) (ty := .int) (by decide +kernel) rfl (by decide) rfl rfl (by decide) wA_int (nI_pos (by omega)) (nI_clamp (by omega)) (by decide) (fun _ => zU_ne _ _ (by omega)) (by decide) (by decide) dX7_init_107 ?_
  refine n_putf C hinit (t := 7) (i := 0) (k := 19) tyX7 tyX7_ok nmX7 (j := 144) (by decide +kernel) (by omega) rfl rfl zinX7 (by decide) rfl (by decide +kernel) fl_RX7_50 rfl rfl (fun _ => rfl) (fun _ => rfl) rfl dX7_init_109 ?_
  refine n_aload_n C 0 dX7_init_112 rfl rfl ?_
  refine n_sipush C (nI 2766) dX7_init_113 (by decide +kernel) ?_
  refine n_newa C (t := 43) (i := 0) (N := 2766) (ty := .int) (by decide +kernel) rfl (by decide) rfl rfl (by decide) wA_int (nI_pos (by omega)) (nI_clamp (by omega)) (by decide) (fun _ => zU_ne _ _ (by omega)) (by decide) (by decide) dX7_init_116 ?_
  refine n_putf C hinit (t := 7) (i := 0) (k := 30) tyX7 tyX7_ok nmX7 (j := 144) (by decide +kernel) (by omega) rfl rfl zinX7 (by decide) rfl (by decide +kernel) fl_RX7_53 rfl rfl (fun _ => rfl) (fun _ => rfl) rfl dX7_init_118 ?_
  refine n_aload_n C 0 dX7_init_121 rfl rfl ?_
  refine n_sipush C (nI 2766) dX7_init_122 (by decide +kernel) ?_
  refine n_newa C (t := 44) (i := 0) (N := 2766) (ty := .int) (by decide +kernel) rfl (by decide) rfl rfl (by decide) wA_int (nI_pos (by omega)) (nI_clamp (by omega)) (by decide) (fun _ => zU_ne _ _ (by omega)) (by decide) (by decide) dX7_init_125 ?_
  refine n_putf C hinit (t := 7) (i := 0) (k := 31) tyX7 tyX7_ok nmX7 (j := 144) (by decide +kernel) (by omega) rfl rfl zinX7 (by decide) rfl (by decide +kernel) fl_RX7_56 rfl rfl (fun _ => rfl) (fun _ => rfl) rfl dX7_init_127 ?_
  refine n_aload_n C 0 dX7_init_130 rfl rfl ?_
  refine n_sipush C (nI 2766) dX7_init_131 (by decide +kernel) ?_
  refine n_newa C (t := 45) (i := 0) (N := 2766) (ty := .int) (by decide +kernel) rfl (by decide) rfl rfl (by decide) wA_int (nI_pos (by omega)) (nI_clamp (by omega)) (by decide) (fun _ => zU_ne _ _ (by omega)) (by decide) (by decide) dX7_init_134 ?_
  refine n_putf C hinit (t := 7) (i := 0) (k := 32) tyX7 tyX7_ok nmX7 (j := 144) (by decide +kernel) (by omega) rfl rfl zinX7 (by decide) rfl (by decide +kernel) fl_RX7_59 rfl rfl (fun _ => rfl) (fun _ => rfl) rfl dX7_init_136 ?_
  refine n_aload_n C 0 dX7_init_139 rfl rfl ?_
  refine n_bipush C (nI 64) dX7_init_140 (by decide +kernel) ?_
  refine n_newa C (t := 46) (i := 0) (N := 64) (ty := .int) (by decide +kernel) rfl (by decide) rfl rfl (by decide) wA_int (nI_pos (by omega)) (nI_clamp (by omega)) (by decide) (fun _ => zU_ne _ _ (by omega)) (by decide) (by decide) dX7_init_142 ?_
  refine n_putf C hinit (t := 7) (i := 0) (k := 38) tyX7 tyX7_ok nmX7 (j := 144) (by decide +kernel) (by omega) rfl rfl zinX7 (by decide) rfl (by decide +kernel) fl_RX7_62 rfl rfl (fun _ => rfl) (fun _ => rfl) rfl dX7_init_144 ?_
  exact n_ret C hr dX7_init_147 rfl (by omega) (by omega) (by decide) (by decide)
