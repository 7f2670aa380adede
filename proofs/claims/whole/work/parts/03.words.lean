/-- the words that a call of a method takes -/
def zMW (y : MethodName) (bytes : ByteArray) (maxL : Nat) (ret : Option FieldType) (n : Nat) : Prop :=
  Cond.code y bytes maxL ret ∈ zall ∧ Cond.initialized y.cls ∈ zall ∧ (y.cls ≠ "java/lang/invoke/MethodHandle" ∧ y.cls ≠ "java/lang/invoke/VarHandle" ∧ (parseMethodDescriptor y.desc).map (fun d => d.parameters.length) = some n)
def zMI (y : MethodName) : Prop := Cond.instanceMethod y ∈ zall ∧ Cond.selects y.cls y y ∈ zall
theorem kc_RX6_273 : Cond.constant RX6 273 (nI 65535) ∈ zall := zall_of (i := 990) (by decide +kernel) rfl
theorem kc_RX3_235 : Cond.constant RX3 235 (nI 65536) ∈ zall := zall_of (i := 999) (by decide +kernel) rfl
theorem kc_RX4_58 : Cond.constant RX4 58 (nI 65536) ∈ zall := zall_of (i := 780) (by decide +kernel) rfl
theorem kc_RX7_347 : Cond.constant RX7 347 (nI 65536) ∈ zall := zall_of (i := 1592) (by decide +kernel) rfl
theorem kc_RX7_348 : Cond.constant RX7 348 (nI 65535) ∈ zall := zall_of (i := 1587) (by decide +kernel) rfl
theorem fl_RX6_9 : Cond.fieldLink RX6 9 (TX6 0).1 (TX6 0).2.1 (TX6 0).2.2.1 ∈ zall := zall_of (i := 436) (by decide +kernel) rfl
theorem fl_RX6_16 : Cond.fieldLink RX6 16 (TX6 2).1 (TX6 2).2.1 (TX6 2).2.2.1 ∈ zall := zall_of (i := 438) (by decide +kernel) rfl
theorem fl_RX6_20 : Cond.fieldLink RX6 20 (TX6 3).1 (TX6 3).2.1 (TX6 3).2.2.1 ∈ zall := zall_of (i := 439) (by decide +kernel) rfl
theorem fl_RX6_28 : Cond.fieldLink RX6 28 (TX6 4).1 (TX6 4).2.1 (TX6 4).2.2.1 ∈ zall := zall_of (i := 440) (by decide +kernel) rfl
theorem fl_RX6_37 : Cond.fieldLink RX6 37 (TX6 5).1 (TX6 5).2.1 (TX6 5).2.2.1 ∈ zall := zall_of (i := 441) (by decide +kernel) rfl
theorem fl_RX6_41 : Cond.fieldLink RX6 41 (TX6 6).1 (TX6 6).2.1 (TX6 6).2.2.1 ∈ zall := zall_of (i := 442) (by decide +kernel) rfl
theorem fl_RX6_44 : Cond.fieldLink RX6 44 (TX6 7).1 (TX6 7).2.1 (TX6 7).2.2.1 ∈ zall := zall_of (i := 443) (by decide +kernel) rfl
theorem fl_RX6_50 : Cond.fieldLink RX6 50 (TX6 8).1 (TX6 8).2.1 (TX6 8).2.2.1 ∈ zall := zall_of (i := 444) (by decide +kernel) rfl
theorem fl_RX6_54 : Cond.fieldLink RX6 54 (TX6 12).1 (TX6 12).2.1 (TX6 12).2.2.1 ∈ zall := zall_of (i := 448) (by decide +kernel) rfl
theorem fl_RX6_58 : Cond.fieldLink RX6 58 (TX6 1).1 (TX6 1).2.1 (TX6 1).2.2.1 ∈ zall := zall_of (i := 437) (by decide +kernel) rfl
theorem fl_RX6_77 : (RX6, 77, (TX5 10).1, (TX5 10).2.1, (TX5 10).2.2.1, "TriedLines") ∈ znF := by decide +kernel
theorem fl_RX6_80 : Cond.fieldLink RX6 80 (TX6 11).1 (TX6 11).2.1 (TX6 11).2.2.1 ∈ zall := zall_of (i := 447) (by decide +kernel) rfl
theorem fl_RX6_86 : (RX6, 86, (TX2 3).1, (TX2 3).2.1, (TX2 3).2.2.1, "TriedLines") ∈ znF := by decide +kernel
theorem fl_RX6_89 : (RX6, 89, (TX2 4).1, (TX2 4).2.1, (TX2 4).2.2.1, "TriedLines") ∈ znF := by decide +kernel
theorem fl_RX6_96 : Cond.fieldLink RX6 96 (TX6 9).1 (TX6 9).2.1 (TX6 9).2.2.1 ∈ zall := zall_of (i := 445) (by decide +kernel) rfl
theorem fl_RX6_100 : Cond.fieldLink RX6 100 (TX6 10).1 (TX6 10).2.1 (TX6 10).2.2.1 ∈ zall := zall_of (i := 446) (by decide +kernel) rfl
theorem fl_RX6_103 : (RX6, 103, (TX2 5).1, (TX2 5).2.1, (TX2 5).2.2.1, "TriedLines") ∈ znF := by decide +kernel
theorem fl_RX6_109 : (RX6, 109, (TX5 11).1, (TX5 11).2.1, (TX5 11).2.2.1, "TriedLines") ∈ znF := by decide +kernel
theorem fl_RX6_112 : (RX6, 112, (TX2 0).1, (TX2 0).2.1, (TX2 0).2.2.1, "TriedLines") ∈ znF := by decide +kernel
theorem fl_RX6_115 : (RX6, 115, (TX2 1).1, (TX2 1).2.1, (TX2 1).2.2.1, "TriedLines") ∈ znF := by decide +kernel
theorem fl_RX6_118 : (RX6, 118, (TX2 2).1, (TX2 2).2.1, (TX2 2).2.2.1, "TriedLines") ∈ znF := by decide +kernel
theorem fl_RX6_125 : (RX6, 125, (TX3 9).1, (TX3 9).2.1, (TX3 9).2.2.1, "TriedLines") ∈ znF := by decide +kernel
theorem fl_RX6_128 : (RX6, 128, (TX3 6).1, (TX3 6).2.1, (TX3 6).2.2.1, "TriedLines") ∈ znF := by decide +kernel
theorem fl_RX6_155 : (RX6, 155, (TX3 1).1, (TX3 1).2.1, (TX3 1).2.2.1, "TriedLines") ∈ znF := by decide +kernel
theorem fl_RX6_161 : (RX6, 161, (TX4 1).1, (TX4 1).2.1, (TX4 1).2.2.1, "TriedLines") ∈ znF := by decide +kernel
theorem fl_RX6_166 : (RX6, 166, (TX3 5).1, (TX3 5).2.1, (TX3 5).2.2.1, "TriedLines") ∈ znF := by decide +kernel
theorem fl_RX6_173 : (RX6, 173, (TX3 10).1, (TX3 10).2.1, (TX3 10).2.2.1, "TriedLines") ∈ znF := by decide +kernel
theorem fl_RX6_179 : (RX6, 179, (TX3 2).1, (TX3 2).2.1, (TX3 2).2.2.1, "TriedLines") ∈ znF := by decide +kernel
theorem fl_RX6_183 : (RX6, 183, (TX0 1).1, (TX0 1).2.1, (TX0 1).2.2.1, "TriedLines") ∈ znF := by decide +kernel
theorem fl_RX6_188 : (RX6, 188, (TX0 2).1, (TX0 2).2.1, (TX0 2).2.2.1, "TriedLines") ∈ znF := by decide +kernel
theorem fl_RX6_191 : (RX6, 191, (TX0 3).1, (TX0 3).2.1, (TX0 3).2.2.1, "TriedLines") ∈ znF := by decide +kernel
theorem fl_RX6_195 : (RX6, 195, (TX0 4).1, (TX0 4).2.1, (TX0 4).2.2.1, "TriedLines") ∈ znF := by decide +kernel
theorem fl_RX6_198 : (RX6, 198, (TX0 5).1, (TX0 5).2.1, (TX0 5).2.2.1, "TriedLines") ∈ znF := by decide +kernel
theorem fl_RX6_216 : (RX6, 216, (TX3 4).1, (TX3 4).2.1, (TX3 4).2.2.1, "TriedLines") ∈ znF := by decide +kernel
theorem fl_RX6_219 : (RX6, 219, (TX3 3).1, (TX3 3).2.1, (TX3 3).2.2.1, "TriedLines") ∈ znF := by decide +kernel
theorem fl_RX6_225 : (RX6, 225, (TX1 0).1, (TX1 0).2.1, (TX1 0).2.2.1, "TriedLines") ∈ znF := by decide +kernel
theorem fl_RX6_230 : (RX6, 230, (TX1 2).1, (TX1 2).2.1, (TX1 2).2.2.1, "TriedLines") ∈ znF := by decide +kernel
theorem fl_RX6_233 : (RX6, 233, (TX1 3).1, (TX1 3).2.1, (TX1 3).2.2.1, "TriedLines") ∈ znF := by decide +kernel
theorem fl_RX6_236 : (RX6, 236, (TX1 4).1, (TX1 4).2.1, (TX1 4).2.2.1, "TriedLines") ∈ znF := by decide +kernel
theorem fl_RX6_239 : (RX6, 239, (TX1 5).1, (TX1 5).2.1, (TX1 5).2.2.1, "TriedLines") ∈ znF := by decide +kernel
theorem fl_RX6_242 : (RX6, 242, (TX1 6).1, (TX1 6).2.1, (TX1 6).2.2.1, "TriedLines") ∈ znF := by decide +kernel
theorem fl_RX6_245 : (RX6, 245, (TX2 7).1, (TX2 7).2.1, (TX2 7).2.2.1, "TriedLines") ∈ znF := by decide +kernel
theorem fl_RX6_248 : (RX6, 248, (TX1 7).1, (TX1 7).2.1, (TX1 7).2.2.1, "TriedLines") ∈ znF := by decide +kernel
theorem fl_RX6_254 : (RX6, 254, (TX3 8).1, (TX3 8).2.1, (TX3 8).2.2.1, "TriedLines") ∈ znF := by decide +kernel
theorem fl_RX6_261 : (RX6, 261, (TX3 11).1, (TX3 11).2.1, (TX3 11).2.2.1, "TriedLines") ∈ znF := by decide +kernel
theorem fl_RX6_287 : (RX6, 287, (TX4 5).1, (TX4 5).2.1, (TX4 5).2.2.1, "TriedLines") ∈ znF := by decide +kernel
theorem fl_RX6_293 : (RX6, 293, (TX2 6).1, (TX2 6).2.1, (TX2 6).2.2.1, "TriedLines") ∈ znF := by decide +kernel
theorem fl_RX0_9 : Cond.fieldLink RX0 9 (TX0 1).1 (TX0 1).2.1 (TX0 1).2.2.1 ∈ zall := zall_of (i := 286) (by decide +kernel) rfl
theorem fl_RX0_15 : Cond.fieldLink RX0 15 (TX0 2).1 (TX0 2).2.1 (TX0 2).2.2.1 ∈ zall := zall_of (i := 289) (by decide +kernel) rfl
theorem fl_RX0_18 : Cond.fieldLink RX0 18 (TX0 3).1 (TX0 3).2.1 (TX0 3).2.2.1 ∈ zall := zall_of (i := 292) (by decide +kernel) rfl
theorem fl_RX0_22 : Cond.fieldLink RX0 22 (TX0 4).1 (TX0 4).2.1 (TX0 4).2.2.1 ∈ zall := zall_of (i := 295) (by decide +kernel) rfl
theorem fl_RX0_25 : Cond.fieldLink RX0 25 (TX0 5).1 (TX0 5).2.1 (TX0 5).2.2.1 ∈ zall := zall_of (i := 298) (by decide +kernel) rfl
theorem fl_RX0_28 : Cond.fieldLink RX0 28 (TX0 6).1 (TX0 6).2.1 (TX0 6).2.2.1 ∈ zall := zall_of (i := 301) (by decide +kernel) rfl
theorem fl_RX0_31 : Cond.fieldLink RX0 31 (TX0 0).1 (TX0 0).2.1 (TX0 0).2.2.1 ∈ zall := zall_of (i := 285) (by decide +kernel) rfl
theorem fl_RX0_51 : (RX0, 51, (TX2 1).1, (TX2 1).2.1, (TX2 1).2.2.1, "TriedLines") ∈ znF := by decide +kernel
theorem fl_RX1_9 : Cond.fieldLink RX1 9 (TX1 7).1 (TX1 7).2.1 (TX1 7).2.2.1 ∈ zall := zall_of (i := 342) (by decide +kernel) rfl
theorem fl_RX1_15 : Cond.fieldLink RX1 15 (TX1 0).1 (TX1 0).2.1 (TX1 0).2.2.1 ∈ zall := zall_of (i := 322) (by decide +kernel) rfl
theorem fl_RX1_19 : Cond.fieldLink RX1 19 (TX1 1).1 (TX1 1).2.1 (TX1 1).2.2.1 ∈ zall := zall_of (i := 325) (by decide +kernel) rfl
theorem fl_RX1_22 : Cond.fieldLink RX1 22 (TX1 2).1 (TX1 2).2.1 (TX1 2).2.2.1 ∈ zall := zall_of (i := 327) (by decide +kernel) rfl
theorem fl_RX1_25 : Cond.fieldLink RX1 25 (TX1 3).1 (TX1 3).2.1 (TX1 3).2.2.1 ∈ zall := zall_of (i := 330) (by decide +kernel) rfl
theorem fl_RX1_28 : Cond.fieldLink RX1 28 (TX1 4).1 (TX1 4).2.1 (TX1 4).2.2.1 ∈ zall := zall_of (i := 333) (by decide +kernel) rfl
theorem fl_RX1_31 : Cond.fieldLink RX1 31 (TX1 5).1 (TX1 5).2.1 (TX1 5).2.2.1 ∈ zall := zall_of (i := 336) (by decide +kernel) rfl
theorem fl_RX1_34 : Cond.fieldLink RX1 34 (TX1 6).1 (TX1 6).2.1 (TX1 6).2.2.1 ∈ zall := zall_of (i := 339) (by decide +kernel) rfl
theorem fl_RX2_9 : Cond.fieldLink RX2 9 (TX2 7).1 (TX2 7).2.1 (TX2 7).2.2.1 ∈ zall := zall_of (i := 188) (by decide +kernel) rfl
theorem fl_RX2_15 : Cond.fieldLink RX2 15 (TX2 8).1 (TX2 8).2.1 (TX2 8).2.2.1 ∈ zall := zall_of (i := 192) (by decide +kernel) rfl
theorem fl_RX2_18 : Cond.fieldLink RX2 18 (TX2 9).1 (TX2 9).2.1 (TX2 9).2.2.1 ∈ zall := zall_of (i := 193) (by decide +kernel) rfl
theorem fl_RX2_21 : Cond.fieldLink RX2 21 (TX2 10).1 (TX2 10).2.1 (TX2 10).2.2.1 ∈ zall := zall_of (i := 194) (by decide +kernel) rfl
theorem fl_RX2_25 : Cond.fieldLink RX2 25 (TX2 11).1 (TX2 11).2.1 (TX2 11).2.2.1 ∈ zall := zall_of (i := 195) (by decide +kernel) rfl
theorem fl_RX2_28 : Cond.fieldLink RX2 28 (TX2 0).1 (TX2 0).2.1 (TX2 0).2.2.1 ∈ zall := zall_of (i := 163) (by decide +kernel) rfl
theorem fl_RX2_32 : Cond.fieldLink RX2 32 (TX2 1).1 (TX2 1).2.1 (TX2 1).2.2.1 ∈ zall := zall_of (i := 167) (by decide +kernel) rfl
theorem fl_RX2_35 : Cond.fieldLink RX2 35 (TX2 2).1 (TX2 2).2.1 (TX2 2).2.2.1 ∈ zall := zall_of (i := 171) (by decide +kernel) rfl
theorem fl_RX2_38 : Cond.fieldLink RX2 38 (TX2 3).1 (TX2 3).2.1 (TX2 3).2.2.1 ∈ zall := zall_of (i := 175) (by decide +kernel) rfl
theorem fl_RX2_41 : Cond.fieldLink RX2 41 (TX2 4).1 (TX2 4).2.1 (TX2 4).2.2.1 ∈ zall := zall_of (i := 178) (by decide +kernel) rfl
theorem fl_RX2_44 : Cond.fieldLink RX2 44 (TX2 5).1 (TX2 5).2.1 (TX2 5).2.2.1 ∈ zall := zall_of (i := 181) (by decide +kernel) rfl
theorem fl_RX2_47 : Cond.fieldLink RX2 47 (TX2 6).1 (TX2 6).2.1 (TX2 6).2.2.1 ∈ zall := zall_of (i := 185) (by decide +kernel) rfl
theorem fl_RX3_9 : Cond.fieldLink RX3 9 (TX3 1).1 (TX3 1).2.1 (TX3 1).2.2.1 ∈ zall := zall_of (i := 363) (by decide +kernel) rfl
theorem fl_RX3_17 : Cond.fieldLink RX3 17 (TX3 2).1 (TX3 2).2.1 (TX3 2).2.2.1 ∈ zall := zall_of (i := 365) (by decide +kernel) rfl
theorem fl_RX3_23 : Cond.fieldLink RX3 23 (TX3 3).1 (TX3 3).2.1 (TX3 3).2.2.1 ∈ zall := zall_of (i := 367) (by decide +kernel) rfl
theorem fl_RX3_27 : Cond.fieldLink RX3 27 (TX3 4).1 (TX3 4).2.1 (TX3 4).2.2.1 ∈ zall := zall_of (i := 369) (by decide +kernel) rfl
theorem fl_RX3_30 : Cond.fieldLink RX3 30 (TX3 5).1 (TX3 5).2.1 (TX3 5).2.2.1 ∈ zall := zall_of (i := 371) (by decide +kernel) rfl
theorem fl_RX3_33 : Cond.fieldLink RX3 33 (TX3 0).1 (TX3 0).2.1 (TX3 0).2.2.1 ∈ zall := zall_of (i := 362) (by decide +kernel) rfl
theorem fl_RX3_41 : Cond.fieldLink RX3 41 (TX3 7).1 (TX3 7).2.1 (TX3 7).2.2.1 ∈ zall := zall_of (i := 375) (by decide +kernel) rfl
theorem fl_RX3_45 : Cond.fieldLink RX3 45 (TX3 8).1 (TX3 8).2.1 (TX3 8).2.2.1 ∈ zall := zall_of (i := 376) (by decide +kernel) rfl
theorem fl_RX3_48 : Cond.fieldLink RX3 48 (TX3 6).1 (TX3 6).2.1 (TX3 6).2.2.1 ∈ zall := zall_of (i := 373) (by decide +kernel) rfl
theorem fl_RX3_51 : Cond.fieldLink RX3 51 (TX3 9).1 (TX3 9).2.1 (TX3 9).2.2.1 ∈ zall := zall_of (i := 378) (by decide +kernel) rfl
theorem fl_RX3_54 : Cond.fieldLink RX3 54 (TX3 10).1 (TX3 10).2.1 (TX3 10).2.2.1 ∈ zall := zall_of (i := 380) (by decide +kernel) rfl
theorem fl_RX3_57 : Cond.fieldLink RX3 57 (TX3 11).1 (TX3 11).2.1 (TX3 11).2.2.1 ∈ zall := zall_of (i := 382) (by decide +kernel) rfl
theorem fl_RX3_60 : (RX3, 60, (TX2 11).1, (TX2 11).2.1, (TX2 11).2.2.1, "TriedLines") ∈ znF := by decide +kernel
theorem fl_RX3_86 : (RX3, 86, (TX1 0).1, (TX1 0).2.1, (TX1 0).2.2.1, "TriedLines") ∈ znF := by decide +kernel
theorem fl_RX3_89 : (RX3, 89, (TX2 7).1, (TX2 7).2.1, (TX2 7).2.2.1, "TriedLines") ∈ znF := by decide +kernel
theorem fl_RX3_110 : (RX3, 110, (TX1 2).1, (TX1 2).2.1, (TX1 2).2.2.1, "TriedLines") ∈ znF := by decide +kernel
theorem fl_RX3_113 : (RX3, 113, (TX1 3).1, (TX1 3).2.1, (TX1 3).2.2.1, "TriedLines") ∈ znF := by decide +kernel
theorem fl_RX3_127 : (RX3, 127, (TX1 7).1, (TX1 7).2.1, (TX1 7).2.2.1, "TriedLines") ∈ znF := by decide +kernel
theorem fl_RX3_130 : (RX3, 130, (TX1 5).1, (TX1 5).2.1, (TX1 5).2.2.1, "TriedLines") ∈ znF := by decide +kernel
theorem fl_RX3_141 : (RX3, 141, (TX1 4).1, (TX1 4).2.1, (TX1 4).2.2.1, "TriedLines") ∈ znF := by decide +kernel
theorem fl_RX3_151 : (RX3, 151, (TX1 1).1, (TX1 1).2.1, (TX1 1).2.2.1, "TriedLines") ∈ znF := by decide +kernel
theorem fl_RX3_154 : (RX3, 154, (TX1 6).1, (TX1 6).2.1, (TX1 6).2.2.1, "TriedLines") ∈ znF := by decide +kernel
theorem fl_RX3_174 : (RX3, 174, (TX0 2).1, (TX0 2).2.1, (TX0 2).2.2.1, "TriedLines") ∈ znF := by decide +kernel
theorem fl_RX3_177 : (RX3, 177, (TX0 4).1, (TX0 4).2.1, (TX0 4).2.2.1, "TriedLines") ∈ znF := by decide +kernel
theorem fl_RX3_211 : (RX3, 211, (TX0 5).1, (TX0 5).2.1, (TX0 5).2.2.1, "TriedLines") ∈ znF := by decide +kernel
theorem fl_RX3_214 : (RX3, 214, (TX0 3).1, (TX0 3).2.1, (TX0 3).2.2.1, "TriedLines") ∈ znF := by decide +kernel
theorem fl_RX3_217 : (RX3, 217, (TX0 1).1, (TX0 1).2.1, (TX0 1).2.2.1, "TriedLines") ∈ znF := by decide +kernel
theorem fl_RX3_220 : (RX3, 220, (TX2 2).1, (TX2 2).2.1, (TX2 2).2.2.1, "TriedLines") ∈ znF := by decide +kernel
theorem fl_RX3_229 : (RX3, 229, (TX2 5).1, (TX2 5).2.1, (TX2 5).2.2.1, "TriedLines") ∈ znF := by decide +kernel
theorem fl_RX4_9 : Cond.fieldLink RX4 9 (TX4 1).1 (TX4 1).2.1 (TX4 1).2.2.1 ∈ zall := zall_of (i := 416) (by decide +kernel) rfl
theorem fl_RX4_15 : Cond.fieldLink RX4 15 (TX4 0).1 (TX4 0).2.1 (TX4 0).2.2.1 ∈ zall := zall_of (i := 415) (by decide +kernel) rfl
theorem fl_RX4_19 : (RX4, 19, (TX2 11).1, (TX2 11).2.1, (TX2 11).2.2.1, "TriedLines") ∈ znF := by decide +kernel
theorem fl_RX4_30 : Cond.fieldLink RX4 30 (TX4 2).1 (TX4 2).2.1 (TX4 2).2.2.1 ∈ zall := zall_of (i := 418) (by decide +kernel) rfl
theorem fl_RX4_34 : Cond.fieldLink RX4 34 (TX4 3).1 (TX4 3).2.1 (TX4 3).2.2.1 ∈ zall := zall_of (i := 419) (by decide +kernel) rfl
theorem fl_RX4_37 : Cond.fieldLink RX4 37 (TX4 4).1 (TX4 4).2.1 (TX4 4).2.2.1 ∈ zall := zall_of (i := 420) (by decide +kernel) rfl
theorem fl_RX4_40 : Cond.fieldLink RX4 40 (TX4 5).1 (TX4 5).2.1 (TX4 5).2.2.1 ∈ zall := zall_of (i := 421) (by decide +kernel) rfl
theorem fl_RX4_78 : (RX4, 78, (TX2 0).1, (TX2 0).2.1, (TX2 0).2.2.1, "TriedLines") ∈ znF := by decide +kernel
theorem fl_RX5_9 : Cond.fieldLink RX5 9 (TX5 2).1 (TX5 2).2.1 (TX5 2).2.2.1 ∈ zall := zall_of (i := 233) (by decide +kernel) rfl
theorem fl_RX5_15 : Cond.fieldLink RX5 15 (TX5 0).1 (TX5 0).2.1 (TX5 0).2.2.1 ∈ zall := zall_of (i := 231) (by decide +kernel) rfl
theorem fl_RX5_19 : Cond.fieldLink RX5 19 (TX5 1).1 (TX5 1).2.1 (TX5 1).2.2.1 ∈ zall := zall_of (i := 232) (by decide +kernel) rfl
theorem fl_RX5_37 : Cond.fieldLink RX5 37 (TX5 3).1 (TX5 3).2.1 (TX5 3).2.2.1 ∈ zall := zall_of (i := 234) (by decide +kernel) rfl
theorem fl_RX5_41 : Cond.fieldLink RX5 41 (TX5 6).1 (TX5 6).2.1 (TX5 6).2.2.1 ∈ zall := zall_of (i := 237) (by decide +kernel) rfl
theorem fl_RX5_44 : Cond.fieldLink RX5 44 (TX5 8).1 (TX5 8).2.1 (TX5 8).2.2.1 ∈ zall := zall_of (i := 239) (by decide +kernel) rfl
theorem fl_RX5_48 : Cond.fieldLink RX5 48 (TX5 9).1 (TX5 9).2.1 (TX5 9).2.2.1 ∈ zall := zall_of (i := 240) (by decide +kernel) rfl
theorem fl_RX5_51 : Cond.fieldLink RX5 51 (TX5 10).1 (TX5 10).2.1 (TX5 10).2.2.1 ∈ zall := zall_of (i := 241) (by decide +kernel) rfl
theorem fl_RX5_54 : Cond.fieldLink RX5 54 (TX5 11).1 (TX5 11).2.1 (TX5 11).2.2.1 ∈ zall := zall_of (i := 243) (by decide +kernel) rfl
theorem fl_RX5_64 : Cond.fieldLink RX5 64 (TX5 4).1 (TX5 4).2.1 (TX5 4).2.2.1 ∈ zall := zall_of (i := 235) (by decide +kernel) rfl
theorem fl_RX5_70 : Cond.fieldLink RX5 70 (TX5 5).1 (TX5 5).2.1 (TX5 5).2.2.1 ∈ zall := zall_of (i := 236) (by decide +kernel) rfl
theorem fl_RX5_77 : (RX5, 77, (TX2 5).1, (TX2 5).2.1, (TX2 5).2.2.1, "TriedLines") ∈ znF := by decide +kernel
theorem fl_RX5_84 : Cond.fieldLink RX5 84 (TX5 7).1 (TX5 7).2.1 (TX5 7).2.2.1 ∈ zall := zall_of (i := 238) (by decide +kernel) rfl
theorem fl_RX5_148 : (RX5, 148, (TX2 0).1, (TX2 0).2.1, (TX2 0).2.2.1, "TriedLines") ∈ znF := by decide +kernel
theorem fl_RX5_152 : (RX5, 152, (TX2 1).1, (TX2 1).2.1, (TX2 1).2.2.1, "TriedLines") ∈ znF := by decide +kernel
theorem fl_RX5_156 : (RX5, 156, (TX2 2).1, (TX2 2).2.1, (TX2 2).2.2.1, "TriedLines") ∈ znF := by decide +kernel
theorem fl_RX5_166 : (RX5, 166, (TX2 4).1, (TX2 4).2.1, (TX2 4).2.2.1, "TriedLines") ∈ znF := by decide +kernel
theorem fl_RX5_170 : (RX5, 170, (TX2 3).1, (TX2 3).2.1, (TX2 3).2.2.1, "TriedLines") ∈ znF := by decide +kernel
theorem fl_RX5_176 : (RX5, 176, (TX2 6).1, (TX2 6).2.1, (TX2 6).2.2.1, "TriedLines") ∈ znF := by decide +kernel
theorem fl_RX5_192 : (RX5, 192, (TX2 7).1, (TX2 7).2.1, (TX2 7).2.2.1, "TriedLines") ∈ znF := by decide +kernel
theorem fl_RX7_9 : Cond.fieldLink RX7 9 (TX7 3).1 (TX7 3).2.1 (TX7 3).2.2.1 ∈ zall := zall_of (i := 1127) (by decide +kernel) rfl
theorem fl_RX7_13 : Cond.fieldLink RX7 13 (TX7 4).1 (TX7 4).2.1 (TX7 4).2.2.1 ∈ zall := zall_of (i := 1128) (by decide +kernel) rfl
theorem fl_RX7_17 : Cond.fieldLink RX7 17 (TX7 6).1 (TX7 6).2.1 (TX7 6).2.2.1 ∈ zall := zall_of (i := 1130) (by decide +kernel) rfl
theorem fl_RX7_20 : Cond.fieldLink RX7 20 (TX7 7).1 (TX7 7).2.1 (TX7 7).2.2.1 ∈ zall := zall_of (i := 1131) (by decide +kernel) rfl
theorem fl_RX7_23 : Cond.fieldLink RX7 23 (TX7 10).1 (TX7 10).2.1 (TX7 10).2.2.1 ∈ zall := zall_of (i := 1134) (by decide +kernel) rfl
theorem fl_RX7_26 : Cond.fieldLink RX7 26 (TX7 11).1 (TX7 11).2.1 (TX7 11).2.2.1 ∈ zall := zall_of (i := 1135) (by decide +kernel) rfl
theorem fl_RX7_29 : Cond.fieldLink RX7 29 (TX7 12).1 (TX7 12).2.1 (TX7 12).2.2.1 ∈ zall := zall_of (i := 1136) (by decide +kernel) rfl
theorem fl_RX7_32 : Cond.fieldLink RX7 32 (TX7 13).1 (TX7 13).2.1 (TX7 13).2.2.1 ∈ zall := zall_of (i := 1137) (by decide +kernel) rfl
theorem fl_RX7_35 : Cond.fieldLink RX7 35 (TX7 14).1 (TX7 14).2.1 (TX7 14).2.2.1 ∈ zall := zall_of (i := 1138) (by decide +kernel) rfl
theorem fl_RX7_38 : Cond.fieldLink RX7 38 (TX7 15).1 (TX7 15).2.1 (TX7 15).2.2.1 ∈ zall := zall_of (i := 1139) (by decide +kernel) rfl
theorem fl_RX7_41 : Cond.fieldLink RX7 41 (TX7 16).1 (TX7 16).2.1 (TX7 16).2.2.1 ∈ zall := zall_of (i := 1140) (by decide +kernel) rfl
theorem fl_RX7_44 : Cond.fieldLink RX7 44 (TX7 17).1 (TX7 17).2.1 (TX7 17).2.2.1 ∈ zall := zall_of (i := 1141) (by decide +kernel) rfl
theorem fl_RX7_47 : Cond.fieldLink RX7 47 (TX7 18).1 (TX7 18).2.1 (TX7 18).2.2.1 ∈ zall := zall_of (i := 1142) (by decide +kernel) rfl
theorem fl_RX7_50 : Cond.fieldLink RX7 50 (TX7 19).1 (TX7 19).2.1 (TX7 19).2.2.1 ∈ zall := zall_of (i := 1143) (by decide +kernel) rfl
theorem fl_RX7_53 : Cond.fieldLink RX7 53 (TX7 30).1 (TX7 30).2.1 (TX7 30).2.2.1 ∈ zall := zall_of (i := 1154) (by decide +kernel) rfl
theorem fl_RX7_56 : Cond.fieldLink RX7 56 (TX7 31).1 (TX7 31).2.1 (TX7 31).2.2.1 ∈ zall := zall_of (i := 1155) (by decide +kernel) rfl
theorem fl_RX7_59 : Cond.fieldLink RX7 59 (TX7 32).1 (TX7 32).2.1 (TX7 32).2.2.1 ∈ zall := zall_of (i := 1156) (by decide +kernel) rfl
theorem fl_RX7_62 : Cond.fieldLink RX7 62 (TX7 38).1 (TX7 38).2.1 (TX7 38).2.2.1 ∈ zall := zall_of (i := 1162) (by decide +kernel) rfl
theorem fl_RX7_65 : Cond.fieldLink RX7 65 (TX7 0).1 (TX7 0).2.1 (TX7 0).2.2.1 ∈ zall := zall_of (i := 1124) (by decide +kernel) rfl
theorem fl_RX7_68 : Cond.fieldLink RX7 68 (TX7 1).1 (TX7 1).2.1 (TX7 1).2.2.1 ∈ zall := zall_of (i := 1125) (by decide +kernel) rfl
theorem fl_RX7_71 : Cond.fieldLink RX7 71 (TX7 5).1 (TX7 5).2.1 (TX7 5).2.2.1 ∈ zall := zall_of (i := 1129) (by decide +kernel) rfl
theorem fl_RX7_78 : Cond.fieldLink RX7 78 (TX7 21).1 (TX7 21).2.1 (TX7 21).2.2.1 ∈ zall := zall_of (i := 1145) (by decide +kernel) rfl
theorem fl_RX7_81 : Cond.fieldLink RX7 81 (TX7 23).1 (TX7 23).2.1 (TX7 23).2.2.1 ∈ zall := zall_of (i := 1147) (by decide +kernel) rfl
theorem fl_RX7_88 : Cond.fieldLink RX7 88 (TX7 22).1 (TX7 22).2.1 (TX7 22).2.2.1 ∈ zall := zall_of (i := 1146) (by decide +kernel) rfl
theorem fl_RX7_91 : Cond.fieldLink RX7 91 (TX7 24).1 (TX7 24).2.1 (TX7 24).2.2.1 ∈ zall := zall_of (i := 1148) (by decide +kernel) rfl
theorem fl_RX7_98 : Cond.fieldLink RX7 98 (TX7 25).1 (TX7 25).2.1 (TX7 25).2.2.1 ∈ zall := zall_of (i := 1149) (by decide +kernel) rfl
theorem fl_RX7_111 : Cond.fieldLink RX7 111 (TX7 26).1 (TX7 26).2.1 (TX7 26).2.2.1 ∈ zall := zall_of (i := 1150) (by decide +kernel) rfl
theorem fl_RX7_114 : Cond.fieldLink RX7 114 (TX7 27).1 (TX7 27).2.1 (TX7 27).2.2.1 ∈ zall := zall_of (i := 1151) (by decide +kernel) rfl
theorem fl_RX7_134 : Cond.fieldLink RX7 134 (TX7 28).1 (TX7 28).2.1 (TX7 28).2.2.1 ∈ zall := zall_of (i := 1152) (by decide +kernel) rfl
theorem fl_RX7_162 : Cond.fieldLink RX7 162 (TX7 9).1 (TX7 9).2.1 (TX7 9).2.2.1 ∈ zall := zall_of (i := 1133) (by decide +kernel) rfl
theorem fl_RX7_168 : Cond.fieldLink RX7 168 (TX7 29).1 (TX7 29).2.1 (TX7 29).2.2.1 ∈ zall := zall_of (i := 1153) (by decide +kernel) rfl
theorem fl_RX7_217 : Cond.fieldLink RX7 217 (TX7 2).1 (TX7 2).2.1 (TX7 2).2.2.1 ∈ zall := zall_of (i := 1126) (by decide +kernel) rfl
theorem fl_RX7_223 : Cond.fieldLink RX7 223 (TX7 8).1 (TX7 8).2.1 (TX7 8).2.2.1 ∈ zall := zall_of (i := 1132) (by decide +kernel) rfl
theorem fl_RX7_226 : Cond.fieldLink RX7 226 (TX7 20).1 (TX7 20).2.1 (TX7 20).2.2.1 ∈ zall := zall_of (i := 1144) (by decide +kernel) rfl
theorem fl_RX7_229 : Cond.fieldLink RX7 229 (TX7 33).1 (TX7 33).2.1 (TX7 33).2.2.1 ∈ zall := zall_of (i := 1157) (by decide +kernel) rfl
theorem fl_RX7_238 : Cond.fieldLink RX7 238 (TX7 34).1 (TX7 34).2.1 (TX7 34).2.2.1 ∈ zall := zall_of (i := 1158) (by decide +kernel) rfl
theorem fl_RX7_240 : Cond.fieldLink RX7 240 (TX7 35).1 (TX7 35).2.1 (TX7 35).2.2.1 ∈ zall := zall_of (i := 1159) (by decide +kernel) rfl
theorem fl_RX7_242 : Cond.fieldLink RX7 242 (TX7 36).1 (TX7 36).2.1 (TX7 36).2.2.1 ∈ zall := zall_of (i := 1160) (by decide +kernel) rfl
theorem fl_RX7_254 : Cond.fieldLink RX7 254 (TX7 37).1 (TX7 37).2.1 (TX7 37).2.2.1 ∈ zall := zall_of (i := 1161) (by decide +kernel) rfl
theorem fl_RX7_317 : Cond.fieldLink RX7 317 (TX7 40).1 (TX7 40).2.1 (TX7 40).2.2.1 ∈ zall := zall_of (i := 1164) (by decide +kernel) rfl
theorem fl_RX7_320 : Cond.fieldLink RX7 320 (TX7 39).1 (TX7 39).2.1 (TX7 39).2.2.1 ∈ zall := zall_of (i := 1163) (by decide +kernel) rfl
theorem fl_RX7_344 : Cond.fieldLink RX7 344 (TX7 41).1 (TX7 41).2.1 (TX7 41).2.2.1 ∈ zall := zall_of (i := 1165) (by decide +kernel) rfl
theorem znat : Cond.native arraycopyName ∈ zall := zall_of (i := 668) (by decide +kernel) rfl
theorem zstt : Cond.static arraycopyName ∈ zall := zall_of (i := 667) (by decide +kernel) rfl
theorem zsys : Cond.initialized "java/lang/System" ∈ zall := zall_of (i := 144) (by decide +kernel) rfl
theorem ml_RX6_61 : Cond.methodLink RX6 61 yX6_putBytes ∈ zall := zall_of (i := 480) (by decide +kernel) rfl
theorem ml_RX6_65 : Cond.methodLink RX6 65 yX6_isWithin ∈ zall := zall_of (i := 488) (by decide +kernel) rfl
theorem ml_RX6_69 : Cond.methodLink RX6 69 yX6_refuse ∈ zall := zall_of (i := 491) (by decide +kernel) rfl
theorem ml_RX6_73 : (RX6, 73, yX5_readText, "TriedLines") ∈ znM := by decide +kernel
theorem ml_RX6_83 : (RX6, 83, yX2_copyFrom, "TriedLines") ∈ znM := by decide +kernel
theorem ml_RX6_92 : (RX6, 92, yX3_startOver, "TriedLines") ∈ znM := by decide +kernel
theorem ml_RX6_106 : Cond.methodLink RX6 106 yX6_answer ∈ zall := zall_of (i := 685) (by decide +kernel) rfl
theorem ml_RX6_121 : (RX6, 121, yX2_addresses, "TriedLines") ∈ znM := by decide +kernel
theorem ml_RX6_131 : (RX6, 131, yX2_hasDeed, "TriedLines") ∈ znM := by decide +kernel
theorem ml_RX6_135 : (RX6, 135, yX2_sortOf, "TriedLines") ∈ znM := by decide +kernel
theorem ml_RX6_139 : (RX6, 139, yX2_wholeOf, "TriedLines") ∈ znM := by decide +kernel
theorem ml_RX6_142 : (RX6, 142, yX2_isIndexed, "TriedLines") ∈ znM := by decide +kernel
theorem ml_RX6_145 : Cond.methodLink RX6 145 yX6_asBit ∈ zall := zall_of (i := 724) (by decide +kernel) rfl
theorem ml_RX6_149 : (RX6, 149, yX2_hasAddress, "TriedLines") ∈ znM := by decide +kernel
theorem ml_RX6_152 : (RX6, 152, yX3_wordAt, "TriedLines") ∈ znM := by decide +kernel
theorem ml_RX6_158 : Cond.methodLink RX6 158 yX6_playCommits ∈ zall := zall_of (i := 760) (by decide +kernel) rfl
theorem ml_RX6_164 : (RX6, 164, yX4_startOver, "TriedLines") ∈ znM := by decide +kernel
theorem ml_RX6_169 : (RX6, 169, yX4_play, "TriedLines") ∈ znM := by decide +kernel
theorem ml_RX6_176 : (RX6, 176, yX2_hasCore, "TriedLines") ∈ znM := by decide +kernel
theorem ml_RX6_201 : (RX6, 201, yX2_lineOf, "TriedLines") ∈ znM := by decide +kernel
theorem ml_RX6_204 : (RX6, 204, yX0_find, "TriedLines") ∈ znM := by decide +kernel
theorem ml_RX6_207 : (RX6, 207, yX2_offsetOf, "TriedLines") ∈ znM := by decide +kernel
theorem ml_RX6_210 : (RX6, 210, yX0_wordIn, "TriedLines") ∈ znM := by decide +kernel
theorem ml_RX6_213 : (RX6, 213, yX0_markedLines, "TriedLines") ∈ znM := by decide +kernel
theorem ml_RX6_222 : (RX6, 222, yX3_hasDeedsLeft, "TriedLines") ∈ znM := by decide +kernel
theorem ml_RX6_251 : (RX6, 251, yX3_lostAfter, "TriedLines") ∈ znM := by decide +kernel
theorem ml_RX6_255 : (RX6, 255, yX3_copyFrom, "TriedLines") ∈ znM := by decide +kernel
theorem ml_RX6_258 : (RX6, 258, yX3_takeStep, "TriedLines") ∈ znM := by decide +kernel
theorem ml_RX6_264 : (RX6, 264, yX3_takeRounds, "TriedLines") ∈ znM := by decide +kernel
theorem ml_RX6_267 : Cond.methodLink RX6 267 yX6_isSeed ∈ zall := zall_of (i := 987) (by decide +kernel) rfl
theorem ml_RX6_270 : (RX6, 270, yX3_takeDraws, "TriedLines") ∈ znM := by decide +kernel
theorem ml_RX6_274 : (RX6, 274, yX3_endTries, "TriedLines") ∈ znM := by decide +kernel
theorem ml_RX6_277 : Cond.methodLink RX6 277 yX6_isTrial ∈ zall := zall_of (i := 1009) (by decide +kernel) rfl
theorem ml_RX6_280 : (RX6, 280, yX3_isAllDone, "TriedLines") ∈ znM := by decide +kernel
theorem ml_RX6_284 : (RX6, 284, yX3_countInAll, "TriedLines") ∈ znM := by decide +kernel
theorem ml_RX6_296 : (RX6, 296, yX2_deedsInAll, "TriedLines") ∈ znM := by decide +kernel
theorem ml_RX0_35 : Cond.methodLink RX0 35 yX0_dropLine ∈ zall := zall_of (i := 677) (by decide +kernel) rfl
theorem ml_RX0_39 : Cond.methodLink RX0 39 arraycopyName ∈ zall := zall_of (i := 888) (by decide +kernel) rfl
theorem ml_RX0_45 : (RX0, 45, yX2_setOf, "TriedLines") ∈ znM := by decide +kernel
theorem ml_RX1_37 : Cond.methodLink RX1 37 arraycopyName ∈ zall := zall_of (i := 893) (by decide +kernel) rfl
theorem ml_RX2_50 : Cond.methodLink RX2 50 arraycopyName ∈ zall := zall_of (i := 666) (by decide +kernel) rfl
theorem ml_RX2_56 : Cond.methodLink RX2 56 yX2_addresses ∈ zall := zall_of (i := 630) (by decide +kernel) rfl
theorem ml_RX2_60 : Cond.methodLink RX2 60 yX2_hasDeed ∈ zall := zall_of (i := 715) (by decide +kernel) rfl
theorem ml_RX2_64 : Cond.methodLink RX2 64 yX2_wholeOf ∈ zall := zall_of (i := 798) (by decide +kernel) rfl
theorem ml_RX2_68 : Cond.methodLink RX2 68 yX2_isIndexed ∈ zall := zall_of (i := 799) (by decide +kernel) rfl
theorem ml_RX2_71 : Cond.methodLink RX2 71 yJ9_floorMod_7cf53 ∈ zall := zall_of (i := 800) (by decide +kernel) rfl
theorem ml_RX2_76 : Cond.methodLink RX2 76 yX2_hasAddress ∈ zall := zall_of (i := 635) (by decide +kernel) rfl
theorem ml_RX2_80 : Cond.methodLink RX2 80 yX2_hasCore ∈ zall := zall_of (i := 656) (by decide +kernel) rfl
theorem ml_RX3_65 : (RX3, 65, yX0_clear, "TriedLines") ∈ znM := by decide +kernel
theorem ml_RX3_68 : (RX3, 68, yX1_clear, "TriedLines") ∈ znM := by decide +kernel
theorem ml_RX3_69 : Cond.methodLink RX3 69 arraycopyName ∈ zall := zall_of (i := 883) (by decide +kernel) rfl
theorem ml_RX3_75 : (RX3, 75, yX0_copyFrom, "TriedLines") ∈ znM := by decide +kernel
theorem ml_RX3_79 : (RX3, 79, yX1_copyFrom, "TriedLines") ∈ znM := by decide +kernel
theorem ml_RX3_82 : (RX3, 82, yX2_hasCore, "TriedLines") ∈ znM := by decide +kernel
theorem ml_RX3_92 : Cond.methodLink RX3 92 yX3_hasDeedsLeft ∈ zall := zall_of (i := 898) (by decide +kernel) rfl
theorem ml_RX3_95 : (RX3, 95, yX2_wholeOf, "TriedLines") ∈ znM := by decide +kernel
theorem ml_RX3_99 : (RX3, 99, yX2_sortOf, "TriedLines") ∈ znM := by decide +kernel
theorem ml_RX3_102 : Cond.methodLink RX3 102 yX3_doBegin ∈ zall := zall_of (i := 901) (by decide +kernel) rfl
theorem ml_RX3_106 : Cond.methodLink RX3 106 yX3_doEnd ∈ zall := zall_of (i := 952) (by decide +kernel) rfl
theorem ml_RX3_116 : Cond.methodLink RX3 116 yX3_doGet ∈ zall := zall_of (i := 956) (by decide +kernel) rfl
theorem ml_RX3_119 : Cond.methodLink RX3 119 yX3_doPut ∈ zall := zall_of (i := 961) (by decide +kernel) rfl
theorem ml_RX3_122 : Cond.methodLink RX3 122 yJ9_floorMod_7cf53 ∈ zall := zall_of (i := 965) (by decide +kernel) rfl
theorem ml_RX3_133 : Cond.methodLink RX3 133 yX3_reach ∈ zall := zall_of (i := 905) (by decide +kernel) rfl
theorem ml_RX3_137 : Cond.methodLink RX3 137 yX3_markLine ∈ zall := zall_of (i := 948) (by decide +kernel) rfl
theorem ml_RX3_144 : Cond.methodLink RX3 144 yX3_marking ∈ zall := zall_of (i := 913) (by decide +kernel) rfl
theorem ml_RX3_147 : Cond.methodLink RX3 147 yX3_endTries ∈ zall := zall_of (i := 917) (by decide +kernel) rfl
theorem ml_RX3_157 : (RX3, 157, yX2_addressOf, "TriedLines") ∈ znM := by decide +kernel
theorem ml_RX3_161 : (RX3, 161, yX2_lineOf, "TriedLines") ∈ znM := by decide +kernel
theorem ml_RX3_165 : (RX3, 165, yX0_find, "TriedLines") ∈ znM := by decide +kernel
theorem ml_RX3_168 : (RX3, 168, yX2_offsetOf, "TriedLines") ∈ znM := by decide +kernel
theorem ml_RX3_171 : (RX3, 171, yX0_wordIn, "TriedLines") ∈ znM := by decide +kernel
theorem ml_RX3_181 : Cond.methodLink RX3 181 yX3_writeBack ∈ zall := zall_of (i := 931) (by decide +kernel) rfl
theorem ml_RX3_185 : (RX3, 185, yX0_setWord, "TriedLines") ∈ znM := by decide +kernel
theorem ml_RX3_189 : (RX3, 189, yX0_unmark, "TriedLines") ∈ znM := by decide +kernel
theorem ml_RX3_193 : Cond.methodLink RX3 193 yX3_ask ∈ zall := zall_of (i := 909) (by decide +kernel) rfl
theorem ml_RX3_196 : (RX3, 196, yX0_findRoom, "TriedLines") ∈ znM := by decide +kernel
theorem ml_RX3_199 : (RX3, 199, yX0_dropLine, "TriedLines") ∈ znM := by decide +kernel
theorem ml_RX3_203 : Cond.methodLink RX3 203 yX3_changeOthers ∈ zall := zall_of (i := 936) (by decide +kernel) rfl
theorem ml_RX3_207 : Cond.methodLink RX3 207 yX3_bringLine ∈ zall := zall_of (i := 940) (by decide +kernel) rfl
theorem ml_RX3_223 : Cond.methodLink RX3 223 yX3_lostAfter ∈ zall := zall_of (i := 925) (by decide +kernel) rfl
theorem ml_RX3_226 : Cond.methodLink RX3 226 yX3_takeStep ∈ zall := zall_of (i := 982) (by decide +kernel) rfl
theorem ml_RX3_231 : Cond.methodLink RX3 231 yX3_isAllDone ∈ zall := zall_of (i := 995) (by decide +kernel) rfl
theorem ml_RX4_24 : Cond.methodLink RX4 24 arraycopyName ∈ zall := zall_of (i := 768) (by decide +kernel) rfl
theorem ml_RX4_43 : (RX4, 43, yX2_hasDeed, "TriedLines") ∈ znM := by decide +kernel
theorem ml_RX4_47 : Cond.methodLink RX4 47 yX4_playDeed ∈ zall := zall_of (i := 774) (by decide +kernel) rfl
theorem ml_RX4_51 : (RX4, 51, yX2_sortOf, "TriedLines") ∈ znM := by decide +kernel
theorem ml_RX4_55 : (RX4, 55, yX2_wholeOf, "TriedLines") ∈ znM := by decide +kernel
theorem ml_RX4_59 : Cond.methodLink RX4 59 yX4_widen ∈ zall := zall_of (i := 781) (by decide +kernel) rfl
theorem ml_RX4_62 : Cond.methodLink RX4 62 yX4_touch ∈ zall := zall_of (i := 790) (by decide +kernel) rfl
theorem ml_RX4_65 : Cond.methodLink RX4 65 yJ9_floorMod_7cf53 ∈ zall := zall_of (i := 804) (by decide +kernel) rfl
theorem ml_RX4_70 : (RX4, 70, yX2_addressOf, "TriedLines") ∈ znM := by decide +kernel
theorem ml_RX4_74 : (RX4, 74, yX2_lineOf, "TriedLines") ∈ znM := by decide +kernel
theorem ml_RX4_81 : (RX4, 81, yX2_setOf, "TriedLines") ∈ znM := by decide +kernel
theorem ml_RX4_84 : Cond.methodLink RX4 84 yJ9_max_7cf53 ∈ zall := zall_of (i := 789) (by decide +kernel) rfl
theorem ml_RX5_23 : (RX5, 23, yX2_clear, "TriedLines") ∈ znM := by decide +kernel
theorem ml_RX5_28 : Cond.methodLink RX5 28 yJ9_min_7cf53 ∈ zall := zall_of (i := 503) (by decide +kernel) rfl
theorem ml_RX5_34 : Cond.methodLink RX5 34 yJ9_max_7cf53 ∈ zall := zall_of (i := 506) (by decide +kernel) rfl
theorem ml_RX5_57 : Cond.methodLink RX5 57 yX5_advance ∈ zall := zall_of (i := 509) (by decide +kernel) rfl
theorem ml_RX5_60 : Cond.methodLink RX5 60 yX5_readLine ∈ zall := zall_of (i := 516) (by decide +kernel) rfl
theorem ml_RX5_67 : Cond.methodLink RX5 67 yX5_readEnd ∈ zall := zall_of (i := 658) (by decide +kernel) rfl
theorem ml_RX5_73 : Cond.methodLink RX5 73 yX5_fail ∈ zall := zall_of (i := 586) (by decide +kernel) rfl
theorem ml_RX5_80 : Cond.methodLink RX5 80 yX5_kindOf ∈ zall := zall_of (i := 513) (by decide +kernel) rfl
theorem ml_RX5_87 : Cond.methodLink RX5 87 yJ0_length_8abf5 ∈ zall := zall_of (i := 529) (by decide +kernel) rfl
theorem ml_RX5_93 : Cond.methodLink RX5 93 yJ0_charAt_5068e ∈ zall := zall_of (i := 539) (by decide +kernel) rfl
theorem ml_RX5_97 : Cond.methodLink RX5 97 yX5_isName ∈ zall := zall_of (i := 525) (by decide +kernel) rfl
theorem ml_RX5_101 : Cond.methodLink RX5 101 yX5_takeName ∈ zall := zall_of (i := 599) (by decide +kernel) rfl
theorem ml_RX5_104 : Cond.methodLink RX5 104 yX5_takeWhole ∈ zall := zall_of (i := 603) (by decide +kernel) rfl
theorem ml_RX5_126 : Cond.methodLink RX5 126 yX5_sortHere ∈ zall := zall_of (i := 520) (by decide +kernel) rfl
theorem ml_RX5_129 : Cond.methodLink RX5 129 yX5_readMachine ∈ zall := zall_of (i := 590) (by decide +kernel) rfl
theorem ml_RX5_132 : Cond.methodLink RX5 132 yX5_readWord ∈ zall := zall_of (i := 618) (by decide +kernel) rfl
theorem ml_RX5_135 : Cond.methodLink RX5 135 yX5_readCore ∈ zall := zall_of (i := 636) (by decide +kernel) rfl
theorem ml_RX5_138 : Cond.methodLink RX5 138 yX5_readDeed ∈ zall := zall_of (i := 640) (by decide +kernel) rfl
theorem ml_RX5_144 : Cond.methodLink RX5 144 yX5_takeSetting ∈ zall := zall_of (i := 595) (by decide +kernel) rfl
theorem ml_RX5_161 : Cond.methodLink RX5 161 yX5_readRule ∈ zall := zall_of (i := 610) (by decide +kernel) rfl
theorem ml_RX5_179 : (RX5, 179, yX2_addresses, "TriedLines") ∈ znM := by decide +kernel
theorem ml_RX5_182 : (RX5, 182, yX2_hasAddress, "TriedLines") ∈ znM := by decide +kernel
theorem ml_RX5_185 : (RX5, 185, yX2_addWord, "TriedLines") ∈ znM := by decide +kernel
theorem ml_RX5_189 : (RX5, 189, yX2_hasCore, "TriedLines") ∈ znM := by decide +kernel
theorem ml_RX5_195 : Cond.methodLink RX5 195 yX5_readRest ∈ zall := zall_of (i := 648) (by decide +kernel) rfl
theorem ml_RX5_198 : (RX5, 198, yX2_addDeed, "TriedLines") ∈ znM := by decide +kernel
theorem ml_RX7_74 : Cond.methodLink RX7 74 yX7_lays ∈ zall := zall_of (i := 1259) (by decide +kernel) rfl
theorem ml_RX7_84 : Cond.methodLink RX7 84 yX7_see ∈ zall := zall_of (i := 1286) (by decide +kernel) rfl
theorem ml_RX7_94 : Cond.methodLink RX7 94 yX7_in ∈ zall := zall_of (i := 1271) (by decide +kernel) rfl
theorem ml_RX7_101 : Cond.methodLink RX7 101 yJ0_length_8abf5 ∈ zall := zall_of (i := 1299) (by decide +kernel) rfl
theorem ml_RX7_107 : Cond.methodLink RX7 107 yJ0_charAt_5068e ∈ zall := zall_of (i := 1300) (by decide +kernel) rfl
theorem ml_RX7_117 : Cond.methodLink RX7 117 yX7_errs ∈ zall := zall_of (i := 1305) (by decide +kernel) rfl
theorem ml_RX7_120 : Cond.methodLink RX7 120 yX7_wholeHere ∈ zall := zall_of (i := 1314) (by decide +kernel) rfl
theorem ml_RX7_124 : Cond.methodLink RX7 124 yX7_nextToken ∈ zall := zall_of (i := 1282) (by decide +kernel) rfl
theorem ml_RX7_127 : Cond.methodLink RX7 127 yX7_isWord ∈ zall := zall_of (i := 1295) (by decide +kernel) rfl
theorem ml_RX7_131 : Cond.methodLink RX7 131 yX7_passes ∈ zall := zall_of (i := 1318) (by decide +kernel) rfl
theorem ml_RX7_140 : Cond.methodLink RX7 140 yX7_power ∈ zall := zall_of (i := 1310) (by decide +kernel) rfl
theorem ml_RX7_146 : Cond.methodLink RX7 146 yX7_after ∈ zall := zall_of (i := 1323) (by decide +kernel) rfl
theorem ml_RX7_165 : Cond.methodLink RX7 165 yX7_addresses ∈ zall := zall_of (i := 1338) (by decide +kernel) rfl
theorem ml_RX7_189 : Cond.methodLink RX7 189 yX7_readMachine ∈ zall := zall_of (i := 1301) (by decide +kernel) rfl
theorem ml_RX7_194 : Cond.methodLink RX7 194 yX7_readToldWord ∈ zall := zall_of (i := 1334) (by decide +kernel) rfl
theorem ml_RX7_199 : Cond.methodLink RX7 199 yX7_readCore ∈ zall := zall_of (i := 1343) (by decide +kernel) rfl
theorem ml_RX7_202 : Cond.methodLink RX7 202 yX7_sortHere ∈ zall := zall_of (i := 1347) (by decide +kernel) rfl
theorem ml_RX7_205 : Cond.methodLink RX7 205 yX7_readDeed ∈ zall := zall_of (i := 1358) (by decide +kernel) rfl
theorem ml_RX7_208 : Cond.methodLink RX7 208 yX7_readLine ∈ zall := zall_of (i := 1290) (by decide +kernel) rfl
theorem ml_RX7_211 : Cond.methodLink RX7 211 yX7_anew ∈ zall := zall_of (i := 1267) (by decide +kernel) rfl
theorem ml_RX7_214 : Cond.methodLink RX7 214 yX7_no ∈ zall := zall_of (i := 1274) (by decide +kernel) rfl
theorem ml_RX7_220 : Cond.methodLink RX7 220 yX7_readText ∈ zall := zall_of (i := 1278) (by decide +kernel) rfl
theorem ml_RX7_232 : Cond.methodLink RX7 232 yX7_asTold ∈ zall := zall_of (i := 1363) (by decide +kernel) rfl
theorem ml_RX7_235 : Cond.methodLink RX7 235 yX7_begins ∈ zall := zall_of (i := 1367) (by decide +kernel) rfl
theorem ml_RX7_244 : Cond.methodLink RX7 244 yX7_coreAt ∈ zall := zall_of (i := 1371) (by decide +kernel) rfl
theorem ml_RX7_247 : Cond.methodLink RX7 247 yX7_placeAt ∈ zall := zall_of (i := 1410) (by decide +kernel) rfl
theorem ml_RX7_251 : Cond.methodLink RX7 251 yX7_empties ∈ zall := zall_of (i := 1536) (by decide +kernel) rfl
theorem ml_RX7_257 : Cond.methodLink RX7 257 yX7_find ∈ zall := zall_of (i := 1406) (by decide +kernel) rfl
theorem ml_RX7_260 : Cond.methodLink RX7 260 yX7_isRival ∈ zall := zall_of (i := 1524) (by decide +kernel) rfl
theorem ml_RX7_264 : Cond.methodLink RX7 264 yX7_isSomeElder ∈ zall := zall_of (i := 1528) (by decide +kernel) rfl
theorem ml_RX7_268 : Cond.methodLink RX7 268 yX7_ends ∈ zall := zall_of (i := 1532) (by decide +kernel) rfl
theorem ml_RX7_272 : Cond.methodLink RX7 272 yX7_writesBack ∈ zall := zall_of (i := 1548) (by decide +kernel) rfl
theorem ml_RX7_275 : Cond.methodLink RX7 275 yX7_room ∈ zall := zall_of (i := 1544) (by decide +kernel) rfl
theorem ml_RX7_278 : Cond.methodLink RX7 278 yX7_othersHave ∈ zall := zall_of (i := 1552) (by decide +kernel) rfl
theorem ml_RX7_281 : Cond.methodLink RX7 281 yX7_waits ∈ zall := zall_of (i := 1516) (by decide +kernel) rfl
theorem ml_RX7_284 : Cond.methodLink RX7 284 yX7_decides ∈ zall := zall_of (i := 1520) (by decide +kernel) rfl
theorem ml_RX7_288 : Cond.methodLink RX7 288 yX7_brings ∈ zall := zall_of (i := 1540) (by decide +kernel) rfl
theorem ml_RX7_291 : Cond.methodLink RX7 291 yX7_begin ∈ zall := zall_of (i := 1512) (by decide +kernel) rfl
theorem ml_RX7_293 : Cond.methodLink RX7 293 yX7_touches ∈ zall := zall_of (i := 1556) (by decide +kernel) rfl
theorem ml_RX7_296 : Cond.methodLink RX7 296 yX7_commits ∈ zall := zall_of (i := 1560) (by decide +kernel) rfl
theorem ml_RX7_299 : Cond.methodLink RX7 299 yX7_plus ∈ zall := zall_of (i := 1433) (by decide +kernel) rfl
theorem ml_RX7_301 : Cond.methodLink RX7 301 yX7_hasLeft ∈ zall := zall_of (i := 1480) (by decide +kernel) rfl
theorem ml_RX7_305 : Cond.methodLink RX7 305 yX7_does ∈ zall := zall_of (i := 1508) (by decide +kernel) rfl
theorem ml_RX7_308 : Cond.methodLink RX7 308 yX7_isCore ∈ zall := zall_of (i := 1390) (by decide +kernel) rfl
theorem ml_RX7_311 : Cond.methodLink RX7 311 yX7_isAddress ∈ zall := zall_of (i := 1398) (by decide +kernel) rfl
theorem ml_RX7_314 : Cond.methodLink RX7 314 yX7_wordNow ∈ zall := zall_of (i := 1402) (by decide +kernel) rfl
theorem ml_RX7_323 : Cond.methodLink RX7 323 yX7_plainBegins ∈ zall := zall_of (i := 1425) (by decide +kernel) rfl
theorem ml_RX7_326 : Cond.methodLink RX7 326 yX7_plainly ∈ zall := zall_of (i := 1429) (by decide +kernel) rfl
theorem ml_RX7_329 : Cond.methodLink RX7 329 yX7_serially ∈ zall := zall_of (i := 1421) (by decide +kernel) rfl
theorem ml_RX7_332 : Cond.methodLink RX7 332 yX7_marked ∈ zall := zall_of (i := 1464) (by decide +kernel) rfl
theorem ml_RX7_335 : Cond.methodLink RX7 335 yX7_laysAside ∈ zall := zall_of (i := 1500) (by decide +kernel) rfl
theorem ml_RX7_338 : Cond.methodLink RX7 338 yX7_steps ∈ zall := zall_of (i := 1504) (by decide +kernel) rfl
theorem ml_RX7_341 : Cond.methodLink RX7 341 yX7_takesBack ∈ zall := zall_of (i := 1564) (by decide +kernel) rfl
theorem ml_RX7_349 : Cond.methodLink RX7 349 yX7_isSeed ∈ zall := zall_of (i := 1584) (by decide +kernel) rfl
theorem ml_RX7_352 : Cond.methodLink RX7 352 yX7_drawn ∈ zall := zall_of (i := 1588) (by decide +kernel) rfl
theorem ml_RX7_355 : Cond.methodLink RX7 355 yX7_isAnyLeft ∈ zall := zall_of (i := 1613) (by decide +kernel) rfl
theorem ml_RX7_359 : Cond.methodLink RX7 359 yX7_countAll ∈ zall := zall_of (i := 1621) (by decide +kernel) rfl
theorem ml_RX7_362 : Cond.methodLink RX7 362 yX7_tries ∈ zall := zall_of (i := 1609) (by decide +kernel) rfl
theorem ml_RX7_365 : Cond.methodLink RX7 365 yX7_triedOf ∈ zall := zall_of (i := 1617) (by decide +kernel) rfl
theorem ml_RX7_368 : Cond.methodLink RX7 368 yX7_triedWhy ∈ zall := zall_of (i := 1601) (by decide +kernel) rfl
theorem ml_RX7_372 : Cond.methodLink RX7 372 yX7_triedAll ∈ zall := zall_of (i := 1605) (by decide +kernel) rfl
theorem ml_RX7_376 : Cond.methodLink RX7 376 yX7_isEnough ∈ zall := zall_of (i := 1637) (by decide +kernel) rfl
theorem mw_J9_floorMod_7cf53 : zMW yJ9_floorMod_7cf53 cJ9_floorMod_7cf53 3 (some .int) 2 := ⟨zall_of (i := 802) (by decide +kernel) rfl, zall_of (i := 139) (by decide +kernel) rfl, by decide, by decide, by decide +kernel⟩
theorem ms_J9_floorMod_7cf53 : Cond.static yJ9_floorMod_7cf53 ∈ zall := zall_of (i := 801) (by decide +kernel) rfl
theorem mw_J9_max_7cf53 : zMW yJ9_max_7cf53 cJ9_max_7cf53 2 (some .int) 2 := ⟨zall_of (i := 508) (by decide +kernel) rfl, zall_of (i := 139) (by decide +kernel) rfl, by decide, by decide, by decide +kernel⟩
theorem ms_J9_max_7cf53 : Cond.static yJ9_max_7cf53 ∈ zall := zall_of (i := 507) (by decide +kernel) rfl
theorem mw_J9_min_7cf53 : zMW yJ9_min_7cf53 cJ9_min_7cf53 2 (some .int) 2 := ⟨zall_of (i := 505) (by decide +kernel) rfl, zall_of (i := 139) (by decide +kernel) rfl, by decide, by decide, by decide +kernel⟩
theorem ms_J9_min_7cf53 : Cond.static yJ9_min_7cf53 ∈ zall := zall_of (i := 504) (by decide +kernel) rfl
theorem mw_X0_clear : zMW yX0_clear cX0_clear 2 none 0 := ⟨zall_of (i := 676) (by decide +kernel) rfl, zall_of (i := 135) (by decide +kernel) rfl, by decide, by decide, by decide +kernel⟩
theorem mi_X0_clear : zMI yX0_clear := ⟨zall_of (i := 675) (by decide +kernel) rfl, zall_of (i := 26) (by decide +kernel) rfl⟩
theorem mw_X0_copyFrom : zMW yX0_copyFrom cX0_copyFrom 3 none 1 := ⟨zall_of (i := 887) (by decide +kernel) rfl, zall_of (i := 135) (by decide +kernel) rfl, by decide, by decide, by decide +kernel⟩
theorem mi_X0_copyFrom : zMI yX0_copyFrom := ⟨zall_of (i := 886) (by decide +kernel) rfl, zall_of (i := 51) (by decide +kernel) rfl⟩
theorem mw_X0_dropLine : zMW yX0_dropLine cX0_dropLine 2 none 1 := ⟨zall_of (i := 680) (by decide +kernel) rfl, zall_of (i := 135) (by decide +kernel) rfl, by decide, by decide, by decide +kernel⟩
theorem mi_X0_dropLine : zMI yX0_dropLine := ⟨zall_of (i := 679) (by decide +kernel) rfl, zall_of (i := 27) (by decide +kernel) rfl⟩
theorem mw_X0_find : zMW yX0_find cX0_find 3 (some .int) 1 := ⟨zall_of (i := 743) (by decide +kernel) rfl, zall_of (i := 135) (by decide +kernel) rfl, by decide, by decide, by decide +kernel⟩
theorem mi_X0_find : zMI yX0_find := ⟨zall_of (i := 742) (by decide +kernel) rfl, zall_of (i := 36) (by decide +kernel) rfl⟩
theorem mw_X0_findRoom : zMW yX0_findRoom cX0_findRoom 5 (some .int) 1 := ⟨zall_of (i := 929) (by decide +kernel) rfl, zall_of (i := 135) (by decide +kernel) rfl, by decide, by decide, by decide +kernel⟩
theorem mi_X0_findRoom : zMI yX0_findRoom := ⟨zall_of (i := 928) (by decide +kernel) rfl, zall_of (i := 60) (by decide +kernel) rfl⟩
theorem mw_X0_markedLines : zMW yX0_markedLines cX0_markedLines 4 (some .int) 1 := ⟨zall_of (i := 841) (by decide +kernel) rfl, zall_of (i := 135) (by decide +kernel) rfl, by decide, by decide, by decide +kernel⟩
theorem mi_X0_markedLines : zMI yX0_markedLines := ⟨zall_of (i := 840) (by decide +kernel) rfl, zall_of (i := 47) (by decide +kernel) rfl⟩
theorem mw_X0_setWord : zMW yX0_setWord cX0_setWord 5 none 3 := ⟨zall_of (i := 947) (by decide +kernel) rfl, zall_of (i := 135) (by decide +kernel) rfl, by decide, by decide, by decide +kernel⟩
theorem mi_X0_setWord : zMI yX0_setWord := ⟨zall_of (i := 946) (by decide +kernel) rfl, zall_of (i := 64) (by decide +kernel) rfl⟩
theorem mw_X0_unmark : zMW yX0_unmark cX0_unmark 3 none 1 := ⟨zall_of (i := 924) (by decide +kernel) rfl, zall_of (i := 135) (by decide +kernel) rfl, by decide, by decide, by decide +kernel⟩
theorem mi_X0_unmark : zMI yX0_unmark := ⟨zall_of (i := 923) (by decide +kernel) rfl, zall_of (i := 59) (by decide +kernel) rfl⟩
theorem mw_X0_wordIn : zMW yX0_wordIn cX0_wordIn 4 (some .int) 2 := ⟨zall_of (i := 751) (by decide +kernel) rfl, zall_of (i := 135) (by decide +kernel) rfl, by decide, by decide, by decide +kernel⟩
theorem mi_X0_wordIn : zMI yX0_wordIn := ⟨zall_of (i := 750) (by decide +kernel) rfl, zall_of (i := 38) (by decide +kernel) rfl⟩
theorem mw_X1_clear : zMW yX1_clear cX1_clear 2 none 0 := ⟨zall_of (i := 684) (by decide +kernel) rfl, zall_of (i := 136) (by decide +kernel) rfl, by decide, by decide, by decide +kernel⟩
theorem mi_X1_clear : zMI yX1_clear := ⟨zall_of (i := 683) (by decide +kernel) rfl, zall_of (i := 28) (by decide +kernel) rfl⟩
theorem mw_X1_copyFrom : zMW yX1_copyFrom cX1_copyFrom 2 none 1 := ⟨zall_of (i := 892) (by decide +kernel) rfl, zall_of (i := 136) (by decide +kernel) rfl, by decide, by decide, by decide +kernel⟩
theorem mi_X1_copyFrom : zMI yX1_copyFrom := ⟨zall_of (i := 891) (by decide +kernel) rfl, zall_of (i := 52) (by decide +kernel) rfl⟩
theorem mw_X2_addDeed : zMW yX2_addDeed cX2_addDeed 6 none 3 := ⟨zall_of (i := 655) (by decide +kernel) rfl, zall_of (i := 132) (by decide +kernel) rfl, by decide, by decide, by decide +kernel⟩
theorem mi_X2_addDeed : zMI yX2_addDeed := ⟨zall_of (i := 654) (by decide +kernel) rfl, zall_of (i := 22) (by decide +kernel) rfl⟩
theorem mw_X2_addWord : zMW yX2_addWord cX2_addWord 3 none 2 := ⟨zall_of (i := 634) (by decide +kernel) rfl, zall_of (i := 132) (by decide +kernel) rfl, by decide, by decide, by decide +kernel⟩
theorem mi_X2_addWord : zMI yX2_addWord := ⟨zall_of (i := 633) (by decide +kernel) rfl, zall_of (i := 17) (by decide +kernel) rfl⟩
theorem mw_X2_addressOf : zMW yX2_addressOf cX2_addressOf 6 (some .int) 3 := ⟨zall_of (i := 797) (by decide +kernel) rfl, zall_of (i := 132) (by decide +kernel) rfl, by decide, by decide, by decide +kernel⟩
theorem mi_X2_addressOf : zMI yX2_addressOf := ⟨zall_of (i := 796) (by decide +kernel) rfl, zall_of (i := 46) (by decide +kernel) rfl⟩
theorem mw_X2_addresses : zMW yX2_addresses cX2_addresses 1 (some .int) 0 := ⟨zall_of (i := 625) (by decide +kernel) rfl, zall_of (i := 132) (by decide +kernel) rfl, by decide, by decide, by decide +kernel⟩
theorem mi_X2_addresses : zMI yX2_addresses := ⟨zall_of (i := 624) (by decide +kernel) rfl, zall_of (i := 15) (by decide +kernel) rfl⟩
theorem mw_X2_clear : zMW yX2_clear cX2_clear 2 none 0 := ⟨zall_of (i := 502) (by decide +kernel) rfl, zall_of (i := 132) (by decide +kernel) rfl, by decide, by decide, by decide +kernel⟩
theorem mi_X2_clear : zMI yX2_clear := ⟨zall_of (i := 501) (by decide +kernel) rfl, zall_of (i := 3) (by decide +kernel) rfl⟩
theorem mw_X2_copyFrom : zMW yX2_copyFrom cX2_copyFrom 3 none 1 := ⟨zall_of (i := 665) (by decide +kernel) rfl, zall_of (i := 132) (by decide +kernel) rfl, by decide, by decide, by decide +kernel⟩
theorem mi_X2_copyFrom : zMI yX2_copyFrom := ⟨zall_of (i := 664) (by decide +kernel) rfl, zall_of (i := 24) (by decide +kernel) rfl⟩
theorem mw_X2_deedsInAll : zMW yX2_deedsInAll cX2_deedsInAll 3 (some .int) 0 := ⟨zall_of (i := 1044) (by decide +kernel) rfl, zall_of (i := 132) (by decide +kernel) rfl, by decide, by decide, by decide +kernel⟩
theorem mi_X2_deedsInAll : zMI yX2_deedsInAll := ⟨zall_of (i := 1043) (by decide +kernel) rfl, zall_of (i := 73) (by decide +kernel) rfl⟩
theorem mw_X2_hasAddress : zMW yX2_hasAddress cX2_hasAddress 2 (some .boolean) 1 := ⟨zall_of (i := 629) (by decide +kernel) rfl, zall_of (i := 132) (by decide +kernel) rfl, by decide, by decide, by decide +kernel⟩
theorem mi_X2_hasAddress : zMI yX2_hasAddress := ⟨zall_of (i := 628) (by decide +kernel) rfl, zall_of (i := 16) (by decide +kernel) rfl⟩
theorem mw_X2_hasCore : zMW yX2_hasCore cX2_hasCore 2 (some .boolean) 1 := ⟨zall_of (i := 647) (by decide +kernel) rfl, zall_of (i := 132) (by decide +kernel) rfl, by decide, by decide, by decide +kernel⟩
theorem mi_X2_hasCore : zMI yX2_hasCore := ⟨zall_of (i := 646) (by decide +kernel) rfl, zall_of (i := 20) (by decide +kernel) rfl⟩
theorem mw_X2_hasDeed : zMW yX2_hasDeed cX2_hasDeed 3 (some .boolean) 2 := ⟨zall_of (i := 710) (by decide +kernel) rfl, zall_of (i := 132) (by decide +kernel) rfl, by decide, by decide, by decide +kernel⟩
theorem mi_X2_hasDeed : zMI yX2_hasDeed := ⟨zall_of (i := 709) (by decide +kernel) rfl, zall_of (i := 30) (by decide +kernel) rfl⟩
theorem mw_X2_isIndexed : zMW yX2_isIndexed cX2_isIndexed 3 (some .boolean) 2 := ⟨zall_of (i := 723) (by decide +kernel) rfl, zall_of (i := 132) (by decide +kernel) rfl, by decide, by decide, by decide +kernel⟩
theorem mi_X2_isIndexed : zMI yX2_isIndexed := ⟨zall_of (i := 722) (by decide +kernel) rfl, zall_of (i := 33) (by decide +kernel) rfl⟩
theorem mw_X2_lineOf : zMW yX2_lineOf cX2_lineOf 2 (some .int) 1 := ⟨zall_of (i := 739) (by decide +kernel) rfl, zall_of (i := 132) (by decide +kernel) rfl, by decide, by decide, by decide +kernel⟩
theorem mi_X2_lineOf : zMI yX2_lineOf := ⟨zall_of (i := 738) (by decide +kernel) rfl, zall_of (i := 35) (by decide +kernel) rfl⟩
theorem mw_X2_offsetOf : zMW yX2_offsetOf cX2_offsetOf 2 (some .int) 1 := ⟨zall_of (i := 747) (by decide +kernel) rfl, zall_of (i := 132) (by decide +kernel) rfl, by decide, by decide, by decide +kernel⟩
theorem mi_X2_offsetOf : zMI yX2_offsetOf := ⟨zall_of (i := 746) (by decide +kernel) rfl, zall_of (i := 37) (by decide +kernel) rfl⟩
theorem mw_X2_setOf : zMW yX2_setOf cX2_setOf 2 (some .int) 1 := ⟨zall_of (i := 788) (by decide +kernel) rfl, zall_of (i := 132) (by decide +kernel) rfl, by decide, by decide, by decide +kernel⟩
theorem mi_X2_setOf : zMI yX2_setOf := ⟨zall_of (i := 787) (by decide +kernel) rfl, zall_of (i := 44) (by decide +kernel) rfl⟩
theorem mw_X2_sortOf : zMW yX2_sortOf cX2_sortOf 3 (some .int) 2 := ⟨zall_of (i := 714) (by decide +kernel) rfl, zall_of (i := 132) (by decide +kernel) rfl, by decide, by decide, by decide +kernel⟩
theorem mi_X2_sortOf : zMI yX2_sortOf := ⟨zall_of (i := 713) (by decide +kernel) rfl, zall_of (i := 31) (by decide +kernel) rfl⟩
theorem mw_X2_wholeOf : zMW yX2_wholeOf cX2_wholeOf 3 (some .int) 2 := ⟨zall_of (i := 719) (by decide +kernel) rfl, zall_of (i := 132) (by decide +kernel) rfl, by decide, by decide, by decide +kernel⟩
theorem mi_X2_wholeOf : zMI yX2_wholeOf := ⟨zall_of (i := 718) (by decide +kernel) rfl, zall_of (i := 32) (by decide +kernel) rfl⟩
theorem mw_X3_ask : zMW yX3_ask cX3_ask 6 (some .int) 3 := ⟨zall_of (i := 912) (by decide +kernel) rfl, zall_of (i := 134) (by decide +kernel) rfl, by decide, by decide, by decide +kernel⟩
theorem mi_X3_ask : zMI yX3_ask := ⟨zall_of (i := 911) (by decide +kernel) rfl, zall_of (i := 56) (by decide +kernel) rfl⟩
theorem mw_X3_bringLine : zMW yX3_bringLine cX3_bringLine 6 none 3 := ⟨zall_of (i := 943) (by decide +kernel) rfl, zall_of (i := 134) (by decide +kernel) rfl, by decide, by decide, by decide +kernel⟩
theorem mi_X3_bringLine : zMI yX3_bringLine := ⟨zall_of (i := 942) (by decide +kernel) rfl, zall_of (i := 63) (by decide +kernel) rfl⟩
theorem mw_X3_changeOthers : zMW yX3_changeOthers cX3_changeOthers 7 (some .boolean) 3 := ⟨zall_of (i := 939) (by decide +kernel) rfl, zall_of (i := 134) (by decide +kernel) rfl, by decide, by decide, by decide +kernel⟩
theorem mi_X3_changeOthers : zMI yX3_changeOthers := ⟨zall_of (i := 938) (by decide +kernel) rfl, zall_of (i := 62) (by decide +kernel) rfl⟩
theorem mw_X3_copyFrom : zMW yX3_copyFrom cX3_copyFrom 3 none 1 := ⟨zall_of (i := 882) (by decide +kernel) rfl, zall_of (i := 134) (by decide +kernel) rfl, by decide, by decide, by decide +kernel⟩
theorem mi_X3_copyFrom : zMI yX3_copyFrom := ⟨zall_of (i := 881) (by decide +kernel) rfl, zall_of (i := 50) (by decide +kernel) rfl⟩
theorem mw_X3_countInAll : zMW yX3_countInAll cX3_countInAll 4 (some .int) 1 := ⟨zall_of (i := 1016) (by decide +kernel) rfl, zall_of (i := 134) (by decide +kernel) rfl, by decide, by decide, by decide +kernel⟩
theorem mi_X3_countInAll : zMI yX3_countInAll := ⟨zall_of (i := 1015) (by decide +kernel) rfl, zall_of (i := 72) (by decide +kernel) rfl⟩
theorem mw_X3_doBegin : zMW yX3_doBegin cX3_doBegin 4 (some .int) 2 := ⟨zall_of (i := 904) (by decide +kernel) rfl, zall_of (i := 134) (by decide +kernel) rfl, by decide, by decide, by decide +kernel⟩
theorem mi_X3_doBegin : zMI yX3_doBegin := ⟨zall_of (i := 903) (by decide +kernel) rfl, zall_of (i := 54) (by decide +kernel) rfl⟩
theorem mw_X3_doEnd : zMW yX3_doEnd cX3_doEnd 5 none 2 := ⟨zall_of (i := 955) (by decide +kernel) rfl, zall_of (i := 134) (by decide +kernel) rfl, by decide, by decide, by decide +kernel⟩
theorem mi_X3_doEnd : zMI yX3_doEnd := ⟨zall_of (i := 954) (by decide +kernel) rfl, zall_of (i := 66) (by decide +kernel) rfl⟩
theorem mw_X3_doGet : zMW yX3_doGet cX3_doGet 6 (some .int) 2 := ⟨zall_of (i := 959) (by decide +kernel) rfl, zall_of (i := 134) (by decide +kernel) rfl, by decide, by decide, by decide +kernel⟩
theorem mi_X3_doGet : zMI yX3_doGet := ⟨zall_of (i := 958) (by decide +kernel) rfl, zall_of (i := 67) (by decide +kernel) rfl⟩
theorem mw_X3_doPut : zMW yX3_doPut cX3_doPut 10 (some .int) 2 := ⟨zall_of (i := 964) (by decide +kernel) rfl, zall_of (i := 134) (by decide +kernel) rfl, by decide, by decide, by decide +kernel⟩
theorem mi_X3_doPut : zMI yX3_doPut := ⟨zall_of (i := 963) (by decide +kernel) rfl, zall_of (i := 68) (by decide +kernel) rfl⟩
theorem mw_X3_endTries : zMW yX3_endTries cX3_endTries 5 none 2 := ⟨zall_of (i := 920) (by decide +kernel) rfl, zall_of (i := 134) (by decide +kernel) rfl, by decide, by decide, by decide +kernel⟩
theorem mi_X3_endTries : zMI yX3_endTries := ⟨zall_of (i := 919) (by decide +kernel) rfl, zall_of (i := 58) (by decide +kernel) rfl⟩
theorem mw_X3_hasDeedsLeft : zMW yX3_hasDeedsLeft cX3_hasDeedsLeft 2 (some .boolean) 1 := ⟨zall_of (i := 857) (by decide +kernel) rfl, zall_of (i := 134) (by decide +kernel) rfl, by decide, by decide, by decide +kernel⟩
theorem mi_X3_hasDeedsLeft : zMI yX3_hasDeedsLeft := ⟨zall_of (i := 856) (by decide +kernel) rfl, zall_of (i := 48) (by decide +kernel) rfl⟩
theorem mw_X3_isAllDone : zMW yX3_isAllDone cX3_isAllDone 2 (some .boolean) 0 := ⟨zall_of (i := 998) (by decide +kernel) rfl, zall_of (i := 134) (by decide +kernel) rfl, by decide, by decide, by decide +kernel⟩
theorem mi_X3_isAllDone : zMI yX3_isAllDone := ⟨zall_of (i := 997) (by decide +kernel) rfl, zall_of (i := 71) (by decide +kernel) rfl⟩
theorem mw_X3_lostAfter : zMW yX3_lostAfter cX3_lostAfter 3 (some .int) 2 := ⟨zall_of (i := 870) (by decide +kernel) rfl, zall_of (i := 134) (by decide +kernel) rfl, by decide, by decide, by decide +kernel⟩
theorem mi_X3_lostAfter : zMI yX3_lostAfter := ⟨zall_of (i := 869) (by decide +kernel) rfl, zall_of (i := 49) (by decide +kernel) rfl⟩
theorem mw_X3_markLine : zMW yX3_markLine cX3_markLine 5 none 3 := ⟨zall_of (i := 951) (by decide +kernel) rfl, zall_of (i := 134) (by decide +kernel) rfl, by decide, by decide, by decide +kernel⟩
theorem mi_X3_markLine : zMI yX3_markLine := ⟨zall_of (i := 950) (by decide +kernel) rfl, zall_of (i := 65) (by decide +kernel) rfl⟩
theorem mw_X3_marking : zMW yX3_marking cX3_marking 7 (some .int) 3 := ⟨zall_of (i := 916) (by decide +kernel) rfl, zall_of (i := 134) (by decide +kernel) rfl, by decide, by decide, by decide +kernel⟩
theorem mi_X3_marking : zMI yX3_marking := ⟨zall_of (i := 915) (by decide +kernel) rfl, zall_of (i := 57) (by decide +kernel) rfl⟩
theorem mw_X3_reach : zMW yX3_reach cX3_reach 9 (some .int) 3 := ⟨zall_of (i := 908) (by decide +kernel) rfl, zall_of (i := 134) (by decide +kernel) rfl, by decide, by decide, by decide +kernel⟩
theorem mi_X3_reach : zMI yX3_reach := ⟨zall_of (i := 907) (by decide +kernel) rfl, zall_of (i := 55) (by decide +kernel) rfl⟩
theorem mw_X3_startOver : zMW yX3_startOver cX3_startOver 4 none 2 := ⟨zall_of (i := 672) (by decide +kernel) rfl, zall_of (i := 134) (by decide +kernel) rfl, by decide, by decide, by decide +kernel⟩
theorem mi_X3_startOver : zMI yX3_startOver := ⟨zall_of (i := 671) (by decide +kernel) rfl, zall_of (i := 25) (by decide +kernel) rfl⟩
theorem mw_X3_takeDraws : zMW yX3_takeDraws cX3_takeDraws 6 (some .int) 2 := ⟨zall_of (i := 994) (by decide +kernel) rfl, zall_of (i := 134) (by decide +kernel) rfl, by decide, by decide, by decide +kernel⟩
theorem mi_X3_takeDraws : zMI yX3_takeDraws := ⟨zall_of (i := 993) (by decide +kernel) rfl, zall_of (i := 70) (by decide +kernel) rfl⟩
theorem mw_X3_takeRounds : zMW yX3_takeRounds cX3_takeRounds 5 (some .int) 1 := ⟨zall_of (i := 981) (by decide +kernel) rfl, zall_of (i := 134) (by decide +kernel) rfl, by decide, by decide, by decide +kernel⟩
theorem mi_X3_takeRounds : zMI yX3_takeRounds := ⟨zall_of (i := 980) (by decide +kernel) rfl, zall_of (i := 69) (by decide +kernel) rfl⟩
theorem mw_X3_takeStep : zMW yX3_takeStep cX3_takeStep 5 (some .int) 1 := ⟨zall_of (i := 897) (by decide +kernel) rfl, zall_of (i := 134) (by decide +kernel) rfl, by decide, by decide, by decide +kernel⟩
theorem mi_X3_takeStep : zMI yX3_takeStep := ⟨zall_of (i := 896) (by decide +kernel) rfl, zall_of (i := 53) (by decide +kernel) rfl⟩
theorem mw_X3_wordAt : zMW yX3_wordAt cX3_wordAt 5 (some .int) 1 := ⟨zall_of (i := 735) (by decide +kernel) rfl, zall_of (i := 134) (by decide +kernel) rfl, by decide, by decide, by decide +kernel⟩
theorem mi_X3_wordAt : zMI yX3_wordAt := ⟨zall_of (i := 734) (by decide +kernel) rfl, zall_of (i := 34) (by decide +kernel) rfl⟩
theorem mw_X3_writeBack : zMW yX3_writeBack cX3_writeBack 5 none 2 := ⟨zall_of (i := 934) (by decide +kernel) rfl, zall_of (i := 134) (by decide +kernel) rfl, by decide, by decide, by decide +kernel⟩
theorem mi_X3_writeBack : zMI yX3_writeBack := ⟨zall_of (i := 933) (by decide +kernel) rfl, zall_of (i := 61) (by decide +kernel) rfl⟩
theorem mw_X4_play : zMW yX4_play cX4_play 5 none 3 := ⟨zall_of (i := 772) (by decide +kernel) rfl, zall_of (i := 137) (by decide +kernel) rfl, by decide, by decide, by decide +kernel⟩
theorem mi_X4_play : zMI yX4_play := ⟨zall_of (i := 771) (by decide +kernel) rfl, zall_of (i := 41) (by decide +kernel) rfl⟩
theorem mw_X4_playDeed : zMW yX4_playDeed cX4_playDeed 4 none 2 := ⟨zall_of (i := 777) (by decide +kernel) rfl, zall_of (i := 137) (by decide +kernel) rfl, by decide, by decide, by decide +kernel⟩
theorem mi_X4_playDeed : zMI yX4_playDeed := ⟨zall_of (i := 776) (by decide +kernel) rfl, zall_of (i := 42) (by decide +kernel) rfl⟩
theorem mw_X4_startOver : zMW yX4_startOver cX4_startOver 1 none 0 := ⟨zall_of (i := 767) (by decide +kernel) rfl, zall_of (i := 137) (by decide +kernel) rfl, by decide, by decide, by decide +kernel⟩
theorem mi_X4_startOver : zMI yX4_startOver := ⟨zall_of (i := 766) (by decide +kernel) rfl, zall_of (i := 40) (by decide +kernel) rfl⟩
theorem mw_X4_touch : zMW yX4_touch cX4_touch 4 (some .int) 2 := ⟨zall_of (i := 793) (by decide +kernel) rfl, zall_of (i := 137) (by decide +kernel) rfl, by decide, by decide, by decide +kernel⟩
theorem mi_X4_touch : zMI yX4_touch := ⟨zall_of (i := 792) (by decide +kernel) rfl, zall_of (i := 45) (by decide +kernel) rfl⟩
theorem mw_X4_widen : zMW yX4_widen cX4_widen 4 none 0 := ⟨zall_of (i := 784) (by decide +kernel) rfl, zall_of (i := 137) (by decide +kernel) rfl, by decide, by decide, by decide +kernel⟩
theorem mi_X4_widen : zMI yX4_widen := ⟨zall_of (i := 783) (by decide +kernel) rfl, zall_of (i := 43) (by decide +kernel) rfl⟩
theorem mw_X5_advance : zMW yX5_advance cX5_advance 2 none 0 := ⟨zall_of (i := 512) (by decide +kernel) rfl, zall_of (i := 133) (by decide +kernel) rfl, by decide, by decide, by decide +kernel⟩
theorem mi_X5_advance : zMI yX5_advance := ⟨zall_of (i := 511) (by decide +kernel) rfl, zall_of (i := 4) (by decide +kernel) rfl⟩
theorem mw_X5_fail : zMW yX5_fail cX5_fail 3 (some .boolean) 2 := ⟨zall_of (i := 589) (by decide +kernel) rfl, zall_of (i := 133) (by decide +kernel) rfl, by decide, by decide, by decide +kernel⟩
theorem mi_X5_fail : zMI yX5_fail := ⟨zall_of (i := 588) (by decide +kernel) rfl, zall_of (i := 8) (by decide +kernel) rfl⟩
theorem mw_X5_isName : zMW yX5_isName cX5_isName 3 (some .boolean) 1 := ⟨zall_of (i := 528) (by decide +kernel) rfl, zall_of (i := 133) (by decide +kernel) rfl, by decide, by decide, by decide +kernel⟩
theorem mi_X5_isName : zMI yX5_isName := ⟨zall_of (i := 527) (by decide +kernel) rfl, zall_of (i := 7) (by decide +kernel) rfl⟩
theorem mw_X5_kindOf : zMW yX5_kindOf cX5_kindOf 1 (some .int) 1 := ⟨zall_of (i := 515) (by decide +kernel) rfl, zall_of (i := 133) (by decide +kernel) rfl, by decide, by decide, by decide +kernel⟩
theorem ms_X5_kindOf : Cond.static yX5_kindOf ∈ zall := zall_of (i := 514) (by decide +kernel) rfl
theorem mw_X5_readCore : zMW yX5_readCore cX5_readCore 1 (some .boolean) 0 := ⟨zall_of (i := 639) (by decide +kernel) rfl, zall_of (i := 133) (by decide +kernel) rfl, by decide, by decide, by decide +kernel⟩
theorem mi_X5_readCore : zMI yX5_readCore := ⟨zall_of (i := 638) (by decide +kernel) rfl, zall_of (i := 18) (by decide +kernel) rfl⟩
theorem mw_X5_readDeed : zMW yX5_readDeed cX5_readDeed 4 (some .boolean) 1 := ⟨zall_of (i := 643) (by decide +kernel) rfl, zall_of (i := 133) (by decide +kernel) rfl, by decide, by decide, by decide +kernel⟩
theorem mi_X5_readDeed : zMI yX5_readDeed := ⟨zall_of (i := 642) (by decide +kernel) rfl, zall_of (i := 19) (by decide +kernel) rfl⟩
theorem mw_X5_readEnd : zMW yX5_readEnd cX5_readEnd 1 (some .boolean) 0 := ⟨zall_of (i := 661) (by decide +kernel) rfl, zall_of (i := 133) (by decide +kernel) rfl, by decide, by decide, by decide +kernel⟩
theorem mi_X5_readEnd : zMI yX5_readEnd := ⟨zall_of (i := 660) (by decide +kernel) rfl, zall_of (i := 23) (by decide +kernel) rfl⟩
theorem mw_X5_readLine : zMW yX5_readLine cX5_readLine 2 (some .boolean) 0 := ⟨zall_of (i := 519) (by decide +kernel) rfl, zall_of (i := 133) (by decide +kernel) rfl, by decide, by decide, by decide +kernel⟩
theorem mi_X5_readLine : zMI yX5_readLine := ⟨zall_of (i := 518) (by decide +kernel) rfl, zall_of (i := 5) (by decide +kernel) rfl⟩
theorem mw_X5_readMachine : zMW yX5_readMachine cX5_readMachine 1 (some .boolean) 0 := ⟨zall_of (i := 593) (by decide +kernel) rfl, zall_of (i := 133) (by decide +kernel) rfl, by decide, by decide, by decide +kernel⟩
theorem mi_X5_readMachine : zMI yX5_readMachine := ⟨zall_of (i := 592) (by decide +kernel) rfl, zall_of (i := 9) (by decide +kernel) rfl⟩
theorem mw_X5_readRest : zMW yX5_readRest cX5_readRest 5 (some .boolean) 1 := ⟨zall_of (i := 651) (by decide +kernel) rfl, zall_of (i := 133) (by decide +kernel) rfl, by decide, by decide, by decide +kernel⟩
theorem mi_X5_readRest : zMI yX5_readRest := ⟨zall_of (i := 650) (by decide +kernel) rfl, zall_of (i := 21) (by decide +kernel) rfl⟩
theorem mw_X5_readRule : zMW yX5_readRule cX5_readRule 1 (some .boolean) 0 := ⟨zall_of (i := 613) (by decide +kernel) rfl, zall_of (i := 133) (by decide +kernel) rfl, by decide, by decide, by decide +kernel⟩
theorem mi_X5_readRule : zMI yX5_readRule := ⟨zall_of (i := 612) (by decide +kernel) rfl, zall_of (i := 13) (by decide +kernel) rfl⟩
theorem mw_X5_readText : zMW yX5_readText cX5_readText 3 (some .boolean) 1 := ⟨zall_of (i := 498) (by decide +kernel) rfl, zall_of (i := 133) (by decide +kernel) rfl, by decide, by decide, by decide +kernel⟩
theorem mi_X5_readText : zMI yX5_readText := ⟨zall_of (i := 497) (by decide +kernel) rfl, zall_of (i := 2) (by decide +kernel) rfl⟩
theorem mw_X5_readWord : zMW yX5_readWord cX5_readWord 4 (some .boolean) 0 := ⟨zall_of (i := 621) (by decide +kernel) rfl, zall_of (i := 133) (by decide +kernel) rfl, by decide, by decide, by decide +kernel⟩
theorem mi_X5_readWord : zMI yX5_readWord := ⟨zall_of (i := 620) (by decide +kernel) rfl, zall_of (i := 14) (by decide +kernel) rfl⟩
theorem mw_X5_sortHere : zMW yX5_sortHere cX5_sortHere 1 (some .int) 0 := ⟨zall_of (i := 523) (by decide +kernel) rfl, zall_of (i := 133) (by decide +kernel) rfl, by decide, by decide, by decide +kernel⟩
theorem mi_X5_sortHere : zMI yX5_sortHere := ⟨zall_of (i := 522) (by decide +kernel) rfl, zall_of (i := 6) (by decide +kernel) rfl⟩
theorem mw_X5_takeName : zMW yX5_takeName cX5_takeName 2 (some .boolean) 1 := ⟨zall_of (i := 602) (by decide +kernel) rfl, zall_of (i := 133) (by decide +kernel) rfl, by decide, by decide, by decide +kernel⟩
theorem mi_X5_takeName : zMI yX5_takeName := ⟨zall_of (i := 601) (by decide +kernel) rfl, zall_of (i := 11) (by decide +kernel) rfl⟩
theorem mw_X5_takeSetting : zMW yX5_takeSetting cX5_takeSetting 5 (some .int) 3 := ⟨zall_of (i := 598) (by decide +kernel) rfl, zall_of (i := 133) (by decide +kernel) rfl, by decide, by decide, by decide +kernel⟩
theorem mi_X5_takeSetting : zMI yX5_takeSetting := ⟨zall_of (i := 597) (by decide +kernel) rfl, zall_of (i := 10) (by decide +kernel) rfl⟩
theorem mw_X5_takeWhole : zMW yX5_takeWhole cX5_takeWhole 3 (some .boolean) 2 := ⟨zall_of (i := 606) (by decide +kernel) rfl, zall_of (i := 133) (by decide +kernel) rfl, by decide, by decide, by decide +kernel⟩
theorem mi_X5_takeWhole : zMI yX5_takeWhole := ⟨zall_of (i := 605) (by decide +kernel) rfl, zall_of (i := 12) (by decide +kernel) rfl⟩
theorem mw_X6_about : zMW yX6_about cX6_about 2 (some .int) 1 := ⟨zall_of (i := 701) (by decide +kernel) rfl, zall_of (i := 131) (by decide +kernel) rfl, by decide, by decide, by decide +kernel⟩
theorem mi_X6_about : zMI yX6_about := ⟨zall_of (i := 699) (by decide +kernel) rfl, zall_of (i := 700) (by decide +kernel) rfl⟩
theorem mw_X6_advice : zMW yX6_advice cX6_advice 3 (some .int) 2 := ⟨zall_of (i := 866) (by decide +kernel) rfl, zall_of (i := 131) (by decide +kernel) rfl, by decide, by decide, by decide +kernel⟩
theorem mi_X6_advice : zMI yX6_advice := ⟨zall_of (i := 864) (by decide +kernel) rfl, zall_of (i := 865) (by decide +kernel) rfl⟩
theorem mw_X6_agrees : zMW yX6_agrees cX6_agrees 2 (some .int) 0 := ⟨zall_of (i := 808) (by decide +kernel) rfl, zall_of (i := 131) (by decide +kernel) rfl, by decide, by decide, by decide +kernel⟩
theorem mi_X6_agrees : zMI yX6_agrees := ⟨zall_of (i := 806) (by decide +kernel) rfl, zall_of (i := 807) (by decide +kernel) rfl⟩
theorem mw_X6_alone : zMW yX6_alone cX6_alone 5 (some .int) 2 := ⟨zall_of (i := 816) (by decide +kernel) rfl, zall_of (i := 131) (by decide +kernel) rfl, by decide, by decide, by decide +kernel⟩
theorem mi_X6_alone : zMI yX6_alone := ⟨zall_of (i := 814) (by decide +kernel) rfl, zall_of (i := 815) (by decide +kernel) rfl⟩
theorem mw_X6_answer : zMW yX6_answer cX6_answer 2 (some .int) 1 := ⟨zall_of (i := 688) (by decide +kernel) rfl, zall_of (i := 131) (by decide +kernel) rfl, by decide, by decide, by decide +kernel⟩
theorem mi_X6_answer : zMI yX6_answer := ⟨zall_of (i := 687) (by decide +kernel) rfl, zall_of (i := 29) (by decide +kernel) rfl⟩
theorem mw_X6_asBit : zMW yX6_asBit cX6_asBit 1 (some .int) 1 := ⟨zall_of (i := 726) (by decide +kernel) rfl, zall_of (i := 131) (by decide +kernel) rfl, by decide, by decide, by decide +kernel⟩
theorem ms_X6_asBit : Cond.static yX6_asBit ∈ zall := zall_of (i := 725) (by decide +kernel) rfl
theorem mw_X6_back : zMW yX6_back cX6_back 1 (some .boolean) 0 := ⟨zall_of (i := 1036) (by decide +kernel) rfl, zall_of (i := 131) (by decide +kernel) rfl, by decide, by decide, by decide +kernel⟩
theorem mi_X6_back : zMI yX6_back := ⟨zall_of (i := 1034) (by decide +kernel) rfl, zall_of (i := 1035) (by decide +kernel) rfl⟩
theorem mw_X6_best : zMW yX6_best cX6_best 5 (some .int) 1 := ⟨zall_of (i := 1024) (by decide +kernel) rfl, zall_of (i := 131) (by decide +kernel) rfl, by decide, by decide, by decide +kernel⟩
theorem mi_X6_best : zMI yX6_best := ⟨zall_of (i := 1022) (by decide +kernel) rfl, zall_of (i := 1023) (by decide +kernel) rfl⟩
theorem mw_X6_cached : zMW yX6_cached cX6_cached 4 (some .int) 2 := ⟨zall_of (i := 825) (by decide +kernel) rfl, zall_of (i := 131) (by decide +kernel) rfl, by decide, by decide, by decide +kernel⟩
theorem mi_X6_cached : zMI yX6_cached := ⟨zall_of (i := 823) (by decide +kernel) rfl, zall_of (i := 824) (by decide +kernel) rfl⟩
theorem mw_X6_commit : zMW yX6_commit cX6_commit 4 (some .int) 2 := ⟨zall_of (i := 874) (by decide +kernel) rfl, zall_of (i := 131) (by decide +kernel) rfl, by decide, by decide, by decide +kernel⟩
theorem mi_X6_commit : zMI yX6_commit := ⟨zall_of (i := 872) (by decide +kernel) rfl, zall_of (i := 873) (by decide +kernel) rfl⟩
theorem mw_X6_core : zMW yX6_core cX6_core 4 (some .int) 2 := ⟨zall_of (i := 853) (by decide +kernel) rfl, zall_of (i := 131) (by decide +kernel) rfl, by decide, by decide, by decide +kernel⟩
theorem mi_X6_core : zMI yX6_core := ⟨zall_of (i := 851) (by decide +kernel) rfl, zall_of (i := 852) (by decide +kernel) rfl⟩
theorem mw_X6_count : zMW yX6_count cX6_count 3 (some .int) 2 := ⟨zall_of (i := 862) (by decide +kernel) rfl, zall_of (i := 131) (by decide +kernel) rfl, by decide, by decide, by decide +kernel⟩
theorem mi_X6_count : zMI yX6_count := ⟨zall_of (i := 860) (by decide +kernel) rfl, zall_of (i := 861) (by decide +kernel) rfl⟩
theorem mw_X6_deed : zMW yX6_deed cX6_deed 4 (some .int) 3 := ⟨zall_of (i := 706) (by decide +kernel) rfl, zall_of (i := 131) (by decide +kernel) rfl, by decide, by decide, by decide +kernel⟩
theorem mi_X6_deed : zMI yX6_deed := ⟨zall_of (i := 704) (by decide +kernel) rfl, zall_of (i := 705) (by decide +kernel) rfl⟩
theorem mw_X6_done : zMW yX6_done cX6_done 4 (some .int) 1 := ⟨zall_of (i := 1056) (by decide +kernel) rfl, zall_of (i := 131) (by decide +kernel) rfl, by decide, by decide, by decide +kernel⟩
theorem mi_X6_done : zMI yX6_done := ⟨zall_of (i := 1054) (by decide +kernel) rfl, zall_of (i := 1055) (by decide +kernel) rfl⟩
theorem mw_X6_draws : zMW yX6_draws cX6_draws 3 (some .int) 2 := ⟨zall_of (i := 986) (by decide +kernel) rfl, zall_of (i := 131) (by decide +kernel) rfl, by decide, by decide, by decide +kernel⟩
theorem mi_X6_draws : zMI yX6_draws := ⟨zall_of (i := 984) (by decide +kernel) rfl, zall_of (i := 985) (by decide +kernel) rfl⟩
theorem mw_X6_fault : zMW yX6_fault cX6_fault 1 (some .int) 0 := ⟨zall_of (i := 693) (by decide +kernel) rfl, zall_of (i := 131) (by decide +kernel) rfl, by decide, by decide, by decide +kernel⟩
theorem mi_X6_fault : zMI yX6_fault := ⟨zall_of (i := 691) (by decide +kernel) rfl, zall_of (i := 692) (by decide +kernel) rfl⟩
theorem mw_X6_feed : zMW yX6_feed cX6_feed 6 (some .int) 5 := ⟨zall_of (i := 479) (by decide +kernel) rfl, zall_of (i := 131) (by decide +kernel) rfl, by decide, by decide, by decide +kernel⟩
theorem mi_X6_feed : zMI yX6_feed := ⟨zall_of (i := 477) (by decide +kernel) rfl, zall_of (i := 478) (by decide +kernel) rfl⟩
theorem mw_X6_interrupt : zMW yX6_interrupt cX6_interrupt 2 (some .int) 1 := ⟨zall_of (i := 1003) (by decide +kernel) rfl, zall_of (i := 131) (by decide +kernel) rfl, by decide, by decide, by decide +kernel⟩
theorem mi_X6_interrupt : zMI yX6_interrupt := ⟨zall_of (i := 1001) (by decide +kernel) rfl, zall_of (i := 1002) (by decide +kernel) rfl⟩
theorem mw_X6_isSeed : zMW yX6_isSeed cX6_isSeed 1 (some .boolean) 1 := ⟨zall_of (i := 989) (by decide +kernel) rfl, zall_of (i := 131) (by decide +kernel) rfl, by decide, by decide, by decide +kernel⟩
theorem ms_X6_isSeed : Cond.static yX6_isSeed ∈ zall := zall_of (i := 988) (by decide +kernel) rfl
theorem mw_X6_isTrial : zMW yX6_isTrial cX6_isTrial 3 (some .boolean) 3 := ⟨zall_of (i := 1011) (by decide +kernel) rfl, zall_of (i := 131) (by decide +kernel) rfl, by decide, by decide, by decide +kernel⟩
theorem ms_X6_isTrial : Cond.static yX6_isTrial ∈ zall := zall_of (i := 1010) (by decide +kernel) rfl
theorem mw_X6_isWithin : zMW yX6_isWithin cX6_isWithin 3 (some .boolean) 3 := ⟨zall_of (i := 490) (by decide +kernel) rfl, zall_of (i := 131) (by decide +kernel) rfl, by decide, by decide, by decide +kernel⟩
theorem ms_X6_isWithin : Cond.static yX6_isWithin ∈ zall := zall_of (i := 489) (by decide +kernel) rfl
theorem mw_X6_keep : zMW yX6_keep cX6_keep 1 (some .boolean) 0 := ⟨zall_of (i := 1032) (by decide +kernel) rfl, zall_of (i := 131) (by decide +kernel) rfl, by decide, by decide, by decide +kernel⟩
theorem mi_X6_keep : zMI yX6_keep := ⟨zall_of (i := 1030) (by decide +kernel) rfl, zall_of (i := 1031) (by decide +kernel) rfl⟩
theorem mw_X6_lock : zMW yX6_lock cX6_lock 1 (some .int) 0 := ⟨zall_of (i := 812) (by decide +kernel) rfl, zall_of (i := 131) (by decide +kernel) rfl, by decide, by decide, by decide +kernel⟩
theorem mi_X6_lock : zMI yX6_lock := ⟨zall_of (i := 810) (by decide +kernel) rfl, zall_of (i := 811) (by decide +kernel) rfl⟩
theorem mw_X6_machine : zMW yX6_machine cX6_machine 2 (some .int) 1 := ⟨zall_of (i := 487) (by decide +kernel) rfl, zall_of (i := 131) (by decide +kernel) rfl, by decide, by decide, by decide +kernel⟩
theorem mi_X6_machine : zMI yX6_machine := ⟨zall_of (i := 485) (by decide +kernel) rfl, zall_of (i := 486) (by decide +kernel) rfl⟩
theorem mw_X6_memory : zMW yX6_memory cX6_memory 2 (some .int) 1 := ⟨zall_of (i := 755) (by decide +kernel) rfl, zall_of (i := 131) (by decide +kernel) rfl, by decide, by decide, by decide +kernel⟩
theorem mi_X6_memory : zMI yX6_memory := ⟨zall_of (i := 753) (by decide +kernel) rfl, zall_of (i := 754) (by decide +kernel) rfl⟩
theorem mw_X6_place : zMW yX6_place cX6_place 8 (some .int) 4 := ⟨zall_of (i := 821) (by decide +kernel) rfl, zall_of (i := 131) (by decide +kernel) rfl, by decide, by decide, by decide +kernel⟩
theorem mi_X6_place : zMI yX6_place := ⟨zall_of (i := 819) (by decide +kernel) rfl, zall_of (i := 820) (by decide +kernel) rfl⟩
theorem mw_X6_playCommits : zMW yX6_playCommits cX6_playCommits 2 none 0 := ⟨zall_of (i := 763) (by decide +kernel) rfl, zall_of (i := 131) (by decide +kernel) rfl, by decide, by decide, by decide +kernel⟩
theorem mi_X6_playCommits : zMI yX6_playCommits := ⟨zall_of (i := 762) (by decide +kernel) rfl, zall_of (i := 39) (by decide +kernel) rfl⟩
theorem mw_X6_putBytes : zMW yX6_putBytes cX6_putBytes 3 none 1 := ⟨zall_of (i := 483) (by decide +kernel) rfl, zall_of (i := 131) (by decide +kernel) rfl, by decide, by decide, by decide +kernel⟩
theorem mi_X6_putBytes : zMI yX6_putBytes := ⟨zall_of (i := 482) (by decide +kernel) rfl, zall_of (i := 0) (by decide +kernel) rfl⟩
theorem mw_X6_reads : zMW yX6_reads cX6_reads 2 (some .int) 1 := ⟨zall_of (i := 837) (by decide +kernel) rfl, zall_of (i := 131) (by decide +kernel) rfl, by decide, by decide, by decide +kernel⟩
theorem mi_X6_reads : zMI yX6_reads := ⟨zall_of (i := 835) (by decide +kernel) rfl, zall_of (i := 836) (by decide +kernel) rfl⟩
theorem mw_X6_refuse : zMW yX6_refuse cX6_refuse 2 (some .int) 1 := ⟨zall_of (i := 494) (by decide +kernel) rfl, zall_of (i := 131) (by decide +kernel) rfl, by decide, by decide, by decide +kernel⟩
theorem mi_X6_refuse : zMI yX6_refuse := ⟨zall_of (i := 493) (by decide +kernel) rfl, zall_of (i := 1) (by decide +kernel) rfl⟩
theorem mw_X6_rounds : zMW yX6_rounds cX6_rounds 2 (some .int) 1 := ⟨zall_of (i := 977) (by decide +kernel) rfl, zall_of (i := 131) (by decide +kernel) rfl, by decide, by decide, by decide +kernel⟩
theorem mi_X6_rounds : zMI yX6_rounds := ⟨zall_of (i := 975) (by decide +kernel) rfl, zall_of (i := 976) (by decide +kernel) rfl⟩
theorem mw_X6_serial : zMW yX6_serial cX6_serial 2 (some .int) 1 := ⟨zall_of (i := 759) (by decide +kernel) rfl, zall_of (i := 131) (by decide +kernel) rfl, by decide, by decide, by decide +kernel⟩
theorem mi_X6_serial : zMI yX6_serial := ⟨zall_of (i := 757) (by decide +kernel) rfl, zall_of (i := 758) (by decide +kernel) rfl⟩
theorem mw_X6_sharers : zMW yX6_sharers cX6_sharers 4 (some .int) 1 := ⟨zall_of (i := 833) (by decide +kernel) rfl, zall_of (i := 131) (by decide +kernel) rfl, by decide, by decide, by decide +kernel⟩
theorem mi_X6_sharers : zMI yX6_sharers := ⟨zall_of (i := 831) (by decide +kernel) rfl, zall_of (i := 832) (by decide +kernel) rfl⟩
theorem mw_X6_size : zMW yX6_size cX6_size 2 (some .int) 1 := ⟨zall_of (i := 1040) (by decide +kernel) rfl, zall_of (i := 131) (by decide +kernel) rfl, by decide, by decide, by decide +kernel⟩
theorem mi_X6_size : zMI yX6_size := ⟨zall_of (i := 1038) (by decide +kernel) rfl, zall_of (i := 1039) (by decide +kernel) rfl⟩
theorem mw_X6_step : zMW yX6_step cX6_step 2 (some .int) 1 := ⟨zall_of (i := 973) (by decide +kernel) rfl, zall_of (i := 131) (by decide +kernel) rfl, by decide, by decide, by decide +kernel⟩
theorem mi_X6_step : zMI yX6_step := ⟨zall_of (i := 971) (by decide +kernel) rfl, zall_of (i := 972) (by decide +kernel) rfl⟩
theorem mw_X6_traffic : zMW yX6_traffic cX6_traffic 2 (some .int) 1 := ⟨zall_of (i := 849) (by decide +kernel) rfl, zall_of (i := 131) (by decide +kernel) rfl, by decide, by decide, by decide +kernel⟩
theorem mi_X6_traffic : zMI yX6_traffic := ⟨zall_of (i := 847) (by decide +kernel) rfl, zall_of (i := 848) (by decide +kernel) rfl⟩
theorem mw_X6_tried : zMW yX6_tried cX6_tried 5 (some .int) 4 := ⟨zall_of (i := 1008) (by decide +kernel) rfl, zall_of (i := 131) (by decide +kernel) rfl, by decide, by decide, by decide +kernel⟩
theorem mi_X6_tried : zMI yX6_tried := ⟨zall_of (i := 1006) (by decide +kernel) rfl, zall_of (i := 1007) (by decide +kernel) rfl⟩
theorem mw_X6_triedWord : zMW yX6_triedWord cX6_triedWord 5 (some .int) 4 := ⟨zall_of (i := 1020) (by decide +kernel) rfl, zall_of (i := 131) (by decide +kernel) rfl, by decide, by decide, by decide +kernel⟩
theorem mi_X6_triedWord : zMI yX6_triedWord := ⟨zall_of (i := 1018) (by decide +kernel) rfl, zall_of (i := 1019) (by decide +kernel) rfl⟩
theorem mw_X6_trouble : zMW yX6_trouble cX6_trouble 1 (some .int) 0 := ⟨zall_of (i := 1048) (by decide +kernel) rfl, zall_of (i := 131) (by decide +kernel) rfl, by decide, by decide, by decide +kernel⟩
theorem mi_X6_trouble : zMI yX6_trouble := ⟨zall_of (i := 1046) (by decide +kernel) rfl, zall_of (i := 1047) (by decide +kernel) rfl⟩
theorem mw_X6_waysFor : zMW yX6_waysFor cX6_waysFor 2 (some .int) 1 := ⟨zall_of (i := 1028) (by decide +kernel) rfl, zall_of (i := 131) (by decide +kernel) rfl, by decide, by decide, by decide +kernel⟩
theorem mi_X6_waysFor : zMI yX6_waysFor := ⟨zall_of (i := 1026) (by decide +kernel) rfl, zall_of (i := 1027) (by decide +kernel) rfl⟩
theorem mw_X6_where : zMW yX6_where cX6_where 1 (some .int) 0 := ⟨zall_of (i := 697) (by decide +kernel) rfl, zall_of (i := 131) (by decide +kernel) rfl, by decide, by decide, by decide +kernel⟩
theorem mi_X6_where : zMI yX6_where := ⟨zall_of (i := 695) (by decide +kernel) rfl, zall_of (i := 696) (by decide +kernel) rfl⟩
theorem mw_X6_word : zMW yX6_word cX6_word 2 (some .int) 1 := ⟨zall_of (i := 730) (by decide +kernel) rfl, zall_of (i := 131) (by decide +kernel) rfl, by decide, by decide, by decide +kernel⟩
theorem mi_X6_word : zMI yX6_word := ⟨zall_of (i := 728) (by decide +kernel) rfl, zall_of (i := 729) (by decide +kernel) rfl⟩
theorem mw_X6_would : zMW yX6_would cX6_would 2 (some .int) 1 := ⟨zall_of (i := 878) (by decide +kernel) rfl, zall_of (i := 131) (by decide +kernel) rfl, by decide, by decide, by decide +kernel⟩
theorem mi_X6_would : zMI yX6_would := ⟨zall_of (i := 876) (by decide +kernel) rfl, zall_of (i := 877) (by decide +kernel) rfl⟩
theorem mw_X6_wouldEnd : zMW yX6_wouldEnd cX6_wouldEnd 2 (some .int) 1 := ⟨zall_of (i := 969) (by decide +kernel) rfl, zall_of (i := 131) (by decide +kernel) rfl, by decide, by decide, by decide +kernel⟩
theorem mi_X6_wouldEnd : zMI yX6_wouldEnd := ⟨zall_of (i := 967) (by decide +kernel) rfl, zall_of (i := 968) (by decide +kernel) rfl⟩
theorem mw_X6_writes : zMW yX6_writes cX6_writes 2 (some .int) 1 := ⟨zall_of (i := 845) (by decide +kernel) rfl, zall_of (i := 131) (by decide +kernel) rfl, by decide, by decide, by decide +kernel⟩
theorem mi_X6_writes : zMI yX6_writes := ⟨zall_of (i := 843) (by decide +kernel) rfl, zall_of (i := 844) (by decide +kernel) rfl⟩
theorem mw_X7_about : zMW yX7_about cX7_about 2 (some .int) 1 := ⟨zall_of (i := 1385) (by decide +kernel) rfl, zall_of (i := 138) (by decide +kernel) rfl, by decide, by decide, by decide +kernel⟩
theorem mi_X7_about : zMI yX7_about := ⟨zall_of (i := 1383) (by decide +kernel) rfl, zall_of (i := 1384) (by decide +kernel) rfl⟩
theorem mw_X7_addresses : zMW yX7_addresses cX7_addresses 2 (some .int) 1 := ⟨zall_of (i := 1341) (by decide +kernel) rfl, zall_of (i := 138) (by decide +kernel) rfl, by decide, by decide, by decide +kernel⟩
theorem mi_X7_addresses : zMI yX7_addresses := ⟨zall_of (i := 1340) (by decide +kernel) rfl, zall_of (i := 90) (by decide +kernel) rfl⟩
theorem mw_X7_advice : zMW yX7_advice cX7_advice 4 (some .int) 2 := ⟨zall_of (i := 1491) (by decide +kernel) rfl, zall_of (i := 138) (by decide +kernel) rfl, by decide, by decide, by decide +kernel⟩
theorem mi_X7_advice : zMI yX7_advice := ⟨zall_of (i := 1489) (by decide +kernel) rfl, zall_of (i := 1490) (by decide +kernel) rfl⟩
theorem mw_X7_after : zMW yX7_after cX7_after 4 (some .int) 3 := ⟨zall_of (i := 1326) (by decide +kernel) rfl, zall_of (i := 138) (by decide +kernel) rfl, by decide, by decide, by decide +kernel⟩
theorem mi_X7_after : zMI yX7_after := ⟨zall_of (i := 1325) (by decide +kernel) rfl, zall_of (i := 88) (by decide +kernel) rfl⟩
theorem mw_X7_agrees : zMW yX7_agrees cX7_agrees 2 (some .int) 0 := ⟨zall_of (i := 1439) (by decide +kernel) rfl, zall_of (i := 138) (by decide +kernel) rfl, by decide, by decide, by decide +kernel⟩
theorem mi_X7_agrees : zMI yX7_agrees := ⟨zall_of (i := 1437) (by decide +kernel) rfl, zall_of (i := 1438) (by decide +kernel) rfl⟩
theorem mw_X7_alone : zMW yX7_alone cX7_alone 6 (some .int) 2 := ⟨zall_of (i := 1447) (by decide +kernel) rfl, zall_of (i := 138) (by decide +kernel) rfl, by decide, by decide, by decide +kernel⟩
theorem mi_X7_alone : zMI yX7_alone := ⟨zall_of (i := 1445) (by decide +kernel) rfl, zall_of (i := 1446) (by decide +kernel) rfl⟩
theorem mw_X7_anew : zMW yX7_anew cX7_anew 1 none 0 := ⟨zall_of (i := 1270) (by decide +kernel) rfl, zall_of (i := 138) (by decide +kernel) rfl, by decide, by decide, by decide +kernel⟩
theorem mi_X7_anew : zMI yX7_anew := ⟨zall_of (i := 1269) (by decide +kernel) rfl, zall_of (i := 76) (by decide +kernel) rfl⟩
theorem mw_X7_asTold : zMW yX7_asTold cX7_asTold 1 none 0 := ⟨zall_of (i := 1366) (by decide +kernel) rfl, zall_of (i := 138) (by decide +kernel) rfl, by decide, by decide, by decide +kernel⟩
theorem mi_X7_asTold : zMI yX7_asTold := ⟨zall_of (i := 1365) (by decide +kernel) rfl, zall_of (i := 94) (by decide +kernel) rfl⟩
theorem mw_X7_back : zMW yX7_back cX7_back 2 (some .boolean) 0 := ⟨zall_of (i := 1648) (by decide +kernel) rfl, zall_of (i := 138) (by decide +kernel) rfl, by decide, by decide, by decide +kernel⟩
theorem mi_X7_back : zMI yX7_back := ⟨zall_of (i := 1646) (by decide +kernel) rfl, zall_of (i := 1647) (by decide +kernel) rfl⟩
theorem mw_X7_begin : zMW yX7_begin cX7_begin 3 (some .int) 1 := ⟨zall_of (i := 1515) (by decide +kernel) rfl, zall_of (i := 138) (by decide +kernel) rfl, by decide, by decide, by decide +kernel⟩
theorem mi_X7_begin : zMI yX7_begin := ⟨zall_of (i := 1514) (by decide +kernel) rfl, zall_of (i := 108) (by decide +kernel) rfl⟩
theorem mw_X7_begins : zMW yX7_begins cX7_begins 2 none 0 := ⟨zall_of (i := 1370) (by decide +kernel) rfl, zall_of (i := 138) (by decide +kernel) rfl, by decide, by decide, by decide +kernel⟩
theorem mi_X7_begins : zMI yX7_begins := ⟨zall_of (i := 1369) (by decide +kernel) rfl, zall_of (i := 95) (by decide +kernel) rfl⟩
theorem mw_X7_best : zMW yX7_best cX7_best 6 (some .int) 1 := ⟨zall_of (i := 1632) (by decide +kernel) rfl, zall_of (i := 138) (by decide +kernel) rfl, by decide, by decide, by decide +kernel⟩
theorem mi_X7_best : zMI yX7_best := ⟨zall_of (i := 1630) (by decide +kernel) rfl, zall_of (i := 1631) (by decide +kernel) rfl⟩
theorem mw_X7_brings : zMW yX7_brings cX7_brings 8 (some .int) 3 := ⟨zall_of (i := 1543) (by decide +kernel) rfl, zall_of (i := 138) (by decide +kernel) rfl, by decide, by decide, by decide +kernel⟩
theorem mi_X7_brings : zMI yX7_brings := ⟨zall_of (i := 1542) (by decide +kernel) rfl, zall_of (i := 115) (by decide +kernel) rfl⟩
theorem mw_X7_cached : zMW yX7_cached cX7_cached 4 (some .int) 2 := ⟨zall_of (i := 1455) (by decide +kernel) rfl, zall_of (i := 138) (by decide +kernel) rfl, by decide, by decide, by decide +kernel⟩
theorem mi_X7_cached : zMI yX7_cached := ⟨zall_of (i := 1453) (by decide +kernel) rfl, zall_of (i := 1454) (by decide +kernel) rfl⟩
theorem mw_X7_commit : zMW yX7_commit cX7_commit 3 (some .int) 2 := ⟨zall_of (i := 1495) (by decide +kernel) rfl, zall_of (i := 138) (by decide +kernel) rfl, by decide, by decide, by decide +kernel⟩
theorem mi_X7_commit : zMI yX7_commit := ⟨zall_of (i := 1493) (by decide +kernel) rfl, zall_of (i := 1494) (by decide +kernel) rfl⟩
theorem mw_X7_commits : zMW yX7_commits cX7_commits 4 none 1 := ⟨zall_of (i := 1563) (by decide +kernel) rfl, zall_of (i := 138) (by decide +kernel) rfl, by decide, by decide, by decide +kernel⟩
theorem mi_X7_commits : zMI yX7_commits := ⟨zall_of (i := 1562) (by decide +kernel) rfl, zall_of (i := 120) (by decide +kernel) rfl⟩
theorem mw_X7_core : zMW yX7_core cX7_core 3 (some .int) 2 := ⟨zall_of (i := 1479) (by decide +kernel) rfl, zall_of (i := 138) (by decide +kernel) rfl, by decide, by decide, by decide +kernel⟩
theorem mi_X7_core : zMI yX7_core := ⟨zall_of (i := 1477) (by decide +kernel) rfl, zall_of (i := 1478) (by decide +kernel) rfl⟩
theorem mw_X7_coreAt : zMW yX7_coreAt cX7_coreAt 2 (some .int) 2 := ⟨zall_of (i := 1373) (by decide +kernel) rfl, zall_of (i := 138) (by decide +kernel) rfl, by decide, by decide, by decide +kernel⟩
theorem ms_X7_coreAt : Cond.static yX7_coreAt ∈ zall := zall_of (i := 1372) (by decide +kernel) rfl
theorem mw_X7_count : zMW yX7_count cX7_count 3 (some .int) 2 := ⟨zall_of (i := 1487) (by decide +kernel) rfl, zall_of (i := 138) (by decide +kernel) rfl, by decide, by decide, by decide +kernel⟩
theorem mi_X7_count : zMI yX7_count := ⟨zall_of (i := 1485) (by decide +kernel) rfl, zall_of (i := 1486) (by decide +kernel) rfl⟩
theorem mw_X7_countAll : zMW yX7_countAll cX7_countAll 4 (some .int) 1 := ⟨zall_of (i := 1624) (by decide +kernel) rfl, zall_of (i := 138) (by decide +kernel) rfl, by decide, by decide, by decide +kernel⟩
theorem mi_X7_countAll : zMI yX7_countAll := ⟨zall_of (i := 1623) (by decide +kernel) rfl, zall_of (i := 128) (by decide +kernel) rfl⟩
theorem mw_X7_decides : zMW yX7_decides cX7_decides 6 (some .int) 3 := ⟨zall_of (i := 1523) (by decide +kernel) rfl, zall_of (i := 138) (by decide +kernel) rfl, by decide, by decide, by decide +kernel⟩
theorem mi_X7_decides : zMI yX7_decides := ⟨zall_of (i := 1522) (by decide +kernel) rfl, zall_of (i := 110) (by decide +kernel) rfl⟩
theorem mw_X7_deed : zMW yX7_deed cX7_deed 5 (some .int) 3 := ⟨zall_of (i := 1389) (by decide +kernel) rfl, zall_of (i := 138) (by decide +kernel) rfl, by decide, by decide, by decide +kernel⟩
theorem mi_X7_deed : zMI yX7_deed := ⟨zall_of (i := 1387) (by decide +kernel) rfl, zall_of (i := 1388) (by decide +kernel) rfl⟩
theorem mw_X7_does : zMW yX7_does cX7_does 3 (some .int) 2 := ⟨zall_of (i := 1511) (by decide +kernel) rfl, zall_of (i := 138) (by decide +kernel) rfl, by decide, by decide, by decide +kernel⟩
theorem mi_X7_does : zMI yX7_does := ⟨zall_of (i := 1510) (by decide +kernel) rfl, zall_of (i := 107) (by decide +kernel) rfl⟩
theorem mw_X7_done : zMW yX7_done cX7_done 4 (some .int) 1 := ⟨zall_of (i := 1652) (by decide +kernel) rfl, zall_of (i := 138) (by decide +kernel) rfl, by decide, by decide, by decide +kernel⟩
theorem mi_X7_done : zMI yX7_done := ⟨zall_of (i := 1650) (by decide +kernel) rfl, zall_of (i := 1651) (by decide +kernel) rfl⟩
theorem mw_X7_drawn : zMW yX7_drawn cX7_drawn 1 (some .int) 0 := ⟨zall_of (i := 1591) (by decide +kernel) rfl, zall_of (i := 138) (by decide +kernel) rfl, by decide, by decide, by decide +kernel⟩
theorem mi_X7_drawn : zMI yX7_drawn := ⟨zall_of (i := 1590) (by decide +kernel) rfl, zall_of (i := 122) (by decide +kernel) rfl⟩
theorem mw_X7_draws : zMW yX7_draws cX7_draws 5 (some .int) 2 := ⟨zall_of (i := 1583) (by decide +kernel) rfl, zall_of (i := 138) (by decide +kernel) rfl, by decide, by decide, by decide +kernel⟩
theorem mi_X7_draws : zMI yX7_draws := ⟨zall_of (i := 1581) (by decide +kernel) rfl, zall_of (i := 1582) (by decide +kernel) rfl⟩
theorem mw_X7_empties : zMW yX7_empties cX7_empties 2 none 1 := ⟨zall_of (i := 1539) (by decide +kernel) rfl, zall_of (i := 138) (by decide +kernel) rfl, by decide, by decide, by decide +kernel⟩
theorem mi_X7_empties : zMI yX7_empties := ⟨zall_of (i := 1538) (by decide +kernel) rfl, zall_of (i := 114) (by decide +kernel) rfl⟩
theorem mw_X7_ends : zMW yX7_ends cX7_ends 6 none 2 := ⟨zall_of (i := 1535) (by decide +kernel) rfl, zall_of (i := 138) (by decide +kernel) rfl, by decide, by decide, by decide +kernel⟩
theorem mi_X7_ends : zMI yX7_ends := ⟨zall_of (i := 1534) (by decide +kernel) rfl, zall_of (i := 113) (by decide +kernel) rfl⟩
theorem mw_X7_errs : zMW yX7_errs cX7_errs 2 (some .int) 1 := ⟨zall_of (i := 1308) (by decide +kernel) rfl, zall_of (i := 138) (by decide +kernel) rfl, by decide, by decide, by decide +kernel⟩
theorem mi_X7_errs : zMI yX7_errs := ⟨zall_of (i := 1307) (by decide +kernel) rfl, zall_of (i := 84) (by decide +kernel) rfl⟩
theorem mw_X7_fault : zMW yX7_fault cX7_fault 1 (some .int) 0 := ⟨zall_of (i := 1377) (by decide +kernel) rfl, zall_of (i := 138) (by decide +kernel) rfl, by decide, by decide, by decide +kernel⟩
theorem mi_X7_fault : zMI yX7_fault := ⟨zall_of (i := 1375) (by decide +kernel) rfl, zall_of (i := 1376) (by decide +kernel) rfl⟩
theorem mw_X7_feed : zMW yX7_feed cX7_feed 6 (some .int) 5 := ⟨zall_of (i := 1258) (by decide +kernel) rfl, zall_of (i := 138) (by decide +kernel) rfl, by decide, by decide, by decide +kernel⟩
theorem mi_X7_feed : zMI yX7_feed := ⟨zall_of (i := 1256) (by decide +kernel) rfl, zall_of (i := 1257) (by decide +kernel) rfl⟩
theorem mw_X7_find : zMW yX7_find cX7_find 5 (some .int) 2 := ⟨zall_of (i := 1409) (by decide +kernel) rfl, zall_of (i := 138) (by decide +kernel) rfl, by decide, by decide, by decide +kernel⟩
theorem mi_X7_find : zMI yX7_find := ⟨zall_of (i := 1408) (by decide +kernel) rfl, zall_of (i := 99) (by decide +kernel) rfl⟩
theorem mw_X7_hasLeft : zMW yX7_hasLeft cX7_hasLeft 2 (some .boolean) 1 := ⟨zall_of (i := 1483) (by decide +kernel) rfl, zall_of (i := 138) (by decide +kernel) rfl, by decide, by decide, by decide +kernel⟩
theorem mi_X7_hasLeft : zMI yX7_hasLeft := ⟨zall_of (i := 1482) (by decide +kernel) rfl, zall_of (i := 104) (by decide +kernel) rfl⟩
theorem mw_X7_in : zMW yX7_in cX7_in 3 (some .boolean) 3 := ⟨zall_of (i := 1273) (by decide +kernel) rfl, zall_of (i := 138) (by decide +kernel) rfl, by decide, by decide, by decide +kernel⟩
theorem ms_X7_in : Cond.static yX7_in ∈ zall := zall_of (i := 1272) (by decide +kernel) rfl
theorem mw_X7_interrupt : zMW yX7_interrupt cX7_interrupt 2 (some .int) 1 := ⟨zall_of (i := 1596) (by decide +kernel) rfl, zall_of (i := 138) (by decide +kernel) rfl, by decide, by decide, by decide +kernel⟩
theorem mi_X7_interrupt : zMI yX7_interrupt := ⟨zall_of (i := 1594) (by decide +kernel) rfl, zall_of (i := 1595) (by decide +kernel) rfl⟩
theorem mw_X7_isAddress : zMW yX7_isAddress cX7_isAddress 2 (some .boolean) 1 := ⟨zall_of (i := 1401) (by decide +kernel) rfl, zall_of (i := 138) (by decide +kernel) rfl, by decide, by decide, by decide +kernel⟩
theorem mi_X7_isAddress : zMI yX7_isAddress := ⟨zall_of (i := 1400) (by decide +kernel) rfl, zall_of (i := 97) (by decide +kernel) rfl⟩
theorem mw_X7_isAnyLeft : zMW yX7_isAnyLeft cX7_isAnyLeft 2 (some .boolean) 0 := ⟨zall_of (i := 1616) (by decide +kernel) rfl, zall_of (i := 138) (by decide +kernel) rfl, by decide, by decide, by decide +kernel⟩
theorem mi_X7_isAnyLeft : zMI yX7_isAnyLeft := ⟨zall_of (i := 1615) (by decide +kernel) rfl, zall_of (i := 126) (by decide +kernel) rfl⟩
theorem mw_X7_isCore : zMW yX7_isCore cX7_isCore 2 (some .boolean) 1 := ⟨zall_of (i := 1393) (by decide +kernel) rfl, zall_of (i := 138) (by decide +kernel) rfl, by decide, by decide, by decide +kernel⟩
theorem mi_X7_isCore : zMI yX7_isCore := ⟨zall_of (i := 1392) (by decide +kernel) rfl, zall_of (i := 96) (by decide +kernel) rfl⟩
theorem mw_X7_isEnough : zMW yX7_isEnough cX7_isEnough 3 (some .boolean) 2 := ⟨zall_of (i := 1640) (by decide +kernel) rfl, zall_of (i := 138) (by decide +kernel) rfl, by decide, by decide, by decide +kernel⟩
theorem mi_X7_isEnough : zMI yX7_isEnough := ⟨zall_of (i := 1639) (by decide +kernel) rfl, zall_of (i := 129) (by decide +kernel) rfl⟩
theorem mw_X7_isRival : zMW yX7_isRival cX7_isRival 6 (some .boolean) 4 := ⟨zall_of (i := 1527) (by decide +kernel) rfl, zall_of (i := 138) (by decide +kernel) rfl, by decide, by decide, by decide +kernel⟩
theorem mi_X7_isRival : zMI yX7_isRival := ⟨zall_of (i := 1526) (by decide +kernel) rfl, zall_of (i := 111) (by decide +kernel) rfl⟩
theorem mw_X7_isSeed : zMW yX7_isSeed cX7_isSeed 1 (some .boolean) 1 := ⟨zall_of (i := 1586) (by decide +kernel) rfl, zall_of (i := 138) (by decide +kernel) rfl, by decide, by decide, by decide +kernel⟩
theorem ms_X7_isSeed : Cond.static yX7_isSeed ∈ zall := zall_of (i := 1585) (by decide +kernel) rfl
theorem mw_X7_isSomeElder : zMW yX7_isSomeElder cX7_isSomeElder 5 (some .boolean) 3 := ⟨zall_of (i := 1531) (by decide +kernel) rfl, zall_of (i := 138) (by decide +kernel) rfl, by decide, by decide, by decide +kernel⟩
theorem mi_X7_isSomeElder : zMI yX7_isSomeElder := ⟨zall_of (i := 1530) (by decide +kernel) rfl, zall_of (i := 112) (by decide +kernel) rfl⟩
theorem mw_X7_isWord : zMW yX7_isWord cX7_isWord 3 (some .boolean) 1 := ⟨zall_of (i := 1298) (by decide +kernel) rfl, zall_of (i := 138) (by decide +kernel) rfl, by decide, by decide, by decide +kernel⟩
theorem mi_X7_isWord : zMI yX7_isWord := ⟨zall_of (i := 1297) (by decide +kernel) rfl, zall_of (i := 82) (by decide +kernel) rfl⟩
theorem mw_X7_keep : zMW yX7_keep cX7_keep 2 (some .boolean) 0 := ⟨zall_of (i := 1644) (by decide +kernel) rfl, zall_of (i := 138) (by decide +kernel) rfl, by decide, by decide, by decide +kernel⟩
theorem mi_X7_keep : zMI yX7_keep := ⟨zall_of (i := 1642) (by decide +kernel) rfl, zall_of (i := 1643) (by decide +kernel) rfl⟩
theorem mw_X7_lays : zMW yX7_lays cX7_lays 3 none 1 := ⟨zall_of (i := 1262) (by decide +kernel) rfl, zall_of (i := 138) (by decide +kernel) rfl, by decide, by decide, by decide +kernel⟩
theorem mi_X7_lays : zMI yX7_lays := ⟨zall_of (i := 1261) (by decide +kernel) rfl, zall_of (i := 75) (by decide +kernel) rfl⟩
theorem mw_X7_laysAside : zMW yX7_laysAside cX7_laysAside 2 none 0 := ⟨zall_of (i := 1503) (by decide +kernel) rfl, zall_of (i := 138) (by decide +kernel) rfl, by decide, by decide, by decide +kernel⟩
theorem mi_X7_laysAside : zMI yX7_laysAside := ⟨zall_of (i := 1502) (by decide +kernel) rfl, zall_of (i := 105) (by decide +kernel) rfl⟩
theorem mw_X7_lock : zMW yX7_lock cX7_lock 1 (some .int) 0 := ⟨zall_of (i := 1443) (by decide +kernel) rfl, zall_of (i := 138) (by decide +kernel) rfl, by decide, by decide, by decide +kernel⟩
theorem mi_X7_lock : zMI yX7_lock := ⟨zall_of (i := 1441) (by decide +kernel) rfl, zall_of (i := 1442) (by decide +kernel) rfl⟩
theorem mw_X7_machine : zMW yX7_machine cX7_machine 3 (some .int) 1 := ⟨zall_of (i := 1266) (by decide +kernel) rfl, zall_of (i := 138) (by decide +kernel) rfl, by decide, by decide, by decide +kernel⟩
theorem mi_X7_machine : zMI yX7_machine := ⟨zall_of (i := 1264) (by decide +kernel) rfl, zall_of (i := 1265) (by decide +kernel) rfl⟩
theorem mw_X7_marked : zMW yX7_marked cX7_marked 6 (some .int) 2 := ⟨zall_of (i := 1467) (by decide +kernel) rfl, zall_of (i := 138) (by decide +kernel) rfl, by decide, by decide, by decide +kernel⟩
theorem mi_X7_marked : zMI yX7_marked := ⟨zall_of (i := 1466) (by decide +kernel) rfl, zall_of (i := 103) (by decide +kernel) rfl⟩
theorem mw_X7_memory : zMW yX7_memory cX7_memory 2 (some .int) 1 := ⟨zall_of (i := 1416) (by decide +kernel) rfl, zall_of (i := 138) (by decide +kernel) rfl, by decide, by decide, by decide +kernel⟩
theorem mi_X7_memory : zMI yX7_memory := ⟨zall_of (i := 1414) (by decide +kernel) rfl, zall_of (i := 1415) (by decide +kernel) rfl⟩
theorem mw_X7_nextToken : zMW yX7_nextToken cX7_nextToken 2 none 0 := ⟨zall_of (i := 1285) (by decide +kernel) rfl, zall_of (i := 138) (by decide +kernel) rfl, by decide, by decide, by decide +kernel⟩
theorem mi_X7_nextToken : zMI yX7_nextToken := ⟨zall_of (i := 1284) (by decide +kernel) rfl, zall_of (i := 79) (by decide +kernel) rfl⟩
theorem mw_X7_no : zMW yX7_no cX7_no 2 (some .int) 1 := ⟨zall_of (i := 1277) (by decide +kernel) rfl, zall_of (i := 138) (by decide +kernel) rfl, by decide, by decide, by decide +kernel⟩
theorem mi_X7_no : zMI yX7_no := ⟨zall_of (i := 1276) (by decide +kernel) rfl, zall_of (i := 77) (by decide +kernel) rfl⟩
theorem mw_X7_othersHave : zMW yX7_othersHave cX7_othersHave 7 (some .boolean) 3 := ⟨zall_of (i := 1555) (by decide +kernel) rfl, zall_of (i := 138) (by decide +kernel) rfl, by decide, by decide, by decide +kernel⟩
theorem mi_X7_othersHave : zMI yX7_othersHave := ⟨zall_of (i := 1554) (by decide +kernel) rfl, zall_of (i := 118) (by decide +kernel) rfl⟩
theorem mw_X7_passes : zMW yX7_passes cX7_passes 4 (some .int) 2 := ⟨zall_of (i := 1321) (by decide +kernel) rfl, zall_of (i := 138) (by decide +kernel) rfl, by decide, by decide, by decide +kernel⟩
theorem mi_X7_passes : zMI yX7_passes := ⟨zall_of (i := 1320) (by decide +kernel) rfl, zall_of (i := 87) (by decide +kernel) rfl⟩
theorem mw_X7_place : zMW yX7_place cX7_place 6 (some .int) 4 := ⟨zall_of (i := 1451) (by decide +kernel) rfl, zall_of (i := 138) (by decide +kernel) rfl, by decide, by decide, by decide +kernel⟩
theorem mi_X7_place : zMI yX7_place := ⟨zall_of (i := 1449) (by decide +kernel) rfl, zall_of (i := 1450) (by decide +kernel) rfl⟩
theorem mw_X7_placeAt : zMW yX7_placeAt cX7_placeAt 3 (some .int) 3 := ⟨zall_of (i := 1412) (by decide +kernel) rfl, zall_of (i := 138) (by decide +kernel) rfl, by decide, by decide, by decide +kernel⟩
theorem ms_X7_placeAt : Cond.static yX7_placeAt ∈ zall := zall_of (i := 1411) (by decide +kernel) rfl
theorem mw_X7_plainBegins : zMW yX7_plainBegins cX7_plainBegins 2 none 0 := ⟨zall_of (i := 1428) (by decide +kernel) rfl, zall_of (i := 138) (by decide +kernel) rfl, by decide, by decide, by decide +kernel⟩
theorem mi_X7_plainBegins : zMI yX7_plainBegins := ⟨zall_of (i := 1427) (by decide +kernel) rfl, zall_of (i := 101) (by decide +kernel) rfl⟩
theorem mw_X7_plainly : zMW yX7_plainly cX7_plainly 3 none 1 := ⟨zall_of (i := 1432) (by decide +kernel) rfl, zall_of (i := 138) (by decide +kernel) rfl, by decide, by decide, by decide +kernel⟩
theorem mi_X7_plainly : zMI yX7_plainly := ⟨zall_of (i := 1431) (by decide +kernel) rfl, zall_of (i := 102) (by decide +kernel) rfl⟩
theorem mw_X7_plus : zMW yX7_plus cX7_plus 2 (some .int) 2 := ⟨zall_of (i := 1435) (by decide +kernel) rfl, zall_of (i := 138) (by decide +kernel) rfl, by decide, by decide, by decide +kernel⟩
theorem ms_X7_plus : Cond.static yX7_plus ∈ zall := zall_of (i := 1434) (by decide +kernel) rfl
theorem mw_X7_power : zMW yX7_power cX7_power 2 (some .int) 1 := ⟨zall_of (i := 1313) (by decide +kernel) rfl, zall_of (i := 138) (by decide +kernel) rfl, by decide, by decide, by decide +kernel⟩
theorem mi_X7_power : zMI yX7_power := ⟨zall_of (i := 1312) (by decide +kernel) rfl, zall_of (i := 85) (by decide +kernel) rfl⟩
theorem mw_X7_readCore : zMW yX7_readCore cX7_readCore 1 (some .int) 0 := ⟨zall_of (i := 1346) (by decide +kernel) rfl, zall_of (i := 138) (by decide +kernel) rfl, by decide, by decide, by decide +kernel⟩
theorem mi_X7_readCore : zMI yX7_readCore := ⟨zall_of (i := 1345) (by decide +kernel) rfl, zall_of (i := 91) (by decide +kernel) rfl⟩
theorem mw_X7_readDeed : zMW yX7_readDeed cX7_readDeed 4 (some .int) 1 := ⟨zall_of (i := 1361) (by decide +kernel) rfl, zall_of (i := 138) (by decide +kernel) rfl, by decide, by decide, by decide +kernel⟩
theorem mi_X7_readDeed : zMI yX7_readDeed := ⟨zall_of (i := 1360) (by decide +kernel) rfl, zall_of (i := 93) (by decide +kernel) rfl⟩
theorem mw_X7_readLine : zMW yX7_readLine cX7_readLine 2 (some .int) 0 := ⟨zall_of (i := 1293) (by decide +kernel) rfl, zall_of (i := 138) (by decide +kernel) rfl, by decide, by decide, by decide +kernel⟩
theorem mi_X7_readLine : zMI yX7_readLine := ⟨zall_of (i := 1292) (by decide +kernel) rfl, zall_of (i := 81) (by decide +kernel) rfl⟩
theorem mw_X7_readMachine : zMW yX7_readMachine cX7_readMachine 1 (some .int) 0 := ⟨zall_of (i := 1304) (by decide +kernel) rfl, zall_of (i := 138) (by decide +kernel) rfl, by decide, by decide, by decide +kernel⟩
theorem mi_X7_readMachine : zMI yX7_readMachine := ⟨zall_of (i := 1303) (by decide +kernel) rfl, zall_of (i := 83) (by decide +kernel) rfl⟩
theorem mw_X7_readText : zMW yX7_readText cX7_readText 3 (some .int) 1 := ⟨zall_of (i := 1281) (by decide +kernel) rfl, zall_of (i := 138) (by decide +kernel) rfl, by decide, by decide, by decide +kernel⟩
theorem mi_X7_readText : zMI yX7_readText := ⟨zall_of (i := 1280) (by decide +kernel) rfl, zall_of (i := 78) (by decide +kernel) rfl⟩
theorem mw_X7_readToldWord : zMW yX7_readToldWord cX7_readToldWord 3 (some .int) 0 := ⟨zall_of (i := 1337) (by decide +kernel) rfl, zall_of (i := 138) (by decide +kernel) rfl, by decide, by decide, by decide +kernel⟩
theorem mi_X7_readToldWord : zMI yX7_readToldWord := ⟨zall_of (i := 1336) (by decide +kernel) rfl, zall_of (i := 89) (by decide +kernel) rfl⟩
theorem mw_X7_reads : zMW yX7_reads cX7_reads 2 (some .int) 1 := ⟨zall_of (i := 1463) (by decide +kernel) rfl, zall_of (i := 138) (by decide +kernel) rfl, by decide, by decide, by decide +kernel⟩
theorem mi_X7_reads : zMI yX7_reads := ⟨zall_of (i := 1461) (by decide +kernel) rfl, zall_of (i := 1462) (by decide +kernel) rfl⟩
theorem mw_X7_room : zMW yX7_room cX7_room 6 (some .int) 2 := ⟨zall_of (i := 1547) (by decide +kernel) rfl, zall_of (i := 138) (by decide +kernel) rfl, by decide, by decide, by decide +kernel⟩
theorem mi_X7_room : zMI yX7_room := ⟨zall_of (i := 1546) (by decide +kernel) rfl, zall_of (i := 116) (by decide +kernel) rfl⟩
theorem mw_X7_rounds : zMW yX7_rounds cX7_rounds 5 (some .int) 1 := ⟨zall_of (i := 1579) (by decide +kernel) rfl, zall_of (i := 138) (by decide +kernel) rfl, by decide, by decide, by decide +kernel⟩
theorem mi_X7_rounds : zMI yX7_rounds := ⟨zall_of (i := 1577) (by decide +kernel) rfl, zall_of (i := 1578) (by decide +kernel) rfl⟩
theorem mw_X7_see : zMW yX7_see cX7_see 2 (some .int) 1 := ⟨zall_of (i := 1289) (by decide +kernel) rfl, zall_of (i := 138) (by decide +kernel) rfl, by decide, by decide, by decide +kernel⟩
theorem mi_X7_see : zMI yX7_see := ⟨zall_of (i := 1288) (by decide +kernel) rfl, zall_of (i := 80) (by decide +kernel) rfl⟩
theorem mw_X7_serial : zMW yX7_serial cX7_serial 2 (some .int) 1 := ⟨zall_of (i := 1420) (by decide +kernel) rfl, zall_of (i := 138) (by decide +kernel) rfl, by decide, by decide, by decide +kernel⟩
theorem mi_X7_serial : zMI yX7_serial := ⟨zall_of (i := 1418) (by decide +kernel) rfl, zall_of (i := 1419) (by decide +kernel) rfl⟩
theorem mw_X7_serially : zMW yX7_serially cX7_serially 3 none 0 := ⟨zall_of (i := 1424) (by decide +kernel) rfl, zall_of (i := 138) (by decide +kernel) rfl, by decide, by decide, by decide +kernel⟩
theorem mi_X7_serially : zMI yX7_serially := ⟨zall_of (i := 1423) (by decide +kernel) rfl, zall_of (i := 100) (by decide +kernel) rfl⟩
theorem mw_X7_sharers : zMW yX7_sharers cX7_sharers 4 (some .int) 1 := ⟨zall_of (i := 1459) (by decide +kernel) rfl, zall_of (i := 138) (by decide +kernel) rfl, by decide, by decide, by decide +kernel⟩
theorem mi_X7_sharers : zMI yX7_sharers := ⟨zall_of (i := 1457) (by decide +kernel) rfl, zall_of (i := 1458) (by decide +kernel) rfl⟩
theorem mw_X7_size : zMW yX7_size cX7_size 4 (some .int) 1 := ⟨zall_of (i := 1656) (by decide +kernel) rfl, zall_of (i := 138) (by decide +kernel) rfl, by decide, by decide, by decide +kernel⟩
theorem mi_X7_size : zMI yX7_size := ⟨zall_of (i := 1654) (by decide +kernel) rfl, zall_of (i := 1655) (by decide +kernel) rfl⟩
theorem mw_X7_sortHere : zMW yX7_sortHere cX7_sortHere 1 (some .int) 0 := ⟨zall_of (i := 1350) (by decide +kernel) rfl, zall_of (i := 138) (by decide +kernel) rfl, by decide, by decide, by decide +kernel⟩
theorem mi_X7_sortHere : zMI yX7_sortHere := ⟨zall_of (i := 1349) (by decide +kernel) rfl, zall_of (i := 92) (by decide +kernel) rfl⟩
theorem mw_X7_step : zMW yX7_step cX7_step 2 (some .int) 1 := ⟨zall_of (i := 1575) (by decide +kernel) rfl, zall_of (i := 138) (by decide +kernel) rfl, by decide, by decide, by decide +kernel⟩
theorem mi_X7_step : zMI yX7_step := ⟨zall_of (i := 1573) (by decide +kernel) rfl, zall_of (i := 1574) (by decide +kernel) rfl⟩
theorem mw_X7_steps : zMW yX7_steps cX7_steps 3 (some .int) 1 := ⟨zall_of (i := 1507) (by decide +kernel) rfl, zall_of (i := 138) (by decide +kernel) rfl, by decide, by decide, by decide +kernel⟩
theorem mi_X7_steps : zMI yX7_steps := ⟨zall_of (i := 1506) (by decide +kernel) rfl, zall_of (i := 106) (by decide +kernel) rfl⟩
theorem mw_X7_takesBack : zMW yX7_takesBack cX7_takesBack 2 none 0 := ⟨zall_of (i := 1567) (by decide +kernel) rfl, zall_of (i := 138) (by decide +kernel) rfl, by decide, by decide, by decide +kernel⟩
theorem mi_X7_takesBack : zMI yX7_takesBack := ⟨zall_of (i := 1566) (by decide +kernel) rfl, zall_of (i := 121) (by decide +kernel) rfl⟩
theorem mw_X7_thrown : zMW yX7_thrown cX7_thrown 1 (some .int) 0 := ⟨zall_of (i := 1254) (by decide +kernel) rfl, zall_of (i := 138) (by decide +kernel) rfl, by decide, by decide, by decide +kernel⟩
theorem mi_X7_thrown : zMI yX7_thrown := ⟨zall_of (i := 1252) (by decide +kernel) rfl, zall_of (i := 1253) (by decide +kernel) rfl⟩
theorem mw_X7_touches : zMW yX7_touches cX7_touches 13 (some .int) 2 := ⟨zall_of (i := 1559) (by decide +kernel) rfl, zall_of (i := 138) (by decide +kernel) rfl, by decide, by decide, by decide +kernel⟩
theorem mi_X7_touches : zMI yX7_touches := ⟨zall_of (i := 1558) (by decide +kernel) rfl, zall_of (i := 119) (by decide +kernel) rfl⟩
theorem mw_X7_traffic : zMW yX7_traffic cX7_traffic 2 (some .int) 1 := ⟨zall_of (i := 1475) (by decide +kernel) rfl, zall_of (i := 138) (by decide +kernel) rfl, by decide, by decide, by decide +kernel⟩
theorem mi_X7_traffic : zMI yX7_traffic := ⟨zall_of (i := 1473) (by decide +kernel) rfl, zall_of (i := 1474) (by decide +kernel) rfl⟩
theorem mw_X7_tried : zMW yX7_tried cX7_tried 6 (some .int) 4 := ⟨zall_of (i := 1600) (by decide +kernel) rfl, zall_of (i := 138) (by decide +kernel) rfl, by decide, by decide, by decide +kernel⟩
theorem mi_X7_tried : zMI yX7_tried := ⟨zall_of (i := 1598) (by decide +kernel) rfl, zall_of (i := 1599) (by decide +kernel) rfl⟩
theorem mw_X7_triedAll : zMW yX7_triedAll cX7_triedAll 6 (some .int) 4 := ⟨zall_of (i := 1608) (by decide +kernel) rfl, zall_of (i := 138) (by decide +kernel) rfl, by decide, by decide, by decide +kernel⟩
theorem mi_X7_triedAll : zMI yX7_triedAll := ⟨zall_of (i := 1607) (by decide +kernel) rfl, zall_of (i := 124) (by decide +kernel) rfl⟩
theorem mw_X7_triedOf : zMW yX7_triedOf cX7_triedOf 2 (some .int) 1 := ⟨zall_of (i := 1620) (by decide +kernel) rfl, zall_of (i := 138) (by decide +kernel) rfl, by decide, by decide, by decide +kernel⟩
theorem mi_X7_triedOf : zMI yX7_triedOf := ⟨zall_of (i := 1619) (by decide +kernel) rfl, zall_of (i := 127) (by decide +kernel) rfl⟩
theorem mw_X7_triedWhy : zMW yX7_triedWhy cX7_triedWhy 5 (some .int) 4 := ⟨zall_of (i := 1604) (by decide +kernel) rfl, zall_of (i := 138) (by decide +kernel) rfl, by decide, by decide, by decide +kernel⟩
theorem mi_X7_triedWhy : zMI yX7_triedWhy := ⟨zall_of (i := 1603) (by decide +kernel) rfl, zall_of (i := 123) (by decide +kernel) rfl⟩
theorem mw_X7_triedWord : zMW yX7_triedWord cX7_triedWord 7 (some .int) 4 := ⟨zall_of (i := 1628) (by decide +kernel) rfl, zall_of (i := 138) (by decide +kernel) rfl, by decide, by decide, by decide +kernel⟩
theorem mi_X7_triedWord : zMI yX7_triedWord := ⟨zall_of (i := 1626) (by decide +kernel) rfl, zall_of (i := 1627) (by decide +kernel) rfl⟩
theorem mw_X7_tries : zMW yX7_tries cX7_tries 5 none 3 := ⟨zall_of (i := 1612) (by decide +kernel) rfl, zall_of (i := 138) (by decide +kernel) rfl, by decide, by decide, by decide +kernel⟩
theorem mi_X7_tries : zMI yX7_tries := ⟨zall_of (i := 1611) (by decide +kernel) rfl, zall_of (i := 125) (by decide +kernel) rfl⟩
theorem mw_X7_trouble : zMW yX7_trouble cX7_trouble 1 (some .int) 0 := ⟨zall_of (i := 1660) (by decide +kernel) rfl, zall_of (i := 138) (by decide +kernel) rfl, by decide, by decide, by decide +kernel⟩
theorem mi_X7_trouble : zMI yX7_trouble := ⟨zall_of (i := 1658) (by decide +kernel) rfl, zall_of (i := 1659) (by decide +kernel) rfl⟩
theorem mw_X7_waits : zMW yX7_waits cX7_waits 2 (some .int) 1 := ⟨zall_of (i := 1519) (by decide +kernel) rfl, zall_of (i := 138) (by decide +kernel) rfl, by decide, by decide, by decide +kernel⟩
theorem mi_X7_waits : zMI yX7_waits := ⟨zall_of (i := 1518) (by decide +kernel) rfl, zall_of (i := 109) (by decide +kernel) rfl⟩
theorem mw_X7_waysFor : zMW yX7_waysFor cX7_waysFor 3 (some .int) 1 := ⟨zall_of (i := 1636) (by decide +kernel) rfl, zall_of (i := 138) (by decide +kernel) rfl, by decide, by decide, by decide +kernel⟩
theorem mi_X7_waysFor : zMI yX7_waysFor := ⟨zall_of (i := 1634) (by decide +kernel) rfl, zall_of (i := 1635) (by decide +kernel) rfl⟩
theorem mw_X7_where : zMW yX7_where cX7_where 1 (some .int) 0 := ⟨zall_of (i := 1381) (by decide +kernel) rfl, zall_of (i := 138) (by decide +kernel) rfl, by decide, by decide, by decide +kernel⟩
theorem mi_X7_where : zMI yX7_where := ⟨zall_of (i := 1379) (by decide +kernel) rfl, zall_of (i := 1380) (by decide +kernel) rfl⟩
theorem mw_X7_wholeHere : zMW yX7_wholeHere cX7_wholeHere 3 (some .int) 2 := ⟨zall_of (i := 1317) (by decide +kernel) rfl, zall_of (i := 138) (by decide +kernel) rfl, by decide, by decide, by decide +kernel⟩
theorem mi_X7_wholeHere : zMI yX7_wholeHere := ⟨zall_of (i := 1316) (by decide +kernel) rfl, zall_of (i := 86) (by decide +kernel) rfl⟩
theorem mw_X7_word : zMW yX7_word cX7_word 2 (some .int) 1 := ⟨zall_of (i := 1397) (by decide +kernel) rfl, zall_of (i := 138) (by decide +kernel) rfl, by decide, by decide, by decide +kernel⟩
theorem mi_X7_word : zMI yX7_word := ⟨zall_of (i := 1395) (by decide +kernel) rfl, zall_of (i := 1396) (by decide +kernel) rfl⟩
theorem mw_X7_wordNow : zMW yX7_wordNow cX7_wordNow 4 (some .int) 1 := ⟨zall_of (i := 1405) (by decide +kernel) rfl, zall_of (i := 138) (by decide +kernel) rfl, by decide, by decide, by decide +kernel⟩
theorem mi_X7_wordNow : zMI yX7_wordNow := ⟨zall_of (i := 1404) (by decide +kernel) rfl, zall_of (i := 98) (by decide +kernel) rfl⟩
theorem mw_X7_would : zMW yX7_would cX7_would 3 (some .int) 1 := ⟨zall_of (i := 1499) (by decide +kernel) rfl, zall_of (i := 138) (by decide +kernel) rfl, by decide, by decide, by decide +kernel⟩
theorem mi_X7_would : zMI yX7_would := ⟨zall_of (i := 1497) (by decide +kernel) rfl, zall_of (i := 1498) (by decide +kernel) rfl⟩
theorem mw_X7_wouldEnd : zMW yX7_wouldEnd cX7_wouldEnd 2 (some .int) 1 := ⟨zall_of (i := 1571) (by decide +kernel) rfl, zall_of (i := 138) (by decide +kernel) rfl, by decide, by decide, by decide +kernel⟩
theorem mi_X7_wouldEnd : zMI yX7_wouldEnd := ⟨zall_of (i := 1569) (by decide +kernel) rfl, zall_of (i := 1570) (by decide +kernel) rfl⟩
theorem mw_X7_writes : zMW yX7_writes cX7_writes 2 (some .int) 1 := ⟨zall_of (i := 1471) (by decide +kernel) rfl, zall_of (i := 138) (by decide +kernel) rfl, by decide, by decide, by decide +kernel⟩
theorem mi_X7_writes : zMI yX7_writes := ⟨zall_of (i := 1469) (by decide +kernel) rfl, zall_of (i := 1470) (by decide +kernel) rfl⟩
theorem mw_X7_writesBack : zMW yX7_writesBack cX7_writesBack 3 none 1 := ⟨zall_of (i := 1551) (by decide +kernel) rfl, zall_of (i := 138) (by decide +kernel) rfl, by decide, by decide, by decide +kernel⟩
theorem mi_X7_writesBack : zMI yX7_writesBack := ⟨zall_of (i := 1550) (by decide +kernel) rfl, zall_of (i := 117) (by decide +kernel) rfl⟩
