/-! ===== the law: its cases ===== -/
theorem mlL_19 : Cond.methodLink RL 19 yX6_feed ∈ zall := zall_of (i := 476) (by decide +kernel) rfl
theorem mlL_23 : Cond.methodLink RL 23 yX7_feed ∈ zall := zall_of (i := 1255) (by decide +kernel) rfl
set_option maxRecDepth 100000 in
set_option maxHeartbeats 4000000 in
theorem law_0 {p : Program} {l : Launch} {e : Env} {s : State} {m : MethodId} {below : List Frame} {meth : Method} {c : Code} {cells slots : Nat} {Q : State → Prop} {K : zKp} {b Ln : Nat} {xs : Nat → Int32} {gc gm : zG} {a : Nat} {L5 L6 : Option zV} (A : LC K p s m meth c b Ln xs) (hL : Ln ≤ 3072) (ha : a + 6 ≤ Ln) (hc : cells + 1 ≤ 601024) (hs : slots + 6 ≤ 7293034) (hI : INV gc gm) (next : ∀ (gc1 gm1 : zG) (L5 L6 : Option zV), INV gc1 gm1 → V (XX K false gm1) p l e room_1 s m #[Value.ref b] below meth c 7 (cells + 1) (slots + 6) Q gc1 1340 [some (.inr (.inl (60, 1000))), some (.inr (.inl (0, 0))), some (.inr (.inl (7, 0))), some (.inr (.inl (47, 0))), some (.inl (nI a)), L5, L6] []) : V (XX K false gm) p l e room_1 s m #[Value.ref b] below meth c 7 (cells) (slots) Q gc 204 [some (.inr (.inl (60, 1000))), some (.inr (.inl (0, 0))), some (.inr (.inl (7, 0))), some (.inr (.inl (47, 0))), some (.inl (nI a)), L5, L6] [] := by
  obtain ⟨x1, gc1, gm1, e1, e2, hI1⟩ := q_feed hI (xs (a + 1)) (xs (a + 2)) (xs (a + 3)) (xs (a + 4)) (xs (a + 5))
  have C := A.x (cells := cells) (slots := slots) false gm (by omega) (by omega)
  have D := A.x (cells := cells) (slots := slots) true gc1 (by omega) (by omega)
  have E := A.x (cells := cells) (slots := slots) false gm1 (by omega) (by omega)
  refine v_aload_n C 1 dL_law_204 rfl rfl ?_
  refine v_arg A C (k := 1) (by decide) (by omega) hL rfl rfl dL_law_205 dL_law_206 dL_law_208 dL_law_209 dL_law_210 ?_
  refine v_arg A C (k := 2) (by decide) (by omega) hL rfl rfl dL_law_211 dL_law_212 dL_law_214 dL_law_215 dL_law_216 ?_
  refine v_arg A C (k := 3) (by decide) (by omega) hL rfl rfl dL_law_217 dL_law_218 dL_law_220 dL_law_221 dL_law_222 ?_
  refine v_arg A C (k := 4) (by decide) (by omega) hL rfl rfl dL_law_223 dL_law_224 dL_law_226 dL_law_227 dL_law_228 ?_
  refine v_arg A C (k := 5) (by decide) (by omega) hL rfl rfl dL_law_229 dL_law_230 dL_law_232 dL_law_233 dL_law_234 ?_
  refine v_callVi (ci := 6) (as := [.inl (xs (a + 1)), .inl (xs (a + 2)), .inl (xs (a + 3)), .inl (xs (a + 4)), .inl (xs (a + 5))]) (rest := []) C (c_X6_feed rfl e1) mw_X6_feed mi_X6_feed mlL_19 rfl zm0 rfl rfl ⟨Nat.le_of_ble_eq_true rfl, Nat.le_of_ble_eq_true rfl⟩ rfl (Nat.le_of_ble_eq_true rfl) dL_law_235 rfl ?_
  refine v_flip ?_
  refine v_aload_n D 2 dL_law_238 rfl rfl ?_
  refine v_arg A D (k := 1) (by decide) (by omega) hL rfl rfl dL_law_239 dL_law_240 dL_law_242 dL_law_243 dL_law_244 ?_
  refine v_arg A D (k := 2) (by decide) (by omega) hL rfl rfl dL_law_245 dL_law_246 dL_law_248 dL_law_249 dL_law_250 ?_
  refine v_arg A D (k := 3) (by decide) (by omega) hL rfl rfl dL_law_251 dL_law_252 dL_law_254 dL_law_255 dL_law_256 ?_
  refine v_arg A D (k := 4) (by decide) (by omega) hL rfl rfl dL_law_257 dL_law_258 dL_law_260 dL_law_261 dL_law_262 ?_
  refine v_arg A D (k := 5) (by decide) (by omega) hL rfl rfl dL_law_263 dL_law_264 dL_law_266 dL_law_267 dL_law_268 ?_
  refine v_callVi (ci := 7) (as := [.inl (xs (a + 1)), .inl (xs (a + 2)), .inl (xs (a + 3)), .inl (xs (a + 4)), .inl (xs (a + 5))]) (rest := [.inl x1]) D (c_X7_feed rfl e2) mw_X7_feed mi_X7_feed mlL_23 rfl zm7 rfl rfl ⟨Nat.le_of_ble_eq_true rfl, Nat.le_of_ble_eq_true rfl⟩ rfl (Nat.le_of_ble_eq_true rfl) dL_law_269 rfl ?_
  refine v_flop ?_
  refine v_eqY E 1340 dL_law_272 rfl rfl ?_
  exact v_wide (Nat.le_succ _) (Nat.le_add_right _ _) (next gc1 gm1 L5 L6 hI1)
theorem mlL_24 : Cond.methodLink RL 24 yX6_machine ∈ zall := zall_of (i := 484) (by decide +kernel) rfl
theorem mlL_27 : Cond.methodLink RL 27 yX7_machine ∈ zall := zall_of (i := 1263) (by decide +kernel) rfl
set_option maxRecDepth 100000 in
set_option maxHeartbeats 4000000 in
theorem law_1 {p : Program} {l : Launch} {e : Env} {s : State} {m : MethodId} {below : List Frame} {meth : Method} {c : Code} {cells slots : Nat} {Q : State → Prop} {K : zKp} {b Ln : Nat} {xs : Nat → Int32} {gc gm : zG} {a : Nat} {L5 L6 : Option zV} (A : LC K p s m meth c b Ln xs) (hL : Ln ≤ 3072) (ha : a + 6 ≤ Ln) (hc : cells + 1 ≤ 601024) (hs : slots + 6 ≤ 7293034) (hI : INV gc gm) (next : ∀ (gc1 gm1 : zG) (L5 L6 : Option zV), INV gc1 gm1 → V (XX K false gm1) p l e room_1 s m #[Value.ref b] below meth c 7 (cells + 1) (slots + 6) Q gc1 1340 [some (.inr (.inl (60, 1000))), some (.inr (.inl (0, 0))), some (.inr (.inl (7, 0))), some (.inr (.inl (47, 0))), some (.inl (nI a)), L5, L6] []) : V (XX K false gm) p l e room_1 s m #[Value.ref b] below meth c 7 (cells) (slots) Q gc 277 [some (.inr (.inl (60, 1000))), some (.inr (.inl (0, 0))), some (.inr (.inl (7, 0))), some (.inr (.inl (47, 0))), some (.inl (nI a)), L5, L6] [] := by
  obtain ⟨x1, gc1, gm1, e1, e2, hI1⟩ := q_machine hI (xs (a + 1))
  have C := A.x (cells := cells) (slots := slots) false gm (by omega) (by omega)
  have D := A.x (cells := cells) (slots := slots) true gc1 (by omega) (by omega)
  have E := A.x (cells := cells) (slots := slots) false gm1 (by omega) (by omega)
  refine v_aload_n C 1 dL_law_277 rfl rfl ?_
  refine v_arg A C (k := 1) (by decide) (by omega) hL rfl rfl dL_law_278 dL_law_279 dL_law_281 dL_law_282 dL_law_283 ?_
  refine v_callVi (ci := 6) (as := [.inl (xs (a + 1))]) (rest := []) C (c_X6_machine rfl e1) mw_X6_machine mi_X6_machine mlL_24 rfl zm0 rfl rfl ⟨Nat.le_of_ble_eq_true rfl, Nat.le_of_ble_eq_true rfl⟩ rfl (Nat.le_of_ble_eq_true rfl) dL_law_284 rfl ?_
  refine v_flip ?_
  refine v_aload_n D 2 dL_law_287 rfl rfl ?_
  refine v_arg A D (k := 1) (by decide) (by omega) hL rfl rfl dL_law_288 dL_law_289 dL_law_291 dL_law_292 dL_law_293 ?_
  refine v_callVi (ci := 7) (as := [.inl (xs (a + 1))]) (rest := [.inl x1]) D (c_X7_machine rfl e2) mw_X7_machine mi_X7_machine mlL_27 rfl zm7 rfl rfl ⟨Nat.le_of_ble_eq_true rfl, Nat.le_of_ble_eq_true rfl⟩ rfl (Nat.le_of_ble_eq_true rfl) dL_law_294 rfl ?_
  refine v_flop ?_
  refine v_eqY E 1340 dL_law_297 rfl rfl ?_
  exact v_wide (Nat.le_succ _) (Nat.le_add_right _ _) (next gc1 gm1 L5 L6 hI1)
theorem mlL_28 : Cond.methodLink RL 28 yX6_fault ∈ zall := zall_of (i := 690) (by decide +kernel) rfl
theorem mlL_32 : Cond.methodLink RL 32 yX7_fault ∈ zall := zall_of (i := 1374) (by decide +kernel) rfl
set_option maxRecDepth 100000 in
set_option maxHeartbeats 4000000 in
theorem law_2 {p : Program} {l : Launch} {e : Env} {s : State} {m : MethodId} {below : List Frame} {meth : Method} {c : Code} {cells slots : Nat} {Q : State → Prop} {K : zKp} {b Ln : Nat} {xs : Nat → Int32} {gc gm : zG} {a : Nat} {L5 L6 : Option zV} (A : LC K p s m meth c b Ln xs) (hL : Ln ≤ 3072) (ha : a + 6 ≤ Ln) (hc : cells + 1 ≤ 601024) (hs : slots + 6 ≤ 7293034) (hI : INV gc gm) (next : ∀ (gc1 gm1 : zG) (L5 L6 : Option zV), INV gc1 gm1 → V (XX K false gm1) p l e room_1 s m #[Value.ref b] below meth c 7 (cells + 1) (slots + 6) Q gc1 1340 [some (.inr (.inl (60, 1000))), some (.inr (.inl (0, 0))), some (.inr (.inl (7, 0))), some (.inr (.inl (47, 0))), some (.inl (nI a)), L5, L6] []) : V (XX K false gm) p l e room_1 s m #[Value.ref b] below meth c 7 (cells) (slots) Q gc 302 [some (.inr (.inl (60, 1000))), some (.inr (.inl (0, 0))), some (.inr (.inl (7, 0))), some (.inr (.inl (47, 0))), some (.inl (nI a)), L5, L6] [] := by
  obtain ⟨x1, gc1, gm1, e1, e2, hI1⟩ := q_fault hI 
  have C := A.x (cells := cells) (slots := slots) false gm (by omega) (by omega)
  have D := A.x (cells := cells) (slots := slots) true gc1 (by omega) (by omega)
  have E := A.x (cells := cells) (slots := slots) false gm1 (by omega) (by omega)
  refine v_aload_n C 1 dL_law_302 rfl rfl ?_
  refine v_callVi (ci := 6) (as := []) (rest := []) C (c_X6_fault rfl e1) mw_X6_fault mi_X6_fault mlL_28 rfl zm0 rfl rfl ⟨Nat.le_of_ble_eq_true rfl, Nat.le_of_ble_eq_true rfl⟩ rfl (Nat.le_of_ble_eq_true rfl) dL_law_303 rfl ?_
  refine v_flip ?_
  refine v_aload_n D 2 dL_law_306 rfl rfl ?_
  refine v_callVi (ci := 7) (as := []) (rest := [.inl x1]) D (c_X7_fault rfl e2) mw_X7_fault mi_X7_fault mlL_32 rfl zm7 rfl rfl ⟨Nat.le_of_ble_eq_true rfl, Nat.le_of_ble_eq_true rfl⟩ rfl (Nat.le_of_ble_eq_true rfl) dL_law_307 rfl ?_
  refine v_flop ?_
  refine v_eqY E 1340 dL_law_310 rfl rfl ?_
  exact v_wide (Nat.le_succ _) (Nat.le_add_right _ _) (next gc1 gm1 L5 L6 hI1)
theorem mlL_33 : Cond.methodLink RL 33 yX6_where ∈ zall := zall_of (i := 694) (by decide +kernel) rfl
theorem mlL_36 : Cond.methodLink RL 36 yX7_where ∈ zall := zall_of (i := 1378) (by decide +kernel) rfl
set_option maxRecDepth 100000 in
set_option maxHeartbeats 4000000 in
theorem law_3 {p : Program} {l : Launch} {e : Env} {s : State} {m : MethodId} {below : List Frame} {meth : Method} {c : Code} {cells slots : Nat} {Q : State → Prop} {K : zKp} {b Ln : Nat} {xs : Nat → Int32} {gc gm : zG} {a : Nat} {L5 L6 : Option zV} (A : LC K p s m meth c b Ln xs) (hL : Ln ≤ 3072) (ha : a + 6 ≤ Ln) (hc : cells + 1 ≤ 601024) (hs : slots + 6 ≤ 7293034) (hI : INV gc gm) (next : ∀ (gc1 gm1 : zG) (L5 L6 : Option zV), INV gc1 gm1 → V (XX K false gm1) p l e room_1 s m #[Value.ref b] below meth c 7 (cells + 1) (slots + 6) Q gc1 1340 [some (.inr (.inl (60, 1000))), some (.inr (.inl (0, 0))), some (.inr (.inl (7, 0))), some (.inr (.inl (47, 0))), some (.inl (nI a)), L5, L6] []) : V (XX K false gm) p l e room_1 s m #[Value.ref b] below meth c 7 (cells) (slots) Q gc 315 [some (.inr (.inl (60, 1000))), some (.inr (.inl (0, 0))), some (.inr (.inl (7, 0))), some (.inr (.inl (47, 0))), some (.inl (nI a)), L5, L6] [] := by
  obtain ⟨x1, gc1, gm1, e1, e2, hI1⟩ := q_where hI 
  have C := A.x (cells := cells) (slots := slots) false gm (by omega) (by omega)
  have D := A.x (cells := cells) (slots := slots) true gc1 (by omega) (by omega)
  have E := A.x (cells := cells) (slots := slots) false gm1 (by omega) (by omega)
  refine v_aload_n C 1 dL_law_315 rfl rfl ?_
  refine v_callVi (ci := 6) (as := []) (rest := []) C (c_X6_where rfl e1) mw_X6_where mi_X6_where mlL_33 rfl zm0 rfl rfl ⟨Nat.le_of_ble_eq_true rfl, Nat.le_of_ble_eq_true rfl⟩ rfl (Nat.le_of_ble_eq_true rfl) dL_law_316 rfl ?_
  refine v_flip ?_
  refine v_aload_n D 2 dL_law_319 rfl rfl ?_
  refine v_callVi (ci := 7) (as := []) (rest := [.inl x1]) D (c_X7_where rfl e2) mw_X7_where mi_X7_where mlL_36 rfl zm7 rfl rfl ⟨Nat.le_of_ble_eq_true rfl, Nat.le_of_ble_eq_true rfl⟩ rfl (Nat.le_of_ble_eq_true rfl) dL_law_320 rfl ?_
  refine v_flop ?_
  refine v_eqY E 1340 dL_law_323 rfl rfl ?_
  exact v_wide (Nat.le_succ _) (Nat.le_add_right _ _) (next gc1 gm1 L5 L6 hI1)
theorem mlL_37 : Cond.methodLink RL 37 yX6_about ∈ zall := zall_of (i := 698) (by decide +kernel) rfl
theorem mlL_40 : Cond.methodLink RL 40 yX7_about ∈ zall := zall_of (i := 1382) (by decide +kernel) rfl
set_option maxRecDepth 100000 in
set_option maxHeartbeats 4000000 in
theorem law_4 {p : Program} {l : Launch} {e : Env} {s : State} {m : MethodId} {below : List Frame} {meth : Method} {c : Code} {cells slots : Nat} {Q : State → Prop} {K : zKp} {b Ln : Nat} {xs : Nat → Int32} {gc gm : zG} {a : Nat} {L5 L6 : Option zV} (A : LC K p s m meth c b Ln xs) (hL : Ln ≤ 3072) (ha : a + 6 ≤ Ln) (hc : cells + 1 ≤ 601024) (hs : slots + 6 ≤ 7293034) (hI : INV gc gm) (next : ∀ (gc1 gm1 : zG) (L5 L6 : Option zV), INV gc1 gm1 → V (XX K false gm1) p l e room_1 s m #[Value.ref b] below meth c 7 (cells + 1) (slots + 6) Q gc1 1340 [some (.inr (.inl (60, 1000))), some (.inr (.inl (0, 0))), some (.inr (.inl (7, 0))), some (.inr (.inl (47, 0))), some (.inl (nI a)), L5, L6] []) : V (XX K false gm) p l e room_1 s m #[Value.ref b] below meth c 7 (cells) (slots) Q gc 328 [some (.inr (.inl (60, 1000))), some (.inr (.inl (0, 0))), some (.inr (.inl (7, 0))), some (.inr (.inl (47, 0))), some (.inl (nI a)), L5, L6] [] := by
  obtain ⟨x1, gc1, gm1, e1, e2, hI1⟩ := q_about hI (xs (a + 1))
  have C := A.x (cells := cells) (slots := slots) false gm (by omega) (by omega)
  have D := A.x (cells := cells) (slots := slots) true gc1 (by omega) (by omega)
  have E := A.x (cells := cells) (slots := slots) false gm1 (by omega) (by omega)
  refine v_aload_n C 1 dL_law_328 rfl rfl ?_
  refine v_arg A C (k := 1) (by decide) (by omega) hL rfl rfl dL_law_329 dL_law_330 dL_law_332 dL_law_333 dL_law_334 ?_
  refine v_callVi (ci := 6) (as := [.inl (xs (a + 1))]) (rest := []) C (c_X6_about rfl e1) mw_X6_about mi_X6_about mlL_37 rfl zm0 rfl rfl ⟨Nat.le_of_ble_eq_true rfl, Nat.le_of_ble_eq_true rfl⟩ rfl (Nat.le_of_ble_eq_true rfl) dL_law_335 rfl ?_
  refine v_flip ?_
  refine v_aload_n D 2 dL_law_338 rfl rfl ?_
  refine v_arg A D (k := 1) (by decide) (by omega) hL rfl rfl dL_law_339 dL_law_340 dL_law_342 dL_law_343 dL_law_344 ?_
  refine v_callVi (ci := 7) (as := [.inl (xs (a + 1))]) (rest := [.inl x1]) D (c_X7_about rfl e2) mw_X7_about mi_X7_about mlL_40 rfl zm7 rfl rfl ⟨Nat.le_of_ble_eq_true rfl, Nat.le_of_ble_eq_true rfl⟩ rfl (Nat.le_of_ble_eq_true rfl) dL_law_345 rfl ?_
  refine v_flop ?_
  refine v_eqY E 1340 dL_law_348 rfl rfl ?_
  exact v_wide (Nat.le_succ _) (Nat.le_add_right _ _) (next gc1 gm1 L5 L6 hI1)
theorem mlL_41 : Cond.methodLink RL 41 yX6_deed ∈ zall := zall_of (i := 703) (by decide +kernel) rfl
theorem mlL_45 : Cond.methodLink RL 45 yX7_deed ∈ zall := zall_of (i := 1386) (by decide +kernel) rfl
set_option maxRecDepth 100000 in
set_option maxHeartbeats 4000000 in
theorem law_5 {p : Program} {l : Launch} {e : Env} {s : State} {m : MethodId} {below : List Frame} {meth : Method} {c : Code} {cells slots : Nat} {Q : State → Prop} {K : zKp} {b Ln : Nat} {xs : Nat → Int32} {gc gm : zG} {a : Nat} {L5 L6 : Option zV} (A : LC K p s m meth c b Ln xs) (hL : Ln ≤ 3072) (ha : a + 6 ≤ Ln) (hc : cells + 1 ≤ 601024) (hs : slots + 6 ≤ 7293034) (hI : INV gc gm) (next : ∀ (gc1 gm1 : zG) (L5 L6 : Option zV), INV gc1 gm1 → V (XX K false gm1) p l e room_1 s m #[Value.ref b] below meth c 7 (cells + 1) (slots + 6) Q gc1 1340 [some (.inr (.inl (60, 1000))), some (.inr (.inl (0, 0))), some (.inr (.inl (7, 0))), some (.inr (.inl (47, 0))), some (.inl (nI a)), L5, L6] []) : V (XX K false gm) p l e room_1 s m #[Value.ref b] below meth c 7 (cells) (slots) Q gc 353 [some (.inr (.inl (60, 1000))), some (.inr (.inl (0, 0))), some (.inr (.inl (7, 0))), some (.inr (.inl (47, 0))), some (.inl (nI a)), L5, L6] [] := by
  obtain ⟨x1, gc1, gm1, e1, e2, hI1⟩ := q_deed hI (xs (a + 1)) (xs (a + 2)) (xs (a + 3))
  have C := A.x (cells := cells) (slots := slots) false gm (by omega) (by omega)
  have D := A.x (cells := cells) (slots := slots) true gc1 (by omega) (by omega)
  have E := A.x (cells := cells) (slots := slots) false gm1 (by omega) (by omega)
  refine v_aload_n C 1 dL_law_353 rfl rfl ?_
  refine v_arg A C (k := 1) (by decide) (by omega) hL rfl rfl dL_law_354 dL_law_355 dL_law_357 dL_law_358 dL_law_359 ?_
  refine v_arg A C (k := 2) (by decide) (by omega) hL rfl rfl dL_law_360 dL_law_361 dL_law_363 dL_law_364 dL_law_365 ?_
  refine v_arg A C (k := 3) (by decide) (by omega) hL rfl rfl dL_law_366 dL_law_367 dL_law_369 dL_law_370 dL_law_371 ?_
  refine v_callVi (ci := 6) (as := [.inl (xs (a + 1)), .inl (xs (a + 2)), .inl (xs (a + 3))]) (rest := []) C (c_X6_deed rfl e1) mw_X6_deed mi_X6_deed mlL_41 rfl zm0 rfl rfl ⟨Nat.le_of_ble_eq_true rfl, Nat.le_of_ble_eq_true rfl⟩ rfl (Nat.le_of_ble_eq_true rfl) dL_law_372 rfl ?_
  refine v_flip ?_
  refine v_aload_n D 2 dL_law_375 rfl rfl ?_
  refine v_arg A D (k := 1) (by decide) (by omega) hL rfl rfl dL_law_376 dL_law_377 dL_law_379 dL_law_380 dL_law_381 ?_
  refine v_arg A D (k := 2) (by decide) (by omega) hL rfl rfl dL_law_382 dL_law_383 dL_law_385 dL_law_386 dL_law_387 ?_
  refine v_arg A D (k := 3) (by decide) (by omega) hL rfl rfl dL_law_388 dL_law_389 dL_law_391 dL_law_392 dL_law_393 ?_
  refine v_callVi (ci := 7) (as := [.inl (xs (a + 1)), .inl (xs (a + 2)), .inl (xs (a + 3))]) (rest := [.inl x1]) D (c_X7_deed rfl e2) mw_X7_deed mi_X7_deed mlL_45 rfl zm7 rfl rfl ⟨Nat.le_of_ble_eq_true rfl, Nat.le_of_ble_eq_true rfl⟩ rfl (Nat.le_of_ble_eq_true rfl) dL_law_394 rfl ?_
  refine v_flop ?_
  refine v_eqY E 1340 dL_law_397 rfl rfl ?_
  exact v_wide (Nat.le_succ _) (Nat.le_add_right _ _) (next gc1 gm1 L5 L6 hI1)
theorem mlL_46 : Cond.methodLink RL 46 yX6_word ∈ zall := zall_of (i := 727) (by decide +kernel) rfl
theorem mlL_49 : Cond.methodLink RL 49 yX7_word ∈ zall := zall_of (i := 1394) (by decide +kernel) rfl
set_option maxRecDepth 100000 in
set_option maxHeartbeats 4000000 in
theorem law_6 {p : Program} {l : Launch} {e : Env} {s : State} {m : MethodId} {below : List Frame} {meth : Method} {c : Code} {cells slots : Nat} {Q : State → Prop} {K : zKp} {b Ln : Nat} {xs : Nat → Int32} {gc gm : zG} {a : Nat} {L5 L6 : Option zV} (A : LC K p s m meth c b Ln xs) (hL : Ln ≤ 3072) (ha : a + 6 ≤ Ln) (hc : cells + 1 ≤ 601024) (hs : slots + 6 ≤ 7293034) (hI : INV gc gm) (next : ∀ (gc1 gm1 : zG) (L5 L6 : Option zV), INV gc1 gm1 → V (XX K false gm1) p l e room_1 s m #[Value.ref b] below meth c 7 (cells + 1) (slots + 6) Q gc1 1340 [some (.inr (.inl (60, 1000))), some (.inr (.inl (0, 0))), some (.inr (.inl (7, 0))), some (.inr (.inl (47, 0))), some (.inl (nI a)), L5, L6] []) : V (XX K false gm) p l e room_1 s m #[Value.ref b] below meth c 7 (cells) (slots) Q gc 402 [some (.inr (.inl (60, 1000))), some (.inr (.inl (0, 0))), some (.inr (.inl (7, 0))), some (.inr (.inl (47, 0))), some (.inl (nI a)), L5, L6] [] := by
  obtain ⟨x1, gc1, gm1, e1, e2, hI1⟩ := q_word hI (xs (a + 1))
  have C := A.x (cells := cells) (slots := slots) false gm (by omega) (by omega)
  have D := A.x (cells := cells) (slots := slots) true gc1 (by omega) (by omega)
  have E := A.x (cells := cells) (slots := slots) false gm1 (by omega) (by omega)
  refine v_aload_n C 1 dL_law_402 rfl rfl ?_
  refine v_arg A C (k := 1) (by decide) (by omega) hL rfl rfl dL_law_403 dL_law_404 dL_law_406 dL_law_407 dL_law_408 ?_
  refine v_callVi (ci := 6) (as := [.inl (xs (a + 1))]) (rest := []) C (c_X6_word rfl e1) mw_X6_word mi_X6_word mlL_46 rfl zm0 rfl rfl ⟨Nat.le_of_ble_eq_true rfl, Nat.le_of_ble_eq_true rfl⟩ rfl (Nat.le_of_ble_eq_true rfl) dL_law_409 rfl ?_
  refine v_flip ?_
  refine v_aload_n D 2 dL_law_412 rfl rfl ?_
  refine v_arg A D (k := 1) (by decide) (by omega) hL rfl rfl dL_law_413 dL_law_414 dL_law_416 dL_law_417 dL_law_418 ?_
  refine v_callVi (ci := 7) (as := [.inl (xs (a + 1))]) (rest := [.inl x1]) D (c_X7_word rfl e2) mw_X7_word mi_X7_word mlL_49 rfl zm7 rfl rfl ⟨Nat.le_of_ble_eq_true rfl, Nat.le_of_ble_eq_true rfl⟩ rfl (Nat.le_of_ble_eq_true rfl) dL_law_419 rfl ?_
  refine v_flop ?_
  refine v_eqY E 1340 dL_law_422 rfl rfl ?_
  exact v_wide (Nat.le_succ _) (Nat.le_add_right _ _) (next gc1 gm1 L5 L6 hI1)
theorem mlL_50 : Cond.methodLink RL 50 yX6_memory ∈ zall := zall_of (i := 752) (by decide +kernel) rfl
theorem mlL_53 : Cond.methodLink RL 53 yX7_memory ∈ zall := zall_of (i := 1413) (by decide +kernel) rfl
set_option maxRecDepth 100000 in
set_option maxHeartbeats 4000000 in
theorem law_7 {p : Program} {l : Launch} {e : Env} {s : State} {m : MethodId} {below : List Frame} {meth : Method} {c : Code} {cells slots : Nat} {Q : State → Prop} {K : zKp} {b Ln : Nat} {xs : Nat → Int32} {gc gm : zG} {a : Nat} {L5 L6 : Option zV} (A : LC K p s m meth c b Ln xs) (hL : Ln ≤ 3072) (ha : a + 6 ≤ Ln) (hc : cells + 1 ≤ 601024) (hs : slots + 6 ≤ 7293034) (hI : INV gc gm) (next : ∀ (gc1 gm1 : zG) (L5 L6 : Option zV), INV gc1 gm1 → V (XX K false gm1) p l e room_1 s m #[Value.ref b] below meth c 7 (cells + 1) (slots + 6) Q gc1 1340 [some (.inr (.inl (60, 1000))), some (.inr (.inl (0, 0))), some (.inr (.inl (7, 0))), some (.inr (.inl (47, 0))), some (.inl (nI a)), L5, L6] []) : V (XX K false gm) p l e room_1 s m #[Value.ref b] below meth c 7 (cells) (slots) Q gc 427 [some (.inr (.inl (60, 1000))), some (.inr (.inl (0, 0))), some (.inr (.inl (7, 0))), some (.inr (.inl (47, 0))), some (.inl (nI a)), L5, L6] [] := by
  obtain ⟨x1, gc1, gm1, e1, e2, hI1⟩ := q_memory hI (xs (a + 1))
  have C := A.x (cells := cells) (slots := slots) false gm (by omega) (by omega)
  have D := A.x (cells := cells) (slots := slots) true gc1 (by omega) (by omega)
  have E := A.x (cells := cells) (slots := slots) false gm1 (by omega) (by omega)
  refine v_aload_n C 1 dL_law_427 rfl rfl ?_
  refine v_arg A C (k := 1) (by decide) (by omega) hL rfl rfl dL_law_428 dL_law_429 dL_law_431 dL_law_432 dL_law_433 ?_
  refine v_callVi (ci := 6) (as := [.inl (xs (a + 1))]) (rest := []) C (c_X6_memory rfl e1) mw_X6_memory mi_X6_memory mlL_50 rfl zm0 rfl rfl ⟨Nat.le_of_ble_eq_true rfl, Nat.le_of_ble_eq_true rfl⟩ rfl (Nat.le_of_ble_eq_true rfl) dL_law_434 rfl ?_
  refine v_flip ?_
  refine v_aload_n D 2 dL_law_437 rfl rfl ?_
  refine v_arg A D (k := 1) (by decide) (by omega) hL rfl rfl dL_law_438 dL_law_439 dL_law_441 dL_law_442 dL_law_443 ?_
  refine v_callVi (ci := 7) (as := [.inl (xs (a + 1))]) (rest := [.inl x1]) D (c_X7_memory rfl e2) mw_X7_memory mi_X7_memory mlL_53 rfl zm7 rfl rfl ⟨Nat.le_of_ble_eq_true rfl, Nat.le_of_ble_eq_true rfl⟩ rfl (Nat.le_of_ble_eq_true rfl) dL_law_444 rfl ?_
  refine v_flop ?_
  refine v_eqY E 1340 dL_law_447 rfl rfl ?_
  exact v_wide (Nat.le_succ _) (Nat.le_add_right _ _) (next gc1 gm1 L5 L6 hI1)
theorem mlL_54 : Cond.methodLink RL 54 yX6_serial ∈ zall := zall_of (i := 756) (by decide +kernel) rfl
theorem mlL_57 : Cond.methodLink RL 57 yX7_serial ∈ zall := zall_of (i := 1417) (by decide +kernel) rfl
set_option maxRecDepth 100000 in
set_option maxHeartbeats 4000000 in
theorem law_8 {p : Program} {l : Launch} {e : Env} {s : State} {m : MethodId} {below : List Frame} {meth : Method} {c : Code} {cells slots : Nat} {Q : State → Prop} {K : zKp} {b Ln : Nat} {xs : Nat → Int32} {gc gm : zG} {a : Nat} {L5 L6 : Option zV} (A : LC K p s m meth c b Ln xs) (hL : Ln ≤ 3072) (ha : a + 6 ≤ Ln) (hc : cells + 1 ≤ 601024) (hs : slots + 6 ≤ 7293034) (hI : INV gc gm) (next : ∀ (gc1 gm1 : zG) (L5 L6 : Option zV), INV gc1 gm1 → V (XX K false gm1) p l e room_1 s m #[Value.ref b] below meth c 7 (cells + 1) (slots + 6) Q gc1 1340 [some (.inr (.inl (60, 1000))), some (.inr (.inl (0, 0))), some (.inr (.inl (7, 0))), some (.inr (.inl (47, 0))), some (.inl (nI a)), L5, L6] []) : V (XX K false gm) p l e room_1 s m #[Value.ref b] below meth c 7 (cells) (slots) Q gc 452 [some (.inr (.inl (60, 1000))), some (.inr (.inl (0, 0))), some (.inr (.inl (7, 0))), some (.inr (.inl (47, 0))), some (.inl (nI a)), L5, L6] [] := by
  obtain ⟨x1, gc1, gm1, e1, e2, hI1⟩ := q_serial hI (xs (a + 1))
  have C := A.x (cells := cells) (slots := slots) false gm (by omega) (by omega)
  have D := A.x (cells := cells) (slots := slots) true gc1 (by omega) (by omega)
  have E := A.x (cells := cells) (slots := slots) false gm1 (by omega) (by omega)
  refine v_aload_n C 1 dL_law_452 rfl rfl ?_
  refine v_arg A C (k := 1) (by decide) (by omega) hL rfl rfl dL_law_453 dL_law_454 dL_law_456 dL_law_457 dL_law_458 ?_
  refine v_callVi (ci := 6) (as := [.inl (xs (a + 1))]) (rest := []) C (c_X6_serial rfl e1) mw_X6_serial mi_X6_serial mlL_54 rfl zm0 rfl rfl ⟨Nat.le_of_ble_eq_true rfl, Nat.le_of_ble_eq_true rfl⟩ rfl (Nat.le_of_ble_eq_true rfl) dL_law_459 rfl ?_
  refine v_flip ?_
  refine v_aload_n D 2 dL_law_462 rfl rfl ?_
  refine v_arg A D (k := 1) (by decide) (by omega) hL rfl rfl dL_law_463 dL_law_464 dL_law_466 dL_law_467 dL_law_468 ?_
  refine v_callVi (ci := 7) (as := [.inl (xs (a + 1))]) (rest := [.inl x1]) D (c_X7_serial rfl e2) mw_X7_serial mi_X7_serial mlL_57 rfl zm7 rfl rfl ⟨Nat.le_of_ble_eq_true rfl, Nat.le_of_ble_eq_true rfl⟩ rfl (Nat.le_of_ble_eq_true rfl) dL_law_469 rfl ?_
  refine v_flop ?_
  refine v_eqY E 1340 dL_law_472 rfl rfl ?_
  exact v_wide (Nat.le_succ _) (Nat.le_add_right _ _) (next gc1 gm1 L5 L6 hI1)
theorem mlL_58 : Cond.methodLink RL 58 yX6_agrees ∈ zall := zall_of (i := 805) (by decide +kernel) rfl
theorem mlL_61 : Cond.methodLink RL 61 yX7_agrees ∈ zall := zall_of (i := 1436) (by decide +kernel) rfl
set_option maxRecDepth 100000 in
set_option maxHeartbeats 4000000 in
theorem law_9 {p : Program} {l : Launch} {e : Env} {s : State} {m : MethodId} {below : List Frame} {meth : Method} {c : Code} {cells slots : Nat} {Q : State → Prop} {K : zKp} {b Ln : Nat} {xs : Nat → Int32} {gc gm : zG} {a : Nat} {L5 L6 : Option zV} (A : LC K p s m meth c b Ln xs) (hL : Ln ≤ 3072) (ha : a + 6 ≤ Ln) (hc : cells + 1 ≤ 601024) (hs : slots + 6 ≤ 7293034) (hI : INV gc gm) (next : ∀ (gc1 gm1 : zG) (L5 L6 : Option zV), INV gc1 gm1 → V (XX K false gm1) p l e room_1 s m #[Value.ref b] below meth c 7 (cells + 1) (slots + 6) Q gc1 1340 [some (.inr (.inl (60, 1000))), some (.inr (.inl (0, 0))), some (.inr (.inl (7, 0))), some (.inr (.inl (47, 0))), some (.inl (nI a)), L5, L6] []) : V (XX K false gm) p l e room_1 s m #[Value.ref b] below meth c 7 (cells) (slots) Q gc 477 [some (.inr (.inl (60, 1000))), some (.inr (.inl (0, 0))), some (.inr (.inl (7, 0))), some (.inr (.inl (47, 0))), some (.inl (nI a)), L5, L6] [] := by
  obtain ⟨x1, gc1, gm1, e1, e2, hI1⟩ := q_agrees hI 
  have C := A.x (cells := cells) (slots := slots) false gm (by omega) (by omega)
  have D := A.x (cells := cells) (slots := slots) true gc1 (by omega) (by omega)
  have E := A.x (cells := cells) (slots := slots) false gm1 (by omega) (by omega)
  refine v_aload_n C 1 dL_law_477 rfl rfl ?_
  refine v_callVi (ci := 6) (as := []) (rest := []) C (c_X6_agrees rfl e1) mw_X6_agrees mi_X6_agrees mlL_58 rfl zm0 rfl rfl ⟨Nat.le_of_ble_eq_true rfl, Nat.le_of_ble_eq_true rfl⟩ rfl (Nat.le_of_ble_eq_true rfl) dL_law_478 rfl ?_
  refine v_flip ?_
  refine v_aload_n D 2 dL_law_481 rfl rfl ?_
  refine v_callVi (ci := 7) (as := []) (rest := [.inl x1]) D (c_X7_agrees rfl e2) mw_X7_agrees mi_X7_agrees mlL_61 rfl zm7 rfl rfl ⟨Nat.le_of_ble_eq_true rfl, Nat.le_of_ble_eq_true rfl⟩ rfl (Nat.le_of_ble_eq_true rfl) dL_law_482 rfl ?_
  refine v_flop ?_
  refine v_eqY E 1340 dL_law_485 rfl rfl ?_
  exact v_wide (Nat.le_succ _) (Nat.le_add_right _ _) (next gc1 gm1 L5 L6 hI1)
theorem mlL_62 : Cond.methodLink RL 62 yX6_lock ∈ zall := zall_of (i := 809) (by decide +kernel) rfl
theorem mlL_65 : Cond.methodLink RL 65 yX7_lock ∈ zall := zall_of (i := 1440) (by decide +kernel) rfl
set_option maxRecDepth 100000 in
set_option maxHeartbeats 4000000 in
theorem law_10 {p : Program} {l : Launch} {e : Env} {s : State} {m : MethodId} {below : List Frame} {meth : Method} {c : Code} {cells slots : Nat} {Q : State → Prop} {K : zKp} {b Ln : Nat} {xs : Nat → Int32} {gc gm : zG} {a : Nat} {L5 L6 : Option zV} (A : LC K p s m meth c b Ln xs) (hL : Ln ≤ 3072) (ha : a + 6 ≤ Ln) (hc : cells + 1 ≤ 601024) (hs : slots + 6 ≤ 7293034) (hI : INV gc gm) (next : ∀ (gc1 gm1 : zG) (L5 L6 : Option zV), INV gc1 gm1 → V (XX K false gm1) p l e room_1 s m #[Value.ref b] below meth c 7 (cells + 1) (slots + 6) Q gc1 1340 [some (.inr (.inl (60, 1000))), some (.inr (.inl (0, 0))), some (.inr (.inl (7, 0))), some (.inr (.inl (47, 0))), some (.inl (nI a)), L5, L6] []) : V (XX K false gm) p l e room_1 s m #[Value.ref b] below meth c 7 (cells) (slots) Q gc 490 [some (.inr (.inl (60, 1000))), some (.inr (.inl (0, 0))), some (.inr (.inl (7, 0))), some (.inr (.inl (47, 0))), some (.inl (nI a)), L5, L6] [] := by
  obtain ⟨x1, gc1, gm1, e1, e2, hI1⟩ := q_lock hI 
  have C := A.x (cells := cells) (slots := slots) false gm (by omega) (by omega)
  have D := A.x (cells := cells) (slots := slots) true gc1 (by omega) (by omega)
  have E := A.x (cells := cells) (slots := slots) false gm1 (by omega) (by omega)
  refine v_aload_n C 1 dL_law_490 rfl rfl ?_
  refine v_callVi (ci := 6) (as := []) (rest := []) C (c_X6_lock rfl e1) mw_X6_lock mi_X6_lock mlL_62 rfl zm0 rfl rfl ⟨Nat.le_of_ble_eq_true rfl, Nat.le_of_ble_eq_true rfl⟩ rfl (Nat.le_of_ble_eq_true rfl) dL_law_491 rfl ?_
  refine v_flip ?_
  refine v_aload_n D 2 dL_law_494 rfl rfl ?_
  refine v_callVi (ci := 7) (as := []) (rest := [.inl x1]) D (c_X7_lock rfl e2) mw_X7_lock mi_X7_lock mlL_65 rfl zm7 rfl rfl ⟨Nat.le_of_ble_eq_true rfl, Nat.le_of_ble_eq_true rfl⟩ rfl (Nat.le_of_ble_eq_true rfl) dL_law_495 rfl ?_
  refine v_flop ?_
  refine v_eqY E 1340 dL_law_498 rfl rfl ?_
  exact v_wide (Nat.le_succ _) (Nat.le_add_right _ _) (next gc1 gm1 L5 L6 hI1)
theorem mlL_66 : Cond.methodLink RL 66 yX6_alone ∈ zall := zall_of (i := 813) (by decide +kernel) rfl
theorem mlL_70 : Cond.methodLink RL 70 yX7_alone ∈ zall := zall_of (i := 1444) (by decide +kernel) rfl
set_option maxRecDepth 100000 in
set_option maxHeartbeats 4000000 in
theorem law_11 {p : Program} {l : Launch} {e : Env} {s : State} {m : MethodId} {below : List Frame} {meth : Method} {c : Code} {cells slots : Nat} {Q : State → Prop} {K : zKp} {b Ln : Nat} {xs : Nat → Int32} {gc gm : zG} {a : Nat} {L5 L6 : Option zV} (A : LC K p s m meth c b Ln xs) (hL : Ln ≤ 3072) (ha : a + 6 ≤ Ln) (hc : cells + 1 ≤ 601024) (hs : slots + 6 ≤ 7293034) (hI : INV gc gm) (next : ∀ (gc1 gm1 : zG) (L5 L6 : Option zV), INV gc1 gm1 → V (XX K false gm1) p l e room_1 s m #[Value.ref b] below meth c 7 (cells + 1) (slots + 6) Q gc1 1340 [some (.inr (.inl (60, 1000))), some (.inr (.inl (0, 0))), some (.inr (.inl (7, 0))), some (.inr (.inl (47, 0))), some (.inl (nI a)), L5, L6] []) : V (XX K false gm) p l e room_1 s m #[Value.ref b] below meth c 7 (cells) (slots) Q gc 503 [some (.inr (.inl (60, 1000))), some (.inr (.inl (0, 0))), some (.inr (.inl (7, 0))), some (.inr (.inl (47, 0))), some (.inl (nI a)), L5, L6] [] := by
  obtain ⟨x1, gc1, gm1, e1, e2, hI1⟩ := q_alone hI (xs (a + 1)) (xs (a + 2))
  have C := A.x (cells := cells) (slots := slots) false gm (by omega) (by omega)
  have D := A.x (cells := cells) (slots := slots) true gc1 (by omega) (by omega)
  have E := A.x (cells := cells) (slots := slots) false gm1 (by omega) (by omega)
  refine v_aload_n C 1 dL_law_503 rfl rfl ?_
  refine v_arg A C (k := 1) (by decide) (by omega) hL rfl rfl dL_law_504 dL_law_505 dL_law_507 dL_law_508 dL_law_509 ?_
  refine v_arg A C (k := 2) (by decide) (by omega) hL rfl rfl dL_law_510 dL_law_511 dL_law_513 dL_law_514 dL_law_515 ?_
  refine v_callVi (ci := 6) (as := [.inl (xs (a + 1)), .inl (xs (a + 2))]) (rest := []) C (c_X6_alone rfl e1) mw_X6_alone mi_X6_alone mlL_66 rfl zm0 rfl rfl ⟨Nat.le_of_ble_eq_true rfl, Nat.le_of_ble_eq_true rfl⟩ rfl (Nat.le_of_ble_eq_true rfl) dL_law_516 rfl ?_
  refine v_flip ?_
  refine v_aload_n D 2 dL_law_519 rfl rfl ?_
  refine v_arg A D (k := 1) (by decide) (by omega) hL rfl rfl dL_law_520 dL_law_521 dL_law_523 dL_law_524 dL_law_525 ?_
  refine v_arg A D (k := 2) (by decide) (by omega) hL rfl rfl dL_law_526 dL_law_527 dL_law_529 dL_law_530 dL_law_531 ?_
  refine v_callVi (ci := 7) (as := [.inl (xs (a + 1)), .inl (xs (a + 2))]) (rest := [.inl x1]) D (c_X7_alone rfl e2) mw_X7_alone mi_X7_alone mlL_70 rfl zm7 rfl rfl ⟨Nat.le_of_ble_eq_true rfl, Nat.le_of_ble_eq_true rfl⟩ rfl (Nat.le_of_ble_eq_true rfl) dL_law_532 rfl ?_
  refine v_flop ?_
  refine v_eqY E 1340 dL_law_535 rfl rfl ?_
  exact v_wide (Nat.le_succ _) (Nat.le_add_right _ _) (next gc1 gm1 L5 L6 hI1)
theorem mlL_71 : Cond.methodLink RL 71 yX6_place ∈ zall := zall_of (i := 818) (by decide +kernel) rfl
theorem mlL_75 : Cond.methodLink RL 75 yX7_place ∈ zall := zall_of (i := 1448) (by decide +kernel) rfl
set_option maxRecDepth 100000 in
set_option maxHeartbeats 4000000 in
theorem law_12 {p : Program} {l : Launch} {e : Env} {s : State} {m : MethodId} {below : List Frame} {meth : Method} {c : Code} {cells slots : Nat} {Q : State → Prop} {K : zKp} {b Ln : Nat} {xs : Nat → Int32} {gc gm : zG} {a : Nat} {L5 L6 : Option zV} (A : LC K p s m meth c b Ln xs) (hL : Ln ≤ 3072) (ha : a + 6 ≤ Ln) (hc : cells + 1 ≤ 601024) (hs : slots + 6 ≤ 7293034) (hI : INV gc gm) (next : ∀ (gc1 gm1 : zG) (L5 L6 : Option zV), INV gc1 gm1 → V (XX K false gm1) p l e room_1 s m #[Value.ref b] below meth c 7 (cells + 1) (slots + 6) Q gc1 1340 [some (.inr (.inl (60, 1000))), some (.inr (.inl (0, 0))), some (.inr (.inl (7, 0))), some (.inr (.inl (47, 0))), some (.inl (nI a)), L5, L6] []) : V (XX K false gm) p l e room_1 s m #[Value.ref b] below meth c 7 (cells) (slots) Q gc 540 [some (.inr (.inl (60, 1000))), some (.inr (.inl (0, 0))), some (.inr (.inl (7, 0))), some (.inr (.inl (47, 0))), some (.inl (nI a)), L5, L6] [] := by
  obtain ⟨x1, gc1, gm1, e1, e2, hI1⟩ := q_place hI (xs (a + 1)) (xs (a + 2)) (xs (a + 3)) (xs (a + 4))
  have C := A.x (cells := cells) (slots := slots) false gm (by omega) (by omega)
  have D := A.x (cells := cells) (slots := slots) true gc1 (by omega) (by omega)
  have E := A.x (cells := cells) (slots := slots) false gm1 (by omega) (by omega)
  refine v_aload_n C 1 dL_law_540 rfl rfl ?_
  refine v_arg A C (k := 1) (by decide) (by omega) hL rfl rfl dL_law_541 dL_law_542 dL_law_544 dL_law_545 dL_law_546 ?_
  refine v_arg A C (k := 2) (by decide) (by omega) hL rfl rfl dL_law_547 dL_law_548 dL_law_550 dL_law_551 dL_law_552 ?_
  refine v_arg A C (k := 3) (by decide) (by omega) hL rfl rfl dL_law_553 dL_law_554 dL_law_556 dL_law_557 dL_law_558 ?_
  refine v_arg A C (k := 4) (by decide) (by omega) hL rfl rfl dL_law_559 dL_law_560 dL_law_562 dL_law_563 dL_law_564 ?_
  refine v_callVi (ci := 6) (as := [.inl (xs (a + 1)), .inl (xs (a + 2)), .inl (xs (a + 3)), .inl (xs (a + 4))]) (rest := []) C (c_X6_place rfl e1) mw_X6_place mi_X6_place mlL_71 rfl zm0 rfl rfl ⟨Nat.le_of_ble_eq_true rfl, Nat.le_of_ble_eq_true rfl⟩ rfl (Nat.le_of_ble_eq_true rfl) dL_law_565 rfl ?_
  refine v_flip ?_
  refine v_aload_n D 2 dL_law_568 rfl rfl ?_
  refine v_arg A D (k := 1) (by decide) (by omega) hL rfl rfl dL_law_569 dL_law_570 dL_law_572 dL_law_573 dL_law_574 ?_
  refine v_arg A D (k := 2) (by decide) (by omega) hL rfl rfl dL_law_575 dL_law_576 dL_law_578 dL_law_579 dL_law_580 ?_
  refine v_arg A D (k := 3) (by decide) (by omega) hL rfl rfl dL_law_581 dL_law_582 dL_law_584 dL_law_585 dL_law_586 ?_
  refine v_arg A D (k := 4) (by decide) (by omega) hL rfl rfl dL_law_587 dL_law_588 dL_law_590 dL_law_591 dL_law_592 ?_
  refine v_callVi (ci := 7) (as := [.inl (xs (a + 1)), .inl (xs (a + 2)), .inl (xs (a + 3)), .inl (xs (a + 4))]) (rest := [.inl x1]) D (c_X7_place rfl e2) mw_X7_place mi_X7_place mlL_75 rfl zm7 rfl rfl ⟨Nat.le_of_ble_eq_true rfl, Nat.le_of_ble_eq_true rfl⟩ rfl (Nat.le_of_ble_eq_true rfl) dL_law_593 rfl ?_
  refine v_flop ?_
  refine v_eqY E 1340 dL_law_596 rfl rfl ?_
  exact v_wide (Nat.le_succ _) (Nat.le_add_right _ _) (next gc1 gm1 L5 L6 hI1)
theorem mlL_76 : Cond.methodLink RL 76 yX6_cached ∈ zall := zall_of (i := 822) (by decide +kernel) rfl
theorem mlL_79 : Cond.methodLink RL 79 yX7_cached ∈ zall := zall_of (i := 1452) (by decide +kernel) rfl
set_option maxRecDepth 100000 in
set_option maxHeartbeats 4000000 in
theorem law_13 {p : Program} {l : Launch} {e : Env} {s : State} {m : MethodId} {below : List Frame} {meth : Method} {c : Code} {cells slots : Nat} {Q : State → Prop} {K : zKp} {b Ln : Nat} {xs : Nat → Int32} {gc gm : zG} {a : Nat} {L5 L6 : Option zV} (A : LC K p s m meth c b Ln xs) (hL : Ln ≤ 3072) (ha : a + 6 ≤ Ln) (hc : cells + 1 ≤ 601024) (hs : slots + 6 ≤ 7293034) (hI : INV gc gm) (next : ∀ (gc1 gm1 : zG) (L5 L6 : Option zV), INV gc1 gm1 → V (XX K false gm1) p l e room_1 s m #[Value.ref b] below meth c 7 (cells + 1) (slots + 6) Q gc1 1340 [some (.inr (.inl (60, 1000))), some (.inr (.inl (0, 0))), some (.inr (.inl (7, 0))), some (.inr (.inl (47, 0))), some (.inl (nI a)), L5, L6] []) : V (XX K false gm) p l e room_1 s m #[Value.ref b] below meth c 7 (cells) (slots) Q gc 601 [some (.inr (.inl (60, 1000))), some (.inr (.inl (0, 0))), some (.inr (.inl (7, 0))), some (.inr (.inl (47, 0))), some (.inl (nI a)), L5, L6] [] := by
  obtain ⟨x1, gc1, gm1, e1, e2, hI1⟩ := q_cached hI (xs (a + 1)) (xs (a + 2))
  have C := A.x (cells := cells) (slots := slots) false gm (by omega) (by omega)
  have D := A.x (cells := cells) (slots := slots) true gc1 (by omega) (by omega)
  have E := A.x (cells := cells) (slots := slots) false gm1 (by omega) (by omega)
  refine v_aload_n C 1 dL_law_601 rfl rfl ?_
  refine v_arg A C (k := 1) (by decide) (by omega) hL rfl rfl dL_law_602 dL_law_603 dL_law_605 dL_law_606 dL_law_607 ?_
  refine v_arg A C (k := 2) (by decide) (by omega) hL rfl rfl dL_law_608 dL_law_609 dL_law_611 dL_law_612 dL_law_613 ?_
  refine v_callVi (ci := 6) (as := [.inl (xs (a + 1)), .inl (xs (a + 2))]) (rest := []) C (c_X6_cached rfl e1) mw_X6_cached mi_X6_cached mlL_76 rfl zm0 rfl rfl ⟨Nat.le_of_ble_eq_true rfl, Nat.le_of_ble_eq_true rfl⟩ rfl (Nat.le_of_ble_eq_true rfl) dL_law_614 rfl ?_
  refine v_flip ?_
  refine v_aload_n D 2 dL_law_617 rfl rfl ?_
  refine v_arg A D (k := 1) (by decide) (by omega) hL rfl rfl dL_law_618 dL_law_619 dL_law_621 dL_law_622 dL_law_623 ?_
  refine v_arg A D (k := 2) (by decide) (by omega) hL rfl rfl dL_law_624 dL_law_625 dL_law_627 dL_law_628 dL_law_629 ?_
  refine v_callVi (ci := 7) (as := [.inl (xs (a + 1)), .inl (xs (a + 2))]) (rest := [.inl x1]) D (c_X7_cached rfl e2) mw_X7_cached mi_X7_cached mlL_79 rfl zm7 rfl rfl ⟨Nat.le_of_ble_eq_true rfl, Nat.le_of_ble_eq_true rfl⟩ rfl (Nat.le_of_ble_eq_true rfl) dL_law_630 rfl ?_
  refine v_flop ?_
  refine v_eqY E 1340 dL_law_633 rfl rfl ?_
  exact v_wide (Nat.le_succ _) (Nat.le_add_right _ _) (next gc1 gm1 L5 L6 hI1)
theorem mlL_80 : Cond.methodLink RL 80 yX6_sharers ∈ zall := zall_of (i := 830) (by decide +kernel) rfl
theorem mlL_83 : Cond.methodLink RL 83 yX7_sharers ∈ zall := zall_of (i := 1456) (by decide +kernel) rfl
set_option maxRecDepth 100000 in
set_option maxHeartbeats 4000000 in
theorem law_14 {p : Program} {l : Launch} {e : Env} {s : State} {m : MethodId} {below : List Frame} {meth : Method} {c : Code} {cells slots : Nat} {Q : State → Prop} {K : zKp} {b Ln : Nat} {xs : Nat → Int32} {gc gm : zG} {a : Nat} {L5 L6 : Option zV} (A : LC K p s m meth c b Ln xs) (hL : Ln ≤ 3072) (ha : a + 6 ≤ Ln) (hc : cells + 1 ≤ 601024) (hs : slots + 6 ≤ 7293034) (hI : INV gc gm) (next : ∀ (gc1 gm1 : zG) (L5 L6 : Option zV), INV gc1 gm1 → V (XX K false gm1) p l e room_1 s m #[Value.ref b] below meth c 7 (cells + 1) (slots + 6) Q gc1 1340 [some (.inr (.inl (60, 1000))), some (.inr (.inl (0, 0))), some (.inr (.inl (7, 0))), some (.inr (.inl (47, 0))), some (.inl (nI a)), L5, L6] []) : V (XX K false gm) p l e room_1 s m #[Value.ref b] below meth c 7 (cells) (slots) Q gc 638 [some (.inr (.inl (60, 1000))), some (.inr (.inl (0, 0))), some (.inr (.inl (7, 0))), some (.inr (.inl (47, 0))), some (.inl (nI a)), L5, L6] [] := by
  obtain ⟨x1, gc1, gm1, e1, e2, hI1⟩ := q_sharers hI (xs (a + 1))
  have C := A.x (cells := cells) (slots := slots) false gm (by omega) (by omega)
  have D := A.x (cells := cells) (slots := slots) true gc1 (by omega) (by omega)
  have E := A.x (cells := cells) (slots := slots) false gm1 (by omega) (by omega)
  refine v_aload_n C 1 dL_law_638 rfl rfl ?_
  refine v_arg A C (k := 1) (by decide) (by omega) hL rfl rfl dL_law_639 dL_law_640 dL_law_642 dL_law_643 dL_law_644 ?_
  refine v_callVi (ci := 6) (as := [.inl (xs (a + 1))]) (rest := []) C (c_X6_sharers rfl e1) mw_X6_sharers mi_X6_sharers mlL_80 rfl zm0 rfl rfl ⟨Nat.le_of_ble_eq_true rfl, Nat.le_of_ble_eq_true rfl⟩ rfl (Nat.le_of_ble_eq_true rfl) dL_law_645 rfl ?_
  refine v_flip ?_
  refine v_aload_n D 2 dL_law_648 rfl rfl ?_
  refine v_arg A D (k := 1) (by decide) (by omega) hL rfl rfl dL_law_649 dL_law_650 dL_law_652 dL_law_653 dL_law_654 ?_
  refine v_callVi (ci := 7) (as := [.inl (xs (a + 1))]) (rest := [.inl x1]) D (c_X7_sharers rfl e2) mw_X7_sharers mi_X7_sharers mlL_83 rfl zm7 rfl rfl ⟨Nat.le_of_ble_eq_true rfl, Nat.le_of_ble_eq_true rfl⟩ rfl (Nat.le_of_ble_eq_true rfl) dL_law_655 rfl ?_
  refine v_flop ?_
  refine v_eqY E 1340 dL_law_658 rfl rfl ?_
  exact v_wide (Nat.le_succ _) (Nat.le_add_right _ _) (next gc1 gm1 L5 L6 hI1)
theorem mlL_84 : Cond.methodLink RL 84 yX6_reads ∈ zall := zall_of (i := 834) (by decide +kernel) rfl
theorem mlL_87 : Cond.methodLink RL 87 yX7_reads ∈ zall := zall_of (i := 1460) (by decide +kernel) rfl
set_option maxRecDepth 100000 in
set_option maxHeartbeats 4000000 in
theorem law_15 {p : Program} {l : Launch} {e : Env} {s : State} {m : MethodId} {below : List Frame} {meth : Method} {c : Code} {cells slots : Nat} {Q : State → Prop} {K : zKp} {b Ln : Nat} {xs : Nat → Int32} {gc gm : zG} {a : Nat} {L5 L6 : Option zV} (A : LC K p s m meth c b Ln xs) (hL : Ln ≤ 3072) (ha : a + 6 ≤ Ln) (hc : cells + 1 ≤ 601024) (hs : slots + 6 ≤ 7293034) (hI : INV gc gm) (next : ∀ (gc1 gm1 : zG) (L5 L6 : Option zV), INV gc1 gm1 → V (XX K false gm1) p l e room_1 s m #[Value.ref b] below meth c 7 (cells + 1) (slots + 6) Q gc1 1340 [some (.inr (.inl (60, 1000))), some (.inr (.inl (0, 0))), some (.inr (.inl (7, 0))), some (.inr (.inl (47, 0))), some (.inl (nI a)), L5, L6] []) : V (XX K false gm) p l e room_1 s m #[Value.ref b] below meth c 7 (cells) (slots) Q gc 663 [some (.inr (.inl (60, 1000))), some (.inr (.inl (0, 0))), some (.inr (.inl (7, 0))), some (.inr (.inl (47, 0))), some (.inl (nI a)), L5, L6] [] := by
  obtain ⟨x1, gc1, gm1, e1, e2, hI1⟩ := q_reads hI (xs (a + 1))
  have C := A.x (cells := cells) (slots := slots) false gm (by omega) (by omega)
  have D := A.x (cells := cells) (slots := slots) true gc1 (by omega) (by omega)
  have E := A.x (cells := cells) (slots := slots) false gm1 (by omega) (by omega)
  refine v_aload_n C 1 dL_law_663 rfl rfl ?_
  refine v_arg A C (k := 1) (by decide) (by omega) hL rfl rfl dL_law_664 dL_law_665 dL_law_667 dL_law_668 dL_law_669 ?_
  refine v_callVi (ci := 6) (as := [.inl (xs (a + 1))]) (rest := []) C (c_X6_reads rfl e1) mw_X6_reads mi_X6_reads mlL_84 rfl zm0 rfl rfl ⟨Nat.le_of_ble_eq_true rfl, Nat.le_of_ble_eq_true rfl⟩ rfl (Nat.le_of_ble_eq_true rfl) dL_law_670 rfl ?_
  refine v_flip ?_
  refine v_aload_n D 2 dL_law_673 rfl rfl ?_
  refine v_arg A D (k := 1) (by decide) (by omega) hL rfl rfl dL_law_674 dL_law_675 dL_law_677 dL_law_678 dL_law_679 ?_
  refine v_callVi (ci := 7) (as := [.inl (xs (a + 1))]) (rest := [.inl x1]) D (c_X7_reads rfl e2) mw_X7_reads mi_X7_reads mlL_87 rfl zm7 rfl rfl ⟨Nat.le_of_ble_eq_true rfl, Nat.le_of_ble_eq_true rfl⟩ rfl (Nat.le_of_ble_eq_true rfl) dL_law_680 rfl ?_
  refine v_flop ?_
  refine v_eqY E 1340 dL_law_683 rfl rfl ?_
  exact v_wide (Nat.le_succ _) (Nat.le_add_right _ _) (next gc1 gm1 L5 L6 hI1)
theorem mlL_88 : Cond.methodLink RL 88 yX6_writes ∈ zall := zall_of (i := 842) (by decide +kernel) rfl
theorem mlL_91 : Cond.methodLink RL 91 yX7_writes ∈ zall := zall_of (i := 1468) (by decide +kernel) rfl
set_option maxRecDepth 100000 in
set_option maxHeartbeats 4000000 in
theorem law_16 {p : Program} {l : Launch} {e : Env} {s : State} {m : MethodId} {below : List Frame} {meth : Method} {c : Code} {cells slots : Nat} {Q : State → Prop} {K : zKp} {b Ln : Nat} {xs : Nat → Int32} {gc gm : zG} {a : Nat} {L5 L6 : Option zV} (A : LC K p s m meth c b Ln xs) (hL : Ln ≤ 3072) (ha : a + 6 ≤ Ln) (hc : cells + 1 ≤ 601024) (hs : slots + 6 ≤ 7293034) (hI : INV gc gm) (next : ∀ (gc1 gm1 : zG) (L5 L6 : Option zV), INV gc1 gm1 → V (XX K false gm1) p l e room_1 s m #[Value.ref b] below meth c 7 (cells + 1) (slots + 6) Q gc1 1340 [some (.inr (.inl (60, 1000))), some (.inr (.inl (0, 0))), some (.inr (.inl (7, 0))), some (.inr (.inl (47, 0))), some (.inl (nI a)), L5, L6] []) : V (XX K false gm) p l e room_1 s m #[Value.ref b] below meth c 7 (cells) (slots) Q gc 688 [some (.inr (.inl (60, 1000))), some (.inr (.inl (0, 0))), some (.inr (.inl (7, 0))), some (.inr (.inl (47, 0))), some (.inl (nI a)), L5, L6] [] := by
  obtain ⟨x1, gc1, gm1, e1, e2, hI1⟩ := q_writes hI (xs (a + 1))
  have C := A.x (cells := cells) (slots := slots) false gm (by omega) (by omega)
  have D := A.x (cells := cells) (slots := slots) true gc1 (by omega) (by omega)
  have E := A.x (cells := cells) (slots := slots) false gm1 (by omega) (by omega)
  refine v_aload_n C 1 dL_law_688 rfl rfl ?_
  refine v_arg A C (k := 1) (by decide) (by omega) hL rfl rfl dL_law_689 dL_law_690 dL_law_692 dL_law_693 dL_law_694 ?_
  refine v_callVi (ci := 6) (as := [.inl (xs (a + 1))]) (rest := []) C (c_X6_writes rfl e1) mw_X6_writes mi_X6_writes mlL_88 rfl zm0 rfl rfl ⟨Nat.le_of_ble_eq_true rfl, Nat.le_of_ble_eq_true rfl⟩ rfl (Nat.le_of_ble_eq_true rfl) dL_law_695 rfl ?_
  refine v_flip ?_
  refine v_aload_n D 2 dL_law_698 rfl rfl ?_
  refine v_arg A D (k := 1) (by decide) (by omega) hL rfl rfl dL_law_699 dL_law_700 dL_law_702 dL_law_703 dL_law_704 ?_
  refine v_callVi (ci := 7) (as := [.inl (xs (a + 1))]) (rest := [.inl x1]) D (c_X7_writes rfl e2) mw_X7_writes mi_X7_writes mlL_91 rfl zm7 rfl rfl ⟨Nat.le_of_ble_eq_true rfl, Nat.le_of_ble_eq_true rfl⟩ rfl (Nat.le_of_ble_eq_true rfl) dL_law_705 rfl ?_
  refine v_flop ?_
  refine v_eqY E 1340 dL_law_708 rfl rfl ?_
  exact v_wide (Nat.le_succ _) (Nat.le_add_right _ _) (next gc1 gm1 L5 L6 hI1)
theorem mlL_92 : Cond.methodLink RL 92 yX6_traffic ∈ zall := zall_of (i := 846) (by decide +kernel) rfl
theorem mlL_95 : Cond.methodLink RL 95 yX7_traffic ∈ zall := zall_of (i := 1472) (by decide +kernel) rfl
set_option maxRecDepth 100000 in
set_option maxHeartbeats 4000000 in
theorem law_17 {p : Program} {l : Launch} {e : Env} {s : State} {m : MethodId} {below : List Frame} {meth : Method} {c : Code} {cells slots : Nat} {Q : State → Prop} {K : zKp} {b Ln : Nat} {xs : Nat → Int32} {gc gm : zG} {a : Nat} {L5 L6 : Option zV} (A : LC K p s m meth c b Ln xs) (hL : Ln ≤ 3072) (ha : a + 6 ≤ Ln) (hc : cells + 1 ≤ 601024) (hs : slots + 6 ≤ 7293034) (hI : INV gc gm) (next : ∀ (gc1 gm1 : zG) (L5 L6 : Option zV), INV gc1 gm1 → V (XX K false gm1) p l e room_1 s m #[Value.ref b] below meth c 7 (cells + 1) (slots + 6) Q gc1 1340 [some (.inr (.inl (60, 1000))), some (.inr (.inl (0, 0))), some (.inr (.inl (7, 0))), some (.inr (.inl (47, 0))), some (.inl (nI a)), L5, L6] []) : V (XX K false gm) p l e room_1 s m #[Value.ref b] below meth c 7 (cells) (slots) Q gc 713 [some (.inr (.inl (60, 1000))), some (.inr (.inl (0, 0))), some (.inr (.inl (7, 0))), some (.inr (.inl (47, 0))), some (.inl (nI a)), L5, L6] [] := by
  obtain ⟨x1, gc1, gm1, e1, e2, hI1⟩ := q_traffic hI (xs (a + 1))
  have C := A.x (cells := cells) (slots := slots) false gm (by omega) (by omega)
  have D := A.x (cells := cells) (slots := slots) true gc1 (by omega) (by omega)
  have E := A.x (cells := cells) (slots := slots) false gm1 (by omega) (by omega)
  refine v_aload_n C 1 dL_law_713 rfl rfl ?_
  refine v_arg A C (k := 1) (by decide) (by omega) hL rfl rfl dL_law_714 dL_law_715 dL_law_717 dL_law_718 dL_law_719 ?_
  refine v_callVi (ci := 6) (as := [.inl (xs (a + 1))]) (rest := []) C (c_X6_traffic rfl e1) mw_X6_traffic mi_X6_traffic mlL_92 rfl zm0 rfl rfl ⟨Nat.le_of_ble_eq_true rfl, Nat.le_of_ble_eq_true rfl⟩ rfl (Nat.le_of_ble_eq_true rfl) dL_law_720 rfl ?_
  refine v_flip ?_
  refine v_aload_n D 2 dL_law_723 rfl rfl ?_
  refine v_arg A D (k := 1) (by decide) (by omega) hL rfl rfl dL_law_724 dL_law_725 dL_law_727 dL_law_728 dL_law_729 ?_
  refine v_callVi (ci := 7) (as := [.inl (xs (a + 1))]) (rest := [.inl x1]) D (c_X7_traffic rfl e2) mw_X7_traffic mi_X7_traffic mlL_95 rfl zm7 rfl rfl ⟨Nat.le_of_ble_eq_true rfl, Nat.le_of_ble_eq_true rfl⟩ rfl (Nat.le_of_ble_eq_true rfl) dL_law_730 rfl ?_
  refine v_flop ?_
  refine v_eqY E 1340 dL_law_733 rfl rfl ?_
  exact v_wide (Nat.le_succ _) (Nat.le_add_right _ _) (next gc1 gm1 L5 L6 hI1)
theorem mlL_96 : Cond.methodLink RL 96 yX6_core ∈ zall := zall_of (i := 850) (by decide +kernel) rfl
theorem mlL_99 : Cond.methodLink RL 99 yX7_core ∈ zall := zall_of (i := 1476) (by decide +kernel) rfl
set_option maxRecDepth 100000 in
set_option maxHeartbeats 4000000 in
theorem law_18 {p : Program} {l : Launch} {e : Env} {s : State} {m : MethodId} {below : List Frame} {meth : Method} {c : Code} {cells slots : Nat} {Q : State → Prop} {K : zKp} {b Ln : Nat} {xs : Nat → Int32} {gc gm : zG} {a : Nat} {L5 L6 : Option zV} (A : LC K p s m meth c b Ln xs) (hL : Ln ≤ 3072) (ha : a + 6 ≤ Ln) (hc : cells + 1 ≤ 601024) (hs : slots + 6 ≤ 7293034) (hI : INV gc gm) (next : ∀ (gc1 gm1 : zG) (L5 L6 : Option zV), INV gc1 gm1 → V (XX K false gm1) p l e room_1 s m #[Value.ref b] below meth c 7 (cells + 1) (slots + 6) Q gc1 1340 [some (.inr (.inl (60, 1000))), some (.inr (.inl (0, 0))), some (.inr (.inl (7, 0))), some (.inr (.inl (47, 0))), some (.inl (nI a)), L5, L6] []) : V (XX K false gm) p l e room_1 s m #[Value.ref b] below meth c 7 (cells) (slots) Q gc 738 [some (.inr (.inl (60, 1000))), some (.inr (.inl (0, 0))), some (.inr (.inl (7, 0))), some (.inr (.inl (47, 0))), some (.inl (nI a)), L5, L6] [] := by
  obtain ⟨x1, gc1, gm1, e1, e2, hI1⟩ := q_core hI (xs (a + 1)) (xs (a + 2))
  have C := A.x (cells := cells) (slots := slots) false gm (by omega) (by omega)
  have D := A.x (cells := cells) (slots := slots) true gc1 (by omega) (by omega)
  have E := A.x (cells := cells) (slots := slots) false gm1 (by omega) (by omega)
  refine v_aload_n C 1 dL_law_738 rfl rfl ?_
  refine v_arg A C (k := 1) (by decide) (by omega) hL rfl rfl dL_law_739 dL_law_740 dL_law_742 dL_law_743 dL_law_744 ?_
  refine v_arg A C (k := 2) (by decide) (by omega) hL rfl rfl dL_law_745 dL_law_746 dL_law_748 dL_law_749 dL_law_750 ?_
  refine v_callVi (ci := 6) (as := [.inl (xs (a + 1)), .inl (xs (a + 2))]) (rest := []) C (c_X6_core rfl e1) mw_X6_core mi_X6_core mlL_96 rfl zm0 rfl rfl ⟨Nat.le_of_ble_eq_true rfl, Nat.le_of_ble_eq_true rfl⟩ rfl (Nat.le_of_ble_eq_true rfl) dL_law_751 rfl ?_
  refine v_flip ?_
  refine v_aload_n D 2 dL_law_754 rfl rfl ?_
  refine v_arg A D (k := 1) (by decide) (by omega) hL rfl rfl dL_law_755 dL_law_756 dL_law_758 dL_law_759 dL_law_760 ?_
  refine v_arg A D (k := 2) (by decide) (by omega) hL rfl rfl dL_law_761 dL_law_762 dL_law_764 dL_law_765 dL_law_766 ?_
  refine v_callVi (ci := 7) (as := [.inl (xs (a + 1)), .inl (xs (a + 2))]) (rest := [.inl x1]) D (c_X7_core rfl e2) mw_X7_core mi_X7_core mlL_99 rfl zm7 rfl rfl ⟨Nat.le_of_ble_eq_true rfl, Nat.le_of_ble_eq_true rfl⟩ rfl (Nat.le_of_ble_eq_true rfl) dL_law_767 rfl ?_
  refine v_flop ?_
  refine v_eqY E 1340 dL_law_770 rfl rfl ?_
  exact v_wide (Nat.le_succ _) (Nat.le_add_right _ _) (next gc1 gm1 L5 L6 hI1)
theorem mlL_100 : Cond.methodLink RL 100 yX6_count ∈ zall := zall_of (i := 859) (by decide +kernel) rfl
theorem mlL_103 : Cond.methodLink RL 103 yX7_count ∈ zall := zall_of (i := 1484) (by decide +kernel) rfl
set_option maxRecDepth 100000 in
set_option maxHeartbeats 4000000 in
theorem law_19 {p : Program} {l : Launch} {e : Env} {s : State} {m : MethodId} {below : List Frame} {meth : Method} {c : Code} {cells slots : Nat} {Q : State → Prop} {K : zKp} {b Ln : Nat} {xs : Nat → Int32} {gc gm : zG} {a : Nat} {L5 L6 : Option zV} (A : LC K p s m meth c b Ln xs) (hL : Ln ≤ 3072) (ha : a + 6 ≤ Ln) (hc : cells + 1 ≤ 601024) (hs : slots + 6 ≤ 7293034) (hI : INV gc gm) (next : ∀ (gc1 gm1 : zG) (L5 L6 : Option zV), INV gc1 gm1 → V (XX K false gm1) p l e room_1 s m #[Value.ref b] below meth c 7 (cells + 1) (slots + 6) Q gc1 1340 [some (.inr (.inl (60, 1000))), some (.inr (.inl (0, 0))), some (.inr (.inl (7, 0))), some (.inr (.inl (47, 0))), some (.inl (nI a)), L5, L6] []) : V (XX K false gm) p l e room_1 s m #[Value.ref b] below meth c 7 (cells) (slots) Q gc 775 [some (.inr (.inl (60, 1000))), some (.inr (.inl (0, 0))), some (.inr (.inl (7, 0))), some (.inr (.inl (47, 0))), some (.inl (nI a)), L5, L6] [] := by
  obtain ⟨x1, gc1, gm1, e1, e2, hI1⟩ := q_count hI (xs (a + 1)) (xs (a + 2))
  have C := A.x (cells := cells) (slots := slots) false gm (by omega) (by omega)
  have D := A.x (cells := cells) (slots := slots) true gc1 (by omega) (by omega)
  have E := A.x (cells := cells) (slots := slots) false gm1 (by omega) (by omega)
  refine v_aload_n C 1 dL_law_775 rfl rfl ?_
  refine v_arg A C (k := 1) (by decide) (by omega) hL rfl rfl dL_law_776 dL_law_777 dL_law_779 dL_law_780 dL_law_781 ?_
  refine v_arg A C (k := 2) (by decide) (by omega) hL rfl rfl dL_law_782 dL_law_783 dL_law_785 dL_law_786 dL_law_787 ?_
  refine v_callVi (ci := 6) (as := [.inl (xs (a + 1)), .inl (xs (a + 2))]) (rest := []) C (c_X6_count rfl e1) mw_X6_count mi_X6_count mlL_100 rfl zm0 rfl rfl ⟨Nat.le_of_ble_eq_true rfl, Nat.le_of_ble_eq_true rfl⟩ rfl (Nat.le_of_ble_eq_true rfl) dL_law_788 rfl ?_
  refine v_flip ?_
  refine v_aload_n D 2 dL_law_791 rfl rfl ?_
  refine v_arg A D (k := 1) (by decide) (by omega) hL rfl rfl dL_law_792 dL_law_793 dL_law_795 dL_law_796 dL_law_797 ?_
  refine v_arg A D (k := 2) (by decide) (by omega) hL rfl rfl dL_law_798 dL_law_799 dL_law_801 dL_law_802 dL_law_803 ?_
  refine v_callVi (ci := 7) (as := [.inl (xs (a + 1)), .inl (xs (a + 2))]) (rest := [.inl x1]) D (c_X7_count rfl e2) mw_X7_count mi_X7_count mlL_103 rfl zm7 rfl rfl ⟨Nat.le_of_ble_eq_true rfl, Nat.le_of_ble_eq_true rfl⟩ rfl (Nat.le_of_ble_eq_true rfl) dL_law_804 rfl ?_
  refine v_flop ?_
  refine v_eqY E 1340 dL_law_807 rfl rfl ?_
  exact v_wide (Nat.le_succ _) (Nat.le_add_right _ _) (next gc1 gm1 L5 L6 hI1)
theorem mlL_104 : Cond.methodLink RL 104 yX6_advice ∈ zall := zall_of (i := 863) (by decide +kernel) rfl
theorem mlL_107 : Cond.methodLink RL 107 yX7_advice ∈ zall := zall_of (i := 1488) (by decide +kernel) rfl
set_option maxRecDepth 100000 in
set_option maxHeartbeats 4000000 in
theorem law_20 {p : Program} {l : Launch} {e : Env} {s : State} {m : MethodId} {below : List Frame} {meth : Method} {c : Code} {cells slots : Nat} {Q : State → Prop} {K : zKp} {b Ln : Nat} {xs : Nat → Int32} {gc gm : zG} {a : Nat} {L5 L6 : Option zV} (A : LC K p s m meth c b Ln xs) (hL : Ln ≤ 3072) (ha : a + 6 ≤ Ln) (hc : cells + 1 ≤ 601024) (hs : slots + 6 ≤ 7293034) (hI : INV gc gm) (next : ∀ (gc1 gm1 : zG) (L5 L6 : Option zV), INV gc1 gm1 → V (XX K false gm1) p l e room_1 s m #[Value.ref b] below meth c 7 (cells + 1) (slots + 6) Q gc1 1340 [some (.inr (.inl (60, 1000))), some (.inr (.inl (0, 0))), some (.inr (.inl (7, 0))), some (.inr (.inl (47, 0))), some (.inl (nI a)), L5, L6] []) : V (XX K false gm) p l e room_1 s m #[Value.ref b] below meth c 7 (cells) (slots) Q gc 812 [some (.inr (.inl (60, 1000))), some (.inr (.inl (0, 0))), some (.inr (.inl (7, 0))), some (.inr (.inl (47, 0))), some (.inl (nI a)), L5, L6] [] := by
  obtain ⟨x1, gc1, gm1, e1, e2, hI1⟩ := q_advice hI (xs (a + 1)) (xs (a + 2))
  have C := A.x (cells := cells) (slots := slots) false gm (by omega) (by omega)
  have D := A.x (cells := cells) (slots := slots) true gc1 (by omega) (by omega)
  have E := A.x (cells := cells) (slots := slots) false gm1 (by omega) (by omega)
  refine v_aload_n C 1 dL_law_812 rfl rfl ?_
  refine v_arg A C (k := 1) (by decide) (by omega) hL rfl rfl dL_law_813 dL_law_814 dL_law_816 dL_law_817 dL_law_818 ?_
  refine v_arg A C (k := 2) (by decide) (by omega) hL rfl rfl dL_law_819 dL_law_820 dL_law_822 dL_law_823 dL_law_824 ?_
  refine v_callVi (ci := 6) (as := [.inl (xs (a + 1)), .inl (xs (a + 2))]) (rest := []) C (c_X6_advice rfl e1) mw_X6_advice mi_X6_advice mlL_104 rfl zm0 rfl rfl ⟨Nat.le_of_ble_eq_true rfl, Nat.le_of_ble_eq_true rfl⟩ rfl (Nat.le_of_ble_eq_true rfl) dL_law_825 rfl ?_
  refine v_flip ?_
  refine v_aload_n D 2 dL_law_828 rfl rfl ?_
  refine v_arg A D (k := 1) (by decide) (by omega) hL rfl rfl dL_law_829 dL_law_830 dL_law_832 dL_law_833 dL_law_834 ?_
  refine v_arg A D (k := 2) (by decide) (by omega) hL rfl rfl dL_law_835 dL_law_836 dL_law_838 dL_law_839 dL_law_840 ?_
  refine v_callVi (ci := 7) (as := [.inl (xs (a + 1)), .inl (xs (a + 2))]) (rest := [.inl x1]) D (c_X7_advice rfl e2) mw_X7_advice mi_X7_advice mlL_107 rfl zm7 rfl rfl ⟨Nat.le_of_ble_eq_true rfl, Nat.le_of_ble_eq_true rfl⟩ rfl (Nat.le_of_ble_eq_true rfl) dL_law_841 rfl ?_
  refine v_flop ?_
  refine v_eqY E 1340 dL_law_844 rfl rfl ?_
  exact v_wide (Nat.le_succ _) (Nat.le_add_right _ _) (next gc1 gm1 L5 L6 hI1)
theorem mlL_108 : Cond.methodLink RL 108 yX6_commit ∈ zall := zall_of (i := 871) (by decide +kernel) rfl
theorem mlL_111 : Cond.methodLink RL 111 yX7_commit ∈ zall := zall_of (i := 1492) (by decide +kernel) rfl
set_option maxRecDepth 100000 in
set_option maxHeartbeats 4000000 in
theorem law_21 {p : Program} {l : Launch} {e : Env} {s : State} {m : MethodId} {below : List Frame} {meth : Method} {c : Code} {cells slots : Nat} {Q : State → Prop} {K : zKp} {b Ln : Nat} {xs : Nat → Int32} {gc gm : zG} {a : Nat} {L5 L6 : Option zV} (A : LC K p s m meth c b Ln xs) (hL : Ln ≤ 3072) (ha : a + 6 ≤ Ln) (hc : cells + 1 ≤ 601024) (hs : slots + 6 ≤ 7293034) (hI : INV gc gm) (next : ∀ (gc1 gm1 : zG) (L5 L6 : Option zV), INV gc1 gm1 → V (XX K false gm1) p l e room_1 s m #[Value.ref b] below meth c 7 (cells + 1) (slots + 6) Q gc1 1340 [some (.inr (.inl (60, 1000))), some (.inr (.inl (0, 0))), some (.inr (.inl (7, 0))), some (.inr (.inl (47, 0))), some (.inl (nI a)), L5, L6] []) : V (XX K false gm) p l e room_1 s m #[Value.ref b] below meth c 7 (cells) (slots) Q gc 849 [some (.inr (.inl (60, 1000))), some (.inr (.inl (0, 0))), some (.inr (.inl (7, 0))), some (.inr (.inl (47, 0))), some (.inl (nI a)), L5, L6] [] := by
  obtain ⟨x1, gc1, gm1, e1, e2, hI1⟩ := q_commit hI (xs (a + 1)) (xs (a + 2))
  have C := A.x (cells := cells) (slots := slots) false gm (by omega) (by omega)
  have D := A.x (cells := cells) (slots := slots) true gc1 (by omega) (by omega)
  have E := A.x (cells := cells) (slots := slots) false gm1 (by omega) (by omega)
  refine v_aload_n C 1 dL_law_849 rfl rfl ?_
  refine v_arg A C (k := 1) (by decide) (by omega) hL rfl rfl dL_law_850 dL_law_851 dL_law_853 dL_law_854 dL_law_855 ?_
  refine v_arg A C (k := 2) (by decide) (by omega) hL rfl rfl dL_law_856 dL_law_857 dL_law_859 dL_law_860 dL_law_861 ?_
  refine v_callVi (ci := 6) (as := [.inl (xs (a + 1)), .inl (xs (a + 2))]) (rest := []) C (c_X6_commit rfl e1) mw_X6_commit mi_X6_commit mlL_108 rfl zm0 rfl rfl ⟨Nat.le_of_ble_eq_true rfl, Nat.le_of_ble_eq_true rfl⟩ rfl (Nat.le_of_ble_eq_true rfl) dL_law_862 rfl ?_
  refine v_flip ?_
  refine v_aload_n D 2 dL_law_865 rfl rfl ?_
  refine v_arg A D (k := 1) (by decide) (by omega) hL rfl rfl dL_law_866 dL_law_867 dL_law_869 dL_law_870 dL_law_871 ?_
  refine v_arg A D (k := 2) (by decide) (by omega) hL rfl rfl dL_law_872 dL_law_873 dL_law_875 dL_law_876 dL_law_877 ?_
  refine v_callVi (ci := 7) (as := [.inl (xs (a + 1)), .inl (xs (a + 2))]) (rest := [.inl x1]) D (c_X7_commit rfl e2) mw_X7_commit mi_X7_commit mlL_111 rfl zm7 rfl rfl ⟨Nat.le_of_ble_eq_true rfl, Nat.le_of_ble_eq_true rfl⟩ rfl (Nat.le_of_ble_eq_true rfl) dL_law_878 rfl ?_
  refine v_flop ?_
  refine v_eqY E 1340 dL_law_881 rfl rfl ?_
  exact v_wide (Nat.le_succ _) (Nat.le_add_right _ _) (next gc1 gm1 L5 L6 hI1)
theorem mlL_112 : Cond.methodLink RL 112 yX6_would ∈ zall := zall_of (i := 875) (by decide +kernel) rfl
theorem mlL_115 : Cond.methodLink RL 115 yX7_would ∈ zall := zall_of (i := 1496) (by decide +kernel) rfl
set_option maxRecDepth 100000 in
set_option maxHeartbeats 4000000 in
theorem law_22 {p : Program} {l : Launch} {e : Env} {s : State} {m : MethodId} {below : List Frame} {meth : Method} {c : Code} {cells slots : Nat} {Q : State → Prop} {K : zKp} {b Ln : Nat} {xs : Nat → Int32} {gc gm : zG} {a : Nat} {L5 L6 : Option zV} (A : LC K p s m meth c b Ln xs) (hL : Ln ≤ 3072) (ha : a + 6 ≤ Ln) (hc : cells + 1 ≤ 601024) (hs : slots + 6 ≤ 7293034) (hI : INV gc gm) (next : ∀ (gc1 gm1 : zG) (L5 L6 : Option zV), INV gc1 gm1 → V (XX K false gm1) p l e room_1 s m #[Value.ref b] below meth c 7 (cells + 1) (slots + 6) Q gc1 1340 [some (.inr (.inl (60, 1000))), some (.inr (.inl (0, 0))), some (.inr (.inl (7, 0))), some (.inr (.inl (47, 0))), some (.inl (nI a)), L5, L6] []) : V (XX K false gm) p l e room_1 s m #[Value.ref b] below meth c 7 (cells) (slots) Q gc 886 [some (.inr (.inl (60, 1000))), some (.inr (.inl (0, 0))), some (.inr (.inl (7, 0))), some (.inr (.inl (47, 0))), some (.inl (nI a)), L5, L6] [] := by
  obtain ⟨x1, gc1, gm1, e1, e2, hI1⟩ := q_would hI (xs (a + 1))
  have C := A.x (cells := cells) (slots := slots) false gm (by omega) (by omega)
  have D := A.x (cells := cells) (slots := slots) true gc1 (by omega) (by omega)
  have E := A.x (cells := cells) (slots := slots) false gm1 (by omega) (by omega)
  refine v_aload_n C 1 dL_law_886 rfl rfl ?_
  refine v_arg A C (k := 1) (by decide) (by omega) hL rfl rfl dL_law_887 dL_law_888 dL_law_890 dL_law_891 dL_law_892 ?_
  refine v_callVi (ci := 6) (as := [.inl (xs (a + 1))]) (rest := []) C (c_X6_would rfl e1) mw_X6_would mi_X6_would mlL_112 rfl zm0 rfl rfl ⟨Nat.le_of_ble_eq_true rfl, Nat.le_of_ble_eq_true rfl⟩ rfl (Nat.le_of_ble_eq_true rfl) dL_law_893 rfl ?_
  refine v_flip ?_
  refine v_aload_n D 2 dL_law_896 rfl rfl ?_
  refine v_arg A D (k := 1) (by decide) (by omega) hL rfl rfl dL_law_897 dL_law_898 dL_law_900 dL_law_901 dL_law_902 ?_
  refine v_callVi (ci := 7) (as := [.inl (xs (a + 1))]) (rest := [.inl x1]) D (c_X7_would rfl e2) mw_X7_would mi_X7_would mlL_115 rfl zm7 rfl rfl ⟨Nat.le_of_ble_eq_true rfl, Nat.le_of_ble_eq_true rfl⟩ rfl (Nat.le_of_ble_eq_true rfl) dL_law_903 rfl ?_
  refine v_flop ?_
  refine v_eqY E 1340 dL_law_906 rfl rfl ?_
  exact v_wide (Nat.le_succ _) (Nat.le_add_right _ _) (next gc1 gm1 L5 L6 hI1)
theorem mlL_116 : Cond.methodLink RL 116 yX6_wouldEnd ∈ zall := zall_of (i := 966) (by decide +kernel) rfl
theorem mlL_119 : Cond.methodLink RL 119 yX7_wouldEnd ∈ zall := zall_of (i := 1568) (by decide +kernel) rfl
set_option maxRecDepth 100000 in
set_option maxHeartbeats 4000000 in
theorem law_23 {p : Program} {l : Launch} {e : Env} {s : State} {m : MethodId} {below : List Frame} {meth : Method} {c : Code} {cells slots : Nat} {Q : State → Prop} {K : zKp} {b Ln : Nat} {xs : Nat → Int32} {gc gm : zG} {a : Nat} {L5 L6 : Option zV} (A : LC K p s m meth c b Ln xs) (hL : Ln ≤ 3072) (ha : a + 6 ≤ Ln) (hc : cells + 1 ≤ 601024) (hs : slots + 6 ≤ 7293034) (hI : INV gc gm) (next : ∀ (gc1 gm1 : zG) (L5 L6 : Option zV), INV gc1 gm1 → V (XX K false gm1) p l e room_1 s m #[Value.ref b] below meth c 7 (cells + 1) (slots + 6) Q gc1 1340 [some (.inr (.inl (60, 1000))), some (.inr (.inl (0, 0))), some (.inr (.inl (7, 0))), some (.inr (.inl (47, 0))), some (.inl (nI a)), L5, L6] []) : V (XX K false gm) p l e room_1 s m #[Value.ref b] below meth c 7 (cells) (slots) Q gc 911 [some (.inr (.inl (60, 1000))), some (.inr (.inl (0, 0))), some (.inr (.inl (7, 0))), some (.inr (.inl (47, 0))), some (.inl (nI a)), L5, L6] [] := by
  obtain ⟨x1, gc1, gm1, e1, e2, hI1⟩ := q_wouldEnd hI (xs (a + 1))
  have C := A.x (cells := cells) (slots := slots) false gm (by omega) (by omega)
  have D := A.x (cells := cells) (slots := slots) true gc1 (by omega) (by omega)
  have E := A.x (cells := cells) (slots := slots) false gm1 (by omega) (by omega)
  refine v_aload_n C 1 dL_law_911 rfl rfl ?_
  refine v_arg A C (k := 1) (by decide) (by omega) hL rfl rfl dL_law_912 dL_law_913 dL_law_915 dL_law_916 dL_law_917 ?_
  refine v_callVi (ci := 6) (as := [.inl (xs (a + 1))]) (rest := []) C (c_X6_wouldEnd rfl e1) mw_X6_wouldEnd mi_X6_wouldEnd mlL_116 rfl zm0 rfl rfl ⟨Nat.le_of_ble_eq_true rfl, Nat.le_of_ble_eq_true rfl⟩ rfl (Nat.le_of_ble_eq_true rfl) dL_law_918 rfl ?_
  refine v_flip ?_
  refine v_aload_n D 2 dL_law_921 rfl rfl ?_
  refine v_arg A D (k := 1) (by decide) (by omega) hL rfl rfl dL_law_922 dL_law_923 dL_law_925 dL_law_926 dL_law_927 ?_
  refine v_callVi (ci := 7) (as := [.inl (xs (a + 1))]) (rest := [.inl x1]) D (c_X7_wouldEnd rfl e2) mw_X7_wouldEnd mi_X7_wouldEnd mlL_119 rfl zm7 rfl rfl ⟨Nat.le_of_ble_eq_true rfl, Nat.le_of_ble_eq_true rfl⟩ rfl (Nat.le_of_ble_eq_true rfl) dL_law_928 rfl ?_
  refine v_flop ?_
  refine v_eqY E 1340 dL_law_931 rfl rfl ?_
  exact v_wide (Nat.le_succ _) (Nat.le_add_right _ _) (next gc1 gm1 L5 L6 hI1)
theorem mlL_120 : Cond.methodLink RL 120 yX6_step ∈ zall := zall_of (i := 970) (by decide +kernel) rfl
theorem mlL_123 : Cond.methodLink RL 123 yX7_step ∈ zall := zall_of (i := 1572) (by decide +kernel) rfl
set_option maxRecDepth 100000 in
set_option maxHeartbeats 4000000 in
theorem law_24 {p : Program} {l : Launch} {e : Env} {s : State} {m : MethodId} {below : List Frame} {meth : Method} {c : Code} {cells slots : Nat} {Q : State → Prop} {K : zKp} {b Ln : Nat} {xs : Nat → Int32} {gc gm : zG} {a : Nat} {L5 L6 : Option zV} (A : LC K p s m meth c b Ln xs) (hL : Ln ≤ 3072) (ha : a + 6 ≤ Ln) (hc : cells + 1 ≤ 601024) (hs : slots + 6 ≤ 7293034) (hI : INV gc gm) (next : ∀ (gc1 gm1 : zG) (L5 L6 : Option zV), INV gc1 gm1 → V (XX K false gm1) p l e room_1 s m #[Value.ref b] below meth c 7 (cells + 1) (slots + 6) Q gc1 1340 [some (.inr (.inl (60, 1000))), some (.inr (.inl (0, 0))), some (.inr (.inl (7, 0))), some (.inr (.inl (47, 0))), some (.inl (nI a)), L5, L6] []) : V (XX K false gm) p l e room_1 s m #[Value.ref b] below meth c 7 (cells) (slots) Q gc 936 [some (.inr (.inl (60, 1000))), some (.inr (.inl (0, 0))), some (.inr (.inl (7, 0))), some (.inr (.inl (47, 0))), some (.inl (nI a)), L5, L6] [] := by
  obtain ⟨x1, gc1, gm1, e1, e2, hI1⟩ := q_step hI (xs (a + 1))
  have C := A.x (cells := cells) (slots := slots) false gm (by omega) (by omega)
  have D := A.x (cells := cells) (slots := slots) true gc1 (by omega) (by omega)
  have E := A.x (cells := cells) (slots := slots) false gm1 (by omega) (by omega)
  refine v_aload_n C 1 dL_law_936 rfl rfl ?_
  refine v_arg A C (k := 1) (by decide) (by omega) hL rfl rfl dL_law_937 dL_law_938 dL_law_940 dL_law_941 dL_law_942 ?_
  refine v_callVi (ci := 6) (as := [.inl (xs (a + 1))]) (rest := []) C (c_X6_step rfl e1) mw_X6_step mi_X6_step mlL_120 rfl zm0 rfl rfl ⟨Nat.le_of_ble_eq_true rfl, Nat.le_of_ble_eq_true rfl⟩ rfl (Nat.le_of_ble_eq_true rfl) dL_law_943 rfl ?_
  refine v_flip ?_
  refine v_aload_n D 2 dL_law_946 rfl rfl ?_
  refine v_arg A D (k := 1) (by decide) (by omega) hL rfl rfl dL_law_947 dL_law_948 dL_law_950 dL_law_951 dL_law_952 ?_
  refine v_callVi (ci := 7) (as := [.inl (xs (a + 1))]) (rest := [.inl x1]) D (c_X7_step rfl e2) mw_X7_step mi_X7_step mlL_123 rfl zm7 rfl rfl ⟨Nat.le_of_ble_eq_true rfl, Nat.le_of_ble_eq_true rfl⟩ rfl (Nat.le_of_ble_eq_true rfl) dL_law_953 rfl ?_
  refine v_flop ?_
  refine v_eqY E 1340 dL_law_956 rfl rfl ?_
  exact v_wide (Nat.le_succ _) (Nat.le_add_right _ _) (next gc1 gm1 L5 L6 hI1)
theorem mlL_124 : Cond.methodLink RL 124 yX6_rounds ∈ zall := zall_of (i := 974) (by decide +kernel) rfl
theorem mlL_127 : Cond.methodLink RL 127 yX7_rounds ∈ zall := zall_of (i := 1576) (by decide +kernel) rfl
set_option maxRecDepth 100000 in
set_option maxHeartbeats 4000000 in
theorem law_25 {p : Program} {l : Launch} {e : Env} {s : State} {m : MethodId} {below : List Frame} {meth : Method} {c : Code} {cells slots : Nat} {Q : State → Prop} {K : zKp} {b Ln : Nat} {xs : Nat → Int32} {gc gm : zG} {a : Nat} {L5 L6 : Option zV} (A : LC K p s m meth c b Ln xs) (hL : Ln ≤ 3072) (ha : a + 6 ≤ Ln) (hc : cells + 1 ≤ 601024) (hs : slots + 6 ≤ 7293034) (hI : INV gc gm) (next : ∀ (gc1 gm1 : zG) (L5 L6 : Option zV), INV gc1 gm1 → V (XX K false gm1) p l e room_1 s m #[Value.ref b] below meth c 7 (cells + 1) (slots + 6) Q gc1 1340 [some (.inr (.inl (60, 1000))), some (.inr (.inl (0, 0))), some (.inr (.inl (7, 0))), some (.inr (.inl (47, 0))), some (.inl (nI a)), L5, L6] []) : V (XX K false gm) p l e room_1 s m #[Value.ref b] below meth c 7 (cells) (slots) Q gc 961 [some (.inr (.inl (60, 1000))), some (.inr (.inl (0, 0))), some (.inr (.inl (7, 0))), some (.inr (.inl (47, 0))), some (.inl (nI a)), L5, L6] [] := by
  obtain ⟨x1, gc1, gm1, e1, e2, hI1⟩ := q_rounds hI (xs (a + 1))
  have C := A.x (cells := cells) (slots := slots) false gm (by omega) (by omega)
  have D := A.x (cells := cells) (slots := slots) true gc1 (by omega) (by omega)
  have E := A.x (cells := cells) (slots := slots) false gm1 (by omega) (by omega)
  refine v_aload_n C 1 dL_law_961 rfl rfl ?_
  refine v_arg A C (k := 1) (by decide) (by omega) hL rfl rfl dL_law_962 dL_law_963 dL_law_965 dL_law_966 dL_law_967 ?_
  refine v_callVi (ci := 6) (as := [.inl (xs (a + 1))]) (rest := []) C (c_X6_rounds rfl e1) mw_X6_rounds mi_X6_rounds mlL_124 rfl zm0 rfl rfl ⟨Nat.le_of_ble_eq_true rfl, Nat.le_of_ble_eq_true rfl⟩ rfl (Nat.le_of_ble_eq_true rfl) dL_law_968 rfl ?_
  refine v_flip ?_
  refine v_aload_n D 2 dL_law_971 rfl rfl ?_
  refine v_arg A D (k := 1) (by decide) (by omega) hL rfl rfl dL_law_972 dL_law_973 dL_law_975 dL_law_976 dL_law_977 ?_
  refine v_callVi (ci := 7) (as := [.inl (xs (a + 1))]) (rest := [.inl x1]) D (c_X7_rounds rfl e2) mw_X7_rounds mi_X7_rounds mlL_127 rfl zm7 rfl rfl ⟨Nat.le_of_ble_eq_true rfl, Nat.le_of_ble_eq_true rfl⟩ rfl (Nat.le_of_ble_eq_true rfl) dL_law_978 rfl ?_
  refine v_flop ?_
  refine v_eqY E 1340 dL_law_981 rfl rfl ?_
  exact v_wide (Nat.le_succ _) (Nat.le_add_right _ _) (next gc1 gm1 L5 L6 hI1)
theorem mlL_128 : Cond.methodLink RL 128 yX6_draws ∈ zall := zall_of (i := 983) (by decide +kernel) rfl
theorem mlL_131 : Cond.methodLink RL 131 yX7_draws ∈ zall := zall_of (i := 1580) (by decide +kernel) rfl
set_option maxRecDepth 100000 in
set_option maxHeartbeats 4000000 in
theorem law_26 {p : Program} {l : Launch} {e : Env} {s : State} {m : MethodId} {below : List Frame} {meth : Method} {c : Code} {cells slots : Nat} {Q : State → Prop} {K : zKp} {b Ln : Nat} {xs : Nat → Int32} {gc gm : zG} {a : Nat} {L5 L6 : Option zV} (A : LC K p s m meth c b Ln xs) (hL : Ln ≤ 3072) (ha : a + 6 ≤ Ln) (hc : cells + 1 ≤ 601024) (hs : slots + 6 ≤ 7293034) (hI : INV gc gm) (next : ∀ (gc1 gm1 : zG) (L5 L6 : Option zV), INV gc1 gm1 → V (XX K false gm1) p l e room_1 s m #[Value.ref b] below meth c 7 (cells + 1) (slots + 6) Q gc1 1340 [some (.inr (.inl (60, 1000))), some (.inr (.inl (0, 0))), some (.inr (.inl (7, 0))), some (.inr (.inl (47, 0))), some (.inl (nI a)), L5, L6] []) : V (XX K false gm) p l e room_1 s m #[Value.ref b] below meth c 7 (cells) (slots) Q gc 986 [some (.inr (.inl (60, 1000))), some (.inr (.inl (0, 0))), some (.inr (.inl (7, 0))), some (.inr (.inl (47, 0))), some (.inl (nI a)), L5, L6] [] := by
  obtain ⟨x1, gc1, gm1, e1, e2, hI1⟩ := q_draws hI (xs (a + 1)) (xs (a + 2))
  have C := A.x (cells := cells) (slots := slots) false gm (by omega) (by omega)
  have D := A.x (cells := cells) (slots := slots) true gc1 (by omega) (by omega)
  have E := A.x (cells := cells) (slots := slots) false gm1 (by omega) (by omega)
  refine v_aload_n C 1 dL_law_986 rfl rfl ?_
  refine v_arg A C (k := 1) (by decide) (by omega) hL rfl rfl dL_law_987 dL_law_988 dL_law_990 dL_law_991 dL_law_992 ?_
  refine v_arg A C (k := 2) (by decide) (by omega) hL rfl rfl dL_law_993 dL_law_994 dL_law_996 dL_law_997 dL_law_998 ?_
  refine v_callVi (ci := 6) (as := [.inl (xs (a + 1)), .inl (xs (a + 2))]) (rest := []) C (c_X6_draws rfl e1) mw_X6_draws mi_X6_draws mlL_128 rfl zm0 rfl rfl ⟨Nat.le_of_ble_eq_true rfl, Nat.le_of_ble_eq_true rfl⟩ rfl (Nat.le_of_ble_eq_true rfl) dL_law_999 rfl ?_
  refine v_flip ?_
  refine v_aload_n D 2 dL_law_1002 rfl rfl ?_
  refine v_arg A D (k := 1) (by decide) (by omega) hL rfl rfl dL_law_1003 dL_law_1004 dL_law_1006 dL_law_1007 dL_law_1008 ?_
  refine v_arg A D (k := 2) (by decide) (by omega) hL rfl rfl dL_law_1009 dL_law_1010 dL_law_1012 dL_law_1013 dL_law_1014 ?_
  refine v_callVi (ci := 7) (as := [.inl (xs (a + 1)), .inl (xs (a + 2))]) (rest := [.inl x1]) D (c_X7_draws rfl e2) mw_X7_draws mi_X7_draws mlL_131 rfl zm7 rfl rfl ⟨Nat.le_of_ble_eq_true rfl, Nat.le_of_ble_eq_true rfl⟩ rfl (Nat.le_of_ble_eq_true rfl) dL_law_1015 rfl ?_
  refine v_flop ?_
  refine v_eqY E 1340 dL_law_1018 rfl rfl ?_
  exact v_wide (Nat.le_succ _) (Nat.le_add_right _ _) (next gc1 gm1 L5 L6 hI1)
theorem mlL_132 : Cond.methodLink RL 132 yX6_interrupt ∈ zall := zall_of (i := 1000) (by decide +kernel) rfl
theorem mlL_135 : Cond.methodLink RL 135 yX7_interrupt ∈ zall := zall_of (i := 1593) (by decide +kernel) rfl
set_option maxRecDepth 100000 in
set_option maxHeartbeats 4000000 in
theorem law_27 {p : Program} {l : Launch} {e : Env} {s : State} {m : MethodId} {below : List Frame} {meth : Method} {c : Code} {cells slots : Nat} {Q : State → Prop} {K : zKp} {b Ln : Nat} {xs : Nat → Int32} {gc gm : zG} {a : Nat} {L5 L6 : Option zV} (A : LC K p s m meth c b Ln xs) (hL : Ln ≤ 3072) (ha : a + 6 ≤ Ln) (hc : cells + 1 ≤ 601024) (hs : slots + 6 ≤ 7293034) (hI : INV gc gm) (next : ∀ (gc1 gm1 : zG) (L5 L6 : Option zV), INV gc1 gm1 → V (XX K false gm1) p l e room_1 s m #[Value.ref b] below meth c 7 (cells + 1) (slots + 6) Q gc1 1340 [some (.inr (.inl (60, 1000))), some (.inr (.inl (0, 0))), some (.inr (.inl (7, 0))), some (.inr (.inl (47, 0))), some (.inl (nI a)), L5, L6] []) : V (XX K false gm) p l e room_1 s m #[Value.ref b] below meth c 7 (cells) (slots) Q gc 1023 [some (.inr (.inl (60, 1000))), some (.inr (.inl (0, 0))), some (.inr (.inl (7, 0))), some (.inr (.inl (47, 0))), some (.inl (nI a)), L5, L6] [] := by
  obtain ⟨x1, gc1, gm1, e1, e2, hI1⟩ := q_interrupt hI (xs (a + 1))
  have C := A.x (cells := cells) (slots := slots) false gm (by omega) (by omega)
  have D := A.x (cells := cells) (slots := slots) true gc1 (by omega) (by omega)
  have E := A.x (cells := cells) (slots := slots) false gm1 (by omega) (by omega)
  refine v_aload_n C 1 dL_law_1023 rfl rfl ?_
  refine v_arg A C (k := 1) (by decide) (by omega) hL rfl rfl dL_law_1024 dL_law_1025 dL_law_1027 dL_law_1028 dL_law_1029 ?_
  refine v_callVi (ci := 6) (as := [.inl (xs (a + 1))]) (rest := []) C (c_X6_interrupt rfl e1) mw_X6_interrupt mi_X6_interrupt mlL_132 rfl zm0 rfl rfl ⟨Nat.le_of_ble_eq_true rfl, Nat.le_of_ble_eq_true rfl⟩ rfl (Nat.le_of_ble_eq_true rfl) dL_law_1030 rfl ?_
  refine v_flip ?_
  refine v_aload_n D 2 dL_law_1033 rfl rfl ?_
  refine v_arg A D (k := 1) (by decide) (by omega) hL rfl rfl dL_law_1034 dL_law_1035 dL_law_1037 dL_law_1038 dL_law_1039 ?_
  refine v_callVi (ci := 7) (as := [.inl (xs (a + 1))]) (rest := [.inl x1]) D (c_X7_interrupt rfl e2) mw_X7_interrupt mi_X7_interrupt mlL_135 rfl zm7 rfl rfl ⟨Nat.le_of_ble_eq_true rfl, Nat.le_of_ble_eq_true rfl⟩ rfl (Nat.le_of_ble_eq_true rfl) dL_law_1040 rfl ?_
  refine v_flop ?_
  refine v_eqY E 1340 dL_law_1043 rfl rfl ?_
  exact v_wide (Nat.le_succ _) (Nat.le_add_right _ _) (next gc1 gm1 L5 L6 hI1)
theorem mlL_136 : Cond.methodLink RL 136 yX6_tried ∈ zall := zall_of (i := 1005) (by decide +kernel) rfl
theorem mlL_139 : Cond.methodLink RL 139 yX7_tried ∈ zall := zall_of (i := 1597) (by decide +kernel) rfl
set_option maxRecDepth 100000 in
set_option maxHeartbeats 4000000 in
theorem law_28 {p : Program} {l : Launch} {e : Env} {s : State} {m : MethodId} {below : List Frame} {meth : Method} {c : Code} {cells slots : Nat} {Q : State → Prop} {K : zKp} {b Ln : Nat} {xs : Nat → Int32} {gc gm : zG} {a : Nat} {L5 L6 : Option zV} (A : LC K p s m meth c b Ln xs) (hL : Ln ≤ 3072) (ha : a + 6 ≤ Ln) (hc : cells + 1 ≤ 601024) (hs : slots + 6 ≤ 7293034) (hI : INV gc gm) (next : ∀ (gc1 gm1 : zG) (L5 L6 : Option zV), INV gc1 gm1 → V (XX K false gm1) p l e room_1 s m #[Value.ref b] below meth c 7 (cells + 1) (slots + 6) Q gc1 1340 [some (.inr (.inl (60, 1000))), some (.inr (.inl (0, 0))), some (.inr (.inl (7, 0))), some (.inr (.inl (47, 0))), some (.inl (nI a)), L5, L6] []) : V (XX K false gm) p l e room_1 s m #[Value.ref b] below meth c 7 (cells) (slots) Q gc 1048 [some (.inr (.inl (60, 1000))), some (.inr (.inl (0, 0))), some (.inr (.inl (7, 0))), some (.inr (.inl (47, 0))), some (.inl (nI a)), L5, L6] [] := by
  obtain ⟨x1, gc1, gm1, e1, e2, hI1⟩ := q_tried hI (xs (a + 1)) (xs (a + 2)) (xs (a + 3)) (xs (a + 4))
  have C := A.x (cells := cells) (slots := slots) false gm (by omega) (by omega)
  have D := A.x (cells := cells) (slots := slots) true gc1 (by omega) (by omega)
  have E := A.x (cells := cells) (slots := slots) false gm1 (by omega) (by omega)
  refine v_aload_n C 1 dL_law_1048 rfl rfl ?_
  refine v_arg A C (k := 1) (by decide) (by omega) hL rfl rfl dL_law_1049 dL_law_1050 dL_law_1052 dL_law_1053 dL_law_1054 ?_
  refine v_arg A C (k := 2) (by decide) (by omega) hL rfl rfl dL_law_1055 dL_law_1056 dL_law_1058 dL_law_1059 dL_law_1060 ?_
  refine v_arg A C (k := 3) (by decide) (by omega) hL rfl rfl dL_law_1061 dL_law_1062 dL_law_1064 dL_law_1065 dL_law_1066 ?_
  refine v_arg A C (k := 4) (by decide) (by omega) hL rfl rfl dL_law_1067 dL_law_1068 dL_law_1070 dL_law_1071 dL_law_1072 ?_
  refine v_callVi (ci := 6) (as := [.inl (xs (a + 1)), .inl (xs (a + 2)), .inl (xs (a + 3)), .inl (xs (a + 4))]) (rest := []) C (c_X6_tried rfl e1) mw_X6_tried mi_X6_tried mlL_136 rfl zm0 rfl rfl ⟨Nat.le_of_ble_eq_true rfl, Nat.le_of_ble_eq_true rfl⟩ rfl (Nat.le_of_ble_eq_true rfl) dL_law_1073 rfl ?_
  refine v_flip ?_
  refine v_aload_n D 2 dL_law_1076 rfl rfl ?_
  refine v_arg A D (k := 1) (by decide) (by omega) hL rfl rfl dL_law_1077 dL_law_1078 dL_law_1080 dL_law_1081 dL_law_1082 ?_
  refine v_arg A D (k := 2) (by decide) (by omega) hL rfl rfl dL_law_1083 dL_law_1084 dL_law_1086 dL_law_1087 dL_law_1088 ?_
  refine v_arg A D (k := 3) (by decide) (by omega) hL rfl rfl dL_law_1089 dL_law_1090 dL_law_1092 dL_law_1093 dL_law_1094 ?_
  refine v_arg A D (k := 4) (by decide) (by omega) hL rfl rfl dL_law_1095 dL_law_1096 dL_law_1098 dL_law_1099 dL_law_1100 ?_
  refine v_callVi (ci := 7) (as := [.inl (xs (a + 1)), .inl (xs (a + 2)), .inl (xs (a + 3)), .inl (xs (a + 4))]) (rest := [.inl x1]) D (c_X7_tried rfl e2) mw_X7_tried mi_X7_tried mlL_139 rfl zm7 rfl rfl ⟨Nat.le_of_ble_eq_true rfl, Nat.le_of_ble_eq_true rfl⟩ rfl (Nat.le_of_ble_eq_true rfl) dL_law_1101 rfl ?_
  refine v_flop ?_
  refine v_eqY E 1340 dL_law_1104 rfl rfl ?_
  exact v_wide (Nat.le_succ _) (Nat.le_add_right _ _) (next gc1 gm1 L5 L6 hI1)
theorem mlL_140 : Cond.methodLink RL 140 yX6_triedWord ∈ zall := zall_of (i := 1017) (by decide +kernel) rfl
theorem mlL_143 : Cond.methodLink RL 143 yX7_triedWord ∈ zall := zall_of (i := 1625) (by decide +kernel) rfl
set_option maxRecDepth 100000 in
set_option maxHeartbeats 4000000 in
theorem law_29 {p : Program} {l : Launch} {e : Env} {s : State} {m : MethodId} {below : List Frame} {meth : Method} {c : Code} {cells slots : Nat} {Q : State → Prop} {K : zKp} {b Ln : Nat} {xs : Nat → Int32} {gc gm : zG} {a : Nat} {L5 L6 : Option zV} (A : LC K p s m meth c b Ln xs) (hL : Ln ≤ 3072) (ha : a + 6 ≤ Ln) (hc : cells + 1 ≤ 601024) (hs : slots + 6 ≤ 7293034) (hI : INV gc gm) (next : ∀ (gc1 gm1 : zG) (L5 L6 : Option zV), INV gc1 gm1 → V (XX K false gm1) p l e room_1 s m #[Value.ref b] below meth c 7 (cells + 1) (slots + 6) Q gc1 1340 [some (.inr (.inl (60, 1000))), some (.inr (.inl (0, 0))), some (.inr (.inl (7, 0))), some (.inr (.inl (47, 0))), some (.inl (nI a)), L5, L6] []) : V (XX K false gm) p l e room_1 s m #[Value.ref b] below meth c 7 (cells) (slots) Q gc 1109 [some (.inr (.inl (60, 1000))), some (.inr (.inl (0, 0))), some (.inr (.inl (7, 0))), some (.inr (.inl (47, 0))), some (.inl (nI a)), L5, L6] [] := by
  obtain ⟨x1, gc1, gm1, e1, e2, hI1⟩ := q_triedWord hI (xs (a + 1)) (xs (a + 2)) (xs (a + 3)) (xs (a + 4))
  have C := A.x (cells := cells) (slots := slots) false gm (by omega) (by omega)
  have D := A.x (cells := cells) (slots := slots) true gc1 (by omega) (by omega)
  have E := A.x (cells := cells) (slots := slots) false gm1 (by omega) (by omega)
  refine v_aload_n C 1 dL_law_1109 rfl rfl ?_
  refine v_arg A C (k := 1) (by decide) (by omega) hL rfl rfl dL_law_1110 dL_law_1111 dL_law_1113 dL_law_1114 dL_law_1115 ?_
  refine v_arg A C (k := 2) (by decide) (by omega) hL rfl rfl dL_law_1116 dL_law_1117 dL_law_1119 dL_law_1120 dL_law_1121 ?_
  refine v_arg A C (k := 3) (by decide) (by omega) hL rfl rfl dL_law_1122 dL_law_1123 dL_law_1125 dL_law_1126 dL_law_1127 ?_
  refine v_arg A C (k := 4) (by decide) (by omega) hL rfl rfl dL_law_1128 dL_law_1129 dL_law_1131 dL_law_1132 dL_law_1133 ?_
  refine v_callVi (ci := 6) (as := [.inl (xs (a + 1)), .inl (xs (a + 2)), .inl (xs (a + 3)), .inl (xs (a + 4))]) (rest := []) C (c_X6_triedWord rfl e1) mw_X6_triedWord mi_X6_triedWord mlL_140 rfl zm0 rfl rfl ⟨Nat.le_of_ble_eq_true rfl, Nat.le_of_ble_eq_true rfl⟩ rfl (Nat.le_of_ble_eq_true rfl) dL_law_1134 rfl ?_
  refine v_flip ?_
  refine v_aload_n D 2 dL_law_1137 rfl rfl ?_
  refine v_arg A D (k := 1) (by decide) (by omega) hL rfl rfl dL_law_1138 dL_law_1139 dL_law_1141 dL_law_1142 dL_law_1143 ?_
  refine v_arg A D (k := 2) (by decide) (by omega) hL rfl rfl dL_law_1144 dL_law_1145 dL_law_1147 dL_law_1148 dL_law_1149 ?_
  refine v_arg A D (k := 3) (by decide) (by omega) hL rfl rfl dL_law_1150 dL_law_1151 dL_law_1153 dL_law_1154 dL_law_1155 ?_
  refine v_arg A D (k := 4) (by decide) (by omega) hL rfl rfl dL_law_1156 dL_law_1157 dL_law_1159 dL_law_1160 dL_law_1161 ?_
  refine v_callVi (ci := 7) (as := [.inl (xs (a + 1)), .inl (xs (a + 2)), .inl (xs (a + 3)), .inl (xs (a + 4))]) (rest := [.inl x1]) D (c_X7_triedWord rfl e2) mw_X7_triedWord mi_X7_triedWord mlL_143 rfl zm7 rfl rfl ⟨Nat.le_of_ble_eq_true rfl, Nat.le_of_ble_eq_true rfl⟩ rfl (Nat.le_of_ble_eq_true rfl) dL_law_1162 rfl ?_
  refine v_flop ?_
  refine v_eqY E 1340 dL_law_1165 rfl rfl ?_
  exact v_wide (Nat.le_succ _) (Nat.le_add_right _ _) (next gc1 gm1 L5 L6 hI1)
theorem mlL_144 : Cond.methodLink RL 144 yX6_best ∈ zall := zall_of (i := 1021) (by decide +kernel) rfl
theorem mlL_147 : Cond.methodLink RL 147 yX7_best ∈ zall := zall_of (i := 1629) (by decide +kernel) rfl
set_option maxRecDepth 100000 in
set_option maxHeartbeats 4000000 in
theorem law_30 {p : Program} {l : Launch} {e : Env} {s : State} {m : MethodId} {below : List Frame} {meth : Method} {c : Code} {cells slots : Nat} {Q : State → Prop} {K : zKp} {b Ln : Nat} {xs : Nat → Int32} {gc gm : zG} {a : Nat} {L5 L6 : Option zV} (A : LC K p s m meth c b Ln xs) (hL : Ln ≤ 3072) (ha : a + 6 ≤ Ln) (hc : cells + 1 ≤ 601024) (hs : slots + 6 ≤ 7293034) (hI : INV gc gm) (next : ∀ (gc1 gm1 : zG) (L5 L6 : Option zV), INV gc1 gm1 → V (XX K false gm1) p l e room_1 s m #[Value.ref b] below meth c 7 (cells + 1) (slots + 6) Q gc1 1340 [some (.inr (.inl (60, 1000))), some (.inr (.inl (0, 0))), some (.inr (.inl (7, 0))), some (.inr (.inl (47, 0))), some (.inl (nI a)), L5, L6] []) : V (XX K false gm) p l e room_1 s m #[Value.ref b] below meth c 7 (cells) (slots) Q gc 1170 [some (.inr (.inl (60, 1000))), some (.inr (.inl (0, 0))), some (.inr (.inl (7, 0))), some (.inr (.inl (47, 0))), some (.inl (nI a)), L5, L6] [] := by
  obtain ⟨x1, gc1, gm1, e1, e2, hI1⟩ := q_best hI (xs (a + 1))
  have C := A.x (cells := cells) (slots := slots) false gm (by omega) (by omega)
  have D := A.x (cells := cells) (slots := slots) true gc1 (by omega) (by omega)
  have E := A.x (cells := cells) (slots := slots) false gm1 (by omega) (by omega)
  refine v_aload_n C 1 dL_law_1170 rfl rfl ?_
  refine v_arg A C (k := 1) (by decide) (by omega) hL rfl rfl dL_law_1171 dL_law_1172 dL_law_1174 dL_law_1175 dL_law_1176 ?_
  refine v_callVi (ci := 6) (as := [.inl (xs (a + 1))]) (rest := []) C (c_X6_best rfl e1) mw_X6_best mi_X6_best mlL_144 rfl zm0 rfl rfl ⟨Nat.le_of_ble_eq_true rfl, Nat.le_of_ble_eq_true rfl⟩ rfl (Nat.le_of_ble_eq_true rfl) dL_law_1177 rfl ?_
  refine v_flip ?_
  refine v_aload_n D 2 dL_law_1180 rfl rfl ?_
  refine v_arg A D (k := 1) (by decide) (by omega) hL rfl rfl dL_law_1181 dL_law_1182 dL_law_1184 dL_law_1185 dL_law_1186 ?_
  refine v_callVi (ci := 7) (as := [.inl (xs (a + 1))]) (rest := [.inl x1]) D (c_X7_best rfl e2) mw_X7_best mi_X7_best mlL_147 rfl zm7 rfl rfl ⟨Nat.le_of_ble_eq_true rfl, Nat.le_of_ble_eq_true rfl⟩ rfl (Nat.le_of_ble_eq_true rfl) dL_law_1187 rfl ?_
  refine v_flop ?_
  refine v_eqY E 1340 dL_law_1190 rfl rfl ?_
  exact v_wide (Nat.le_succ _) (Nat.le_add_right _ _) (next gc1 gm1 L5 L6 hI1)
theorem mlL_148 : Cond.methodLink RL 148 yX6_waysFor ∈ zall := zall_of (i := 1025) (by decide +kernel) rfl
theorem mlL_151 : Cond.methodLink RL 151 yX7_waysFor ∈ zall := zall_of (i := 1633) (by decide +kernel) rfl
set_option maxRecDepth 100000 in
set_option maxHeartbeats 4000000 in
theorem law_31 {p : Program} {l : Launch} {e : Env} {s : State} {m : MethodId} {below : List Frame} {meth : Method} {c : Code} {cells slots : Nat} {Q : State → Prop} {K : zKp} {b Ln : Nat} {xs : Nat → Int32} {gc gm : zG} {a : Nat} {L5 L6 : Option zV} (A : LC K p s m meth c b Ln xs) (hL : Ln ≤ 3072) (ha : a + 6 ≤ Ln) (hc : cells + 1 ≤ 601024) (hs : slots + 6 ≤ 7293034) (hI : INV gc gm) (next : ∀ (gc1 gm1 : zG) (L5 L6 : Option zV), INV gc1 gm1 → V (XX K false gm1) p l e room_1 s m #[Value.ref b] below meth c 7 (cells + 1) (slots + 6) Q gc1 1340 [some (.inr (.inl (60, 1000))), some (.inr (.inl (0, 0))), some (.inr (.inl (7, 0))), some (.inr (.inl (47, 0))), some (.inl (nI a)), L5, L6] []) : V (XX K false gm) p l e room_1 s m #[Value.ref b] below meth c 7 (cells) (slots) Q gc 1195 [some (.inr (.inl (60, 1000))), some (.inr (.inl (0, 0))), some (.inr (.inl (7, 0))), some (.inr (.inl (47, 0))), some (.inl (nI a)), L5, L6] [] := by
  obtain ⟨x1, gc1, gm1, e1, e2, hI1⟩ := q_waysFor hI (xs (a + 1))
  have C := A.x (cells := cells) (slots := slots) false gm (by omega) (by omega)
  have D := A.x (cells := cells) (slots := slots) true gc1 (by omega) (by omega)
  have E := A.x (cells := cells) (slots := slots) false gm1 (by omega) (by omega)
  refine v_aload_n C 1 dL_law_1195 rfl rfl ?_
  refine v_arg A C (k := 1) (by decide) (by omega) hL rfl rfl dL_law_1196 dL_law_1197 dL_law_1199 dL_law_1200 dL_law_1201 ?_
  refine v_callVi (ci := 6) (as := [.inl (xs (a + 1))]) (rest := []) C (c_X6_waysFor rfl e1) mw_X6_waysFor mi_X6_waysFor mlL_148 rfl zm0 rfl rfl ⟨Nat.le_of_ble_eq_true rfl, Nat.le_of_ble_eq_true rfl⟩ rfl (Nat.le_of_ble_eq_true rfl) dL_law_1202 rfl ?_
  refine v_flip ?_
  refine v_aload_n D 2 dL_law_1205 rfl rfl ?_
  refine v_arg A D (k := 1) (by decide) (by omega) hL rfl rfl dL_law_1206 dL_law_1207 dL_law_1209 dL_law_1210 dL_law_1211 ?_
  refine v_callVi (ci := 7) (as := [.inl (xs (a + 1))]) (rest := [.inl x1]) D (c_X7_waysFor rfl e2) mw_X7_waysFor mi_X7_waysFor mlL_151 rfl zm7 rfl rfl ⟨Nat.le_of_ble_eq_true rfl, Nat.le_of_ble_eq_true rfl⟩ rfl (Nat.le_of_ble_eq_true rfl) dL_law_1212 rfl ?_
  refine v_flop ?_
  refine v_eqY E 1340 dL_law_1215 rfl rfl ?_
  exact v_wide (Nat.le_succ _) (Nat.le_add_right _ _) (next gc1 gm1 L5 L6 hI1)
theorem mlL_152 : Cond.methodLink RL 152 yX6_keep ∈ zall := zall_of (i := 1029) (by decide +kernel) rfl
theorem mlL_156 : Cond.methodLink RL 156 yX7_keep ∈ zall := zall_of (i := 1641) (by decide +kernel) rfl
set_option maxRecDepth 100000 in
set_option maxHeartbeats 4000000 in
theorem law_32 {p : Program} {l : Launch} {e : Env} {s : State} {m : MethodId} {below : List Frame} {meth : Method} {c : Code} {cells slots : Nat} {Q : State → Prop} {K : zKp} {b Ln : Nat} {xs : Nat → Int32} {gc gm : zG} {a : Nat} {L5 L6 : Option zV} (A : LC K p s m meth c b Ln xs) (hL : Ln ≤ 3072) (ha : a + 6 ≤ Ln) (hc : cells + 1 ≤ 601024) (hs : slots + 6 ≤ 7293034) (hI : INV gc gm) (next : ∀ (gc1 gm1 : zG) (L5 L6 : Option zV), INV gc1 gm1 → V (XX K false gm1) p l e room_1 s m #[Value.ref b] below meth c 7 (cells + 1) (slots + 6) Q gc1 1340 [some (.inr (.inl (60, 1000))), some (.inr (.inl (0, 0))), some (.inr (.inl (7, 0))), some (.inr (.inl (47, 0))), some (.inl (nI a)), L5, L6] []) : V (XX K false gm) p l e room_1 s m #[Value.ref b] below meth c 7 (cells) (slots) Q gc 1220 [some (.inr (.inl (60, 1000))), some (.inr (.inl (0, 0))), some (.inr (.inl (7, 0))), some (.inr (.inl (47, 0))), some (.inl (nI a)), L5, L6] [] := by
  obtain ⟨x1, gc1, gm1, e1, e2, hI1⟩ := q_keep hI 
  have C := A.x (cells := cells) (slots := slots) false gm (by omega) (by omega)
  have D := A.x (cells := cells) (slots := slots) true gc1 (by omega) (by omega)
  have E := A.x (cells := cells) (slots := slots) false gm1 (by omega) (by omega)
  refine v_aload_n C 1 dL_law_1220 rfl rfl ?_
  refine v_callVi (ci := 6) (as := []) (rest := []) C (c_X6_keep rfl e1) mw_X6_keep mi_X6_keep mlL_152 rfl zm0 rfl rfl ⟨Nat.le_of_ble_eq_true rfl, Nat.le_of_ble_eq_true rfl⟩ rfl (Nat.le_of_ble_eq_true rfl) dL_law_1221 rfl ?_
  refine v_flip ?_
  refine v_aload_n D 2 dL_law_1224 rfl rfl ?_
  refine v_callVi (ci := 7) (as := []) (rest := [.inl x1]) D (c_X7_keep rfl e2) mw_X7_keep mi_X7_keep mlL_156 rfl zm7 rfl rfl ⟨Nat.le_of_ble_eq_true rfl, Nat.le_of_ble_eq_true rfl⟩ rfl (Nat.le_of_ble_eq_true rfl) dL_law_1225 rfl ?_
  refine v_flop ?_
  refine v_eqY E 1340 dL_law_1228 rfl rfl ?_
  exact v_wide (Nat.le_succ _) (Nat.le_add_right _ _) (next gc1 gm1 L5 L6 hI1)
theorem mlL_157 : Cond.methodLink RL 157 yX6_back ∈ zall := zall_of (i := 1033) (by decide +kernel) rfl
theorem mlL_160 : Cond.methodLink RL 160 yX7_back ∈ zall := zall_of (i := 1645) (by decide +kernel) rfl
set_option maxRecDepth 100000 in
set_option maxHeartbeats 4000000 in
theorem law_33 {p : Program} {l : Launch} {e : Env} {s : State} {m : MethodId} {below : List Frame} {meth : Method} {c : Code} {cells slots : Nat} {Q : State → Prop} {K : zKp} {b Ln : Nat} {xs : Nat → Int32} {gc gm : zG} {a : Nat} {L5 L6 : Option zV} (A : LC K p s m meth c b Ln xs) (hL : Ln ≤ 3072) (ha : a + 6 ≤ Ln) (hc : cells + 1 ≤ 601024) (hs : slots + 6 ≤ 7293034) (hI : INV gc gm) (next : ∀ (gc1 gm1 : zG) (L5 L6 : Option zV), INV gc1 gm1 → V (XX K false gm1) p l e room_1 s m #[Value.ref b] below meth c 7 (cells + 1) (slots + 6) Q gc1 1340 [some (.inr (.inl (60, 1000))), some (.inr (.inl (0, 0))), some (.inr (.inl (7, 0))), some (.inr (.inl (47, 0))), some (.inl (nI a)), L5, L6] []) : V (XX K false gm) p l e room_1 s m #[Value.ref b] below meth c 7 (cells) (slots) Q gc 1233 [some (.inr (.inl (60, 1000))), some (.inr (.inl (0, 0))), some (.inr (.inl (7, 0))), some (.inr (.inl (47, 0))), some (.inl (nI a)), L5, L6] [] := by
  obtain ⟨x1, gc1, gm1, e1, e2, hI1⟩ := q_back hI 
  have C := A.x (cells := cells) (slots := slots) false gm (by omega) (by omega)
  have D := A.x (cells := cells) (slots := slots) true gc1 (by omega) (by omega)
  have E := A.x (cells := cells) (slots := slots) false gm1 (by omega) (by omega)
  refine v_aload_n C 1 dL_law_1233 rfl rfl ?_
  refine v_callVi (ci := 6) (as := []) (rest := []) C (c_X6_back rfl e1) mw_X6_back mi_X6_back mlL_157 rfl zm0 rfl rfl ⟨Nat.le_of_ble_eq_true rfl, Nat.le_of_ble_eq_true rfl⟩ rfl (Nat.le_of_ble_eq_true rfl) dL_law_1234 rfl ?_
  refine v_flip ?_
  refine v_aload_n D 2 dL_law_1237 rfl rfl ?_
  refine v_callVi (ci := 7) (as := []) (rest := [.inl x1]) D (c_X7_back rfl e2) mw_X7_back mi_X7_back mlL_160 rfl zm7 rfl rfl ⟨Nat.le_of_ble_eq_true rfl, Nat.le_of_ble_eq_true rfl⟩ rfl (Nat.le_of_ble_eq_true rfl) dL_law_1238 rfl ?_
  refine v_flop ?_
  refine v_eqY E 1340 dL_law_1241 rfl rfl ?_
  exact v_wide (Nat.le_succ _) (Nat.le_add_right _ _) (next gc1 gm1 L5 L6 hI1)
theorem mlL_170 : Cond.methodLink RL 170 yX6_size ∈ zall := zall_of (i := 1037) (by decide +kernel) rfl
theorem mlL_173 : Cond.methodLink RL 173 yX7_size ∈ zall := zall_of (i := 1653) (by decide +kernel) rfl
set_option maxRecDepth 100000 in
set_option maxHeartbeats 4000000 in
theorem law_35 {p : Program} {l : Launch} {e : Env} {s : State} {m : MethodId} {below : List Frame} {meth : Method} {c : Code} {cells slots : Nat} {Q : State → Prop} {K : zKp} {b Ln : Nat} {xs : Nat → Int32} {gc gm : zG} {a : Nat} {L5 L6 : Option zV} (A : LC K p s m meth c b Ln xs) (hL : Ln ≤ 3072) (ha : a + 6 ≤ Ln) (hc : cells + 1 ≤ 601024) (hs : slots + 6 ≤ 7293034) (hI : INV gc gm) (next : ∀ (gc1 gm1 : zG) (L5 L6 : Option zV), INV gc1 gm1 → V (XX K false gm1) p l e room_1 s m #[Value.ref b] below meth c 7 (cells + 1) (slots + 6) Q gc1 1340 [some (.inr (.inl (60, 1000))), some (.inr (.inl (0, 0))), some (.inr (.inl (7, 0))), some (.inr (.inl (47, 0))), some (.inl (nI a)), L5, L6] []) : V (XX K false gm) p l e room_1 s m #[Value.ref b] below meth c 7 (cells) (slots) Q gc 1302 [some (.inr (.inl (60, 1000))), some (.inr (.inl (0, 0))), some (.inr (.inl (7, 0))), some (.inr (.inl (47, 0))), some (.inl (nI a)), L5, L6] [] := by
  obtain ⟨x1, gc1, gm1, e1, e2, hI1⟩ := q_size hI (xs (a + 1))
  have C := A.x (cells := cells) (slots := slots) false gm (by omega) (by omega)
  have D := A.x (cells := cells) (slots := slots) true gc1 (by omega) (by omega)
  have E := A.x (cells := cells) (slots := slots) false gm1 (by omega) (by omega)
  refine v_aload_n C 1 dL_law_1302 rfl rfl ?_
  refine v_arg A C (k := 1) (by decide) (by omega) hL rfl rfl dL_law_1303 dL_law_1304 dL_law_1306 dL_law_1307 dL_law_1308 ?_
  refine v_callVi (ci := 6) (as := [.inl (xs (a + 1))]) (rest := []) C (c_X6_size rfl e1) mw_X6_size mi_X6_size mlL_170 rfl zm0 rfl rfl ⟨Nat.le_of_ble_eq_true rfl, Nat.le_of_ble_eq_true rfl⟩ rfl (Nat.le_of_ble_eq_true rfl) dL_law_1309 rfl ?_
  refine v_flip ?_
  refine v_aload_n D 2 dL_law_1312 rfl rfl ?_
  refine v_arg A D (k := 1) (by decide) (by omega) hL rfl rfl dL_law_1313 dL_law_1314 dL_law_1316 dL_law_1317 dL_law_1318 ?_
  refine v_callVi (ci := 7) (as := [.inl (xs (a + 1))]) (rest := [.inl x1]) D (c_X7_size rfl e2) mw_X7_size mi_X7_size mlL_173 rfl zm7 rfl rfl ⟨Nat.le_of_ble_eq_true rfl, Nat.le_of_ble_eq_true rfl⟩ rfl (Nat.le_of_ble_eq_true rfl) dL_law_1319 rfl ?_
  refine v_flop ?_
  refine v_eqY E 1340 dL_law_1322 rfl rfl ?_
  exact v_wide (Nat.le_succ _) (Nat.le_add_right _ _) (next gc1 gm1 L5 L6 hI1)
theorem mlL_174 : Cond.methodLink RL 174 yX6_trouble ∈ zall := zall_of (i := 1045) (by decide +kernel) rfl
theorem mlL_177 : Cond.methodLink RL 177 yX7_trouble ∈ zall := zall_of (i := 1657) (by decide +kernel) rfl
set_option maxRecDepth 100000 in
set_option maxHeartbeats 4000000 in
theorem law_36 {p : Program} {l : Launch} {e : Env} {s : State} {m : MethodId} {below : List Frame} {meth : Method} {c : Code} {cells slots : Nat} {Q : State → Prop} {K : zKp} {b Ln : Nat} {xs : Nat → Int32} {gc gm : zG} {a : Nat} {L5 L6 : Option zV} (A : LC K p s m meth c b Ln xs) (hL : Ln ≤ 3072) (ha : a + 6 ≤ Ln) (hc : cells + 1 ≤ 601024) (hs : slots + 6 ≤ 7293034) (hI : INV gc gm) (next : ∀ (gc1 gm1 : zG) (L5 L6 : Option zV), INV gc1 gm1 → V (XX K false gm1) p l e room_1 s m #[Value.ref b] below meth c 7 (cells + 1) (slots + 6) Q gc1 1340 [some (.inr (.inl (60, 1000))), some (.inr (.inl (0, 0))), some (.inr (.inl (7, 0))), some (.inr (.inl (47, 0))), some (.inl (nI a)), L5, L6] []) : V (XX K false gm) p l e room_1 s m #[Value.ref b] below meth c 7 (cells) (slots) Q gc 1327 [some (.inr (.inl (60, 1000))), some (.inr (.inl (0, 0))), some (.inr (.inl (7, 0))), some (.inr (.inl (47, 0))), some (.inl (nI a)), L5, L6] [] := by
  obtain ⟨x1, gc1, gm1, e1, e2, hI1⟩ := q_trouble hI 
  have C := A.x (cells := cells) (slots := slots) false gm (by omega) (by omega)
  have D := A.x (cells := cells) (slots := slots) true gc1 (by omega) (by omega)
  have E := A.x (cells := cells) (slots := slots) false gm1 (by omega) (by omega)
  refine v_aload_n C 1 dL_law_1327 rfl rfl ?_
  refine v_callVi (ci := 6) (as := []) (rest := []) C (c_X6_trouble rfl e1) mw_X6_trouble mi_X6_trouble mlL_174 rfl zm0 rfl rfl ⟨Nat.le_of_ble_eq_true rfl, Nat.le_of_ble_eq_true rfl⟩ rfl (Nat.le_of_ble_eq_true rfl) dL_law_1328 rfl ?_
  refine v_flip ?_
  refine v_aload_n D 2 dL_law_1331 rfl rfl ?_
  refine v_callVi (ci := 7) (as := []) (rest := [.inl x1]) D (c_X7_trouble rfl e2) mw_X7_trouble mi_X7_trouble mlL_177 rfl zm7 rfl rfl ⟨Nat.le_of_ble_eq_true rfl, Nat.le_of_ble_eq_true rfl⟩ rfl (Nat.le_of_ble_eq_true rfl) dL_law_1332 rfl ?_
  refine v_flop ?_
  refine v_eqY E 1340 dL_law_1335 rfl rfl ?_
  exact v_wide (Nat.le_succ _) (Nat.le_add_right _ _) (next gc1 gm1 L5 L6 hI1)
theorem dK_n {c0 : Nat} (h : c0 < 4) : dK (nI c0) = nI 0 := by
  unfold dK
  rw [if_neg (by rw [nI_inj (by omega) (by omega)]; omega)]
theorem dG_n {c0 : Nat} (h : c0 < 4) (g : zG) : dG (nI c0) g = zU g 47 0 0 (nI c0) := by
  unfold dG
  rw [if_neg (by rw [nI_inj (by omega) (by omega)]; omega)]
theorem mlL_166 : Cond.methodLink RL 166 yX7_done ∈ zall := zall_of (i := 1649) (by decide +kernel) rfl
theorem mlL_167 : Cond.methodLink RL 167 yX7_thrown ∈ zall := zall_of (i := 1251) (by decide +kernel) rfl
set_option maxRecDepth 100000 in
set_option maxHeartbeats 4000000 in
theorem law_34 {p : Program} {l : Launch} {e : Env} {s : State} {m : MethodId} {below : List Frame} {meth : Method} {c : Code} {cells slots : Nat} {Q : State → Prop} {K : zKp} {b Ln : Nat} {xs : Nat → Int32} {gc gm : zG} {a : Nat} {L5 L6 : Option zV} (A : LC K p s m meth c b Ln xs) (hL : Ln ≤ 3072) (ha : a + 6 ≤ Ln) (hc : cells + 1 ≤ 601024) (hs : slots + 6 ≤ 7293034) (hI : INV gc gm) (hl : l.stackTraces = false) (next : ∀ (gc1 gm1 : zG) (L5 L6 : Option zV), INV gc1 gm1 → V (XX K false gm1) p l e room_1 s m #[Value.ref b] below meth c 7 (cells + 1) (slots + 6) Q gc1 1340 [some (.inr (.inl (60, 1000))), some (.inr (.inl (0, 0))), some (.inr (.inl (7, 0))), some (.inr (.inl (47, 0))), some (.inl (nI a)), L5, L6] []) : V (XX K false gm) p l e room_1 s m #[Value.ref b] below meth c 7 (cells) (slots) Q gc 1246 [some (.inr (.inl (60, 1000))), some (.inr (.inl (0, 0))), some (.inr (.inl (7, 0))), some (.inr (.inl (47, 0))), some (.inl (nI a)), L5, L6] [] := by
  obtain ⟨gm1, hI1, hq⟩ := q_done hI (xs (a + 1))
  have C := A.x (cells := cells) (slots := slots) false gm (by omega) (by omega)
  have C2 := A.x (cells := cells + 1) (slots := slots + 6) false gm hc hs
  have E := A.x (cells := cells + 1) (slots := slots + 6) false gm1 hc hs
  refine v_aload_n C 1 dL_law_1246 rfl rfl ?_
  refine v_arg A C (k := 1) (by decide) (by omega) hL rfl rfl dL_law_1247 dL_law_1248 dL_law_1250 dL_law_1251 dL_law_1252 ?_
  refine v_aload_n C 3 dL_law_1253 rfl rfl ?_
  rcases hq with ⟨c0, hc0, e1, e2, e3⟩ | ⟨e1, e2, e3⟩
  · refine v_callLD A C hl e1 hc hs dL_law_1254 ?_
    rw [dK_n hc0, dG_n hc0]
    have D := A.x (cells := cells + 1) (slots := slots + 6) true (zU gc 47 0 0 (nI c0)) hc hs
    refine v_istore C2 5 dL_law_1257 (by decide) rfl ?_
    refine v_aload_n C2 2 dL_law_1259 rfl rfl ?_
    refine v_arg A C2 (k := 1) (by decide) (by omega) hL rfl rfl dL_law_1260 dL_law_1261 dL_law_1263 dL_law_1264 dL_law_1265 ?_
    refine v_flip ?_
    refine v_callVi (ci := 7) (as := [.inl (xs (a + 1))]) (rest := []) D (c_X7_done rfl e2) mw_X7_done mi_X7_done mlL_166 rfl zm7 rfl rfl ⟨Nat.le_of_ble_eq_true rfl, Nat.le_of_ble_eq_true rfl⟩ rfl (Nat.le_of_ble_eq_true rfl) dL_law_1266 rfl ?_
    refine v_istore D 6 dL_law_1269 (by decide) rfl ?_
    refine v_aload_n D 2 dL_law_1271 rfl rfl ?_
    refine v_callVi (ci := 7) (as := []) (rest := []) D (c_X7_thrown rfl (show X7_thrown gm1 = some (gm1 1007 0 0, gm1) from rfl)) mw_X7_thrown mi_X7_thrown mlL_167 rfl zm7 rfl rfl ⟨Nat.le_of_ble_eq_true rfl, Nat.le_of_ble_eq_true rfl⟩ rfl (Nat.le_of_ble_eq_true rfl) dL_law_1272 rfl ?_
    refine v_flop ?_
    refine v_iload E 5 dL_law_1275 rfl ?_
    refine v_eqY E 1282 dL_law_1277 rfl e3 ?_
    refine v_iload E 5 dL_law_1282 rfl ?_
    refine v_ifnN E 1299 dL_law_1284 rfl (by decide) ?_
    refine v_aload_n E 3 dL_law_1287 rfl rfl ?_
    refine v_iconst E (nI 0) dL_law_1288 zk_0 ?_
    refine v_lald E rfl dL_law_1289 ?_
    rw [zU_self]
    refine v_iload E 6 dL_law_1290 rfl ?_
    refine v_i2l E dL_law_1292 ?_
    refine v_lcmp0 E dL_law_1293 ?_
    refine v_if0Y E 1299 dL_law_1294 rfl (by decide) ?_
    refine v_goto E 1340 dL_law_1299 rfl ?_
    exact next _ gm1 _ _ (INV_47 hI1 _)
  · refine v_callLD A C hl e1 hc hs dL_law_1254 ?_
    rw [show dK (nI 1000) = nI 1 from if_pos rfl, show dG (nI 1000) gc = gc from if_pos rfl]
    have D := A.x (cells := cells + 1) (slots := slots + 6) true gc hc hs
    refine v_istore C2 5 dL_law_1257 (by decide) rfl ?_
    refine v_aload_n C2 2 dL_law_1259 rfl rfl ?_
    refine v_arg A C2 (k := 1) (by decide) (by omega) hL rfl rfl dL_law_1260 dL_law_1261 dL_law_1263 dL_law_1264 dL_law_1265 ?_
    refine v_flip ?_
    refine v_callVi (ci := 7) (as := [.inl (xs (a + 1))]) (rest := []) D (c_X7_done rfl e2) mw_X7_done mi_X7_done mlL_166 rfl zm7 rfl rfl ⟨Nat.le_of_ble_eq_true rfl, Nat.le_of_ble_eq_true rfl⟩ rfl (Nat.le_of_ble_eq_true rfl) dL_law_1266 rfl ?_
    refine v_istore D 6 dL_law_1269 (by decide) rfl ?_
    refine v_aload_n D 2 dL_law_1271 rfl rfl ?_
    refine v_callVi (ci := 7) (as := []) (rest := []) D (c_X7_thrown rfl (show X7_thrown gm1 = some (gm1 1007 0 0, gm1) from rfl)) mw_X7_thrown mi_X7_thrown mlL_167 rfl zm7 rfl rfl ⟨Nat.le_of_ble_eq_true rfl, Nat.le_of_ble_eq_true rfl⟩ rfl (Nat.le_of_ble_eq_true rfl) dL_law_1272 rfl ?_
    refine v_flop ?_
    refine v_iload E 5 dL_law_1275 rfl ?_
    refine v_eqY E 1282 dL_law_1277 rfl e3 ?_
    refine v_iload E 5 dL_law_1282 rfl ?_
    refine v_ifnY E 1299 dL_law_1284 rfl (by decide) ?_
    refine v_goto E 1340 dL_law_1299 rfl ?_
    exact next gc gm1 _ _ hI1
