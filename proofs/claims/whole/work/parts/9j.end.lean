set_option maxRecDepth 100000 in
set_option maxHeartbeats 4000000 in
/-- THE LAW, from its entry -/
theorem whole_start {p : Program} {e : Env} {s : State} {m : MethodId} {below : List Frame} {meth : Method} {c : Code} (l : Launch) (hflags : l.flags = flags0) {b L : Nat} {xs : Nat → Int32} (hL : L ≤ 3072) (C0 : lw_At p s m meth c b L xs) : W p l e room_1 s m #[Value.ref b] below meth c s.heap [] 0 0 (lw_Z below #[Value.ref b] s) (entryFrame m ([Value.ref b] : List Value).toArray 7) := by
  obtain ⟨K, h1, h2, h3⟩ := lw_start C0
  have A : LC K p s m meth c b L xs := ⟨C0, h1, h2, h3⟩
  have hl : l.stackTraces = false := by
    unfold Launch.stackTraces
    rw [hflags]
    decide +kernel
  have C : Cn (XX K false g1) p s m #[Value.ref b] meth c cL_law 7 RL := ⟨C0.1, C0.2.1, C0.2.2.2.1, C0.2.2.2.2.1, fun w hw => C0.2.2.2.2.2.1 w (List.mem_filter.mp hw).1, (h3 false g1).1, C0.2.2.2.2.2.2.2.2.1⟩
  have hlv := lv_entry ([.ref b]) (n := 7) (Nat.le_of_ble_eq_true rfl)
  rw [lg_entry_eq]
  generalize (lg_sl ([.ref b]) ++ List.replicate (7 - (lg_sl ([.ref b])).length) Slot.unset).toArray = ls at hlv ⊢
  have hlv : lv_has ls 7 [(0, .ref b)] := hlv
  have hb : NN (XX K false g1) p l e room_1 s m #[Value.ref b] below meth c 7 (lw_Z below #[Value.ref b] s) g0 0 0 0 0 0 [some (.inr (.inl (60, 1000))), none, none, none, none, none, none] [] := by
    refine n_new C (t := 0) (i := 0) tyX6 tyX6_ok (by decide +kernel) rfl rfl zinX6 (n_fs tyX6 (nf6 _ _ rfl) (fun _ => rfl) (laid_new (by decide +kernel) (by omega))) wL_RL_8 wI_RX6 wT_RX6 (by decide) (by decide) dL_law_0 ?_
    refine n_dup C dL_law_3 ?_
    refine n_callI C (as := []) (rest := [.inr (.inl (0, 0))]) (c_X6_init (XX K false g1)) mw_X6_init rfl mn_X6_init wM_RL_15 (by decide) rfl (Nat.le_of_ble_eq_true rfl) (by decide) dL_law_4 rfl ?_
    refine n_astore_n (L' := [some (.inr (.inl (60, 1000))), some (.inr (.inl (0, 0))), none, none, none, none, none]) C 1 dL_law_7 rfl (by decide) rfl ?_
    refine n_new C (t := 7) (i := 0) tyX7 tyX7_ok (by decide +kernel) rfl rfl zinX7 (n_fs tyX7 (nf7 _ _ rfl) (fun _ => rfl) (laid_new (by decide +kernel) (by omega))) wL_RL_16 wI_RX7 wT_RX7 (by decide) (by decide) dL_law_8 ?_
    refine n_dup C dL_law_11 ?_
    refine n_callI C (as := []) (rest := [.inr (.inl (7, 0))]) (c_X7_init (XX K false g1)) mw_X7_init rfl mn_X7_init wM_RL_18 (by decide) rfl (Nat.le_of_ble_eq_true rfl) (by decide) dL_law_12 rfl ?_
    refine n_astore_n (L' := [some (.inr (.inl (60, 1000))), some (.inr (.inl (0, 0))), some (.inr (.inl (7, 0))), none, none, none, none]) C 2 dL_law_15 rfl (by decide) rfl ?_
    refine n_iconst C (nI 1) dL_law_16 zk_1 ?_
    refine n_newl C (by decide +kernel) (fun _ => g1_ne (by omega)) (by decide) (by decide) dL_law_17 ?_
    refine n_astore_n (L' := [some (.inr (.inl (60, 1000))), some (.inr (.inl (0, 0))), some (.inr (.inl (7, 0))), some (.inr (.inl (47, 0))), none, none, none]) C 3 dL_law_19 rfl (by decide) rfl ?_
    refine n_iconst C (nI 0) dL_law_20 zk_0 ?_
    refine n_istore (L' := [some (.inr (.inl (60, 1000))), some (.inr (.inl (0, 0))), some (.inr (.inl (7, 0))), some (.inr (.inl (47, 0))), some (.inl (nI 0)), none, none]) C 4 dL_law_21 (by decide) rfl ?_
    refine n_cast (τ' := 178) (n' := 163) (cells' := 163) (slots' := 14665) (by omega) (by omega) (by decide) (by decide) ?_
    exact fun H locs ls hP hS h => law_loop A hL hl (L + 1) 0 g1 g1 none none (by omega) (by omega) INV_start H locs ls (n_done hP.1) hS h
  have e0 : zE (XX K false g1) 0 [some (.inr (.inl (60, 1000))), none, none, none, none, none, none] = [(0, .ref b)] := by
    show [(0, Value.ref (K.2.2.2.1 1000))] = _
    rw [h2]
  exact hb s.heap [] ls ⟨fun k q hk => by simp [nW] at hk, h1.symm⟩ va_S.rf (by rw [e0]; exact hlv)
set_option maxHeartbeats 4000000 in
theorem lw_walk (l : Launch) (hflags : l.flags = flags0) (b : Addr) (xs : List Int32) : MetFree l x (headSpec (Jvm.Cond.code x code maxLocals ret :: tables_1) room_1) (lw_P b xs) (fun _ _ _ _ _ => True) lw_Q := by
  refine MetFree.of_bodyS (code := code) (maxLocals := maxLocals) (ret := ret) (by decide) ?_ ?_
  · intro args s m h hn
    obtain ⟨meth, c, h1, h2, h3, h4, h5, h6, -, -⟩ := Cond.code_spec hn (atoms_spec (ws := Jvm.Cond.code x code maxLocals ret :: tables_1) h _ List.mem_cons_self)
    exact ⟨meth, c, h1, h2, h3, h4, h5, h6⟩
  · intro p e s m args below meth c s₁ B hml0 hP _
    obtain ⟨rfl, hx, hbd, hgv⟩ := hP
    obtain ⟨scr, harrAt, hlist, hof, hsmall⟩ := hx
    obtain ⟨hcb, hkn, -, -⟩ := State.arrayAt?_spec harrAt
    have hown : s.vm.findClass R_law = some m.cls := findClass_of_methodNamed B.named
    have hts0 : ∀ c ∈ (Jvm.Cond.code x code maxLocals ret :: tables_1), c.before #[Value.ref b] s = true := atoms_spec (ws := Jvm.Cond.code x code maxLocals ret :: tables_1) B.pre
    have hts : ∀ w ∈ lw_tbl, w.before #[Value.ref b] s = true := k2_hts_sels lw_privs (fun w hw => hts0 w (List.mem_cons_of_mem _ hw)) lw_privs_ok
    have hml : c.maxLocals = 7 := B.maxLocals_eq (hts0 _ List.mem_cons_self)
    have X₀ : Stand p l e room_1 s m #[Value.ref b] below meth c s₁ [] 0 0 := Stand.of_body B
    have hh0 : s₁.heap = s.heap := by rw [B.state]; rfl
    have hsz : scr.slots.size = xs.length := by rw [← Array.length_toList, hlist, List.length_map]
    have hval : ∀ j : Nat, j < xs.length → scr.slots[j]? = some (.int (xs.getD j 0)) := fun j hj => by
      rw [← Array.getElem?_toList, hlist]
      simp [hj]
    have hbl : b < s.heap.size := (Array.getElem?_eq_some_iff.mp hcb).1
    have hX : va_X b xs.length (fun j => xs.getD j 0) s s.heap := ⟨scr, hcb, hof, hkn, hsz, hval⟩
    have K : W p l e room_1 s m #[Value.ref b] below meth c s₁.heap [] 0 0 (lw_Z below #[Value.ref b] s) (entryFrame m ([Value.ref b] : List Value).toArray 7) := by
      rw [hh0]
      exact whole_start l hflags hbd ⟨B.exec, B.bytes, B.returns, hml, hown, hts, hX, hbl, B.notSynchronized, hgv⟩
    obtain ⟨t, a1, o, b1, b2, b3⟩ := K s₁ rfl X₀
    exact ⟨t, o, a1, b1, b2, b3⟩
theorem lw_pre_spec {args : Array Value} {s : State} (h : (Jvm.Cond.and given_1 narrow_1).before args s = true) (hr : rest_1_c.before args s = true) : ∃ (b : Addr) (xs : List Int32), lw_P b xs args s := by
  have hs := flat_of_before _ h
  have hq := flat_of_before _ hr
  have hc : (Cond.count 1).before args s = true := hs _ (by decide +kernel)
  have harr : (Cond.arrayOf (.arg 0) .int).before args s = true := hs _ (by decide +kernel)
  have hle : (Cond.le (.length (.arg 0)) (.int 3072)).before args s = true := hs _ (by decide +kernel)
  have hlen : (Cond.isInt (.length (.arg 0))).before args s = true := hq _ (by decide +kernel)
  have hall : (Cond.all (.arg 0) (.isInt (.elem (.arg 0) (.index 0)))).before args s = true := hq _ (by decide +kernel)
  obtain ⟨b, xs, hb, hx⟩ := State.ints_of_pre rfl harr hlen hall
  have hsm : xs.length < 2 ^ 31 := hx.choose_spec.2.2.2
  have hev : (Term.length (.arg 0)).eval args s none [] s = some (.int xs.length.toInt32) := hx.length_eval hb
  have hv := Cond.le_ints hev (show (Term.int 3072).eval args s none [] s = some (.int 3072) from rfl)
  have hd : xs.length.toInt32 ≤ 3072 := by
    simpa [Cond.before, Cond.holds, hv] using hle
  have hN : xs.length ≤ 3072 := (Int32.ofNat_le_ofNat hsm (by decide)).mp (show Int32.ofNat xs.length ≤ Int32.ofNat 3072 from hd)
  exact ⟨b, xs, Cond.one_arg hc (show args[0]? = some (.ref b) from hb), hx, hN, h⟩
theorem lw_comes (l : Launch) (hflags : l.flags = flags0) : Comes l x (Jvm.Cond.code x code maxLocals ret :: tables_1) room_1 (fun tb e args s => Calls_1 tb e args s ∧ rest_1 tb e args s ∧ Pre_1 tb e args s)
    (fun _ _ args s o t => lw_Q args s o t) := by
  intro p e ha hc hk s m args below hf hfit hheap happ hpre
  obtain ⟨b, xs, hP⟩ := lw_pre_spec hpre.2.2 hpre.2.1
  obtain ⟨k, o, h1, h2, h3, hQ⟩ := lw_walk l hflags b xs p e ha hc hk s m args below hf ((Spec.applies_iff_loose hf).mp happ).1 hP trivial
  exact ⟨k, o, h1, h2, h3, hQ⟩
theorem lw_frame {s t : State} {o : Outcome} {args : Array Value} (h : Framed s o t [] 601024 7293034) :
    Framed s o t (fieldLocs frame_1_writes args s ++ arrayLocs frame_1_arrays args s ++ staticLocs frame_1_statics s) 601024 7293034 := h
theorem lw_limb (L : Cond) (hL : ∀ (args : Array Value) (s t : State), L.after args s (.returned (some (.int 1))) t = true) :
    ArmFor flags0 classFile x code maxLocals ret World_1 tables_1 room_1 Calls_1 rest_1 Pre_1
      (fun tb e a s o t => postC L tb e a s o t ∧ Framed s o t (fieldLocs frame_1_writes a s ++ arrayLocs frame_1_arrays a s ++ staticLocs frame_1_statics s) 601024 7293034) := by
  intro l hflags _ _ p e ha hc hk s m args below hf hfit hheap happ hpre
  obtain ⟨k, o, h1, h2, h3, rfl, hF⟩ := lw_comes l hflags p e ha hc hk s m args below hf hfit hheap happ hpre
  exact ⟨k, _, h1, h2, h3, hL args s _, lw_frame hF⟩
theorem i_vc : Claimed_1_1 ∧ Claimed_1_2 := ⟨lw_limb limb_1_1 (fun args s t => by simp [limb_1_1, Cond.after, Cond.holds, Cond.value]), lw_limb limb_1_2 (fun args s t => Cond.after_iff.mpr (by
  first | (rw [show limb_1_2 = Cond.eq .result (.int 1) from rfl, Cond.eq_ints (x := 1) (y := 1) rfl rfl]; simp; done) | (simp [limb_1_2, Cond.value, Term.eval]; done)))⟩
