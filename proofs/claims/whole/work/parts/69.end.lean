/-! THE END: the memory at the start, all calls, the claim. -/
theorem z_int {k j : Nat} (h : j < 100) : z_56.1 k j = if k = 7 ∧ j = 10 then 3 else 0 := by
  have e1 : z_48.1 k j = 0 := by
    simp only [z_48, z_47, z_46, z_45, z_44, z_43, z_42, z_41, z_40, z_39, z_38, z_37, z_36, z_35, z_34, z_33, z_32, z_31, z_30, z_29, z_28, z_27, z_26, z_25, z_24, z_23, z_22, z_21, z_20, z_19, z_18, z_17, z_16, z_15, z_14, z_13, z_12, z_11, z_10, z_9, z_8, z_7, z_6, z_5, z_4, z_3, z_2, z_1, z_0]
    repeat rw [upI_pl (by omega)]
  have e2 : z_56.1 k j = z_49.1 k j := by
    simp only [z_56, z_55, z_54, z_53, z_52, z_51, z_50]
    repeat rw [upI_pl (by omega)]
  rw [e2]
  show upI z_48.1 7 10 3 k j = _
  unfold upI
  rw [e1]
theorem z_i0 {k j : Nat} (h : j < 100) (hn : ¬ (k = 7 ∧ j = 10)) : z_56.1 k j = 0 := by rw [z_int h, if_neg hn]
theorem z_lng : z_56.2 = upJ (upJ (upJ (upJ (upJ (fun _ _ => 0) 52 0 1) 52 1 1) 52 2 1) 52 3 1) 53 4 1 := rfl
theorem z_l0 {k j : Nat} (h1 : k ≠ 52) (h2 : k ≠ 53) : z_56.2 k j = 0 := by
  rw [z_lng, upJ_ne h2, upJ_ne h1, upJ_ne h1, upJ_ne h1, upJ_ne h1]
theorem z_b0 {j : Nat} (h : j < 256) : z_56.1 13 j = 0 := by
  simp only [z_56, z_55, z_54, z_53, z_52, z_51, z_50, z_49, z_48, z_47, z_46, z_45, z_44, z_43, z_42, z_41, z_40, z_39, z_38, z_37, z_36, z_35, z_34, z_33, z_32, z_31, z_30, z_29, z_28, z_27, z_26, z_25, z_24, z_23, z_22, z_21, z_20, z_19, z_18, z_17, z_16, z_15, z_14, z_13, z_12, z_11, z_10, z_9, z_8, z_7, z_6, z_5, z_4, z_3, z_2, z_1, z_0]
  repeat rw [upI_ne (by omega)]
theorem inv_z : Inv z_56 := by
  refine ⟨⟨0, by omega, z_i0 (by omega) (by omega), z_i0 (by omega) (by omega), fun i hi => ?_, fun i hi => ?_, fun i hi w hw => ?_, fun w hw => ?_, fun i hi => ?_, ?_, fun i hi => ?_, ?_⟩, ⟨0, by omega, z_i0 (by omega) (by omega), fun r hr => ?_, fun r hr ht => ?_⟩, ⟨⟨0, by omega, z_i0 (by omega) (by omega), fun i hi => absurd hi (by omega), fun k hk => Or.inl ?_⟩, fun j hj => z_l0 (by omega) (by omega), z_l0 (by omega) (by omega), fun r hr => ⟨0, 0, by omega, by omega, z_i0 (by omega) (by omega), z_i0 (by omega) (by omega)⟩⟩, Or.inl ⟨?_, z_i0 (by omega) (by omega), z_i0 (by omega) (by omega), z_i0 (by omega) (by omega)⟩⟩
  · rw [z_i0 (by omega) (by omega), z_i0 (by omega) (by omega)]; exact ⟨rfl, by decide, by decide, fun _ => rfl⟩
  · rw [z_l0 (by omega) (by omega), z_i0 (by omega) (by omega)]; exact ⟨by decide, by decide, by decide, fun _ => rfl⟩
  · rw [z_l0 (by omega) (by omega), z_i0 (by omega) (by omega)]; exact ⟨by decide, by decide, by decide, fun _ => rfl⟩
  · exact z_l0 (by omega) (by omega)
  · rw [z_lng, upJ_ne (by omega)]
    rcases (by omega : i = 0 ∨ i = 1 ∨ i = 2 ∨ i = 3) with rfl | rfl | rfl | rfl
    · rw [upJ_pl (by omega), upJ_pl (by omega), upJ_pl (by omega), upJ_at]
    · rw [upJ_pl (by omega), upJ_pl (by omega), upJ_at]
    · rw [upJ_pl (by omega), upJ_at]
    · rw [upJ_at]
  · rw [z_lng, upJ_ne (by omega), upJ_pl (by omega), upJ_pl (by omega), upJ_pl (by omega), upJ_pl (by omega)]
  · rw [z_lng, upJ_pl (by omega), upJ_ne (by omega), upJ_ne (by omega), upJ_ne (by omega), upJ_ne (by omega)]
  · rw [z_lng, upJ_at]
  · rw [z_i0 (by omega) (by omega), Nat.zero_testBit]; rfl
  · rw [Nat.zero_testBit] at ht; exact absurd ht (by decide)
  · exact z_b0 hk
  · rw [z_int (by omega), if_pos ⟨rfl, rfl⟩]
theorem ops_ok : ∃ N, OpsOK N Inv := ⟨10300, h_lot _, h_amount _, h_span _, h_ratio _, h_loads _, h_untell _, h_run (by omega), h_best _, h_cost _, h_cut _, h_clashes (by omega), h_clash _, h_broken (by omega)⟩
/-- YOUR PART: from the entry, for every script of at most 3584 ints, the law comes to its end with true -/
theorem whole_start {p : Program} {e : Env} {s : State} {m : MethodId} {below : List Frame} {meth : Method} {c : Code} (l : Launch) {b L : Nat} {xs : Nat → Int32} (hL : L ≤ 3584) (C0 : lw_At p s m meth c b L xs) : W p l e room_1 s m #[Value.ref b] below meth c s.heap [] 0 0 (lw_Z below #[Value.ref b] s) (entryFrame m ([Value.ref b] : List Value).toArray 4) := by
  obtain ⟨N, ho⟩ := ops_ok
  exact start_open l hL C0 ho inv_z
set_option maxHeartbeats 4000000 in
theorem lw_walk (l : Launch) (b : Addr) (xs : List Int32) : MetFree l x (headSpec (Jvm.Cond.code x code maxLocals ret :: tables_1) room_1) (lw_P b xs) (fun _ _ _ _ _ => True) lw_Q := by
  refine MetFree.of_bodyS (code := code) (maxLocals := maxLocals) (ret := ret) (by decide) ?_ ?_
  · intro args s m h hn
    obtain ⟨meth, c, h1, h2, h3, h4, h5, h6, -, -⟩ := Cond.code_spec hn (atoms_spec (ws := Jvm.Cond.code x code maxLocals ret :: tables_1) h _ List.mem_cons_self)
    exact ⟨meth, c, h1, h2, h3, h4, h5, h6⟩
  · intro p e s m args below meth c s₁ B hml0 hP _
    obtain ⟨rfl, hx, hbd, hgv⟩ := hP
    obtain ⟨scr, harrAt, hlist, hof, hsmall⟩ := hx
    obtain ⟨hcb, hkn, -, -⟩ := State.arrayAt?_spec harrAt
    have hown : s.vm.findClass R_law = some m.cls := findClass_of_methodNamed B.named
    have hts0 : ∀ c ∈ (Jvm.Cond.code x code maxLocals ret :: tables_1), c.before #[Value.ref b] s = true := atoms_spec (ws := Jvm.Cond.code x code maxLocals ret :: tables_1) B.pre
    have hts : ∀ w ∈ lw_tbl, w.before #[Value.ref b] s = true := k2_hts_sels lw_privs (fun w hw => hts0 w (List.mem_cons_of_mem _ hw)) lw_privs_ok
    have hml : c.maxLocals = 4 := B.maxLocals_eq (hts0 _ List.mem_cons_self)
    have X₀ : Stand p l e room_1 s m #[Value.ref b] below meth c s₁ [] 0 0 := Stand.of_body B
    have hh0 : s₁.heap = s.heap := by rw [B.state]; rfl
    have hsz : scr.slots.size = xs.length := by rw [← Array.length_toList, hlist, List.length_map]
    have hval : ∀ j : Nat, j < xs.length → scr.slots[j]? = some (.int (xs.getD j 0)) := fun j hj => by
      rw [← Array.getElem?_toList, hlist]
      simp [hj]
    have hbl : b < s.heap.size := (Array.getElem?_eq_some_iff.mp hcb).1
    have hX : va_X b xs.length (fun j => xs.getD j 0) s s.heap := ⟨scr, hcb, hof, hkn, hsz, hval⟩
    have K : W p l e room_1 s m #[Value.ref b] below meth c s₁.heap [] 0 0 (lw_Z below #[Value.ref b] s) (entryFrame m ([Value.ref b] : List Value).toArray 4) := by
      rw [hh0]
      exact whole_start l hbd ⟨B.exec, B.bytes, B.returns, hml, hown, hts, hX, hbl, B.notSynchronized, hgv⟩
    obtain ⟨t, a1, o, b1, b2, b3⟩ := K s₁ rfl X₀
    exact ⟨t, o, a1, b1, b2, b3⟩
theorem lw_pre_spec {args : Array Value} {s : State} (h : (Jvm.Cond.and given_1 narrow_1).before args s = true) (hr : rest_1_c.before args s = true) : ∃ (b : Addr) (xs : List Int32), lw_P b xs args s := by
  have hs := flat_of_before _ h
  have hq := flat_of_before _ hr
  have hc : (Cond.count 1).before args s = true := hs _ (by decide +kernel)
  have harr : (Cond.arrayOf (.arg 0) .int).before args s = true := hs _ (by decide +kernel)
  have hle : (Cond.le (.length (.arg 0)) (.int 3584)).before args s = true := hs _ (by decide +kernel)
  have hlen : (Cond.isInt (.length (.arg 0))).before args s = true := hq _ (by decide +kernel)
  have hall : (Cond.all (.arg 0) (.isInt (.elem (.arg 0) (.index 0)))).before args s = true := hq _ (by decide +kernel)
  obtain ⟨b, xs, hb, hx⟩ := State.ints_of_pre rfl harr hlen hall
  have hsm : xs.length < 2 ^ 31 := hx.choose_spec.2.2.2
  have hev : (Term.length (.arg 0)).eval args s none [] s = some (.int xs.length.toInt32) := hx.length_eval hb
  have hv := Cond.le_ints hev (show (Term.int 3584).eval args s none [] s = some (.int 3584) from rfl)
  have hd : xs.length.toInt32 ≤ 3584 := by
    simpa [Cond.before, Cond.holds, hv] using hle
  have hN : xs.length ≤ 3584 := (Int32.ofNat_le_ofNat hsm (by decide)).mp (show Int32.ofNat xs.length ≤ Int32.ofNat 3584 from hd)
  exact ⟨b, xs, Cond.one_arg hc (show args[0]? = some (.ref b) from hb), hx, hN, h⟩
theorem lw_comes (l : Launch) : Comes l x (Jvm.Cond.code x code maxLocals ret :: tables_1) room_1 (fun tb e args s => Calls_1 tb e args s ∧ rest_1 tb e args s ∧ Pre_1 tb e args s)
    (fun _ _ args s o t => lw_Q args s o t) := by
  intro p e ha hc hk s m args below hf hfit hheap happ hpre
  obtain ⟨b, xs, hP⟩ := lw_pre_spec hpre.2.2 hpre.2.1
  obtain ⟨k, o, h1, h2, h3, hQ⟩ := lw_walk l b xs p e ha hc hk s m args below hf ((Spec.applies_iff_loose hf).mp happ).1 hP trivial
  exact ⟨k, o, h1, h2, h3, hQ⟩
theorem lw_frame {s t : State} {o : Outcome} {args : Array Value} (h : Framed s o t [] 600000 7302250) :
    Framed s o t (fieldLocs frame_1_writes args s ++ arrayLocs frame_1_arrays args s ++ staticLocs frame_1_statics s) 600000 7302250 := h
theorem lw_limb (L : Cond) (hL : ∀ (args : Array Value) (s t : State), L.after args s (.returned (some (.int 1))) t = true) :
    ArmFor flags0 classFile x code maxLocals ret World_1 tables_1 room_1 Calls_1 rest_1 Pre_1
      (fun tb e a s o t => postC L tb e a s o t ∧ Framed s o t (fieldLocs frame_1_writes a s ++ arrayLocs frame_1_arrays a s ++ staticLocs frame_1_statics s) 600000 7302250) := by
  intro l _ _ _ p e ha hc hk s m args below hf hfit hheap happ hpre
  obtain ⟨k, o, h1, h2, h3, rfl, hF⟩ := lw_comes l p e ha hc hk s m args below hf hfit hheap happ hpre
  exact ⟨k, _, h1, h2, h3, hL args s _, lw_frame hF⟩
theorem i_vc : Claimed_1_1 ∧ Claimed_1_2 := ⟨lw_limb limb_1_1 (fun args s t => by simp [limb_1_1, Cond.after, Cond.holds, Cond.value]), lw_limb limb_1_2 (fun args s t => Cond.after_iff.mpr (by
  first | (rw [show limb_1_2 = Cond.eq .result (.int 1) from rfl, Cond.eq_ints (x := 1) (y := 1) rfl rfl]; simp; done) | (simp [limb_1_2, Cond.value, Term.eval]; done)))⟩
