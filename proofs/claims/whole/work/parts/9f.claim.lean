-- all holds at the start
theorem inv_s0 : Inv s0 := by
  obtain ⟨a1, a2, a3, a4, a5, a6, a7, a8⟩ := v0_a
  obtain ⟨c1, c2, c3, c4, c5, c6, c7, c8, c9, c10, c11, c12⟩ := v0_c
  obtain ⟨d1, d2, d3, d4, d5, d6, d7, d8, d9, d10, d11, d12, d13, d14, d15⟩ := v0_d
  have ic : IC s0 := by
    refine ⟨fun n h1 h2 => ?_, fun q hq k hk => ?_⟩
    · have := v0_h (n - 1) (by omega)
      rw [show n - 1 + 1 = n by omega] at this
      exact this
    · have h1 := List.all_eq_true.1 v0_w q hq
      have h2 := of_decide_eq_true (List.all_eq_true.1 h1 k (List.mem_range.2 hk))
      rw [getD_at hk] at h2
      exact h2
  have it : IT s0 := ⟨0, Nat.zero_le _, a1, a2, fun k hk => ⟨0, by decide, of_decide_eq_true (List.all_eq_true.1 v0_t k (List.mem_range.2 hk)), of_decide_eq_true (List.all_eq_true.1 v0_u k (List.mem_range.2 hk))⟩⟩
  have oc : OCc s0 0 0 0 (fun _ => []) [13] := ⟨by decide, by decide, by decide, c5, c6, c7, fun q => absurd q (Nat.lt_irrefl _), fun p hp => absurd hp (Nat.not_lt_zero _)⟩
  have or : OCr s0 0 0 0 (fun _ => []) [13] := ⟨by decide, by decide, by decide, c8, c9, c10, ⟨by decide, rfl, Or.inl ⟨c11, rfl⟩⟩, fun p hp => absurd hp (Nat.not_lt_zero _)⟩
  have io : IO s0 0 4 0 0 0 (fun _ => []) [13] [40] := ⟨Or.inr ⟨rfl, rfl, rfl, c1⟩, by decide, by decide, by decide, c2, c3, c4, oc, or, fun q => absurd q (Nat.lt_irrefl _), Or.inl ⟨c12, rfl⟩, fun p hp => absurd hp (Nat.not_lt_zero _)⟩
  have k0 : ∀ t, rI s0 t 6 = nI 0 → rI s0 t 5 = nI 0 → KpC s0 t κ_0 := fun t h1 h2 => ⟨h1, Nat.zero_le _, 0, by decide, h2, fun k hk => absurd hk (Nat.not_lt_zero _)⟩
  have ins : IN s0 0 0 (fun _ => 0) κ_0 := ⟨⟨d1, d2, fun n _ h => v0_e n h, fun p hp => (v0_f p hp).1, fun p hp => (v0_f p hp).2⟩, fun k hk => v0_g k (by omega), ⟨fun _ => Nat.zero_le _, fun _ _ _ => rfl, fun _ _ _ => ⟨rfl, rfl⟩⟩, k0 38 d3 d4, ⟨v0_g 37 (by decide), Nat.zero_le _, fun k hk => absurd hk (Nat.not_lt_zero _)⟩, d7, κ_0, k0 148 d5 d6⟩
  exact ⟨0, 4, 0, 0, 0, fun _ => [], [13], [40], fun _ => 0, κ_0, ⟨ic, it, v0_b, ⟨a3, a4⟩, ⟨0, Nat.zero_le _, a5, a6, fun k hk => absurd hk (Nat.not_lt_zero _)⟩, ⟨1, by decide, a7, a8⟩⟩, io, ins, ⟨0, 0, 0, by decide, by decide, by decide, d8, d9, d10, d11, fun k hk => absurd hk (Nat.not_lt_zero _)⟩, ⟨0, by decide, d12, d13, fun r hr => absurd hr (Nat.not_lt_zero _)⟩, Or.inl ⟨by rw [d14]; decide, d15⟩⟩
theorem law_s0 (L : Nat) (xs : Nat → Int32) (hL : L ≤ 3072) : claw_18 L xs (0 : Int32) s0 := law_all hL L 0 s0 (by omega) (by omega) inv_s0
/-- YOUR PART: from the entry, for every script of at most 3072 ints, the law comes to its end with true ('hflags': the launch's flags, for a law that throws: no stack traces) -/
theorem whole_start {p : Program} {e : Env} {s : State} {m : MethodId} {below : List Frame} {meth : Method} {c : Code} (l : Launch) (hflags : l.flags = flags0) {b L : Nat} {xs : Nat → Int32} (hL : L ≤ 3072) (C0 : lw_At p s m meth c b L xs) : W p l e room_1 s m #[Value.ref b] below meth c s.heap [] 0 0 (lw_Z below #[Value.ref b] s) (entryFrame m ([Value.ref b] : List Value).toArray 4) := by
  exact whole_open law_s0 l hL C0
set_option maxHeartbeats 4000000 in
theorem lw_walk (l : Launch) (hflags : l.flags = flags0) (b : Addr) (xs : List Int32) : MetFree l x (headSpec (Jvm.Cond.code x code maxLocals ret :: tables_1) room_1) (lw_P b xs) (fun _ _ _ _ _ => True) lw_Q := by
  refine MetFree.of_bodyS (code := code) (maxLocals := maxLocals) (ret := ret) (by decide) ?_ ?_
  · intro args s m h hn
    obtain ⟨meth, c, h1, h2, h3, h4, h5, h6, -, -⟩ := Cond.code_spec hn (atoms_spec (ws := Jvm.Cond.code x code maxLocals ret :: tables_1) h _ List.mem_cons_self)
    exact ⟨meth, c, h1, h2, h3, h4, h5, h6⟩
  · intro p e s m args below meth c s₁ B hml0 hP _
    obtain ⟨rfl, hx, hbd, hgv⟩ := hP
    obtain ⟨scr, harrAt, hlist, hof, hsmall⟩ := hx
    obtain ⟨hcb, hkn, -, -⟩ := State.arrayAt?_spec harrAt
    have hown : s.vm.findClass R_law = some m.cls := findClass_of_methodNamed B.named
    have hts0 : ∀ c ∈ (Jvm.Cond.code x code maxLocals ret :: tables_1), c.before #[Value.ref b] s = true := atoms_spec (ws := Jvm.Cond.code x code maxLocals ret :: tables_1) B.pre
    have hts : ∀ w ∈ lw_tbl, w.before #[Value.ref b] s = true := k2_hts_sels lw_privs (fun w hw => hts0 w (List.mem_cons_of_mem _ hw)) lw_privs_ok
    have hml : c.maxLocals = 4 := B.maxLocals_eq (hts0 _ List.mem_cons_self)
    have X₀ : Stand p l e room_1 s m #[Value.ref b] below meth c s₁ [] 0 0 := Stand.of_body B
    have hh0 : s₁.heap = s.heap := by rw [B.state]; rfl
    have hsz : scr.slots.size = xs.length := by rw [← Array.length_toList, hlist, List.length_map]
    have hval : ∀ j : Nat, j < xs.length → scr.slots[j]? = some (.int (xs.getD j 0)) := fun j hj => by
      rw [← Array.getElem?_toList, hlist]
      simp [hj]
    have hbl : b < s.heap.size := (Array.getElem?_eq_some_iff.mp hcb).1
    have hX : va_X b xs.length (fun j => xs.getD j 0) s s.heap := ⟨scr, hcb, hof, hkn, hsz, hval⟩
    have K : W p l e room_1 s m #[Value.ref b] below meth c s₁.heap [] 0 0 (lw_Z below #[Value.ref b] s) (entryFrame m ([Value.ref b] : List Value).toArray 4) := by
      rw [hh0]
      exact whole_start l hflags hbd ⟨B.exec, B.bytes, B.returns, hml, hown, hts, hX, hbl, B.notSynchronized, hgv⟩
    obtain ⟨t, a1, o, b1, b2, b3⟩ := K s₁ rfl X₀
    exact ⟨t, o, a1, b1, b2, b3⟩
theorem lw_pre_spec {args : Array Value} {s : State} (h : (Jvm.Cond.and given_1 narrow_1).before args s = true) (hr : rest_1_c.before args s = true) : ∃ (b : Addr) (xs : List Int32), lw_P b xs args s := by
  have hs := flat_of_before _ h
  have hq := flat_of_before _ hr
  have hc : (Cond.count 1).before args s = true := hs _ (by decide +kernel)
  have harr : (Cond.arrayOf (.arg 0) .int).before args s = true := hs _ (by decide +kernel)
  have hle : (Cond.le (.length (.arg 0)) (.int 3072)).before args s = true := hs _ (by decide +kernel)
  have hlen : (Cond.isInt (.length (.arg 0))).before args s = true := hq _ (by decide +kernel)
  have hall : (Cond.all (.arg 0) (.isInt (.elem (.arg 0) (.index 0)))).before args s = true := hq _ (by decide +kernel)
  obtain ⟨b, xs, hb, hx⟩ := State.ints_of_pre rfl harr hlen hall
  have hsm : xs.length < 2 ^ 31 := hx.choose_spec.2.2.2
  have hev : (Term.length (.arg 0)).eval args s none [] s = some (.int xs.length.toInt32) := hx.length_eval hb
  have hv := Cond.le_ints hev (show (Term.int 3072).eval args s none [] s = some (.int 3072) from rfl)
  have hd : xs.length.toInt32 ≤ 3072 := by
    simpa [Cond.before, Cond.holds, hv] using hle
  have hN : xs.length ≤ 3072 := (Int32.ofNat_le_ofNat hsm (by decide)).mp (show Int32.ofNat xs.length ≤ Int32.ofNat 3072 from hd)
  exact ⟨b, xs, Cond.one_arg hc (show args[0]? = some (.ref b) from hb), hx, hN, h⟩
theorem lw_comes (l : Launch) (hflags : l.flags = flags0) : Comes l x (Jvm.Cond.code x code maxLocals ret :: tables_1) room_1 (fun tb e args s => Calls_1 tb e args s ∧ rest_1 tb e args s ∧ Pre_1 tb e args s)
    (fun _ _ args s o t => lw_Q args s o t) := by
  intro p e ha hc hk s m args below hf hfit hheap happ hpre
  obtain ⟨b, xs, hP⟩ := lw_pre_spec hpre.2.2 hpre.2.1
  obtain ⟨k, o, h1, h2, h3, hQ⟩ := lw_walk l hflags b xs p e ha hc hk s m args below hf ((Spec.applies_iff_loose hf).mp happ).1 hP trivial
  exact ⟨k, o, h1, h2, h3, hQ⟩
theorem lw_frame {s t : State} {o : Outcome} {args : Array Value} (h : Framed s o t [] 600000 7302250) :
    Framed s o t (fieldLocs frame_1_writes args s ++ arrayLocs frame_1_arrays args s ++ staticLocs frame_1_statics s) 600000 7302250 := h
theorem lw_limb (L : Cond) (hL : ∀ (args : Array Value) (s t : State), L.after args s (.returned (some (.int 1))) t = true) :
    ArmFor flags0 classFile x code maxLocals ret World_1 tables_1 room_1 Calls_1 rest_1 Pre_1
      (fun tb e a s o t => postC L tb e a s o t ∧ Framed s o t (fieldLocs frame_1_writes a s ++ arrayLocs frame_1_arrays a s ++ staticLocs frame_1_statics s) 600000 7302250) := by
  intro l hflags _ _ p e ha hc hk s m args below hf hfit hheap happ hpre
  obtain ⟨k, o, h1, h2, h3, rfl, hF⟩ := lw_comes l hflags p e ha hc hk s m args below hf hfit hheap happ hpre
  exact ⟨k, _, h1, h2, h3, hL args s _, lw_frame hF⟩
theorem i_vc : Claimed_1_1 ∧ Claimed_1_2 := ⟨lw_limb limb_1_1 (fun args s t => by simp [limb_1_1, Cond.after, Cond.holds, Cond.value]), lw_limb limb_1_2 (fun args s t => Cond.after_iff.mpr (by
  first | (rw [show limb_1_2 = Cond.eq .result (.int 1) from rfl, Cond.eq_ints (x := 1) (y := 1) rfl rfl]; simp; done) | (simp [limb_1_2, Cond.value, Term.eval]; done)))⟩
