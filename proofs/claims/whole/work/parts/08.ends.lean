theorem cat_sum (ad : Nat → Nat) : ∀ st : List Value, ((st.map (cv ad)).map fun v => v.category).sum ≤ 2 * st.length
  | [] => Nat.le_refl _
  | v :: r => by
    have ih := cat_sum ad r
    have h : (cv ad v).category ≤ 2 := by cases v <;> simp [cv, Value.category]
    simp only [List.map_cons, List.sum_cons, List.length_cons]
    omega
theorem opt_app (ad : Nat → Nat) (r : Option Value) (rest : List Value) : (r.map (cv ad)).toList ++ rest.map (cv ad) = (r.toList ++ rest).map (cv ad) := by cases r <;> rfl
/-- the tables' words for a call -/
def mCw (own : String) (index : Nat) (y : MethodName) (cc : ByteArray) (nL : Nat) (ret : Option FieldType) (n : Nat) : Prop :=
  Cond.methodLink own index y ∈ mU ∧ Cond.initialized y.cls ∈ mU ∧ Cond.code y cc nL ret ∈ mU ∧ (y.cls ≠ "java/lang/invoke/MethodHandle" ∧ y.cls ≠ "java/lang/invoke/VarHandle" ∧ (parseMethodDescriptor y.desc).map (fun d => d.parameters.length) = some n) ∧ nL ≤ 81
abbrev o_callV (ci n : Nat) (F : mF) (K : mK) : mK := fun ls st S => match st.drop n with
  | .ref b :: rest => gd (Nat.beq (sH S b).1 ci && (Nat.ble rest.length 4 && Nat.beq (st.take n).length n)) (F (.ref b :: (st.take n).reverse) S (fun r S1 => K ls (r.toList ++ rest) S1))
  | _ => False
theorem m_callV {κ : mX} {cc : ByteArray} {own : String} {dep : Nat} (C : mOk κ cc own dep) {pc : Nat} {K : mK} {F : mF} {ci n index dep1 nL : Nat} {y : MethodName} {cy : ByteArray} {ret : Option FieldType} {T : u_T} (d : decode cc pc = .ok (.invokevirtual index, 3)) (hM : mMet y cy nL ret dep1 0 0 F) (hd : dep1 < dep) (hc : mCls ci y.cls T) (cw : mCw own index y cy nL ret n) (hi : Cond.instanceMethod y ∈ mU) (hs : Cond.selects y.cls y y ∈ mU) (h : mAt κ (pc + 3) K) : mAt κ pc (o_callV ci n F K) := by
  obtain ⟨⟨p, l, e, R, s⟩, ⟨m, args, below, meth, c⟩, ⟨D, dA, sz, ext, adV⟩, ⟨n0, w0, mc, ms⟩, Q⟩ := κ
  intro ls st S hK H locs M hR hS hL hM2 hn
  obtain ⟨hx, hb, hown, hts, hKn, hsz, hroom, hrc, hE⟩ := id C
  unfold o_callV at hK
  split at hK
  · rename_i b rest hst
    obtain ⟨hg, hF⟩ := gd_of hK
    rw [Bool.and_eq_true, Bool.and_eq_true] at hg
    have g1 := beq_of hg.1
    have g2 := Nat.le_of_ble_eq_true hg.2.1
    have g3 := beq_of hg.2.2
    obtain ⟨hl, had⟩ := sH_lt hR g1 (by have := hc.2.2.2.2; omega)
    have he := mWs_at (ad := mAd sz ext) (dA := dA) (sz := sz) hl
    rw [cell_o g1 hc.2.2.2.2] at he
    have hstk : st.map (cv (mAd sz ext)) = (((st.take n).reverse).map (cv (mAd sz ext))).reverse ++ .ref (sz + b) :: rest.map (cv (mAd sz ext)) := by
      rw [← had]
      conv => lhs; rw [← List.take_append_drop n st, hst]
      rw [List.map_append, List.map_reverse, List.reverse_reverse]
      rfl
    refine wa_call (va_runV (y := y) (bytes := cy) (maxL := nL) (ret := ret) (n := n) (C := y.cls) (As := ((st.take n).reverse).map (cv (mAd sz ext))) (rest := rest.map (cv (mAd sz ext))) ⟨hx, hb, hM2, hown, hts⟩ (hM l D dA sz ext adV _ S _ hF) ⟨callB_of n hts (goodIn_U cw.2.2.1) rfl rfl rfl (hts _ cw.2.1) (hts _ cw.1) cw.2.2.2.1 ⟨Nat.le_trans hd hroom.1, ?_⟩, hts _ hi, hts _ hs⟩ ⟨mPc_blind D dA sz ext adV _ S, va_recv hKn hR.1 hc.1 he, fun U hU hW => ⟨?_, by rw [hU]; exact hR, va_K.moved hW.alike hKn, ?_, hE.go hW (fun a h1 h2 => by rw [hU]; exact hS.2.1 a h1 h2)⟩⟩ rfl ?_ rfl hstk ?_ d ⟨?_, ?_⟩) hS (fun r S1 H1 locs1 hq hR1 hn1 hw1 hS1 => ?_)
    · show 8 + (nL + 11) + 100 * dep1 ≤ R.locals
      have := cw.2.2.2.2
      have := hroom.2
      omega
    · rw [List.map_cons]
      show _ = (Value.ref (mAd sz ext b) :: _).toArray
      rw [had]
    · rw [hU, hR.2.2.1]; omega
    · rw [List.length_map, List.length_reverse]; exact g3
    · show 2 * 0 + _ ≤ 8
      have := cat_sum (mAd sz ext) rest
      omega
    · rw [hrc.1]; omega
    · rw [hrc.2]; omega
    · have h3 := h _ _ _ hq H1 locs1 M hR1 hS1 hL hM2 (by rw [hn1, hw1]; exact hn)
      rw [hn1, hw1] at h3
      rw [opt_app]
      exact h3
  · exact hK.elim
abbrev o_callS (n : Nat) (F : mF) (K : mK) : mK := fun ls st S => gd (Nat.ble (st.drop n).length 4 && Nat.beq (st.take n).length n) (F ((st.take n).reverse) S (fun r S1 => K ls (r.toList ++ st.drop n) S1))
theorem m_callS {κ : mX} {cc : ByteArray} {own : String} {dep : Nat} (C : mOk κ cc own dep) {pc : Nat} {K : mK} {F : mF} {n index dep1 nL : Nat} {y : MethodName} {cy : ByteArray} {ret : Option FieldType} (d : decode cc pc = .ok (.invokestatic index, 3)) (hM : mMet y cy nL ret dep1 0 0 F) (hd : dep1 < dep) (cw : mCw own index y cy nL ret n) (hi : Cond.static y ∈ mU) (h : mAt κ (pc + 3) K) : mAt κ pc (o_callS n F K) := by
  obtain ⟨⟨p, l, e, R, s⟩, ⟨m, args, below, meth, c⟩, ⟨D, dA, sz, ext, adV⟩, ⟨n0, w0, mc, ms⟩, Q⟩ := κ
  intro ls st S hK H locs M hR hS hL hM2 hn
  obtain ⟨hx, hb, hown, hts, hKn, hsz, hroom, hrc, hE⟩ := id C
  unfold o_callS at hK
  obtain ⟨hg, hF⟩ := gd_of hK
  rw [Bool.and_eq_true] at hg
  have g2 := Nat.le_of_ble_eq_true hg.1
  have g3 := beq_of hg.2
  have hstk : st.map (cv (mAd sz ext)) = (((st.take n).reverse).map (cv (mAd sz ext))).reverse ++ (st.drop n).map (cv (mAd sz ext)) := by
    conv => lhs; rw [← List.take_append_drop n st]
    rw [List.map_append, List.map_reverse, List.reverse_reverse]
  refine wa_call (va_runS (y := y) (bytes := cy) (maxL := nL) (ret := ret) (n := n) (As := ((st.take n).reverse).map (cv (mAd sz ext))) (rest := (st.drop n).map (cv (mAd sz ext))) ⟨hx, hb, hM2, hown, hts⟩ (hM l D dA sz ext adV _ S _ hF) ⟨callB_of n hts (goodIn_U cw.2.2.1) rfl rfl rfl (hts _ cw.2.1) (hts _ cw.1) cw.2.2.2.1 ⟨Nat.le_trans hd hroom.1, ?_⟩, hts _ hi⟩ ⟨mPc_blind D dA sz ext adV _ S, fun U hU hW => ⟨rfl, by rw [hU]; exact hR, va_K.moved hW.alike hKn, ?_, hE.go hW (fun a h1 h2 => by rw [hU]; exact hS.2.1 a h1 h2)⟩⟩ rfl ?_ rfl hstk ?_ d ⟨?_, ?_⟩) hS (fun r S1 H1 locs1 hq hR1 hn1 hw1 hS1 => ?_)
  · show 8 + (nL + 11) + 100 * dep1 ≤ R.locals
    have := cw.2.2.2.2
    have := hroom.2
    omega
  · rw [hU, hR.2.2.1]; omega
  · rw [List.length_map, List.length_reverse]; exact g3
  · show 2 * 0 + _ ≤ 8
    have := cat_sum (mAd sz ext) (st.drop n)
    omega
  · rw [hrc.1]; omega
  · rw [hrc.2]; omega
  · have h3 := h _ _ _ hq H1 locs1 M hR1 hS1 hL hM2 (by rw [hn1, hw1]; exact hn)
    rw [hn1, hw1] at h3
    rw [opt_app]
    exact h3
/-- a constructor's call: it may make cells -/
abbrev o_callI (n mc1 ms1 : Nat) (lim : Nat × Nat) (F : mF) (K : mK) : mK := fun ls st S => match st.drop n with
  | .ref b :: rest => gd (Nat.ble rest.length 4 && Nat.beq (st.take n).length n) (sN S + mc1 ≤ lim.1 ∧ sW S + ms1 ≤ lim.2 ∧ F (.ref b :: (st.take n).reverse) S (fun r S1 => K ls (r.toList ++ rest) S1))
  | _ => False
theorem m_callI {κ : mX} {cc : ByteArray} {own : String} {dep : Nat} (C : mOk κ cc own dep) {pc : Nat} {K : mK} {F : mF} {n index dep1 nL mc1 ms1 : Nat} {y : MethodName} {cy : ByteArray} (d : decode cc pc = .ok (.invokespecial index, 3)) (hM : mMet y cy nL none dep1 mc1 ms1 F) (hd : dep1 < dep) (cw : Cond.initialized y.cls ∈ mU ∧ Cond.code y cy nL none ∈ mU ∧ (y.cls ≠ "java/lang/invoke/MethodHandle" ∧ y.cls ≠ "java/lang/invoke/VarHandle" ∧ (parseMethodDescriptor y.desc).map (fun d => d.parameters.length) = some n) ∧ nL ≤ 81)
    (hl : Cond.methodLink own index y ∈ mU ∨ (own, index, y, "UnlikeLoaves") ∈ mNest) (hi : Cond.instanceMethod y ∈ mU) (hy : y.name = "<init>") (h : mAt κ (pc + 3) K) : mAt κ pc (o_callI n mc1 ms1 (mLim κ) F K) := by
  obtain ⟨⟨p, l, e, R, s⟩, ⟨m, args, below, meth, c⟩, ⟨D, dA, sz, ext, adV⟩, ⟨n0, w0, mc, ms⟩, Q⟩ := κ
  intro ls st S hK H locs M hR hS hL hM2 hn
  obtain ⟨hx, hb, hown, hts, hKn, hsz, hroom, hrc, hE⟩ := id C
  unfold o_callI at hK
  split at hK
  · rename_i b rest hst
    obtain ⟨hg, hn1, hw1, hF⟩ := gd_of hK
    replace hn1 : sN S + mc1 ≤ n0 + mc := hn1
    replace hw1 : sW S + ms1 ≤ w0 + ms := hw1
    rw [Bool.and_eq_true] at hg
    have g2 := Nat.le_of_ble_eq_true hg.1
    have g3 := beq_of hg.2
    have hstk : st.map (cv (mAd sz ext)) = (((st.take n).reverse).map (cv (mAd sz ext))).reverse ++ .ref (mAd sz ext b) :: rest.map (cv (mAd sz ext)) := by
      conv => lhs; rw [← List.take_append_drop n st, hst]
      rw [List.map_append, List.map_reverse, List.reverse_reverse]
      rfl
    have hlo : 8 + (nL + 11) + (mRoom dep1 mc1 ms1).locals ≤ R.locals := by
      show 8 + (nL + 11) + 100 * dep1 ≤ R.locals
      have := cw.2.2.2
      have := hroom.2
      omega
    have hpre : PreS s H (mPc D dA sz ext adV (.ref b :: (st.take n).reverse) S) (.ref (mAd sz ext b) :: ((st.take n).reverse).map (cv (mAd sz ext))) := ⟨mPc_blind D dA sz ext adV _ S, fun U hU hW => ⟨rfl, by rw [hU]; exact hR, va_K.moved hW.alike hKn, by rw [hU, hR.2.2.1]; omega, hE.go hW (fun a h1 h2 => by rw [hU]; exact hS.2.1 a h1 h2)⟩⟩
    have hlen : (((st.take n).reverse).map (cv (mAd sz ext))).length = n := by rw [List.length_map, List.length_reverse]; exact g3
    have hcat : 2 * (F0 m pc M (st.map (cv (mAd sz ext)))).monitorRoom + ((rest.map (cv (mAd sz ext))).map fun v => v.category).sum ≤ 8 := by
      show 2 * 0 + _ ≤ 8
      have := cat_sum (mAd sz ext) rest
      omega
    have hfit : sN S - n0 + mc1 ≤ R.cells ∧ sW S - w0 + ms1 ≤ R.slots := ⟨by rw [hrc.1]; omega, by rw [hrc.2]; omega⟩
    have fin : ∀ (r : Option Value) (S1 : mS) (H1 : Heap) (locs1 : List Loc), (fun r S1 => K ls (r.toList ++ rest) S1) r S1 → mRep D dA sz ext S1 H1 → sN S1 = sN S + mc1 → sW S1 = sW S + ms1 → va_S (fun q => sz ≤ q) s.heap H1 locs1 → W p l e R s m args below meth c H1 locs1 (sN S - n0 + mc1) (sW S - w0 + ms1) Q (F0 m (pc + 3) M ((r.map (cv (mAd sz ext))).toList ++ rest.map (cv (mAd sz ext)))) := by
      intro r S1 H1 locs1 hq hR1 e1 e2 hS1
      have h3 := h _ _ _ hq H1 locs1 M hR1 hS1 hL hM2 (by rw [e1, e2]; omega)
      rw [e1, e2, show sN S + mc1 - n0 = sN S - n0 + mc1 by omega, show sW S + ms1 - w0 = sW S - w0 + ms1 by omega] at h3
      rw [opt_app]
      exact h3
    rcases hl with hl | hl
    · exact wa_call (va_runI (y := y) (bytes := cy) (maxL := nL) (n := n) (As := ((st.take n).reverse).map (cv (mAd sz ext))) (rest := rest.map (cv (mAd sz ext))) ⟨hx, hb, hM2, hown, hts⟩ (hM l D dA sz ext adV _ S _ hF) (cwI n hts (goodIn_U cw.2.1) rfl rfl rfl (hts _ cw.1) (hts _ hl) (hts _ hi) hy cw.2.2.1 ⟨Nat.le_trans hd hroom.1, hlo⟩) hpre rfl hlen rfl hstk hcat d hfit) hS fin
    · exact wa_call (va_runIN (y := y) (bytes := cy) (maxL := nL) (n := n) (host := "UnlikeLoaves") (As := ((st.take n).reverse).map (cv (mAd sz ext))) (rest := rest.map (cv (mAd sz ext))) ⟨hx, hb, hM2, hown, hts⟩ (hM l D dA sz ext adV _ S _ hF) ⟨va_cnB n hts (goodIn_U cw.2.1) rfl rfl rfl (hE.1 _ hl) (hts _ cw.1) cw.2.2.1 ⟨Nat.le_trans hd hroom.1, hlo⟩, hy, hts _ hi⟩ hpre rfl hlen rfl hstk hcat d hfit) hS fin
  · exact hK.elim
-- ends of methods
abbrev o_iret (Q : mQ) : mK := fun _ st S => match st with
  | [.int v] => Q (some (.int v)) S
  | _ => False
abbrev o_zret (Q : mQ) : mK := fun _ st S => match st with
  | [.int v] => (v = 0 ∨ v = 1) ∧ Q (some (.int v)) S
  | _ => False
abbrev o_lret (Q : mQ) : mK := fun _ st S => match st with
  | [.long v] => Q (some (.long v)) S
  | _ => False
abbrev o_vret (Q : mQ) : mK := fun _ st S => match st with
  | [] => Q none S
  | _ => False
/-- a constructor's end: all that it was to make is made -/
abbrev o_cret (lim : Nat × Nat) (Q : mQ) : mK := fun _ st S => match st with
  | [] => sN S = lim.1 ∧ sW S = lim.2 ∧ Q none S
  | _ => False
def mNoc (κ : mX) : Prop := match κ with
  | (_, _, _, (_, _, mc, ms), _) => mc = 0 ∧ ms = 0
theorem m_iret {κ : mX} {cc : ByteArray} {own nm : String} {dep : Nat} (C : mOk κ cc own dep) {pc : Nat} {Q : mQ} (d : decode cc pc = .ok (.ireturn, 1)) (hr : mRet κ nm (some .int) Q) (h0 : mNoc κ) : mAt κ pc (o_iret Q) := by
  obtain ⟨⟨p, l, e, R, s⟩, ⟨m, args, below, meth, c⟩, ⟨D, dA, sz, ext, adV⟩, ⟨n0, w0, mc, ms⟩, Qm⟩ := κ
  intro ls st S hK H locs M hR hS hL hM hn
  obtain ⟨r1, r2, r3, rfl⟩ := hr
  obtain ⟨rfl, rfl⟩ := h0
  unfold o_iret at hK
  split at hK
  · rw [show sN S - n0 = 0 by omega, show sW S - w0 = 0 by omega]
    exact W.iret C.1 C.2.1 r1 (fun t ht hW => ⟨⟨_, S, rfl, hK, by rw [ht]; exact hR, by omega, by omega⟩, hS.F ht⟩) hS.2.2 d r2
  · exact hK.elim
theorem m_zret {κ : mX} {cc : ByteArray} {own nm : String} {dep : Nat} (C : mOk κ cc own dep) {pc : Nat} {Q : mQ} (d : decode cc pc = .ok (.ireturn, 1)) (hr : mRet κ nm (some .boolean) Q) (h0 : mNoc κ) : mAt κ pc (o_zret Q) := by
  obtain ⟨⟨p, l, e, R, s⟩, ⟨m, args, below, meth, c⟩, ⟨D, dA, sz, ext, adV⟩, ⟨n0, w0, mc, ms⟩, Qm⟩ := κ
  intro ls st S hK H locs M hR hS hL hM hn
  obtain ⟨r1, r2, r3, rfl⟩ := hr
  obtain ⟨rfl, rfl⟩ := h0
  unfold o_zret at hK
  split at hK
  · obtain ⟨hz, hK⟩ := hK
    rw [show sN S - n0 = 0 by omega, show sW S - w0 = 0 by omega]
    exact W.zret C.1 C.2.1 r1 (by rcases hz with rfl | rfl <;> rfl) (fun t ht hW => ⟨⟨_, S, rfl, hK, by rw [ht]; exact hR, by omega, by omega⟩, hS.F ht⟩) hS.2.2 d r2
  · exact hK.elim
theorem m_lret {κ : mX} {cc : ByteArray} {own nm : String} {dep : Nat} (C : mOk κ cc own dep) {pc : Nat} {Q : mQ} (d : decode cc pc = .ok (.lreturn, 1)) (hr : mRet κ nm (some .long) Q) (h0 : mNoc κ) : mAt κ pc (o_lret Q) := by
  obtain ⟨⟨p, l, e, R, s⟩, ⟨m, args, below, meth, c⟩, ⟨D, dA, sz, ext, adV⟩, ⟨n0, w0, mc, ms⟩, Qm⟩ := κ
  intro ls st S hK H locs M hR hS hL hM hn
  obtain ⟨r1, r2, r3, rfl⟩ := hr
  obtain ⟨rfl, rfl⟩ := h0
  unfold o_lret at hK
  split at hK
  · rw [show sN S - n0 = 0 by omega, show sW S - w0 = 0 by omega]
    exact W.lret C.1 C.2.1 r1 (fun t ht hW => ⟨⟨_, S, rfl, hK, by rw [ht]; exact hR, by omega, by omega⟩, hS.F ht⟩) hS.2.2 d r2
  · exact hK.elim
theorem m_vret {κ : mX} {cc : ByteArray} {own nm : String} {dep : Nat} (C : mOk κ cc own dep) {pc : Nat} {Q : mQ} (d : decode cc pc = .ok (.return_, 1)) (hr : mRet κ nm none Q) (h0 : mNoc κ) : mAt κ pc (o_vret Q) := by
  obtain ⟨⟨p, l, e, R, s⟩, ⟨m, args, below, meth, c⟩, ⟨D, dA, sz, ext, adV⟩, ⟨n0, w0, mc, ms⟩, Qm⟩ := κ
  intro ls st S hK H locs M hR hS hL hM hn
  obtain ⟨r1, r2, r3, rfl⟩ := hr
  obtain ⟨rfl, rfl⟩ := h0
  unfold o_vret at hK
  split at hK
  · rw [show sN S - n0 = 0 by omega, show sW S - w0 = 0 by omega]
    exact W.vret C.1 C.2.1 r1 (fun t ht hW => ⟨⟨none, S, rfl, hK, by rw [ht]; exact hR, by omega, by omega⟩, hS.F ht⟩) hS.2.2 d r2
  · exact hK.elim
theorem m_cret {κ : mX} {cc : ByteArray} {own nm : String} {dep : Nat} (C : mOk κ cc own dep) {pc : Nat} {Q : mQ} (d : decode cc pc = .ok (.return_, 1)) (hr : mRet κ nm none Q) : mAt κ pc (o_cret (mLim κ) Q) := by
  obtain ⟨⟨p, l, e, R, s⟩, ⟨m, args, below, meth, c⟩, ⟨D, dA, sz, ext, adV⟩, ⟨n0, w0, mc, ms⟩, Qm⟩ := κ
  intro ls st S hK H locs M hR hS hL hM hn
  obtain ⟨r1, r2, r3, rfl⟩ := hr
  unfold o_cret at hK
  split at hK
  · obtain ⟨e1, e2, hK⟩ := hK
    replace e1 : sN S = n0 + mc := e1
    replace e2 : sW S = w0 + ms := e2
    rw [show sN S - n0 = mc by omega, show sW S - w0 = ms by omega]
    exact W.vret C.1 C.2.1 r1 (fun t ht hW => ⟨⟨none, S, rfl, hK, by rw [ht]; exact hR, by omega, by omega⟩, hS.F ht⟩) hS.2.2 d r2
  · exact hK.elim
