-- the law's body from its start
theorem llaw_18 {L : Nat} {xs : Nat → Int32} {v3 : Int32} {s : sT} {ls : mL} {st : List Value} (h : claw_18 L xs v3 s) (h1 : lsub [some (.ref 1400000), some (.ref 0), some (.ref 162), some (.int v3)] ls) (h2 : st = []) : lf (V := Int32) (fun v => ([some (.ref 1400000), some (.ref 0), some (.ref 162), some (.int v)], [])) (fun v s => claw_18 L xs v s) ls st (mk s) := lf_in (v := v3) h1 h2 h
theorem lawR_lim {κ : mX} (h : lawR κ) : mLim κ = (600000, 7302250) := by
  obtain ⟨⟨p, l, e, R, s⟩, ⟨m, args, below, meth, c⟩, ⟨D, dA, sz, ext, adV⟩, ⟨n0, w0, mc, ms⟩, Q⟩ := κ
  obtain ⟨b, rfl, rfl, rfl, rfl, rfl, rfl, -⟩ := h
  rfl
set_option maxRecDepth 100000 in
set_option maxHeartbeats 4000000 in
theorem blaw_0 {κ : mX} {L : Nat} {xs : Nat → Int32} (C : mOk κ cL_law RL 200) (hs : lawS κ L xs) (hr : lawR κ) (h : claw_18 L xs (0 : Int32) s0) : mAt κ 0 (lfS [some (.ref 1400000), none, none, none] [] T_0) :=
  have hl := lawR_lim hr
  m_lfS (m_newn (n := 0) (w := 0) C dL_law_0 mc_11 ok_11 wt_21 wt_22 wt_1 (m_dup C dL_law_3 (m_callIn (n1 := 1) (w1 := 18) C dL_law_4 N1 (by decide) ⟨wt_1, wt_25, ⟨nc_11.1, nc_11.2, pd_16⟩, by decide⟩ (Or.inl wt_23) wt_24 rfl (m_astore_n C dL_law_7 (m_newn (n := 162) (w := 15367) C dL_law_8 mc_12 ok_12 wt_1257 wt_1258 wt_13 (m_dup C dL_law_11 (m_callIn (n1 := 163) (w1 := 15479) C dL_law_12 N39 (by decide) ⟨wt_13, wt_1261, ⟨nc_12.1, nc_12.2, pd_16⟩, by decide⟩ (Or.inl wt_1259) wt_1260 rfl (m_astore_n C dL_law_15 (m_iconst C dL_law_16 ki_0 (m_istore_n C dL_law_17 (blaw_18 C hs hr))))))))))) (by exact (And.intro ⟨tn_0, by decide, le1 hl (by decide), le2 hl (by decide)⟩ (And.intro ⟨tn_1, le1 hl (by decide), le2 hl (by decide)⟩ ⟨rfl, rfl, And.intro ⟨tn_463, by decide, le1 hl (by decide), le2 hl (by decide)⟩ (And.intro ⟨tn_464, le1 hl (by decide), le2 hl (by decide)⟩ ⟨rfl, rfl, by rw [s0_mk]; exact llaw_18 h (by exact (And.intro rfl (And.intro rfl (And.intro rfl (And.intro rfl rfl))))) rfl⟩)⟩)))
