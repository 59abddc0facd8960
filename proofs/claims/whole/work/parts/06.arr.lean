section WAA
variable {p : Program} {l : Launch} {e : Env} {R : Room} {s : State} {m : MethodId} {args : Array Value} {below : List Frame} {meth : Method} {c : Code} {H : Heap} {locs : List Loc} {cells slots : Nat} {Q : State → Prop}
variable {cc : ByteArray} {pc : Nat} {ls : Array Slot} {rest : List Value} {D : va_G} {A : Nat → Prop} {a : Nat} {tys : List (ClassId × FieldType)} {ws : va_W} {H0 : Heap}
theorem wa_iast (hexec : p.tables.exec = Jvm.exec) (hb : c.code = cc) (hK : va_K D vwCl tys s) (hP : va_P D vwCl ws H) (hD : va_D A ws) (hS : va_S A H0 H locs) (q0 t0 : Nat) {cA : ClassId} {n : Nat} {f : Nat → Int32} (ha : ws[q0]? = some (a, .inl (cA, n, .inl f))) (ht : tys[t0]? = some (cA, .int)) {i : Int32} {x : Int32} (hin : vp_in i n) (hdg : decode cc pc = .ok (.iastore, 1))
    (kk : ∀ (H1 : Heap) (locs1 : List Loc), va_P D vwCl (ws.set q0 (a, .inl (cA, n, .inl (up1 f i.toNatClampNeg x)))) H1 → va_D A (ws.set q0 (a, .inl (cA, n, .inl (up1 f i.toNatClampNeg x)))) → va_S A H0 H1 locs1 → H1.size = H.size → W p l e R s m args below meth c H1 locs1 cells slots Q (F0 m (pc + 1) ls rest)) : W p l e R s m args below meth c H locs cells slots Q (F0 m pc ls (.int x :: .int i :: .ref a :: rest)) := by
  refine W.iast hexec hb (hP q0 _ ha) ((hK.2 t0 _ ht).1 n (fun j => .int (f j))) (fun q => by cases q) (by show ¬ (i < 0 ∨ (arrV _ _ _).slots.size ≤ _); rw [arrV_size]; exact hin) rfl rfl hdg fun H1 e z oq => ?_
  refine kk H1 _ (hP.set hD ha ?_ oq) (hD.set ha) (hS.put z oq (hD.2 q0 _ ha)) z
  show H1[a]? = some (vp_cell _ _)
  rw [e]
  rw [vp_cell_i, vp_cell_i, arrV_store]
  congr 2
  funext q
  by_cases hq : q = i.toNatClampNeg
  · subst hq
    simp [updV, up1, vp_nar, narrow]
  · simp [updV, up1, hq]
theorem wa_cast (hexec : p.tables.exec = Jvm.exec) (hb : c.code = cc) (hK : va_K D vwCl tys s) (hP : va_P D vwCl ws H) (hD : va_D A ws) (hS : va_S A H0 H locs) (q0 t0 : Nat) {cA : ClassId} {n : Nat} {f : Nat → Int32} (ha : ws[q0]? = some (a, .inl (cA, n, .inl f))) (ht : tys[t0]? = some (cA, .char)) {i : Int32} {x : Int32} (hin : vp_in i n) (hdg : decode cc pc = .ok (.castore, 1))
    (kk : ∀ (H1 : Heap) (locs1 : List Loc), va_P D vwCl (ws.set q0 (a, .inl (cA, n, .inl (up1 f i.toNatClampNeg (vp_nar .char x))))) H1 → va_D A (ws.set q0 (a, .inl (cA, n, .inl (up1 f i.toNatClampNeg (vp_nar .char x))))) → va_S A H0 H1 locs1 → H1.size = H.size → W p l e R s m args below meth c H1 locs1 cells slots Q (F0 m (pc + 1) ls rest)) : W p l e R s m args below meth c H locs cells slots Q (F0 m pc ls (.int x :: .int i :: .ref a :: rest)) := by
  refine W.cast hexec hb (hP q0 _ ha) ((hK.2 t0 _ ht).1 n (fun j => .int (f j))) (fun q => by cases q) (by show ¬ (i < 0 ∨ (arrV _ _ _).slots.size ≤ _); rw [arrV_size]; exact hin) rfl rfl hdg fun H1 e z oq => ?_
  refine kk H1 _ (hP.set hD ha ?_ oq) (hD.set ha) (hS.put z oq (hD.2 q0 _ ha)) z
  show H1[a]? = some (vp_cell _ _)
  rw [e]
  rw [vp_cell_i, vp_cell_i, arrV_store]
  congr 2
  funext q
  by_cases hq : q = i.toNatClampNeg
  · subst hq
    simp [updV, up1, vp_nar, narrow]
  · simp [updV, up1, hq]
theorem wa_last (hexec : p.tables.exec = Jvm.exec) (hb : c.code = cc) (hK : va_K D vwCl tys s) (hP : va_P D vwCl ws H) (hD : va_D A ws) (hS : va_S A H0 H locs) (q0 t0 : Nat) {cA : ClassId} {n : Nat} {f : Nat → Int64} (ha : ws[q0]? = some (a, .inl (cA, n, .inr (.inl f)))) (ht : tys[t0]? = some (cA, .long)) {i : Int32} {x : Int64} (hin : vp_in i n) (hdg : decode cc pc = .ok (.lastore, 1))
    (kk : ∀ (H1 : Heap) (locs1 : List Loc), va_P D vwCl (ws.set q0 (a, .inl (cA, n, .inr (.inl (up1 f i.toNatClampNeg x))))) H1 → va_D A (ws.set q0 (a, .inl (cA, n, .inr (.inl (up1 f i.toNatClampNeg x))))) → va_S A H0 H1 locs1 → H1.size = H.size → W p l e R s m args below meth c H1 locs1 cells slots Q (F0 m (pc + 1) ls rest)) : W p l e R s m args below meth c H locs cells slots Q (F0 m pc ls (.long x :: .int i :: .ref a :: rest)) := by
  refine W.last hexec hb (hP q0 _ ha) ((hK.2 t0 _ ht).1 n (fun j => .long (f j))) (fun q => by cases q) (by show ¬ (i < 0 ∨ (arrV _ _ _).slots.size ≤ _); rw [arrV_size]; exact hin) rfl rfl hdg fun H1 e z oq => ?_
  refine kk H1 _ (hP.set hD ha ?_ oq) (hD.set ha) (hS.put z oq (hD.2 q0 _ ha)) z
  show H1[a]? = some (vp_cell _ _)
  rw [e]
  rw [vp_cell_l, vp_cell_l, arrV_store]
  congr 2
  funext q
  by_cases hq : q = i.toNatClampNeg
  · subst hq
    simp [updV, up1, vp_nar, narrow]
  · simp [updV, up1, hq]
theorem wa_astq (hexec : p.tables.exec = Jvm.exec) (hb : c.code = cc) (hK : va_K D vwCl tys s) (hP : va_P D vwCl ws H) (hD : va_D A ws) (hS : va_S A H0 H locs) (q0 t0 qk ci : Nat) {cA : ClassId} {r : vw_C} {n v : Nat} {vs : List Value} {f : Nat → Option Nat} (ha : ws[q0]? = some (a, .inl (cA, n, .inr (.inr (.inr (.inr f)))))) (ht : tys[t0]? = some (cA, .object r.1)) (hv : ws[qk]? = some (v, .inr (ci, vs))) (hc : vwCl[ci]? = some r) {i : Int32} (hin : vp_in i n) (hdg : decode cc pc = .ok (.aastore, 1))
    (kk : ∀ (H1 : Heap) (locs1 : List Loc), va_P D vwCl (ws.set q0 (a, .inl (cA, n, .inr (.inr (.inr (.inr (up1 f i.toNatClampNeg (some v)))))))) H1 → va_D A (ws.set q0 (a, .inl (cA, n, .inr (.inr (.inr (.inr (up1 f i.toNatClampNeg (some v)))))))) → va_S A H0 H1 locs1 → H1.size = H.size → W p l e R s m args below meth c H1 locs1 cells slots Q (F0 m (pc + 1) ls rest)) : W p l e R s m args below meth c H locs cells slots Q (F0 m pc ls (.ref v :: .int i :: .ref a :: rest)) := by
  have hlt : i.toNatClampNeg < n := Nat.not_le.mp fun q => hin (Or.inr q)
  have h0 : ¬ i < 0 := fun q => hin (Or.inl q)
  obtain ⟨r', hr', cellV, g1, g2, g3, -⟩ := hP qk _ hv
  have hcls := (hK.1 ci r hc).2
  obtain ⟨kA, comp, k1, k2, k3, -⟩ := (hK.2 t0 _ ht).2
  have hcomp : comp = D.1 ci := Option.some.inj (k3.symm.trans hcls.1)
  subst hcomp
  obtain ⟨kC, hkC, -⟩ := hcls.2
  refine W.aast hexec hb (hP q0 _ ha) (fun q h => by cases h) (fun h => by cases h) k1 k2 rfl hkC ⟨h0, by show _ < (arrV _ _ _).slots.size; rw [arrV_size]; exact hlt⟩ g1 (fun q h => by rw [g3] at h; cases h) (by rw [g2]; exact hkC) (by rw [g2]; exact va_assign hcls) rfl rfl hdg fun H1 e z oq => ?_
  refine kk H1 _ (hP.set hD ha ?_ oq) (hD.set ha) (hS.put z oq (hD.2 q0 _ ha)) z
  show H1[a]? = some (vp_cell _ _)
  rw [e]
  rw [vp_cell_q, vp_cell_q, arrV_store]
  congr 2
  funext q
  by_cases hq : q = i.toNatClampNeg
  · subst hq
    simp [updV, up1, va_rf]
  · simp [updV, up1, hq]
theorem wa_copyi (hexec : p.tables.exec = Jvm.exec) (hb : c.code = cc) (hml : c.maxLocals = ls.size) {own : String} {index : Nat} (hown : s.vm.findClass own = some m.cls) (hlink : (Cond.methodLink own index arraycopyName).before args s = true) (hnat : (Cond.native arraycopyName).before args s = true) (hstat : (Cond.static arraycopyName).before args s = true) (hini : (Cond.initialized "java/lang/System").before args s = true)
    (hK : va_K D vwCl tys s) (hP : va_P D vwCl ws H) (hD : va_D A ws) (hS : va_S A H0 H locs) (q0 q1 t0 : Nat) {a0 : Nat} {c0 : ClassId} {n0 n1 : Nat} {f g : Nat → Int32} (ha0 : ws[q0]? = some (a0, .inl (c0, n0, .inl f))) (ha1 : ws[q1]? = some (a, .inl (c0, n1, .inl g))) (ht0 : tys[t0]? = some (c0, .int))
    {sp dp n : Int32} (h1 : ¬ sp < 0) (h2 : ¬ dp < 0) (h3 : ¬ n < 0) (h4 : sp.toNatClampNeg + n.toNatClampNeg ≤ n0) (h5 : dp.toNatClampNeg + n.toNatClampNeg ≤ n1)
    (hframes : 1 ≤ R.frames) (hlocals : (rest.map fun v => v.category).sum + (nativeFrameWords "java/lang/System" "arraycopy" 5 + 11) ≤ R.locals) (hdg : decode cc pc = .ok (.invokestatic index, 3))
    (kk : ∀ (H1 : Heap) (locs1 : List Loc), va_P D vwCl (ws.set q1 (a, .inl (c0, n1, .inl (va_cpy f g sp.toNatClampNeg dp.toNatClampNeg n.toNatClampNeg)))) H1 → va_D A (ws.set q1 (a, .inl (c0, n1, .inl (va_cpy f g sp.toNatClampNeg dp.toNatClampNeg n.toNatClampNeg)))) → va_S A H0 H1 locs1 → H1.size = H.size → W p l e R s m args below meth c H1 locs1 cells slots Q (F0 m (pc + 3) ls rest)) : W p l e R s m args below meth c H locs cells slots Q (F0 m pc ls (.int n :: .int dp :: .ref a :: .int sp :: .ref a0 :: rest)) := by
  have nn : ∀ z : Int32, ¬ z < 0 → z.toInt = (z.toNatClampNeg : Int) := by
    intro z hz
    have hz0 : (0 : Int) ≤ z.toInt := by
      have := Int32.not_lt.mp hz
      simpa using Int32.le_iff_toInt_le.mp this
    show z.toInt = ((z.toInt.toNat : Nat) : Int)
    omega
  intro T hT X
  have hc0 : H[a0]? = some (vp_cell c0 (n0, .inl f)) := hP q0 _ ha0
  have hc1 : H[a]? = some (vp_cell c0 (n1, .inl g)) := hP q1 _ ha1
  obtain ⟨-, k0, hk0, cm0, hkk0⟩ := (hK.2 t0 _ ht0).1 n0 (fun j => .int (f j))
  obtain ⟨vm', X', step⟩ := X.arraycopy hexec hown hlink hnat hstat hini (src := a0) (dst := a) (cs := vp_cell c0 (n0, .inl f)) (cd := vp_cell c0 (n1, .inl g)) (srcPos := sp) (destPos := dp) (n := n) (by rw [hT]; exact hc0) (by rw [hT]; exact hc1)
    (fun _ h => by cases h) (fun _ h => by cases h) (fun h => by cases h) (fun h => by cases h) hk0 hk0 hkk0 hkk0 (by simp [refKind]) h1 h2 h3
    (by rw [nn sp h1, nn n h3]; show ¬ _ > ((arrV c0 n0 (fun j => .int (f j))).slots.size : Int); rw [arrV_size]; omega)
    (by rw [nn dp h2, nn n h3]; show ¬ _ > ((arrV c0 n1 (fun j => .int (g j))).slots.size : Int); rw [arrV_size]; omega)
    (fun vm₁ _ i hi => by
      have e : (vp_cell c0 (n0, .inl f)).slots.getD (sp.toNatClampNeg + i) .null = .int (f (sp.toNatClampNeg + i)) := by
        show (arrV c0 n0 (fun j => .int (f j))).slots.getD _ _ = _
        rw [Array.getD_eq_getD_getElem?, arrV_read _ _ (by omega)]
        rfl
      refine ⟨?_, ?_⟩
      · rw [e]
        rfl
      · rw [e]
        exact trivial)
    (g := F0 m pc ls (.int n :: .int dp :: .ref a :: .int sp :: .ref a0 :: rest)) rfl (by rw [hml]) (rest := rest) rfl (by rw [hb]; exact hdg) hframes (by show 2 * 0 + _ + _ ≤ _; omega)
  have e1 : copied (vp_cell c0 (n0, .inl f)) (vp_cell c0 (n1, .inl g)) sp dp n = vp_cell c0 (n1, .inl (va_cpy f g sp.toNatClampNeg dp.toNatClampNeg n.toNatClampNeg)) := va_copied (fun z => .int z) c0 c0 f g h4
  rw [e1] at X' step
  have hl : a < H.size := (Array.getElem?_eq_some_iff.mp hc1).1
  have hheap : ((T.setVm vm').setCell a (vp_cell c0 (n1, .inl (va_cpy f g sp.toNatClampNeg dp.toNatClampNeg n.toNatClampNeg)))).heap = H.setIfInBounds a (vp_cell c0 (n1, .inl (va_cpy f g sp.toNatClampNeg dp.toNatClampNeg n.toNatClampNeg))) := by rw [← hT]; rfl
  have oq : ∀ q : Nat, q ≠ a → (H.setIfInBounds a (vp_cell c0 (n1, .inl (va_cpy f g sp.toNatClampNeg dp.toNatClampNeg n.toNatClampNeg))))[q]? = H[q]? := fun q hq => by simp [Array.getElem?_setIfInBounds, Ne.symm hq]
  obtain ⟨t, a1, b1⟩ := kk _ _ (hP.set hD ha1 (show (H.setIfInBounds a _)[a]? = some _ by simp [Array.getElem?_setIfInBounds, hl]) oq) (hD.set ha1) ⟨by simp; exact hS.1, fun q g1 g2 => by
      rw [oq q (fun e => g2 (by rw [e]; exact hD.2 q1 _ ha1))]
      exact hS.2.1 q g1 g2, fun q hq => by
      rcases List.mem_append.mp hq with h | h
      · exact hS.2.2 q h
      · obtain ⟨z, -, hz⟩ := List.mem_map.mp h
        rw [← hz]
        exact hD.2 q1 _ ha1⟩ (by simp) _ hheap X'
  exact ⟨t, step t a1, b1⟩
end WAA
def unrf (v : Value) : Option (Option Nat) := match v with
  | .ref b => some (some b)
  | .null => some none
  | _ => none
theorem unrf_of {v : Value} {r : Option Nat} (h : unrf v = some r) : v = rf r := by cases v <;> cases h <;> rfl
abbrev o_putP (ci j : Nat) (K : mK) : mK := fun ls st S => match st with
  | .ref b :: .ref a :: st => gd (Nat.beq (sH S a).1 ci) (K ls st (setP S a j (some b)))
  | .null :: .ref a :: st => gd (Nat.beq (sH S a).1 ci) (K ls st (setP S a j none))
  | _ => False
theorem m_putP {κ : mX} {cc : ByteArray} {own : String} {dep : Nat} (C : mOk κ cc own dep) {pc : Nat} {ci j index : Nat} {Cn : String} {T : u_T} {K : mK} (d : decode cc pc = .ok (.putfield index, 3)) (hc : mCls ci Cn T) (hj : j < mN ci) (hw : Cond.fieldLink own index (T j).1 (T j).2.1 (T j).2.2.1 ∈ mU) (hk : pkind (mTy ci j) = true) (hf : (T j).2.2.2 = false) (h : mAt κ (pc + 3) K) : mAt κ pc (o_putP ci j K) := by
  obtain ⟨⟨p, l, e, R, s⟩, ⟨m, args, below, meth, c⟩, ⟨D, dA, sz, ext, adV⟩, ⟨n0, w0, mc, ms⟩, Q⟩ := κ
  intro ls st S hK H locs M hR hS hL hM hn
  unfold o_putP at hK
  split at hK
  · rename_i b a st
    obtain ⟨hb, hK⟩ := gd_of hK
    have hb := beq_of hb
    obtain ⟨hl, had⟩ := sH_lt hR hb (by have := hc.2.2.2.2; omega)
    have he := mWs_at (ad := mAd sz ext) (dA := dA) (sz := sz) hl
    rw [cell_o hb hc.2.2.2.2] at he
    have hsz : ∀ H1 : Heap, va_P D vwCl ((mWs (mAd sz ext) dA sz S).set a (sz + a, .inr (ci, (fls (mAd sz ext) ci S a).set j (.ref (mAd sz ext b))))) H1 → mCell (mAd sz ext) dA (setP S a j (some b)) a = .inr (ci, (fls (mAd sz ext) ci S a).set j (.ref (mAd sz ext b))) := fun H1 _ => by
      have e : fls (mAd sz ext) ci (setP S a j (some b)) a = (fls (mAd sz ext) ci S a).set j (.ref (mAd sz ext b)) := fls_set hj (by rw [fvl_p hk]; unfold setP; rw [setPr_at, up1_eq]; rfl) (fun i hi => fvl_P hi)
      rw [← e]
      exact cell_o (S := setP S a j (some b)) hb hc.2.2.2.2
    show W p l e R s m args below meth c H locs _ _ Q (F0 m pc M (Value.ref (mAd sz ext b) :: Value.ref (mAd sz ext a) :: st.map (cv (mAd sz ext))))
    rw [had]
    exact wa_put (ws := mWs (mAd sz ext) dA sz S) C.1 C.2.1 C.2.2.2.1 hc C.2.2.1 C.2.2.2.2.1 hR.1 hR.2.1 hS a he j hj (C.2.2.2.1 _ hw) (Or.inl hf) (by revert hk; cases mTy ci j <;> intro hk <;> first | rfl | cases hk) (by revert hk; cases mTy ci j <;> intro hk <;> first | rfl | cases hk) (by rw [fls_len]; exact hj) d (fun H1 locs1 hP hD hS1 hz => h _ _ _ hK H1 locs1 M ((same_Pr S a _).rep hR hP hD (hsz H1 hP) hz) hS1 hL hM hn)
  · rename_i a st
    obtain ⟨hb, hK⟩ := gd_of hK
    have hb := beq_of hb
    obtain ⟨hl, had⟩ := sH_lt hR hb (by have := hc.2.2.2.2; omega)
    have he := mWs_at (ad := mAd sz ext) (dA := dA) (sz := sz) hl
    rw [cell_o hb hc.2.2.2.2] at he
    have hsz : ∀ H1 : Heap, va_P D vwCl ((mWs (mAd sz ext) dA sz S).set a (sz + a, .inr (ci, (fls (mAd sz ext) ci S a).set j (.null)))) H1 → mCell (mAd sz ext) dA (setP S a j (none)) a = .inr (ci, (fls (mAd sz ext) ci S a).set j (.null)) := fun H1 _ => by
      have e : fls (mAd sz ext) ci (setP S a j (none)) a = (fls (mAd sz ext) ci S a).set j (.null) := fls_set hj (by rw [fvl_p hk]; unfold setP; rw [setPr_at, up1_eq]; rfl) (fun i hi => fvl_P hi)
      rw [← e]
      exact cell_o (S := setP S a j (none)) hb hc.2.2.2.2
    show W p l e R s m args below meth c H locs _ _ Q (F0 m pc M (Value.null :: Value.ref (mAd sz ext a) :: st.map (cv (mAd sz ext))))
    rw [had]
    exact wa_put (ws := mWs (mAd sz ext) dA sz S) C.1 C.2.1 C.2.2.2.1 hc C.2.2.1 C.2.2.2.2.1 hR.1 hR.2.1 hS a he j hj (C.2.2.2.1 _ hw) (Or.inl hf) (by revert hk; cases mTy ci j <;> intro hk <;> first | rfl | cases hk) (by revert hk; cases mTy ci j <;> intro hk <;> first | rfl | cases hk) (by rw [fls_len]; exact hj) d (fun H1 locs1 hP hD hS1 hz => h _ _ _ hK H1 locs1 M ((same_Pr S a _).rep hR hP hD (hsz H1 hP) hz) hS1 hL hM hn)
  · exact hK.elim
theorem m_putPF {κ : mX} {cc : ByteArray} {own : String} {dep : Nat} (C : mOk κ cc own dep) {pc : Nat} {ci j index : Nat} {Cn : String} {T : u_T} {K : mK} (d : decode cc pc = .ok (.putfield index, 3)) (hc : mCls ci Cn T) (hj : j < mN ci) (hw : Cond.fieldLink own index (T j).1 (T j).2.1 (T j).2.2.1 ∈ mU) (hk : pkind (mTy ci j) = true) (hf : (T j).2.2.2 = true ∧ (mMeth κ).name = "<init>" ∧ (T j).1 = own) (h : mAt κ (pc + 3) K) : mAt κ pc (o_putP ci j K) := by
  obtain ⟨⟨p, l, e, R, s⟩, ⟨m, args, below, meth, c⟩, ⟨D, dA, sz, ext, adV⟩, ⟨n0, w0, mc, ms⟩, Q⟩ := κ
  intro ls st S hK H locs M hR hS hL hM hn
  unfold o_putP at hK
  split at hK
  · rename_i b a st
    obtain ⟨hb, hK⟩ := gd_of hK
    have hb := beq_of hb
    obtain ⟨hl, had⟩ := sH_lt hR hb (by have := hc.2.2.2.2; omega)
    have he := mWs_at (ad := mAd sz ext) (dA := dA) (sz := sz) hl
    rw [cell_o hb hc.2.2.2.2] at he
    have hsz : ∀ H1 : Heap, va_P D vwCl ((mWs (mAd sz ext) dA sz S).set a (sz + a, .inr (ci, (fls (mAd sz ext) ci S a).set j (.ref (mAd sz ext b))))) H1 → mCell (mAd sz ext) dA (setP S a j (some b)) a = .inr (ci, (fls (mAd sz ext) ci S a).set j (.ref (mAd sz ext b))) := fun H1 _ => by
      have e : fls (mAd sz ext) ci (setP S a j (some b)) a = (fls (mAd sz ext) ci S a).set j (.ref (mAd sz ext b)) := fls_set hj (by rw [fvl_p hk]; unfold setP; rw [setPr_at, up1_eq]; rfl) (fun i hi => fvl_P hi)
      rw [← e]
      exact cell_o (S := setP S a j (some b)) hb hc.2.2.2.2
    show W p l e R s m args below meth c H locs _ _ Q (F0 m pc M (Value.ref (mAd sz ext b) :: Value.ref (mAd sz ext a) :: st.map (cv (mAd sz ext))))
    rw [had]
    exact wa_put (ws := mWs (mAd sz ext) dA sz S) C.1 C.2.1 C.2.2.2.1 hc C.2.2.1 C.2.2.2.2.1 hR.1 hR.2.1 hS a he j hj (C.2.2.2.1 _ hw) (Or.inr hf) (by revert hk; cases mTy ci j <;> intro hk <;> first | rfl | cases hk) (by revert hk; cases mTy ci j <;> intro hk <;> first | rfl | cases hk) (by rw [fls_len]; exact hj) d (fun H1 locs1 hP hD hS1 hz => h _ _ _ hK H1 locs1 M ((same_Pr S a _).rep hR hP hD (hsz H1 hP) hz) hS1 hL hM hn)
  · rename_i a st
    obtain ⟨hb, hK⟩ := gd_of hK
    have hb := beq_of hb
    obtain ⟨hl, had⟩ := sH_lt hR hb (by have := hc.2.2.2.2; omega)
    have he := mWs_at (ad := mAd sz ext) (dA := dA) (sz := sz) hl
    rw [cell_o hb hc.2.2.2.2] at he
    have hsz : ∀ H1 : Heap, va_P D vwCl ((mWs (mAd sz ext) dA sz S).set a (sz + a, .inr (ci, (fls (mAd sz ext) ci S a).set j (.null)))) H1 → mCell (mAd sz ext) dA (setP S a j (none)) a = .inr (ci, (fls (mAd sz ext) ci S a).set j (.null)) := fun H1 _ => by
      have e : fls (mAd sz ext) ci (setP S a j (none)) a = (fls (mAd sz ext) ci S a).set j (.null) := fls_set hj (by rw [fvl_p hk]; unfold setP; rw [setPr_at, up1_eq]; rfl) (fun i hi => fvl_P hi)
      rw [← e]
      exact cell_o (S := setP S a j (none)) hb hc.2.2.2.2
    show W p l e R s m args below meth c H locs _ _ Q (F0 m pc M (Value.null :: Value.ref (mAd sz ext a) :: st.map (cv (mAd sz ext))))
    rw [had]
    exact wa_put (ws := mWs (mAd sz ext) dA sz S) C.1 C.2.1 C.2.2.2.1 hc C.2.2.1 C.2.2.2.2.1 hR.1 hR.2.1 hS a he j hj (C.2.2.2.1 _ hw) (Or.inr hf) (by revert hk; cases mTy ci j <;> intro hk <;> first | rfl | cases hk) (by revert hk; cases mTy ci j <;> intro hk <;> first | rfl | cases hk) (by rw [fls_len]; exact hj) d (fun H1 locs1 hP hD hS1 hz => h _ _ _ hK H1 locs1 M ((same_Pr S a _).rep hR hP hD (hsz H1 hP) hz) hS1 hL hM hn)
  · exact hK.elim
abbrev o_iald (K : mK) : mK := fun ls st S => match st with
  | .int i :: .ref a :: st => gd (Nat.beq (sH S a).1 100) (vp_in i (sH S a).2 ∧ K ls (.int (sI S a i.toNatClampNeg) :: st) S)
  | _ => False
theorem m_iald {κ : mX} {cc : ByteArray} {own : String} {dep : Nat} (C : mOk κ cc own dep) {pc : Nat} {K : mK} (d : decode cc pc = .ok (.iaload, 1)) (h : mAt κ (pc + 1) K) : mAt κ pc (o_iald K) := by
  obtain ⟨⟨p, l, e, R, s⟩, ⟨m, args, below, meth, c⟩, ⟨D, dA, sz, ext, adV⟩, ⟨n0, w0, mc, ms⟩, Q⟩ := κ
  intro ls st S hK H locs M hR hS hL hM hn
  unfold o_iald at hK
  split at hK
  · rename_i i a st
    obtain ⟨hb, hi, hK⟩ := gd_of hK
    have hb := beq_of hb
    obtain ⟨hl, had⟩ := sH_lt hR hb (by omega)
    have he := mWs_at (ad := mAd sz ext) (dA := dA) (sz := sz) hl
    rw [cell_a (t := 0) hb] at he
    have h2 := h _ _ _ hK H locs M hR hS hL hM hn
    show W p l e R s m args below meth c H locs _ _ Q (F0 m pc M (Value.int i :: Value.ref (mAd sz ext a) :: st.map (cv (mAd sz ext))))
    rw [had]
    exact va_iald (D := D) (cl := vwCl) (ws := mWs (mAd sz ext) dA sz S) C.1 C.2.1 C.2.2.2.2.1 hR.1 a 0 he rfl hi d h2
  · exact hK.elim
abbrev o_lald (K : mK) : mK := fun ls st S => match st with
  | .int i :: .ref a :: st => gd (Nat.beq (sH S a).1 101) (vp_in i (sH S a).2 ∧ K ls (.long (sJ S a i.toNatClampNeg) :: st) S)
  | _ => False
theorem m_lald {κ : mX} {cc : ByteArray} {own : String} {dep : Nat} (C : mOk κ cc own dep) {pc : Nat} {K : mK} (d : decode cc pc = .ok (.laload, 1)) (h : mAt κ (pc + 1) K) : mAt κ pc (o_lald K) := by
  obtain ⟨⟨p, l, e, R, s⟩, ⟨m, args, below, meth, c⟩, ⟨D, dA, sz, ext, adV⟩, ⟨n0, w0, mc, ms⟩, Q⟩ := κ
  intro ls st S hK H locs M hR hS hL hM hn
  unfold o_lald at hK
  split at hK
  · rename_i i a st
    obtain ⟨hb, hi, hK⟩ := gd_of hK
    have hb := beq_of hb
    obtain ⟨hl, had⟩ := sH_lt hR hb (by omega)
    have he := mWs_at (ad := mAd sz ext) (dA := dA) (sz := sz) hl
    rw [cell_a (t := 1) hb] at he
    have h2 := h _ _ _ hK H locs M hR hS hL hM hn
    show W p l e R s m args below meth c H locs _ _ Q (F0 m pc M (Value.int i :: Value.ref (mAd sz ext a) :: st.map (cv (mAd sz ext))))
    rw [had]
    exact va_lald (D := D) (cl := vwCl) (ws := mWs (mAd sz ext) dA sz S) C.1 C.2.1 C.2.2.2.2.1 hR.1 a 1 he rfl hi d h2
  · exact hK.elim
abbrev o_cald (K : mK) : mK := fun ls st S => match st with
  | .int i :: .ref a :: st => gd (Nat.beq (sH S a).1 102) (vp_in i (sH S a).2 ∧ K ls (.int (sI S a i.toNatClampNeg) :: st) S)
  | _ => False
theorem m_cald {κ : mX} {cc : ByteArray} {own : String} {dep : Nat} (C : mOk κ cc own dep) {pc : Nat} {K : mK} (d : decode cc pc = .ok (.caload, 1)) (h : mAt κ (pc + 1) K) : mAt κ pc (o_cald K) := by
  obtain ⟨⟨p, l, e, R, s⟩, ⟨m, args, below, meth, c⟩, ⟨D, dA, sz, ext, adV⟩, ⟨n0, w0, mc, ms⟩, Q⟩ := κ
  intro ls st S hK H locs M hR hS hL hM hn
  unfold o_cald at hK
  split at hK
  · rename_i i a st
    obtain ⟨hb, hi, hK⟩ := gd_of hK
    have hb := beq_of hb
    obtain ⟨hl, had⟩ := sH_lt hR hb (by omega)
    have he := mWs_at (ad := mAd sz ext) (dA := dA) (sz := sz) hl
    rw [cell_a (t := 2) hb] at he
    have h2 := h _ _ _ hK H locs M hR hS hL hM hn
    show W p l e R s m args below meth c H locs _ _ Q (F0 m pc M (Value.int i :: Value.ref (mAd sz ext a) :: st.map (cv (mAd sz ext))))
    rw [had]
    exact va_cald (D := D) (cl := vwCl) (ws := mWs (mAd sz ext) dA sz S) C.1 C.2.1 C.2.2.2.2.1 hR.1 a 2 he rfl hi d h2
  · exact hK.elim
abbrev o_aald (K : mK) : mK := fun ls st S => match st with
  | .int i :: .ref a :: st => gd (Nat.beq (sH S a).1 103) (vp_in i (sH S a).2 ∧ K ls (rf (sP S a i.toNatClampNeg) :: st) S)
  | _ => False
theorem m_aald {κ : mX} {cc : ByteArray} {own : String} {dep : Nat} (C : mOk κ cc own dep) {pc : Nat} {K : mK} (d : decode cc pc = .ok (.aaload, 1)) (h : mAt κ (pc + 1) K) : mAt κ pc (o_aald K) := by
  obtain ⟨⟨p, l, e, R, s⟩, ⟨m, args, below, meth, c⟩, ⟨D, dA, sz, ext, adV⟩, ⟨n0, w0, mc, ms⟩, Q⟩ := κ
  intro ls st S hK H locs M hR hS hL hM hn
  unfold o_aald at hK
  split at hK
  · rename_i i a st
    obtain ⟨hb, hi, hK⟩ := gd_of hK
    have hb := beq_of hb
    obtain ⟨hl, had⟩ := sH_lt hR hb (by omega)
    have he := mWs_at (ad := mAd sz ext) (dA := dA) (sz := sz) hl
    rw [cell_a (t := 3) hb] at he
    have h2 := h _ _ _ hK H locs M hR hS hL hM hn
    show W p l e R s m args below meth c H locs _ _ Q (F0 m pc M (Value.int i :: Value.ref (mAd sz ext a) :: st.map (cv (mAd sz ext))))
    rw [had]
    rw [List.map_cons, cv_rf] at h2
    exact va_aldq (D := D) (cl := vwCl) (ws := mWs (mAd sz ext) dA sz S) C.1 C.2.1 C.2.2.2.2.1 hR.1 a 3 he rfl hi d h2
  · exact hK.elim
abbrev o_alen (K : mK) : mK := fun ls st S => match st with
  | .ref a :: st => gd (Nat.ble 100 (sH S a).1 && Nat.ble (sH S a).1 103) (K ls (.int (Int32.ofNat (sH S a).2) :: st) S)
  | _ => False
theorem m_alen {κ : mX} {cc : ByteArray} {own : String} {dep : Nat} (C : mOk κ cc own dep) {pc : Nat} {K : mK} (d : decode cc pc = .ok (.arraylength, 1)) (h : mAt κ (pc + 1) K) : mAt κ pc (o_alen K) := by
  obtain ⟨⟨p, l, e, R, s⟩, ⟨m, args, below, meth, c⟩, ⟨D, dA, sz, ext, adV⟩, ⟨n0, w0, mc, ms⟩, Q⟩ := κ
  intro ls st S hK H locs M hR hS hL hM hn
  unfold o_alen at hK
  split at hK
  · rename_i a st
    obtain ⟨hb, hK⟩ := gd_of hK
    rw [Bool.and_eq_true] at hb
    have b1 := Nat.le_of_ble_eq_true hb.1
    have b2 := Nat.le_of_ble_eq_true hb.2
    obtain ⟨t, ht⟩ : ∃ t, (sH S a).1 = 100 + t := ⟨(sH S a).1 - 100, by omega⟩
    obtain ⟨hl, had⟩ := sH_lt hR ht (by omega)
    have he := mWs_at (ad := mAd sz ext) (dA := dA) (sz := sz) hl
    rw [cell_a ht] at he
    show W p l e R s m args below meth c H locs _ _ Q (F0 m pc M (Value.ref (mAd sz ext a) :: st.map (cv (mAd sz ext))))
    rw [had]
    obtain ⟨ty, hty⟩ : ∃ ty, (mTys dA)[t]? = some (dA t, ty) := by
      rcases (show t = 0 ∨ t = 1 ∨ t = 2 ∨ t = 3 by omega) with rfl | rfl | rfl | rfl <;> exact ⟨_, rfl⟩
    exact va_alen (D := D) (cl := vwCl) (ws := mWs (mAd sz ext) dA sz S) C.1 C.2.1 C.2.2.2.2.1 hR.1 a t he hty rfl d (h _ _ _ hK H locs M hR hS hL hM hn)
  · exact hK.elim
abbrev o_iast (K : mK) : mK := fun ls st S => match st with
  | .int x :: .int i :: .ref a :: st => gd (Nat.beq (sH S a).1 100) (vp_in i (sH S a).2 ∧ K ls st (setI S a i.toNatClampNeg x))
  | _ => False
theorem m_iast {κ : mX} {cc : ByteArray} {own : String} {dep : Nat} (C : mOk κ cc own dep) {pc : Nat} {K : mK} (d : decode cc pc = .ok (.iastore, 1)) (h : mAt κ (pc + 1) K) : mAt κ pc (o_iast K) := by
  obtain ⟨⟨p, l, e, R, s⟩, ⟨m, args, below, meth, c⟩, ⟨D, dA, sz, ext, adV⟩, ⟨n0, w0, mc, ms⟩, Q⟩ := κ
  intro ls st S hK H locs M hR hS hL hM hn
  unfold o_iast at hK
  split at hK
  · rename_i x i a st
    obtain ⟨hb, hi, hK⟩ := gd_of hK
    have hb := beq_of hb
    obtain ⟨hl, had⟩ := sH_lt hR hb (by omega)
    have he := mWs_at (ad := mAd sz ext) (dA := dA) (sz := sz) hl
    rw [cell_a (t := 0) hb] at he
    have hce := cell_a (ad := mAd sz ext) (dA := dA) (S := setI S a i.toNatClampNeg x) (a := a) (t := 0) hb
    show W p l e R s m args below meth c H locs _ _ Q (F0 m pc M (Value.int x :: Value.int i :: Value.ref (mAd sz ext a) :: st.map (cv (mAd sz ext))))
    rw [had]
    exact wa_iast (D := D) (ws := mWs (mAd sz ext) dA sz S) C.1 C.2.1 C.2.2.2.2.1 hR.1 hR.2.1 hS a 0 he rfl hi d (fun H1 locs1 hP hD hS1 hz => h _ _ _ hK H1 locs1 M ((same_Ir S a _).rep hR hP hD (hce.trans (by unfold setI; simp only [acell]; rw [setIr_at]; rfl)) hz) hS1 hL hM hn)
  · exact hK.elim
abbrev o_cast (K : mK) : mK := fun ls st S => match st with
  | .int x :: .int i :: .ref a :: st => gd (Nat.beq (sH S a).1 102) (vp_in i (sH S a).2 ∧ K ls st (setI S a i.toNatClampNeg (vp_nar .char x)))
  | _ => False
theorem m_cast {κ : mX} {cc : ByteArray} {own : String} {dep : Nat} (C : mOk κ cc own dep) {pc : Nat} {K : mK} (d : decode cc pc = .ok (.castore, 1)) (h : mAt κ (pc + 1) K) : mAt κ pc (o_cast K) := by
  obtain ⟨⟨p, l, e, R, s⟩, ⟨m, args, below, meth, c⟩, ⟨D, dA, sz, ext, adV⟩, ⟨n0, w0, mc, ms⟩, Q⟩ := κ
  intro ls st S hK H locs M hR hS hL hM hn
  unfold o_cast at hK
  split at hK
  · rename_i x i a st
    obtain ⟨hb, hi, hK⟩ := gd_of hK
    have hb := beq_of hb
    obtain ⟨hl, had⟩ := sH_lt hR hb (by omega)
    have he := mWs_at (ad := mAd sz ext) (dA := dA) (sz := sz) hl
    rw [cell_a (t := 2) hb] at he
    have hce := cell_a (ad := mAd sz ext) (dA := dA) (S := setI S a i.toNatClampNeg (vp_nar .char x)) (a := a) (t := 2) hb
    show W p l e R s m args below meth c H locs _ _ Q (F0 m pc M (Value.int x :: Value.int i :: Value.ref (mAd sz ext a) :: st.map (cv (mAd sz ext))))
    rw [had]
    exact wa_cast (D := D) (ws := mWs (mAd sz ext) dA sz S) C.1 C.2.1 C.2.2.2.2.1 hR.1 hR.2.1 hS a 2 he rfl hi d (fun H1 locs1 hP hD hS1 hz => h _ _ _ hK H1 locs1 M ((same_Ir S a _).rep hR hP hD (hce.trans (by unfold setI; simp only [acell]; rw [setIr_at]; rfl)) hz) hS1 hL hM hn)
  · exact hK.elim
abbrev o_last (K : mK) : mK := fun ls st S => match st with
  | .long x :: .int i :: .ref a :: st => gd (Nat.beq (sH S a).1 101) (vp_in i (sH S a).2 ∧ K ls st (setJ S a i.toNatClampNeg x))
  | _ => False
theorem m_last {κ : mX} {cc : ByteArray} {own : String} {dep : Nat} (C : mOk κ cc own dep) {pc : Nat} {K : mK} (d : decode cc pc = .ok (.lastore, 1)) (h : mAt κ (pc + 1) K) : mAt κ pc (o_last K) := by
  obtain ⟨⟨p, l, e, R, s⟩, ⟨m, args, below, meth, c⟩, ⟨D, dA, sz, ext, adV⟩, ⟨n0, w0, mc, ms⟩, Q⟩ := κ
  intro ls st S hK H locs M hR hS hL hM hn
  unfold o_last at hK
  split at hK
  · rename_i x i a st
    obtain ⟨hb, hi, hK⟩ := gd_of hK
    have hb := beq_of hb
    obtain ⟨hl, had⟩ := sH_lt hR hb (by omega)
    have he := mWs_at (ad := mAd sz ext) (dA := dA) (sz := sz) hl
    rw [cell_a (t := 1) hb] at he
    have hce := cell_a (ad := mAd sz ext) (dA := dA) (S := setJ S a i.toNatClampNeg x) (a := a) (t := 1) hb
    show W p l e R s m args below meth c H locs _ _ Q (F0 m pc M (Value.long x :: Value.int i :: Value.ref (mAd sz ext a) :: st.map (cv (mAd sz ext))))
    rw [had]
    exact wa_last (D := D) (ws := mWs (mAd sz ext) dA sz S) C.1 C.2.1 C.2.2.2.2.1 hR.1 hR.2.1 hS a 1 he rfl hi d (fun H1 locs1 hP hD hS1 hz => h _ _ _ hK H1 locs1 M ((same_Jr S a _).rep hR hP hD (hce.trans (by unfold setJ; simp only [acell]; rw [setJr_at]; rfl)) hz) hS1 hL hM hn)
  · exact hK.elim
abbrev o_aast (K : mK) : mK := fun ls st S => match st with
  | .ref b :: .int i :: .ref a :: st => gd (Nat.beq (sH S a).1 103 && Nat.beq (sH S b).1 9) (vp_in i (sH S a).2 ∧ K ls st (setP S a i.toNatClampNeg (some b)))
  | _ => False
theorem m_aast {κ : mX} {cc : ByteArray} {own : String} {dep : Nat} (C : mOk κ cc own dep) {pc : Nat} {K : mK} (d : decode cc pc = .ok (.aastore, 1)) (h : mAt κ (pc + 1) K) : mAt κ pc (o_aast K) := by
  obtain ⟨⟨p, l, e, R, s⟩, ⟨m, args, below, meth, c⟩, ⟨D, dA, sz, ext, adV⟩, ⟨n0, w0, mc, ms⟩, Q⟩ := κ
  intro ls st S hK H locs M hR hS hL hM hn
  unfold o_aast at hK
  split at hK
  · rename_i b i a st
    obtain ⟨hb, hi, hK⟩ := gd_of hK
    rw [Bool.and_eq_true] at hb
    have hb9 := beq_of hb.2
    have hb := beq_of hb.1
    obtain ⟨hl, had⟩ := sH_lt hR hb (by omega)
    obtain ⟨hl9, had9⟩ := sH_lt hR hb9 (by omega)
    have he := mWs_at (ad := mAd sz ext) (dA := dA) (sz := sz) hl
    rw [cell_a (t := 3) hb] at he
    have he9 := mWs_at (ad := mAd sz ext) (dA := dA) (sz := sz) hl9
    rw [cell_o hb9 (by omega)] at he9
    have hce := cell_a (ad := mAd sz ext) (dA := dA) (S := setP S a i.toNatClampNeg (some b)) (a := a) (t := 3) hb
    show W p l e R s m args below meth c H locs _ _ Q (F0 m pc M (Value.ref (mAd sz ext b) :: Value.int i :: Value.ref (mAd sz ext a) :: st.map (cv (mAd sz ext))))
    rw [had, had9]
    refine wa_astq (D := D) (ws := mWs (mAd sz ext) dA sz S) (r := (RX9, TX9, 7)) C.1 C.2.1 C.2.2.2.2.1 hR.1 hR.2.1 hS a 3 b 9 he rfl he9 rfl hi d (fun H1 locs1 hP hD hS1 hz => h _ _ _ hK H1 locs1 M ((same_Pr S a _).rep hR hP hD (hce.trans (by
      unfold setP; simp only [acell]; rw [setPr_at]
      refine congrArg (fun f => (Sum.inl (dA 3, (sH S a).2, Sum.inr (Sum.inr (Sum.inr (Sum.inr f)))) : va_E)) ?_
      funext q
      by_cases hq : q = i.toNatClampNeg
      · subst hq; rw [up1_eq, up1_eq]; show some (mAd sz ext b) = _; rw [had9]
      · rw [up1_ne hq, up1_ne hq])) hz) hS1 hL hM hn)
  · exact hK.elim
