theorem addC_keep {S : mS} {h : Nat × Nat} {w k : Nat} (hk : k ≠ sN S) : sH (addC S h w) k = sH S k ∧ sI (addC S h w) k = sI S k ∧ sJ (addC S h w) k = sJ S k ∧ sP (addC S h w) k = sP S k := ⟨up1_ne hk, up1_ne hk, up1_ne hk, up1_ne hk⟩
theorem addC_cell {S : mS} {h : Nat × Nat} {w k : Nat} {ad : Nat → Nat} {dA : Nat → ClassId} (hk : k ≠ sN S) : mCell ad dA (addC S h w) k = mCell ad dA S k := by
  obtain ⟨e, a1, a2, a3⟩ := addC_keep (S := S) (h := h) (w := w) hk
  have f1 : ∀ (ci : Nat), fls ad ci (addC S h w) k = fls ad ci S k := fun ci => by
    unfold fls
    congr 1
    funext j
    unfold fvl
    rw [a1, a2, a3]
  have f2 : ∀ t, acell ad (addC S h w) k t = acell ad S k t := fun t => by unfold acell; rw [a1, a2, a3]
  unfold mCell
  rw [e, f1, f2]
theorem addC_ws {S : mS} {h : Nat × Nat} {w sz : Nat} {ad : Nat → Nat} {dA : Nat → ClassId} : mWs ad dA sz (addC S h w) = mWs ad dA sz S ++ [(sz + sN S, mCell ad dA (addC S h w) (sN S))] := by
  have e : sN (addC S h w) = sN S + 1 := rfl
  unfold mWs
  rw [e, List.range_succ, List.map_append]
  congr 1
  apply List.map_congr_left
  intro k hk
  rw [addC_cell (Nat.ne_of_lt (List.mem_range.mp hk))]
theorem addC_rep {D : va_G} {dA : Nat → ClassId} {sz : Nat} {ext : Nat → Nat} {S : mS} {H H1 : Heap} {h : Nat × Nat} {w : Nat} (hR : mRep D dA sz ext S H) (hl : sN S < 1000000) (z1 : H1.size = H.size + 1) (o1 : ∀ q, q < H.size → H1[q]? = H[q]?) (he : va_at D vwCl (sz + sN S, mCell (mAd sz ext) dA (addC S h w) (sN S)) H1) : mRep D dA sz ext (addC S h w) H1 := by
  refine ⟨?_, ?_, ?_, fun k hk => ?_, ?_⟩
  · rw [addC_ws]
    refine (hR.1.kept (fun k q hq => o1 q.1 (hR.1 k q hq).lt)).app (fun k x hx => ?_)
    have hz : k < 1 := (List.getElem?_eq_some_iff.mp hx).1
    rw [show k = 0 by omega] at hx
    cases hx
    exact he
  · rw [addC_ws]
    exact hR.2.1.push hR.1 hR.2.2.1.symm (Nat.le_add_right _ _)
  · rw [z1, hR.2.2.1]; rfl
  · have hk2 : sN S + 1 ≤ k := hk
    rw [(addC_keep (S := S) (h := h) (w := w) (show k ≠ sN S by omega)).1]
    exact hR.2.2.2.1 k (by omega)
  · exact hl
theorem va_S_grow {A : Nat → Prop} {H0 H H1 : Heap} {locs : List Loc} (hS : va_S A H0 H locs) (z1 : H1.size = H.size + 1) (o1 : ∀ q, q < H.size → H1[q]? = H[q]?) : va_S A H0 H1 locs :=
  ⟨Nat.le_trans hS.1 (by omega), fun x h1 h2 => (o1 x (Nat.lt_of_lt_of_le h1 hS.1)).trans (hS.2.1 x h1 h2), hS.2.2⟩
def okind (ty : FieldType) : Bool := ikind ty || pkind ty || decide (ty = .long)
abbrev o_new (ci : Nat) (lim : Nat × Nat) (K : mK) : mK := fun ls st S => sN S < 1000000 ∧ sN S + 1 ≤ lim.1 ∧ sW S + mN ci ≤ lim.2 ∧ K ls (.ref (sN S) :: st) (addC S (ci, 0) (mN ci))
theorem m_new {κ : mX} {cc : ByteArray} {own : String} {dep : Nat} (C : mOk κ cc own dep) {pc : Nat} {K : mK} {ci index : Nat} {Cn : String} {T : u_T} (d : decode cc pc = .ok (.new index, 3)) (hc : mCls ci Cn T) (hk : ∀ j, j < mN ci → okind (mTy ci j) = true) (w1 : Cond.classLink own index Cn ∈ mU) (w2 : Cond.instantiable Cn (mN ci) ∈ mU) (w3 : Cond.initialized Cn ∈ mU) (h : mAt κ (pc + 3) K) : mAt κ pc (o_new ci (mLim κ) K) := by
  obtain ⟨⟨p, l, e, R, s⟩, ⟨m, args, below, meth, c⟩, ⟨D, dA, sz, ext, adV⟩, ⟨n0, w0, mc, ms⟩, Q⟩ := κ
  intro ls st S hK H locs M hR hS hL hM2 hn
  obtain ⟨hx, hb, hown, hts, hKn, hsz, hroom, hrc, hE⟩ := id C
  obtain ⟨g1, g2, g3, hK⟩ := hK
  replace g2 : sN S + 1 ≤ n0 + mc := g2
  replace g3 : sW S + mN ci ≤ w0 + ms := g3
  have hKc := hKn.1 ci _ hc.1
  refine W.newcK (g := F0 m pc M _) hx hb hown (hts _ w1) (hts _ w2) (hts _ w3) rfl d (by rw [hrc.1]; omega) (by rw [hrc.2]; omega) hKc.2.1 hR.2.2.1 fun H1 kC hkC e1 z1 o1 => ?_
  rw [← hR.2.2.1] at z1 o1
  have hcell : mCell (mAd sz ext) dA (addC S (ci, 0) (mN ci)) (sN S) = .inr (ci, fls (mAd sz ext) ci (addC S (ci, 0) (mN ci)) (sN S)) := cell_o (S := addC S (ci, 0) (mN ci)) (by show (up1 S.2.1 S.1.1 (ci, 0) S.1.1).1 = ci; rw [up1_eq]) hc.2.2.2.2
  have hR1 : mRep D dA sz ext (addC S (ci, 0) (mN ci)) H1 := by
    refine addC_rep hR g1 z1 o1 ?_
    rw [hcell]
    refine ⟨_, hc.1, (u_born (mTy ci) hts hc.2.1 hKc hkC e1 hc.2.2.1).to (fun j hj => ?_)⟩
    have hf := fls_at (ad := mAd sz ext) (S := addC S (ci, 0) (mN ci)) (a := sN S) hj
    show defaultValue (mTy ci j) = (fls (mAd sz ext) ci (addC S (ci, 0) (mN ci)) (sN S)).getD j .null
    rw [List.getD_eq_getElem?_getD, hf, Option.getD_some]
    have i1 : sI (addC S (ci, 0) (mN ci)) (sN S) j = 0 := by show up1 S.2.2.1 S.1.1 (fun _ => 0) S.1.1 j = 0; rw [up1_eq]
    have i2 : sJ (addC S (ci, 0) (mN ci)) (sN S) j = 0 := by show up1 S.2.2.2.1 S.1.1 (fun _ => 0) S.1.1 j = 0; rw [up1_eq]
    have i3 : sP (addC S (ci, 0) (mN ci)) (sN S) j = none := by show up1 S.2.2.2.2 S.1.1 (fun _ => none) S.1.1 j = none; rw [up1_eq]
    have hkj := hk j hj
    unfold fvl
    rw [i1, i2, i3]
    revert hkj
    cases mTy ci j <;> intro hkj <;> first | rfl | cases hkj
  have h3 := h _ _ _ hK H1 locs M hR1 (va_S_grow hS z1 o1) hL hM2 (by show n0 ≤ sN S + 1 ∧ sN S + 1 ≤ n0 + mc ∧ w0 ≤ sW S + mN ci ∧ sW S + mN ci ≤ w0 + ms; omega)
  have had : mAd sz ext (sN S) = sz + sN S := by unfold mAd; rw [if_pos g1]
  rw [show sN (addC S (ci, 0) (mN ci)) - n0 = sN S - n0 + 1 by show sN S + 1 - n0 = _; omega, show sW (addC S (ci, 0) (mN ci)) - w0 = sW S - w0 + mN ci by show sW S + mN ci - w0 = _; omega, List.map_cons, show cv (mAd sz ext) (.ref (sN S)) = .ref (sz + sN S) by show Value.ref _ = _; rw [had]] at h3
  exact h3
def natyp (t : Nat) : ArrayType := match t with
  | 1 => .long
  | 2 => .char
  | _ => .int
abbrev o_newa (t : Nat) (lim : Nat × Nat) (K : mK) : mK := fun ls st S => match st with
  | .int n :: st => ¬ n < 0 ∧ n.toNatClampNeg * 8 ≤ 536870912 ∧ sN S < 1000000 ∧ sN S + 1 ≤ lim.1 ∧ sW S + n.toNatClampNeg ≤ lim.2 ∧ K ls (.ref (sN S) :: st) (addC S (100 + t, n.toNatClampNeg) n.toNatClampNeg)
  | _ => False
theorem m_newa {κ : mX} {cc : ByteArray} {own : String} {dep : Nat} (C : mOk κ cc own dep) {pc : Nat} {K : mK} {t : Nat} (ht : t = 0 ∨ t = 1 ∨ t = 2) (d : decode cc pc = .ok (.newarray (natyp t), 2)) (w1 : Cond.arrayClass (newarray.typeOf (natyp t)) ∈ mU) (h : mAt κ (pc + 2) K) : mAt κ pc (o_newa t (mLim κ) K) := by
  obtain ⟨⟨p, l, e, R, s⟩, ⟨m, args, below, meth, c⟩, ⟨D, dA, sz, ext, adV⟩, ⟨n0, w0, mc, ms⟩, Q⟩ := κ
  intro ls st S hK H locs M hR hS hL hM2 hn
  obtain ⟨hx, hb, hown, hts, hKn, hsz, hroom, hrc, hE⟩ := id C
  unfold o_newa at hK
  split at hK
  · rename_i n st
    obtain ⟨p1, p2, g1, g2, g3, hK⟩ := hK
    replace g2 : sN S + 1 ≤ n0 + mc := g2
    replace g3 : sW S + n.toNatClampNeg ≤ w0 + ms := g3
    refine va_newaK (g := F0 m pc M _) hx hb (hts _ w1) rfl d rfl p1 rfl (by rcases ht with rfl | rfl | rfl <;> first | exact p2 | (refine Nat.le_trans (Nat.mul_le_mul_left _ ?_) p2; decide)) (by rw [hrc.1]; omega) (by rw [hrc.2]; omega) hR.2.2.1 fun H1 cA e1 z1 o1 hAr hNm => ?_
    rw [← hR.2.2.1] at z1 o1
    have hcA : cA = dA t := by
      have key : ∀ (k : Nat) (ty : FieldType), (mTys dA)[k]? = some (dA k, ty) → (∀ C, ty ≠ .object C) → s.vm.findClass ("[" ++ ty.toString) = some cA → cA = dA k := by
        intro k ty hk hne hf
        have hh := (hKn.2 k _ hk).2
        cases ty with
        | object C => exact absurd rfl (hne C)
        | _ => exact Option.some.inj (hf.symm.trans hh)
      rcases ht with rfl | rfl | rfl
      · exact key 0 .int rfl (fun _ q => by cases q) hNm
      · exact key 1 .long rfl (fun _ q => by cases q) hNm
      · exact key 2 .char rfl (fun _ q => by cases q) hNm
    have hR1 : mRep D dA sz ext (addC S (100 + t, n.toNatClampNeg) n.toNatClampNeg) H1 := by
      refine addC_rep hR g1 z1 o1 ?_
      have hsh : sH (addC S (100 + t, n.toNatClampNeg) n.toNatClampNeg) (sN S) = (100 + t, n.toNatClampNeg) := by show up1 S.2.1 S.1.1 _ S.1.1 = _; rw [up1_eq]
      have i1 : sI (addC S (100 + t, n.toNatClampNeg) n.toNatClampNeg) (sN S) = fun _ => 0 := by show up1 S.2.2.1 S.1.1 (fun _ => 0) S.1.1 = _; rw [up1_eq]
      have i2 : sJ (addC S (100 + t, n.toNatClampNeg) n.toNatClampNeg) (sN S) = fun _ => 0 := by show up1 S.2.2.2.1 S.1.1 (fun _ => 0) S.1.1 = _; rw [up1_eq]
      rw [cell_a (S := addC S (100 + t, n.toNatClampNeg) n.toNatClampNeg) (t := t) (by rw [hsh]), hsh, ← hcA]
      show H1[sz + sN S]? = some (vp_cell cA (n.toNatClampNeg, _))
      rw [e1]
      unfold acell
      rcases ht with rfl | rfl | rfl
      · rw [i1]; rfl
      · rw [i2]; rfl
      · rw [i1]; rfl
    have h3 := h _ _ _ hK H1 locs M hR1 (va_S_grow hS z1 o1) hL hM2 (by show n0 ≤ sN S + 1 ∧ sN S + 1 ≤ n0 + mc ∧ w0 ≤ sW S + n.toNatClampNeg ∧ sW S + n.toNatClampNeg ≤ w0 + ms; omega)
    have had : mAd sz ext (sN S) = sz + sN S := by unfold mAd; rw [if_pos g1]
    rw [show sN (addC S (100 + t, n.toNatClampNeg) n.toNatClampNeg) - n0 = sN S - n0 + 1 by show sN S + 1 - n0 = _; omega, show sW (addC S (100 + t, n.toNatClampNeg) n.toNatClampNeg) - w0 = sW S - w0 + n.toNatClampNeg by show sW S + n.toNatClampNeg - w0 = _; omega, List.map_cons, show cv (mAd sz ext) (.ref (sN S)) = .ref (sz + sN S) by show Value.ref _ = _; rw [had]] at h3
    exact h3
  · exact hK.elim
abbrev o_anew (lim : Nat × Nat) (K : mK) : mK := fun ls st S => match st with
  | .int n :: st => ¬ n < 0 ∧ n.toNatClampNeg * 4 ≤ 536870912 ∧ sN S < 1000000 ∧ sN S + 1 ≤ lim.1 ∧ sW S + n.toNatClampNeg ≤ lim.2 ∧ K ls (.ref (sN S) :: st) (addC S (103, n.toNatClampNeg) n.toNatClampNeg)
  | _ => False
theorem m_anew {κ : mX} {cc : ByteArray} {own : String} {dep : Nat} (C : mOk κ cc own dep) {pc : Nat} {K : mK} {index : Nat} (d : decode cc pc = .ok (.anewarray index, 3)) (w1 : Cond.classLink own index RX9 ∈ mU) (h : mAt κ (pc + 3) K) : mAt κ pc (o_anew (mLim κ) K) := by
  obtain ⟨⟨p, l, e, R, s⟩, ⟨m, args, below, meth, c⟩, ⟨D, dA, sz, ext, adV⟩, ⟨n0, w0, mc, ms⟩, Q⟩ := κ
  intro ls st S hK H locs M hR hS hL hM2 hn
  obtain ⟨hx, hb, hown, hts, hKn, hsz, hroom, hrc, hE⟩ := id C
  unfold o_anew at hK
  split at hK
  · rename_i n st
    obtain ⟨p1, p2, g1, g2, g3, hK⟩ := hK
    replace g2 : sN S + 1 ≤ n0 + mc := g2
    replace g3 : sW S + n.toNatClampNeg ≤ w0 + ms := g3
    refine W.anew (g := F0 m pc M _) hx hb hown (hts _ w1) (va_AO.use hE.2.1) rfl d rfl p1 p2 (by rw [hrc.1]; omega) (by rw [hrc.2]; omega) fun cA kA comp f1 f2 f3 f4 => ?_
    generalize hH1 : H.push ({ cls := cA, slots := Array.replicate n.toNatClampNeg .null, vm := .none } : Cell) = H1
    have z1 : H1.size = H.size + 1 := by rw [← hH1, Array.size_push]
    have e1 : H1[H.size]? = some (arrV cA n.toNatClampNeg (fun _ => .null)) := by rw [← hH1, Array.getElem?_push_size, ← arrV_new]
    have o1 : ∀ q : Nat, q < H.size → H1[q]? = H[q]? := fun q hq => by rw [← hH1, Array.getElem?_push, if_neg (Nat.ne_of_lt hq)]
    have hcA : cA = dA 3 := by
      obtain ⟨kA2, comp2, -, -, -, k4⟩ := (hKn.2 3 (dA 3, .object RX9) rfl).2
      exact Option.some.inj (f1.symm.trans k4)
    have hR1 : mRep D dA sz ext (addC S (103, n.toNatClampNeg) n.toNatClampNeg) H1 := by
      refine addC_rep hR g1 z1 o1 ?_
      have hsh : sH (addC S (103, n.toNatClampNeg) n.toNatClampNeg) (sN S) = (103, n.toNatClampNeg) := by show up1 S.2.1 S.1.1 _ S.1.1 = _; rw [up1_eq]
      have i3 : sP (addC S (103, n.toNatClampNeg) n.toNatClampNeg) (sN S) = fun _ => none := by show up1 S.2.2.2.2 S.1.1 (fun _ => none) S.1.1 = _; rw [up1_eq]
      rw [cell_a (S := addC S (103, n.toNatClampNeg) n.toNatClampNeg) (t := 3) (by rw [hsh]), hsh, ← hcA]
      show H1[sz + sN S]? = some (vp_cell cA (n.toNatClampNeg, _))
      rw [← hR.2.2.1, e1]
      unfold acell
      rw [i3]; rfl
    have h3 := h _ _ _ hK H1 locs M hR1 (va_S_grow hS z1 o1) hL hM2 (by show n0 ≤ sN S + 1 ∧ sN S + 1 ≤ n0 + mc ∧ w0 ≤ sW S + n.toNatClampNeg ∧ sW S + n.toNatClampNeg ≤ w0 + ms; omega)
    have had : mAd sz ext (sN S) = H.size := by unfold mAd; rw [if_pos g1, hR.2.2.1]
    rw [show sN (addC S (103, n.toNatClampNeg) n.toNatClampNeg) - n0 = sN S - n0 + 1 by show sN S + 1 - n0 = _; omega, show sW (addC S (103, n.toNatClampNeg) n.toNatClampNeg) - w0 = sW S - w0 + n.toNatClampNeg by show sW S + n.toNatClampNeg - w0 = _; omega, List.map_cons, show cv (mAd sz ext) (.ref (sN S)) = .ref H.size by show Value.ref _ = _; rw [had]] at h3
    exact h3
  · exact hK.elim
abbrev o_objinit (K : mK) : mK := fun ls st S => match st with
  | .ref _ :: st => gd (Nat.ble st.length 4) (K ls st S)
  | _ => False
theorem m_objinit {κ : mX} {cc : ByteArray} {own : String} {dep : Nat} (C : mOk κ cc own dep) {pc : Nat} {K : mK} {index : Nat} (d : decode cc pc = .ok (.invokespecial index, 3)) (hd : 1 ≤ dep) (w1 : Cond.methodLink own index Lib.objectInit ∈ mU) (w2 : Cond.instanceMethod Lib.objectInit ∈ mU) (w3 : Cond.code Lib.objectInit ⟨#[0xb1]⟩ 1 none ∈ mU) (h : mAt κ (pc + 3) K) : mAt κ pc (o_objinit K) := by
  obtain ⟨⟨p, l, e, R, s⟩, ⟨m, args, below, meth, c⟩, ⟨D, dA, sz, ext, adV⟩, ⟨n0, w0, mc, ms⟩, Q⟩ := κ
  intro ls st S hK H locs M hR hS hL hM2 hn
  obtain ⟨hx, hb, hown, hts, hKn, hsz, hroom, hrc, hE⟩ := id C
  unfold o_objinit at hK
  split at hK
  · rename_i a st
    obtain ⟨hg, hK⟩ := gd_of hK
    have g2 := Nat.le_of_ble_eq_true hg
    refine W.objInit (g := F0 m pc M _) hx hb hown (hts _ w1) (hts _ w2) (hts _ w3) rfl hM2.symm rfl d (Nat.le_trans hd hroom.1) ?_ (h _ _ _ hK H locs M hR hS hL hM2 hn)
    have := cat_sum (mAd sz ext) st
    have := hroom.2
    show 2 * 0 + _ + 12 ≤ _
    omega
  · exact hK.elim
abbrev o_copy (K : mK) : mK := fun ls st S => match st with
  | .int n :: .int dp :: .ref b :: .int sp :: .ref a :: st => gd (Nat.beq (sH S a).1 100 && (Nat.beq (sH S b).1 100 && Nat.ble st.length 4)) ((¬ sp < 0 ∧ ¬ dp < 0 ∧ ¬ n < 0 ∧ sp.toNatClampNeg + n.toNatClampNeg ≤ (sH S a).2 ∧ dp.toNatClampNeg + n.toNatClampNeg ≤ (sH S b).2) ∧ K ls st (setIr S b (va_cpy (sI S a) (sI S b) sp.toNatClampNeg dp.toNatClampNeg n.toNatClampNeg)))
  | _ => False
theorem m_copy {κ : mX} {cc : ByteArray} {own : String} {dep : Nat} (C : mOk κ cc own dep) {pc : Nat} {K : mK} {index : Nat} (d : decode cc pc = .ok (.invokestatic index, 3)) (hd : 1 ≤ dep) (w1 : Cond.methodLink own index arraycopyName ∈ mU) (w2 : Cond.native arraycopyName ∈ mU) (w3 : Cond.static arraycopyName ∈ mU) (w4 : Cond.initialized "java/lang/System" ∈ mU) (h : mAt κ (pc + 3) K) : mAt κ pc (o_copy K) := by
  obtain ⟨⟨p, l, e, R, s⟩, ⟨m, args, below, meth, c⟩, ⟨D, dA, sz, ext, adV⟩, ⟨n0, w0, mc, ms⟩, Q⟩ := κ
  intro ls st S hK H locs M hR hS hL hM2 hn
  obtain ⟨hx, hb, hown, hts, hKn, hsz, hroom, hrc, hE⟩ := id C
  unfold o_copy at hK
  split at hK
  · rename_i n dp b sp a st
    obtain ⟨hg, ⟨q1, q2, q3, q4, q5⟩, hK⟩ := gd_of hK
    rw [Bool.and_eq_true, Bool.and_eq_true] at hg
    have ga := beq_of hg.1
    have gb := beq_of hg.2.1
    have gl := Nat.le_of_ble_eq_true hg.2.2
    obtain ⟨hla, hada⟩ := sH_lt hR ga (by omega)
    obtain ⟨hlb, hadb⟩ := sH_lt hR gb (by omega)
    have hea := mWs_at (ad := mAd sz ext) (dA := dA) (sz := sz) hla
    rw [cell_a (t := 0) ga] at hea
    have heb := mWs_at (ad := mAd sz ext) (dA := dA) (sz := sz) hlb
    rw [cell_a (t := 0) gb] at heb
    have hce := cell_a (ad := mAd sz ext) (dA := dA) (S := setIr S b (va_cpy (sI S a) (sI S b) sp.toNatClampNeg dp.toNatClampNeg n.toNatClampNeg)) (a := b) (t := 0) gb
    show W p l e R s m args below meth c H locs _ _ Q (F0 m pc M (Value.int n :: Value.int dp :: Value.ref (mAd sz ext b) :: Value.int sp :: Value.ref (mAd sz ext a) :: st.map (cv (mAd sz ext))))
    rw [hada, hadb]
    refine wa_copyi (D := D) (ws := mWs (mAd sz ext) dA sz S) hx hb hM2 hown (hts _ w1) (hts _ w2) (hts _ w3) (hts _ w4) hKn hR.1 hR.2.1 hS a b 0 hea heb rfl q1 q2 q3 q4 q5 (Nat.le_trans hd hroom.1) ?_ d (fun H1 locs1 hP hD hS1 hz => h _ _ _ hK H1 locs1 M ((same_Ir S b _).rep hR hP hD (hce.trans (by simp only [acell]; rw [setIr_at]; rfl)) hz) hS1 hL hM2 hn)
    have := cat_sum (mAd sz ext) st
    have := hroom.2
    have h9 : nativeFrameWords "java/lang/System" "arraycopy" 5 ≤ 60 := by decide +kernel
    omega
  · exact hK.elim
-- switches
def swp (x : Int32) : List (Int32 × mK) → mK → mK
  | [], Kd => Kd
  | (v, K) :: r, Kd => fun ls st S => (x = v → K ls st S) ∧ (¬ x = v → swp x r Kd ls st S)
abbrev o_sw (cs : List (Int32 × mK)) (Kd : mK) : mK := fun ls st S => match st with
  | .int x :: st => swp x cs Kd ls st S
  | _ => False
theorem swp_miss {x : Int32} {Kd : mK} {ls : mL} {st : List Value} {S : mS} : ∀ (cs : List (Int32 × mK)), (∀ q ∈ cs, ¬ x = q.1) → swp x cs Kd ls st S → Kd ls st S
  | [], _, h => h
  | (v, K) :: r, hn, h => swp_miss r (fun q hq => hn q (List.mem_cons_of_mem _ hq)) (h.2 (hn (v, K) List.mem_cons_self))
theorem swp_hit {x : Int32} {Kd K : mK} {ls : mL} {st : List Value} {S : mS} : ∀ (cs : List (Int32 × mK)) (i : Nat), cs[i]? = some (x, K) → (∀ j q, j < i → cs[j]? = some q → ¬ x = q.1) → swp x cs Kd ls st S → K ls st S
  | [], i, h, _, _ => by simp at h
  | (v, K1) :: r, 0, h, _, hs => by
    simp at h
    obtain ⟨rfl, rfl⟩ := h
    exact hs.1 rfl
  | (v, K1) :: r, i + 1, h, hn, hs => swp_hit r i h (fun j q hj hq => hn (j + 1) q (by omega) hq) (hs.2 (hn 0 (v, K1) (by omega) rfl))
theorem m_table {κ : mX} {cc : ByteArray} {own : String} {dep : Nat} (C : mOk κ cc own dep) {pc len tD : Nat} {dflt lo hi : Int} {offs : Array Int} {cs : List (Int32 × mK)} {tg : List Nat} {Kd : mK} (d : decode cc pc = .ok (.tableswitch dflt lo hi offs, len)) (hv : ∀ (i : Nat) (q : Int32 × mK), cs[i]? = some q → q.1.toInt = lo + (i : Int)) (hh : hi + 1 = lo + cs.length) (ho : offs.toList = tg.map (fun (t : Nat) => (t : Int) - (pc : Int))) (hl : tg.length = cs.length) (hD : (pc : Int) + dflt = (tD : Int)) (h1 : ∀ (i : Nat) (q : Int32 × mK) (t : Nat), cs[i]? = some q → tg[i]? = some t → mAt κ t q.2) (h2 : mAt κ tD Kd) : mAt κ pc (o_sw cs Kd) := by
  obtain ⟨⟨p, l, e, R, s⟩, ⟨m, args, below, meth, c⟩, ⟨D, dA, sz, ext, adV⟩, ⟨n0, w0, mc, ms⟩, Q⟩ := κ
  intro ls st S hK H locs M hR hS hL hM2 hn
  unfold o_sw at hK
  split at hK
  · rename_i x st
    by_cases hx : x.toInt < lo ∨ hi < x.toInt
    · refine lv_tableOut C.1 C.2.1 d hx hD (h2 _ _ _ (swp_miss cs (fun q hq e => ?_) hK) H locs M hR hS hL hM2 hn)
      obtain ⟨i, hi2⟩ := List.getElem?_of_mem hq
      have := hv i q hi2
      have hlt := (List.getElem?_eq_some_iff.mp hi2).1
      rw [← e] at this
      omega
    · have hi1 : (x.toInt - lo).toNat < cs.length := by omega
      have ht : (x.toInt - lo).toNat < tg.length := by omega
      obtain ⟨q, hq⟩ : ∃ q, cs[(x.toInt - lo).toNat]? = some q := ⟨_, List.getElem?_eq_getElem hi1⟩
      obtain ⟨t, htt⟩ : ∃ t, tg[(x.toInt - lo).toNat]? = some t := ⟨_, List.getElem?_eq_getElem ht⟩
      have hvq := hv _ q hq
      have hxq : x = q.1 := Int32.toInt_inj.mp (by rw [hvq]; omega)
      refine lv_tableIn (off := (t : Int) - pc) (tgt := t) C.1 C.2.1 d (fun z => hx (Or.inl z)) (fun z => hx (Or.inr z)) ?_ (by omega) (h1 _ q t hq htt _ _ _ (swp_hit cs _ (K := q.2) (by rw [hq, hxq]) (fun j r hj hr e => ?_) hK) H locs M hR hS hL hM2 hn)
      · rw [← Array.getElem?_toList, ho, List.getElem?_map, htt]; rfl
      · have := hv j r hr
        rw [← e] at this
        omega
  · exact hK.elim
theorem m_lookup {κ : mX} {cc : ByteArray} {own : String} {dep : Nat} (C : mOk κ cc own dep) {pc len tD : Nat} {dflt : Int} {ps : Array (Int × Int)} {cs : List (Int32 × mK)} {tg : List Nat} {Kd : mK} (d : decode cc pc = .ok (.lookupswitch dflt ps, len)) (hp : (ps.toList.zip (ps.toList.drop 1)).all (fun (a, next) => a.1 < next.1) = true) (ho : ps.toList = (cs.zip tg).map (fun (q : (Int32 × mK) × Nat) => (q.1.1.toInt, (q.2 : Int) - (pc : Int)))) (hl : tg.length = cs.length) (hD : (pc : Int) + dflt = (tD : Int)) (h1 : ∀ (i : Nat) (q : Int32 × mK) (t : Nat), cs[i]? = some q → tg[i]? = some t → mAt κ t q.2) (h2 : mAt κ tD Kd) : mAt κ pc (o_sw cs Kd) := by
  obtain ⟨⟨p, l, e, R, s⟩, ⟨m, args, below, meth, c⟩, ⟨D, dA, sz, ext, adV⟩, ⟨n0, w0, mc, ms⟩, Q⟩ := κ
  intro ls st S hK H locs M hR hS hL hM2 hn
  unfold o_sw at hK
  split at hK
  · rename_i x st
    have key : ∀ (cs : List (Int32 × mK)) (tg : List Nat), tg.length = cs.length → (∀ (i : Nat) (q : Int32 × mK) (t : Nat), cs[i]? = some q → tg[i]? = some t → mAt ((p, l, e, R, s), (m, args, below, meth, c), (D, dA, sz, ext, adV), (n0, w0, mc, ms), Q) t q.2) → swp x cs Kd ls st S →
        ∃ (t : Nat) (K : mK), (pc : Int) + Op.lookupswitch.offset ((cs.zip tg).map (fun (q : (Int32 × mK) × Nat) => (q.1.1.toInt, (q.2 : Int) - (pc : Int)))) dflt x.toInt = t ∧ K ls st S ∧ mAt ((p, l, e, R, s), (m, args, below, meth, c), (D, dA, sz, ext, adV), (n0, w0, mc, ms), Q) t K := by
      intro cs
      induction cs with
      | nil => intro tg _ _ hs; exact ⟨tD, Kd, hD, hs, h2⟩
      | cons q r ih =>
        intro tg hlen hat hs
        cases tg with
        | nil => cases hlen
        | cons t tr =>
          rw [List.zip_cons_cons, List.map_cons, Op.lookupswitch.offset_cons]
          by_cases e : x = q.1
          · refine ⟨t, q.2, ?_, hs.1 e, hat 0 q t rfl rfl⟩
            rw [if_pos (by first | rw [e] | (rw [e]))]
            omega
          · rw [if_neg (fun z => e (Int32.toInt_inj.mp (by first | exact z.symm | exact z)))]
            exact ih tr (by simpa using hlen) (fun i q2 t2 hq ht => hat (i + 1) q2 t2 hq ht) (hs.2 e)
    obtain ⟨t, K, e1, e2, e3⟩ := key cs tg hl h1 hK
    exact lv_lookup C.1 C.2.1 d hp (by rw [ho]) e1 (e3 _ _ _ e2 H locs M hR hS hL hM2 hn)
  · exact hK.elim
