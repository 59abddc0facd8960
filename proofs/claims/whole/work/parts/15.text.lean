theorem dJ0_length_8abf5_0 : decode cJ0_length_8abf5 0 = .ok (.aload_n 0, 1) := by decide +kernel
theorem dJ0_length_8abf5_1 : decode cJ0_length_8abf5 1 = .ok (.getfield 9, 3) := by decide +kernel
theorem dJ0_length_8abf5_4 : decode cJ0_length_8abf5 4 = .ok (.arraylength, 1) := by decide +kernel
theorem dJ0_length_8abf5_5 : decode cJ0_length_8abf5 5 = .ok (.aload_n 0, 1) := by decide +kernel
theorem dJ0_length_8abf5_6 : decode cJ0_length_8abf5 6 = .ok (.invokevirtual 335, 3) := by decide +kernel
theorem dJ0_length_8abf5_9 : decode cJ0_length_8abf5 9 = .ok (.ishr, 1) := by decide +kernel
theorem dJ0_length_8abf5_10 : decode cJ0_length_8abf5 10 = .ok (.ireturn, 1) := by decide +kernel
theorem dJ0_charAt_5068e_0 : decode cJ0_charAt_5068e 0 = .ok (.aload_n 0, 1) := by decide +kernel
theorem dJ0_charAt_5068e_1 : decode cJ0_charAt_5068e 1 = .ok (.invokevirtual 492, 3) := by decide +kernel
theorem dJ0_charAt_5068e_4 : decode cJ0_charAt_5068e 4 = .ok (.ifCond .eq 12, 3) := by decide +kernel
theorem dJ0_charAt_5068e_7 : decode cJ0_charAt_5068e 7 = .ok (.aload_n 0, 1) := by decide +kernel
theorem dJ0_charAt_5068e_8 : decode cJ0_charAt_5068e 8 = .ok (.getfield 9, 3) := by decide +kernel
theorem dJ0_charAt_5068e_11 : decode cJ0_charAt_5068e 11 = .ok (.iload_n 1, 1) := by decide +kernel
theorem dJ0_charAt_5068e_12 : decode cJ0_charAt_5068e 12 = .ok (.invokestatic 495, 3) := by decide +kernel
theorem dJ0_charAt_5068e_15 : decode cJ0_charAt_5068e 15 = .ok (.ireturn, 1) := by decide +kernel
theorem dJ0_charAt_5068e_16 : decode cJ0_charAt_5068e 16 = .ok (.aload_n 0, 1) := by decide +kernel
theorem dJ0_charAt_5068e_17 : decode cJ0_charAt_5068e 17 = .ok (.getfield 9, 3) := by decide +kernel
theorem dJ0_charAt_5068e_20 : decode cJ0_charAt_5068e 20 = .ok (.iload_n 1, 1) := by decide +kernel
theorem dJ0_charAt_5068e_21 : decode cJ0_charAt_5068e 21 = .ok (.invokestatic 498, 3) := by decide +kernel
theorem dJ0_charAt_5068e_24 : decode cJ0_charAt_5068e 24 = .ok (.ireturn, 1) := by decide +kernel
theorem dJ0_coder_7d493_0 : decode cJ0_coder_7d493 0 = .ok (.getstatic 38, 3) := by decide +kernel
theorem dJ0_coder_7d493_3 : decode cJ0_coder_7d493 3 = .ok (.ifCond .eq 10, 3) := by decide +kernel
theorem dJ0_coder_7d493_6 : decode cJ0_coder_7d493 6 = .ok (.aload_n 0, 1) := by decide +kernel
theorem dJ0_coder_7d493_7 : decode cJ0_coder_7d493 7 = .ok (.getfield 15, 3) := by decide +kernel
theorem dJ0_coder_7d493_10 : decode cJ0_coder_7d493 10 = .ok (.goto 4, 3) := by decide +kernel
theorem dJ0_coder_7d493_13 : decode cJ0_coder_7d493 13 = .ok (.iconst 1, 1) := by decide +kernel
theorem dJ0_coder_7d493_14 : decode cJ0_coder_7d493 14 = .ok (.ireturn, 1) := by decide +kernel
theorem dJ0_isLatin1_aae02_0 : decode cJ0_isLatin1_aae02 0 = .ok (.getstatic 38, 3) := by decide +kernel
theorem dJ0_isLatin1_aae02_3 : decode cJ0_isLatin1_aae02 3 = .ok (.ifCond .eq 14, 3) := by decide +kernel
theorem dJ0_isLatin1_aae02_6 : decode cJ0_isLatin1_aae02 6 = .ok (.aload_n 0, 1) := by decide +kernel
theorem dJ0_isLatin1_aae02_7 : decode cJ0_isLatin1_aae02 7 = .ok (.getfield 15, 3) := by decide +kernel
theorem dJ0_isLatin1_aae02_10 : decode cJ0_isLatin1_aae02 10 = .ok (.ifCond .ne 7, 3) := by decide +kernel
theorem dJ0_isLatin1_aae02_13 : decode cJ0_isLatin1_aae02 13 = .ok (.iconst 1, 1) := by decide +kernel
theorem dJ0_isLatin1_aae02_14 : decode cJ0_isLatin1_aae02 14 = .ok (.goto 4, 3) := by decide +kernel
theorem dJ0_isLatin1_aae02_17 : decode cJ0_isLatin1_aae02 17 = .ok (.iconst 0, 1) := by decide +kernel
theorem dJ0_isLatin1_aae02_18 : decode cJ0_isLatin1_aae02 18 = .ok (.ireturn, 1) := by decide +kernel
theorem dJ0_checkIndex_df160_0 : decode cJ0_checkIndex_df160 0 = .ok (.iload_n 0, 1) := by decide +kernel
theorem dJ0_checkIndex_df160_1 : decode cJ0_checkIndex_df160 1 = .ok (.iload_n 1, 1) := by decide +kernel
theorem dJ0_checkIndex_df160_2 : decode cJ0_checkIndex_df160 2 = .ok (.getstatic 1053, 3) := by decide +kernel
theorem dJ0_checkIndex_df160_5 : decode cJ0_checkIndex_df160 5 = .ok (.invokestatic 1059, 3) := by decide +kernel
theorem dJ0_checkIndex_df160_8 : decode cJ0_checkIndex_df160 8 = .ok (.pop, 1) := by decide +kernel
theorem dJ0_checkIndex_df160_9 : decode cJ0_checkIndex_df160 9 = .ok (.return_, 1) := by decide +kernel
theorem dJ1_charAt_3b067_0 : decode cJ1_charAt_3b067 0 = .ok (.iload_n 1, 1) := by decide +kernel
theorem dJ1_charAt_3b067_1 : decode cJ1_charAt_3b067 1 = .ok (.aload_n 0, 1) := by decide +kernel
theorem dJ1_charAt_3b067_2 : decode cJ1_charAt_3b067 2 = .ok (.arraylength, 1) := by decide +kernel
theorem dJ1_charAt_3b067_3 : decode cJ1_charAt_3b067 3 = .ok (.invokestatic 9, 3) := by decide +kernel
theorem dJ1_charAt_3b067_6 : decode cJ1_charAt_3b067 6 = .ok (.aload_n 0, 1) := by decide +kernel
theorem dJ1_charAt_3b067_7 : decode cJ1_charAt_3b067 7 = .ok (.iload_n 1, 1) := by decide +kernel
theorem dJ1_charAt_3b067_8 : decode cJ1_charAt_3b067 8 = .ok (.baload, 1) := by decide +kernel
theorem dJ1_charAt_3b067_9 : decode cJ1_charAt_3b067 9 = .ok (.sipush 255, 3) := by decide +kernel
theorem dJ1_charAt_3b067_12 : decode cJ1_charAt_3b067 12 = .ok (.iand, 1) := by decide +kernel
theorem dJ1_charAt_3b067_13 : decode cJ1_charAt_3b067 13 = .ok (.i2c, 1) := by decide +kernel
theorem dJ1_charAt_3b067_14 : decode cJ1_charAt_3b067 14 = .ok (.ireturn, 1) := by decide +kernel
theorem dJ3_checkIndex_8e157_0 : decode cJ3_checkIndex_8e157 0 = .ok (.iload_n 0, 1) := by decide +kernel
theorem dJ3_checkIndex_8e157_1 : decode cJ3_checkIndex_8e157 1 = .ok (.ifCond .lt 8, 3) := by decide +kernel
theorem dJ3_checkIndex_8e157_4 : decode cJ3_checkIndex_8e157 4 = .ok (.iload_n 0, 1) := by decide +kernel
theorem dJ3_checkIndex_8e157_5 : decode cJ3_checkIndex_8e157 5 = .ok (.iload_n 1, 1) := by decide +kernel
theorem dJ3_checkIndex_8e157_6 : decode cJ3_checkIndex_8e157 6 = .ok (.if_icmp .lt 10, 3) := by decide +kernel
theorem dJ3_checkIndex_8e157_9 : decode cJ3_checkIndex_8e157 9 = .ok (.aload_n 2, 1) := by decide +kernel
theorem dJ3_checkIndex_8e157_10 : decode cJ3_checkIndex_8e157 10 = .ok (.iload_n 0, 1) := by decide +kernel
theorem dJ3_checkIndex_8e157_11 : decode cJ3_checkIndex_8e157 11 = .ok (.iload_n 1, 1) := by decide +kernel
theorem dJ3_checkIndex_8e157_12 : decode cJ3_checkIndex_8e157 12 = .ok (.invokestatic 95, 3) := by decide +kernel
theorem dJ3_checkIndex_8e157_15 : decode cJ3_checkIndex_8e157 15 = .ok (.athrow, 1) := by decide +kernel
theorem dJ3_checkIndex_8e157_16 : decode cJ3_checkIndex_8e157 16 = .ok (.iload_n 0, 1) := by decide +kernel
theorem dJ3_checkIndex_8e157_17 : decode cJ3_checkIndex_8e157 17 = .ok (.ireturn, 1) := by decide +kernel
theorem cwT_o : mCw RJ0 335 yJ0_coder_7d493 cJ0_coder_7d493 1 (some .byte) 0 := ⟨wt_495, wt_14, wt_498, ⟨nc_22.1, nc_22.2, pd_44⟩, by decide⟩
theorem cwT_i : mCw RJ0 492 yJ0_isLatin1_aae02 cJ0_isLatin1_aae02 1 (some .boolean) 0 := ⟨wt_505, wt_14, wt_508, ⟨nc_22.1, nc_22.2, pd_15⟩, by decide⟩
theorem cwT_1 : mCw RJ0 495 yJ1_charAt_3b067 cJ1_charAt_3b067 2 (some .char) 2 := ⟨wt_509, wt_15, wt_511, ⟨nc_23.1, nc_23.2, pd_45⟩, by decide⟩
theorem cwT_k : mCw RJ1 9 yJ0_checkIndex_df160 cJ0_checkIndex_df160 2 none 2 := ⟨wt_512, wt_14, wt_514, ⟨nc_22.1, nc_22.2, pd_7⟩, by decide⟩
theorem cwT_p : mCw RJ0 1059 yJ3_checkIndex_8e157 cJ3_checkIndex_8e157 3 (some .int) 3 := ⟨wt_517, wt_16, wt_519, ⟨nc_24.1, nc_24.2, pd_46⟩, by decide⟩
theorem cwT_l {own : String} {index : Nat} (w : Cond.methodLink own index yJ0_length_8abf5 ∈ mU) : mCw own index yJ0_length_8abf5 cJ0_length_8abf5 1 (some .int) 0 := ⟨w, wt_14, wt_494, ⟨nc_22.1, nc_22.2, pd_6⟩, by decide⟩
theorem cwT_c {own : String} {index : Nat} (w : Cond.methodLink own index yJ0_charAt_5068e ∈ mU) : mCw own index yJ0_charAt_5068e cJ0_charAt_5068e 2 (some .char) 1 := ⟨w, wt_14, wt_504, ⟨nc_22.1, nc_22.2, pd_47⟩, by decide⟩
theorem sn_at {t : Nat} (h : snB t = true) : sIx t < mStrN ∧ t = 1000001 + (sIx t) := by
  unfold snB at h
  simp only [Bool.and_eq_true, Nat.ble_eq] at h
  unfold mStrN sIx
  omega
theorem sn_ad {sz t : Nat} {ext : Nat → Nat} (h : snB t = true) : mAd sz ext t = ext (sIx t + 1) := by
  obtain ⟨h1, h2⟩ := sn_at h
  unfold mAd
  rw [if_neg (by omega)]
  exact congrArg ext (by omega)
theorem sb_ad {sz t : Nat} {ext : Nat → Nat} (h : snB t = true) : mAd sz ext (t + 1000000) = ext (1000001 + (sIx t)) := by
  obtain ⟨h1, h2⟩ := sn_at h
  unfold mAd
  rw [if_neg (by omega)]
  exact congrArg ext (by omega)
theorem s_all {i : Nat} (h : i < mStrN) : Int32.ofNat (mStrB i).length >>> ((0 : Int32) &&& 31) = Int32.ofNat (mStrB i).length ∧ (mStrB i).length < 1000 ∧ (mStrB i).all (fun b => decide (((b &&& 255).toUInt32 % 65536).toInt32 = b)) = true := by
  exact (by decide +kernel : ∀ i, i < mStrN → Int32.ofNat (mStrB i).length >>> ((0 : Int32) &&& 31) = Int32.ofNat (mStrB i).length ∧ (mStrB i).length < 1000 ∧ (mStrB i).all (fun b => decide (((b &&& 255).toUInt32 % 65536).toInt32 = b)) = true) i h
theorem m_gets1 {κ : mX} {cc : ByteArray} {own : String} {dep : Nat} (C : mOk κ cc own dep) {pc index : Nat} {K : mK} (d : decode cc pc = .ok (.getstatic index, 3)) (w : Cond.fieldLink own index "java/lang/String" "COMPACT_STRINGS" "Z" ∈ mU) (h : mAt κ (pc + 3) K) : mAt κ pc (o_push (.int 1) K) := by
  obtain ⟨⟨p, l, e, R, s⟩, ⟨m, args, below, meth, c⟩, ⟨D, dA, sz, ext, adV⟩, ⟨n0, w0, mc, ms⟩, Q⟩ := κ
  intro ls st S hK H locs M hR hS hL hM2 hn
  obtain ⟨hx, hb, hown, hts, hKn, hsz, hroom, hrc, hE⟩ := id C
  exact va_gets hx hb hE.2.2.2.1 hS hown (hts _ w) (fun _ q => q) d (h _ _ _ hK H locs M hR hS hL hM2 hn)
abbrev o_getsF (K : mK) : mK := fun ls st S => K ls (.null :: st) S ∧ K ls (.ref 1500000 :: st) S
theorem m_getsF {κ : mX} {cc : ByteArray} {own : String} {dep : Nat} (C : mOk κ cc own dep) {pc index : Nat} {K : mK} (d : decode cc pc = .ok (.getstatic index, 3)) (w : Cond.fieldLink own index "jdk/internal/util/Preconditions" "SIOOBE_FORMATTER" "Ljava/util/function/BiFunction;" ∈ mU) (h : mAt κ (pc + 3) K) : mAt κ pc (o_getsF K) := by
  obtain ⟨⟨p, l, e, R, s⟩, ⟨m, args, below, meth, c⟩, ⟨D, dA, sz, ext, adV⟩, ⟨n0, w0, mc, ms⟩, Q⟩ := κ
  intro ls st S hK H locs M hR hS hL hM2 hn
  obtain ⟨hx, hb, hown, hts, hKn, hsz, hroom, hrc, hE⟩ := id C
  rcases hE.2.2.2.2.1 with hZ | hZ
  · exact va_gets hx hb hZ hS hown (hts _ w) (fun _ q => q) d (h _ _ _ hK.1 H locs M hR hS hL hM2 hn)
  · have h3 := h _ _ _ hK.2 H locs M hR hS hL hM2 hn
    have had : mAd sz ext 1500000 = ext 500000 := by unfold mAd; rw [if_neg (by decide)]
    rw [List.map_cons, show cv (mAd sz ext) (.ref 1500000) = .ref (ext 500000) by show Value.ref _ = _; rw [had]] at h3
    exact va_gets hx hb hZ hS hown (hts _ w) (fun _ q => q) d h3
abbrev o_scod (K : mK) : mK := fun ls st S => match st with
  | .ref t :: st => snB t = true ∧ K ls (.int 0 :: st) S
  | _ => False
theorem m_scod {κ : mX} {cc : ByteArray} {own : String} {dep : Nat} (C : mOk κ cc own dep) {pc index : Nat} {K : mK} (d : decode cc pc = .ok (.getfield index, 3)) (w : Cond.fieldLink own index "java/lang/String" "coder" "B" ∈ mU) (h : mAt κ (pc + 3) K) : mAt κ pc (o_scod K) := by
  obtain ⟨⟨p, l, e, R, s⟩, ⟨m, args, below, meth, c⟩, ⟨D, dA, sz, ext, adV⟩, ⟨n0, w0, mc, ms⟩, Q⟩ := κ
  intro ls st S hK H locs M hR hS hL hM2 hn
  obtain ⟨hx, hb, hown, hts, hKn, hsz, hroom, hrc, hE⟩ := id C
  unfold o_scod at hK
  split at hK
  · rename_i t st
    obtain ⟨hb1, hK⟩ := hK
    have hs := ((hE.2.2.1 _ (sn_at hb1).1).2).1 0 (Nat.zero_lt_one)
    show W p l e R s m args below meth c H locs _ _ Q (F0 m pc M (Value.ref (mAd sz ext t) :: st.map (cv (mAd sz ext))))
    rw [sn_ad hb1]
    exact vk_getf hx hb hs.2.1 hS hown (hts _ w) (fun _ q => q) d (h _ _ _ hK H locs M hR hS hL hM2 hn)
  · exact hK.elim
abbrev o_sval (K : mK) : mK := fun ls st S => match st with
  | .ref t :: st => snB t = true ∧ K ls (.ref (t + 1000000) :: st) S
  | _ => False
theorem m_sval {κ : mX} {cc : ByteArray} {own : String} {dep : Nat} (C : mOk κ cc own dep) {pc index : Nat} {K : mK} (d : decode cc pc = .ok (.getfield index, 3)) (w : Cond.fieldLink own index "java/lang/String" "value" "[B" ∈ mU) (h : mAt κ (pc + 3) K) : mAt κ pc (o_sval K) := by
  obtain ⟨⟨p, l, e, R, s⟩, ⟨m, args, below, meth, c⟩, ⟨D, dA, sz, ext, adV⟩, ⟨n0, w0, mc, ms⟩, Q⟩ := κ
  intro ls st S hK H locs M hR hS hL hM2 hn
  obtain ⟨hx, hb, hown, hts, hKn, hsz, hroom, hrc, hE⟩ := id C
  unfold o_sval at hK
  split at hK
  · rename_i t st
    obtain ⟨hb1, hK⟩ := hK
    have hs := ((hE.2.2.1 _ (sn_at hb1).1).2).1 0 (Nat.zero_lt_one)
    have h3 := h _ _ _ hK H locs M hR hS hL hM2 hn
    rw [List.map_cons, show cv (mAd sz ext) (.ref (t + 1000000)) = .ref (ext (1000001 + (sIx t))) by show Value.ref _ = _; rw [sb_ad hb1], ← hE.2.2.2.2.2 (sIx t)] at h3
    show W p l e R s m args below meth c H locs _ _ Q (F0 m pc M (Value.ref (mAd sz ext t) :: st.map (cv (mAd sz ext))))
    rw [sn_ad hb1]
    exact vk_getf hx hb hs.2.2.1 hS hown (hts _ w) (fun _ q => q) d h3
  · exact hK.elim
abbrev o_slen (t : Nat) (K : mK) : mK := fun ls st S => match st with
  | .ref r :: st => (snB t = true ∧ r = t + 1000000) ∧ K ls (.int (Int32.ofNat (strB t).length) :: st) S
  | _ => False
theorem m_slen {κ : mX} {cc : ByteArray} {own : String} {dep : Nat} (C : mOk κ cc own dep) {pc : Nat} (t : Nat) {K : mK} (d : decode cc pc = .ok (.arraylength, 1)) (h : mAt κ (pc + 1) K) : mAt κ pc (o_slen t K) := by
  obtain ⟨⟨p, l, e, R, s⟩, ⟨m, args, below, meth, c⟩, ⟨D, dA, sz, ext, adV⟩, ⟨n0, w0, mc, ms⟩, Q⟩ := κ
  intro ls st S hK H locs M hR hS hL hM2 hn
  obtain ⟨hx, hb, hown, hts, hKn, hsz, hroom, hrc, hE⟩ := id C
  unfold o_slen at hK
  split at hK
  · rename_i r st
    obtain ⟨⟨hb1, rfl⟩, hK⟩ := hK
    have hs := ((hE.2.2.1 _ (sn_at hb1).1).2).1 0 (Nat.zero_lt_one)
    show W p l e R s m args below meth c H locs _ _ Q (F0 m pc M (Value.ref (mAd sz ext (t + 1000000)) :: st.map (cv (mAd sz ext))))
    rw [sb_ad hb1, ← hE.2.2.2.2.2 (sIx t)]
    exact va_tlen hx hb hs.2.2.2 hS rfl d (h _ _ _ hK H locs M hR hS hL hM2 hn)
  · exact hK.elim
abbrev o_sbald (t : Nat) (K : mK) : mK := fun ls st S => match st with
  | .int i :: .ref r :: st => (snB t = true ∧ r = t + 1000000 ∧ vp_in i (strB t).length) ∧ K ls (.int ((strB t).getD i.toNatClampNeg 0) :: st) S
  | _ => False
theorem m_sbald {κ : mX} {cc : ByteArray} {own : String} {dep : Nat} (C : mOk κ cc own dep) {pc : Nat} (t : Nat) {K : mK} (d : decode cc pc = .ok (.baload, 1)) (h : mAt κ (pc + 1) K) : mAt κ pc (o_sbald t K) := by
  obtain ⟨⟨p, l, e, R, s⟩, ⟨m, args, below, meth, c⟩, ⟨D, dA, sz, ext, adV⟩, ⟨n0, w0, mc, ms⟩, Q⟩ := κ
  intro ls st S hK H locs M hR hS hL hM2 hn
  obtain ⟨hx, hb, hown, hts, hKn, hsz, hroom, hrc, hE⟩ := id C
  unfold o_sbald at hK
  split at hK
  · rename_i i r st
    obtain ⟨⟨hb1, rfl, hin⟩, hK⟩ := hK
    have hs := ((hE.2.2.1 _ (sn_at hb1).1).2).1 0 (Nat.zero_lt_one)
    show W p l e R s m args below meth c H locs _ _ Q (F0 m pc M (Value.int i :: Value.ref (mAd sz ext (t + 1000000)) :: st.map (cv (mAd sz ext))))
    rw [sb_ad hb1, ← hE.2.2.2.2.2 (sIx t)]
    exact va_tb hx hb hs.2.2.2 hS hin rfl d (h _ _ _ hK H locs M hR hS hL hM2 hn)
  · exact hK.elim
theorem m_i2c {κ : mX} {cc : ByteArray} {own : String} {dep : Nat} (C : mOk κ cc own dep) {pc : Nat} {K : mK} (d : decode cc pc = .ok (.i2c, 1)) (h : mAt κ (pc + 1) K) : mAt κ pc (fun ls st S => match st with | .int x :: st => K ls (.int ((x.toUInt32 % 65536).toInt32) :: st) S | _ => False) := by
  obtain ⟨⟨p, l, e, R, s⟩, ⟨m, args, below, meth, c⟩, ⟨D, dA, sz, ext, adV⟩, ⟨n0, w0, mc, ms⟩, Q⟩ := κ
  intro ls st S hK H locs M hR hS hL hM2 hn
  split at hK
  · exact lv_i2c C.1 C.2.1 d rfl (h _ _ _ hK H locs M hR hS hL hM2 hn)
  · exact hK.elim
theorem m_nret {κ : mX} {cc : ByteArray} {own nm : String} {dep : Nat} (C : mOk κ cc own dep) {pc : Nat} {Q : mQ} {ty : FieldType} (d : decode cc pc = .ok (.ireturn, 1)) (hr : mRet κ nm (some ty) Q) (h0 : mNoc κ) : mAt κ pc (fun _ st S => match st with | [.int v] => narrow ty (.int v) = .int v ∧ Q (some (.int v)) S | _ => False) := by
  obtain ⟨⟨p, l, e, R, s⟩, ⟨m, args, below, meth, c⟩, ⟨D, dA, sz, ext, adV⟩, ⟨n0, w0, mc, ms⟩, Qm⟩ := κ
  intro ls st S hK H locs M hR hS hL hM hn
  obtain ⟨r1, r2, r3, rfl⟩ := hr
  obtain ⟨rfl, rfl⟩ := h0
  split at hK
  · obtain ⟨hz, hK⟩ := hK
    rw [show sN S - n0 = 0 by omega, show sW S - w0 = 0 by omega]
    exact W.zret C.1 C.2.1 r1 hz (fun t ht hW => ⟨⟨_, S, rfl, hK, by rw [ht]; exact hR, by omega, by omega⟩, hS.F ht⟩) hS.2.2 d r2
  · exact hK.elim
/-- a call on a text -/
abbrev o_callT (n : Nat) (F : mF) (K : mK) : mK := fun ls st S => match st.drop n with
  | .ref b :: rest => snB b = true ∧ gd (Nat.ble rest.length 4 && Nat.beq (st.take n).length n) (F (.ref b :: (st.take n).reverse) S (fun r S1 => K ls (r.toList ++ rest) S1))
  | _ => False
theorem m_callT {κ : mX} {cc : ByteArray} {own : String} {dep : Nat} (C : mOk κ cc own dep) {pc : Nat} {K : mK} {F : mF} {n index dep1 nL : Nat} {y : MethodName} {cy : ByteArray} {ret : Option FieldType} (d : decode cc pc = .ok (.invokevirtual index, 3)) (hM : mMet y cy nL ret dep1 0 0 F) (hd : dep1 < dep) (hy : y.cls = "java/lang/String") (cw : mCw own index y cy nL ret n) (hi : Cond.instanceMethod y ∈ mU) (hs : Cond.selects y.cls y y ∈ mU) (h : mAt κ (pc + 3) K) : mAt κ pc (o_callT n F K) := by
  obtain ⟨⟨p, l, e, R, s⟩, ⟨m, args, below, meth, c⟩, ⟨D, dA, sz, ext, adV⟩, ⟨n0, w0, mc, ms⟩, Q⟩ := κ
  intro ls st S hK H locs M hR hS hL hM2 hn
  obtain ⟨hx, hb, hown, hts, hKn, hsz, hroom, hrc, hE⟩ := id C
  unfold o_callT at hK
  split at hK
  · rename_i b rest hst
    obtain ⟨hb1, hK⟩ := hK
    obtain ⟨hg, hF⟩ := gd_of hK
    rw [Bool.and_eq_true] at hg
    have g2 := Nat.le_of_ble_eq_true hg.1
    have g3 := beq_of hg.2
    have hrec := vk_recv ((hE.2.2.1 _ (sn_at hb1).1).2) (Nat.zero_lt_one) hS
    rw [← hy, ← sn_ad (sz := sz) (ext := ext) hb1] at hrec
    have hstk : st.map (cv (mAd sz ext)) = (((st.take n).reverse).map (cv (mAd sz ext))).reverse ++ .ref (mAd sz ext b) :: rest.map (cv (mAd sz ext)) := by
      conv => lhs; rw [← List.take_append_drop n st, hst]
      rw [List.map_append, List.map_reverse, List.reverse_reverse]
      rfl
    refine wa_call (va_runV (y := y) (bytes := cy) (maxL := nL) (ret := ret) (n := n) (C := y.cls) (As := ((st.take n).reverse).map (cv (mAd sz ext))) (rest := rest.map (cv (mAd sz ext))) ⟨hx, hb, hM2, hown, hts⟩ (hM l D dA sz ext adV _ S _ hF) ⟨callB_of n hts (goodIn_U cw.2.2.1) rfl rfl rfl (hts _ cw.2.1) (hts _ cw.1) cw.2.2.2.1 ⟨Nat.le_trans hd hroom.1, ?_⟩, hts _ hi, hts _ hs⟩ ⟨mPc_blind D dA sz ext adV _ S, hrec, fun U hU hW => ⟨rfl, by rw [hU]; exact hR, va_K.moved hW.alike hKn, ?_, hE.go hW (fun a h1 h2 => by rw [hU]; exact hS.2.1 a h1 h2)⟩⟩ rfl ?_ rfl hstk ?_ d ⟨?_, ?_⟩) hS (fun r S1 H1 locs1 hq hR1 hn1 hw1 hS1 => ?_)
    · show 8 + (nL + 11) + 100 * dep1 ≤ R.locals
      have := cw.2.2.2.2
      have := hroom.2
      omega
    · rw [hU, hR.2.2.1]; omega
    · rw [List.length_map, List.length_reverse]; exact g3
    · show 2 * 0 + _ ≤ 8
      have := cat_sum (mAd sz ext) rest
      omega
    · rw [hrc.1]; omega
    · rw [hrc.2]; omega
    · have h3 := h _ _ _ hq H1 locs1 M hR1 hS1 hL hM2 (by rw [hn1, hw1]; exact hn)
      rw [hn1, hw1] at h3
      rw [opt_app]
      exact h3
  · exact hK.elim
def FT_coder : mF := Fi (V := Nat) (fun v => [.ref v]) (fun v Q s => snB v = true ∧ Q 0 s)
theorem MT_coder : mMet yJ0_coder_7d493 cJ0_coder_7d493 1 (some .byte) 2 0 0 FT_coder := mMet_i (lp := fun v => [some (.ref v)]) (plainFor_of_name (by decide)) (fun v => ⟨Nat.le_of_ble_eq_true rfl, rfl⟩) (fun κ Qm Q C R0 h0 hQ => m_ex (fun v hP => lf_1 (m_lf (V := Unit) (pat := fun _ => ([some (.ref v)], [])) (c := fun _ s => Q 0 s) (m_gets1 C dJ0_coder_7d493_0 wt_499 (m_if_eq C dJ0_coder_7d493_3 (by decide) (m_iconst C dJ0_coder_7d493_13 ki_1 (m_nret C dJ0_coder_7d493_14 R0 h0)) (m_aload_n C dJ0_coder_7d493_6 (m_scod C dJ0_coder_7d493_7 wt_2180 (m_goto C dJ0_coder_7d493_10 (by decide) (m_nret C dJ0_coder_7d493_14 R0 h0)))))) (fun _ s h => And.intro (fun q => absurd q (by decide)) (fun q => And.intro hP (And.intro (by decide +kernel) (hQ _ _ h))))) ()))
def FT_latin : mF := Fi (V := Nat) (fun v => [.ref v]) (fun v Q s => snB v = true ∧ Q 1 s)
theorem MT_latin : mMet yJ0_isLatin1_aae02 cJ0_isLatin1_aae02 1 (some .boolean) 2 0 0 FT_latin := mMet_i (lp := fun v => [some (.ref v)]) (plainFor_of_name (by decide)) (fun v => ⟨Nat.le_of_ble_eq_true rfl, rfl⟩) (fun κ Qm Q C R0 h0 hQ => m_ex (fun v hP => lf_1 (m_lf (V := Unit) (pat := fun _ => ([some (.ref v)], [])) (c := fun _ s => Q 1 s) (m_gets1 C dJ0_isLatin1_aae02_0 wt_499 (m_if_eq C dJ0_isLatin1_aae02_3 (by decide) (m_iconst C dJ0_isLatin1_aae02_17 ki_0 (m_zret C dJ0_isLatin1_aae02_18 R0 h0)) (m_aload_n C dJ0_isLatin1_aae02_6 (m_scod C dJ0_isLatin1_aae02_7 wt_2180 (m_if_ne C dJ0_isLatin1_aae02_10 (by decide) (m_iconst C dJ0_isLatin1_aae02_17 ki_0 (m_zret C dJ0_isLatin1_aae02_18 R0 h0)) (m_iconst C dJ0_isLatin1_aae02_13 ki_1 (m_goto C dJ0_isLatin1_aae02_14 (by decide) (m_zret C dJ0_isLatin1_aae02_18 R0 h0)))))))) (fun _ s h => And.intro (fun q => absurd q (by decide)) (fun q => And.intro hP (And.intro (fun _ => And.intro (Or.inr rfl) (hQ _ _ h)) (fun q2 => absurd rfl q2))))) ()))
def FT_length : mF := Fi (V := Nat) (fun v => [.ref v]) (fun v Q s => snB v = true ∧ Q (Int32.ofNat (strB v).length) s)
theorem MT_length : mMet yJ0_length_8abf5 cJ0_length_8abf5 1 (some .int) 3 0 0 FT_length := mMet_i (lp := fun v => [some (.ref v)]) (plainFor_of_name (by decide)) (fun v => ⟨Nat.le_of_ble_eq_true rfl, rfl⟩) (fun κ Qm Q C R0 h0 hQ => m_ex (fun v hP => lf_1 (m_lf (V := Unit) (pat := fun _ => ([some (.ref v)], [])) (c := fun _ s => Q (Int32.ofNat (strB v).length) s) (m_aload_n C dJ0_length_8abf5_0 (m_sval C dJ0_length_8abf5_1 wt_2179 (m_slen C v dJ0_length_8abf5_4 (m_aload_n C dJ0_length_8abf5_5 (m_callT C dJ0_length_8abf5_6 MT_coder (by decide) rfl cwT_o wt_496 wt_497 (m_ishr C dJ0_length_8abf5_9 (m_iret C dJ0_length_8abf5_10 R0 h0))))))) (fun _ s h => And.intro hP (And.intro (And.intro hP rfl) (And.intro hP ⟨v, s, fun r s => r = 0 ∧ Q (Int32.ofNat (strB v).length) s, rfl, rfl, ⟨hP, rfl, h⟩, fun r s' h' => by
    obtain ⟨rfl, h'⟩ := h'
    refine hQ _ _ ?_
    show Q (Int32.ofNat (strB v).length >>> ((0 : Int32) &&& 31)) s'
    rw [show Int32.ofNat (strB v).length >>> ((0 : Int32) &&& 31) = Int32.ofNat (strB v).length from (s_all (sn_at hP).1).1]
    exact h'⟩)))) ()))
def FT_pre : mF := Fi (V := Int32 × Int32 × Bool) (fun v => [.int v.1, .int v.2.1, bif v.2.2 then .null else .ref 1500000]) (fun v Q s => (¬ v.1 < 0 ∧ v.1 < v.2.1) ∧ Q v.1 s)
theorem MT_pre : mMet yJ3_checkIndex_8e157 cJ3_checkIndex_8e157 3 (some .int) 2 0 0 FT_pre := mMet_i (lp := fun v => [some (.int v.1), some (.int v.2.1), some (bif v.2.2 then .null else .ref 1500000)]) (plainFor_of_name (by decide)) (fun v => by rcases v with ⟨i, n, b⟩; cases b <;> exact ⟨Nat.le_of_ble_eq_true rfl, rfl⟩) (fun κ Qm Q C R0 h0 hQ => m_ex (fun v hP => lf_1 (m_lf (V := Unit) (pat := fun _ => ([some (.int v.1), some (.int v.2.1), some (bif v.2.2 then .null else .ref 1500000)], [])) (c := fun _ s => Q v.1 s) (m_iload_n C dJ3_checkIndex_8e157_0 (m_if_lt (tgt := 9) C dJ3_checkIndex_8e157_1 (by decide) (m_mono (K' := fun _ _ _ => False) (by
    obtain ⟨⟨p, l, e, R, s⟩, ⟨m, args, below, meth, cc⟩, ⟨D, dA, sz, ext, adV⟩, ⟨n0, w0, mc, ms⟩, Q⟩ := κ
    exact fun _ _ _ hf => hf.elim) (K := fun _ _ _ => False) (fun _ _ _ hf => hf)) (m_iload_n C dJ3_checkIndex_8e157_4 (m_iload_n C dJ3_checkIndex_8e157_5 (m_icmp_lt C dJ3_checkIndex_8e157_6 (by decide) (m_iload_n C dJ3_checkIndex_8e157_16 (m_iret C dJ3_checkIndex_8e157_17 R0 h0)) (m_mono (K' := fun _ _ _ => False) (by
    obtain ⟨⟨p, l, e, R, s⟩, ⟨m, args, below, meth, cc⟩, ⟨D, dA, sz, ext, adV⟩, ⟨n0, w0, mc, ms⟩, Q⟩ := κ
    exact fun _ _ _ hf => hf.elim) (K := fun _ _ _ => False) (fun _ _ _ hf => hf))))))) (fun _ s h => And.intro (fun q => absurd q hP.1) (fun q => And.intro (fun _ => hQ _ _ h) (fun q2 => absurd hP.2 q2)))) ()))
def FT_check : mF := Fu (V := Int32 × Int32) (fun v => [.int v.1, .int v.2]) (fun v Q s => (¬ v.1 < 0 ∧ v.1 < v.2) ∧ Q s)
theorem MT_check : mMet yJ0_checkIndex_df160 cJ0_checkIndex_df160 2 none 3 0 0 FT_check := mMet_v (lp := fun v => [some (.int v.1), some (.int v.2)]) (plainFor_of_name (by decide)) (fun v => ⟨Nat.le_of_ble_eq_true rfl, rfl⟩) (fun κ Qm Q C R0 h0 hQ => m_ex (fun v hP => lf_1 (m_lf (V := Unit) (pat := fun _ => ([some (.int v.1), some (.int v.2)], [])) (c := fun _ s => Q s) (m_iload_n C dJ0_checkIndex_df160_0 (m_iload_n C dJ0_checkIndex_df160_1 (m_getsF C dJ0_checkIndex_df160_2 wt_515 (m_callS C dJ0_checkIndex_df160_5 MT_pre (by decide) cwT_p wt_518 (m_pop C dJ0_checkIndex_df160_8 (m_vret C dJ0_checkIndex_df160_9 R0 h0)))))) (fun _ s h => And.intro ⟨(v.1, v.2, true), s, fun _ s => Q s, rfl, rfl, ⟨hP, h⟩, fun r s' h' => hQ _ h'⟩ ⟨(v.1, v.2, false), s, fun _ s => Q s, rfl, rfl, ⟨hP, h⟩, fun r s' h' => hQ _ h'⟩)) ()))
theorem vin_lt {i : Int32} {n : Nat} (h : vp_in i n) (hn : n < 2 ^ 31) : ¬ i < 0 ∧ i < Int32.ofNat n := by
  unfold vp_in at h
  have h1 : ¬ i < 0 := fun q => h (Or.inl q)
  refine ⟨h1, ?_⟩
  have h2 : i.toNatClampNeg < n := by omega
  have h3 : ¬ i.toInt < 0 := fun q => h1 (Int32.lt_iff_toInt_lt.mpr (by simpa using q))
  rw [Int32.lt_iff_toInt_lt]
  have h4 : (Int32.ofNat n).toInt = (n : Int) := nI_toInt hn
  rw [h4]
  have h5 : (i.toNatClampNeg : Int) = i.toInt := by
    unfold Int32.toNatClampNeg
    omega
  omega
def FT_lat : mF := Fi (V := Nat × Int32) (fun v => [.ref (v.1 + 1000000), .int v.2]) (fun v Q s => (snB v.1 = true ∧ vp_in v.2 (strB v.1).length) ∧ Q ((strB v.1).getD v.2.toNatClampNeg 0) s)
theorem s_byte {t : Nat} {i : Int32} (h : snB t = true) (hi : vp_in i (strB t).length) : ((((strB t).getD i.toNatClampNeg 0 &&& 255).toUInt32 % 65536).toInt32) = (strB t).getD i.toNatClampNeg 0 := by
  have h1 := (s_all (sn_at h).1).2.2
  have h2 : i.toNatClampNeg < (strB t).length := by unfold vp_in at hi; omega
  have h3 := List.all_eq_true.mp h1 ((strB t).getD i.toNatClampNeg 0) (by
    rw [List.getD_eq_getElem?_getD, List.getElem?_eq_getElem h2]
    exact List.getElem_mem h2)
  exact of_decide_eq_true h3
theorem s_nar {t : Nat} {i : Int32} (h : snB t = true) (hi : vp_in i (strB t).length) : narrow .char (.int ((strB t).getD i.toNatClampNeg 0)) = .int ((strB t).getD i.toNatClampNeg 0) := by
  have h2 : i.toNatClampNeg < (strB t).length := by unfold vp_in at hi; omega
  have h1 := List.all_eq_true.mp ((by decide +kernel : ∀ i, i < mStrN → (mStrB i).all (fun b => decide (narrow .char (.int b) = .int b)) = true) _ (sn_at h).1) ((strB t).getD i.toNatClampNeg 0) (by
    rw [List.getD_eq_getElem?_getD, List.getElem?_eq_getElem h2]
    exact List.getElem_mem h2)
  exact of_decide_eq_true h1
theorem MT_lat : mMet yJ1_charAt_3b067 cJ1_charAt_3b067 2 (some .char) 4 0 0 FT_lat := mMet_i (lp := fun v => [some (.ref (v.1 + 1000000)), some (.int v.2)]) (plainFor_of_name (by decide)) (fun v => ⟨Nat.le_of_ble_eq_true rfl, rfl⟩) (fun κ Qm Q C R0 h0 hQ => m_ex (fun v hP => lf_1 (m_lf (V := Unit) (pat := fun _ => ([some (.ref (v.1 + 1000000)), some (.int v.2)], [])) (c := fun _ s => Q ((strB v.1).getD v.2.toNatClampNeg 0) s) (m_iload_n C dJ1_charAt_3b067_0 (m_aload_n C dJ1_charAt_3b067_1 (m_slen C v.1 dJ1_charAt_3b067_2 (m_callS C dJ1_charAt_3b067_3 MT_check (by decide) cwT_k wt_513 (m_aload_n C dJ1_charAt_3b067_6 (m_iload_n C dJ1_charAt_3b067_7 (m_sbald C v.1 dJ1_charAt_3b067_8 (m_sipush C dJ1_charAt_3b067_9 ks_255 (m_iand C dJ1_charAt_3b067_12 (m_i2c C dJ1_charAt_3b067_13 (m_nret C dJ1_charAt_3b067_14 R0 h0))))))))))) (fun _ s h => And.intro (And.intro hP.1 rfl) ⟨(v.2, Int32.ofNat (strB v.1).length), s, fun s => Q ((strB v.1).getD v.2.toNatClampNeg 0) s, rfl, rfl, ⟨vin_lt hP.2 (Nat.lt_trans (s_all (sn_at hP.1).1).2.1 (by decide)), h⟩, fun s' h' => And.intro (And.intro hP.1 (And.intro rfl hP.2)) (by
    show narrow .char (.int ((((strB v.1).getD v.2.toNatClampNeg 0 &&& 255).toUInt32 % 65536).toInt32)) = .int ((((strB v.1).getD v.2.toNatClampNeg 0 &&& 255).toUInt32 % 65536).toInt32) ∧ Qm (some (.int ((((strB v.1).getD v.2.toNatClampNeg 0 &&& 255).toUInt32 % 65536).toInt32))) (mk s')
    rw [s_byte hP.1 hP.2]
    exact ⟨s_nar hP.1 hP.2, hQ _ _ h'⟩)⟩)) ()))
def FT_charAt : mF := Fi (V := Nat × Int32) (fun v => [.ref v.1, .int v.2]) (fun v Q s => (snB v.1 = true ∧ vp_in v.2 (strB v.1).length) ∧ Q ((strB v.1).getD v.2.toNatClampNeg 0) s)
theorem MT_charAt : mMet yJ0_charAt_5068e cJ0_charAt_5068e 2 (some .char) 5 0 0 FT_charAt := mMet_i (lp := fun v => [some (.ref v.1), some (.int v.2)]) (plainFor_of_name (by decide)) (fun v => ⟨Nat.le_of_ble_eq_true rfl, rfl⟩) (fun κ Qm Q C R0 h0 hQ => m_ex (fun v hP => lf_1 (m_lf (V := Unit) (pat := fun _ => ([some (.ref v.1), some (.int v.2)], [])) (c := fun _ s => Q ((strB v.1).getD v.2.toNatClampNeg 0) s) (m_aload_n C dJ0_charAt_5068e_0 (m_callT C dJ0_charAt_5068e_1 MT_latin (by decide) rfl cwT_i wt_506 wt_507 (m_if_eq (tgt := 16) C dJ0_charAt_5068e_4 (by decide) (m_mono (K' := fun _ _ _ => False) (by
    obtain ⟨⟨p, l, e, R, s⟩, ⟨m, args, below, meth, cc⟩, ⟨D, dA, sz, ext, adV⟩, ⟨n0, w0, mc, ms⟩, Q⟩ := κ
    exact fun _ _ _ hf => hf.elim) (K := fun _ _ _ => False) (fun _ _ _ hf => hf)) (m_aload_n C dJ0_charAt_5068e_7 (m_sval C dJ0_charAt_5068e_8 wt_2179 (m_iload_n C dJ0_charAt_5068e_11 (m_callS C dJ0_charAt_5068e_12 MT_lat (by decide) cwT_1 wt_510 (m_nret C dJ0_charAt_5068e_15 R0 h0)))))))) (fun _ s h => And.intro hP.1 ⟨v.1, s, fun r s => r = 1 ∧ Q ((strB v.1).getD v.2.toNatClampNeg 0) s, rfl, rfl, ⟨hP.1, rfl, h⟩, fun r s' h' => And.intro (fun q => absurd (h'.1.symm.trans q) (by decide)) (fun _ => And.intro hP.1 ⟨(v.1, v.2), s', fun r s => r = (strB v.1).getD v.2.toNatClampNeg 0 ∧ Q ((strB v.1).getD v.2.toNatClampNeg 0) s, rfl, rfl, ⟨hP, rfl, h'.2⟩, fun r s2 h2 => by
    obtain ⟨rfl, h2⟩ := h2
    exact ⟨s_nar hP.1 hP.2, hQ _ _ h2⟩⟩)⟩)) ()))
abbrev o_strlen (K : mK) : mK := fun ls st S => match st with
  | .ref a :: st => snB a = true ∧ gd (Nat.ble st.length 4) (K ls (.int (Int32.ofNat (strB a).length) :: st) S)
  | _ => False
abbrev o_strchr (K : mK) : mK := fun ls st S => match st with
  | .int i :: .ref a :: st => snB a = true ∧ vp_in i (strB a).length ∧ gd (Nat.ble st.length 4) (K ls (.int ((strB a).getD i.toNatClampNeg 0) :: st) S)
  | _ => False
theorem m_strlen {κ : mX} {cc : ByteArray} {own : String} {dep : Nat} (C : mOk κ cc own dep) {pc index : Nat} {K : mK} (d : decode cc pc = .ok (.invokevirtual index, 3)) (hd : 5 < dep) (w1 : Cond.methodLink own index yJ0_length_8abf5 ∈ mU) (h : mAt κ (pc + 3) K) : mAt κ pc (fun ls st S => (∃ s, S = mk s) ∧ o_strlen K ls st S) :=
  m_mono (m_callT C d MT_length (Nat.lt_of_le_of_lt (by decide) hd) rfl (cwT_l w1) wt_492 wt_493 h) fun ls st S hK => by
    obtain ⟨⟨s, rfl⟩, hK⟩ := hK
    unfold o_strlen at hK
    split at hK
    · rename_i a st
      obtain ⟨h1, h2⟩ := hK
      obtain ⟨g, hK⟩ := gd_of h2
      exact ⟨h1, gdi (by rw [Bool.and_eq_true]; exact ⟨g, rfl⟩) ⟨a, s, fun r s' => r = Int32.ofNat (strB a).length ∧ s' = s, rfl, rfl, ⟨h1, rfl, rfl⟩, fun r s' h' => by
        obtain ⟨rfl, rfl⟩ := h'
        exact hK⟩⟩
    · exact hK.elim
theorem m_strchr {κ : mX} {cc : ByteArray} {own : String} {dep : Nat} (C : mOk κ cc own dep) {pc index : Nat} {K : mK} (d : decode cc pc = .ok (.invokevirtual index, 3)) (hd : 5 < dep) (w1 : Cond.methodLink own index yJ0_charAt_5068e ∈ mU) (h : mAt κ (pc + 3) K) : mAt κ pc (fun ls st S => (∃ s, S = mk s) ∧ o_strchr K ls st S) :=
  m_mono (m_callT C d MT_charAt (Nat.lt_of_le_of_lt (by decide) hd) rfl (cwT_c w1) wt_502 wt_503 h) fun ls st S hK => by
    obtain ⟨⟨s, rfl⟩, hK⟩ := hK
    unfold o_strchr at hK
    split at hK
    · rename_i i a st
      obtain ⟨h1, h2, h3⟩ := hK
      obtain ⟨g, hK⟩ := gd_of h3
      exact ⟨h1, gdi (by rw [Bool.and_eq_true]; exact ⟨g, rfl⟩) ⟨(a, i), s, fun r s' => r = (strB a).getD i.toNatClampNeg 0 ∧ s' = s, rfl, rfl, ⟨⟨h1, h2⟩, rfl, rfl⟩, fun r s' h' => by
        obtain ⟨rfl, rfl⟩ := h'
        exact hK⟩⟩
    · exact hK.elim
