theorem lu_1 {w : Cond} (i : Nat) (h0 : tables_1_1[i]? = some w) : w ∈ lw_tbl := have h := List.mem_of_getElem? h0; List.mem_append_right _ (List.mem_append_left _ h)
theorem lu_2 {w : Cond} (i : Nat) (h0 : tables_1_2[i]? = some w) : w ∈ lw_tbl := have h := List.mem_of_getElem? h0; List.mem_append_right _ (List.mem_append_right _ (List.mem_append_left _ h))
theorem lu_3 {w : Cond} (i : Nat) (h0 : tables_1_3[i]? = some w) : w ∈ lw_tbl := have h := List.mem_of_getElem? h0; List.mem_append_right _ (List.mem_append_right _ (List.mem_append_right _ (List.mem_append_left _ h)))
theorem lu_4 {w : Cond} (i : Nat) (h0 : tables_1_4[i]? = some w) : w ∈ lw_tbl := have h := List.mem_of_getElem? h0; List.mem_append_right _ (List.mem_append_right _ (List.mem_append_right _ (List.mem_append_right _ (List.mem_append_left _ h))))
theorem lu_5 {w : Cond} (i : Nat) (h0 : tables_1_5[i]? = some w) : w ∈ lw_tbl := have h := List.mem_of_getElem? h0; List.mem_append_right _ (List.mem_append_right _ (List.mem_append_right _ (List.mem_append_right _ (List.mem_append_right _ (List.mem_append_left _ h)))))
theorem lu_6 {w : Cond} (i : Nat) (h0 : tables_1_6[i]? = some w) : w ∈ lw_tbl := have h := List.mem_of_getElem? h0; List.mem_append_right _ (List.mem_append_right _ (List.mem_append_right _ (List.mem_append_right _ (List.mem_append_right _ (List.mem_append_right _ (List.mem_append_left _ h))))))
theorem lu_7 {w : Cond} (i : Nat) (h0 : tables_1_7[i]? = some w) : w ∈ lw_tbl := have h := List.mem_of_getElem? h0; List.mem_append_right _ (List.mem_append_right _ (List.mem_append_right _ (List.mem_append_right _ (List.mem_append_right _ (List.mem_append_right _ (List.mem_append_right _ (List.mem_append_left _ h)))))))
theorem lu_8 {w : Cond} (i : Nat) (h0 : tables_1_8[i]? = some w) : w ∈ lw_tbl := have h := List.mem_of_getElem? h0; List.mem_append_right _ (List.mem_append_right _ (List.mem_append_right _ (List.mem_append_right _ (List.mem_append_right _ (List.mem_append_right _ (List.mem_append_right _ (List.mem_append_right _ (List.mem_append_left _ h))))))))
theorem lu_9 {w : Cond} (i : Nat) (h0 : tables_1_9[i]? = some w) : w ∈ lw_tbl := have h := List.mem_of_getElem? h0; List.mem_append_right _ (List.mem_append_right _ (List.mem_append_right _ (List.mem_append_right _ (List.mem_append_right _ (List.mem_append_right _ (List.mem_append_right _ (List.mem_append_right _ (List.mem_append_right _ (List.mem_append_left _ h)))))))))
theorem lu_10 {w : Cond} (i : Nat) (h0 : tables_1_10[i]? = some w) : w ∈ lw_tbl := have h := List.mem_of_getElem? h0; List.mem_append_right _ (List.mem_append_right _ (List.mem_append_right _ (List.mem_append_right _ (List.mem_append_right _ (List.mem_append_right _ (List.mem_append_right _ (List.mem_append_right _ (List.mem_append_right _ (List.mem_append_right _ h)))))))))
theorem lsr_0 : Cond.stringRef "UnlikeLoaves$OfficeReader" 50 "finest" ∈ lw_tbl := lu_3 6 rfl
theorem lsr_1 : Cond.stringRef "UnlikeLoaves$OfficeReader" 66 "most" ∈ lw_tbl := lu_3 81 rfl
theorem lsr_2 : Cond.stringRef "UnlikeLoaves$OfficeReader" 70 "bakes" ∈ lw_tbl := lu_3 82 rfl
theorem lsr_3 : Cond.stringRef "UnlikeLoaves$OfficeReader" 74 "mice" ∈ lw_tbl := lu_3 83 rfl
theorem lsr_4 : Cond.stringRef "UnlikeLoaves$OfficeReader" 78 "person" ∈ lw_tbl := lu_3 84 rfl
theorem lsr_5 : Cond.stringRef "UnlikeLoaves$Scanner" 53 "finest most person due of have by bakes costs likes mice size stock place day hunger number top bottom ways had fits or and not all min max" ∈ lw_tbl := lu_3 97 rfl
theorem lsr_6 : Cond.stringRef "UnlikeLoaves$OfficeReader" 132 "due" ∈ lw_tbl := lu_3 106 rfl
theorem lsr_7 : Cond.stringRef "UnlikeLoaves$OfficeReader" 134 "of" ∈ lw_tbl := lu_3 107 rfl
theorem lsr_8 : Cond.stringRef "UnlikeLoaves$OfficeReader" 84 "have" ∈ lw_tbl := lu_3 108 rfl
theorem lsr_9 : Cond.stringRef "UnlikeLoaves$OfficeReader" 146 "by" ∈ lw_tbl := lu_3 113 rfl
theorem lsr_10 : Cond.stringRef "UnlikeLoaves$OfficeReader" 89 "costs" ∈ lw_tbl := lu_3 120 rfl
theorem lsr_11 : Cond.stringRef "UnlikeLoaves$Phrases" 123 "min" ∈ lw_tbl := lu_3 163 rfl
theorem lsr_12 : Cond.stringRef "UnlikeLoaves$Phrases" 128 "max" ∈ lw_tbl := lu_3 173 rfl
theorem lsr_13 : Cond.stringRef "UnlikeLoaves$Phrases" 130 "stock" ∈ lw_tbl := lu_3 174 rfl
theorem lsr_14 : Cond.stringRef "UnlikeLoaves$Phrases" 132 "fits" ∈ lw_tbl := lu_3 175 rfl
theorem lsr_15 : Cond.stringRef "UnlikeLoaves$Phrases" 148 "number" ∈ lw_tbl := lu_3 180 rfl
theorem lsr_16 : Cond.stringRef "UnlikeLoaves$Phrases" 146 "hunger" ∈ lw_tbl := lu_3 181 rfl
theorem lsr_17 : Cond.stringRef "UnlikeLoaves$Phrases" 150 "top" ∈ lw_tbl := lu_3 182 rfl
theorem lsr_18 : Cond.stringRef "UnlikeLoaves$Phrases" 152 "bottom" ∈ lw_tbl := lu_3 183 rfl
theorem lsr_19 : Cond.stringRef "UnlikeLoaves$Phrases" 154 "ways" ∈ lw_tbl := lu_3 184 rfl
theorem lsr_20 : Cond.stringRef "UnlikeLoaves$Phrases" 156 "had" ∈ lw_tbl := lu_3 185 rfl
theorem lsr_21 : Cond.stringRef "UnlikeLoaves$Phrases" 142 "day" ∈ lw_tbl := lu_3 186 rfl
theorem lsr_22 : Cond.stringRef "UnlikeLoaves$Phrases" 140 "size" ∈ lw_tbl := lu_3 191 rfl
theorem lsr_23 : Cond.stringRef "UnlikeLoaves$Phrases" 144 "place" ∈ lw_tbl := lu_3 192 rfl
theorem lsr_24 : Cond.stringRef "UnlikeLoaves$OfficeReader" 107 "likes" ∈ lw_tbl := lu_3 193 rfl
theorem lsr_25 : Cond.stringRef "UnlikeLoaves$Phrases" 93 "not" ∈ lw_tbl := lu_3 210 rfl
theorem lsr_26 : Cond.stringRef "UnlikeLoaves$Phrases" 105 "all" ∈ lw_tbl := lu_3 211 rfl
theorem lsr_27 : Cond.stringRef "UnlikeLoaves$Phrases" 91 "and" ∈ lw_tbl := lu_3 216 rfl
theorem lsr_28 : Cond.stringRef "UnlikeLoaves$Phrases" 83 "or" ∈ lw_tbl := lu_3 217 rfl
theorem lsr_29 : Cond.stringRef "UnlikeLoaves$Phrases" 60 "first" ∈ lw_tbl := lu_5 216 rfl
theorem lsr_30 : Cond.stringRef "UnlikeLoaves$Phrases" 66 "last" ∈ lw_tbl := lu_5 217 rfl
theorem lsr_31 : Cond.stringRef "UnlikeLoaves$Phrases" 68 "often" ∈ lw_tbl := lu_5 218 rfl
theorem lsr_32 : Cond.stringRef "UnlikeLoaves$Phrases" 70 "total" ∈ lw_tbl := lu_5 219 rfl
theorem lsr_33 : Cond.stringRef "UnlikeLoaves$Phrases" 72 "most" ∈ lw_tbl := lu_5 220 rfl
theorem lsr_34 : Cond.stringRef "UnlikeLoaves$Phrases" 74 "least" ∈ lw_tbl := lu_5 221 rfl
theorem lsr : ∀ i, i < 35 → Cond.stringRef (mStr i).1 (mStr i).2.1 (mStr i).2.2 ∈ lw_tbl := fun i h => match i, h with
  | 0, _ => lsr_0
  | 1, _ => lsr_1
  | 2, _ => lsr_2
  | 3, _ => lsr_3
  | 4, _ => lsr_4
  | 5, _ => lsr_5
  | 6, _ => lsr_6
  | 7, _ => lsr_7
  | 8, _ => lsr_8
  | 9, _ => lsr_9
  | 10, _ => lsr_10
  | 11, _ => lsr_11
  | 12, _ => lsr_12
  | 13, _ => lsr_13
  | 14, _ => lsr_14
  | 15, _ => lsr_15
  | 16, _ => lsr_16
  | 17, _ => lsr_17
  | 18, _ => lsr_18
  | 19, _ => lsr_19
  | 20, _ => lsr_20
  | 21, _ => lsr_21
  | 22, _ => lsr_22
  | 23, _ => lsr_23
  | 24, _ => lsr_24
  | 25, _ => lsr_25
  | 26, _ => lsr_26
  | 27, _ => lsr_27
  | 28, _ => lsr_28
  | 29, _ => lsr_29
  | 30, _ => lsr_30
  | 31, _ => lsr_31
  | 32, _ => lsr_32
  | 33, _ => lsr_33
  | 34, _ => lsr_34
  | n + 35, h => absurd h (by omega)
theorem lne_0 : Cond.methodLinkNest "UnlikeLoaves" 15 ⟨"UnlikeLoaves$Tape", "<init>", "()V"⟩ "UnlikeLoaves" ∈ lw_tbl := lu_1 31 rfl
theorem lne_1 : Cond.methodLinkNest "UnlikeLoaves$OfficeReader" 11 ⟨"UnlikeLoaves$Rules", "<init>", "()V"⟩ "UnlikeLoaves" ∈ lw_tbl := lu_1 102 rfl
theorem lne_2 : Cond.methodLinkNest "UnlikeLoaves$Rules" 49 ⟨"UnlikeLoaves$Formula", "<init>", "()V"⟩ "UnlikeLoaves" ∈ lw_tbl := lu_1 108 rfl
theorem lne_3 : Cond.methodLinkNest "UnlikeLoaves" 49 ⟨"UnlikeLoaves$Rules", "<init>", "()V"⟩ "UnlikeLoaves" ∈ lw_tbl := lu_1 219 rfl
theorem lne_4 : Cond.methodLinkNest "UnlikeLoaves" 65 ⟨"UnlikeLoaves$State", "<init>", "()V"⟩ "UnlikeLoaves" ∈ lw_tbl := lu_2 16 rfl
theorem lne_5 : Cond.methodLinkNest "UnlikeLoaves$History" 22 ⟨"UnlikeLoaves$State", "<init>", "()V"⟩ "UnlikeLoaves" ∈ lw_tbl := lu_2 60 rfl
theorem lne_6 : Cond.methodLinkNest "UnlikeLoaves$Outlook" 11 ⟨"UnlikeLoaves$State", "<init>", "()V"⟩ "UnlikeLoaves" ∈ lw_tbl := lu_2 92 rfl
theorem lne_7 : Cond.methodLinkNest "UnlikeLoaves" 95 ⟨"UnlikeLoaves$Formula", "<init>", "()V"⟩ "UnlikeLoaves" ∈ lw_tbl := lu_2 138 rfl
theorem lne : ∀ q ∈ mNest, Cond.methodLinkNest q.1 q.2.1 q.2.2.1 q.2.2.2 ∈ lw_tbl := List.forall_mem_cons.mpr ⟨lne_0, List.forall_mem_cons.mpr ⟨lne_1, List.forall_mem_cons.mpr ⟨lne_2, List.forall_mem_cons.mpr ⟨lne_3, List.forall_mem_cons.mpr ⟨lne_4, List.forall_mem_cons.mpr ⟨lne_5, List.forall_mem_cons.mpr ⟨lne_6, List.forall_mem_cons.mpr ⟨lne_7, fun _ h => absurd h List.not_mem_nil⟩⟩⟩⟩⟩⟩⟩⟩
theorem lao : Cond.arrayOver (FieldType.object "UnlikeLoaves$State") ∈ lw_tbl := lu_2 59 rfl
theorem lst1 : Cond.laysStatic "java/lang/String" "COMPACT_STRINGS" "Z" ∈ lw_tbl := lu_3 20 rfl
theorem lst2 : Cond.laysStatic "jdk/internal/util/Preconditions" "SIOOBE_FORMATTER" "Ljava/util/function/BiFunction;" ∈ lw_tbl := lu_3 36 rfl
theorem lin1 : Cond.initialized "java/lang/String" ∈ lw_tbl := lu_1 14 rfl
theorem lin2 : Cond.initialized "jdk/internal/util/Preconditions" ∈ lw_tbl := lu_1 16 rfl
theorem lar0 : Cond.arrayClass FieldType.int ∈ lw_tbl := lu_1 48 rfl
theorem lar1 : Cond.arrayClass FieldType.long ∈ lw_tbl := lu_2 13 rfl
theorem lar2 : Cond.arrayClass FieldType.char ∈ lw_tbl := lu_7 160 rfl
theorem lib_0 : Cond.instantiable RX0 (mN 0) ∈ lw_tbl := lu_2 73 rfl
theorem lib_1 : Cond.instantiable RX1 (mN 1) ∈ lw_tbl := lu_1 221 rfl
theorem lib_2 : Cond.instantiable RX2 (mN 2) ∈ lw_tbl := lu_1 107 rfl
theorem lib_3 : Cond.instantiable RX3 (mN 3) ∈ lw_tbl := lu_2 53 rfl
theorem lib_4 : Cond.instantiable RX4 (mN 4) ∈ lw_tbl := lu_1 95 rfl
theorem lib_5 : Cond.instantiable RX5 (mN 5) ∈ lw_tbl := lu_2 86 rfl
theorem lib_6 : Cond.instantiable RX6 (mN 6) ∈ lw_tbl := lu_1 79 rfl
theorem lib_7 : Cond.instantiable RX7 (mN 7) ∈ lw_tbl := lu_1 101 rfl
theorem lib_8 : Cond.instantiable RX8 (mN 8) ∈ lw_tbl := lu_1 50 rfl
theorem lib_9 : Cond.instantiable RX9 (mN 9) ∈ lw_tbl := lu_2 15 rfl
theorem lib_10 : Cond.instantiable RX10 (mN 10) ∈ lw_tbl := lu_1 30 rfl
theorem lib_11 : Cond.instantiable RX11 (mN 11) ∈ lw_tbl := lu_1 22 rfl
theorem lib_12 : Cond.instantiable RX12 (mN 12) ∈ lw_tbl := lu_6 58 rfl
theorem ent_arr {args : Array Value} {s : State} {ty : FieldType} (hne : ∀ C, ty ≠ .object C) (h : (Cond.arrayClass ty).before args s = true) : ∃ cA, ArrOfT s cA ty ∧ va_RA s cA ty := by
  obtain ⟨c, k, comp, h1, h2, h3⟩ := Cond.arrayClass_spec (show (Cond.arrayClass ty).holds args s none s [] = true from h)
  refine ⟨c, fun n z => ⟨(fun k h => by cases h), k, h2, comp, h3⟩, ?_⟩
  cases ty with
  | object C => exact absurd rfl (hne C)
  | _ => exact h1
theorem ent_arrO {args : Array Value} {s : State} {C : String} (h : (Cond.arrayOver (.object C)).before args s = true) : ∃ cA, ArrOfT s cA (.object C) ∧ va_RA s cA (.object C) := by
  obtain ⟨comp, c, k, h1, h2, h3, h4, h5⟩ := Cond.arrayOver_spec (show (Cond.arrayOver (.object C)).holds args s none s [] = true from h)
  exact ⟨c, fun n z => ⟨(fun k h => by cases h), k, h3, comp, h4⟩, k, comp, h3, h4, h1, h5⟩
theorem ent_D {args : Array Value} {s : State} (hts : ∀ w ∈ lw_tbl, w.before args s = true) : ∃ D : va_G, ∀ (c : Nat) (q : vw_C), vwCl[c]? = some q → u_Kn s q.1 q.2.1 q.2.2 (D.1 c) (D.2 c) := by
  have hm : ∀ w ∈ mU, w.before args s = true := fun w hw => hts w (List.mem_filter.mp hw).1
  have h : ∀ k : Nat, ∃ x : ClassId × (Nat → Nat), ∀ q : vw_C, vwCl[k]? = some q → u_Kn s q.1 q.2.1 q.2.2 x.1 x.2 := by
    intro k
    match k with
    | 0 => obtain ⟨c, i, h⟩ := u_known (C := RX0) (T := TX0) (N := mN 0) (n := mN 0) hm mw_0 (hts _ lib_0); exact ⟨(c, i), fun q hq => by cases hq; exact h⟩
    | 1 => obtain ⟨c, i, h⟩ := u_known (C := RX1) (T := TX1) (N := mN 1) (n := mN 1) hm mw_1 (hts _ lib_1); exact ⟨(c, i), fun q hq => by cases hq; exact h⟩
    | 2 => obtain ⟨c, i, h⟩ := u_known (C := RX2) (T := TX2) (N := mN 2) (n := mN 2) hm mw_2 (hts _ lib_2); exact ⟨(c, i), fun q hq => by cases hq; exact h⟩
    | 3 => obtain ⟨c, i, h⟩ := u_known (C := RX3) (T := TX3) (N := mN 3) (n := mN 3) hm mw_3 (hts _ lib_3); exact ⟨(c, i), fun q hq => by cases hq; exact h⟩
    | 4 => obtain ⟨c, i, h⟩ := u_known (C := RX4) (T := TX4) (N := mN 4) (n := mN 4) hm mw_4 (hts _ lib_4); exact ⟨(c, i), fun q hq => by cases hq; exact h⟩
    | 5 => obtain ⟨c, i, h⟩ := u_known (C := RX5) (T := TX5) (N := mN 5) (n := mN 5) hm mw_5 (hts _ lib_5); exact ⟨(c, i), fun q hq => by cases hq; exact h⟩
    | 6 => obtain ⟨c, i, h⟩ := u_known (C := RX6) (T := TX6) (N := mN 6) (n := mN 6) hm mw_6 (hts _ lib_6); exact ⟨(c, i), fun q hq => by cases hq; exact h⟩
    | 7 => obtain ⟨c, i, h⟩ := u_known (C := RX7) (T := TX7) (N := mN 7) (n := mN 7) hm mw_7 (hts _ lib_7); exact ⟨(c, i), fun q hq => by cases hq; exact h⟩
    | 8 => obtain ⟨c, i, h⟩ := u_known (C := RX8) (T := TX8) (N := mN 8) (n := mN 8) hm mw_8 (hts _ lib_8); exact ⟨(c, i), fun q hq => by cases hq; exact h⟩
    | 9 => obtain ⟨c, i, h⟩ := u_known (C := RX9) (T := TX9) (N := mN 9) (n := mN 9) hm mw_9 (hts _ lib_9); exact ⟨(c, i), fun q hq => by cases hq; exact h⟩
    | 10 => obtain ⟨c, i, h⟩ := u_known (C := RX10) (T := TX10) (N := mN 10) (n := mN 10) hm mw_10 (hts _ lib_10); exact ⟨(c, i), fun q hq => by cases hq; exact h⟩
    | 11 => obtain ⟨c, i, h⟩ := u_known (C := RX11) (T := TX11) (N := mN 11) (n := mN 11) hm mw_11 (hts _ lib_11); exact ⟨(c, i), fun q hq => by cases hq; exact h⟩
    | 12 => obtain ⟨c, i, h⟩ := u_known (C := RX12) (T := TX12) (N := mN 12) (n := mN 12) hm mw_12 (hts _ lib_12); exact ⟨(c, i), fun q hq => by cases hq; exact h⟩
    | k + 13 =>
      obtain ⟨c, i, h⟩ := u_known (C := RX0) (T := TX0) (N := mN 0) (n := mN 0) hm mw_0 (hts _ lib_0)
      exact ⟨(c, i), fun q hq => by simp [vwCl] at hq⟩
  exact ⟨(fun k => (h k).choose.1, fun k => (h k).choose.2), fun c q hq => (h c).choose_spec q hq⟩
theorem ent_dA {args : Array Value} {s : State} (hts : ∀ w ∈ lw_tbl, w.before args s = true) : ∃ dA : Nat → ClassId, ∀ (k : Nat) (q : ClassId × FieldType), (mTys dA)[k]? = some q → ArrOfT s q.1 q.2 ∧ va_RA s q.1 q.2 := by
  obtain ⟨c0, h0⟩ := ent_arr (fun C h => by cases h) (hts _ lar0)
  obtain ⟨c1, h1⟩ := ent_arr (fun C h => by cases h) (hts _ lar1)
  obtain ⟨c2, h2⟩ := ent_arr (fun C h => by cases h) (hts _ lar2)
  obtain ⟨c3, h3⟩ := ent_arrO (C := RX9) (hts _ lao)
  refine ⟨fun k => match k with | 0 => c0 | 1 => c1 | 2 => c2 | _ => c3, fun k q hq => ?_⟩
  match k, hq with
  | 0, hq => cases hq; exact h0
  | 1, hq => cases hq; exact h1
  | 2, hq => cases hq; exact h2
  | 3, hq => cases hq; exact h3
  | k + 4, hq => simp [mTys] at hq
/-- what the Statement says of a text -/
def sC (i : Nat) : List Cond := [Cond.exactly (.string (mStr i).1 (mStr i).2.1) "java/lang/String", Cond.eq (.field (.string (mStr i).1 (mStr i).2.1) "java/lang/String" "coder" "B") (.int 0), Cond.arrayOf (.field (.string (mStr i).1 (mStr i).2.1) "java/lang/String" "value" "[B") .byte, Cond.eq (.length (.field (.string (mStr i).1 (mStr i).2.1) "java/lang/String" "value" "[B")) (.int (Int32.ofNat (mStrB i).length))] ++ (List.range (mStrB i).length).map (fun j => Cond.eq (.elem (.field (.string (mStr i).1 (mStr i).2.1) "java/lang/String" "value" "[B") (.int (Int32.ofNat j))) (.int ((mStrB i).getD j 0)))
theorem sC_a : (List.range 34).flatMap sC = ((flatC (Jvm.Cond.and given_1 narrow_1)).drop 9).take 410 := by decide +kernel
theorem sC_b : sC 34 = (flatC (Jvm.Cond.and given_1 narrow_1)).drop 420 := by decide +kernel
theorem sC_in {i : Nat} (hi : i < 35) {c : Cond} (hc : c ∈ sC i) : c ∈ flatC (Jvm.Cond.and given_1 narrow_1) := by
  by_cases h : i = 34
  · subst h
    rw [sC_b] at hc
    exact List.mem_of_mem_drop hc
  · have h1 : c ∈ (List.range 34).flatMap sC := List.mem_flatMap.mpr ⟨i, List.mem_range.mpr (by omega), hc⟩
    rw [sC_a] at h1
    exact List.mem_of_mem_drop (List.mem_of_mem_take h1)
theorem flat_static : Cond.eq (Term.static "java/lang/String" "COMPACT_STRINGS" "Z") (Term.int 1) ∈ flatC (Jvm.Cond.and given_1 narrow_1) := by decide +kernel
theorem flat_fmt : Cond.isRef (Term.static "jdk/internal/util/Preconditions" "SIOOBE_FORMATTER" "Ljava/util/function/BiFunction;") ∈ flatC (Jvm.Cond.and given_1 narrow_1) := by decide +kernel
theorem ent_str {s : State} {b : Nat} (hts : ∀ w ∈ lw_tbl, w.before #[Value.ref b] s = true) (hgv : (Jvm.Cond.and given_1 narrow_1).before #[Value.ref b] s = true) : ∃ aK aV : Nat → Nat, ∀ i, i < mStrN → vk_R (mStr i).1 (mStr i).2.1 (mStr i).2.2 (aK i) s ∧ vk_S 1 [(mStrB i).length] [mStrB i] (fun _ => aK i) (fun _ => aV i) (fun q => s.heap.size ≤ q) s s.heap := by
  have hf := flat_of_before _ hgv
  have hA : ∀ a : Nat, a < s.heap.size → ¬ (fun q => s.heap.size ≤ q) a := fun a h => Nat.not_le.mpr h
  have h0 : ∀ i : Nat, ∃ q : Nat × Nat, i < mStrN → vk_R (mStr i).1 (mStr i).2.1 (mStr i).2.2 q.1 s ∧ vk_S 1 [(mStrB i).length] [mStrB i] (fun _ => q.1) (fun _ => q.2) (fun q => s.heap.size ≤ q) s s.heap := by
    intro i
    by_cases hi : i < mStrN
    · have hc : ∀ c ∈ sC i, c.before #[Value.ref b] s = true := fun c hc => hf c (sC_in hi hc)
      have hlen := (s_all hi).2.1
      obtain ⟨adK, adV, h1, h2⟩ := vk_Sof (N := 1) (tm := fun _ => .string (mStr i).1 (mStr i).2.1) (len := [(mStrB i).length]) (byt := [mStrB i]) (A := fun q => s.heap.size ≤ q)
        (fun k hk => by rw [show k = 0 by omega]; show (mStrB i).length < 2 ^ 31; omega)
        (fun k hk => hc _ (by unfold sC; simp))
        (fun k hk => hc _ (by unfold sC; simp))
        (fun k hk => hc _ (by unfold sC; simp))
        (fun k hk => by rw [show k = 0 by omega]; exact hc _ (by unfold sC; simp))
        (fun k hk j hj => by
          rw [show k = 0 by omega] at hj ⊢
          replace hj : j < (mStrB i).length := hj
          refine hc _ ?_
          unfold sC
          refine List.mem_append_right _ (List.mem_map.mpr ⟨j, List.mem_range.mpr hj, ?_⟩)
          rfl)
        (fun k j hk hj hne => absurd (show k = j by omega) hne) hA
      refine ⟨(adK 0, adV 0), fun _ => ⟨vk_R.of (hts _ (lsr i hi)) (h2 0 (by omega)), ?_⟩⟩
      refine ⟨fun k hk => ?_, fun k j hk hj _ => by omega⟩
      have := h1.1 0 (by omega)
      rw [show k = 0 by omega]
      exact this
    · exact ⟨(0, 0), fun h => absurd h hi⟩
  obtain ⟨ad, had⟩ := Classical.axiomOfChoice h0
  exact ⟨fun i => (ad i).1, fun i => (ad i).2, fun i hi => had i hi⟩
theorem ent_env {s : State} {b : Nat} (hts : ∀ w ∈ lw_tbl, w.before #[Value.ref b] s = true) (hgv : (Jvm.Cond.and given_1 narrow_1).before #[Value.ref b] s = true) : ∃ ext adV : Nat → Nat, mEnv s.heap.size ext adV s ∧ ext 400000 = b := by
  obtain ⟨aK, aV, hstr⟩ := ent_str hts hgv
  have hf := flat_of_before _ hgv
  have hA : ∀ a : Nat, a < s.heap.size → ¬ (fun q => s.heap.size ≤ q) a := fun a h => Nat.not_le.mpr h
  have hz := va_Zof (A := fun q => s.heap.size ≤ q) (hts _ lst1) (hts _ lin1) (va_eqi (hf _ flat_static)) hA
  have hq := va_Zqof (A := fun q => s.heap.size ≤ q) (hts _ lst2) (hts _ lin2) (hf _ flat_fmt) hA
  have key : ∀ t : Nat, (va_Z "jdk/internal/util/Preconditions" "SIOOBE_FORMATTER" "Ljava/util/function/BiFunction;" .null (fun q => s.heap.size ≤ q) s s.heap ∨ va_Z "jdk/internal/util/Preconditions" "SIOOBE_FORMATTER" "Ljava/util/function/BiFunction;" (.ref t) (fun q => s.heap.size ≤ q) s s.heap) → ∃ ext adV : Nat → Nat, mEnv s.heap.size ext adV s ∧ ext 400000 = b := fun t ht => by
    refine ⟨fun k => if k = 400000 then b else if k = 500000 then t else if k < 1000000 then aK (k - 1) else aV (k - 1000001), fun i => aV i, ⟨fun q hm => va_Nw.of rfl (hts _ (lne q hm)), va_AO.of (hts _ lao), fun i hi => ?_, hz, ?_, fun i => ?_⟩, rfl⟩
    · have e : (if i + 1 = 400000 then b else if i + 1 = 500000 then t else if i + 1 < 1000000 then aK (i + 1 - 1) else aV (i + 1 - 1000001)) = aK i := by
        unfold mStrN at hi
        rw [if_neg (by omega), if_neg (by omega), if_pos (by omega), Nat.add_sub_cancel]
      show vk_R _ _ _ (if i + 1 = 400000 then b else if i + 1 = 500000 then t else if i + 1 < 1000000 then aK (i + 1 - 1) else aV (i + 1 - 1000001)) s ∧ vk_S 1 _ _ (fun _ => if i + 1 = 400000 then b else if i + 1 = 500000 then t else if i + 1 < 1000000 then aK (i + 1 - 1) else aV (i + 1 - 1000001)) _ _ _ _
      rw [e]
      exact hstr i hi
    · exact ht
    · show aV i = if 1000001 + i = 400000 then b else if 1000001 + i = 500000 then t else if 1000001 + i < 1000000 then aK (1000001 + i - 1) else aV (1000001 + i - 1000001)
      rw [if_neg (by omega), if_neg (by omega), if_neg (by omega), Nat.add_sub_cancel_left]
  rcases hq with hq | ⟨t, hq⟩
  · exact key 0 (Or.inl hq)
  · exact key t (Or.inr hq)
/-- the law, from its entry, where its loop holds of the state that the constructors leave -/
theorem whole_open (hlaw : ∀ (L : Nat) (xs : Nat → Int32), L ≤ 3072 → claw_18 L xs (0 : Int32) s0) {p : Program} {e : Env} {s : State} {m : MethodId} {below : List Frame} {meth : Method} {c : Code} (l : Launch) {b L : Nat} {xs : Nat → Int32} (hL : L ≤ 3072) (C0 : lw_At p s m meth c b L xs) : W p l e room_1 s m #[Value.ref b] below meth c s.heap [] 0 0 (lw_Z below #[Value.ref b] s) (entryFrame m ([Value.ref b] : List Value).toArray 4) := by
  obtain ⟨hx, hb, hr, hml, hown, hts, hX, hbl, hlocks, hgv⟩ := id C0
  obtain ⟨D, hD⟩ := ent_D hts
  obtain ⟨dA, hdA⟩ := ent_dA hts
  obtain ⟨ext, adV, hE, he⟩ := ent_env hts hgv
  have hC : mOk ((p, l, e, room_1, s), (m, #[Value.ref b], below, meth, c), (D, dA, s.heap.size, ext, adV), (0, 0, 600000, 7302250), lw_Z below #[Value.ref b] s) cL_law RL 200 :=
    ⟨hx, hb, hown, fun w hw => hts w (List.mem_filter.mp hw).1, ⟨hD, hdA⟩, Nat.le_refl _, ⟨Nat.le_of_ble_eq_true rfl, Nat.le_of_ble_eq_true rfl⟩, ⟨rfl, rfl⟩, hE⟩
  have hs : lawS ((p, l, e, room_1, s), (m, #[Value.ref b], below, meth, c), (D, dA, s.heap.size, ext, adV), (0, 0, 600000, 7302250), lw_Z below #[Value.ref b] s) L xs := ⟨by rw [he]; exact hX, by rw [he]; exact hbl, rfl⟩
  have hR : lawR ((p, l, e, room_1, s), (m, #[Value.ref b], below, meth, c), (D, dA, s.heap.size, ext, adV), (0, 0, 600000, 7302250), lw_Z below #[Value.ref b] s) := ⟨b, rfl, rfl, rfl, rfl, rfl, rfl, rfl, rfl, hr, hlocks⟩
  have h0 := blaw_0 hC hs hR (hlaw L xs hL)
  rw [lg_entry_eq]
  have hl := lv_entry ([.ref b]) (n := 4) (Nat.le_of_ble_eq_true rfl)
  have hrep : mRep D dA s.heap.size ext T_0 s.heap := ⟨fun k q h => by simp [mWs, sN, T_0] at h, ⟨fun i j p q h => by simp [mWs, sN, T_0] at h, fun k q h => by simp [mWs, sN, T_0] at h⟩, rfl, fun _ _ => rfl, Nat.zero_le _⟩
  have hlr : lR (mAd s.heap.size ext) [some (.ref 1400000), none, none, none] ((lg_sl [Value.ref b] ++ List.replicate (4 - (lg_sl [Value.ref b]).length) Slot.unset).toArray) := by
    refine ⟨hl.1, hl.2.1, fun i v hi => ?_⟩
    have had : mAd s.heap.size ext 1400000 = b := by unfold mAd; rw [if_neg (by decide)]; exact he
    match i, hi with
    | 0, hi =>
      simp at hi
      subst hi
      show _ = some (Slot.val (Value.ref (mAd s.heap.size ext 1400000)))
      rw [had]
      exact hl.2.2 (0, .ref b) (by simp [lv_args])
    | 1, hi => simp at hi
    | 2, hi => simp at hi
    | 3, hi => simp at hi
    | i + 4, hi => simp at hi
  exact h0 [some (.ref 1400000), none, none, none] [] T_0 ⟨lsub_rf _, rfl, rfl⟩ s.heap [] _ hrep va_S.rf hlr (by rw [hml, hl.1]) ⟨Nat.le_refl _, Nat.zero_le _, Nat.le_refl _, Nat.zero_le _⟩
