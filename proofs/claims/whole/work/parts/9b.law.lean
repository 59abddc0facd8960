/-! THE CLAIM OUT OF ONE WALK OF THE LAW'S BODY. Your part is whole_start (and what it stands on); all else here is the same for every law, but numbers. -/
def R_law : String := "UnlikeLoavesLaw"
def lw_P (b : Addr) (xs : List Int32) (args : Array Value) (s : State) : Prop := args = #[.ref b] ∧ s.IntsAt b xs ∧ xs.length ≤ 3072 ∧ (Jvm.Cond.and given_1 narrow_1).before args s = true
def lw_Q (_ : Array Value) (s : State) (o : Outcome) (t : State) : Prop := o = .returned (some (.int 1)) ∧ Framed s o t [] 600000 7302250
def lw_Z (below : List Frame) (a : Array Value) (s : State) : State → Prop := fun t => ∃ o, t.status = .running ∧ Ended t below o ∧ lw_Q a s o t
/-- the law's own end, with 1 on the stack, nothing written that was there before, its room as the claim has it -/
theorem lw_ret {p : Program} {l : Launch} {e : Env} {s : State} {m : MethodId} {below : List Frame} {meth : Method} {c : Code} {b : Nat} (hx : p.tables.exec = Jvm.exec) (hb : c.code = code) (hr : meth.sig.returnType = ret) (hlocks : meth.locks = false) {pc : Nat} {H : Heap} {ls : Array Slot} (hdg : decode code pc = .ok (.ireturn, 1)) : W p l e room_1 s m #[Value.ref b] below meth c H [] 600000 7302250 (lw_Z below #[Value.ref b] s) (F0 m pc ls [.int 1]) := by
  intro T hT X
  obtain ⟨fs, hret, hrun, hended, hW, hframe⟩ := X.leave (v := some (.int 1)) (hlocks := hlocks) (fun h => by rw [hr] at h; cases h)
  have hmeth' : T.vm.method? m = some meth := X.method'
  refine ⟨T.setFrames fs, ?_, .returned (some (.int 1)), hrun, hended, rfl, ⟨_, rfl⟩, hW, hframe⟩
  jvm_step X.here [X.here.top, hx, hb, hdg, hmeth', hr, ret, narrow_b1]
  (try refine ⟨rfl, ?_⟩); (try refine ⟨rfl, ?_⟩)
  first | (intro acts; rw [hret _ acts rfl rfl rfl]) | rw [hret _ _ rfl rfl rfl]
  exact Steps.refl _
/-- what holds at the law's entry: the machine, the code, the tables' words (any of lw_tbl by 'hts w (by decide +kernel)'), the script of L ints xs at the cell b, what the Statement gives of the start (any of its parts by flat_of_before) -/
def lw_At (p : Program) (s : State) (m : MethodId) (meth : Method) (c : Code) (b L : Nat) (xs : Nat → Int32) : Prop :=
  p.tables.exec = Jvm.exec ∧ c.code = code ∧ meth.sig.returnType = ret ∧ c.maxLocals = 4 ∧ s.vm.findClass R_law = some m.cls ∧ (∀ w ∈ lw_tbl, w.before #[Value.ref b] s = true) ∧ va_X b L xs s s.heap ∧ b < s.heap.size ∧ meth.locks = false ∧ (Jvm.Cond.and given_1 narrow_1).before #[Value.ref b] s = true
theorem wt_21 : Cond.classLink "UnlikeLoavesLaw" 7 "UnlikeLoaves" ∈ mU := lt_1 21 rfl rfl
theorem wt_22 : Cond.instantiable "UnlikeLoaves" (mN 11) ∈ mU := lt_1 22 rfl rfl
theorem wt_23 : Cond.methodLink "UnlikeLoavesLaw" 9 yX11_init ∈ mU := lt_1 23 rfl rfl
theorem wt_24 : Cond.instanceMethod yX11_init ∈ mU := lt_1 24 rfl rfl
theorem wt_25 : Cond.code yX11_init cX11_init 1 none ∈ mU := lt_1 25 rfl rfl
theorem wt_434 : Cond.methodLink "UnlikeLoavesLaw" 13 yX11_feed ∈ mU := lt_2 194 rfl rfl
theorem wt_435 : Cond.instanceMethod yX11_feed ∈ mU := lt_2 195 rfl rfl
theorem wt_436 : Cond.selects "UnlikeLoaves" yX11_feed yX11_feed ∈ mU := lt_2 196 rfl rfl
theorem wt_437 : Cond.code yX11_feed cX11_feed 6 (some .int) ∈ mU := lt_2 197 rfl rfl
theorem wt_446 : Cond.methodLink "UnlikeLoavesLaw" 18 yX11_end ∈ mU := lt_2 206 rfl rfl
theorem wt_447 : Cond.instanceMethod yX11_end ∈ mU := lt_2 207 rfl rfl
theorem wt_448 : Cond.selects "UnlikeLoaves" yX11_end yX11_end ∈ mU := lt_2 208 rfl rfl
theorem wt_449 : Cond.code yX11_end cX11_end 2 (some .boolean) ∈ mU := lt_2 209 rfl rfl
theorem wt_450 : Cond.methodLink "UnlikeLoavesLaw" 23 yX11_office ∈ mU := lt_2 210 rfl rfl
theorem wt_451 : Cond.instanceMethod yX11_office ∈ mU := lt_2 211 rfl rfl
theorem wt_452 : Cond.selects "UnlikeLoaves" yX11_office yX11_office ∈ mU := lt_2 212 rfl rfl
theorem wt_453 : Cond.code yX11_office cX11_office 3 (some .int) ∈ mU := lt_2 213 rfl rfl
theorem wt_753 : Cond.methodLink "UnlikeLoavesLaw" 28 yX11_fault ∈ mU := lt_4 33 rfl rfl
theorem wt_754 : Cond.instanceMethod yX11_fault ∈ mU := lt_4 34 rfl rfl
theorem wt_755 : Cond.selects "UnlikeLoaves" yX11_fault yX11_fault ∈ mU := lt_4 35 rfl rfl
theorem wt_756 : Cond.code yX11_fault cX11_fault 2 (some .int) ∈ mU := lt_4 36 rfl rfl
theorem wt_757 : Cond.methodLink "UnlikeLoavesLaw" 33 yX11_has ∈ mU := lt_4 37 rfl rfl
theorem wt_758 : Cond.instanceMethod yX11_has ∈ mU := lt_4 38 rfl rfl
theorem wt_759 : Cond.selects "UnlikeLoaves" yX11_has yX11_has ∈ mU := lt_4 39 rfl rfl
theorem wt_760 : Cond.code yX11_has cX11_has 2 (some .int) ∈ mU := lt_4 40 rfl rfl
theorem wt_776 : Cond.methodLink "UnlikeLoavesLaw" 37 yX11_letter ∈ mU := lt_4 56 rfl rfl
theorem wt_777 : Cond.instanceMethod yX11_letter ∈ mU := lt_4 57 rfl rfl
theorem wt_778 : Cond.selects "UnlikeLoaves" yX11_letter yX11_letter ∈ mU := lt_4 58 rfl rfl
theorem wt_779 : Cond.code yX11_letter cX11_letter 5 (some .int) ∈ mU := lt_4 59 rfl rfl
theorem wt_784 : Cond.methodLink "UnlikeLoavesLaw" 42 yX11_person ∈ mU := lt_4 64 rfl rfl
theorem wt_785 : Cond.instanceMethod yX11_person ∈ mU := lt_4 65 rfl rfl
theorem wt_786 : Cond.selects "UnlikeLoaves" yX11_person yX11_person ∈ mU := lt_4 66 rfl rfl
theorem wt_787 : Cond.code yX11_person cX11_person 3 (some .int) ∈ mU := lt_4 67 rfl rfl
theorem wt_840 : Cond.methodLink "UnlikeLoavesLaw" 46 yX11_stock ∈ mU := lt_4 120 rfl rfl
theorem wt_841 : Cond.instanceMethod yX11_stock ∈ mU := lt_4 121 rfl rfl
theorem wt_842 : Cond.selects "UnlikeLoaves" yX11_stock yX11_stock ∈ mU := lt_4 122 rfl rfl
theorem wt_843 : Cond.code yX11_stock cX11_stock 2 (some .int) ∈ mU := lt_4 123 rfl rfl
theorem wt_848 : Cond.methodLink "UnlikeLoavesLaw" 50 yX11_kept ∈ mU := lt_4 128 rfl rfl
theorem wt_849 : Cond.instanceMethod yX11_kept ∈ mU := lt_4 129 rfl rfl
theorem wt_850 : Cond.selects "UnlikeLoaves" yX11_kept yX11_kept ∈ mU := lt_4 130 rfl rfl
theorem wt_851 : Cond.code yX11_kept cX11_kept 3 (some .int) ∈ mU := lt_4 131 rfl rfl
theorem wt_856 : Cond.methodLink "UnlikeLoavesLaw" 54 yX11_writings ∈ mU := lt_4 136 rfl rfl
theorem wt_868 : Cond.methodLink "UnlikeLoavesLaw" 58 yX11_writing ∈ mU := lt_4 148 rfl rfl
theorem wt_869 : Cond.instanceMethod yX11_writing ∈ mU := lt_4 149 rfl rfl
theorem wt_870 : Cond.selects "UnlikeLoaves" yX11_writing yX11_writing ∈ mU := lt_4 150 rfl rfl
theorem wt_871 : Cond.code yX11_writing cX11_writing 5 (some .int) ∈ mU := lt_4 151 rfl rfl
theorem wt_873 : Cond.methodLink "UnlikeLoavesLaw" 63 yX11_greedy ∈ mU := lt_4 153 rfl rfl
theorem wt_874 : Cond.instanceMethod yX11_greedy ∈ mU := lt_4 154 rfl rfl
theorem wt_875 : Cond.selects "UnlikeLoaves" yX11_greedy yX11_greedy ∈ mU := lt_4 155 rfl rfl
theorem wt_876 : Cond.code yX11_greedy cX11_greedy 3 (some .int) ∈ mU := lt_4 156 rfl rfl
theorem wt_881 : Cond.methodLink "UnlikeLoavesLaw" 67 yX11_shortest ∈ mU := lt_4 161 rfl rfl
theorem wt_882 : Cond.instanceMethod yX11_shortest ∈ mU := lt_4 162 rfl rfl
theorem wt_883 : Cond.selects "UnlikeLoaves" yX11_shortest yX11_shortest ∈ mU := lt_4 163 rfl rfl
theorem wt_884 : Cond.code yX11_shortest cX11_shortest 3 (some .int) ∈ mU := lt_4 164 rfl rfl
theorem wt_896 : Cond.methodLink "UnlikeLoavesLaw" 71 yX11_cheapest ∈ mU := lt_4 176 rfl rfl
theorem wt_897 : Cond.instanceMethod yX11_cheapest ∈ mU := lt_4 177 rfl rfl
theorem wt_898 : Cond.selects "UnlikeLoaves" yX11_cheapest yX11_cheapest ∈ mU := lt_4 178 rfl rfl
theorem wt_899 : Cond.code yX11_cheapest cX11_cheapest 11 (some .long) ∈ mU := lt_4 179 rfl rfl
theorem wt_906 : Cond.methodLink "UnlikeLoavesLaw" 76 yX11_makes ∈ mU := lt_4 186 rfl rfl
theorem wt_907 : Cond.instanceMethod yX11_makes ∈ mU := lt_4 187 rfl rfl
theorem wt_908 : Cond.selects "UnlikeLoaves" yX11_makes yX11_makes ∈ mU := lt_4 188 rfl rfl
theorem wt_909 : Cond.code yX11_makes cX11_makes 7 (some .long) ∈ mU := lt_4 189 rfl rfl
theorem wt_922 : Cond.methodLink "UnlikeLoavesLaw" 81 yX11_anew ∈ mU := lt_4 202 rfl rfl
theorem wt_923 : Cond.instanceMethod yX11_anew ∈ mU := lt_4 203 rfl rfl
theorem wt_924 : Cond.selects "UnlikeLoaves" yX11_anew yX11_anew ∈ mU := lt_4 204 rfl rfl
theorem wt_925 : Cond.code yX11_anew cX11_anew 8 (some .int) ∈ mU := lt_4 205 rfl rfl
theorem wt_926 : Cond.methodLink "UnlikeLoavesLaw" 85 yX11_mend ∈ mU := lt_4 206 rfl rfl
theorem wt_927 : Cond.instanceMethod yX11_mend ∈ mU := lt_4 207 rfl rfl
theorem wt_928 : Cond.selects "UnlikeLoaves" yX11_mend yX11_mend ∈ mU := lt_4 208 rfl rfl
theorem wt_929 : Cond.code yX11_mend cX11_mend 8 (some .int) ∈ mU := lt_4 209 rfl rfl
theorem wt_939 : Cond.methodLink "UnlikeLoavesLaw" 90 yX11_fills ∈ mU := lt_4 219 rfl rfl
theorem wt_940 : Cond.instanceMethod yX11_fills ∈ mU := lt_4 220 rfl rfl
theorem wt_941 : Cond.selects "UnlikeLoaves" yX11_fills yX11_fills ∈ mU := lt_4 221 rfl rfl
theorem wt_942 : Cond.code yX11_fills cX11_fills 8 (some .int) ∈ mU := lt_4 222 rfl rfl
theorem wt_943 : Cond.methodLink "UnlikeLoavesLaw" 94 yX11_later ∈ mU := lt_4 223 rfl rfl
theorem wt_944 : Cond.instanceMethod yX11_later ∈ mU := lt_4 224 rfl rfl
theorem wt_945 : Cond.selects "UnlikeLoaves" yX11_later yX11_later ∈ mU := lt_4 225 rfl rfl
theorem wt_946 : Cond.code yX11_later cX11_later 3 (some .int) ∈ mU := lt_4 226 rfl rfl
theorem wt_978 : Cond.methodLink "UnlikeLoavesLaw" 98 yX11_served ∈ mU := lt_5 18 rfl rfl
theorem wt_979 : Cond.instanceMethod yX11_served ∈ mU := lt_5 19 rfl rfl
theorem wt_980 : Cond.selects "UnlikeLoaves" yX11_served yX11_served ∈ mU := lt_5 20 rfl rfl
theorem wt_981 : Cond.code yX11_served cX11_served 2 (some .int) ∈ mU := lt_5 21 rfl rfl
theorem wt_986 : Cond.methodLink "UnlikeLoavesLaw" 102 yX11_left ∈ mU := lt_5 26 rfl rfl
theorem wt_987 : Cond.instanceMethod yX11_left ∈ mU := lt_5 27 rfl rfl
theorem wt_988 : Cond.selects "UnlikeLoaves" yX11_left yX11_left ∈ mU := lt_5 28 rfl rfl
theorem wt_989 : Cond.code yX11_left cX11_left 3 (some .int) ∈ mU := lt_5 29 rfl rfl
theorem wt_990 : Cond.methodLink "UnlikeLoavesLaw" 106 yX11_cuts ∈ mU := lt_5 30 rfl rfl
theorem wt_991 : Cond.instanceMethod yX11_cuts ∈ mU := lt_5 31 rfl rfl
theorem wt_992 : Cond.selects "UnlikeLoaves" yX11_cuts yX11_cuts ∈ mU := lt_5 32 rfl rfl
theorem wt_993 : Cond.code yX11_cuts cX11_cuts 3 (some .int) ∈ mU := lt_5 33 rfl rfl
theorem wt_1016 : Cond.methodLink "UnlikeLoavesLaw" 110 yX11_feast ∈ mU := lt_5 56 rfl rfl
theorem wt_1017 : Cond.instanceMethod yX11_feast ∈ mU := lt_5 57 rfl rfl
theorem wt_1018 : Cond.selects "UnlikeLoaves" yX11_feast yX11_feast ∈ mU := lt_5 58 rfl rfl
theorem wt_1019 : Cond.code yX11_feast cX11_feast 3 (some .int) ∈ mU := lt_5 59 rfl rfl
theorem wt_1031 : Cond.methodLink "UnlikeLoavesLaw" 114 yX11_odds ∈ mU := lt_5 71 rfl rfl
theorem wt_1032 : Cond.instanceMethod yX11_odds ∈ mU := lt_5 72 rfl rfl
theorem wt_1033 : Cond.selects "UnlikeLoaves" yX11_odds yX11_odds ∈ mU := lt_5 73 rfl rfl
theorem wt_1034 : Cond.code yX11_odds cX11_odds 2 (some .int) ∈ mU := lt_5 74 rfl rfl
theorem wt_1047 : Cond.methodLink "UnlikeLoavesLaw" 118 yX11_see ∈ mU := lt_5 87 rfl rfl
theorem wt_1048 : Cond.instanceMethod yX11_see ∈ mU := lt_5 88 rfl rfl
theorem wt_1049 : Cond.selects "UnlikeLoaves" yX11_see yX11_see ∈ mU := lt_5 89 rfl rfl
theorem wt_1050 : Cond.code yX11_see cX11_see 2 (some .int) ∈ mU := lt_5 90 rfl rfl
theorem wt_1056 : Cond.methodLink "UnlikeLoavesLaw" 122 yX11_stocks ∈ mU := lt_5 96 rfl rfl
theorem wt_1057 : Cond.instanceMethod yX11_stocks ∈ mU := lt_5 97 rfl rfl
theorem wt_1058 : Cond.selects "UnlikeLoaves" yX11_stocks yX11_stocks ∈ mU := lt_5 98 rfl rfl
theorem wt_1059 : Cond.code yX11_stocks cX11_stocks 2 (some .int) ∈ mU := lt_5 99 rfl rfl
theorem wt_1085 : Cond.methodLink "UnlikeLoavesLaw" 126 yX11_tells ∈ mU := lt_5 125 rfl rfl
theorem wt_1086 : Cond.instanceMethod yX11_tells ∈ mU := lt_5 126 rfl rfl
theorem wt_1087 : Cond.selects "UnlikeLoaves" yX11_tells yX11_tells ∈ mU := lt_5 127 rfl rfl
theorem wt_1088 : Cond.code yX11_tells cX11_tells 3 (some .int) ∈ mU := lt_5 128 rfl rfl
theorem wt_1098 : Cond.methodLink "UnlikeLoavesLaw" 130 yX11_cut ∈ mU := lt_5 138 rfl rfl
theorem wt_1099 : Cond.instanceMethod yX11_cut ∈ mU := lt_5 139 rfl rfl
theorem wt_1100 : Cond.selects "UnlikeLoaves" yX11_cut yX11_cut ∈ mU := lt_5 140 rfl rfl
theorem wt_1101 : Cond.code yX11_cut cX11_cut 2 (some .int) ∈ mU := lt_5 141 rfl rfl
theorem wt_1111 : Cond.methodLink "UnlikeLoavesLaw" 134 yX11_bake ∈ mU := lt_5 151 rfl rfl
theorem wt_1112 : Cond.instanceMethod yX11_bake ∈ mU := lt_5 152 rfl rfl
theorem wt_1113 : Cond.selects "UnlikeLoaves" yX11_bake yX11_bake ∈ mU := lt_5 153 rfl rfl
theorem wt_1114 : Cond.code yX11_bake cX11_bake 2 (some .int) ∈ mU := lt_5 154 rfl rfl
theorem wt_1115 : Cond.methodLink "UnlikeLoavesLaw" 138 yX11_serve ∈ mU := lt_5 155 rfl rfl
theorem wt_1116 : Cond.instanceMethod yX11_serve ∈ mU := lt_5 156 rfl rfl
theorem wt_1117 : Cond.selects "UnlikeLoaves" yX11_serve yX11_serve ∈ mU := lt_5 157 rfl rfl
theorem wt_1118 : Cond.code yX11_serve cX11_serve 3 (some .boolean) ∈ mU := lt_5 158 rfl rfl
theorem wt_1129 : Cond.methodLink "UnlikeLoavesLaw" 143 yX11_days ∈ mU := lt_5 169 rfl rfl
theorem wt_1130 : Cond.instanceMethod yX11_days ∈ mU := lt_5 170 rfl rfl
theorem wt_1131 : Cond.selects "UnlikeLoaves" yX11_days yX11_days ∈ mU := lt_5 171 rfl rfl
theorem wt_1132 : Cond.code yX11_days cX11_days 4 (some .int) ∈ mU := lt_5 172 rfl rfl
theorem wt_1139 : Cond.methodLink "UnlikeLoavesLaw" 147 yX11_chance ∈ mU := lt_5 179 rfl rfl
theorem wt_1140 : Cond.instanceMethod yX11_chance ∈ mU := lt_5 180 rfl rfl
theorem wt_1141 : Cond.selects "UnlikeLoaves" yX11_chance yX11_chance ∈ mU := lt_5 181 rfl rfl
theorem wt_1142 : Cond.code yX11_chance cX11_chance 4 (some .int) ∈ mU := lt_5 182 rfl rfl
theorem wt_1151 : Cond.methodLink "UnlikeLoavesLaw" 151 yX11_undo ∈ mU := lt_5 191 rfl rfl
theorem wt_1152 : Cond.instanceMethod yX11_undo ∈ mU := lt_5 192 rfl rfl
theorem wt_1153 : Cond.selects "UnlikeLoaves" yX11_undo yX11_undo ∈ mU := lt_5 193 rfl rfl
theorem wt_1154 : Cond.code yX11_undo cX11_undo 1 (some .boolean) ∈ mU := lt_5 194 rfl rfl
theorem wt_1159 : Cond.methodLink "UnlikeLoavesLaw" 156 yX11_seed ∈ mU := lt_5 199 rfl rfl
theorem wt_1160 : Cond.instanceMethod yX11_seed ∈ mU := lt_5 200 rfl rfl
theorem wt_1161 : Cond.selects "UnlikeLoaves" yX11_seed yX11_seed ∈ mU := lt_5 201 rfl rfl
theorem wt_1162 : Cond.code yX11_seed cX11_seed 2 (some .boolean) ∈ mU := lt_5 202 rfl rfl
theorem wt_1163 : Cond.methodLink "UnlikeLoavesLaw" 160 yX11_ask ∈ mU := lt_5 203 rfl rfl
theorem wt_1164 : Cond.instanceMethod yX11_ask ∈ mU := lt_5 204 rfl rfl
theorem wt_1165 : Cond.selects "UnlikeLoaves" yX11_ask yX11_ask ∈ mU := lt_5 205 rfl rfl
theorem wt_1166 : Cond.code yX11_ask cX11_ask 2 (some .long) ∈ mU := lt_5 206 rfl rfl
theorem wt_1216 : Cond.methodLink "UnlikeLoavesLaw" 165 yX11_image ∈ mU := lt_6 16 rfl rfl
theorem wt_1217 : Cond.instanceMethod yX11_image ∈ mU := lt_6 17 rfl rfl
theorem wt_1218 : Cond.selects "UnlikeLoaves" yX11_image yX11_image ∈ mU := lt_6 18 rfl rfl
theorem wt_1219 : Cond.code yX11_image cX11_image 2 (some .int) ∈ mU := lt_6 19 rfl rfl
theorem wt_1231 : Cond.methodLink "UnlikeLoavesLaw" 169 yX11_octet ∈ mU := lt_6 31 rfl rfl
theorem wt_1232 : Cond.instanceMethod yX11_octet ∈ mU := lt_6 32 rfl rfl
theorem wt_1233 : Cond.selects "UnlikeLoaves" yX11_octet yX11_octet ∈ mU := lt_6 33 rfl rfl
theorem wt_1234 : Cond.code yX11_octet cX11_octet 2 (some .int) ∈ mU := lt_6 34 rfl rfl
theorem wt_1235 : Cond.methodLink "UnlikeLoavesLaw" 173 yX11_on ∈ mU := lt_6 35 rfl rfl
theorem wt_1236 : Cond.instanceMethod yX11_on ∈ mU := lt_6 36 rfl rfl
theorem wt_1237 : Cond.selects "UnlikeLoaves" yX11_on yX11_on ∈ mU := lt_6 37 rfl rfl
theorem wt_1238 : Cond.code yX11_on cX11_on 2 (some .boolean) ∈ mU := lt_6 38 rfl rfl
theorem wt_1253 : Cond.methodLink "UnlikeLoavesLaw" 177 yX11_status ∈ mU := lt_6 53 rfl rfl
theorem wt_1254 : Cond.instanceMethod yX11_status ∈ mU := lt_6 54 rfl rfl
theorem wt_1255 : Cond.selects "UnlikeLoaves" yX11_status yX11_status ∈ mU := lt_6 55 rfl rfl
theorem wt_1256 : Cond.code yX11_status cX11_status 2 (some .int) ∈ mU := lt_6 56 rfl rfl
theorem wt_1257 : Cond.classLink "UnlikeLoavesLaw" 10 "UnlikeLoavesModel" ∈ mU := lt_6 57 rfl rfl
theorem wt_1258 : Cond.instantiable "UnlikeLoavesModel" (mN 12) ∈ mU := lt_6 58 rfl rfl
theorem wt_1259 : Cond.methodLink "UnlikeLoavesLaw" 12 yX12_init ∈ mU := lt_6 59 rfl rfl
theorem wt_1260 : Cond.instanceMethod yX12_init ∈ mU := lt_6 60 rfl rfl
theorem wt_1261 : Cond.code yX12_init cX12_init 1 none ∈ mU := lt_6 61 rfl rfl
theorem wt_1601 : Cond.methodLink "UnlikeLoavesLaw" 17 yX12_feed ∈ mU := lt_7 161 rfl rfl
theorem wt_1602 : Cond.instanceMethod yX12_feed ∈ mU := lt_7 162 rfl rfl
theorem wt_1603 : Cond.selects "UnlikeLoavesModel" yX12_feed yX12_feed ∈ mU := lt_7 163 rfl rfl
theorem wt_1604 : Cond.code yX12_feed cX12_feed 8 (some .int) ∈ mU := lt_7 164 rfl rfl
theorem wt_1605 : Cond.methodLink "UnlikeLoavesLaw" 22 yX12_end ∈ mU := lt_7 165 rfl rfl
theorem wt_1606 : Cond.instanceMethod yX12_end ∈ mU := lt_7 166 rfl rfl
theorem wt_1607 : Cond.selects "UnlikeLoavesModel" yX12_end yX12_end ∈ mU := lt_7 167 rfl rfl
theorem wt_1608 : Cond.code yX12_end cX12_end 2 (some .boolean) ∈ mU := lt_7 168 rfl rfl
theorem wt_1609 : Cond.methodLink "UnlikeLoavesLaw" 27 yX12_office ∈ mU := lt_7 169 rfl rfl
theorem wt_1610 : Cond.instanceMethod yX12_office ∈ mU := lt_7 170 rfl rfl
theorem wt_1611 : Cond.selects "UnlikeLoavesModel" yX12_office yX12_office ∈ mU := lt_7 171 rfl rfl
theorem wt_1612 : Cond.code yX12_office cX12_office 2 (some .int) ∈ mU := lt_7 172 rfl rfl
theorem wt_1795 : Cond.methodLink "UnlikeLoavesLaw" 32 yX12_fault ∈ mU := lt_8 115 rfl rfl
theorem wt_1796 : Cond.instanceMethod yX12_fault ∈ mU := lt_8 116 rfl rfl
theorem wt_1797 : Cond.selects "UnlikeLoavesModel" yX12_fault yX12_fault ∈ mU := lt_8 117 rfl rfl
theorem wt_1798 : Cond.code yX12_fault cX12_fault 2 (some .int) ∈ mU := lt_8 118 rfl rfl
theorem wt_1799 : Cond.methodLink "UnlikeLoavesLaw" 36 yX12_has ∈ mU := lt_8 119 rfl rfl
theorem wt_1800 : Cond.instanceMethod yX12_has ∈ mU := lt_8 120 rfl rfl
theorem wt_1801 : Cond.selects "UnlikeLoavesModel" yX12_has yX12_has ∈ mU := lt_8 121 rfl rfl
theorem wt_1802 : Cond.code yX12_has cX12_has 2 (some .int) ∈ mU := lt_8 122 rfl rfl
theorem wt_1819 : Cond.methodLink "UnlikeLoavesLaw" 41 yX12_letter ∈ mU := lt_8 139 rfl rfl
theorem wt_1820 : Cond.instanceMethod yX12_letter ∈ mU := lt_8 140 rfl rfl
theorem wt_1821 : Cond.selects "UnlikeLoavesModel" yX12_letter yX12_letter ∈ mU := lt_8 141 rfl rfl
theorem wt_1822 : Cond.code yX12_letter cX12_letter 8 (some .int) ∈ mU := lt_8 142 rfl rfl
theorem wt_1828 : Cond.methodLink "UnlikeLoavesLaw" 45 yX12_person ∈ mU := lt_8 148 rfl rfl
theorem wt_1829 : Cond.instanceMethod yX12_person ∈ mU := lt_8 149 rfl rfl
theorem wt_1830 : Cond.selects "UnlikeLoavesModel" yX12_person yX12_person ∈ mU := lt_8 150 rfl rfl
theorem wt_1831 : Cond.code yX12_person cX12_person 3 (some .int) ∈ mU := lt_8 151 rfl rfl
theorem wt_1883 : Cond.methodLink "UnlikeLoavesLaw" 49 yX12_stock ∈ mU := lt_8 203 rfl rfl
theorem wt_1884 : Cond.instanceMethod yX12_stock ∈ mU := lt_8 204 rfl rfl
theorem wt_1885 : Cond.selects "UnlikeLoavesModel" yX12_stock yX12_stock ∈ mU := lt_8 205 rfl rfl
theorem wt_1886 : Cond.code yX12_stock cX12_stock 2 (some .int) ∈ mU := lt_8 206 rfl rfl
theorem wt_1891 : Cond.methodLink "UnlikeLoavesLaw" 53 yX12_kept ∈ mU := lt_8 211 rfl rfl
theorem wt_1892 : Cond.instanceMethod yX12_kept ∈ mU := lt_8 212 rfl rfl
theorem wt_1893 : Cond.selects "UnlikeLoavesModel" yX12_kept yX12_kept ∈ mU := lt_8 213 rfl rfl
theorem wt_1894 : Cond.code yX12_kept cX12_kept 3 (some .int) ∈ mU := lt_8 214 rfl rfl
theorem wt_1896 : Cond.methodLink "UnlikeLoavesLaw" 57 yX12_writings ∈ mU := lt_8 216 rfl rfl
theorem wt_1897 : Cond.instanceMethod yX12_writings ∈ mU := lt_8 217 rfl rfl
theorem wt_1898 : Cond.selects "UnlikeLoavesModel" yX12_writings yX12_writings ∈ mU := lt_8 218 rfl rfl
theorem wt_1899 : Cond.code yX12_writings cX12_writings 3 (some .int) ∈ mU := lt_8 219 rfl rfl
theorem wt_1905 : Cond.methodLink "UnlikeLoavesLaw" 62 yX12_writing ∈ mU := lt_8 225 rfl rfl
theorem wt_1906 : Cond.instanceMethod yX12_writing ∈ mU := lt_8 226 rfl rfl
theorem wt_1907 : Cond.selects "UnlikeLoavesModel" yX12_writing yX12_writing ∈ mU := lt_8 227 rfl rfl
theorem wt_1908 : Cond.code yX12_writing cX12_writing 4 (some .int) ∈ mU := lt_8 228 rfl rfl
theorem wt_1909 : Cond.methodLink "UnlikeLoavesLaw" 66 yX12_greedy ∈ mU := lt_8 229 rfl rfl
theorem wt_1910 : Cond.instanceMethod yX12_greedy ∈ mU := lt_8 230 rfl rfl
theorem wt_1911 : Cond.selects "UnlikeLoavesModel" yX12_greedy yX12_greedy ∈ mU := lt_8 231 rfl rfl
theorem wt_1912 : Cond.code yX12_greedy cX12_greedy 7 (some .int) ∈ mU := lt_8 232 rfl rfl
theorem wt_1916 : Cond.methodLink "UnlikeLoavesLaw" 70 yX12_shortest ∈ mU := lt_8 236 rfl rfl
theorem wt_1917 : Cond.instanceMethod yX12_shortest ∈ mU := lt_8 237 rfl rfl
theorem wt_1918 : Cond.selects "UnlikeLoavesModel" yX12_shortest yX12_shortest ∈ mU := lt_8 238 rfl rfl
theorem wt_1919 : Cond.code yX12_shortest cX12_shortest 3 (some .int) ∈ mU := lt_8 239 rfl rfl
theorem wt_1924 : Cond.methodLink "UnlikeLoavesLaw" 75 yX12_cheapest ∈ mU := lt_9 4 rfl rfl
theorem wt_1925 : Cond.instanceMethod yX12_cheapest ∈ mU := lt_9 5 rfl rfl
theorem wt_1926 : Cond.selects "UnlikeLoavesModel" yX12_cheapest yX12_cheapest ∈ mU := lt_9 6 rfl rfl
theorem wt_1927 : Cond.code yX12_cheapest cX12_cheapest 10 (some .long) ∈ mU := lt_9 7 rfl rfl
theorem wt_1933 : Cond.methodLink "UnlikeLoavesLaw" 80 yX12_makes ∈ mU := lt_9 13 rfl rfl
theorem wt_1934 : Cond.instanceMethod yX12_makes ∈ mU := lt_9 14 rfl rfl
theorem wt_1935 : Cond.selects "UnlikeLoavesModel" yX12_makes yX12_makes ∈ mU := lt_9 15 rfl rfl
theorem wt_1936 : Cond.code yX12_makes cX12_makes 7 (some .long) ∈ mU := lt_9 16 rfl rfl
theorem wt_1948 : Cond.methodLink "UnlikeLoavesLaw" 84 yX12_anew ∈ mU := lt_9 28 rfl rfl
theorem wt_1949 : Cond.instanceMethod yX12_anew ∈ mU := lt_9 29 rfl rfl
theorem wt_1950 : Cond.selects "UnlikeLoavesModel" yX12_anew yX12_anew ∈ mU := lt_9 30 rfl rfl
theorem wt_1951 : Cond.code yX12_anew cX12_anew 6 (some .int) ∈ mU := lt_9 31 rfl rfl
theorem wt_1952 : Cond.methodLink "UnlikeLoavesLaw" 89 yX12_mend ∈ mU := lt_9 32 rfl rfl
theorem wt_1953 : Cond.instanceMethod yX12_mend ∈ mU := lt_9 33 rfl rfl
theorem wt_1954 : Cond.selects "UnlikeLoavesModel" yX12_mend yX12_mend ∈ mU := lt_9 34 rfl rfl
theorem wt_1955 : Cond.code yX12_mend cX12_mend 15 (some .int) ∈ mU := lt_9 35 rfl rfl
theorem wt_1956 : Cond.methodLink "UnlikeLoavesLaw" 93 yX12_fills ∈ mU := lt_9 36 rfl rfl
theorem wt_1957 : Cond.instanceMethod yX12_fills ∈ mU := lt_9 37 rfl rfl
theorem wt_1958 : Cond.selects "UnlikeLoavesModel" yX12_fills yX12_fills ∈ mU := lt_9 38 rfl rfl
theorem wt_1959 : Cond.code yX12_fills cX12_fills 7 (some .int) ∈ mU := lt_9 39 rfl rfl
theorem wt_1960 : Cond.methodLink "UnlikeLoavesLaw" 97 yX12_later ∈ mU := lt_9 40 rfl rfl
theorem wt_1961 : Cond.instanceMethod yX12_later ∈ mU := lt_9 41 rfl rfl
theorem wt_1962 : Cond.selects "UnlikeLoavesModel" yX12_later yX12_later ∈ mU := lt_9 42 rfl rfl
theorem wt_1963 : Cond.code yX12_later cX12_later 4 (some .int) ∈ mU := lt_9 43 rfl rfl
theorem wt_2007 : Cond.methodLink "UnlikeLoavesLaw" 101 yX12_served ∈ mU := lt_9 87 rfl rfl
theorem wt_2008 : Cond.instanceMethod yX12_served ∈ mU := lt_9 88 rfl rfl
theorem wt_2009 : Cond.selects "UnlikeLoavesModel" yX12_served yX12_served ∈ mU := lt_9 89 rfl rfl
theorem wt_2010 : Cond.code yX12_served cX12_served 4 (some .int) ∈ mU := lt_9 90 rfl rfl
theorem wt_2011 : Cond.methodLink "UnlikeLoavesLaw" 105 yX12_left ∈ mU := lt_9 91 rfl rfl
theorem wt_2012 : Cond.instanceMethod yX12_left ∈ mU := lt_9 92 rfl rfl
theorem wt_2013 : Cond.selects "UnlikeLoavesModel" yX12_left yX12_left ∈ mU := lt_9 93 rfl rfl
theorem wt_2014 : Cond.code yX12_left cX12_left 4 (some .int) ∈ mU := lt_9 94 rfl rfl
theorem wt_2015 : Cond.methodLink "UnlikeLoavesLaw" 109 yX12_cuts ∈ mU := lt_9 95 rfl rfl
theorem wt_2016 : Cond.instanceMethod yX12_cuts ∈ mU := lt_9 96 rfl rfl
theorem wt_2017 : Cond.selects "UnlikeLoavesModel" yX12_cuts yX12_cuts ∈ mU := lt_9 97 rfl rfl
theorem wt_2018 : Cond.code yX12_cuts cX12_cuts 4 (some .int) ∈ mU := lt_9 98 rfl rfl
theorem wt_2032 : Cond.methodLink "UnlikeLoavesLaw" 113 yX12_feast ∈ mU := lt_9 112 rfl rfl
theorem wt_2033 : Cond.instanceMethod yX12_feast ∈ mU := lt_9 113 rfl rfl
theorem wt_2034 : Cond.selects "UnlikeLoavesModel" yX12_feast yX12_feast ∈ mU := lt_9 114 rfl rfl
theorem wt_2035 : Cond.code yX12_feast cX12_feast 2 (some .int) ∈ mU := lt_9 115 rfl rfl
theorem wt_2044 : Cond.methodLink "UnlikeLoavesLaw" 117 yX12_odds ∈ mU := lt_9 124 rfl rfl
theorem wt_2045 : Cond.instanceMethod yX12_odds ∈ mU := lt_9 125 rfl rfl
theorem wt_2046 : Cond.selects "UnlikeLoavesModel" yX12_odds yX12_odds ∈ mU := lt_9 126 rfl rfl
theorem wt_2047 : Cond.code yX12_odds cX12_odds 4 (some .int) ∈ mU := lt_9 127 rfl rfl
theorem wt_2052 : Cond.methodLink "UnlikeLoavesLaw" 121 yX12_see ∈ mU := lt_9 132 rfl rfl
theorem wt_2053 : Cond.instanceMethod yX12_see ∈ mU := lt_9 133 rfl rfl
theorem wt_2054 : Cond.selects "UnlikeLoavesModel" yX12_see yX12_see ∈ mU := lt_9 134 rfl rfl
theorem wt_2055 : Cond.code yX12_see cX12_see 4 (some .int) ∈ mU := lt_9 135 rfl rfl
theorem wt_2056 : Cond.methodLink "UnlikeLoavesLaw" 125 yX12_stocks ∈ mU := lt_9 136 rfl rfl
theorem wt_2057 : Cond.instanceMethod yX12_stocks ∈ mU := lt_9 137 rfl rfl
theorem wt_2058 : Cond.selects "UnlikeLoavesModel" yX12_stocks yX12_stocks ∈ mU := lt_9 138 rfl rfl
theorem wt_2059 : Cond.code yX12_stocks cX12_stocks 2 (some .int) ∈ mU := lt_9 139 rfl rfl
theorem wt_2068 : Cond.methodLink "UnlikeLoavesLaw" 129 yX12_tells ∈ mU := lt_9 148 rfl rfl
theorem wt_2069 : Cond.instanceMethod yX12_tells ∈ mU := lt_9 149 rfl rfl
theorem wt_2070 : Cond.selects "UnlikeLoavesModel" yX12_tells yX12_tells ∈ mU := lt_9 150 rfl rfl
theorem wt_2071 : Cond.code yX12_tells cX12_tells 10 (some .int) ∈ mU := lt_9 151 rfl rfl
theorem wt_2076 : Cond.methodLink "UnlikeLoavesLaw" 155 yX12_undo ∈ mU := lt_9 156 rfl rfl
theorem wt_2077 : Cond.instanceMethod yX12_undo ∈ mU := lt_9 157 rfl rfl
theorem wt_2078 : Cond.selects "UnlikeLoavesModel" yX12_undo yX12_undo ∈ mU := lt_9 158 rfl rfl
theorem wt_2079 : Cond.code yX12_undo cX12_undo 2 (some .boolean) ∈ mU := lt_9 159 rfl rfl
theorem wt_2080 : Cond.methodLink "UnlikeLoavesLaw" 133 yX12_cut ∈ mU := lt_9 160 rfl rfl
theorem wt_2081 : Cond.instanceMethod yX12_cut ∈ mU := lt_9 161 rfl rfl
theorem wt_2082 : Cond.selects "UnlikeLoavesModel" yX12_cut yX12_cut ∈ mU := lt_9 162 rfl rfl
theorem wt_2083 : Cond.code yX12_cut cX12_cut 2 (some .int) ∈ mU := lt_9 163 rfl rfl
theorem wt_2088 : Cond.methodLink "UnlikeLoavesLaw" 137 yX12_bake ∈ mU := lt_9 168 rfl rfl
theorem wt_2089 : Cond.instanceMethod yX12_bake ∈ mU := lt_9 169 rfl rfl
theorem wt_2090 : Cond.selects "UnlikeLoavesModel" yX12_bake yX12_bake ∈ mU := lt_9 170 rfl rfl
theorem wt_2091 : Cond.code yX12_bake cX12_bake 2 (some .int) ∈ mU := lt_9 171 rfl rfl
theorem wt_2092 : Cond.methodLink "UnlikeLoavesLaw" 142 yX12_serve ∈ mU := lt_9 172 rfl rfl
theorem wt_2093 : Cond.instanceMethod yX12_serve ∈ mU := lt_9 173 rfl rfl
theorem wt_2094 : Cond.selects "UnlikeLoavesModel" yX12_serve yX12_serve ∈ mU := lt_9 174 rfl rfl
theorem wt_2095 : Cond.code yX12_serve cX12_serve 3 (some .boolean) ∈ mU := lt_9 175 rfl rfl
theorem wt_2104 : Cond.methodLink "UnlikeLoavesLaw" 146 yX12_days ∈ mU := lt_9 184 rfl rfl
theorem wt_2105 : Cond.instanceMethod yX12_days ∈ mU := lt_9 185 rfl rfl
theorem wt_2106 : Cond.selects "UnlikeLoavesModel" yX12_days yX12_days ∈ mU := lt_9 186 rfl rfl
theorem wt_2107 : Cond.code yX12_days cX12_days 2 (some .int) ∈ mU := lt_9 187 rfl rfl
theorem wt_2108 : Cond.methodLink "UnlikeLoavesLaw" 159 yX12_seed ∈ mU := lt_9 188 rfl rfl
theorem wt_2109 : Cond.instanceMethod yX12_seed ∈ mU := lt_9 189 rfl rfl
theorem wt_2110 : Cond.selects "UnlikeLoavesModel" yX12_seed yX12_seed ∈ mU := lt_9 190 rfl rfl
theorem wt_2111 : Cond.code yX12_seed cX12_seed 2 (some .boolean) ∈ mU := lt_9 191 rfl rfl
theorem wt_2112 : Cond.methodLink "UnlikeLoavesLaw" 150 yX12_chance ∈ mU := lt_9 192 rfl rfl
theorem wt_2113 : Cond.instanceMethod yX12_chance ∈ mU := lt_9 193 rfl rfl
theorem wt_2114 : Cond.selects "UnlikeLoavesModel" yX12_chance yX12_chance ∈ mU := lt_9 194 rfl rfl
theorem wt_2115 : Cond.code yX12_chance cX12_chance 4 (some .int) ∈ mU := lt_9 195 rfl rfl
theorem wt_2124 : Cond.methodLink "UnlikeLoavesLaw" 164 yX12_ask ∈ mU := lt_9 204 rfl rfl
theorem wt_2125 : Cond.instanceMethod yX12_ask ∈ mU := lt_9 205 rfl rfl
theorem wt_2126 : Cond.selects "UnlikeLoavesModel" yX12_ask yX12_ask ∈ mU := lt_9 206 rfl rfl
theorem wt_2127 : Cond.code yX12_ask cX12_ask 3 (some .long) ∈ mU := lt_9 207 rfl rfl
theorem wt_2144 : Cond.methodLink "UnlikeLoavesLaw" 172 yX12_octet ∈ mU := lt_9 224 rfl rfl
theorem wt_2145 : Cond.instanceMethod yX12_octet ∈ mU := lt_9 225 rfl rfl
theorem wt_2146 : Cond.selects "UnlikeLoavesModel" yX12_octet yX12_octet ∈ mU := lt_9 226 rfl rfl
theorem wt_2147 : Cond.code yX12_octet cX12_octet 2 (some .int) ∈ mU := lt_9 227 rfl rfl
theorem wt_2148 : Cond.methodLink "UnlikeLoavesLaw" 180 yX12_status ∈ mU := lt_9 228 rfl rfl
theorem wt_2149 : Cond.instanceMethod yX12_status ∈ mU := lt_9 229 rfl rfl
theorem wt_2150 : Cond.selects "UnlikeLoavesModel" yX12_status yX12_status ∈ mU := lt_9 230 rfl rfl
theorem wt_2151 : Cond.code yX12_status cX12_status 2 (some .int) ∈ mU := lt_9 231 rfl rfl
theorem wt_2152 : Cond.methodLink "UnlikeLoavesLaw" 168 yX12_image ∈ mU := lt_9 232 rfl rfl
theorem wt_2153 : Cond.instanceMethod yX12_image ∈ mU := lt_9 233 rfl rfl
theorem wt_2154 : Cond.selects "UnlikeLoavesModel" yX12_image yX12_image ∈ mU := lt_9 234 rfl rfl
theorem wt_2155 : Cond.code yX12_image cX12_image 2 (some .int) ∈ mU := lt_9 235 rfl rfl
theorem wt_2167 : Cond.methodLink "UnlikeLoavesLaw" 176 yX12_on ∈ mU := lt_10 7 rfl rfl
theorem wt_2168 : Cond.instanceMethod yX12_on ∈ mU := lt_10 8 rfl rfl
theorem wt_2169 : Cond.selects "UnlikeLoavesModel" yX12_on yX12_on ∈ mU := lt_10 9 rfl rfl
theorem wt_2170 : Cond.code yX12_on cX12_on 4 (some .boolean) ∈ mU := lt_10 10 rfl rfl
theorem ki_6 : Int32.ofInt (6) = (6 : Int32) := by decide +kernel
theorem pd_52 : (parseMethodDescriptor "(IIIII)I").map (fun d => d.parameters.length) = some 5 := by decide +kernel
theorem pd_53 : (parseMethodDescriptor "(III)J").map (fun d => d.parameters.length) = some 3 := by decide +kernel
theorem pd_54 : (parseMethodDescriptor "(IIII)I").map (fun d => d.parameters.length) = some 4 := by decide +kernel
theorem cw_L_17 : mCw RL 17 yX12_feed cX12_feed 8 (some .int) 5 := ⟨wt_1601, wt_13, wt_1604, ⟨nc_12.1, nc_12.2, pd_52⟩, by decide⟩
theorem cw_L_13 : mCw RL 13 yX11_feed cX11_feed 6 (some .int) 5 := ⟨wt_434, wt_1, wt_437, ⟨nc_11.1, nc_11.2, pd_52⟩, by decide⟩
theorem cw_L_22 : mCw RL 22 yX12_end cX12_end 2 (some .boolean) 1 := ⟨wt_1605, wt_13, wt_1608, ⟨nc_12.1, nc_12.2, pd_14⟩, by decide⟩
theorem cw_L_18 : mCw RL 18 yX11_end cX11_end 2 (some .boolean) 1 := ⟨wt_446, wt_1, wt_449, ⟨nc_11.1, nc_11.2, pd_14⟩, by decide⟩
theorem cw_L_27 : mCw RL 27 yX12_office cX12_office 2 (some .int) 0 := ⟨wt_1609, wt_13, wt_1612, ⟨nc_12.1, nc_12.2, pd_6⟩, by decide⟩
theorem cw_L_23 : mCw RL 23 yX11_office cX11_office 3 (some .int) 0 := ⟨wt_450, wt_1, wt_453, ⟨nc_11.1, nc_11.2, pd_6⟩, by decide⟩
theorem cw_L_32 : mCw RL 32 yX12_fault cX12_fault 2 (some .int) 1 := ⟨wt_1795, wt_13, wt_1798, ⟨nc_12.1, nc_12.2, pd_12⟩, by decide⟩
theorem cw_L_28 : mCw RL 28 yX11_fault cX11_fault 2 (some .int) 1 := ⟨wt_753, wt_1, wt_756, ⟨nc_11.1, nc_11.2, pd_12⟩, by decide⟩
theorem cw_L_36 : mCw RL 36 yX12_has cX12_has 2 (some .int) 1 := ⟨wt_1799, wt_13, wt_1802, ⟨nc_12.1, nc_12.2, pd_12⟩, by decide⟩
theorem cw_L_33 : mCw RL 33 yX11_has cX11_has 2 (some .int) 1 := ⟨wt_757, wt_1, wt_760, ⟨nc_11.1, nc_11.2, pd_12⟩, by decide⟩
theorem cw_L_41 : mCw RL 41 yX12_letter cX12_letter 8 (some .int) 2 := ⟨wt_1819, wt_13, wt_1822, ⟨nc_12.1, nc_12.2, pd_0⟩, by decide⟩
theorem cw_L_37 : mCw RL 37 yX11_letter cX11_letter 5 (some .int) 2 := ⟨wt_776, wt_1, wt_779, ⟨nc_11.1, nc_11.2, pd_0⟩, by decide⟩
theorem cw_L_45 : mCw RL 45 yX12_person cX12_person 3 (some .int) 2 := ⟨wt_1828, wt_13, wt_1831, ⟨nc_12.1, nc_12.2, pd_0⟩, by decide⟩
theorem cw_L_42 : mCw RL 42 yX11_person cX11_person 3 (some .int) 2 := ⟨wt_784, wt_1, wt_787, ⟨nc_11.1, nc_11.2, pd_0⟩, by decide⟩
theorem cw_L_49 : mCw RL 49 yX12_stock cX12_stock 2 (some .int) 1 := ⟨wt_1883, wt_13, wt_1886, ⟨nc_12.1, nc_12.2, pd_12⟩, by decide⟩
theorem cw_L_46 : mCw RL 46 yX11_stock cX11_stock 2 (some .int) 1 := ⟨wt_840, wt_1, wt_843, ⟨nc_11.1, nc_11.2, pd_12⟩, by decide⟩
theorem cw_L_53 : mCw RL 53 yX12_kept cX12_kept 3 (some .int) 2 := ⟨wt_1891, wt_13, wt_1894, ⟨nc_12.1, nc_12.2, pd_0⟩, by decide⟩
theorem cw_L_50 : mCw RL 50 yX11_kept cX11_kept 3 (some .int) 2 := ⟨wt_848, wt_1, wt_851, ⟨nc_11.1, nc_11.2, pd_0⟩, by decide⟩
theorem cw_L_57 : mCw RL 57 yX12_writings cX12_writings 3 (some .int) 2 := ⟨wt_1896, wt_13, wt_1899, ⟨nc_12.1, nc_12.2, pd_0⟩, by decide⟩
theorem cw_L_54 : mCw RL 54 yX11_writings cX11_writings 3 (some .int) 2 := ⟨wt_856, wt_1, wt_859, ⟨nc_11.1, nc_11.2, pd_0⟩, by decide⟩
theorem cw_L_62 : mCw RL 62 yX12_writing cX12_writing 4 (some .int) 3 := ⟨wt_1905, wt_13, wt_1908, ⟨nc_12.1, nc_12.2, pd_3⟩, by decide⟩
theorem cw_L_58 : mCw RL 58 yX11_writing cX11_writing 5 (some .int) 3 := ⟨wt_868, wt_1, wt_871, ⟨nc_11.1, nc_11.2, pd_3⟩, by decide⟩
theorem cw_L_66 : mCw RL 66 yX12_greedy cX12_greedy 7 (some .int) 2 := ⟨wt_1909, wt_13, wt_1912, ⟨nc_12.1, nc_12.2, pd_0⟩, by decide⟩
theorem cw_L_63 : mCw RL 63 yX11_greedy cX11_greedy 3 (some .int) 2 := ⟨wt_873, wt_1, wt_876, ⟨nc_11.1, nc_11.2, pd_0⟩, by decide⟩
theorem cw_L_70 : mCw RL 70 yX12_shortest cX12_shortest 3 (some .int) 2 := ⟨wt_1916, wt_13, wt_1919, ⟨nc_12.1, nc_12.2, pd_0⟩, by decide⟩
theorem cw_L_67 : mCw RL 67 yX11_shortest cX11_shortest 3 (some .int) 2 := ⟨wt_881, wt_1, wt_884, ⟨nc_11.1, nc_11.2, pd_0⟩, by decide⟩
theorem cw_L_75 : mCw RL 75 yX12_cheapest cX12_cheapest 10 (some .long) 3 := ⟨wt_1924, wt_13, wt_1927, ⟨nc_12.1, nc_12.2, pd_53⟩, by decide⟩
theorem cw_L_71 : mCw RL 71 yX11_cheapest cX11_cheapest 11 (some .long) 3 := ⟨wt_896, wt_1, wt_899, ⟨nc_11.1, nc_11.2, pd_53⟩, by decide⟩
theorem cw_L_80 : mCw RL 80 yX12_makes cX12_makes 7 (some .long) 2 := ⟨wt_1933, wt_13, wt_1936, ⟨nc_12.1, nc_12.2, pd_27⟩, by decide⟩
theorem cw_L_76 : mCw RL 76 yX11_makes cX11_makes 7 (some .long) 2 := ⟨wt_906, wt_1, wt_909, ⟨nc_11.1, nc_11.2, pd_27⟩, by decide⟩
theorem cw_L_84 : mCw RL 84 yX12_anew cX12_anew 6 (some .int) 3 := ⟨wt_1948, wt_13, wt_1951, ⟨nc_12.1, nc_12.2, pd_3⟩, by decide⟩
theorem cw_L_81 : mCw RL 81 yX11_anew cX11_anew 8 (some .int) 3 := ⟨wt_922, wt_1, wt_925, ⟨nc_11.1, nc_11.2, pd_3⟩, by decide⟩
theorem cw_L_89 : mCw RL 89 yX12_mend cX12_mend 15 (some .int) 4 := ⟨wt_1952, wt_13, wt_1955, ⟨nc_12.1, nc_12.2, pd_54⟩, by decide⟩
theorem cw_L_85 : mCw RL 85 yX11_mend cX11_mend 8 (some .int) 4 := ⟨wt_926, wt_1, wt_929, ⟨nc_11.1, nc_11.2, pd_54⟩, by decide⟩
theorem cw_L_93 : mCw RL 93 yX12_fills cX12_fills 7 (some .int) 4 := ⟨wt_1956, wt_13, wt_1959, ⟨nc_12.1, nc_12.2, pd_54⟩, by decide⟩
theorem cw_L_90 : mCw RL 90 yX11_fills cX11_fills 8 (some .int) 4 := ⟨wt_939, wt_1, wt_942, ⟨nc_11.1, nc_11.2, pd_54⟩, by decide⟩
theorem cw_L_97 : mCw RL 97 yX12_later cX12_later 4 (some .int) 2 := ⟨wt_1960, wt_13, wt_1963, ⟨nc_12.1, nc_12.2, pd_0⟩, by decide⟩
theorem cw_L_94 : mCw RL 94 yX11_later cX11_later 3 (some .int) 2 := ⟨wt_943, wt_1, wt_946, ⟨nc_11.1, nc_11.2, pd_0⟩, by decide⟩
theorem cw_L_101 : mCw RL 101 yX12_served cX12_served 4 (some .int) 1 := ⟨wt_2007, wt_13, wt_2010, ⟨nc_12.1, nc_12.2, pd_12⟩, by decide⟩
theorem cw_L_98 : mCw RL 98 yX11_served cX11_served 2 (some .int) 1 := ⟨wt_978, wt_1, wt_981, ⟨nc_11.1, nc_11.2, pd_12⟩, by decide⟩
theorem cw_L_105 : mCw RL 105 yX12_left cX12_left 4 (some .int) 2 := ⟨wt_2011, wt_13, wt_2014, ⟨nc_12.1, nc_12.2, pd_0⟩, by decide⟩
theorem cw_L_102 : mCw RL 102 yX11_left cX11_left 3 (some .int) 2 := ⟨wt_986, wt_1, wt_989, ⟨nc_11.1, nc_11.2, pd_0⟩, by decide⟩
theorem cw_L_109 : mCw RL 109 yX12_cuts cX12_cuts 4 (some .int) 1 := ⟨wt_2015, wt_13, wt_2018, ⟨nc_12.1, nc_12.2, pd_12⟩, by decide⟩
theorem cw_L_106 : mCw RL 106 yX11_cuts cX11_cuts 3 (some .int) 1 := ⟨wt_990, wt_1, wt_993, ⟨nc_11.1, nc_11.2, pd_12⟩, by decide⟩
theorem cw_L_113 : mCw RL 113 yX12_feast cX12_feast 2 (some .int) 1 := ⟨wt_2032, wt_13, wt_2035, ⟨nc_12.1, nc_12.2, pd_12⟩, by decide⟩
theorem cw_L_110 : mCw RL 110 yX11_feast cX11_feast 3 (some .int) 1 := ⟨wt_1016, wt_1, wt_1019, ⟨nc_11.1, nc_11.2, pd_12⟩, by decide⟩
theorem cw_L_117 : mCw RL 117 yX12_odds cX12_odds 4 (some .int) 1 := ⟨wt_2044, wt_13, wt_2047, ⟨nc_12.1, nc_12.2, pd_12⟩, by decide⟩
theorem cw_L_114 : mCw RL 114 yX11_odds cX11_odds 2 (some .int) 1 := ⟨wt_1031, wt_1, wt_1034, ⟨nc_11.1, nc_11.2, pd_12⟩, by decide⟩
theorem cw_L_121 : mCw RL 121 yX12_see cX12_see 4 (some .int) 0 := ⟨wt_2052, wt_13, wt_2055, ⟨nc_12.1, nc_12.2, pd_6⟩, by decide⟩
theorem cw_L_118 : mCw RL 118 yX11_see cX11_see 2 (some .int) 0 := ⟨wt_1047, wt_1, wt_1050, ⟨nc_11.1, nc_11.2, pd_6⟩, by decide⟩
theorem cw_L_125 : mCw RL 125 yX12_stocks cX12_stocks 2 (some .int) 1 := ⟨wt_2056, wt_13, wt_2059, ⟨nc_12.1, nc_12.2, pd_12⟩, by decide⟩
theorem cw_L_122 : mCw RL 122 yX11_stocks cX11_stocks 2 (some .int) 1 := ⟨wt_1056, wt_1, wt_1059, ⟨nc_11.1, nc_11.2, pd_12⟩, by decide⟩
theorem cw_L_129 : mCw RL 129 yX12_tells cX12_tells 10 (some .int) 2 := ⟨wt_2068, wt_13, wt_2071, ⟨nc_12.1, nc_12.2, pd_0⟩, by decide⟩
theorem cw_L_126 : mCw RL 126 yX11_tells cX11_tells 3 (some .int) 2 := ⟨wt_1085, wt_1, wt_1088, ⟨nc_11.1, nc_11.2, pd_0⟩, by decide⟩
theorem cw_L_133 : mCw RL 133 yX12_cut cX12_cut 2 (some .int) 1 := ⟨wt_2080, wt_13, wt_2083, ⟨nc_12.1, nc_12.2, pd_12⟩, by decide⟩
theorem cw_L_130 : mCw RL 130 yX11_cut cX11_cut 2 (some .int) 1 := ⟨wt_1098, wt_1, wt_1101, ⟨nc_11.1, nc_11.2, pd_12⟩, by decide⟩
theorem cw_L_137 : mCw RL 137 yX12_bake cX12_bake 2 (some .int) 1 := ⟨wt_2088, wt_13, wt_2091, ⟨nc_12.1, nc_12.2, pd_12⟩, by decide⟩
theorem cw_L_134 : mCw RL 134 yX11_bake cX11_bake 2 (some .int) 1 := ⟨wt_1111, wt_1, wt_1114, ⟨nc_11.1, nc_11.2, pd_12⟩, by decide⟩
theorem cw_L_142 : mCw RL 142 yX12_serve cX12_serve 3 (some .boolean) 2 := ⟨wt_2092, wt_13, wt_2095, ⟨nc_12.1, nc_12.2, pd_19⟩, by decide⟩
theorem cw_L_138 : mCw RL 138 yX11_serve cX11_serve 3 (some .boolean) 2 := ⟨wt_1115, wt_1, wt_1118, ⟨nc_11.1, nc_11.2, pd_19⟩, by decide⟩
theorem cw_L_146 : mCw RL 146 yX12_days cX12_days 2 (some .int) 1 := ⟨wt_2104, wt_13, wt_2107, ⟨nc_12.1, nc_12.2, pd_12⟩, by decide⟩
theorem cw_L_143 : mCw RL 143 yX11_days cX11_days 4 (some .int) 1 := ⟨wt_1129, wt_1, wt_1132, ⟨nc_11.1, nc_11.2, pd_12⟩, by decide⟩
theorem cw_L_150 : mCw RL 150 yX12_chance cX12_chance 4 (some .int) 1 := ⟨wt_2112, wt_13, wt_2115, ⟨nc_12.1, nc_12.2, pd_12⟩, by decide⟩
theorem cw_L_147 : mCw RL 147 yX11_chance cX11_chance 4 (some .int) 1 := ⟨wt_1139, wt_1, wt_1142, ⟨nc_11.1, nc_11.2, pd_12⟩, by decide⟩
theorem cw_L_155 : mCw RL 155 yX12_undo cX12_undo 2 (some .boolean) 0 := ⟨wt_2076, wt_13, wt_2079, ⟨nc_12.1, nc_12.2, pd_15⟩, by decide⟩
theorem cw_L_151 : mCw RL 151 yX11_undo cX11_undo 1 (some .boolean) 0 := ⟨wt_1151, wt_1, wt_1154, ⟨nc_11.1, nc_11.2, pd_15⟩, by decide⟩
theorem cw_L_159 : mCw RL 159 yX12_seed cX12_seed 2 (some .boolean) 1 := ⟨wt_2108, wt_13, wt_2111, ⟨nc_12.1, nc_12.2, pd_14⟩, by decide⟩
theorem cw_L_156 : mCw RL 156 yX11_seed cX11_seed 2 (some .boolean) 1 := ⟨wt_1159, wt_1, wt_1162, ⟨nc_11.1, nc_11.2, pd_14⟩, by decide⟩
theorem cw_L_164 : mCw RL 164 yX12_ask cX12_ask 3 (some .long) 0 := ⟨wt_2124, wt_13, wt_2127, ⟨nc_12.1, nc_12.2, pd_25⟩, by decide⟩
theorem cw_L_160 : mCw RL 160 yX11_ask cX11_ask 2 (some .long) 0 := ⟨wt_1163, wt_1, wt_1166, ⟨nc_11.1, nc_11.2, pd_25⟩, by decide⟩
theorem cw_L_168 : mCw RL 168 yX12_image cX12_image 2 (some .int) 0 := ⟨wt_2152, wt_13, wt_2155, ⟨nc_12.1, nc_12.2, pd_6⟩, by decide⟩
theorem cw_L_165 : mCw RL 165 yX11_image cX11_image 2 (some .int) 0 := ⟨wt_1216, wt_1, wt_1219, ⟨nc_11.1, nc_11.2, pd_6⟩, by decide⟩
theorem cw_L_172 : mCw RL 172 yX12_octet cX12_octet 2 (some .int) 1 := ⟨wt_2144, wt_13, wt_2147, ⟨nc_12.1, nc_12.2, pd_12⟩, by decide⟩
theorem cw_L_169 : mCw RL 169 yX11_octet cX11_octet 2 (some .int) 1 := ⟨wt_1231, wt_1, wt_1234, ⟨nc_11.1, nc_11.2, pd_12⟩, by decide⟩
theorem cw_L_176 : mCw RL 176 yX12_on cX12_on 4 (some .boolean) 0 := ⟨wt_2167, wt_13, wt_2170, ⟨nc_12.1, nc_12.2, pd_15⟩, by decide⟩
theorem cw_L_173 : mCw RL 173 yX11_on cX11_on 2 (some .boolean) 0 := ⟨wt_1235, wt_1, wt_1238, ⟨nc_11.1, nc_11.2, pd_15⟩, by decide⟩
theorem cw_L_180 : mCw RL 180 yX12_status cX12_status 2 (some .int) 1 := ⟨wt_2148, wt_13, wt_2151, ⟨nc_12.1, nc_12.2, pd_12⟩, by decide⟩
theorem cw_L_177 : mCw RL 177 yX11_status cX11_status 2 (some .int) 1 := ⟨wt_1253, wt_1, wt_1256, ⟨nc_11.1, nc_11.2, pd_12⟩, by decide⟩
theorem dL_law_0 : decode cL_law 0 = .ok (.new 7, 3) := by decide +kernel
theorem dL_law_3 : decode cL_law 3 = .ok (.dup, 1) := by decide +kernel
theorem dL_law_4 : decode cL_law 4 = .ok (.invokespecial 9, 3) := by decide +kernel
theorem dL_law_7 : decode cL_law 7 = .ok (.astore_n 1, 1) := by decide +kernel
theorem dL_law_8 : decode cL_law 8 = .ok (.new 10, 3) := by decide +kernel
theorem dL_law_11 : decode cL_law 11 = .ok (.dup, 1) := by decide +kernel
theorem dL_law_12 : decode cL_law 12 = .ok (.invokespecial 12, 3) := by decide +kernel
theorem dL_law_15 : decode cL_law 15 = .ok (.astore_n 2, 1) := by decide +kernel
theorem dL_law_16 : decode cL_law 16 = .ok (.iconst 0, 1) := by decide +kernel
theorem dL_law_17 : decode cL_law 17 = .ok (.istore_n 3, 1) := by decide +kernel
theorem dL_law_18 : decode cL_law 18 = .ok (.iload_n 3, 1) := by decide +kernel
theorem dL_law_19 : decode cL_law 19 = .ok (.aload_n 0, 1) := by decide +kernel
theorem dL_law_20 : decode cL_law 20 = .ok (.arraylength, 1) := by decide +kernel
theorem dL_law_21 : decode cL_law 21 = .ok (.bipush 6, 2) := by decide +kernel
theorem dL_law_23 : decode cL_law 23 = .ok (.isub, 1) := by decide +kernel
theorem dL_law_24 : decode cL_law 24 = .ok (.if_icmp .gt 1296, 3) := by decide +kernel
theorem dL_law_27 : decode cL_law 27 = .ok (.aload_n 0, 1) := by decide +kernel
theorem dL_law_28 : decode cL_law 28 = .ok (.iload_n 3, 1) := by decide +kernel
theorem dL_law_29 : decode cL_law 29 = .ok (.iaload, 1) := by decide +kernel
theorem dL_law_30 : decode cL_law 30 = .ok (.bipush 63, 2) := by decide +kernel
theorem dL_law_32 : decode cL_law 32 = .ok (.iand, 1) := by decide +kernel
theorem dL_law_33 : decode cL_law 33 = .ok (.tableswitch 1281 0 38 #[171, 234, 257, 270, 293, 316, 349, 382, 405, 438, 471, 514, 547, 580, 624, 658, 701, 754, 807, 840, 863, 896, 919, 942, 965, 978, 1001, 1034, 1057, 1080, 1113, 1136, 1159, 1172, 1195, 1209, 1222, 1245, 1258], 171) := by decide +kernel
theorem dL_law_204 : decode cL_law 204 = .ok (.aload_n 1, 1) := by decide +kernel
theorem dL_law_205 : decode cL_law 205 = .ok (.aload_n 0, 1) := by decide +kernel
theorem dL_law_206 : decode cL_law 206 = .ok (.iload_n 3, 1) := by decide +kernel
theorem dL_law_207 : decode cL_law 207 = .ok (.iconst 1, 1) := by decide +kernel
theorem dL_law_208 : decode cL_law 208 = .ok (.iadd, 1) := by decide +kernel
theorem dL_law_209 : decode cL_law 209 = .ok (.iaload, 1) := by decide +kernel
theorem dL_law_210 : decode cL_law 210 = .ok (.aload_n 0, 1) := by decide +kernel
theorem dL_law_211 : decode cL_law 211 = .ok (.iload_n 3, 1) := by decide +kernel
theorem dL_law_212 : decode cL_law 212 = .ok (.iconst 2, 1) := by decide +kernel
theorem dL_law_213 : decode cL_law 213 = .ok (.iadd, 1) := by decide +kernel
theorem dL_law_214 : decode cL_law 214 = .ok (.iaload, 1) := by decide +kernel
theorem dL_law_215 : decode cL_law 215 = .ok (.aload_n 0, 1) := by decide +kernel
theorem dL_law_216 : decode cL_law 216 = .ok (.iload_n 3, 1) := by decide +kernel
theorem dL_law_217 : decode cL_law 217 = .ok (.iconst 3, 1) := by decide +kernel
theorem dL_law_218 : decode cL_law 218 = .ok (.iadd, 1) := by decide +kernel
theorem dL_law_219 : decode cL_law 219 = .ok (.iaload, 1) := by decide +kernel
theorem dL_law_220 : decode cL_law 220 = .ok (.aload_n 0, 1) := by decide +kernel
theorem dL_law_221 : decode cL_law 221 = .ok (.iload_n 3, 1) := by decide +kernel
theorem dL_law_222 : decode cL_law 222 = .ok (.iconst 4, 1) := by decide +kernel
theorem dL_law_223 : decode cL_law 223 = .ok (.iadd, 1) := by decide +kernel
theorem dL_law_224 : decode cL_law 224 = .ok (.iaload, 1) := by decide +kernel
theorem dL_law_225 : decode cL_law 225 = .ok (.aload_n 0, 1) := by decide +kernel
theorem dL_law_226 : decode cL_law 226 = .ok (.iload_n 3, 1) := by decide +kernel
theorem dL_law_227 : decode cL_law 227 = .ok (.iconst 5, 1) := by decide +kernel
theorem dL_law_228 : decode cL_law 228 = .ok (.iadd, 1) := by decide +kernel
theorem dL_law_229 : decode cL_law 229 = .ok (.iaload, 1) := by decide +kernel
theorem dL_law_230 : decode cL_law 230 = .ok (.invokevirtual 13, 3) := by decide +kernel
theorem dL_law_233 : decode cL_law 233 = .ok (.aload_n 2, 1) := by decide +kernel
theorem dL_law_234 : decode cL_law 234 = .ok (.aload_n 0, 1) := by decide +kernel
theorem dL_law_235 : decode cL_law 235 = .ok (.iload_n 3, 1) := by decide +kernel
theorem dL_law_236 : decode cL_law 236 = .ok (.iconst 1, 1) := by decide +kernel
theorem dL_law_237 : decode cL_law 237 = .ok (.iadd, 1) := by decide +kernel
theorem dL_law_238 : decode cL_law 238 = .ok (.iaload, 1) := by decide +kernel
theorem dL_law_239 : decode cL_law 239 = .ok (.aload_n 0, 1) := by decide +kernel
theorem dL_law_240 : decode cL_law 240 = .ok (.iload_n 3, 1) := by decide +kernel
theorem dL_law_241 : decode cL_law 241 = .ok (.iconst 2, 1) := by decide +kernel
theorem dL_law_242 : decode cL_law 242 = .ok (.iadd, 1) := by decide +kernel
theorem dL_law_243 : decode cL_law 243 = .ok (.iaload, 1) := by decide +kernel
theorem dL_law_244 : decode cL_law 244 = .ok (.aload_n 0, 1) := by decide +kernel
theorem dL_law_245 : decode cL_law 245 = .ok (.iload_n 3, 1) := by decide +kernel
theorem dL_law_246 : decode cL_law 246 = .ok (.iconst 3, 1) := by decide +kernel
theorem dL_law_247 : decode cL_law 247 = .ok (.iadd, 1) := by decide +kernel
theorem dL_law_248 : decode cL_law 248 = .ok (.iaload, 1) := by decide +kernel
theorem dL_law_249 : decode cL_law 249 = .ok (.aload_n 0, 1) := by decide +kernel
theorem dL_law_250 : decode cL_law 250 = .ok (.iload_n 3, 1) := by decide +kernel
theorem dL_law_251 : decode cL_law 251 = .ok (.iconst 4, 1) := by decide +kernel
theorem dL_law_252 : decode cL_law 252 = .ok (.iadd, 1) := by decide +kernel
theorem dL_law_253 : decode cL_law 253 = .ok (.iaload, 1) := by decide +kernel
theorem dL_law_254 : decode cL_law 254 = .ok (.aload_n 0, 1) := by decide +kernel
theorem dL_law_255 : decode cL_law 255 = .ok (.iload_n 3, 1) := by decide +kernel
theorem dL_law_256 : decode cL_law 256 = .ok (.iconst 5, 1) := by decide +kernel
theorem dL_law_257 : decode cL_law 257 = .ok (.iadd, 1) := by decide +kernel
theorem dL_law_258 : decode cL_law 258 = .ok (.iaload, 1) := by decide +kernel
theorem dL_law_259 : decode cL_law 259 = .ok (.invokevirtual 17, 3) := by decide +kernel
theorem dL_law_262 : decode cL_law 262 = .ok (.if_icmp .eq 1052, 3) := by decide +kernel
theorem dL_law_265 : decode cL_law 265 = .ok (.iconst 0, 1) := by decide +kernel
theorem dL_law_266 : decode cL_law 266 = .ok (.ireturn, 1) := by decide +kernel
theorem dL_law_267 : decode cL_law 267 = .ok (.aload_n 1, 1) := by decide +kernel
theorem dL_law_268 : decode cL_law 268 = .ok (.aload_n 0, 1) := by decide +kernel
theorem dL_law_269 : decode cL_law 269 = .ok (.iload_n 3, 1) := by decide +kernel
theorem dL_law_270 : decode cL_law 270 = .ok (.iconst 1, 1) := by decide +kernel
theorem dL_law_271 : decode cL_law 271 = .ok (.iadd, 1) := by decide +kernel
theorem dL_law_272 : decode cL_law 272 = .ok (.iaload, 1) := by decide +kernel
theorem dL_law_273 : decode cL_law 273 = .ok (.invokevirtual 18, 3) := by decide +kernel
theorem dL_law_276 : decode cL_law 276 = .ok (.aload_n 2, 1) := by decide +kernel
theorem dL_law_277 : decode cL_law 277 = .ok (.aload_n 0, 1) := by decide +kernel
theorem dL_law_278 : decode cL_law 278 = .ok (.iload_n 3, 1) := by decide +kernel
theorem dL_law_279 : decode cL_law 279 = .ok (.iconst 1, 1) := by decide +kernel
theorem dL_law_280 : decode cL_law 280 = .ok (.iadd, 1) := by decide +kernel
theorem dL_law_281 : decode cL_law 281 = .ok (.iaload, 1) := by decide +kernel
theorem dL_law_282 : decode cL_law 282 = .ok (.invokevirtual 22, 3) := by decide +kernel
theorem dL_law_285 : decode cL_law 285 = .ok (.if_icmp .eq 1029, 3) := by decide +kernel
theorem dL_law_288 : decode cL_law 288 = .ok (.iconst 0, 1) := by decide +kernel
theorem dL_law_289 : decode cL_law 289 = .ok (.ireturn, 1) := by decide +kernel
theorem dL_law_290 : decode cL_law 290 = .ok (.aload_n 1, 1) := by decide +kernel
theorem dL_law_291 : decode cL_law 291 = .ok (.invokevirtual 23, 3) := by decide +kernel
theorem dL_law_294 : decode cL_law 294 = .ok (.aload_n 2, 1) := by decide +kernel
theorem dL_law_295 : decode cL_law 295 = .ok (.invokevirtual 27, 3) := by decide +kernel
theorem dL_law_298 : decode cL_law 298 = .ok (.if_icmp .eq 1016, 3) := by decide +kernel
theorem dL_law_301 : decode cL_law 301 = .ok (.iconst 0, 1) := by decide +kernel
theorem dL_law_302 : decode cL_law 302 = .ok (.ireturn, 1) := by decide +kernel
theorem dL_law_303 : decode cL_law 303 = .ok (.aload_n 1, 1) := by decide +kernel
theorem dL_law_304 : decode cL_law 304 = .ok (.aload_n 0, 1) := by decide +kernel
theorem dL_law_305 : decode cL_law 305 = .ok (.iload_n 3, 1) := by decide +kernel
theorem dL_law_306 : decode cL_law 306 = .ok (.iconst 1, 1) := by decide +kernel
theorem dL_law_307 : decode cL_law 307 = .ok (.iadd, 1) := by decide +kernel
theorem dL_law_308 : decode cL_law 308 = .ok (.iaload, 1) := by decide +kernel
theorem dL_law_309 : decode cL_law 309 = .ok (.invokevirtual 28, 3) := by decide +kernel
theorem dL_law_312 : decode cL_law 312 = .ok (.aload_n 2, 1) := by decide +kernel
theorem dL_law_313 : decode cL_law 313 = .ok (.aload_n 0, 1) := by decide +kernel
theorem dL_law_314 : decode cL_law 314 = .ok (.iload_n 3, 1) := by decide +kernel
theorem dL_law_315 : decode cL_law 315 = .ok (.iconst 1, 1) := by decide +kernel
theorem dL_law_316 : decode cL_law 316 = .ok (.iadd, 1) := by decide +kernel
theorem dL_law_317 : decode cL_law 317 = .ok (.iaload, 1) := by decide +kernel
theorem dL_law_318 : decode cL_law 318 = .ok (.invokevirtual 32, 3) := by decide +kernel
theorem dL_law_321 : decode cL_law 321 = .ok (.if_icmp .eq 993, 3) := by decide +kernel
theorem dL_law_324 : decode cL_law 324 = .ok (.iconst 0, 1) := by decide +kernel
theorem dL_law_325 : decode cL_law 325 = .ok (.ireturn, 1) := by decide +kernel
theorem dL_law_326 : decode cL_law 326 = .ok (.aload_n 1, 1) := by decide +kernel
theorem dL_law_327 : decode cL_law 327 = .ok (.aload_n 0, 1) := by decide +kernel
theorem dL_law_328 : decode cL_law 328 = .ok (.iload_n 3, 1) := by decide +kernel
theorem dL_law_329 : decode cL_law 329 = .ok (.iconst 1, 1) := by decide +kernel
theorem dL_law_330 : decode cL_law 330 = .ok (.iadd, 1) := by decide +kernel
theorem dL_law_331 : decode cL_law 331 = .ok (.iaload, 1) := by decide +kernel
theorem dL_law_332 : decode cL_law 332 = .ok (.invokevirtual 33, 3) := by decide +kernel
theorem dL_law_335 : decode cL_law 335 = .ok (.aload_n 2, 1) := by decide +kernel
theorem dL_law_336 : decode cL_law 336 = .ok (.aload_n 0, 1) := by decide +kernel
theorem dL_law_337 : decode cL_law 337 = .ok (.iload_n 3, 1) := by decide +kernel
theorem dL_law_338 : decode cL_law 338 = .ok (.iconst 1, 1) := by decide +kernel
theorem dL_law_339 : decode cL_law 339 = .ok (.iadd, 1) := by decide +kernel
theorem dL_law_340 : decode cL_law 340 = .ok (.iaload, 1) := by decide +kernel
theorem dL_law_341 : decode cL_law 341 = .ok (.invokevirtual 36, 3) := by decide +kernel
theorem dL_law_344 : decode cL_law 344 = .ok (.if_icmp .eq 970, 3) := by decide +kernel
theorem dL_law_347 : decode cL_law 347 = .ok (.iconst 0, 1) := by decide +kernel
theorem dL_law_348 : decode cL_law 348 = .ok (.ireturn, 1) := by decide +kernel
theorem dL_law_349 : decode cL_law 349 = .ok (.aload_n 1, 1) := by decide +kernel
theorem dL_law_350 : decode cL_law 350 = .ok (.aload_n 0, 1) := by decide +kernel
theorem dL_law_351 : decode cL_law 351 = .ok (.iload_n 3, 1) := by decide +kernel
theorem dL_law_352 : decode cL_law 352 = .ok (.iconst 1, 1) := by decide +kernel
theorem dL_law_353 : decode cL_law 353 = .ok (.iadd, 1) := by decide +kernel
theorem dL_law_354 : decode cL_law 354 = .ok (.iaload, 1) := by decide +kernel
theorem dL_law_355 : decode cL_law 355 = .ok (.aload_n 0, 1) := by decide +kernel
theorem dL_law_356 : decode cL_law 356 = .ok (.iload_n 3, 1) := by decide +kernel
theorem dL_law_357 : decode cL_law 357 = .ok (.iconst 2, 1) := by decide +kernel
theorem dL_law_358 : decode cL_law 358 = .ok (.iadd, 1) := by decide +kernel
theorem dL_law_359 : decode cL_law 359 = .ok (.iaload, 1) := by decide +kernel
theorem dL_law_360 : decode cL_law 360 = .ok (.invokevirtual 37, 3) := by decide +kernel
theorem dL_law_363 : decode cL_law 363 = .ok (.aload_n 2, 1) := by decide +kernel
theorem dL_law_364 : decode cL_law 364 = .ok (.aload_n 0, 1) := by decide +kernel
theorem dL_law_365 : decode cL_law 365 = .ok (.iload_n 3, 1) := by decide +kernel
theorem dL_law_366 : decode cL_law 366 = .ok (.iconst 1, 1) := by decide +kernel
theorem dL_law_367 : decode cL_law 367 = .ok (.iadd, 1) := by decide +kernel
theorem dL_law_368 : decode cL_law 368 = .ok (.iaload, 1) := by decide +kernel
theorem dL_law_369 : decode cL_law 369 = .ok (.aload_n 0, 1) := by decide +kernel
theorem dL_law_370 : decode cL_law 370 = .ok (.iload_n 3, 1) := by decide +kernel
theorem dL_law_371 : decode cL_law 371 = .ok (.iconst 2, 1) := by decide +kernel
theorem dL_law_372 : decode cL_law 372 = .ok (.iadd, 1) := by decide +kernel
theorem dL_law_373 : decode cL_law 373 = .ok (.iaload, 1) := by decide +kernel
theorem dL_law_374 : decode cL_law 374 = .ok (.invokevirtual 41, 3) := by decide +kernel
theorem dL_law_377 : decode cL_law 377 = .ok (.if_icmp .eq 937, 3) := by decide +kernel
theorem dL_law_380 : decode cL_law 380 = .ok (.iconst 0, 1) := by decide +kernel
theorem dL_law_381 : decode cL_law 381 = .ok (.ireturn, 1) := by decide +kernel
theorem dL_law_382 : decode cL_law 382 = .ok (.aload_n 1, 1) := by decide +kernel
theorem dL_law_383 : decode cL_law 383 = .ok (.aload_n 0, 1) := by decide +kernel
theorem dL_law_384 : decode cL_law 384 = .ok (.iload_n 3, 1) := by decide +kernel
theorem dL_law_385 : decode cL_law 385 = .ok (.iconst 1, 1) := by decide +kernel
theorem dL_law_386 : decode cL_law 386 = .ok (.iadd, 1) := by decide +kernel
theorem dL_law_387 : decode cL_law 387 = .ok (.iaload, 1) := by decide +kernel
theorem dL_law_388 : decode cL_law 388 = .ok (.aload_n 0, 1) := by decide +kernel
theorem dL_law_389 : decode cL_law 389 = .ok (.iload_n 3, 1) := by decide +kernel
theorem dL_law_390 : decode cL_law 390 = .ok (.iconst 2, 1) := by decide +kernel
theorem dL_law_391 : decode cL_law 391 = .ok (.iadd, 1) := by decide +kernel
theorem dL_law_392 : decode cL_law 392 = .ok (.iaload, 1) := by decide +kernel
theorem dL_law_393 : decode cL_law 393 = .ok (.invokevirtual 42, 3) := by decide +kernel
theorem dL_law_396 : decode cL_law 396 = .ok (.aload_n 2, 1) := by decide +kernel
theorem dL_law_397 : decode cL_law 397 = .ok (.aload_n 0, 1) := by decide +kernel
theorem dL_law_398 : decode cL_law 398 = .ok (.iload_n 3, 1) := by decide +kernel
theorem dL_law_399 : decode cL_law 399 = .ok (.iconst 1, 1) := by decide +kernel
theorem dL_law_400 : decode cL_law 400 = .ok (.iadd, 1) := by decide +kernel
theorem dL_law_401 : decode cL_law 401 = .ok (.iaload, 1) := by decide +kernel
theorem dL_law_402 : decode cL_law 402 = .ok (.aload_n 0, 1) := by decide +kernel
theorem dL_law_403 : decode cL_law 403 = .ok (.iload_n 3, 1) := by decide +kernel
theorem dL_law_404 : decode cL_law 404 = .ok (.iconst 2, 1) := by decide +kernel
theorem dL_law_405 : decode cL_law 405 = .ok (.iadd, 1) := by decide +kernel
theorem dL_law_406 : decode cL_law 406 = .ok (.iaload, 1) := by decide +kernel
theorem dL_law_407 : decode cL_law 407 = .ok (.invokevirtual 45, 3) := by decide +kernel
theorem dL_law_410 : decode cL_law 410 = .ok (.if_icmp .eq 904, 3) := by decide +kernel
theorem dL_law_413 : decode cL_law 413 = .ok (.iconst 0, 1) := by decide +kernel
theorem dL_law_414 : decode cL_law 414 = .ok (.ireturn, 1) := by decide +kernel
theorem dL_law_415 : decode cL_law 415 = .ok (.aload_n 1, 1) := by decide +kernel
theorem dL_law_416 : decode cL_law 416 = .ok (.aload_n 0, 1) := by decide +kernel
theorem dL_law_417 : decode cL_law 417 = .ok (.iload_n 3, 1) := by decide +kernel
theorem dL_law_418 : decode cL_law 418 = .ok (.iconst 1, 1) := by decide +kernel
theorem dL_law_419 : decode cL_law 419 = .ok (.iadd, 1) := by decide +kernel
theorem dL_law_420 : decode cL_law 420 = .ok (.iaload, 1) := by decide +kernel
theorem dL_law_421 : decode cL_law 421 = .ok (.invokevirtual 46, 3) := by decide +kernel
theorem dL_law_424 : decode cL_law 424 = .ok (.aload_n 2, 1) := by decide +kernel
theorem dL_law_425 : decode cL_law 425 = .ok (.aload_n 0, 1) := by decide +kernel
theorem dL_law_426 : decode cL_law 426 = .ok (.iload_n 3, 1) := by decide +kernel
theorem dL_law_427 : decode cL_law 427 = .ok (.iconst 1, 1) := by decide +kernel
theorem dL_law_428 : decode cL_law 428 = .ok (.iadd, 1) := by decide +kernel
theorem dL_law_429 : decode cL_law 429 = .ok (.iaload, 1) := by decide +kernel
theorem dL_law_430 : decode cL_law 430 = .ok (.invokevirtual 49, 3) := by decide +kernel
theorem dL_law_433 : decode cL_law 433 = .ok (.if_icmp .eq 881, 3) := by decide +kernel
theorem dL_law_436 : decode cL_law 436 = .ok (.iconst 0, 1) := by decide +kernel
theorem dL_law_437 : decode cL_law 437 = .ok (.ireturn, 1) := by decide +kernel
theorem dL_law_438 : decode cL_law 438 = .ok (.aload_n 1, 1) := by decide +kernel
theorem dL_law_439 : decode cL_law 439 = .ok (.aload_n 0, 1) := by decide +kernel
theorem dL_law_440 : decode cL_law 440 = .ok (.iload_n 3, 1) := by decide +kernel
theorem dL_law_441 : decode cL_law 441 = .ok (.iconst 1, 1) := by decide +kernel
theorem dL_law_442 : decode cL_law 442 = .ok (.iadd, 1) := by decide +kernel
theorem dL_law_443 : decode cL_law 443 = .ok (.iaload, 1) := by decide +kernel
theorem dL_law_444 : decode cL_law 444 = .ok (.aload_n 0, 1) := by decide +kernel
theorem dL_law_445 : decode cL_law 445 = .ok (.iload_n 3, 1) := by decide +kernel
theorem dL_law_446 : decode cL_law 446 = .ok (.iconst 2, 1) := by decide +kernel
theorem dL_law_447 : decode cL_law 447 = .ok (.iadd, 1) := by decide +kernel
theorem dL_law_448 : decode cL_law 448 = .ok (.iaload, 1) := by decide +kernel
theorem dL_law_449 : decode cL_law 449 = .ok (.invokevirtual 50, 3) := by decide +kernel
theorem dL_law_452 : decode cL_law 452 = .ok (.aload_n 2, 1) := by decide +kernel
theorem dL_law_453 : decode cL_law 453 = .ok (.aload_n 0, 1) := by decide +kernel
theorem dL_law_454 : decode cL_law 454 = .ok (.iload_n 3, 1) := by decide +kernel
theorem dL_law_455 : decode cL_law 455 = .ok (.iconst 1, 1) := by decide +kernel
theorem dL_law_456 : decode cL_law 456 = .ok (.iadd, 1) := by decide +kernel
theorem dL_law_457 : decode cL_law 457 = .ok (.iaload, 1) := by decide +kernel
theorem dL_law_458 : decode cL_law 458 = .ok (.aload_n 0, 1) := by decide +kernel
theorem dL_law_459 : decode cL_law 459 = .ok (.iload_n 3, 1) := by decide +kernel
theorem dL_law_460 : decode cL_law 460 = .ok (.iconst 2, 1) := by decide +kernel
theorem dL_law_461 : decode cL_law 461 = .ok (.iadd, 1) := by decide +kernel
theorem dL_law_462 : decode cL_law 462 = .ok (.iaload, 1) := by decide +kernel
theorem dL_law_463 : decode cL_law 463 = .ok (.invokevirtual 53, 3) := by decide +kernel
theorem dL_law_466 : decode cL_law 466 = .ok (.if_icmp .eq 848, 3) := by decide +kernel
theorem dL_law_469 : decode cL_law 469 = .ok (.iconst 0, 1) := by decide +kernel
theorem dL_law_470 : decode cL_law 470 = .ok (.ireturn, 1) := by decide +kernel
theorem dL_law_471 : decode cL_law 471 = .ok (.aload_n 1, 1) := by decide +kernel
theorem dL_law_472 : decode cL_law 472 = .ok (.aload_n 0, 1) := by decide +kernel
theorem dL_law_473 : decode cL_law 473 = .ok (.iload_n 3, 1) := by decide +kernel
theorem dL_law_474 : decode cL_law 474 = .ok (.iconst 1, 1) := by decide +kernel
theorem dL_law_475 : decode cL_law 475 = .ok (.iadd, 1) := by decide +kernel
theorem dL_law_476 : decode cL_law 476 = .ok (.iaload, 1) := by decide +kernel
theorem dL_law_477 : decode cL_law 477 = .ok (.aload_n 0, 1) := by decide +kernel
theorem dL_law_478 : decode cL_law 478 = .ok (.iload_n 3, 1) := by decide +kernel
theorem dL_law_479 : decode cL_law 479 = .ok (.iconst 2, 1) := by decide +kernel
theorem dL_law_480 : decode cL_law 480 = .ok (.iadd, 1) := by decide +kernel
theorem dL_law_481 : decode cL_law 481 = .ok (.iaload, 1) := by decide +kernel
theorem dL_law_482 : decode cL_law 482 = .ok (.invokevirtual 54, 3) := by decide +kernel
theorem dL_law_485 : decode cL_law 485 = .ok (.aload_n 2, 1) := by decide +kernel
theorem dL_law_486 : decode cL_law 486 = .ok (.aload_n 0, 1) := by decide +kernel
theorem dL_law_487 : decode cL_law 487 = .ok (.iload_n 3, 1) := by decide +kernel
theorem dL_law_488 : decode cL_law 488 = .ok (.iconst 1, 1) := by decide +kernel
theorem dL_law_489 : decode cL_law 489 = .ok (.iadd, 1) := by decide +kernel
theorem dL_law_490 : decode cL_law 490 = .ok (.iaload, 1) := by decide +kernel
theorem dL_law_491 : decode cL_law 491 = .ok (.aload_n 0, 1) := by decide +kernel
theorem dL_law_492 : decode cL_law 492 = .ok (.iload_n 3, 1) := by decide +kernel
theorem dL_law_493 : decode cL_law 493 = .ok (.iconst 2, 1) := by decide +kernel
theorem dL_law_494 : decode cL_law 494 = .ok (.iadd, 1) := by decide +kernel
theorem dL_law_495 : decode cL_law 495 = .ok (.iaload, 1) := by decide +kernel
theorem dL_law_496 : decode cL_law 496 = .ok (.invokevirtual 57, 3) := by decide +kernel
theorem dL_law_499 : decode cL_law 499 = .ok (.if_icmp .eq 815, 3) := by decide +kernel
theorem dL_law_502 : decode cL_law 502 = .ok (.iconst 0, 1) := by decide +kernel
theorem dL_law_503 : decode cL_law 503 = .ok (.ireturn, 1) := by decide +kernel
theorem dL_law_504 : decode cL_law 504 = .ok (.aload_n 1, 1) := by decide +kernel
theorem dL_law_505 : decode cL_law 505 = .ok (.aload_n 0, 1) := by decide +kernel
theorem dL_law_506 : decode cL_law 506 = .ok (.iload_n 3, 1) := by decide +kernel
theorem dL_law_507 : decode cL_law 507 = .ok (.iconst 1, 1) := by decide +kernel
theorem dL_law_508 : decode cL_law 508 = .ok (.iadd, 1) := by decide +kernel
theorem dL_law_509 : decode cL_law 509 = .ok (.iaload, 1) := by decide +kernel
theorem dL_law_510 : decode cL_law 510 = .ok (.aload_n 0, 1) := by decide +kernel
theorem dL_law_511 : decode cL_law 511 = .ok (.iload_n 3, 1) := by decide +kernel
theorem dL_law_512 : decode cL_law 512 = .ok (.iconst 2, 1) := by decide +kernel
theorem dL_law_513 : decode cL_law 513 = .ok (.iadd, 1) := by decide +kernel
theorem dL_law_514 : decode cL_law 514 = .ok (.iaload, 1) := by decide +kernel
theorem dL_law_515 : decode cL_law 515 = .ok (.aload_n 0, 1) := by decide +kernel
theorem dL_law_516 : decode cL_law 516 = .ok (.iload_n 3, 1) := by decide +kernel
theorem dL_law_517 : decode cL_law 517 = .ok (.iconst 3, 1) := by decide +kernel
theorem dL_law_518 : decode cL_law 518 = .ok (.iadd, 1) := by decide +kernel
theorem dL_law_519 : decode cL_law 519 = .ok (.iaload, 1) := by decide +kernel
theorem dL_law_520 : decode cL_law 520 = .ok (.invokevirtual 58, 3) := by decide +kernel
theorem dL_law_523 : decode cL_law 523 = .ok (.aload_n 2, 1) := by decide +kernel
theorem dL_law_524 : decode cL_law 524 = .ok (.aload_n 0, 1) := by decide +kernel
theorem dL_law_525 : decode cL_law 525 = .ok (.iload_n 3, 1) := by decide +kernel
theorem dL_law_526 : decode cL_law 526 = .ok (.iconst 1, 1) := by decide +kernel
theorem dL_law_527 : decode cL_law 527 = .ok (.iadd, 1) := by decide +kernel
theorem dL_law_528 : decode cL_law 528 = .ok (.iaload, 1) := by decide +kernel
theorem dL_law_529 : decode cL_law 529 = .ok (.aload_n 0, 1) := by decide +kernel
theorem dL_law_530 : decode cL_law 530 = .ok (.iload_n 3, 1) := by decide +kernel
theorem dL_law_531 : decode cL_law 531 = .ok (.iconst 2, 1) := by decide +kernel
theorem dL_law_532 : decode cL_law 532 = .ok (.iadd, 1) := by decide +kernel
theorem dL_law_533 : decode cL_law 533 = .ok (.iaload, 1) := by decide +kernel
theorem dL_law_534 : decode cL_law 534 = .ok (.aload_n 0, 1) := by decide +kernel
theorem dL_law_535 : decode cL_law 535 = .ok (.iload_n 3, 1) := by decide +kernel
theorem dL_law_536 : decode cL_law 536 = .ok (.iconst 3, 1) := by decide +kernel
theorem dL_law_537 : decode cL_law 537 = .ok (.iadd, 1) := by decide +kernel
theorem dL_law_538 : decode cL_law 538 = .ok (.iaload, 1) := by decide +kernel
theorem dL_law_539 : decode cL_law 539 = .ok (.invokevirtual 62, 3) := by decide +kernel
theorem dL_law_542 : decode cL_law 542 = .ok (.if_icmp .eq 772, 3) := by decide +kernel
theorem dL_law_545 : decode cL_law 545 = .ok (.iconst 0, 1) := by decide +kernel
theorem dL_law_546 : decode cL_law 546 = .ok (.ireturn, 1) := by decide +kernel
theorem dL_law_547 : decode cL_law 547 = .ok (.aload_n 1, 1) := by decide +kernel
theorem dL_law_548 : decode cL_law 548 = .ok (.aload_n 0, 1) := by decide +kernel
theorem dL_law_549 : decode cL_law 549 = .ok (.iload_n 3, 1) := by decide +kernel
theorem dL_law_550 : decode cL_law 550 = .ok (.iconst 1, 1) := by decide +kernel
theorem dL_law_551 : decode cL_law 551 = .ok (.iadd, 1) := by decide +kernel
theorem dL_law_552 : decode cL_law 552 = .ok (.iaload, 1) := by decide +kernel
theorem dL_law_553 : decode cL_law 553 = .ok (.aload_n 0, 1) := by decide +kernel
theorem dL_law_554 : decode cL_law 554 = .ok (.iload_n 3, 1) := by decide +kernel
theorem dL_law_555 : decode cL_law 555 = .ok (.iconst 2, 1) := by decide +kernel
theorem dL_law_556 : decode cL_law 556 = .ok (.iadd, 1) := by decide +kernel
theorem dL_law_557 : decode cL_law 557 = .ok (.iaload, 1) := by decide +kernel
theorem dL_law_558 : decode cL_law 558 = .ok (.invokevirtual 63, 3) := by decide +kernel
theorem dL_law_561 : decode cL_law 561 = .ok (.aload_n 2, 1) := by decide +kernel
theorem dL_law_562 : decode cL_law 562 = .ok (.aload_n 0, 1) := by decide +kernel
theorem dL_law_563 : decode cL_law 563 = .ok (.iload_n 3, 1) := by decide +kernel
theorem dL_law_564 : decode cL_law 564 = .ok (.iconst 1, 1) := by decide +kernel
theorem dL_law_565 : decode cL_law 565 = .ok (.iadd, 1) := by decide +kernel
theorem dL_law_566 : decode cL_law 566 = .ok (.iaload, 1) := by decide +kernel
theorem dL_law_567 : decode cL_law 567 = .ok (.aload_n 0, 1) := by decide +kernel
theorem dL_law_568 : decode cL_law 568 = .ok (.iload_n 3, 1) := by decide +kernel
theorem dL_law_569 : decode cL_law 569 = .ok (.iconst 2, 1) := by decide +kernel
theorem dL_law_570 : decode cL_law 570 = .ok (.iadd, 1) := by decide +kernel
theorem dL_law_571 : decode cL_law 571 = .ok (.iaload, 1) := by decide +kernel
theorem dL_law_572 : decode cL_law 572 = .ok (.invokevirtual 66, 3) := by decide +kernel
theorem dL_law_575 : decode cL_law 575 = .ok (.if_icmp .eq 739, 3) := by decide +kernel
theorem dL_law_578 : decode cL_law 578 = .ok (.iconst 0, 1) := by decide +kernel
theorem dL_law_579 : decode cL_law 579 = .ok (.ireturn, 1) := by decide +kernel
theorem dL_law_580 : decode cL_law 580 = .ok (.aload_n 1, 1) := by decide +kernel
theorem dL_law_581 : decode cL_law 581 = .ok (.aload_n 0, 1) := by decide +kernel
theorem dL_law_582 : decode cL_law 582 = .ok (.iload_n 3, 1) := by decide +kernel
theorem dL_law_583 : decode cL_law 583 = .ok (.iconst 1, 1) := by decide +kernel
theorem dL_law_584 : decode cL_law 584 = .ok (.iadd, 1) := by decide +kernel
theorem dL_law_585 : decode cL_law 585 = .ok (.iaload, 1) := by decide +kernel
theorem dL_law_586 : decode cL_law 586 = .ok (.aload_n 0, 1) := by decide +kernel
theorem dL_law_587 : decode cL_law 587 = .ok (.iload_n 3, 1) := by decide +kernel
theorem dL_law_588 : decode cL_law 588 = .ok (.iconst 2, 1) := by decide +kernel
theorem dL_law_589 : decode cL_law 589 = .ok (.iadd, 1) := by decide +kernel
theorem dL_law_590 : decode cL_law 590 = .ok (.iaload, 1) := by decide +kernel
theorem dL_law_591 : decode cL_law 591 = .ok (.invokevirtual 67, 3) := by decide +kernel
theorem dL_law_594 : decode cL_law 594 = .ok (.aload_n 2, 1) := by decide +kernel
theorem dL_law_595 : decode cL_law 595 = .ok (.aload_n 0, 1) := by decide +kernel
theorem dL_law_596 : decode cL_law 596 = .ok (.iload_n 3, 1) := by decide +kernel
theorem dL_law_597 : decode cL_law 597 = .ok (.iconst 1, 1) := by decide +kernel
theorem dL_law_598 : decode cL_law 598 = .ok (.iadd, 1) := by decide +kernel
theorem dL_law_599 : decode cL_law 599 = .ok (.iaload, 1) := by decide +kernel
theorem dL_law_600 : decode cL_law 600 = .ok (.aload_n 0, 1) := by decide +kernel
theorem dL_law_601 : decode cL_law 601 = .ok (.iload_n 3, 1) := by decide +kernel
theorem dL_law_602 : decode cL_law 602 = .ok (.iconst 2, 1) := by decide +kernel
theorem dL_law_603 : decode cL_law 603 = .ok (.iadd, 1) := by decide +kernel
theorem dL_law_604 : decode cL_law 604 = .ok (.iaload, 1) := by decide +kernel
theorem dL_law_605 : decode cL_law 605 = .ok (.invokevirtual 70, 3) := by decide +kernel
theorem dL_law_608 : decode cL_law 608 = .ok (.if_icmp .eq 706, 3) := by decide +kernel
theorem dL_law_611 : decode cL_law 611 = .ok (.iconst 0, 1) := by decide +kernel
theorem dL_law_612 : decode cL_law 612 = .ok (.ireturn, 1) := by decide +kernel
theorem dL_law_613 : decode cL_law 613 = .ok (.aload_n 1, 1) := by decide +kernel
theorem dL_law_614 : decode cL_law 614 = .ok (.aload_n 0, 1) := by decide +kernel
theorem dL_law_615 : decode cL_law 615 = .ok (.iload_n 3, 1) := by decide +kernel
theorem dL_law_616 : decode cL_law 616 = .ok (.iconst 1, 1) := by decide +kernel
theorem dL_law_617 : decode cL_law 617 = .ok (.iadd, 1) := by decide +kernel
theorem dL_law_618 : decode cL_law 618 = .ok (.iaload, 1) := by decide +kernel
theorem dL_law_619 : decode cL_law 619 = .ok (.aload_n 0, 1) := by decide +kernel
theorem dL_law_620 : decode cL_law 620 = .ok (.iload_n 3, 1) := by decide +kernel
theorem dL_law_621 : decode cL_law 621 = .ok (.iconst 2, 1) := by decide +kernel
theorem dL_law_622 : decode cL_law 622 = .ok (.iadd, 1) := by decide +kernel
theorem dL_law_623 : decode cL_law 623 = .ok (.iaload, 1) := by decide +kernel
theorem dL_law_624 : decode cL_law 624 = .ok (.aload_n 0, 1) := by decide +kernel
theorem dL_law_625 : decode cL_law 625 = .ok (.iload_n 3, 1) := by decide +kernel
theorem dL_law_626 : decode cL_law 626 = .ok (.iconst 3, 1) := by decide +kernel
theorem dL_law_627 : decode cL_law 627 = .ok (.iadd, 1) := by decide +kernel
theorem dL_law_628 : decode cL_law 628 = .ok (.iaload, 1) := by decide +kernel
theorem dL_law_629 : decode cL_law 629 = .ok (.invokevirtual 71, 3) := by decide +kernel
theorem dL_law_632 : decode cL_law 632 = .ok (.aload_n 2, 1) := by decide +kernel
theorem dL_law_633 : decode cL_law 633 = .ok (.aload_n 0, 1) := by decide +kernel
theorem dL_law_634 : decode cL_law 634 = .ok (.iload_n 3, 1) := by decide +kernel
theorem dL_law_635 : decode cL_law 635 = .ok (.iconst 1, 1) := by decide +kernel
theorem dL_law_636 : decode cL_law 636 = .ok (.iadd, 1) := by decide +kernel
theorem dL_law_637 : decode cL_law 637 = .ok (.iaload, 1) := by decide +kernel
theorem dL_law_638 : decode cL_law 638 = .ok (.aload_n 0, 1) := by decide +kernel
theorem dL_law_639 : decode cL_law 639 = .ok (.iload_n 3, 1) := by decide +kernel
theorem dL_law_640 : decode cL_law 640 = .ok (.iconst 2, 1) := by decide +kernel
theorem dL_law_641 : decode cL_law 641 = .ok (.iadd, 1) := by decide +kernel
theorem dL_law_642 : decode cL_law 642 = .ok (.iaload, 1) := by decide +kernel
theorem dL_law_643 : decode cL_law 643 = .ok (.aload_n 0, 1) := by decide +kernel
theorem dL_law_644 : decode cL_law 644 = .ok (.iload_n 3, 1) := by decide +kernel
theorem dL_law_645 : decode cL_law 645 = .ok (.iconst 3, 1) := by decide +kernel
theorem dL_law_646 : decode cL_law 646 = .ok (.iadd, 1) := by decide +kernel
theorem dL_law_647 : decode cL_law 647 = .ok (.iaload, 1) := by decide +kernel
theorem dL_law_648 : decode cL_law 648 = .ok (.invokevirtual 75, 3) := by decide +kernel
theorem dL_law_651 : decode cL_law 651 = .ok (.lcmp, 1) := by decide +kernel
theorem dL_law_652 : decode cL_law 652 = .ok (.ifCond .eq 662, 3) := by decide +kernel
theorem dL_law_655 : decode cL_law 655 = .ok (.iconst 0, 1) := by decide +kernel
theorem dL_law_656 : decode cL_law 656 = .ok (.ireturn, 1) := by decide +kernel
theorem dL_law_657 : decode cL_law 657 = .ok (.aload_n 1, 1) := by decide +kernel
theorem dL_law_658 : decode cL_law 658 = .ok (.aload_n 0, 1) := by decide +kernel
theorem dL_law_659 : decode cL_law 659 = .ok (.iload_n 3, 1) := by decide +kernel
theorem dL_law_660 : decode cL_law 660 = .ok (.iconst 1, 1) := by decide +kernel
theorem dL_law_661 : decode cL_law 661 = .ok (.iadd, 1) := by decide +kernel
theorem dL_law_662 : decode cL_law 662 = .ok (.iaload, 1) := by decide +kernel
theorem dL_law_663 : decode cL_law 663 = .ok (.aload_n 0, 1) := by decide +kernel
theorem dL_law_664 : decode cL_law 664 = .ok (.iload_n 3, 1) := by decide +kernel
theorem dL_law_665 : decode cL_law 665 = .ok (.iconst 2, 1) := by decide +kernel
theorem dL_law_666 : decode cL_law 666 = .ok (.iadd, 1) := by decide +kernel
theorem dL_law_667 : decode cL_law 667 = .ok (.iaload, 1) := by decide +kernel
theorem dL_law_668 : decode cL_law 668 = .ok (.invokevirtual 76, 3) := by decide +kernel
theorem dL_law_671 : decode cL_law 671 = .ok (.aload_n 2, 1) := by decide +kernel
theorem dL_law_672 : decode cL_law 672 = .ok (.aload_n 0, 1) := by decide +kernel
theorem dL_law_673 : decode cL_law 673 = .ok (.iload_n 3, 1) := by decide +kernel
theorem dL_law_674 : decode cL_law 674 = .ok (.iconst 1, 1) := by decide +kernel
theorem dL_law_675 : decode cL_law 675 = .ok (.iadd, 1) := by decide +kernel
theorem dL_law_676 : decode cL_law 676 = .ok (.iaload, 1) := by decide +kernel
theorem dL_law_677 : decode cL_law 677 = .ok (.aload_n 0, 1) := by decide +kernel
theorem dL_law_678 : decode cL_law 678 = .ok (.iload_n 3, 1) := by decide +kernel
theorem dL_law_679 : decode cL_law 679 = .ok (.iconst 2, 1) := by decide +kernel
theorem dL_law_680 : decode cL_law 680 = .ok (.iadd, 1) := by decide +kernel
theorem dL_law_681 : decode cL_law 681 = .ok (.iaload, 1) := by decide +kernel
theorem dL_law_682 : decode cL_law 682 = .ok (.invokevirtual 80, 3) := by decide +kernel
theorem dL_law_685 : decode cL_law 685 = .ok (.lcmp, 1) := by decide +kernel
theorem dL_law_686 : decode cL_law 686 = .ok (.ifCond .eq 628, 3) := by decide +kernel
theorem dL_law_689 : decode cL_law 689 = .ok (.iconst 0, 1) := by decide +kernel
theorem dL_law_690 : decode cL_law 690 = .ok (.ireturn, 1) := by decide +kernel
theorem dL_law_691 : decode cL_law 691 = .ok (.aload_n 1, 1) := by decide +kernel
theorem dL_law_692 : decode cL_law 692 = .ok (.aload_n 0, 1) := by decide +kernel
theorem dL_law_693 : decode cL_law 693 = .ok (.iload_n 3, 1) := by decide +kernel
theorem dL_law_694 : decode cL_law 694 = .ok (.iconst 1, 1) := by decide +kernel
theorem dL_law_695 : decode cL_law 695 = .ok (.iadd, 1) := by decide +kernel
theorem dL_law_696 : decode cL_law 696 = .ok (.iaload, 1) := by decide +kernel
theorem dL_law_697 : decode cL_law 697 = .ok (.aload_n 0, 1) := by decide +kernel
theorem dL_law_698 : decode cL_law 698 = .ok (.iload_n 3, 1) := by decide +kernel
theorem dL_law_699 : decode cL_law 699 = .ok (.iconst 2, 1) := by decide +kernel
theorem dL_law_700 : decode cL_law 700 = .ok (.iadd, 1) := by decide +kernel
theorem dL_law_701 : decode cL_law 701 = .ok (.iaload, 1) := by decide +kernel
theorem dL_law_702 : decode cL_law 702 = .ok (.aload_n 0, 1) := by decide +kernel
theorem dL_law_703 : decode cL_law 703 = .ok (.iload_n 3, 1) := by decide +kernel
theorem dL_law_704 : decode cL_law 704 = .ok (.iconst 3, 1) := by decide +kernel
theorem dL_law_705 : decode cL_law 705 = .ok (.iadd, 1) := by decide +kernel
theorem dL_law_706 : decode cL_law 706 = .ok (.iaload, 1) := by decide +kernel
theorem dL_law_707 : decode cL_law 707 = .ok (.invokevirtual 81, 3) := by decide +kernel
theorem dL_law_710 : decode cL_law 710 = .ok (.aload_n 2, 1) := by decide +kernel
theorem dL_law_711 : decode cL_law 711 = .ok (.aload_n 0, 1) := by decide +kernel
theorem dL_law_712 : decode cL_law 712 = .ok (.iload_n 3, 1) := by decide +kernel
theorem dL_law_713 : decode cL_law 713 = .ok (.iconst 1, 1) := by decide +kernel
theorem dL_law_714 : decode cL_law 714 = .ok (.iadd, 1) := by decide +kernel
theorem dL_law_715 : decode cL_law 715 = .ok (.iaload, 1) := by decide +kernel
theorem dL_law_716 : decode cL_law 716 = .ok (.aload_n 0, 1) := by decide +kernel
theorem dL_law_717 : decode cL_law 717 = .ok (.iload_n 3, 1) := by decide +kernel
theorem dL_law_718 : decode cL_law 718 = .ok (.iconst 2, 1) := by decide +kernel
theorem dL_law_719 : decode cL_law 719 = .ok (.iadd, 1) := by decide +kernel
theorem dL_law_720 : decode cL_law 720 = .ok (.iaload, 1) := by decide +kernel
theorem dL_law_721 : decode cL_law 721 = .ok (.aload_n 0, 1) := by decide +kernel
theorem dL_law_722 : decode cL_law 722 = .ok (.iload_n 3, 1) := by decide +kernel
theorem dL_law_723 : decode cL_law 723 = .ok (.iconst 3, 1) := by decide +kernel
theorem dL_law_724 : decode cL_law 724 = .ok (.iadd, 1) := by decide +kernel
theorem dL_law_725 : decode cL_law 725 = .ok (.iaload, 1) := by decide +kernel
theorem dL_law_726 : decode cL_law 726 = .ok (.invokevirtual 84, 3) := by decide +kernel
theorem dL_law_729 : decode cL_law 729 = .ok (.if_icmp .eq 585, 3) := by decide +kernel
theorem dL_law_732 : decode cL_law 732 = .ok (.iconst 0, 1) := by decide +kernel
theorem dL_law_733 : decode cL_law 733 = .ok (.ireturn, 1) := by decide +kernel
theorem dL_law_734 : decode cL_law 734 = .ok (.aload_n 1, 1) := by decide +kernel
theorem dL_law_735 : decode cL_law 735 = .ok (.aload_n 0, 1) := by decide +kernel
theorem dL_law_736 : decode cL_law 736 = .ok (.iload_n 3, 1) := by decide +kernel
theorem dL_law_737 : decode cL_law 737 = .ok (.iconst 1, 1) := by decide +kernel
theorem dL_law_738 : decode cL_law 738 = .ok (.iadd, 1) := by decide +kernel
theorem dL_law_739 : decode cL_law 739 = .ok (.iaload, 1) := by decide +kernel
theorem dL_law_740 : decode cL_law 740 = .ok (.aload_n 0, 1) := by decide +kernel
theorem dL_law_741 : decode cL_law 741 = .ok (.iload_n 3, 1) := by decide +kernel
theorem dL_law_742 : decode cL_law 742 = .ok (.iconst 2, 1) := by decide +kernel
theorem dL_law_743 : decode cL_law 743 = .ok (.iadd, 1) := by decide +kernel
theorem dL_law_744 : decode cL_law 744 = .ok (.iaload, 1) := by decide +kernel
theorem dL_law_745 : decode cL_law 745 = .ok (.aload_n 0, 1) := by decide +kernel
theorem dL_law_746 : decode cL_law 746 = .ok (.iload_n 3, 1) := by decide +kernel
theorem dL_law_747 : decode cL_law 747 = .ok (.iconst 3, 1) := by decide +kernel
theorem dL_law_748 : decode cL_law 748 = .ok (.iadd, 1) := by decide +kernel
theorem dL_law_749 : decode cL_law 749 = .ok (.iaload, 1) := by decide +kernel
theorem dL_law_750 : decode cL_law 750 = .ok (.aload_n 0, 1) := by decide +kernel
theorem dL_law_751 : decode cL_law 751 = .ok (.iload_n 3, 1) := by decide +kernel
theorem dL_law_752 : decode cL_law 752 = .ok (.iconst 4, 1) := by decide +kernel
theorem dL_law_753 : decode cL_law 753 = .ok (.iadd, 1) := by decide +kernel
theorem dL_law_754 : decode cL_law 754 = .ok (.iaload, 1) := by decide +kernel
theorem dL_law_755 : decode cL_law 755 = .ok (.invokevirtual 85, 3) := by decide +kernel
theorem dL_law_758 : decode cL_law 758 = .ok (.aload_n 2, 1) := by decide +kernel
theorem dL_law_759 : decode cL_law 759 = .ok (.aload_n 0, 1) := by decide +kernel
theorem dL_law_760 : decode cL_law 760 = .ok (.iload_n 3, 1) := by decide +kernel
theorem dL_law_761 : decode cL_law 761 = .ok (.iconst 1, 1) := by decide +kernel
theorem dL_law_762 : decode cL_law 762 = .ok (.iadd, 1) := by decide +kernel
theorem dL_law_763 : decode cL_law 763 = .ok (.iaload, 1) := by decide +kernel
theorem dL_law_764 : decode cL_law 764 = .ok (.aload_n 0, 1) := by decide +kernel
theorem dL_law_765 : decode cL_law 765 = .ok (.iload_n 3, 1) := by decide +kernel
theorem dL_law_766 : decode cL_law 766 = .ok (.iconst 2, 1) := by decide +kernel
theorem dL_law_767 : decode cL_law 767 = .ok (.iadd, 1) := by decide +kernel
theorem dL_law_768 : decode cL_law 768 = .ok (.iaload, 1) := by decide +kernel
theorem dL_law_769 : decode cL_law 769 = .ok (.aload_n 0, 1) := by decide +kernel
theorem dL_law_770 : decode cL_law 770 = .ok (.iload_n 3, 1) := by decide +kernel
theorem dL_law_771 : decode cL_law 771 = .ok (.iconst 3, 1) := by decide +kernel
theorem dL_law_772 : decode cL_law 772 = .ok (.iadd, 1) := by decide +kernel
theorem dL_law_773 : decode cL_law 773 = .ok (.iaload, 1) := by decide +kernel
theorem dL_law_774 : decode cL_law 774 = .ok (.aload_n 0, 1) := by decide +kernel
theorem dL_law_775 : decode cL_law 775 = .ok (.iload_n 3, 1) := by decide +kernel
theorem dL_law_776 : decode cL_law 776 = .ok (.iconst 4, 1) := by decide +kernel
theorem dL_law_777 : decode cL_law 777 = .ok (.iadd, 1) := by decide +kernel
theorem dL_law_778 : decode cL_law 778 = .ok (.iaload, 1) := by decide +kernel
theorem dL_law_779 : decode cL_law 779 = .ok (.invokevirtual 89, 3) := by decide +kernel
theorem dL_law_782 : decode cL_law 782 = .ok (.if_icmp .eq 532, 3) := by decide +kernel
theorem dL_law_785 : decode cL_law 785 = .ok (.iconst 0, 1) := by decide +kernel
theorem dL_law_786 : decode cL_law 786 = .ok (.ireturn, 1) := by decide +kernel
theorem dL_law_787 : decode cL_law 787 = .ok (.aload_n 1, 1) := by decide +kernel
theorem dL_law_788 : decode cL_law 788 = .ok (.aload_n 0, 1) := by decide +kernel
theorem dL_law_789 : decode cL_law 789 = .ok (.iload_n 3, 1) := by decide +kernel
theorem dL_law_790 : decode cL_law 790 = .ok (.iconst 1, 1) := by decide +kernel
theorem dL_law_791 : decode cL_law 791 = .ok (.iadd, 1) := by decide +kernel
theorem dL_law_792 : decode cL_law 792 = .ok (.iaload, 1) := by decide +kernel
theorem dL_law_793 : decode cL_law 793 = .ok (.aload_n 0, 1) := by decide +kernel
theorem dL_law_794 : decode cL_law 794 = .ok (.iload_n 3, 1) := by decide +kernel
theorem dL_law_795 : decode cL_law 795 = .ok (.iconst 2, 1) := by decide +kernel
theorem dL_law_796 : decode cL_law 796 = .ok (.iadd, 1) := by decide +kernel
theorem dL_law_797 : decode cL_law 797 = .ok (.iaload, 1) := by decide +kernel
theorem dL_law_798 : decode cL_law 798 = .ok (.aload_n 0, 1) := by decide +kernel
theorem dL_law_799 : decode cL_law 799 = .ok (.iload_n 3, 1) := by decide +kernel
theorem dL_law_800 : decode cL_law 800 = .ok (.iconst 3, 1) := by decide +kernel
theorem dL_law_801 : decode cL_law 801 = .ok (.iadd, 1) := by decide +kernel
theorem dL_law_802 : decode cL_law 802 = .ok (.iaload, 1) := by decide +kernel
theorem dL_law_803 : decode cL_law 803 = .ok (.aload_n 0, 1) := by decide +kernel
theorem dL_law_804 : decode cL_law 804 = .ok (.iload_n 3, 1) := by decide +kernel
theorem dL_law_805 : decode cL_law 805 = .ok (.iconst 4, 1) := by decide +kernel
theorem dL_law_806 : decode cL_law 806 = .ok (.iadd, 1) := by decide +kernel
theorem dL_law_807 : decode cL_law 807 = .ok (.iaload, 1) := by decide +kernel
theorem dL_law_808 : decode cL_law 808 = .ok (.invokevirtual 90, 3) := by decide +kernel
theorem dL_law_811 : decode cL_law 811 = .ok (.aload_n 2, 1) := by decide +kernel
theorem dL_law_812 : decode cL_law 812 = .ok (.aload_n 0, 1) := by decide +kernel
theorem dL_law_813 : decode cL_law 813 = .ok (.iload_n 3, 1) := by decide +kernel
theorem dL_law_814 : decode cL_law 814 = .ok (.iconst 1, 1) := by decide +kernel
theorem dL_law_815 : decode cL_law 815 = .ok (.iadd, 1) := by decide +kernel
theorem dL_law_816 : decode cL_law 816 = .ok (.iaload, 1) := by decide +kernel
theorem dL_law_817 : decode cL_law 817 = .ok (.aload_n 0, 1) := by decide +kernel
theorem dL_law_818 : decode cL_law 818 = .ok (.iload_n 3, 1) := by decide +kernel
theorem dL_law_819 : decode cL_law 819 = .ok (.iconst 2, 1) := by decide +kernel
theorem dL_law_820 : decode cL_law 820 = .ok (.iadd, 1) := by decide +kernel
theorem dL_law_821 : decode cL_law 821 = .ok (.iaload, 1) := by decide +kernel
theorem dL_law_822 : decode cL_law 822 = .ok (.aload_n 0, 1) := by decide +kernel
theorem dL_law_823 : decode cL_law 823 = .ok (.iload_n 3, 1) := by decide +kernel
theorem dL_law_824 : decode cL_law 824 = .ok (.iconst 3, 1) := by decide +kernel
theorem dL_law_825 : decode cL_law 825 = .ok (.iadd, 1) := by decide +kernel
theorem dL_law_826 : decode cL_law 826 = .ok (.iaload, 1) := by decide +kernel
theorem dL_law_827 : decode cL_law 827 = .ok (.aload_n 0, 1) := by decide +kernel
theorem dL_law_828 : decode cL_law 828 = .ok (.iload_n 3, 1) := by decide +kernel
theorem dL_law_829 : decode cL_law 829 = .ok (.iconst 4, 1) := by decide +kernel
theorem dL_law_830 : decode cL_law 830 = .ok (.iadd, 1) := by decide +kernel
theorem dL_law_831 : decode cL_law 831 = .ok (.iaload, 1) := by decide +kernel
theorem dL_law_832 : decode cL_law 832 = .ok (.invokevirtual 93, 3) := by decide +kernel
theorem dL_law_835 : decode cL_law 835 = .ok (.if_icmp .eq 479, 3) := by decide +kernel
theorem dL_law_838 : decode cL_law 838 = .ok (.iconst 0, 1) := by decide +kernel
theorem dL_law_839 : decode cL_law 839 = .ok (.ireturn, 1) := by decide +kernel
theorem dL_law_840 : decode cL_law 840 = .ok (.aload_n 1, 1) := by decide +kernel
theorem dL_law_841 : decode cL_law 841 = .ok (.aload_n 0, 1) := by decide +kernel
theorem dL_law_842 : decode cL_law 842 = .ok (.iload_n 3, 1) := by decide +kernel
theorem dL_law_843 : decode cL_law 843 = .ok (.iconst 1, 1) := by decide +kernel
theorem dL_law_844 : decode cL_law 844 = .ok (.iadd, 1) := by decide +kernel
theorem dL_law_845 : decode cL_law 845 = .ok (.iaload, 1) := by decide +kernel
theorem dL_law_846 : decode cL_law 846 = .ok (.aload_n 0, 1) := by decide +kernel
theorem dL_law_847 : decode cL_law 847 = .ok (.iload_n 3, 1) := by decide +kernel
theorem dL_law_848 : decode cL_law 848 = .ok (.iconst 2, 1) := by decide +kernel
theorem dL_law_849 : decode cL_law 849 = .ok (.iadd, 1) := by decide +kernel
theorem dL_law_850 : decode cL_law 850 = .ok (.iaload, 1) := by decide +kernel
theorem dL_law_851 : decode cL_law 851 = .ok (.invokevirtual 94, 3) := by decide +kernel
theorem dL_law_854 : decode cL_law 854 = .ok (.aload_n 2, 1) := by decide +kernel
theorem dL_law_855 : decode cL_law 855 = .ok (.aload_n 0, 1) := by decide +kernel
theorem dL_law_856 : decode cL_law 856 = .ok (.iload_n 3, 1) := by decide +kernel
theorem dL_law_857 : decode cL_law 857 = .ok (.iconst 1, 1) := by decide +kernel
theorem dL_law_858 : decode cL_law 858 = .ok (.iadd, 1) := by decide +kernel
theorem dL_law_859 : decode cL_law 859 = .ok (.iaload, 1) := by decide +kernel
theorem dL_law_860 : decode cL_law 860 = .ok (.aload_n 0, 1) := by decide +kernel
theorem dL_law_861 : decode cL_law 861 = .ok (.iload_n 3, 1) := by decide +kernel
theorem dL_law_862 : decode cL_law 862 = .ok (.iconst 2, 1) := by decide +kernel
theorem dL_law_863 : decode cL_law 863 = .ok (.iadd, 1) := by decide +kernel
theorem dL_law_864 : decode cL_law 864 = .ok (.iaload, 1) := by decide +kernel
theorem dL_law_865 : decode cL_law 865 = .ok (.invokevirtual 97, 3) := by decide +kernel
theorem dL_law_868 : decode cL_law 868 = .ok (.if_icmp .eq 446, 3) := by decide +kernel
theorem dL_law_871 : decode cL_law 871 = .ok (.iconst 0, 1) := by decide +kernel
theorem dL_law_872 : decode cL_law 872 = .ok (.ireturn, 1) := by decide +kernel
theorem dL_law_873 : decode cL_law 873 = .ok (.aload_n 1, 1) := by decide +kernel
theorem dL_law_874 : decode cL_law 874 = .ok (.aload_n 0, 1) := by decide +kernel
theorem dL_law_875 : decode cL_law 875 = .ok (.iload_n 3, 1) := by decide +kernel
theorem dL_law_876 : decode cL_law 876 = .ok (.iconst 1, 1) := by decide +kernel
theorem dL_law_877 : decode cL_law 877 = .ok (.iadd, 1) := by decide +kernel
theorem dL_law_878 : decode cL_law 878 = .ok (.iaload, 1) := by decide +kernel
theorem dL_law_879 : decode cL_law 879 = .ok (.invokevirtual 98, 3) := by decide +kernel
theorem dL_law_882 : decode cL_law 882 = .ok (.aload_n 2, 1) := by decide +kernel
theorem dL_law_883 : decode cL_law 883 = .ok (.aload_n 0, 1) := by decide +kernel
theorem dL_law_884 : decode cL_law 884 = .ok (.iload_n 3, 1) := by decide +kernel
theorem dL_law_885 : decode cL_law 885 = .ok (.iconst 1, 1) := by decide +kernel
theorem dL_law_886 : decode cL_law 886 = .ok (.iadd, 1) := by decide +kernel
theorem dL_law_887 : decode cL_law 887 = .ok (.iaload, 1) := by decide +kernel
theorem dL_law_888 : decode cL_law 888 = .ok (.invokevirtual 101, 3) := by decide +kernel
theorem dL_law_891 : decode cL_law 891 = .ok (.if_icmp .eq 423, 3) := by decide +kernel
theorem dL_law_894 : decode cL_law 894 = .ok (.iconst 0, 1) := by decide +kernel
theorem dL_law_895 : decode cL_law 895 = .ok (.ireturn, 1) := by decide +kernel
theorem dL_law_896 : decode cL_law 896 = .ok (.aload_n 1, 1) := by decide +kernel
theorem dL_law_897 : decode cL_law 897 = .ok (.aload_n 0, 1) := by decide +kernel
theorem dL_law_898 : decode cL_law 898 = .ok (.iload_n 3, 1) := by decide +kernel
theorem dL_law_899 : decode cL_law 899 = .ok (.iconst 1, 1) := by decide +kernel
theorem dL_law_900 : decode cL_law 900 = .ok (.iadd, 1) := by decide +kernel
theorem dL_law_901 : decode cL_law 901 = .ok (.iaload, 1) := by decide +kernel
theorem dL_law_902 : decode cL_law 902 = .ok (.aload_n 0, 1) := by decide +kernel
theorem dL_law_903 : decode cL_law 903 = .ok (.iload_n 3, 1) := by decide +kernel
theorem dL_law_904 : decode cL_law 904 = .ok (.iconst 2, 1) := by decide +kernel
theorem dL_law_905 : decode cL_law 905 = .ok (.iadd, 1) := by decide +kernel
theorem dL_law_906 : decode cL_law 906 = .ok (.iaload, 1) := by decide +kernel
theorem dL_law_907 : decode cL_law 907 = .ok (.invokevirtual 102, 3) := by decide +kernel
theorem dL_law_910 : decode cL_law 910 = .ok (.aload_n 2, 1) := by decide +kernel
theorem dL_law_911 : decode cL_law 911 = .ok (.aload_n 0, 1) := by decide +kernel
theorem dL_law_912 : decode cL_law 912 = .ok (.iload_n 3, 1) := by decide +kernel
theorem dL_law_913 : decode cL_law 913 = .ok (.iconst 1, 1) := by decide +kernel
theorem dL_law_914 : decode cL_law 914 = .ok (.iadd, 1) := by decide +kernel
theorem dL_law_915 : decode cL_law 915 = .ok (.iaload, 1) := by decide +kernel
theorem dL_law_916 : decode cL_law 916 = .ok (.aload_n 0, 1) := by decide +kernel
theorem dL_law_917 : decode cL_law 917 = .ok (.iload_n 3, 1) := by decide +kernel
theorem dL_law_918 : decode cL_law 918 = .ok (.iconst 2, 1) := by decide +kernel
theorem dL_law_919 : decode cL_law 919 = .ok (.iadd, 1) := by decide +kernel
theorem dL_law_920 : decode cL_law 920 = .ok (.iaload, 1) := by decide +kernel
theorem dL_law_921 : decode cL_law 921 = .ok (.invokevirtual 105, 3) := by decide +kernel
theorem dL_law_924 : decode cL_law 924 = .ok (.if_icmp .eq 390, 3) := by decide +kernel
theorem dL_law_927 : decode cL_law 927 = .ok (.iconst 0, 1) := by decide +kernel
theorem dL_law_928 : decode cL_law 928 = .ok (.ireturn, 1) := by decide +kernel
theorem dL_law_929 : decode cL_law 929 = .ok (.aload_n 1, 1) := by decide +kernel
theorem dL_law_930 : decode cL_law 930 = .ok (.aload_n 0, 1) := by decide +kernel
theorem dL_law_931 : decode cL_law 931 = .ok (.iload_n 3, 1) := by decide +kernel
theorem dL_law_932 : decode cL_law 932 = .ok (.iconst 1, 1) := by decide +kernel
theorem dL_law_933 : decode cL_law 933 = .ok (.iadd, 1) := by decide +kernel
theorem dL_law_934 : decode cL_law 934 = .ok (.iaload, 1) := by decide +kernel
theorem dL_law_935 : decode cL_law 935 = .ok (.invokevirtual 106, 3) := by decide +kernel
theorem dL_law_938 : decode cL_law 938 = .ok (.aload_n 2, 1) := by decide +kernel
theorem dL_law_939 : decode cL_law 939 = .ok (.aload_n 0, 1) := by decide +kernel
theorem dL_law_940 : decode cL_law 940 = .ok (.iload_n 3, 1) := by decide +kernel
theorem dL_law_941 : decode cL_law 941 = .ok (.iconst 1, 1) := by decide +kernel
theorem dL_law_942 : decode cL_law 942 = .ok (.iadd, 1) := by decide +kernel
theorem dL_law_943 : decode cL_law 943 = .ok (.iaload, 1) := by decide +kernel
theorem dL_law_944 : decode cL_law 944 = .ok (.invokevirtual 109, 3) := by decide +kernel
theorem dL_law_947 : decode cL_law 947 = .ok (.if_icmp .eq 367, 3) := by decide +kernel
theorem dL_law_950 : decode cL_law 950 = .ok (.iconst 0, 1) := by decide +kernel
theorem dL_law_951 : decode cL_law 951 = .ok (.ireturn, 1) := by decide +kernel
theorem dL_law_952 : decode cL_law 952 = .ok (.aload_n 1, 1) := by decide +kernel
theorem dL_law_953 : decode cL_law 953 = .ok (.aload_n 0, 1) := by decide +kernel
theorem dL_law_954 : decode cL_law 954 = .ok (.iload_n 3, 1) := by decide +kernel
theorem dL_law_955 : decode cL_law 955 = .ok (.iconst 1, 1) := by decide +kernel
theorem dL_law_956 : decode cL_law 956 = .ok (.iadd, 1) := by decide +kernel
theorem dL_law_957 : decode cL_law 957 = .ok (.iaload, 1) := by decide +kernel
theorem dL_law_958 : decode cL_law 958 = .ok (.invokevirtual 110, 3) := by decide +kernel
theorem dL_law_961 : decode cL_law 961 = .ok (.aload_n 2, 1) := by decide +kernel
theorem dL_law_962 : decode cL_law 962 = .ok (.aload_n 0, 1) := by decide +kernel
theorem dL_law_963 : decode cL_law 963 = .ok (.iload_n 3, 1) := by decide +kernel
theorem dL_law_964 : decode cL_law 964 = .ok (.iconst 1, 1) := by decide +kernel
theorem dL_law_965 : decode cL_law 965 = .ok (.iadd, 1) := by decide +kernel
theorem dL_law_966 : decode cL_law 966 = .ok (.iaload, 1) := by decide +kernel
theorem dL_law_967 : decode cL_law 967 = .ok (.invokevirtual 113, 3) := by decide +kernel
theorem dL_law_970 : decode cL_law 970 = .ok (.if_icmp .eq 344, 3) := by decide +kernel
theorem dL_law_973 : decode cL_law 973 = .ok (.iconst 0, 1) := by decide +kernel
theorem dL_law_974 : decode cL_law 974 = .ok (.ireturn, 1) := by decide +kernel
theorem dL_law_975 : decode cL_law 975 = .ok (.aload_n 1, 1) := by decide +kernel
theorem dL_law_976 : decode cL_law 976 = .ok (.aload_n 0, 1) := by decide +kernel
theorem dL_law_977 : decode cL_law 977 = .ok (.iload_n 3, 1) := by decide +kernel
theorem dL_law_978 : decode cL_law 978 = .ok (.iconst 1, 1) := by decide +kernel
theorem dL_law_979 : decode cL_law 979 = .ok (.iadd, 1) := by decide +kernel
theorem dL_law_980 : decode cL_law 980 = .ok (.iaload, 1) := by decide +kernel
theorem dL_law_981 : decode cL_law 981 = .ok (.invokevirtual 114, 3) := by decide +kernel
theorem dL_law_984 : decode cL_law 984 = .ok (.aload_n 2, 1) := by decide +kernel
theorem dL_law_985 : decode cL_law 985 = .ok (.aload_n 0, 1) := by decide +kernel
theorem dL_law_986 : decode cL_law 986 = .ok (.iload_n 3, 1) := by decide +kernel
theorem dL_law_987 : decode cL_law 987 = .ok (.iconst 1, 1) := by decide +kernel
theorem dL_law_988 : decode cL_law 988 = .ok (.iadd, 1) := by decide +kernel
theorem dL_law_989 : decode cL_law 989 = .ok (.iaload, 1) := by decide +kernel
theorem dL_law_990 : decode cL_law 990 = .ok (.invokevirtual 117, 3) := by decide +kernel
theorem dL_law_993 : decode cL_law 993 = .ok (.if_icmp .eq 321, 3) := by decide +kernel
theorem dL_law_996 : decode cL_law 996 = .ok (.iconst 0, 1) := by decide +kernel
theorem dL_law_997 : decode cL_law 997 = .ok (.ireturn, 1) := by decide +kernel
theorem dL_law_998 : decode cL_law 998 = .ok (.aload_n 1, 1) := by decide +kernel
theorem dL_law_999 : decode cL_law 999 = .ok (.invokevirtual 118, 3) := by decide +kernel
theorem dL_law_1002 : decode cL_law 1002 = .ok (.aload_n 2, 1) := by decide +kernel
theorem dL_law_1003 : decode cL_law 1003 = .ok (.invokevirtual 121, 3) := by decide +kernel
theorem dL_law_1006 : decode cL_law 1006 = .ok (.if_icmp .eq 308, 3) := by decide +kernel
theorem dL_law_1009 : decode cL_law 1009 = .ok (.iconst 0, 1) := by decide +kernel
theorem dL_law_1010 : decode cL_law 1010 = .ok (.ireturn, 1) := by decide +kernel
theorem dL_law_1011 : decode cL_law 1011 = .ok (.aload_n 1, 1) := by decide +kernel
theorem dL_law_1012 : decode cL_law 1012 = .ok (.aload_n 0, 1) := by decide +kernel
theorem dL_law_1013 : decode cL_law 1013 = .ok (.iload_n 3, 1) := by decide +kernel
theorem dL_law_1014 : decode cL_law 1014 = .ok (.iconst 1, 1) := by decide +kernel
theorem dL_law_1015 : decode cL_law 1015 = .ok (.iadd, 1) := by decide +kernel
theorem dL_law_1016 : decode cL_law 1016 = .ok (.iaload, 1) := by decide +kernel
theorem dL_law_1017 : decode cL_law 1017 = .ok (.invokevirtual 122, 3) := by decide +kernel
theorem dL_law_1020 : decode cL_law 1020 = .ok (.aload_n 2, 1) := by decide +kernel
theorem dL_law_1021 : decode cL_law 1021 = .ok (.aload_n 0, 1) := by decide +kernel
theorem dL_law_1022 : decode cL_law 1022 = .ok (.iload_n 3, 1) := by decide +kernel
theorem dL_law_1023 : decode cL_law 1023 = .ok (.iconst 1, 1) := by decide +kernel
theorem dL_law_1024 : decode cL_law 1024 = .ok (.iadd, 1) := by decide +kernel
theorem dL_law_1025 : decode cL_law 1025 = .ok (.iaload, 1) := by decide +kernel
theorem dL_law_1026 : decode cL_law 1026 = .ok (.invokevirtual 125, 3) := by decide +kernel
theorem dL_law_1029 : decode cL_law 1029 = .ok (.if_icmp .eq 285, 3) := by decide +kernel
theorem dL_law_1032 : decode cL_law 1032 = .ok (.iconst 0, 1) := by decide +kernel
theorem dL_law_1033 : decode cL_law 1033 = .ok (.ireturn, 1) := by decide +kernel
theorem dL_law_1034 : decode cL_law 1034 = .ok (.aload_n 1, 1) := by decide +kernel
theorem dL_law_1035 : decode cL_law 1035 = .ok (.aload_n 0, 1) := by decide +kernel
theorem dL_law_1036 : decode cL_law 1036 = .ok (.iload_n 3, 1) := by decide +kernel
theorem dL_law_1037 : decode cL_law 1037 = .ok (.iconst 1, 1) := by decide +kernel
theorem dL_law_1038 : decode cL_law 1038 = .ok (.iadd, 1) := by decide +kernel
theorem dL_law_1039 : decode cL_law 1039 = .ok (.iaload, 1) := by decide +kernel
theorem dL_law_1040 : decode cL_law 1040 = .ok (.aload_n 0, 1) := by decide +kernel
theorem dL_law_1041 : decode cL_law 1041 = .ok (.iload_n 3, 1) := by decide +kernel
theorem dL_law_1042 : decode cL_law 1042 = .ok (.iconst 2, 1) := by decide +kernel
theorem dL_law_1043 : decode cL_law 1043 = .ok (.iadd, 1) := by decide +kernel
theorem dL_law_1044 : decode cL_law 1044 = .ok (.iaload, 1) := by decide +kernel
theorem dL_law_1045 : decode cL_law 1045 = .ok (.invokevirtual 126, 3) := by decide +kernel
theorem dL_law_1048 : decode cL_law 1048 = .ok (.aload_n 2, 1) := by decide +kernel
theorem dL_law_1049 : decode cL_law 1049 = .ok (.aload_n 0, 1) := by decide +kernel
theorem dL_law_1050 : decode cL_law 1050 = .ok (.iload_n 3, 1) := by decide +kernel
theorem dL_law_1051 : decode cL_law 1051 = .ok (.iconst 1, 1) := by decide +kernel
theorem dL_law_1052 : decode cL_law 1052 = .ok (.iadd, 1) := by decide +kernel
theorem dL_law_1053 : decode cL_law 1053 = .ok (.iaload, 1) := by decide +kernel
theorem dL_law_1054 : decode cL_law 1054 = .ok (.aload_n 0, 1) := by decide +kernel
theorem dL_law_1055 : decode cL_law 1055 = .ok (.iload_n 3, 1) := by decide +kernel
theorem dL_law_1056 : decode cL_law 1056 = .ok (.iconst 2, 1) := by decide +kernel
theorem dL_law_1057 : decode cL_law 1057 = .ok (.iadd, 1) := by decide +kernel
theorem dL_law_1058 : decode cL_law 1058 = .ok (.iaload, 1) := by decide +kernel
theorem dL_law_1059 : decode cL_law 1059 = .ok (.invokevirtual 129, 3) := by decide +kernel
theorem dL_law_1062 : decode cL_law 1062 = .ok (.if_icmp .eq 252, 3) := by decide +kernel
theorem dL_law_1065 : decode cL_law 1065 = .ok (.iconst 0, 1) := by decide +kernel
theorem dL_law_1066 : decode cL_law 1066 = .ok (.ireturn, 1) := by decide +kernel
theorem dL_law_1067 : decode cL_law 1067 = .ok (.aload_n 1, 1) := by decide +kernel
theorem dL_law_1068 : decode cL_law 1068 = .ok (.aload_n 0, 1) := by decide +kernel
theorem dL_law_1069 : decode cL_law 1069 = .ok (.iload_n 3, 1) := by decide +kernel
theorem dL_law_1070 : decode cL_law 1070 = .ok (.iconst 1, 1) := by decide +kernel
theorem dL_law_1071 : decode cL_law 1071 = .ok (.iadd, 1) := by decide +kernel
theorem dL_law_1072 : decode cL_law 1072 = .ok (.iaload, 1) := by decide +kernel
theorem dL_law_1073 : decode cL_law 1073 = .ok (.invokevirtual 130, 3) := by decide +kernel
theorem dL_law_1076 : decode cL_law 1076 = .ok (.aload_n 2, 1) := by decide +kernel
theorem dL_law_1077 : decode cL_law 1077 = .ok (.aload_n 0, 1) := by decide +kernel
theorem dL_law_1078 : decode cL_law 1078 = .ok (.iload_n 3, 1) := by decide +kernel
theorem dL_law_1079 : decode cL_law 1079 = .ok (.iconst 1, 1) := by decide +kernel
theorem dL_law_1080 : decode cL_law 1080 = .ok (.iadd, 1) := by decide +kernel
theorem dL_law_1081 : decode cL_law 1081 = .ok (.iaload, 1) := by decide +kernel
theorem dL_law_1082 : decode cL_law 1082 = .ok (.invokevirtual 133, 3) := by decide +kernel
theorem dL_law_1085 : decode cL_law 1085 = .ok (.if_icmp .eq 229, 3) := by decide +kernel
theorem dL_law_1088 : decode cL_law 1088 = .ok (.iconst 0, 1) := by decide +kernel
theorem dL_law_1089 : decode cL_law 1089 = .ok (.ireturn, 1) := by decide +kernel
theorem dL_law_1090 : decode cL_law 1090 = .ok (.aload_n 1, 1) := by decide +kernel
theorem dL_law_1091 : decode cL_law 1091 = .ok (.aload_n 0, 1) := by decide +kernel
theorem dL_law_1092 : decode cL_law 1092 = .ok (.iload_n 3, 1) := by decide +kernel
theorem dL_law_1093 : decode cL_law 1093 = .ok (.iconst 1, 1) := by decide +kernel
theorem dL_law_1094 : decode cL_law 1094 = .ok (.iadd, 1) := by decide +kernel
theorem dL_law_1095 : decode cL_law 1095 = .ok (.iaload, 1) := by decide +kernel
theorem dL_law_1096 : decode cL_law 1096 = .ok (.invokevirtual 134, 3) := by decide +kernel
theorem dL_law_1099 : decode cL_law 1099 = .ok (.aload_n 2, 1) := by decide +kernel
theorem dL_law_1100 : decode cL_law 1100 = .ok (.aload_n 0, 1) := by decide +kernel
theorem dL_law_1101 : decode cL_law 1101 = .ok (.iload_n 3, 1) := by decide +kernel
theorem dL_law_1102 : decode cL_law 1102 = .ok (.iconst 1, 1) := by decide +kernel
theorem dL_law_1103 : decode cL_law 1103 = .ok (.iadd, 1) := by decide +kernel
theorem dL_law_1104 : decode cL_law 1104 = .ok (.iaload, 1) := by decide +kernel
theorem dL_law_1105 : decode cL_law 1105 = .ok (.invokevirtual 137, 3) := by decide +kernel
theorem dL_law_1108 : decode cL_law 1108 = .ok (.if_icmp .eq 206, 3) := by decide +kernel
theorem dL_law_1111 : decode cL_law 1111 = .ok (.iconst 0, 1) := by decide +kernel
theorem dL_law_1112 : decode cL_law 1112 = .ok (.ireturn, 1) := by decide +kernel
theorem dL_law_1113 : decode cL_law 1113 = .ok (.aload_n 1, 1) := by decide +kernel
theorem dL_law_1114 : decode cL_law 1114 = .ok (.aload_n 0, 1) := by decide +kernel
theorem dL_law_1115 : decode cL_law 1115 = .ok (.iload_n 3, 1) := by decide +kernel
theorem dL_law_1116 : decode cL_law 1116 = .ok (.iconst 1, 1) := by decide +kernel
theorem dL_law_1117 : decode cL_law 1117 = .ok (.iadd, 1) := by decide +kernel
theorem dL_law_1118 : decode cL_law 1118 = .ok (.iaload, 1) := by decide +kernel
theorem dL_law_1119 : decode cL_law 1119 = .ok (.aload_n 0, 1) := by decide +kernel
theorem dL_law_1120 : decode cL_law 1120 = .ok (.iload_n 3, 1) := by decide +kernel
theorem dL_law_1121 : decode cL_law 1121 = .ok (.iconst 2, 1) := by decide +kernel
theorem dL_law_1122 : decode cL_law 1122 = .ok (.iadd, 1) := by decide +kernel
theorem dL_law_1123 : decode cL_law 1123 = .ok (.iaload, 1) := by decide +kernel
theorem dL_law_1124 : decode cL_law 1124 = .ok (.invokevirtual 138, 3) := by decide +kernel
theorem dL_law_1127 : decode cL_law 1127 = .ok (.aload_n 2, 1) := by decide +kernel
theorem dL_law_1128 : decode cL_law 1128 = .ok (.aload_n 0, 1) := by decide +kernel
theorem dL_law_1129 : decode cL_law 1129 = .ok (.iload_n 3, 1) := by decide +kernel
theorem dL_law_1130 : decode cL_law 1130 = .ok (.iconst 1, 1) := by decide +kernel
theorem dL_law_1131 : decode cL_law 1131 = .ok (.iadd, 1) := by decide +kernel
theorem dL_law_1132 : decode cL_law 1132 = .ok (.iaload, 1) := by decide +kernel
theorem dL_law_1133 : decode cL_law 1133 = .ok (.aload_n 0, 1) := by decide +kernel
theorem dL_law_1134 : decode cL_law 1134 = .ok (.iload_n 3, 1) := by decide +kernel
theorem dL_law_1135 : decode cL_law 1135 = .ok (.iconst 2, 1) := by decide +kernel
theorem dL_law_1136 : decode cL_law 1136 = .ok (.iadd, 1) := by decide +kernel
theorem dL_law_1137 : decode cL_law 1137 = .ok (.iaload, 1) := by decide +kernel
theorem dL_law_1138 : decode cL_law 1138 = .ok (.invokevirtual 142, 3) := by decide +kernel
theorem dL_law_1141 : decode cL_law 1141 = .ok (.if_icmp .eq 173, 3) := by decide +kernel
theorem dL_law_1144 : decode cL_law 1144 = .ok (.iconst 0, 1) := by decide +kernel
theorem dL_law_1145 : decode cL_law 1145 = .ok (.ireturn, 1) := by decide +kernel
theorem dL_law_1146 : decode cL_law 1146 = .ok (.aload_n 1, 1) := by decide +kernel
theorem dL_law_1147 : decode cL_law 1147 = .ok (.aload_n 0, 1) := by decide +kernel
theorem dL_law_1148 : decode cL_law 1148 = .ok (.iload_n 3, 1) := by decide +kernel
theorem dL_law_1149 : decode cL_law 1149 = .ok (.iconst 1, 1) := by decide +kernel
theorem dL_law_1150 : decode cL_law 1150 = .ok (.iadd, 1) := by decide +kernel
theorem dL_law_1151 : decode cL_law 1151 = .ok (.iaload, 1) := by decide +kernel
theorem dL_law_1152 : decode cL_law 1152 = .ok (.invokevirtual 143, 3) := by decide +kernel
theorem dL_law_1155 : decode cL_law 1155 = .ok (.aload_n 2, 1) := by decide +kernel
theorem dL_law_1156 : decode cL_law 1156 = .ok (.aload_n 0, 1) := by decide +kernel
theorem dL_law_1157 : decode cL_law 1157 = .ok (.iload_n 3, 1) := by decide +kernel
theorem dL_law_1158 : decode cL_law 1158 = .ok (.iconst 1, 1) := by decide +kernel
theorem dL_law_1159 : decode cL_law 1159 = .ok (.iadd, 1) := by decide +kernel
theorem dL_law_1160 : decode cL_law 1160 = .ok (.iaload, 1) := by decide +kernel
theorem dL_law_1161 : decode cL_law 1161 = .ok (.invokevirtual 146, 3) := by decide +kernel
theorem dL_law_1164 : decode cL_law 1164 = .ok (.if_icmp .eq 150, 3) := by decide +kernel
theorem dL_law_1167 : decode cL_law 1167 = .ok (.iconst 0, 1) := by decide +kernel
theorem dL_law_1168 : decode cL_law 1168 = .ok (.ireturn, 1) := by decide +kernel
theorem dL_law_1169 : decode cL_law 1169 = .ok (.aload_n 1, 1) := by decide +kernel
theorem dL_law_1170 : decode cL_law 1170 = .ok (.aload_n 0, 1) := by decide +kernel
theorem dL_law_1171 : decode cL_law 1171 = .ok (.iload_n 3, 1) := by decide +kernel
theorem dL_law_1172 : decode cL_law 1172 = .ok (.iconst 1, 1) := by decide +kernel
theorem dL_law_1173 : decode cL_law 1173 = .ok (.iadd, 1) := by decide +kernel
theorem dL_law_1174 : decode cL_law 1174 = .ok (.iaload, 1) := by decide +kernel
theorem dL_law_1175 : decode cL_law 1175 = .ok (.invokevirtual 147, 3) := by decide +kernel
theorem dL_law_1178 : decode cL_law 1178 = .ok (.aload_n 2, 1) := by decide +kernel
theorem dL_law_1179 : decode cL_law 1179 = .ok (.aload_n 0, 1) := by decide +kernel
theorem dL_law_1180 : decode cL_law 1180 = .ok (.iload_n 3, 1) := by decide +kernel
theorem dL_law_1181 : decode cL_law 1181 = .ok (.iconst 1, 1) := by decide +kernel
theorem dL_law_1182 : decode cL_law 1182 = .ok (.iadd, 1) := by decide +kernel
theorem dL_law_1183 : decode cL_law 1183 = .ok (.iaload, 1) := by decide +kernel
theorem dL_law_1184 : decode cL_law 1184 = .ok (.invokevirtual 150, 3) := by decide +kernel
theorem dL_law_1187 : decode cL_law 1187 = .ok (.if_icmp .eq 127, 3) := by decide +kernel
theorem dL_law_1190 : decode cL_law 1190 = .ok (.iconst 0, 1) := by decide +kernel
theorem dL_law_1191 : decode cL_law 1191 = .ok (.ireturn, 1) := by decide +kernel
theorem dL_law_1192 : decode cL_law 1192 = .ok (.aload_n 1, 1) := by decide +kernel
theorem dL_law_1193 : decode cL_law 1193 = .ok (.invokevirtual 151, 3) := by decide +kernel
theorem dL_law_1196 : decode cL_law 1196 = .ok (.aload_n 2, 1) := by decide +kernel
theorem dL_law_1197 : decode cL_law 1197 = .ok (.invokevirtual 155, 3) := by decide +kernel
theorem dL_law_1200 : decode cL_law 1200 = .ok (.if_icmp .eq 114, 3) := by decide +kernel
theorem dL_law_1203 : decode cL_law 1203 = .ok (.iconst 0, 1) := by decide +kernel
theorem dL_law_1204 : decode cL_law 1204 = .ok (.ireturn, 1) := by decide +kernel
theorem dL_law_1205 : decode cL_law 1205 = .ok (.aload_n 1, 1) := by decide +kernel
theorem dL_law_1206 : decode cL_law 1206 = .ok (.aload_n 0, 1) := by decide +kernel
theorem dL_law_1207 : decode cL_law 1207 = .ok (.iload_n 3, 1) := by decide +kernel
theorem dL_law_1208 : decode cL_law 1208 = .ok (.iconst 1, 1) := by decide +kernel
theorem dL_law_1209 : decode cL_law 1209 = .ok (.iadd, 1) := by decide +kernel
theorem dL_law_1210 : decode cL_law 1210 = .ok (.iaload, 1) := by decide +kernel
theorem dL_law_1211 : decode cL_law 1211 = .ok (.invokevirtual 156, 3) := by decide +kernel
theorem dL_law_1214 : decode cL_law 1214 = .ok (.aload_n 2, 1) := by decide +kernel
theorem dL_law_1215 : decode cL_law 1215 = .ok (.aload_n 0, 1) := by decide +kernel
theorem dL_law_1216 : decode cL_law 1216 = .ok (.iload_n 3, 1) := by decide +kernel
theorem dL_law_1217 : decode cL_law 1217 = .ok (.iconst 1, 1) := by decide +kernel
theorem dL_law_1218 : decode cL_law 1218 = .ok (.iadd, 1) := by decide +kernel
theorem dL_law_1219 : decode cL_law 1219 = .ok (.iaload, 1) := by decide +kernel
theorem dL_law_1220 : decode cL_law 1220 = .ok (.invokevirtual 159, 3) := by decide +kernel
theorem dL_law_1223 : decode cL_law 1223 = .ok (.if_icmp .eq 91, 3) := by decide +kernel
theorem dL_law_1226 : decode cL_law 1226 = .ok (.iconst 0, 1) := by decide +kernel
theorem dL_law_1227 : decode cL_law 1227 = .ok (.ireturn, 1) := by decide +kernel
theorem dL_law_1228 : decode cL_law 1228 = .ok (.aload_n 1, 1) := by decide +kernel
theorem dL_law_1229 : decode cL_law 1229 = .ok (.invokevirtual 160, 3) := by decide +kernel
theorem dL_law_1232 : decode cL_law 1232 = .ok (.aload_n 2, 1) := by decide +kernel
theorem dL_law_1233 : decode cL_law 1233 = .ok (.invokevirtual 164, 3) := by decide +kernel
theorem dL_law_1236 : decode cL_law 1236 = .ok (.lcmp, 1) := by decide +kernel
theorem dL_law_1237 : decode cL_law 1237 = .ok (.ifCond .eq 77, 3) := by decide +kernel
theorem dL_law_1240 : decode cL_law 1240 = .ok (.iconst 0, 1) := by decide +kernel
theorem dL_law_1241 : decode cL_law 1241 = .ok (.ireturn, 1) := by decide +kernel
theorem dL_law_1242 : decode cL_law 1242 = .ok (.aload_n 1, 1) := by decide +kernel
theorem dL_law_1243 : decode cL_law 1243 = .ok (.invokevirtual 165, 3) := by decide +kernel
theorem dL_law_1246 : decode cL_law 1246 = .ok (.aload_n 2, 1) := by decide +kernel
theorem dL_law_1247 : decode cL_law 1247 = .ok (.invokevirtual 168, 3) := by decide +kernel
theorem dL_law_1250 : decode cL_law 1250 = .ok (.if_icmp .eq 64, 3) := by decide +kernel
theorem dL_law_1253 : decode cL_law 1253 = .ok (.iconst 0, 1) := by decide +kernel
theorem dL_law_1254 : decode cL_law 1254 = .ok (.ireturn, 1) := by decide +kernel
theorem dL_law_1255 : decode cL_law 1255 = .ok (.aload_n 1, 1) := by decide +kernel
theorem dL_law_1256 : decode cL_law 1256 = .ok (.aload_n 0, 1) := by decide +kernel
theorem dL_law_1257 : decode cL_law 1257 = .ok (.iload_n 3, 1) := by decide +kernel
theorem dL_law_1258 : decode cL_law 1258 = .ok (.iconst 1, 1) := by decide +kernel
theorem dL_law_1259 : decode cL_law 1259 = .ok (.iadd, 1) := by decide +kernel
theorem dL_law_1260 : decode cL_law 1260 = .ok (.iaload, 1) := by decide +kernel
theorem dL_law_1261 : decode cL_law 1261 = .ok (.invokevirtual 169, 3) := by decide +kernel
theorem dL_law_1264 : decode cL_law 1264 = .ok (.aload_n 2, 1) := by decide +kernel
theorem dL_law_1265 : decode cL_law 1265 = .ok (.aload_n 0, 1) := by decide +kernel
theorem dL_law_1266 : decode cL_law 1266 = .ok (.iload_n 3, 1) := by decide +kernel
theorem dL_law_1267 : decode cL_law 1267 = .ok (.iconst 1, 1) := by decide +kernel
theorem dL_law_1268 : decode cL_law 1268 = .ok (.iadd, 1) := by decide +kernel
theorem dL_law_1269 : decode cL_law 1269 = .ok (.iaload, 1) := by decide +kernel
theorem dL_law_1270 : decode cL_law 1270 = .ok (.invokevirtual 172, 3) := by decide +kernel
theorem dL_law_1273 : decode cL_law 1273 = .ok (.if_icmp .eq 41, 3) := by decide +kernel
theorem dL_law_1276 : decode cL_law 1276 = .ok (.iconst 0, 1) := by decide +kernel
theorem dL_law_1277 : decode cL_law 1277 = .ok (.ireturn, 1) := by decide +kernel
theorem dL_law_1278 : decode cL_law 1278 = .ok (.aload_n 1, 1) := by decide +kernel
theorem dL_law_1279 : decode cL_law 1279 = .ok (.invokevirtual 173, 3) := by decide +kernel
theorem dL_law_1282 : decode cL_law 1282 = .ok (.aload_n 2, 1) := by decide +kernel
theorem dL_law_1283 : decode cL_law 1283 = .ok (.invokevirtual 176, 3) := by decide +kernel
theorem dL_law_1286 : decode cL_law 1286 = .ok (.if_icmp .eq 28, 3) := by decide +kernel
theorem dL_law_1289 : decode cL_law 1289 = .ok (.iconst 0, 1) := by decide +kernel
theorem dL_law_1290 : decode cL_law 1290 = .ok (.ireturn, 1) := by decide +kernel
theorem dL_law_1291 : decode cL_law 1291 = .ok (.aload_n 1, 1) := by decide +kernel
theorem dL_law_1292 : decode cL_law 1292 = .ok (.aload_n 0, 1) := by decide +kernel
theorem dL_law_1293 : decode cL_law 1293 = .ok (.iload_n 3, 1) := by decide +kernel
theorem dL_law_1294 : decode cL_law 1294 = .ok (.iconst 1, 1) := by decide +kernel
theorem dL_law_1295 : decode cL_law 1295 = .ok (.iadd, 1) := by decide +kernel
theorem dL_law_1296 : decode cL_law 1296 = .ok (.iaload, 1) := by decide +kernel
theorem dL_law_1297 : decode cL_law 1297 = .ok (.invokevirtual 177, 3) := by decide +kernel
theorem dL_law_1300 : decode cL_law 1300 = .ok (.aload_n 2, 1) := by decide +kernel
theorem dL_law_1301 : decode cL_law 1301 = .ok (.aload_n 0, 1) := by decide +kernel
theorem dL_law_1302 : decode cL_law 1302 = .ok (.iload_n 3, 1) := by decide +kernel
theorem dL_law_1303 : decode cL_law 1303 = .ok (.iconst 1, 1) := by decide +kernel
theorem dL_law_1304 : decode cL_law 1304 = .ok (.iadd, 1) := by decide +kernel
theorem dL_law_1305 : decode cL_law 1305 = .ok (.iaload, 1) := by decide +kernel
theorem dL_law_1306 : decode cL_law 1306 = .ok (.invokevirtual 180, 3) := by decide +kernel
theorem dL_law_1309 : decode cL_law 1309 = .ok (.if_icmp .eq 5, 3) := by decide +kernel
theorem dL_law_1312 : decode cL_law 1312 = .ok (.iconst 0, 1) := by decide +kernel
theorem dL_law_1313 : decode cL_law 1313 = .ok (.ireturn, 1) := by decide +kernel
theorem dL_law_1314 : decode cL_law 1314 = .ok (.iinc 3 6, 3) := by decide +kernel
theorem dL_law_1317 : decode cL_law 1317 = .ok (.goto (-1299), 3) := by decide +kernel
theorem dL_law_1320 : decode cL_law 1320 = .ok (.iconst 1, 1) := by decide +kernel
theorem dL_law_1321 : decode cL_law 1321 = .ok (.ireturn, 1) := by decide +kernel

/-- what is known of the script -/
def lawS (κ : mX) (L : Nat) (xs : Nat → Int32) : Prop := match κ with
  | ((_, _, _, _, s), _, (_, _, sz, ext, _), _, _) => va_X (ext 400000) L xs s s.heap ∧ ext 400000 < s.heap.size ∧ sz = s.heap.size
/-- what the law's end is -/
def lawR (κ : mX) : Prop := match κ with
  | ((_, _, _, R, s), (_, args, below, meth, _), (_, _, sz, _, _), (n0, w0, mc, ms), Q) => ∃ b : Nat, R = room_1 ∧ args = #[Value.ref b] ∧ n0 = 0 ∧ w0 = 0 ∧ mc = 600000 ∧ ms = 7302250 ∧ sz = s.heap.size ∧ Q = lw_Z below #[Value.ref b] s ∧ meth.sig.returnType = ret ∧ meth.locks = false
abbrev o_sld (L : Nat) (xs : Nat → Int32) (K : mK) : mK := fun ls st S => match st with
  | .int i :: .ref r :: st => r = 1400000 ∧ vp_in i L ∧ K ls (.int (xs i.toNatClampNeg) :: st) S
  | _ => False
theorem m_sld {κ : mX} {cc : ByteArray} {own : String} {dep L : Nat} {xs : Nat → Int32} (C : mOk κ cc own dep) (hs : lawS κ L xs) {pc : Nat} {K : mK} (d : decode cc pc = .ok (.iaload, 1)) (h : mAt κ (pc + 1) K) : mAt κ pc (o_sld L xs K) := by
  obtain ⟨⟨p, l, e, R, s⟩, ⟨m, args, below, meth, c⟩, ⟨D, dA, sz, ext, adV⟩, ⟨n0, w0, mc, ms⟩, Q⟩ := κ
  intro ls st S hK H locs M hR hS hL hM hn
  unfold o_sld at hK
  split at hK
  · rename_i i r st
    obtain ⟨rfl, hin, hK⟩ := hK
    obtain ⟨hX, hb, hz⟩ := hs
    have had : mAd sz ext 1400000 = ext 400000 := by unfold mAd; rw [if_neg (by decide)]
    show W p l e R s m args below meth c H locs _ _ Q (F0 m pc M (Value.int i :: Value.ref (mAd sz ext 1400000) :: st.map (cv (mAd sz ext))))
    rw [had]
    exact va_sld C.1 C.2.1 hX hb (by rw [hz]; omega) hS hin d (h _ _ _ hK H locs M hR hS hL hM hn)
  · exact hK.elim
abbrev o_sal (L : Nat) (K : mK) : mK := fun ls st S => match st with
  | .ref r :: st => r = 1400000 ∧ K ls (.int (Int32.ofNat L) :: st) S
  | _ => False
theorem m_sal {κ : mX} {cc : ByteArray} {own : String} {dep L : Nat} {xs : Nat → Int32} (C : mOk κ cc own dep) (hs : lawS κ L xs) {pc : Nat} {K : mK} (d : decode cc pc = .ok (.arraylength, 1)) (h : mAt κ (pc + 1) K) : mAt κ pc (o_sal L K) := by
  obtain ⟨⟨p, l, e, R, s⟩, ⟨m, args, below, meth, c⟩, ⟨D, dA, sz, ext, adV⟩, ⟨n0, w0, mc, ms⟩, Q⟩ := κ
  intro ls st S hK H locs M hR hS hL hM hn
  unfold o_sal at hK
  split at hK
  · rename_i r st
    obtain ⟨rfl, hK⟩ := hK
    obtain ⟨hX, hb, hz⟩ := hs
    have had : mAd sz ext 1400000 = ext 400000 := by unfold mAd; rw [if_neg (by decide)]
    show W p l e R s m args below meth c H locs _ _ Q (F0 m pc M (Value.ref (mAd sz ext 1400000) :: st.map (cv (mAd sz ext))))
    rw [had]
    exact va_slen C.1 C.2.1 hX hb (by rw [hz]; omega) hS d (h _ _ _ hK H locs M hR hS hL hM hn)
  · exact hK.elim
theorem m_lawret {κ : mX} {own : String} {dep : Nat} (C : mOk κ cL_law own dep) (hr : lawR κ) {pc : Nat} (d : decode cL_law pc = .ok (.ireturn, 1)) : mAt κ pc (fun _ st _ => st = [.int 1]) := by
  obtain ⟨⟨p, l, e, R, s⟩, ⟨m, args, below, meth, c⟩, ⟨D, dA, sz, ext, adV⟩, ⟨n0, w0, mc, ms⟩, Q⟩ := κ
  intro ls st S hK H locs M hR hS hL hM hn
  obtain ⟨b, rfl, rfl, rfl, rfl, rfl, rfl, rfl, rfl, h1, h2⟩ := hr
  subst hK
  refine W.widen (k := 600000) (n := 7302250) (by omega) (by omega) ?_
  refine va_forget (fun q hq => hS.2.2 q hq) ?_
  exact lw_ret C.1 C.2.1 h1 h2 d
def claw_1314 (L : Nat) (xs : Nat → Int32) (v3 : Int32) (X18 : Int32 → sT → Prop) (s : sT) : Prop := X18 (v3 + (6 : Int32)) s
def claw_204 (L : Nat) (xs : Nat → Int32) (v3 : Int32) (X18 : Int32 → sT → Prop) (s : sT) : Prop := vp_in (v3 + (1 : Int32)) L ∧ (vp_in (v3 + (2 : Int32)) L ∧ (vp_in (v3 + (3 : Int32)) L ∧ (vp_in (v3 + (4 : Int32)) L ∧ (vp_in (v3 + (5 : Int32)) L ∧ (c11_feed (xs (v3 + (1 : Int32)).toNatClampNeg) (xs (v3 + (2 : Int32)).toNatClampNeg) (xs (v3 + (3 : Int32)).toNatClampNeg) (xs (v3 + (4 : Int32)).toNatClampNeg) (xs (v3 + (5 : Int32)).toNatClampNeg) (fun r_1 s_3 => vp_in (v3 + (1 : Int32)) L ∧ (vp_in (v3 + (2 : Int32)) L ∧ (vp_in (v3 + (3 : Int32)) L ∧ (vp_in (v3 + (4 : Int32)) L ∧ (vp_in (v3 + (5 : Int32)) L ∧ (c12_feed (xs (v3 + (1 : Int32)).toNatClampNeg) (xs (v3 + (2 : Int32)).toNatClampNeg) (xs (v3 + (3 : Int32)).toNatClampNeg) (xs (v3 + (4 : Int32)).toNatClampNeg) (xs (v3 + (5 : Int32)).toNatClampNeg) (fun r_4 s_6 => (r_1 = r_4 → claw_1314 L xs v3 X18 s_6) ∧ (¬ r_1 = r_4 → False)) s_3)))))) s)))))
def claw_267 (L : Nat) (xs : Nat → Int32) (v3 : Int32) (X18 : Int32 → sT → Prop) (s : sT) : Prop := vp_in (v3 + (1 : Int32)) L ∧ (c11_end (xs (v3 + (1 : Int32)).toNatClampNeg) (fun r_1 s_3 => vp_in (v3 + (1 : Int32)) L ∧ (c12_end (xs (v3 + (1 : Int32)).toNatClampNeg) (fun r_4 s_6 => (r_1 = r_4 → claw_1314 L xs v3 X18 s_6) ∧ (¬ r_1 = r_4 → False)) s_3)) s)
def claw_290 (L : Nat) (xs : Nat → Int32) (v3 : Int32) (X18 : Int32 → sT → Prop) (s : sT) : Prop := c11_office  (fun r_1 s_3 => c12_office  (fun r_4 s_6 => (r_1 = r_4 → claw_1314 L xs v3 X18 s_6) ∧ (¬ r_1 = r_4 → False)) s_3) s
def claw_303 (L : Nat) (xs : Nat → Int32) (v3 : Int32) (X18 : Int32 → sT → Prop) (s : sT) : Prop := vp_in (v3 + (1 : Int32)) L ∧ (c11_fault (xs (v3 + (1 : Int32)).toNatClampNeg) (fun r_1 s_3 => vp_in (v3 + (1 : Int32)) L ∧ (c12_fault (xs (v3 + (1 : Int32)).toNatClampNeg) (fun r_4 s_6 => (r_1 = r_4 → claw_1314 L xs v3 X18 s_6) ∧ (¬ r_1 = r_4 → False)) s_3)) s)
def claw_326 (L : Nat) (xs : Nat → Int32) (v3 : Int32) (X18 : Int32 → sT → Prop) (s : sT) : Prop := vp_in (v3 + (1 : Int32)) L ∧ (c11_has (xs (v3 + (1 : Int32)).toNatClampNeg) (fun r_1 s_3 => vp_in (v3 + (1 : Int32)) L ∧ (c12_has (xs (v3 + (1 : Int32)).toNatClampNeg) (fun r_4 s_6 => (r_1 = r_4 → claw_1314 L xs v3 X18 s_6) ∧ (¬ r_1 = r_4 → False)) s_3)) s)
def claw_349 (L : Nat) (xs : Nat → Int32) (v3 : Int32) (X18 : Int32 → sT → Prop) (s : sT) : Prop := vp_in (v3 + (1 : Int32)) L ∧ (vp_in (v3 + (2 : Int32)) L ∧ (c11_letter (xs (v3 + (1 : Int32)).toNatClampNeg) (xs (v3 + (2 : Int32)).toNatClampNeg) (fun r_1 s_3 => vp_in (v3 + (1 : Int32)) L ∧ (vp_in (v3 + (2 : Int32)) L ∧ (c12_letter (xs (v3 + (1 : Int32)).toNatClampNeg) (xs (v3 + (2 : Int32)).toNatClampNeg) (fun r_4 s_6 => (r_1 = r_4 → claw_1314 L xs v3 X18 s_6) ∧ (¬ r_1 = r_4 → False)) s_3))) s))
def claw_382 (L : Nat) (xs : Nat → Int32) (v3 : Int32) (X18 : Int32 → sT → Prop) (s : sT) : Prop := vp_in (v3 + (1 : Int32)) L ∧ (vp_in (v3 + (2 : Int32)) L ∧ (c11_person (xs (v3 + (1 : Int32)).toNatClampNeg) (xs (v3 + (2 : Int32)).toNatClampNeg) (fun r_1 s_3 => vp_in (v3 + (1 : Int32)) L ∧ (vp_in (v3 + (2 : Int32)) L ∧ (c12_person (xs (v3 + (1 : Int32)).toNatClampNeg) (xs (v3 + (2 : Int32)).toNatClampNeg) (fun r_4 s_6 => (r_1 = r_4 → claw_1314 L xs v3 X18 s_6) ∧ (¬ r_1 = r_4 → False)) s_3))) s))
def claw_415 (L : Nat) (xs : Nat → Int32) (v3 : Int32) (X18 : Int32 → sT → Prop) (s : sT) : Prop := vp_in (v3 + (1 : Int32)) L ∧ (c11_stock (xs (v3 + (1 : Int32)).toNatClampNeg) (fun r_1 s_3 => vp_in (v3 + (1 : Int32)) L ∧ (c12_stock (xs (v3 + (1 : Int32)).toNatClampNeg) (fun r_4 s_6 => (r_1 = r_4 → claw_1314 L xs v3 X18 s_6) ∧ (¬ r_1 = r_4 → False)) s_3)) s)
def claw_438 (L : Nat) (xs : Nat → Int32) (v3 : Int32) (X18 : Int32 → sT → Prop) (s : sT) : Prop := vp_in (v3 + (1 : Int32)) L ∧ (vp_in (v3 + (2 : Int32)) L ∧ (c11_kept (xs (v3 + (1 : Int32)).toNatClampNeg) (xs (v3 + (2 : Int32)).toNatClampNeg) (fun r_1 s_3 => vp_in (v3 + (1 : Int32)) L ∧ (vp_in (v3 + (2 : Int32)) L ∧ (c12_kept (xs (v3 + (1 : Int32)).toNatClampNeg) (xs (v3 + (2 : Int32)).toNatClampNeg) (fun r_4 s_6 => (r_1 = r_4 → claw_1314 L xs v3 X18 s_6) ∧ (¬ r_1 = r_4 → False)) s_3))) s))
def claw_471 (L : Nat) (xs : Nat → Int32) (v3 : Int32) (X18 : Int32 → sT → Prop) (s : sT) : Prop := vp_in (v3 + (1 : Int32)) L ∧ (vp_in (v3 + (2 : Int32)) L ∧ (c11_writings (xs (v3 + (1 : Int32)).toNatClampNeg) (xs (v3 + (2 : Int32)).toNatClampNeg) (fun r_1 s_3 => vp_in (v3 + (1 : Int32)) L ∧ (vp_in (v3 + (2 : Int32)) L ∧ (c12_writings (xs (v3 + (1 : Int32)).toNatClampNeg) (xs (v3 + (2 : Int32)).toNatClampNeg) (fun r_4 s_6 => (r_1 = r_4 → claw_1314 L xs v3 X18 s_6) ∧ (¬ r_1 = r_4 → False)) s_3))) s))
def claw_504 (L : Nat) (xs : Nat → Int32) (v3 : Int32) (X18 : Int32 → sT → Prop) (s : sT) : Prop := vp_in (v3 + (1 : Int32)) L ∧ (vp_in (v3 + (2 : Int32)) L ∧ (vp_in (v3 + (3 : Int32)) L ∧ (c11_writing (xs (v3 + (1 : Int32)).toNatClampNeg) (xs (v3 + (2 : Int32)).toNatClampNeg) (xs (v3 + (3 : Int32)).toNatClampNeg) (fun r_1 s_3 => vp_in (v3 + (1 : Int32)) L ∧ (vp_in (v3 + (2 : Int32)) L ∧ (vp_in (v3 + (3 : Int32)) L ∧ (c12_writing (xs (v3 + (1 : Int32)).toNatClampNeg) (xs (v3 + (2 : Int32)).toNatClampNeg) (xs (v3 + (3 : Int32)).toNatClampNeg) (fun r_4 s_6 => (r_1 = r_4 → claw_1314 L xs v3 X18 s_6) ∧ (¬ r_1 = r_4 → False)) s_3)))) s)))
def claw_547 (L : Nat) (xs : Nat → Int32) (v3 : Int32) (X18 : Int32 → sT → Prop) (s : sT) : Prop := vp_in (v3 + (1 : Int32)) L ∧ (vp_in (v3 + (2 : Int32)) L ∧ (c11_greedy (xs (v3 + (1 : Int32)).toNatClampNeg) (xs (v3 + (2 : Int32)).toNatClampNeg) (fun r_1 s_3 => vp_in (v3 + (1 : Int32)) L ∧ (vp_in (v3 + (2 : Int32)) L ∧ (c12_greedy (xs (v3 + (1 : Int32)).toNatClampNeg) (xs (v3 + (2 : Int32)).toNatClampNeg) (fun r_4 s_6 => (r_1 = r_4 → claw_1314 L xs v3 X18 s_6) ∧ (¬ r_1 = r_4 → False)) s_3))) s))
def claw_580 (L : Nat) (xs : Nat → Int32) (v3 : Int32) (X18 : Int32 → sT → Prop) (s : sT) : Prop := vp_in (v3 + (1 : Int32)) L ∧ (vp_in (v3 + (2 : Int32)) L ∧ (c11_shortest (xs (v3 + (1 : Int32)).toNatClampNeg) (xs (v3 + (2 : Int32)).toNatClampNeg) (fun r_1 s_3 => vp_in (v3 + (1 : Int32)) L ∧ (vp_in (v3 + (2 : Int32)) L ∧ (c12_shortest (xs (v3 + (1 : Int32)).toNatClampNeg) (xs (v3 + (2 : Int32)).toNatClampNeg) (fun r_4 s_6 => (r_1 = r_4 → claw_1314 L xs v3 X18 s_6) ∧ (¬ r_1 = r_4 → False)) s_3))) s))
def claw_613 (L : Nat) (xs : Nat → Int32) (v3 : Int32) (X18 : Int32 → sT → Prop) (s : sT) : Prop := vp_in (v3 + (1 : Int32)) L ∧ (vp_in (v3 + (2 : Int32)) L ∧ (vp_in (v3 + (3 : Int32)) L ∧ (c11_cheapest (xs (v3 + (1 : Int32)).toNatClampNeg) (xs (v3 + (2 : Int32)).toNatClampNeg) (xs (v3 + (3 : Int32)).toNatClampNeg) (fun r_1 s_3 => vp_in (v3 + (1 : Int32)) L ∧ (vp_in (v3 + (2 : Int32)) L ∧ (vp_in (v3 + (3 : Int32)) L ∧ (c12_cheapest (xs (v3 + (1 : Int32)).toNatClampNeg) (xs (v3 + (2 : Int32)).toNatClampNeg) (xs (v3 + (3 : Int32)).toNatClampNeg) (fun r_4 s_6 => (r_1 = r_4 → claw_1314 L xs v3 X18 s_6) ∧ (¬ r_1 = r_4 → False)) s_3)))) s)))
def claw_657 (L : Nat) (xs : Nat → Int32) (v3 : Int32) (X18 : Int32 → sT → Prop) (s : sT) : Prop := vp_in (v3 + (1 : Int32)) L ∧ (vp_in (v3 + (2 : Int32)) L ∧ (c11_makes (xs (v3 + (1 : Int32)).toNatClampNeg) (xs (v3 + (2 : Int32)).toNatClampNeg) (fun r_1 s_3 => vp_in (v3 + (1 : Int32)) L ∧ (vp_in (v3 + (2 : Int32)) L ∧ (c12_makes (xs (v3 + (1 : Int32)).toNatClampNeg) (xs (v3 + (2 : Int32)).toNatClampNeg) (fun r_4 s_6 => (r_1 = r_4 → claw_1314 L xs v3 X18 s_6) ∧ (¬ r_1 = r_4 → False)) s_3))) s))
def claw_691 (L : Nat) (xs : Nat → Int32) (v3 : Int32) (X18 : Int32 → sT → Prop) (s : sT) : Prop := vp_in (v3 + (1 : Int32)) L ∧ (vp_in (v3 + (2 : Int32)) L ∧ (vp_in (v3 + (3 : Int32)) L ∧ (c11_anew (xs (v3 + (1 : Int32)).toNatClampNeg) (xs (v3 + (2 : Int32)).toNatClampNeg) (xs (v3 + (3 : Int32)).toNatClampNeg) (fun r_1 s_3 => vp_in (v3 + (1 : Int32)) L ∧ (vp_in (v3 + (2 : Int32)) L ∧ (vp_in (v3 + (3 : Int32)) L ∧ (c12_anew (xs (v3 + (1 : Int32)).toNatClampNeg) (xs (v3 + (2 : Int32)).toNatClampNeg) (xs (v3 + (3 : Int32)).toNatClampNeg) (fun r_4 s_6 => (r_1 = r_4 → claw_1314 L xs v3 X18 s_6) ∧ (¬ r_1 = r_4 → False)) s_3)))) s)))
def claw_734 (L : Nat) (xs : Nat → Int32) (v3 : Int32) (X18 : Int32 → sT → Prop) (s : sT) : Prop := vp_in (v3 + (1 : Int32)) L ∧ (vp_in (v3 + (2 : Int32)) L ∧ (vp_in (v3 + (3 : Int32)) L ∧ (vp_in (v3 + (4 : Int32)) L ∧ (c11_mend (xs (v3 + (1 : Int32)).toNatClampNeg) (xs (v3 + (2 : Int32)).toNatClampNeg) (xs (v3 + (3 : Int32)).toNatClampNeg) (xs (v3 + (4 : Int32)).toNatClampNeg) (fun r_1 s_3 => vp_in (v3 + (1 : Int32)) L ∧ (vp_in (v3 + (2 : Int32)) L ∧ (vp_in (v3 + (3 : Int32)) L ∧ (vp_in (v3 + (4 : Int32)) L ∧ (c12_mend (xs (v3 + (1 : Int32)).toNatClampNeg) (xs (v3 + (2 : Int32)).toNatClampNeg) (xs (v3 + (3 : Int32)).toNatClampNeg) (xs (v3 + (4 : Int32)).toNatClampNeg) (fun r_4 s_6 => (r_1 = r_4 → claw_1314 L xs v3 X18 s_6) ∧ (¬ r_1 = r_4 → False)) s_3))))) s))))
def claw_787 (L : Nat) (xs : Nat → Int32) (v3 : Int32) (X18 : Int32 → sT → Prop) (s : sT) : Prop := vp_in (v3 + (1 : Int32)) L ∧ (vp_in (v3 + (2 : Int32)) L ∧ (vp_in (v3 + (3 : Int32)) L ∧ (vp_in (v3 + (4 : Int32)) L ∧ (c11_fills (xs (v3 + (1 : Int32)).toNatClampNeg) (xs (v3 + (2 : Int32)).toNatClampNeg) (xs (v3 + (3 : Int32)).toNatClampNeg) (xs (v3 + (4 : Int32)).toNatClampNeg) (fun r_1 s_3 => vp_in (v3 + (1 : Int32)) L ∧ (vp_in (v3 + (2 : Int32)) L ∧ (vp_in (v3 + (3 : Int32)) L ∧ (vp_in (v3 + (4 : Int32)) L ∧ (c12_fills (xs (v3 + (1 : Int32)).toNatClampNeg) (xs (v3 + (2 : Int32)).toNatClampNeg) (xs (v3 + (3 : Int32)).toNatClampNeg) (xs (v3 + (4 : Int32)).toNatClampNeg) (fun r_4 s_6 => (r_1 = r_4 → claw_1314 L xs v3 X18 s_6) ∧ (¬ r_1 = r_4 → False)) s_3))))) s))))
def claw_840 (L : Nat) (xs : Nat → Int32) (v3 : Int32) (X18 : Int32 → sT → Prop) (s : sT) : Prop := vp_in (v3 + (1 : Int32)) L ∧ (vp_in (v3 + (2 : Int32)) L ∧ (c11_later (xs (v3 + (1 : Int32)).toNatClampNeg) (xs (v3 + (2 : Int32)).toNatClampNeg) (fun r_1 s_3 => vp_in (v3 + (1 : Int32)) L ∧ (vp_in (v3 + (2 : Int32)) L ∧ (c12_later (xs (v3 + (1 : Int32)).toNatClampNeg) (xs (v3 + (2 : Int32)).toNatClampNeg) (fun r_4 s_6 => (r_1 = r_4 → claw_1314 L xs v3 X18 s_6) ∧ (¬ r_1 = r_4 → False)) s_3))) s))
def claw_873 (L : Nat) (xs : Nat → Int32) (v3 : Int32) (X18 : Int32 → sT → Prop) (s : sT) : Prop := vp_in (v3 + (1 : Int32)) L ∧ (c11_served (xs (v3 + (1 : Int32)).toNatClampNeg) (fun r_1 s_3 => vp_in (v3 + (1 : Int32)) L ∧ (c12_served (xs (v3 + (1 : Int32)).toNatClampNeg) (fun r_4 s_6 => (r_1 = r_4 → claw_1314 L xs v3 X18 s_6) ∧ (¬ r_1 = r_4 → False)) s_3)) s)
def claw_896 (L : Nat) (xs : Nat → Int32) (v3 : Int32) (X18 : Int32 → sT → Prop) (s : sT) : Prop := vp_in (v3 + (1 : Int32)) L ∧ (vp_in (v3 + (2 : Int32)) L ∧ (c11_left (xs (v3 + (1 : Int32)).toNatClampNeg) (xs (v3 + (2 : Int32)).toNatClampNeg) (fun r_1 s_3 => vp_in (v3 + (1 : Int32)) L ∧ (vp_in (v3 + (2 : Int32)) L ∧ (c12_left (xs (v3 + (1 : Int32)).toNatClampNeg) (xs (v3 + (2 : Int32)).toNatClampNeg) (fun r_4 s_6 => (r_1 = r_4 → claw_1314 L xs v3 X18 s_6) ∧ (¬ r_1 = r_4 → False)) s_3))) s))
def claw_929 (L : Nat) (xs : Nat → Int32) (v3 : Int32) (X18 : Int32 → sT → Prop) (s : sT) : Prop := vp_in (v3 + (1 : Int32)) L ∧ (c11_cuts (xs (v3 + (1 : Int32)).toNatClampNeg) (fun r_1 s_3 => vp_in (v3 + (1 : Int32)) L ∧ (c12_cuts (xs (v3 + (1 : Int32)).toNatClampNeg) (fun r_4 s_6 => (r_1 = r_4 → claw_1314 L xs v3 X18 s_6) ∧ (¬ r_1 = r_4 → False)) s_3)) s)
def claw_952 (L : Nat) (xs : Nat → Int32) (v3 : Int32) (X18 : Int32 → sT → Prop) (s : sT) : Prop := vp_in (v3 + (1 : Int32)) L ∧ (c11_feast (xs (v3 + (1 : Int32)).toNatClampNeg) (fun r_1 s_3 => vp_in (v3 + (1 : Int32)) L ∧ (c12_feast (xs (v3 + (1 : Int32)).toNatClampNeg) (fun r_4 s_6 => (r_1 = r_4 → claw_1314 L xs v3 X18 s_6) ∧ (¬ r_1 = r_4 → False)) s_3)) s)
def claw_975 (L : Nat) (xs : Nat → Int32) (v3 : Int32) (X18 : Int32 → sT → Prop) (s : sT) : Prop := vp_in (v3 + (1 : Int32)) L ∧ (c11_odds (xs (v3 + (1 : Int32)).toNatClampNeg) (fun r_1 s_3 => vp_in (v3 + (1 : Int32)) L ∧ (c12_odds (xs (v3 + (1 : Int32)).toNatClampNeg) (fun r_4 s_6 => (r_1 = r_4 → claw_1314 L xs v3 X18 s_6) ∧ (¬ r_1 = r_4 → False)) s_3)) s)
def claw_998 (L : Nat) (xs : Nat → Int32) (v3 : Int32) (X18 : Int32 → sT → Prop) (s : sT) : Prop := c11_see  (fun r_1 s_3 => c12_see  (fun r_4 s_6 => (r_1 = r_4 → claw_1314 L xs v3 X18 s_6) ∧ (¬ r_1 = r_4 → False)) s_3) s
def claw_1011 (L : Nat) (xs : Nat → Int32) (v3 : Int32) (X18 : Int32 → sT → Prop) (s : sT) : Prop := vp_in (v3 + (1 : Int32)) L ∧ (c11_stocks (xs (v3 + (1 : Int32)).toNatClampNeg) (fun r_1 s_3 => vp_in (v3 + (1 : Int32)) L ∧ (c12_stocks (xs (v3 + (1 : Int32)).toNatClampNeg) (fun r_4 s_6 => (r_1 = r_4 → claw_1314 L xs v3 X18 s_6) ∧ (¬ r_1 = r_4 → False)) s_3)) s)
def claw_1034 (L : Nat) (xs : Nat → Int32) (v3 : Int32) (X18 : Int32 → sT → Prop) (s : sT) : Prop := vp_in (v3 + (1 : Int32)) L ∧ (vp_in (v3 + (2 : Int32)) L ∧ (c11_tells (xs (v3 + (1 : Int32)).toNatClampNeg) (xs (v3 + (2 : Int32)).toNatClampNeg) (fun r_1 s_3 => vp_in (v3 + (1 : Int32)) L ∧ (vp_in (v3 + (2 : Int32)) L ∧ (c12_tells (xs (v3 + (1 : Int32)).toNatClampNeg) (xs (v3 + (2 : Int32)).toNatClampNeg) (fun r_4 s_6 => (r_1 = r_4 → claw_1314 L xs v3 X18 s_6) ∧ (¬ r_1 = r_4 → False)) s_3))) s))
def claw_1067 (L : Nat) (xs : Nat → Int32) (v3 : Int32) (X18 : Int32 → sT → Prop) (s : sT) : Prop := vp_in (v3 + (1 : Int32)) L ∧ (c11_cut (xs (v3 + (1 : Int32)).toNatClampNeg) (fun r_1 s_3 => vp_in (v3 + (1 : Int32)) L ∧ (c12_cut (xs (v3 + (1 : Int32)).toNatClampNeg) (fun r_4 s_6 => (r_1 = r_4 → claw_1314 L xs v3 X18 s_6) ∧ (¬ r_1 = r_4 → False)) s_3)) s)
def claw_1090 (L : Nat) (xs : Nat → Int32) (v3 : Int32) (X18 : Int32 → sT → Prop) (s : sT) : Prop := vp_in (v3 + (1 : Int32)) L ∧ (c11_bake (xs (v3 + (1 : Int32)).toNatClampNeg) (fun r_1 s_3 => vp_in (v3 + (1 : Int32)) L ∧ (c12_bake (xs (v3 + (1 : Int32)).toNatClampNeg) (fun r_4 s_6 => (r_1 = r_4 → claw_1314 L xs v3 X18 s_6) ∧ (¬ r_1 = r_4 → False)) s_3)) s)
def claw_1113 (L : Nat) (xs : Nat → Int32) (v3 : Int32) (X18 : Int32 → sT → Prop) (s : sT) : Prop := vp_in (v3 + (1 : Int32)) L ∧ (vp_in (v3 + (2 : Int32)) L ∧ (c11_serve (xs (v3 + (1 : Int32)).toNatClampNeg) (xs (v3 + (2 : Int32)).toNatClampNeg) (fun r_1 s_3 => vp_in (v3 + (1 : Int32)) L ∧ (vp_in (v3 + (2 : Int32)) L ∧ (c12_serve (xs (v3 + (1 : Int32)).toNatClampNeg) (xs (v3 + (2 : Int32)).toNatClampNeg) (fun r_4 s_6 => (r_1 = r_4 → claw_1314 L xs v3 X18 s_6) ∧ (¬ r_1 = r_4 → False)) s_3))) s))
def claw_1146 (L : Nat) (xs : Nat → Int32) (v3 : Int32) (X18 : Int32 → sT → Prop) (s : sT) : Prop := vp_in (v3 + (1 : Int32)) L ∧ (c11_days (xs (v3 + (1 : Int32)).toNatClampNeg) (fun r_1 s_3 => vp_in (v3 + (1 : Int32)) L ∧ (c12_days (xs (v3 + (1 : Int32)).toNatClampNeg) (fun r_4 s_6 => (r_1 = r_4 → claw_1314 L xs v3 X18 s_6) ∧ (¬ r_1 = r_4 → False)) s_3)) s)
def claw_1169 (L : Nat) (xs : Nat → Int32) (v3 : Int32) (X18 : Int32 → sT → Prop) (s : sT) : Prop := vp_in (v3 + (1 : Int32)) L ∧ (c11_chance (xs (v3 + (1 : Int32)).toNatClampNeg) (fun r_1 s_3 => vp_in (v3 + (1 : Int32)) L ∧ (c12_chance (xs (v3 + (1 : Int32)).toNatClampNeg) (fun r_4 s_6 => (r_1 = r_4 → claw_1314 L xs v3 X18 s_6) ∧ (¬ r_1 = r_4 → False)) s_3)) s)
def claw_1192 (L : Nat) (xs : Nat → Int32) (v3 : Int32) (X18 : Int32 → sT → Prop) (s : sT) : Prop := c11_undo  (fun r_1 s_3 => c12_undo  (fun r_4 s_6 => (r_1 = r_4 → claw_1314 L xs v3 X18 s_6) ∧ (¬ r_1 = r_4 → False)) s_3) s
def claw_1205 (L : Nat) (xs : Nat → Int32) (v3 : Int32) (X18 : Int32 → sT → Prop) (s : sT) : Prop := vp_in (v3 + (1 : Int32)) L ∧ (c11_seed (xs (v3 + (1 : Int32)).toNatClampNeg) (fun r_1 s_3 => vp_in (v3 + (1 : Int32)) L ∧ (c12_seed (xs (v3 + (1 : Int32)).toNatClampNeg) (fun r_4 s_6 => (r_1 = r_4 → claw_1314 L xs v3 X18 s_6) ∧ (¬ r_1 = r_4 → False)) s_3)) s)
def claw_1228 (L : Nat) (xs : Nat → Int32) (v3 : Int32) (X18 : Int32 → sT → Prop) (s : sT) : Prop := c11_ask  (fun r_1 s_3 => c12_ask  (fun r_4 s_6 => (r_1 = r_4 → claw_1314 L xs v3 X18 s_6) ∧ (¬ r_1 = r_4 → False)) s_3) s
def claw_1242 (L : Nat) (xs : Nat → Int32) (v3 : Int32) (X18 : Int32 → sT → Prop) (s : sT) : Prop := c11_image  (fun r_1 s_3 => c12_image  (fun r_4 s_6 => (r_1 = r_4 → claw_1314 L xs v3 X18 s_6) ∧ (¬ r_1 = r_4 → False)) s_3) s
def claw_1255 (L : Nat) (xs : Nat → Int32) (v3 : Int32) (X18 : Int32 → sT → Prop) (s : sT) : Prop := vp_in (v3 + (1 : Int32)) L ∧ (c11_octet (xs (v3 + (1 : Int32)).toNatClampNeg) (fun r_1 s_3 => vp_in (v3 + (1 : Int32)) L ∧ (c12_octet (xs (v3 + (1 : Int32)).toNatClampNeg) (fun r_4 s_6 => (r_1 = r_4 → claw_1314 L xs v3 X18 s_6) ∧ (¬ r_1 = r_4 → False)) s_3)) s)
def claw_1278 (L : Nat) (xs : Nat → Int32) (v3 : Int32) (X18 : Int32 → sT → Prop) (s : sT) : Prop := c11_on  (fun r_1 s_3 => c12_on  (fun r_4 s_6 => (r_1 = r_4 → claw_1314 L xs v3 X18 s_6) ∧ (¬ r_1 = r_4 → False)) s_3) s
def claw_1291 (L : Nat) (xs : Nat → Int32) (v3 : Int32) (X18 : Int32 → sT → Prop) (s : sT) : Prop := vp_in (v3 + (1 : Int32)) L ∧ (c11_status (xs (v3 + (1 : Int32)).toNatClampNeg) (fun r_1 s_3 => vp_in (v3 + (1 : Int32)) L ∧ (c12_status (xs (v3 + (1 : Int32)).toNatClampNeg) (fun r_4 s_6 => (r_1 = r_4 → claw_1314 L xs v3 X18 s_6) ∧ (¬ r_1 = r_4 → False)) s_3)) s)
def claw_18b (L : Nat) (xs : Nat → Int32) (v3 : Int32) (X18 : Int32 → sT → Prop) (s : sT) : Prop := (((Int32.ofNat L) - (6 : Int32)) < v3 → True) ∧ (¬ ((Int32.ofNat L) - (6 : Int32)) < v3 → vp_in v3 L ∧ ((((xs v3.toNatClampNeg) &&& (63 : Int32)) = (0 : Int32) → claw_204 L xs v3 X18 s) ∧ (¬ ((xs v3.toNatClampNeg) &&& (63 : Int32)) = (0 : Int32) → (((xs v3.toNatClampNeg) &&& (63 : Int32)) = (1 : Int32) → claw_267 L xs v3 X18 s) ∧ (¬ ((xs v3.toNatClampNeg) &&& (63 : Int32)) = (1 : Int32) → (((xs v3.toNatClampNeg) &&& (63 : Int32)) = (2 : Int32) → claw_290 L xs v3 X18 s) ∧ (¬ ((xs v3.toNatClampNeg) &&& (63 : Int32)) = (2 : Int32) → (((xs v3.toNatClampNeg) &&& (63 : Int32)) = (3 : Int32) → claw_303 L xs v3 X18 s) ∧ (¬ ((xs v3.toNatClampNeg) &&& (63 : Int32)) = (3 : Int32) → (((xs v3.toNatClampNeg) &&& (63 : Int32)) = (4 : Int32) → claw_326 L xs v3 X18 s) ∧ (¬ ((xs v3.toNatClampNeg) &&& (63 : Int32)) = (4 : Int32) → (((xs v3.toNatClampNeg) &&& (63 : Int32)) = (5 : Int32) → claw_349 L xs v3 X18 s) ∧ (¬ ((xs v3.toNatClampNeg) &&& (63 : Int32)) = (5 : Int32) → (((xs v3.toNatClampNeg) &&& (63 : Int32)) = (6 : Int32) → claw_382 L xs v3 X18 s) ∧ (¬ ((xs v3.toNatClampNeg) &&& (63 : Int32)) = (6 : Int32) → (((xs v3.toNatClampNeg) &&& (63 : Int32)) = (7 : Int32) → claw_415 L xs v3 X18 s) ∧ (¬ ((xs v3.toNatClampNeg) &&& (63 : Int32)) = (7 : Int32) → (((xs v3.toNatClampNeg) &&& (63 : Int32)) = (8 : Int32) → claw_438 L xs v3 X18 s) ∧ (¬ ((xs v3.toNatClampNeg) &&& (63 : Int32)) = (8 : Int32) → (((xs v3.toNatClampNeg) &&& (63 : Int32)) = (9 : Int32) → claw_471 L xs v3 X18 s) ∧ (¬ ((xs v3.toNatClampNeg) &&& (63 : Int32)) = (9 : Int32) → (((xs v3.toNatClampNeg) &&& (63 : Int32)) = (10 : Int32) → claw_504 L xs v3 X18 s) ∧ (¬ ((xs v3.toNatClampNeg) &&& (63 : Int32)) = (10 : Int32) → (((xs v3.toNatClampNeg) &&& (63 : Int32)) = (11 : Int32) → claw_547 L xs v3 X18 s) ∧ (¬ ((xs v3.toNatClampNeg) &&& (63 : Int32)) = (11 : Int32) → (((xs v3.toNatClampNeg) &&& (63 : Int32)) = (12 : Int32) → claw_580 L xs v3 X18 s) ∧ (¬ ((xs v3.toNatClampNeg) &&& (63 : Int32)) = (12 : Int32) → (((xs v3.toNatClampNeg) &&& (63 : Int32)) = (13 : Int32) → claw_613 L xs v3 X18 s) ∧ (¬ ((xs v3.toNatClampNeg) &&& (63 : Int32)) = (13 : Int32) → (((xs v3.toNatClampNeg) &&& (63 : Int32)) = (14 : Int32) → claw_657 L xs v3 X18 s) ∧ (¬ ((xs v3.toNatClampNeg) &&& (63 : Int32)) = (14 : Int32) → (((xs v3.toNatClampNeg) &&& (63 : Int32)) = (15 : Int32) → claw_691 L xs v3 X18 s) ∧ (¬ ((xs v3.toNatClampNeg) &&& (63 : Int32)) = (15 : Int32) → (((xs v3.toNatClampNeg) &&& (63 : Int32)) = (16 : Int32) → claw_734 L xs v3 X18 s) ∧ (¬ ((xs v3.toNatClampNeg) &&& (63 : Int32)) = (16 : Int32) → (((xs v3.toNatClampNeg) &&& (63 : Int32)) = (17 : Int32) → claw_787 L xs v3 X18 s) ∧ (¬ ((xs v3.toNatClampNeg) &&& (63 : Int32)) = (17 : Int32) → (((xs v3.toNatClampNeg) &&& (63 : Int32)) = (18 : Int32) → claw_840 L xs v3 X18 s) ∧ (¬ ((xs v3.toNatClampNeg) &&& (63 : Int32)) = (18 : Int32) → (((xs v3.toNatClampNeg) &&& (63 : Int32)) = (19 : Int32) → claw_873 L xs v3 X18 s) ∧ (¬ ((xs v3.toNatClampNeg) &&& (63 : Int32)) = (19 : Int32) → (((xs v3.toNatClampNeg) &&& (63 : Int32)) = (20 : Int32) → claw_896 L xs v3 X18 s) ∧ (¬ ((xs v3.toNatClampNeg) &&& (63 : Int32)) = (20 : Int32) → (((xs v3.toNatClampNeg) &&& (63 : Int32)) = (21 : Int32) → claw_929 L xs v3 X18 s) ∧ (¬ ((xs v3.toNatClampNeg) &&& (63 : Int32)) = (21 : Int32) → (((xs v3.toNatClampNeg) &&& (63 : Int32)) = (22 : Int32) → claw_952 L xs v3 X18 s) ∧ (¬ ((xs v3.toNatClampNeg) &&& (63 : Int32)) = (22 : Int32) → (((xs v3.toNatClampNeg) &&& (63 : Int32)) = (23 : Int32) → claw_975 L xs v3 X18 s) ∧ (¬ ((xs v3.toNatClampNeg) &&& (63 : Int32)) = (23 : Int32) → (((xs v3.toNatClampNeg) &&& (63 : Int32)) = (24 : Int32) → claw_998 L xs v3 X18 s) ∧ (¬ ((xs v3.toNatClampNeg) &&& (63 : Int32)) = (24 : Int32) → (((xs v3.toNatClampNeg) &&& (63 : Int32)) = (25 : Int32) → claw_1011 L xs v3 X18 s) ∧ (¬ ((xs v3.toNatClampNeg) &&& (63 : Int32)) = (25 : Int32) → (((xs v3.toNatClampNeg) &&& (63 : Int32)) = (26 : Int32) → claw_1034 L xs v3 X18 s) ∧ (¬ ((xs v3.toNatClampNeg) &&& (63 : Int32)) = (26 : Int32) → (((xs v3.toNatClampNeg) &&& (63 : Int32)) = (27 : Int32) → claw_1067 L xs v3 X18 s) ∧ (¬ ((xs v3.toNatClampNeg) &&& (63 : Int32)) = (27 : Int32) → (((xs v3.toNatClampNeg) &&& (63 : Int32)) = (28 : Int32) → claw_1090 L xs v3 X18 s) ∧ (¬ ((xs v3.toNatClampNeg) &&& (63 : Int32)) = (28 : Int32) → (((xs v3.toNatClampNeg) &&& (63 : Int32)) = (29 : Int32) → claw_1113 L xs v3 X18 s) ∧ (¬ ((xs v3.toNatClampNeg) &&& (63 : Int32)) = (29 : Int32) → (((xs v3.toNatClampNeg) &&& (63 : Int32)) = (30 : Int32) → claw_1146 L xs v3 X18 s) ∧ (¬ ((xs v3.toNatClampNeg) &&& (63 : Int32)) = (30 : Int32) → (((xs v3.toNatClampNeg) &&& (63 : Int32)) = (31 : Int32) → claw_1169 L xs v3 X18 s) ∧ (¬ ((xs v3.toNatClampNeg) &&& (63 : Int32)) = (31 : Int32) → (((xs v3.toNatClampNeg) &&& (63 : Int32)) = (32 : Int32) → claw_1192 L xs v3 X18 s) ∧ (¬ ((xs v3.toNatClampNeg) &&& (63 : Int32)) = (32 : Int32) → (((xs v3.toNatClampNeg) &&& (63 : Int32)) = (33 : Int32) → claw_1205 L xs v3 X18 s) ∧ (¬ ((xs v3.toNatClampNeg) &&& (63 : Int32)) = (33 : Int32) → (((xs v3.toNatClampNeg) &&& (63 : Int32)) = (34 : Int32) → claw_1228 L xs v3 X18 s) ∧ (¬ ((xs v3.toNatClampNeg) &&& (63 : Int32)) = (34 : Int32) → (((xs v3.toNatClampNeg) &&& (63 : Int32)) = (35 : Int32) → claw_1242 L xs v3 X18 s) ∧ (¬ ((xs v3.toNatClampNeg) &&& (63 : Int32)) = (35 : Int32) → (((xs v3.toNatClampNeg) &&& (63 : Int32)) = (36 : Int32) → claw_1255 L xs v3 X18 s) ∧ (¬ ((xs v3.toNatClampNeg) &&& (63 : Int32)) = (36 : Int32) → (((xs v3.toNatClampNeg) &&& (63 : Int32)) = (37 : Int32) → claw_1278 L xs v3 X18 s) ∧ (¬ ((xs v3.toNatClampNeg) &&& (63 : Int32)) = (37 : Int32) → (((xs v3.toNatClampNeg) &&& (63 : Int32)) = (38 : Int32) → claw_1291 L xs v3 X18 s) ∧ (¬ ((xs v3.toNatClampNeg) &&& (63 : Int32)) = (38 : Int32) → claw_1314 L xs v3 X18 s)))))))))))))))))))))))))))))))))))))))))
def claw_18 (L : Nat) (xs : Nat → Int32) (v3 : Int32) (s : sT) : Prop := ∀ X18 : Int32 → sT → Prop, (∀ v3 s, claw_18b L xs v3 X18 s → X18 v3 s) → X18 v3 s
theorem llaw_18_X {X18 : Int32 → sT → Prop} {v3 : Int32} {s : sT} {ls : mL} {st : List Value} (h : X18 v3 s) (h1 : lsub [some (.ref 1400000), some (.ref 0), some (.ref 162), some (.int v3)] ls) (h2 : st = []) : lf (V := Int32) (fun v => ([some (.ref 1400000), some (.ref 0), some (.ref 162), some (.int v)], [])) (fun v s => X18 v s) ls st (mk s) := lf_in (v := v3) h1 h2 h
theorem llaw_1314 {L : Nat} {xs : Nat → Int32} {X18 : Int32 → sT → Prop} {v3 : Int32} {s : sT} {ls : mL} {st : List Value} (h : claw_1314 L xs v3 X18 s) (h1 : lsub [some (.ref 1400000), some (.ref 0), some (.ref 162), some (.int v3)] ls) (h2 : st = []) : lf (V := Int32) (fun v => ([some (.ref 1400000), some (.ref 0), some (.ref 162), some (.int v)], [])) (fun v s => claw_1314 L xs v X18 s) ls st (mk s) := lf_in (v := v3) h1 h2 h
set_option maxRecDepth 100000 in
set_option maxHeartbeats 4000000 in
theorem blaw_1314 {κ : mX} {L : Nat} {xs : Nat → Int32} {X18 : Int32 → sT → Prop} (C : mOk κ cL_law RL 200) (hs : lawS κ L xs) (hr : lawR κ) (hX18 : mAt κ 18 (lf (V := Int32) (fun v => ([some (.ref 1400000), some (.ref 0), some (.ref 162), some (.int v)], [])) (fun v s => X18 v s))) : mAt κ 1314 (lf (V := Int32) (fun v => ([some (.ref 1400000), some (.ref 0), some (.ref 162), some (.int v)], [])) (fun v s => claw_1314 L xs v X18 s)) := m_lf (m_iinc C dL_law_1314 ki_6 (m_goto C dL_law_1317 (by decide) hX18)) (fun v s h => by unfold claw_1314 at h; exact (llaw_18_X (X18 := X18) h (by exact (And.intro rfl (And.intro rfl (And.intro rfl (And.intro rfl rfl))))) (by exact rfl)))
theorem llaw_204 {L : Nat} {xs : Nat → Int32} {X18 : Int32 → sT → Prop} {v3 : Int32} {s : sT} {ls : mL} {st : List Value} (h : claw_204 L xs v3 X18 s) (h1 : lsub [some (.ref 1400000), some (.ref 0), some (.ref 162), some (.int v3)] ls) (h2 : st = []) : lf (V := Int32) (fun v => ([some (.ref 1400000), some (.ref 0), some (.ref 162), some (.int v)], [])) (fun v s => claw_204 L xs v X18 s) ls st (mk s) := lf_in (v := v3) h1 h2 h
set_option maxRecDepth 100000 in
set_option maxHeartbeats 4000000 in
theorem blaw_204 {κ : mX} {L : Nat} {xs : Nat → Int32} {X18 : Int32 → sT → Prop} (C : mOk κ cL_law RL 200) (hs : lawS κ L xs) (hr : lawR κ) (hX18 : mAt κ 18 (lf (V := Int32) (fun v => ([some (.ref 1400000), some (.ref 0), some (.ref 162), some (.int v)], [])) (fun v s => X18 v s))) : mAt κ 204 (lf (V := Int32) (fun v => ([some (.ref 1400000), some (.ref 0), some (.ref 162), some (.int v)], [])) (fun v s => claw_204 L xs v X18 s)) := m_lf (m_aload_n C dL_law_204 (m_aload_n C dL_law_205 (m_iload_n C dL_law_206 (m_iconst C dL_law_207 ki_1 (m_iadd C dL_law_208 (m_sld C hs dL_law_209 (m_aload_n C dL_law_210 (m_iload_n C dL_law_211 (m_iconst C dL_law_212 ki_2 (m_iadd C dL_law_213 (m_sld C hs dL_law_214 (m_aload_n C dL_law_215 (m_iload_n C dL_law_216 (m_iconst C dL_law_217 ki_3 (m_iadd C dL_law_218 (m_sld C hs dL_law_219 (m_aload_n C dL_law_220 (m_iload_n C dL_law_221 (m_iconst C dL_law_222 ki_4 (m_iadd C dL_law_223 (m_sld C hs dL_law_224 (m_aload_n C dL_law_225 (m_iload_n C dL_law_226 (m_iconst C dL_law_227 ki_5 (m_iadd C dL_law_228 (m_sld C hs dL_law_229 (m_callV C dL_law_230 M11_feed (by decide) mc_11 cw_L_13 wt_435 wt_436 (m_aload_n C dL_law_233 (m_aload_n C dL_law_234 (m_iload_n C dL_law_235 (m_iconst C dL_law_236 ki_1 (m_iadd C dL_law_237 (m_sld C hs dL_law_238 (m_aload_n C dL_law_239 (m_iload_n C dL_law_240 (m_iconst C dL_law_241 ki_2 (m_iadd C dL_law_242 (m_sld C hs dL_law_243 (m_aload_n C dL_law_244 (m_iload_n C dL_law_245 (m_iconst C dL_law_246 ki_3 (m_iadd C dL_law_247 (m_sld C hs dL_law_248 (m_aload_n C dL_law_249 (m_iload_n C dL_law_250 (m_iconst C dL_law_251 ki_4 (m_iadd C dL_law_252 (m_sld C hs dL_law_253 (m_aload_n C dL_law_254 (m_iload_n C dL_law_255 (m_iconst C dL_law_256 ki_5 (m_iadd C dL_law_257 (m_sld C hs dL_law_258 (m_callV C dL_law_259 M12_feed (by decide) mc_12 cw_L_17 wt_1602 wt_1603 (m_icmp_eq C dL_law_262 (by decide) (blaw_1314 C hs hr hX18) (m_iconst C dL_law_265 ki_0 (m_lawret C hr dL_law_266))))))))))))))))))))))))))))))))))))))))))))))))))))))))) (fun v s h => by unfold claw_204 at h; exact (And.intro rfl (And.intro h.1 (And.intro rfl (And.intro h.2.1 (And.intro rfl (And.intro h.2.2.1 (And.intro rfl (And.intro h.2.2.2.1 (And.intro rfl (And.intro h.2.2.2.2.1 (I11_feed h.2.2.2.2.2 (by exact rfl) (fun _ s_3 h_2 => (And.intro rfl (And.intro h_2.1 (And.intro rfl (And.intro h_2.2.1 (And.intro rfl (And.intro h_2.2.2.1 (And.intro rfl (And.intro h_2.2.2.2.1 (And.intro rfl (And.intro h_2.2.2.2.2.1 (I12_feed h_2.2.2.2.2.2 (by exact rfl) (fun _ s_6 h_5 => (And.intro (fun q_7 => (llaw_1314 (h_5.1 q_7) (by exact (And.intro rfl (And.intro rfl (And.intro rfl (And.intro rfl rfl))))) (by exact rfl))) (fun q_7 => (False.elim (h_5.2 q_7)))))))))))))))))))))))))))))
theorem llaw_267 {L : Nat} {xs : Nat → Int32} {X18 : Int32 → sT → Prop} {v3 : Int32} {s : sT} {ls : mL} {st : List Value} (h : claw_267 L xs v3 X18 s) (h1 : lsub [some (.ref 1400000), some (.ref 0), some (.ref 162), some (.int v3)] ls) (h2 : st = []) : lf (V := Int32) (fun v => ([some (.ref 1400000), some (.ref 0), some (.ref 162), some (.int v)], [])) (fun v s => claw_267 L xs v X18 s) ls st (mk s) := lf_in (v := v3) h1 h2 h
set_option maxRecDepth 100000 in
set_option maxHeartbeats 4000000 in
theorem blaw_267 {κ : mX} {L : Nat} {xs : Nat → Int32} {X18 : Int32 → sT → Prop} (C : mOk κ cL_law RL 200) (hs : lawS κ L xs) (hr : lawR κ) (hX18 : mAt κ 18 (lf (V := Int32) (fun v => ([some (.ref 1400000), some (.ref 0), some (.ref 162), some (.int v)], [])) (fun v s => X18 v s))) : mAt κ 267 (lf (V := Int32) (fun v => ([some (.ref 1400000), some (.ref 0), some (.ref 162), some (.int v)], [])) (fun v s => claw_267 L xs v X18 s)) := m_lf (m_aload_n C dL_law_267 (m_aload_n C dL_law_268 (m_iload_n C dL_law_269 (m_iconst C dL_law_270 ki_1 (m_iadd C dL_law_271 (m_sld C hs dL_law_272 (m_callV C dL_law_273 M11_end (by decide) mc_11 cw_L_18 wt_447 wt_448 (m_aload_n C dL_law_276 (m_aload_n C dL_law_277 (m_iload_n C dL_law_278 (m_iconst C dL_law_279 ki_1 (m_iadd C dL_law_280 (m_sld C hs dL_law_281 (m_callV C dL_law_282 M12_end (by decide) mc_12 cw_L_22 wt_1606 wt_1607 (m_icmp_eq C dL_law_285 (by decide) (blaw_1314 C hs hr hX18) (m_iconst C dL_law_288 ki_0 (m_lawret C hr dL_law_289))))))))))))))))) (fun v s h => by unfold claw_267 at h; exact (And.intro rfl (And.intro h.1 (I11_end h.2 (by exact rfl) (fun _ s_3 h_2 => (And.intro rfl (And.intro h_2.1 (I12_end h_2.2 (by exact rfl) (fun _ s_6 h_5 => (And.intro (fun q_7 => (llaw_1314 (h_5.1 q_7) (by exact (And.intro rfl (And.intro rfl (And.intro rfl (And.intro rfl rfl))))) (by exact rfl))) (fun q_7 => (False.elim (h_5.2 q_7)))))))))))))
theorem llaw_290 {L : Nat} {xs : Nat → Int32} {X18 : Int32 → sT → Prop} {v3 : Int32} {s : sT} {ls : mL} {st : List Value} (h : claw_290 L xs v3 X18 s) (h1 : lsub [some (.ref 1400000), some (.ref 0), some (.ref 162), some (.int v3)] ls) (h2 : st = []) : lf (V := Int32) (fun v => ([some (.ref 1400000), some (.ref 0), some (.ref 162), some (.int v)], [])) (fun v s => claw_290 L xs v X18 s) ls st (mk s) := lf_in (v := v3) h1 h2 h
set_option maxRecDepth 100000 in
set_option maxHeartbeats 4000000 in
theorem blaw_290 {κ : mX} {L : Nat} {xs : Nat → Int32} {X18 : Int32 → sT → Prop} (C : mOk κ cL_law RL 200) (hs : lawS κ L xs) (hr : lawR κ) (hX18 : mAt κ 18 (lf (V := Int32) (fun v => ([some (.ref 1400000), some (.ref 0), some (.ref 162), some (.int v)], [])) (fun v s => X18 v s))) : mAt κ 290 (lf (V := Int32) (fun v => ([some (.ref 1400000), some (.ref 0), some (.ref 162), some (.int v)], [])) (fun v s => claw_290 L xs v X18 s)) := m_lf (m_aload_n C dL_law_290 (m_callV C dL_law_291 M11_office (by decide) mc_11 cw_L_23 wt_451 wt_452 (m_aload_n C dL_law_294 (m_callV C dL_law_295 M12_office (by decide) mc_12 cw_L_27 wt_1610 wt_1611 (m_icmp_eq C dL_law_298 (by decide) (blaw_1314 C hs hr hX18) (m_iconst C dL_law_301 ki_0 (m_lawret C hr dL_law_302))))))) (fun v s h => by unfold claw_290 at h; exact (I11_office h (by exact rfl) (fun _ s_3 h_2 => (I12_office h_2 (by exact rfl) (fun _ s_6 h_5 => (And.intro (fun q_7 => (llaw_1314 (h_5.1 q_7) (by exact (And.intro rfl (And.intro rfl (And.intro rfl (And.intro rfl rfl))))) (by exact rfl))) (fun q_7 => (False.elim (h_5.2 q_7)))))))))
theorem llaw_303 {L : Nat} {xs : Nat → Int32} {X18 : Int32 → sT → Prop} {v3 : Int32} {s : sT} {ls : mL} {st : List Value} (h : claw_303 L xs v3 X18 s) (h1 : lsub [some (.ref 1400000), some (.ref 0), some (.ref 162), some (.int v3)] ls) (h2 : st = []) : lf (V := Int32) (fun v => ([some (.ref 1400000), some (.ref 0), some (.ref 162), some (.int v)], [])) (fun v s => claw_303 L xs v X18 s) ls st (mk s) := lf_in (v := v3) h1 h2 h
set_option maxRecDepth 100000 in
set_option maxHeartbeats 4000000 in
theorem blaw_303 {κ : mX} {L : Nat} {xs : Nat → Int32} {X18 : Int32 → sT → Prop} (C : mOk κ cL_law RL 200) (hs : lawS κ L xs) (hr : lawR κ) (hX18 : mAt κ 18 (lf (V := Int32) (fun v => ([some (.ref 1400000), some (.ref 0), some (.ref 162), some (.int v)], [])) (fun v s => X18 v s))) : mAt κ 303 (lf (V := Int32) (fun v => ([some (.ref 1400000), some (.ref 0), some (.ref 162), some (.int v)], [])) (fun v s => claw_303 L xs v X18 s)) := m_lf (m_aload_n C dL_law_303 (m_aload_n C dL_law_304 (m_iload_n C dL_law_305 (m_iconst C dL_law_306 ki_1 (m_iadd C dL_law_307 (m_sld C hs dL_law_308 (m_callV C dL_law_309 M11_fault (by decide) mc_11 cw_L_28 wt_754 wt_755 (m_aload_n C dL_law_312 (m_aload_n C dL_law_313 (m_iload_n C dL_law_314 (m_iconst C dL_law_315 ki_1 (m_iadd C dL_law_316 (m_sld C hs dL_law_317 (m_callV C dL_law_318 M12_fault (by decide) mc_12 cw_L_32 wt_1796 wt_1797 (m_icmp_eq C dL_law_321 (by decide) (blaw_1314 C hs hr hX18) (m_iconst C dL_law_324 ki_0 (m_lawret C hr dL_law_325))))))))))))))))) (fun v s h => by unfold claw_303 at h; exact (And.intro rfl (And.intro h.1 (I11_fault h.2 (by exact rfl) (fun _ s_3 h_2 => (And.intro rfl (And.intro h_2.1 (I12_fault h_2.2 (by exact rfl) (fun _ s_6 h_5 => (And.intro (fun q_7 => (llaw_1314 (h_5.1 q_7) (by exact (And.intro rfl (And.intro rfl (And.intro rfl (And.intro rfl rfl))))) (by exact rfl))) (fun q_7 => (False.elim (h_5.2 q_7)))))))))))))
theorem llaw_326 {L : Nat} {xs : Nat → Int32} {X18 : Int32 → sT → Prop} {v3 : Int32} {s : sT} {ls : mL} {st : List Value} (h : claw_326 L xs v3 X18 s) (h1 : lsub [some (.ref 1400000), some (.ref 0), some (.ref 162), some (.int v3)] ls) (h2 : st = []) : lf (V := Int32) (fun v => ([some (.ref 1400000), some (.ref 0), some (.ref 162), some (.int v)], [])) (fun v s => claw_326 L xs v X18 s) ls st (mk s) := lf_in (v := v3) h1 h2 h
set_option maxRecDepth 100000 in
set_option maxHeartbeats 4000000 in
theorem blaw_326 {κ : mX} {L : Nat} {xs : Nat → Int32} {X18 : Int32 → sT → Prop} (C : mOk κ cL_law RL 200) (hs : lawS κ L xs) (hr : lawR κ) (hX18 : mAt κ 18 (lf (V := Int32) (fun v => ([some (.ref 1400000), some (.ref 0), some (.ref 162), some (.int v)], [])) (fun v s => X18 v s))) : mAt κ 326 (lf (V := Int32) (fun v => ([some (.ref 1400000), some (.ref 0), some (.ref 162), some (.int v)], [])) (fun v s => claw_326 L xs v X18 s)) := m_lf (m_aload_n C dL_law_326 (m_aload_n C dL_law_327 (m_iload_n C dL_law_328 (m_iconst C dL_law_329 ki_1 (m_iadd C dL_law_330 (m_sld C hs dL_law_331 (m_callV C dL_law_332 M11_has (by decide) mc_11 cw_L_33 wt_758 wt_759 (m_aload_n C dL_law_335 (m_aload_n C dL_law_336 (m_iload_n C dL_law_337 (m_iconst C dL_law_338 ki_1 (m_iadd C dL_law_339 (m_sld C hs dL_law_340 (m_callV C dL_law_341 M12_has (by decide) mc_12 cw_L_36 wt_1800 wt_1801 (m_icmp_eq C dL_law_344 (by decide) (blaw_1314 C hs hr hX18) (m_iconst C dL_law_347 ki_0 (m_lawret C hr dL_law_348))))))))))))))))) (fun v s h => by unfold claw_326 at h; exact (And.intro rfl (And.intro h.1 (I11_has h.2 (by exact rfl) (fun _ s_3 h_2 => (And.intro rfl (And.intro h_2.1 (I12_has h_2.2 (by exact rfl) (fun _ s_6 h_5 => (And.intro (fun q_7 => (llaw_1314 (h_5.1 q_7) (by exact (And.intro rfl (And.intro rfl (And.intro rfl (And.intro rfl rfl))))) (by exact rfl))) (fun q_7 => (False.elim (h_5.2 q_7)))))))))))))
theorem llaw_349 {L : Nat} {xs : Nat → Int32} {X18 : Int32 → sT → Prop} {v3 : Int32} {s : sT} {ls : mL} {st : List Value} (h : claw_349 L xs v3 X18 s) (h1 : lsub [some (.ref 1400000), some (.ref 0), some (.ref 162), some (.int v3)] ls) (h2 : st = []) : lf (V := Int32) (fun v => ([some (.ref 1400000), some (.ref 0), some (.ref 162), some (.int v)], [])) (fun v s => claw_349 L xs v X18 s) ls st (mk s) := lf_in (v := v3) h1 h2 h
set_option maxRecDepth 100000 in
set_option maxHeartbeats 4000000 in
theorem blaw_349 {κ : mX} {L : Nat} {xs : Nat → Int32} {X18 : Int32 → sT → Prop} (C : mOk κ cL_law RL 200) (hs : lawS κ L xs) (hr : lawR κ) (hX18 : mAt κ 18 (lf (V := Int32) (fun v => ([some (.ref 1400000), some (.ref 0), some (.ref 162), some (.int v)], [])) (fun v s => X18 v s))) : mAt κ 349 (lf (V := Int32) (fun v => ([some (.ref 1400000), some (.ref 0), some (.ref 162), some (.int v)], [])) (fun v s => claw_349 L xs v X18 s)) := m_lf (m_aload_n C dL_law_349 (m_aload_n C dL_law_350 (m_iload_n C dL_law_351 (m_iconst C dL_law_352 ki_1 (m_iadd C dL_law_353 (m_sld C hs dL_law_354 (m_aload_n C dL_law_355 (m_iload_n C dL_law_356 (m_iconst C dL_law_357 ki_2 (m_iadd C dL_law_358 (m_sld C hs dL_law_359 (m_callV C dL_law_360 M11_letter (by decide) mc_11 cw_L_37 wt_777 wt_778 (m_aload_n C dL_law_363 (m_aload_n C dL_law_364 (m_iload_n C dL_law_365 (m_iconst C dL_law_366 ki_1 (m_iadd C dL_law_367 (m_sld C hs dL_law_368 (m_aload_n C dL_law_369 (m_iload_n C dL_law_370 (m_iconst C dL_law_371 ki_2 (m_iadd C dL_law_372 (m_sld C hs dL_law_373 (m_callV C dL_law_374 M12_letter (by decide) mc_12 cw_L_41 wt_1820 wt_1821 (m_icmp_eq C dL_law_377 (by decide) (blaw_1314 C hs hr hX18) (m_iconst C dL_law_380 ki_0 (m_lawret C hr dL_law_381))))))))))))))))))))))))))) (fun v s h => by unfold claw_349 at h; exact (And.intro rfl (And.intro h.1 (And.intro rfl (And.intro h.2.1 (I11_letter h.2.2 (by exact rfl) (fun _ s_3 h_2 => (And.intro rfl (And.intro h_2.1 (And.intro rfl (And.intro h_2.2.1 (I12_letter h_2.2.2 (by exact rfl) (fun _ s_6 h_5 => (And.intro (fun q_7 => (llaw_1314 (h_5.1 q_7) (by exact (And.intro rfl (And.intro rfl (And.intro rfl (And.intro rfl rfl))))) (by exact rfl))) (fun q_7 => (False.elim (h_5.2 q_7)))))))))))))))))
theorem llaw_382 {L : Nat} {xs : Nat → Int32} {X18 : Int32 → sT → Prop} {v3 : Int32} {s : sT} {ls : mL} {st : List Value} (h : claw_382 L xs v3 X18 s) (h1 : lsub [some (.ref 1400000), some (.ref 0), some (.ref 162), some (.int v3)] ls) (h2 : st = []) : lf (V := Int32) (fun v => ([some (.ref 1400000), some (.ref 0), some (.ref 162), some (.int v)], [])) (fun v s => claw_382 L xs v X18 s) ls st (mk s) := lf_in (v := v3) h1 h2 h
set_option maxRecDepth 100000 in
set_option maxHeartbeats 4000000 in
theorem blaw_382 {κ : mX} {L : Nat} {xs : Nat → Int32} {X18 : Int32 → sT → Prop} (C : mOk κ cL_law RL 200) (hs : lawS κ L xs) (hr : lawR κ) (hX18 : mAt κ 18 (lf (V := Int32) (fun v => ([some (.ref 1400000), some (.ref 0), some (.ref 162), some (.int v)], [])) (fun v s => X18 v s))) : mAt κ 382 (lf (V := Int32) (fun v => ([some (.ref 1400000), some (.ref 0), some (.ref 162), some (.int v)], [])) (fun v s => claw_382 L xs v X18 s)) := m_lf (m_aload_n C dL_law_382 (m_aload_n C dL_law_383 (m_iload_n C dL_law_384 (m_iconst C dL_law_385 ki_1 (m_iadd C dL_law_386 (m_sld C hs dL_law_387 (m_aload_n C dL_law_388 (m_iload_n C dL_law_389 (m_iconst C dL_law_390 ki_2 (m_iadd C dL_law_391 (m_sld C hs dL_law_392 (m_callV C dL_law_393 M11_person (by decide) mc_11 cw_L_42 wt_785 wt_786 (m_aload_n C dL_law_396 (m_aload_n C dL_law_397 (m_iload_n C dL_law_398 (m_iconst C dL_law_399 ki_1 (m_iadd C dL_law_400 (m_sld C hs dL_law_401 (m_aload_n C dL_law_402 (m_iload_n C dL_law_403 (m_iconst C dL_law_404 ki_2 (m_iadd C dL_law_405 (m_sld C hs dL_law_406 (m_callV C dL_law_407 M12_person (by decide) mc_12 cw_L_45 wt_1829 wt_1830 (m_icmp_eq C dL_law_410 (by decide) (blaw_1314 C hs hr hX18) (m_iconst C dL_law_413 ki_0 (m_lawret C hr dL_law_414))))))))))))))))))))))))))) (fun v s h => by unfold claw_382 at h; exact (And.intro rfl (And.intro h.1 (And.intro rfl (And.intro h.2.1 (I11_person h.2.2 (by exact rfl) (fun _ s_3 h_2 => (And.intro rfl (And.intro h_2.1 (And.intro rfl (And.intro h_2.2.1 (I12_person h_2.2.2 (by exact rfl) (fun _ s_6 h_5 => (And.intro (fun q_7 => (llaw_1314 (h_5.1 q_7) (by exact (And.intro rfl (And.intro rfl (And.intro rfl (And.intro rfl rfl))))) (by exact rfl))) (fun q_7 => (False.elim (h_5.2 q_7)))))))))))))))))
theorem llaw_415 {L : Nat} {xs : Nat → Int32} {X18 : Int32 → sT → Prop} {v3 : Int32} {s : sT} {ls : mL} {st : List Value} (h : claw_415 L xs v3 X18 s) (h1 : lsub [some (.ref 1400000), some (.ref 0), some (.ref 162), some (.int v3)] ls) (h2 : st = []) : lf (V := Int32) (fun v => ([some (.ref 1400000), some (.ref 0), some (.ref 162), some (.int v)], [])) (fun v s => claw_415 L xs v X18 s) ls st (mk s) := lf_in (v := v3) h1 h2 h
set_option maxRecDepth 100000 in
set_option maxHeartbeats 4000000 in
theorem blaw_415 {κ : mX} {L : Nat} {xs : Nat → Int32} {X18 : Int32 → sT → Prop} (C : mOk κ cL_law RL 200) (hs : lawS κ L xs) (hr : lawR κ) (hX18 : mAt κ 18 (lf (V := Int32) (fun v => ([some (.ref 1400000), some (.ref 0), some (.ref 162), some (.int v)], [])) (fun v s => X18 v s))) : mAt κ 415 (lf (V := Int32) (fun v => ([some (.ref 1400000), some (.ref 0), some (.ref 162), some (.int v)], [])) (fun v s => claw_415 L xs v X18 s)) := m_lf (m_aload_n C dL_law_415 (m_aload_n C dL_law_416 (m_iload_n C dL_law_417 (m_iconst C dL_law_418 ki_1 (m_iadd C dL_law_419 (m_sld C hs dL_law_420 (m_callV C dL_law_421 M11_stock (by decide) mc_11 cw_L_46 wt_841 wt_842 (m_aload_n C dL_law_424 (m_aload_n C dL_law_425 (m_iload_n C dL_law_426 (m_iconst C dL_law_427 ki_1 (m_iadd C dL_law_428 (m_sld C hs dL_law_429 (m_callV C dL_law_430 M12_stock (by decide) mc_12 cw_L_49 wt_1884 wt_1885 (m_icmp_eq C dL_law_433 (by decide) (blaw_1314 C hs hr hX18) (m_iconst C dL_law_436 ki_0 (m_lawret C hr dL_law_437))))))))))))))))) (fun v s h => by unfold claw_415 at h; exact (And.intro rfl (And.intro h.1 (I11_stock h.2 (by exact rfl) (fun _ s_3 h_2 => (And.intro rfl (And.intro h_2.1 (I12_stock h_2.2 (by exact rfl) (fun _ s_6 h_5 => (And.intro (fun q_7 => (llaw_1314 (h_5.1 q_7) (by exact (And.intro rfl (And.intro rfl (And.intro rfl (And.intro rfl rfl))))) (by exact rfl))) (fun q_7 => (False.elim (h_5.2 q_7)))))))))))))
theorem llaw_438 {L : Nat} {xs : Nat → Int32} {X18 : Int32 → sT → Prop} {v3 : Int32} {s : sT} {ls : mL} {st : List Value} (h : claw_438 L xs v3 X18 s) (h1 : lsub [some (.ref 1400000), some (.ref 0), some (.ref 162), some (.int v3)] ls) (h2 : st = []) : lf (V := Int32) (fun v => ([some (.ref 1400000), some (.ref 0), some (.ref 162), some (.int v)], [])) (fun v s => claw_438 L xs v X18 s) ls st (mk s) := lf_in (v := v3) h1 h2 h
set_option maxRecDepth 100000 in
set_option maxHeartbeats 4000000 in
theorem blaw_438 {κ : mX} {L : Nat} {xs : Nat → Int32} {X18 : Int32 → sT → Prop} (C : mOk κ cL_law RL 200) (hs : lawS κ L xs) (hr : lawR κ) (hX18 : mAt κ 18 (lf (V := Int32) (fun v => ([some (.ref 1400000), some (.ref 0), some (.ref 162), some (.int v)], [])) (fun v s => X18 v s))) : mAt κ 438 (lf (V := Int32) (fun v => ([some (.ref 1400000), some (.ref 0), some (.ref 162), some (.int v)], [])) (fun v s => claw_438 L xs v X18 s)) := m_lf (m_aload_n C dL_law_438 (m_aload_n C dL_law_439 (m_iload_n C dL_law_440 (m_iconst C dL_law_441 ki_1 (m_iadd C dL_law_442 (m_sld C hs dL_law_443 (m_aload_n C dL_law_444 (m_iload_n C dL_law_445 (m_iconst C dL_law_446 ki_2 (m_iadd C dL_law_447 (m_sld C hs dL_law_448 (m_callV C dL_law_449 M11_kept (by decide) mc_11 cw_L_50 wt_849 wt_850 (m_aload_n C dL_law_452 (m_aload_n C dL_law_453 (m_iload_n C dL_law_454 (m_iconst C dL_law_455 ki_1 (m_iadd C dL_law_456 (m_sld C hs dL_law_457 (m_aload_n C dL_law_458 (m_iload_n C dL_law_459 (m_iconst C dL_law_460 ki_2 (m_iadd C dL_law_461 (m_sld C hs dL_law_462 (m_callV C dL_law_463 M12_kept (by decide) mc_12 cw_L_53 wt_1892 wt_1893 (m_icmp_eq C dL_law_466 (by decide) (blaw_1314 C hs hr hX18) (m_iconst C dL_law_469 ki_0 (m_lawret C hr dL_law_470))))))))))))))))))))))))))) (fun v s h => by unfold claw_438 at h; exact (And.intro rfl (And.intro h.1 (And.intro rfl (And.intro h.2.1 (I11_kept h.2.2 (by exact rfl) (fun _ s_3 h_2 => (And.intro rfl (And.intro h_2.1 (And.intro rfl (And.intro h_2.2.1 (I12_kept h_2.2.2 (by exact rfl) (fun _ s_6 h_5 => (And.intro (fun q_7 => (llaw_1314 (h_5.1 q_7) (by exact (And.intro rfl (And.intro rfl (And.intro rfl (And.intro rfl rfl))))) (by exact rfl))) (fun q_7 => (False.elim (h_5.2 q_7)))))))))))))))))
theorem llaw_471 {L : Nat} {xs : Nat → Int32} {X18 : Int32 → sT → Prop} {v3 : Int32} {s : sT} {ls : mL} {st : List Value} (h : claw_471 L xs v3 X18 s) (h1 : lsub [some (.ref 1400000), some (.ref 0), some (.ref 162), some (.int v3)] ls) (h2 : st = []) : lf (V := Int32) (fun v => ([some (.ref 1400000), some (.ref 0), some (.ref 162), some (.int v)], [])) (fun v s => claw_471 L xs v X18 s) ls st (mk s) := lf_in (v := v3) h1 h2 h
set_option maxRecDepth 100000 in
set_option maxHeartbeats 4000000 in
theorem blaw_471 {κ : mX} {L : Nat} {xs : Nat → Int32} {X18 : Int32 → sT → Prop} (C : mOk κ cL_law RL 200) (hs : lawS κ L xs) (hr : lawR κ) (hX18 : mAt κ 18 (lf (V := Int32) (fun v => ([some (.ref 1400000), some (.ref 0), some (.ref 162), some (.int v)], [])) (fun v s => X18 v s))) : mAt κ 471 (lf (V := Int32) (fun v => ([some (.ref 1400000), some (.ref 0), some (.ref 162), some (.int v)], [])) (fun v s => claw_471 L xs v X18 s)) := m_lf (m_aload_n C dL_law_471 (m_aload_n C dL_law_472 (m_iload_n C dL_law_473 (m_iconst C dL_law_474 ki_1 (m_iadd C dL_law_475 (m_sld C hs dL_law_476 (m_aload_n C dL_law_477 (m_iload_n C dL_law_478 (m_iconst C dL_law_479 ki_2 (m_iadd C dL_law_480 (m_sld C hs dL_law_481 (m_callV C dL_law_482 M11_writings (by decide) mc_11 cw_L_54 wt_857 wt_858 (m_aload_n C dL_law_485 (m_aload_n C dL_law_486 (m_iload_n C dL_law_487 (m_iconst C dL_law_488 ki_1 (m_iadd C dL_law_489 (m_sld C hs dL_law_490 (m_aload_n C dL_law_491 (m_iload_n C dL_law_492 (m_iconst C dL_law_493 ki_2 (m_iadd C dL_law_494 (m_sld C hs dL_law_495 (m_callV C dL_law_496 M12_writings (by decide) mc_12 cw_L_57 wt_1897 wt_1898 (m_icmp_eq C dL_law_499 (by decide) (blaw_1314 C hs hr hX18) (m_iconst C dL_law_502 ki_0 (m_lawret C hr dL_law_503))))))))))))))))))))))))))) (fun v s h => by unfold claw_471 at h; exact (And.intro rfl (And.intro h.1 (And.intro rfl (And.intro h.2.1 (I11_writings h.2.2 (by exact rfl) (fun _ s_3 h_2 => (And.intro rfl (And.intro h_2.1 (And.intro rfl (And.intro h_2.2.1 (I12_writings h_2.2.2 (by exact rfl) (fun _ s_6 h_5 => (And.intro (fun q_7 => (llaw_1314 (h_5.1 q_7) (by exact (And.intro rfl (And.intro rfl (And.intro rfl (And.intro rfl rfl))))) (by exact rfl))) (fun q_7 => (False.elim (h_5.2 q_7)))))))))))))))))
theorem llaw_504 {L : Nat} {xs : Nat → Int32} {X18 : Int32 → sT → Prop} {v3 : Int32} {s : sT} {ls : mL} {st : List Value} (h : claw_504 L xs v3 X18 s) (h1 : lsub [some (.ref 1400000), some (.ref 0), some (.ref 162), some (.int v3)] ls) (h2 : st = []) : lf (V := Int32) (fun v => ([some (.ref 1400000), some (.ref 0), some (.ref 162), some (.int v)], [])) (fun v s => claw_504 L xs v X18 s) ls st (mk s) := lf_in (v := v3) h1 h2 h
set_option maxRecDepth 100000 in
set_option maxHeartbeats 4000000 in
theorem blaw_504 {κ : mX} {L : Nat} {xs : Nat → Int32} {X18 : Int32 → sT → Prop} (C : mOk κ cL_law RL 200) (hs : lawS κ L xs) (hr : lawR κ) (hX18 : mAt κ 18 (lf (V := Int32) (fun v => ([some (.ref 1400000), some (.ref 0), some (.ref 162), some (.int v)], [])) (fun v s => X18 v s))) : mAt κ 504 (lf (V := Int32) (fun v => ([some (.ref 1400000), some (.ref 0), some (.ref 162), some (.int v)], [])) (fun v s => claw_504 L xs v X18 s)) := m_lf (m_aload_n C dL_law_504 (m_aload_n C dL_law_505 (m_iload_n C dL_law_506 (m_iconst C dL_law_507 ki_1 (m_iadd C dL_law_508 (m_sld C hs dL_law_509 (m_aload_n C dL_law_510 (m_iload_n C dL_law_511 (m_iconst C dL_law_512 ki_2 (m_iadd C dL_law_513 (m_sld C hs dL_law_514 (m_aload_n C dL_law_515 (m_iload_n C dL_law_516 (m_iconst C dL_law_517 ki_3 (m_iadd C dL_law_518 (m_sld C hs dL_law_519 (m_callV C dL_law_520 M11_writing (by decide) mc_11 cw_L_58 wt_869 wt_870 (m_aload_n C dL_law_523 (m_aload_n C dL_law_524 (m_iload_n C dL_law_525 (m_iconst C dL_law_526 ki_1 (m_iadd C dL_law_527 (m_sld C hs dL_law_528 (m_aload_n C dL_law_529 (m_iload_n C dL_law_530 (m_iconst C dL_law_531 ki_2 (m_iadd C dL_law_532 (m_sld C hs dL_law_533 (m_aload_n C dL_law_534 (m_iload_n C dL_law_535 (m_iconst C dL_law_536 ki_3 (m_iadd C dL_law_537 (m_sld C hs dL_law_538 (m_callV C dL_law_539 M12_writing (by decide) mc_12 cw_L_62 wt_1906 wt_1907 (m_icmp_eq C dL_law_542 (by decide) (blaw_1314 C hs hr hX18) (m_iconst C dL_law_545 ki_0 (m_lawret C hr dL_law_546))))))))))))))))))))))))))))))))))))) (fun v s h => by unfold claw_504 at h; exact (And.intro rfl (And.intro h.1 (And.intro rfl (And.intro h.2.1 (And.intro rfl (And.intro h.2.2.1 (I11_writing h.2.2.2 (by exact rfl) (fun _ s_3 h_2 => (And.intro rfl (And.intro h_2.1 (And.intro rfl (And.intro h_2.2.1 (And.intro rfl (And.intro h_2.2.2.1 (I12_writing h_2.2.2.2 (by exact rfl) (fun _ s_6 h_5 => (And.intro (fun q_7 => (llaw_1314 (h_5.1 q_7) (by exact (And.intro rfl (And.intro rfl (And.intro rfl (And.intro rfl rfl))))) (by exact rfl))) (fun q_7 => (False.elim (h_5.2 q_7)))))))))))))))))))))
theorem llaw_547 {L : Nat} {xs : Nat → Int32} {X18 : Int32 → sT → Prop} {v3 : Int32} {s : sT} {ls : mL} {st : List Value} (h : claw_547 L xs v3 X18 s) (h1 : lsub [some (.ref 1400000), some (.ref 0), some (.ref 162), some (.int v3)] ls) (h2 : st = []) : lf (V := Int32) (fun v => ([some (.ref 1400000), some (.ref 0), some (.ref 162), some (.int v)], [])) (fun v s => claw_547 L xs v X18 s) ls st (mk s) := lf_in (v := v3) h1 h2 h
set_option maxRecDepth 100000 in
set_option maxHeartbeats 4000000 in
theorem blaw_547 {κ : mX} {L : Nat} {xs : Nat → Int32} {X18 : Int32 → sT → Prop} (C : mOk κ cL_law RL 200) (hs : lawS κ L xs) (hr : lawR κ) (hX18 : mAt κ 18 (lf (V := Int32) (fun v => ([some (.ref 1400000), some (.ref 0), some (.ref 162), some (.int v)], [])) (fun v s => X18 v s))) : mAt κ 547 (lf (V := Int32) (fun v => ([some (.ref 1400000), some (.ref 0), some (.ref 162), some (.int v)], [])) (fun v s => claw_547 L xs v X18 s)) := m_lf (m_aload_n C dL_law_547 (m_aload_n C dL_law_548 (m_iload_n C dL_law_549 (m_iconst C dL_law_550 ki_1 (m_iadd C dL_law_551 (m_sld C hs dL_law_552 (m_aload_n C dL_law_553 (m_iload_n C dL_law_554 (m_iconst C dL_law_555 ki_2 (m_iadd C dL_law_556 (m_sld C hs dL_law_557 (m_callV C dL_law_558 M11_greedy (by decide) mc_11 cw_L_63 wt_874 wt_875 (m_aload_n C dL_law_561 (m_aload_n C dL_law_562 (m_iload_n C dL_law_563 (m_iconst C dL_law_564 ki_1 (m_iadd C dL_law_565 (m_sld C hs dL_law_566 (m_aload_n C dL_law_567 (m_iload_n C dL_law_568 (m_iconst C dL_law_569 ki_2 (m_iadd C dL_law_570 (m_sld C hs dL_law_571 (m_callV C dL_law_572 M12_greedy (by decide) mc_12 cw_L_66 wt_1910 wt_1911 (m_icmp_eq C dL_law_575 (by decide) (blaw_1314 C hs hr hX18) (m_iconst C dL_law_578 ki_0 (m_lawret C hr dL_law_579))))))))))))))))))))))))))) (fun v s h => by unfold claw_547 at h; exact (And.intro rfl (And.intro h.1 (And.intro rfl (And.intro h.2.1 (I11_greedy h.2.2 (by exact rfl) (fun _ s_3 h_2 => (And.intro rfl (And.intro h_2.1 (And.intro rfl (And.intro h_2.2.1 (I12_greedy h_2.2.2 (by exact rfl) (fun _ s_6 h_5 => (And.intro (fun q_7 => (llaw_1314 (h_5.1 q_7) (by exact (And.intro rfl (And.intro rfl (And.intro rfl (And.intro rfl rfl))))) (by exact rfl))) (fun q_7 => (False.elim (h_5.2 q_7)))))))))))))))))
theorem llaw_580 {L : Nat} {xs : Nat → Int32} {X18 : Int32 → sT → Prop} {v3 : Int32} {s : sT} {ls : mL} {st : List Value} (h : claw_580 L xs v3 X18 s) (h1 : lsub [some (.ref 1400000), some (.ref 0), some (.ref 162), some (.int v3)] ls) (h2 : st = []) : lf (V := Int32) (fun v => ([some (.ref 1400000), some (.ref 0), some (.ref 162), some (.int v)], [])) (fun v s => claw_580 L xs v X18 s) ls st (mk s) := lf_in (v := v3) h1 h2 h
set_option maxRecDepth 100000 in
set_option maxHeartbeats 4000000 in
theorem blaw_580 {κ : mX} {L : Nat} {xs : Nat → Int32} {X18 : Int32 → sT → Prop} (C : mOk κ cL_law RL 200) (hs : lawS κ L xs) (hr : lawR κ) (hX18 : mAt κ 18 (lf (V := Int32) (fun v => ([some (.ref 1400000), some (.ref 0), some (.ref 162), some (.int v)], [])) (fun v s => X18 v s))) : mAt κ 580 (lf (V := Int32) (fun v => ([some (.ref 1400000), some (.ref 0), some (.ref 162), some (.int v)], [])) (fun v s => claw_580 L xs v X18 s)) := m_lf (m_aload_n C dL_law_580 (m_aload_n C dL_law_581 (m_iload_n C dL_law_582 (m_iconst C dL_law_583 ki_1 (m_iadd C dL_law_584 (m_sld C hs dL_law_585 (m_aload_n C dL_law_586 (m_iload_n C dL_law_587 (m_iconst C dL_law_588 ki_2 (m_iadd C dL_law_589 (m_sld C hs dL_law_590 (m_callV C dL_law_591 M11_shortest (by decide) mc_11 cw_L_67 wt_882 wt_883 (m_aload_n C dL_law_594 (m_aload_n C dL_law_595 (m_iload_n C dL_law_596 (m_iconst C dL_law_597 ki_1 (m_iadd C dL_law_598 (m_sld C hs dL_law_599 (m_aload_n C dL_law_600 (m_iload_n C dL_law_601 (m_iconst C dL_law_602 ki_2 (m_iadd C dL_law_603 (m_sld C hs dL_law_604 (m_callV C dL_law_605 M12_shortest (by decide) mc_12 cw_L_70 wt_1917 wt_1918 (m_icmp_eq C dL_law_608 (by decide) (blaw_1314 C hs hr hX18) (m_iconst C dL_law_611 ki_0 (m_lawret C hr dL_law_612))))))))))))))))))))))))))) (fun v s h => by unfold claw_580 at h; exact (And.intro rfl (And.intro h.1 (And.intro rfl (And.intro h.2.1 (I11_shortest h.2.2 (by exact rfl) (fun _ s_3 h_2 => (And.intro rfl (And.intro h_2.1 (And.intro rfl (And.intro h_2.2.1 (I12_shortest h_2.2.2 (by exact rfl) (fun _ s_6 h_5 => (And.intro (fun q_7 => (llaw_1314 (h_5.1 q_7) (by exact (And.intro rfl (And.intro rfl (And.intro rfl (And.intro rfl rfl))))) (by exact rfl))) (fun q_7 => (False.elim (h_5.2 q_7)))))))))))))))))
theorem llaw_613 {L : Nat} {xs : Nat → Int32} {X18 : Int32 → sT → Prop} {v3 : Int32} {s : sT} {ls : mL} {st : List Value} (h : claw_613 L xs v3 X18 s) (h1 : lsub [some (.ref 1400000), some (.ref 0), some (.ref 162), some (.int v3)] ls) (h2 : st = []) : lf (V := Int32) (fun v => ([some (.ref 1400000), some (.ref 0), some (.ref 162), some (.int v)], [])) (fun v s => claw_613 L xs v X18 s) ls st (mk s) := lf_in (v := v3) h1 h2 h
set_option maxRecDepth 100000 in
set_option maxHeartbeats 4000000 in
theorem blaw_613 {κ : mX} {L : Nat} {xs : Nat → Int32} {X18 : Int32 → sT → Prop} (C : mOk κ cL_law RL 200) (hs : lawS κ L xs) (hr : lawR κ) (hX18 : mAt κ 18 (lf (V := Int32) (fun v => ([some (.ref 1400000), some (.ref 0), some (.ref 162), some (.int v)], [])) (fun v s => X18 v s))) : mAt κ 613 (lf (V := Int32) (fun v => ([some (.ref 1400000), some (.ref 0), some (.ref 162), some (.int v)], [])) (fun v s => claw_613 L xs v X18 s)) := m_lf (m_aload_n C dL_law_613 (m_aload_n C dL_law_614 (m_iload_n C dL_law_615 (m_iconst C dL_law_616 ki_1 (m_iadd C dL_law_617 (m_sld C hs dL_law_618 (m_aload_n C dL_law_619 (m_iload_n C dL_law_620 (m_iconst C dL_law_621 ki_2 (m_iadd C dL_law_622 (m_sld C hs dL_law_623 (m_aload_n C dL_law_624 (m_iload_n C dL_law_625 (m_iconst C dL_law_626 ki_3 (m_iadd C dL_law_627 (m_sld C hs dL_law_628 (m_callV C dL_law_629 M11_cheapest (by decide) mc_11 cw_L_71 wt_897 wt_898 (m_aload_n C dL_law_632 (m_aload_n C dL_law_633 (m_iload_n C dL_law_634 (m_iconst C dL_law_635 ki_1 (m_iadd C dL_law_636 (m_sld C hs dL_law_637 (m_aload_n C dL_law_638 (m_iload_n C dL_law_639 (m_iconst C dL_law_640 ki_2 (m_iadd C dL_law_641 (m_sld C hs dL_law_642 (m_aload_n C dL_law_643 (m_iload_n C dL_law_644 (m_iconst C dL_law_645 ki_3 (m_iadd C dL_law_646 (m_sld C hs dL_law_647 (m_callV C dL_law_648 M12_cheapest (by decide) mc_12 cw_L_75 wt_1925 wt_1926 (m_lcmp C dL_law_651 (m_if_eq C dL_law_652 (by decide) (blaw_1314 C hs hr hX18) (m_iconst C dL_law_655 ki_0 (m_lawret C hr dL_law_656)))))))))))))))))))))))))))))))))))))) (fun v s h => by unfold claw_613 at h; exact (And.intro rfl (And.intro h.1 (And.intro rfl (And.intro h.2.1 (And.intro rfl (And.intro h.2.2.1 (I11_cheapest h.2.2.2 (by exact rfl) (fun _ s_3 h_2 => (And.intro rfl (And.intro h_2.1 (And.intro rfl (And.intro h_2.2.1 (And.intro rfl (And.intro h_2.2.2.1 (I12_cheapest h_2.2.2.2 (by exact rfl) (fun _ s_6 h_5 => (And.intro (fun q_7 => (llaw_1314 (h_5.1 (cmp_eq.mp q_7)) (by exact (And.intro rfl (And.intro rfl (And.intro rfl (And.intro rfl rfl))))) (by exact rfl))) (fun q_7 => (False.elim (h_5.2 (fun z => q_7 (cmp_eq.mpr z)))))))))))))))))))))))
theorem llaw_657 {L : Nat} {xs : Nat → Int32} {X18 : Int32 → sT → Prop} {v3 : Int32} {s : sT} {ls : mL} {st : List Value} (h : claw_657 L xs v3 X18 s) (h1 : lsub [some (.ref 1400000), some (.ref 0), some (.ref 162), some (.int v3)] ls) (h2 : st = []) : lf (V := Int32) (fun v => ([some (.ref 1400000), some (.ref 0), some (.ref 162), some (.int v)], [])) (fun v s => claw_657 L xs v X18 s) ls st (mk s) := lf_in (v := v3) h1 h2 h
set_option maxRecDepth 100000 in
set_option maxHeartbeats 4000000 in
theorem blaw_657 {κ : mX} {L : Nat} {xs : Nat → Int32} {X18 : Int32 → sT → Prop} (C : mOk κ cL_law RL 200) (hs : lawS κ L xs) (hr : lawR κ) (hX18 : mAt κ 18 (lf (V := Int32) (fun v => ([some (.ref 1400000), some (.ref 0), some (.ref 162), some (.int v)], [])) (fun v s => X18 v s))) : mAt κ 657 (lf (V := Int32) (fun v => ([some (.ref 1400000), some (.ref 0), some (.ref 162), some (.int v)], [])) (fun v s => claw_657 L xs v X18 s)) := m_lf (m_aload_n C dL_law_657 (m_aload_n C dL_law_658 (m_iload_n C dL_law_659 (m_iconst C dL_law_660 ki_1 (m_iadd C dL_law_661 (m_sld C hs dL_law_662 (m_aload_n C dL_law_663 (m_iload_n C dL_law_664 (m_iconst C dL_law_665 ki_2 (m_iadd C dL_law_666 (m_sld C hs dL_law_667 (m_callV C dL_law_668 M11_makes (by decide) mc_11 cw_L_76 wt_907 wt_908 (m_aload_n C dL_law_671 (m_aload_n C dL_law_672 (m_iload_n C dL_law_673 (m_iconst C dL_law_674 ki_1 (m_iadd C dL_law_675 (m_sld C hs dL_law_676 (m_aload_n C dL_law_677 (m_iload_n C dL_law_678 (m_iconst C dL_law_679 ki_2 (m_iadd C dL_law_680 (m_sld C hs dL_law_681 (m_callV C dL_law_682 M12_makes (by decide) mc_12 cw_L_80 wt_1934 wt_1935 (m_lcmp C dL_law_685 (m_if_eq C dL_law_686 (by decide) (blaw_1314 C hs hr hX18) (m_iconst C dL_law_689 ki_0 (m_lawret C hr dL_law_690)))))))))))))))))))))))))))) (fun v s h => by unfold claw_657 at h; exact (And.intro rfl (And.intro h.1 (And.intro rfl (And.intro h.2.1 (I11_makes h.2.2 (by exact rfl) (fun _ s_3 h_2 => (And.intro rfl (And.intro h_2.1 (And.intro rfl (And.intro h_2.2.1 (I12_makes h_2.2.2 (by exact rfl) (fun _ s_6 h_5 => (And.intro (fun q_7 => (llaw_1314 (h_5.1 (cmp_eq.mp q_7)) (by exact (And.intro rfl (And.intro rfl (And.intro rfl (And.intro rfl rfl))))) (by exact rfl))) (fun q_7 => (False.elim (h_5.2 (fun z => q_7 (cmp_eq.mpr z)))))))))))))))))))
theorem llaw_691 {L : Nat} {xs : Nat → Int32} {X18 : Int32 → sT → Prop} {v3 : Int32} {s : sT} {ls : mL} {st : List Value} (h : claw_691 L xs v3 X18 s) (h1 : lsub [some (.ref 1400000), some (.ref 0), some (.ref 162), some (.int v3)] ls) (h2 : st = []) : lf (V := Int32) (fun v => ([some (.ref 1400000), some (.ref 0), some (.ref 162), some (.int v)], [])) (fun v s => claw_691 L xs v X18 s) ls st (mk s) := lf_in (v := v3) h1 h2 h
set_option maxRecDepth 100000 in
set_option maxHeartbeats 4000000 in
theorem blaw_691 {κ : mX} {L : Nat} {xs : Nat → Int32} {X18 : Int32 → sT → Prop} (C : mOk κ cL_law RL 200) (hs : lawS κ L xs) (hr : lawR κ) (hX18 : mAt κ 18 (lf (V := Int32) (fun v => ([some (.ref 1400000), some (.ref 0), some (.ref 162), some (.int v)], [])) (fun v s => X18 v s))) : mAt κ 691 (lf (V := Int32) (fun v => ([some (.ref 1400000), some (.ref 0), some (.ref 162), some (.int v)], [])) (fun v s => claw_691 L xs v X18 s)) := m_lf (m_aload_n C dL_law_691 (m_aload_n C dL_law_692 (m_iload_n C dL_law_693 (m_iconst C dL_law_694 ki_1 (m_iadd C dL_law_695 (m_sld C hs dL_law_696 (m_aload_n C dL_law_697 (m_iload_n C dL_law_698 (m_iconst C dL_law_699 ki_2 (m_iadd C dL_law_700 (m_sld C hs dL_law_701 (m_aload_n C dL_law_702 (m_iload_n C dL_law_703 (m_iconst C dL_law_704 ki_3 (m_iadd C dL_law_705 (m_sld C hs dL_law_706 (m_callV C dL_law_707 M11_anew (by decide) mc_11 cw_L_81 wt_923 wt_924 (m_aload_n C dL_law_710 (m_aload_n C dL_law_711 (m_iload_n C dL_law_712 (m_iconst C dL_law_713 ki_1 (m_iadd C dL_law_714 (m_sld C hs dL_law_715 (m_aload_n C dL_law_716 (m_iload_n C dL_law_717 (m_iconst C dL_law_718 ki_2 (m_iadd C dL_law_719 (m_sld C hs dL_law_720 (m_aload_n C dL_law_721 (m_iload_n C dL_law_722 (m_iconst C dL_law_723 ki_3 (m_iadd C dL_law_724 (m_sld C hs dL_law_725 (m_callV C dL_law_726 M12_anew (by decide) mc_12 cw_L_84 wt_1949 wt_1950 (m_icmp_eq C dL_law_729 (by decide) (blaw_1314 C hs hr hX18) (m_iconst C dL_law_732 ki_0 (m_lawret C hr dL_law_733))))))))))))))))))))))))))))))))))))) (fun v s h => by unfold claw_691 at h; exact (And.intro rfl (And.intro h.1 (And.intro rfl (And.intro h.2.1 (And.intro rfl (And.intro h.2.2.1 (I11_anew h.2.2.2 (by exact rfl) (fun _ s_3 h_2 => (And.intro rfl (And.intro h_2.1 (And.intro rfl (And.intro h_2.2.1 (And.intro rfl (And.intro h_2.2.2.1 (I12_anew h_2.2.2.2 (by exact rfl) (fun _ s_6 h_5 => (And.intro (fun q_7 => (llaw_1314 (h_5.1 q_7) (by exact (And.intro rfl (And.intro rfl (And.intro rfl (And.intro rfl rfl))))) (by exact rfl))) (fun q_7 => (False.elim (h_5.2 q_7)))))))))))))))))))))
theorem llaw_734 {L : Nat} {xs : Nat → Int32} {X18 : Int32 → sT → Prop} {v3 : Int32} {s : sT} {ls : mL} {st : List Value} (h : claw_734 L xs v3 X18 s) (h1 : lsub [some (.ref 1400000), some (.ref 0), some (.ref 162), some (.int v3)] ls) (h2 : st = []) : lf (V := Int32) (fun v => ([some (.ref 1400000), some (.ref 0), some (.ref 162), some (.int v)], [])) (fun v s => claw_734 L xs v X18 s) ls st (mk s) := lf_in (v := v3) h1 h2 h
set_option maxRecDepth 100000 in
set_option maxHeartbeats 4000000 in
theorem blaw_734 {κ : mX} {L : Nat} {xs : Nat → Int32} {X18 : Int32 → sT → Prop} (C : mOk κ cL_law RL 200) (hs : lawS κ L xs) (hr : lawR κ) (hX18 : mAt κ 18 (lf (V := Int32) (fun v => ([some (.ref 1400000), some (.ref 0), some (.ref 162), some (.int v)], [])) (fun v s => X18 v s))) : mAt κ 734 (lf (V := Int32) (fun v => ([some (.ref 1400000), some (.ref 0), some (.ref 162), some (.int v)], [])) (fun v s => claw_734 L xs v X18 s)) := m_lf (m_aload_n C dL_law_734 (m_aload_n C dL_law_735 (m_iload_n C dL_law_736 (m_iconst C dL_law_737 ki_1 (m_iadd C dL_law_738 (m_sld C hs dL_law_739 (m_aload_n C dL_law_740 (m_iload_n C dL_law_741 (m_iconst C dL_law_742 ki_2 (m_iadd C dL_law_743 (m_sld C hs dL_law_744 (m_aload_n C dL_law_745 (m_iload_n C dL_law_746 (m_iconst C dL_law_747 ki_3 (m_iadd C dL_law_748 (m_sld C hs dL_law_749 (m_aload_n C dL_law_750 (m_iload_n C dL_law_751 (m_iconst C dL_law_752 ki_4 (m_iadd C dL_law_753 (m_sld C hs dL_law_754 (m_callV C dL_law_755 M11_mend (by decide) mc_11 cw_L_85 wt_927 wt_928 (m_aload_n C dL_law_758 (m_aload_n C dL_law_759 (m_iload_n C dL_law_760 (m_iconst C dL_law_761 ki_1 (m_iadd C dL_law_762 (m_sld C hs dL_law_763 (m_aload_n C dL_law_764 (m_iload_n C dL_law_765 (m_iconst C dL_law_766 ki_2 (m_iadd C dL_law_767 (m_sld C hs dL_law_768 (m_aload_n C dL_law_769 (m_iload_n C dL_law_770 (m_iconst C dL_law_771 ki_3 (m_iadd C dL_law_772 (m_sld C hs dL_law_773 (m_aload_n C dL_law_774 (m_iload_n C dL_law_775 (m_iconst C dL_law_776 ki_4 (m_iadd C dL_law_777 (m_sld C hs dL_law_778 (m_callV C dL_law_779 M12_mend (by decide) mc_12 cw_L_89 wt_1953 wt_1954 (m_icmp_eq C dL_law_782 (by decide) (blaw_1314 C hs hr hX18) (m_iconst C dL_law_785 ki_0 (m_lawret C hr dL_law_786))))))))))))))))))))))))))))))))))))))))))))))) (fun v s h => by unfold claw_734 at h; exact (And.intro rfl (And.intro h.1 (And.intro rfl (And.intro h.2.1 (And.intro rfl (And.intro h.2.2.1 (And.intro rfl (And.intro h.2.2.2.1 (I11_mend h.2.2.2.2 (by exact rfl) (fun _ s_3 h_2 => (And.intro rfl (And.intro h_2.1 (And.intro rfl (And.intro h_2.2.1 (And.intro rfl (And.intro h_2.2.2.1 (And.intro rfl (And.intro h_2.2.2.2.1 (I12_mend h_2.2.2.2.2 (by exact rfl) (fun _ s_6 h_5 => (And.intro (fun q_7 => (llaw_1314 (h_5.1 q_7) (by exact (And.intro rfl (And.intro rfl (And.intro rfl (And.intro rfl rfl))))) (by exact rfl))) (fun q_7 => (False.elim (h_5.2 q_7)))))))))))))))))))))))))
theorem llaw_787 {L : Nat} {xs : Nat → Int32} {X18 : Int32 → sT → Prop} {v3 : Int32} {s : sT} {ls : mL} {st : List Value} (h : claw_787 L xs v3 X18 s) (h1 : lsub [some (.ref 1400000), some (.ref 0), some (.ref 162), some (.int v3)] ls) (h2 : st = []) : lf (V := Int32) (fun v => ([some (.ref 1400000), some (.ref 0), some (.ref 162), some (.int v)], [])) (fun v s => claw_787 L xs v X18 s) ls st (mk s) := lf_in (v := v3) h1 h2 h
set_option maxRecDepth 100000 in
set_option maxHeartbeats 4000000 in
theorem blaw_787 {κ : mX} {L : Nat} {xs : Nat → Int32} {X18 : Int32 → sT → Prop} (C : mOk κ cL_law RL 200) (hs : lawS κ L xs) (hr : lawR κ) (hX18 : mAt κ 18 (lf (V := Int32) (fun v => ([some (.ref 1400000), some (.ref 0), some (.ref 162), some (.int v)], [])) (fun v s => X18 v s))) : mAt κ 787 (lf (V := Int32) (fun v => ([some (.ref 1400000), some (.ref 0), some (.ref 162), some (.int v)], [])) (fun v s => claw_787 L xs v X18 s)) := m_lf (m_aload_n C dL_law_787 (m_aload_n C dL_law_788 (m_iload_n C dL_law_789 (m_iconst C dL_law_790 ki_1 (m_iadd C dL_law_791 (m_sld C hs dL_law_792 (m_aload_n C dL_law_793 (m_iload_n C dL_law_794 (m_iconst C dL_law_795 ki_2 (m_iadd C dL_law_796 (m_sld C hs dL_law_797 (m_aload_n C dL_law_798 (m_iload_n C dL_law_799 (m_iconst C dL_law_800 ki_3 (m_iadd C dL_law_801 (m_sld C hs dL_law_802 (m_aload_n C dL_law_803 (m_iload_n C dL_law_804 (m_iconst C dL_law_805 ki_4 (m_iadd C dL_law_806 (m_sld C hs dL_law_807 (m_callV C dL_law_808 M11_fills (by decide) mc_11 cw_L_90 wt_940 wt_941 (m_aload_n C dL_law_811 (m_aload_n C dL_law_812 (m_iload_n C dL_law_813 (m_iconst C dL_law_814 ki_1 (m_iadd C dL_law_815 (m_sld C hs dL_law_816 (m_aload_n C dL_law_817 (m_iload_n C dL_law_818 (m_iconst C dL_law_819 ki_2 (m_iadd C dL_law_820 (m_sld C hs dL_law_821 (m_aload_n C dL_law_822 (m_iload_n C dL_law_823 (m_iconst C dL_law_824 ki_3 (m_iadd C dL_law_825 (m_sld C hs dL_law_826 (m_aload_n C dL_law_827 (m_iload_n C dL_law_828 (m_iconst C dL_law_829 ki_4 (m_iadd C dL_law_830 (m_sld C hs dL_law_831 (m_callV C dL_law_832 M12_fills (by decide) mc_12 cw_L_93 wt_1957 wt_1958 (m_icmp_eq C dL_law_835 (by decide) (blaw_1314 C hs hr hX18) (m_iconst C dL_law_838 ki_0 (m_lawret C hr dL_law_839))))))))))))))))))))))))))))))))))))))))))))))) (fun v s h => by unfold claw_787 at h; exact (And.intro rfl (And.intro h.1 (And.intro rfl (And.intro h.2.1 (And.intro rfl (And.intro h.2.2.1 (And.intro rfl (And.intro h.2.2.2.1 (I11_fills h.2.2.2.2 (by exact rfl) (fun _ s_3 h_2 => (And.intro rfl (And.intro h_2.1 (And.intro rfl (And.intro h_2.2.1 (And.intro rfl (And.intro h_2.2.2.1 (And.intro rfl (And.intro h_2.2.2.2.1 (I12_fills h_2.2.2.2.2 (by exact rfl) (fun _ s_6 h_5 => (And.intro (fun q_7 => (llaw_1314 (h_5.1 q_7) (by exact (And.intro rfl (And.intro rfl (And.intro rfl (And.intro rfl rfl))))) (by exact rfl))) (fun q_7 => (False.elim (h_5.2 q_7)))))))))))))))))))))))))
theorem llaw_840 {L : Nat} {xs : Nat → Int32} {X18 : Int32 → sT → Prop} {v3 : Int32} {s : sT} {ls : mL} {st : List Value} (h : claw_840 L xs v3 X18 s) (h1 : lsub [some (.ref 1400000), some (.ref 0), some (.ref 162), some (.int v3)] ls) (h2 : st = []) : lf (V := Int32) (fun v => ([some (.ref 1400000), some (.ref 0), some (.ref 162), some (.int v)], [])) (fun v s => claw_840 L xs v X18 s) ls st (mk s) := lf_in (v := v3) h1 h2 h
set_option maxRecDepth 100000 in
set_option maxHeartbeats 4000000 in
theorem blaw_840 {κ : mX} {L : Nat} {xs : Nat → Int32} {X18 : Int32 → sT → Prop} (C : mOk κ cL_law RL 200) (hs : lawS κ L xs) (hr : lawR κ) (hX18 : mAt κ 18 (lf (V := Int32) (fun v => ([some (.ref 1400000), some (.ref 0), some (.ref 162), some (.int v)], [])) (fun v s => X18 v s))) : mAt κ 840 (lf (V := Int32) (fun v => ([some (.ref 1400000), some (.ref 0), some (.ref 162), some (.int v)], [])) (fun v s => claw_840 L xs v X18 s)) := m_lf (m_aload_n C dL_law_840 (m_aload_n C dL_law_841 (m_iload_n C dL_law_842 (m_iconst C dL_law_843 ki_1 (m_iadd C dL_law_844 (m_sld C hs dL_law_845 (m_aload_n C dL_law_846 (m_iload_n C dL_law_847 (m_iconst C dL_law_848 ki_2 (m_iadd C dL_law_849 (m_sld C hs dL_law_850 (m_callV C dL_law_851 M11_later (by decide) mc_11 cw_L_94 wt_944 wt_945 (m_aload_n C dL_law_854 (m_aload_n C dL_law_855 (m_iload_n C dL_law_856 (m_iconst C dL_law_857 ki_1 (m_iadd C dL_law_858 (m_sld C hs dL_law_859 (m_aload_n C dL_law_860 (m_iload_n C dL_law_861 (m_iconst C dL_law_862 ki_2 (m_iadd C dL_law_863 (m_sld C hs dL_law_864 (m_callV C dL_law_865 M12_later (by decide) mc_12 cw_L_97 wt_1961 wt_1962 (m_icmp_eq C dL_law_868 (by decide) (blaw_1314 C hs hr hX18) (m_iconst C dL_law_871 ki_0 (m_lawret C hr dL_law_872))))))))))))))))))))))))))) (fun v s h => by unfold claw_840 at h; exact (And.intro rfl (And.intro h.1 (And.intro rfl (And.intro h.2.1 (I11_later h.2.2 (by exact rfl) (fun _ s_3 h_2 => (And.intro rfl (And.intro h_2.1 (And.intro rfl (And.intro h_2.2.1 (I12_later h_2.2.2 (by exact rfl) (fun _ s_6 h_5 => (And.intro (fun q_7 => (llaw_1314 (h_5.1 q_7) (by exact (And.intro rfl (And.intro rfl (And.intro rfl (And.intro rfl rfl))))) (by exact rfl))) (fun q_7 => (False.elim (h_5.2 q_7)))))))))))))))))
theorem llaw_873 {L : Nat} {xs : Nat → Int32} {X18 : Int32 → sT → Prop} {v3 : Int32} {s : sT} {ls : mL} {st : List Value} (h : claw_873 L xs v3 X18 s) (h1 : lsub [some (.ref 1400000), some (.ref 0), some (.ref 162), some (.int v3)] ls) (h2 : st = []) : lf (V := Int32) (fun v => ([some (.ref 1400000), some (.ref 0), some (.ref 162), some (.int v)], [])) (fun v s => claw_873 L xs v X18 s) ls st (mk s) := lf_in (v := v3) h1 h2 h
set_option maxRecDepth 100000 in
set_option maxHeartbeats 4000000 in
theorem blaw_873 {κ : mX} {L : Nat} {xs : Nat → Int32} {X18 : Int32 → sT → Prop} (C : mOk κ cL_law RL 200) (hs : lawS κ L xs) (hr : lawR κ) (hX18 : mAt κ 18 (lf (V := Int32) (fun v => ([some (.ref 1400000), some (.ref 0), some (.ref 162), some (.int v)], [])) (fun v s => X18 v s))) : mAt κ 873 (lf (V := Int32) (fun v => ([some (.ref 1400000), some (.ref 0), some (.ref 162), some (.int v)], [])) (fun v s => claw_873 L xs v X18 s)) := m_lf (m_aload_n C dL_law_873 (m_aload_n C dL_law_874 (m_iload_n C dL_law_875 (m_iconst C dL_law_876 ki_1 (m_iadd C dL_law_877 (m_sld C hs dL_law_878 (m_callV C dL_law_879 M11_served (by decide) mc_11 cw_L_98 wt_979 wt_980 (m_aload_n C dL_law_882 (m_aload_n C dL_law_883 (m_iload_n C dL_law_884 (m_iconst C dL_law_885 ki_1 (m_iadd C dL_law_886 (m_sld C hs dL_law_887 (m_callV C dL_law_888 M12_served (by decide) mc_12 cw_L_101 wt_2008 wt_2009 (m_icmp_eq C dL_law_891 (by decide) (blaw_1314 C hs hr hX18) (m_iconst C dL_law_894 ki_0 (m_lawret C hr dL_law_895))))))))))))))))) (fun v s h => by unfold claw_873 at h; exact (And.intro rfl (And.intro h.1 (I11_served h.2 (by exact rfl) (fun _ s_3 h_2 => (And.intro rfl (And.intro h_2.1 (I12_served h_2.2 (by exact rfl) (fun _ s_6 h_5 => (And.intro (fun q_7 => (llaw_1314 (h_5.1 q_7) (by exact (And.intro rfl (And.intro rfl (And.intro rfl (And.intro rfl rfl))))) (by exact rfl))) (fun q_7 => (False.elim (h_5.2 q_7)))))))))))))
theorem llaw_896 {L : Nat} {xs : Nat → Int32} {X18 : Int32 → sT → Prop} {v3 : Int32} {s : sT} {ls : mL} {st : List Value} (h : claw_896 L xs v3 X18 s) (h1 : lsub [some (.ref 1400000), some (.ref 0), some (.ref 162), some (.int v3)] ls) (h2 : st = []) : lf (V := Int32) (fun v => ([some (.ref 1400000), some (.ref 0), some (.ref 162), some (.int v)], [])) (fun v s => claw_896 L xs v X18 s) ls st (mk s) := lf_in (v := v3) h1 h2 h
set_option maxRecDepth 100000 in
set_option maxHeartbeats 4000000 in
theorem blaw_896 {κ : mX} {L : Nat} {xs : Nat → Int32} {X18 : Int32 → sT → Prop} (C : mOk κ cL_law RL 200) (hs : lawS κ L xs) (hr : lawR κ) (hX18 : mAt κ 18 (lf (V := Int32) (fun v => ([some (.ref 1400000), some (.ref 0), some (.ref 162), some (.int v)], [])) (fun v s => X18 v s))) : mAt κ 896 (lf (V := Int32) (fun v => ([some (.ref 1400000), some (.ref 0), some (.ref 162), some (.int v)], [])) (fun v s => claw_896 L xs v X18 s)) := m_lf (m_aload_n C dL_law_896 (m_aload_n C dL_law_897 (m_iload_n C dL_law_898 (m_iconst C dL_law_899 ki_1 (m_iadd C dL_law_900 (m_sld C hs dL_law_901 (m_aload_n C dL_law_902 (m_iload_n C dL_law_903 (m_iconst C dL_law_904 ki_2 (m_iadd C dL_law_905 (m_sld C hs dL_law_906 (m_callV C dL_law_907 M11_left (by decide) mc_11 cw_L_102 wt_987 wt_988 (m_aload_n C dL_law_910 (m_aload_n C dL_law_911 (m_iload_n C dL_law_912 (m_iconst C dL_law_913 ki_1 (m_iadd C dL_law_914 (m_sld C hs dL_law_915 (m_aload_n C dL_law_916 (m_iload_n C dL_law_917 (m_iconst C dL_law_918 ki_2 (m_iadd C dL_law_919 (m_sld C hs dL_law_920 (m_callV C dL_law_921 M12_left (by decide) mc_12 cw_L_105 wt_2012 wt_2013 (m_icmp_eq C dL_law_924 (by decide) (blaw_1314 C hs hr hX18) (m_iconst C dL_law_927 ki_0 (m_lawret C hr dL_law_928))))))))))))))))))))))))))) (fun v s h => by unfold claw_896 at h; exact (And.intro rfl (And.intro h.1 (And.intro rfl (And.intro h.2.1 (I11_left h.2.2 (by exact rfl) (fun _ s_3 h_2 => (And.intro rfl (And.intro h_2.1 (And.intro rfl (And.intro h_2.2.1 (I12_left h_2.2.2 (by exact rfl) (fun _ s_6 h_5 => (And.intro (fun q_7 => (llaw_1314 (h_5.1 q_7) (by exact (And.intro rfl (And.intro rfl (And.intro rfl (And.intro rfl rfl))))) (by exact rfl))) (fun q_7 => (False.elim (h_5.2 q_7)))))))))))))))))
theorem llaw_929 {L : Nat} {xs : Nat → Int32} {X18 : Int32 → sT → Prop} {v3 : Int32} {s : sT} {ls : mL} {st : List Value} (h : claw_929 L xs v3 X18 s) (h1 : lsub [some (.ref 1400000), some (.ref 0), some (.ref 162), some (.int v3)] ls) (h2 : st = []) : lf (V := Int32) (fun v => ([some (.ref 1400000), some (.ref 0), some (.ref 162), some (.int v)], [])) (fun v s => claw_929 L xs v X18 s) ls st (mk s) := lf_in (v := v3) h1 h2 h
set_option maxRecDepth 100000 in
set_option maxHeartbeats 4000000 in
theorem blaw_929 {κ : mX} {L : Nat} {xs : Nat → Int32} {X18 : Int32 → sT → Prop} (C : mOk κ cL_law RL 200) (hs : lawS κ L xs) (hr : lawR κ) (hX18 : mAt κ 18 (lf (V := Int32) (fun v => ([some (.ref 1400000), some (.ref 0), some (.ref 162), some (.int v)], [])) (fun v s => X18 v s))) : mAt κ 929 (lf (V := Int32) (fun v => ([some (.ref 1400000), some (.ref 0), some (.ref 162), some (.int v)], [])) (fun v s => claw_929 L xs v X18 s)) := m_lf (m_aload_n C dL_law_929 (m_aload_n C dL_law_930 (m_iload_n C dL_law_931 (m_iconst C dL_law_932 ki_1 (m_iadd C dL_law_933 (m_sld C hs dL_law_934 (m_callV C dL_law_935 M11_cuts (by decide) mc_11 cw_L_106 wt_991 wt_992 (m_aload_n C dL_law_938 (m_aload_n C dL_law_939 (m_iload_n C dL_law_940 (m_iconst C dL_law_941 ki_1 (m_iadd C dL_law_942 (m_sld C hs dL_law_943 (m_callV C dL_law_944 M12_cuts (by decide) mc_12 cw_L_109 wt_2016 wt_2017 (m_icmp_eq C dL_law_947 (by decide) (blaw_1314 C hs hr hX18) (m_iconst C dL_law_950 ki_0 (m_lawret C hr dL_law_951))))))))))))))))) (fun v s h => by unfold claw_929 at h; exact (And.intro rfl (And.intro h.1 (I11_cuts h.2 (by exact rfl) (fun _ s_3 h_2 => (And.intro rfl (And.intro h_2.1 (I12_cuts h_2.2 (by exact rfl) (fun _ s_6 h_5 => (And.intro (fun q_7 => (llaw_1314 (h_5.1 q_7) (by exact (And.intro rfl (And.intro rfl (And.intro rfl (And.intro rfl rfl))))) (by exact rfl))) (fun q_7 => (False.elim (h_5.2 q_7)))))))))))))
theorem llaw_952 {L : Nat} {xs : Nat → Int32} {X18 : Int32 → sT → Prop} {v3 : Int32} {s : sT} {ls : mL} {st : List Value} (h : claw_952 L xs v3 X18 s) (h1 : lsub [some (.ref 1400000), some (.ref 0), some (.ref 162), some (.int v3)] ls) (h2 : st = []) : lf (V := Int32) (fun v => ([some (.ref 1400000), some (.ref 0), some (.ref 162), some (.int v)], [])) (fun v s => claw_952 L xs v X18 s) ls st (mk s) := lf_in (v := v3) h1 h2 h
set_option maxRecDepth 100000 in
set_option maxHeartbeats 4000000 in
theorem blaw_952 {κ : mX} {L : Nat} {xs : Nat → Int32} {X18 : Int32 → sT → Prop} (C : mOk κ cL_law RL 200) (hs : lawS κ L xs) (hr : lawR κ) (hX18 : mAt κ 18 (lf (V := Int32) (fun v => ([some (.ref 1400000), some (.ref 0), some (.ref 162), some (.int v)], [])) (fun v s => X18 v s))) : mAt κ 952 (lf (V := Int32) (fun v => ([some (.ref 1400000), some (.ref 0), some (.ref 162), some (.int v)], [])) (fun v s => claw_952 L xs v X18 s)) := m_lf (m_aload_n C dL_law_952 (m_aload_n C dL_law_953 (m_iload_n C dL_law_954 (m_iconst C dL_law_955 ki_1 (m_iadd C dL_law_956 (m_sld C hs dL_law_957 (m_callV C dL_law_958 M11_feast (by decide) mc_11 cw_L_110 wt_1017 wt_1018 (m_aload_n C dL_law_961 (m_aload_n C dL_law_962 (m_iload_n C dL_law_963 (m_iconst C dL_law_964 ki_1 (m_iadd C dL_law_965 (m_sld C hs dL_law_966 (m_callV C dL_law_967 M12_feast (by decide) mc_12 cw_L_113 wt_2033 wt_2034 (m_icmp_eq C dL_law_970 (by decide) (blaw_1314 C hs hr hX18) (m_iconst C dL_law_973 ki_0 (m_lawret C hr dL_law_974))))))))))))))))) (fun v s h => by unfold claw_952 at h; exact (And.intro rfl (And.intro h.1 (I11_feast h.2 (by exact rfl) (fun _ s_3 h_2 => (And.intro rfl (And.intro h_2.1 (I12_feast h_2.2 (by exact rfl) (fun _ s_6 h_5 => (And.intro (fun q_7 => (llaw_1314 (h_5.1 q_7) (by exact (And.intro rfl (And.intro rfl (And.intro rfl (And.intro rfl rfl))))) (by exact rfl))) (fun q_7 => (False.elim (h_5.2 q_7)))))))))))))
theorem llaw_975 {L : Nat} {xs : Nat → Int32} {X18 : Int32 → sT → Prop} {v3 : Int32} {s : sT} {ls : mL} {st : List Value} (h : claw_975 L xs v3 X18 s) (h1 : lsub [some (.ref 1400000), some (.ref 0), some (.ref 162), some (.int v3)] ls) (h2 : st = []) : lf (V := Int32) (fun v => ([some (.ref 1400000), some (.ref 0), some (.ref 162), some (.int v)], [])) (fun v s => claw_975 L xs v X18 s) ls st (mk s) := lf_in (v := v3) h1 h2 h
set_option maxRecDepth 100000 in
set_option maxHeartbeats 4000000 in
theorem blaw_975 {κ : mX} {L : Nat} {xs : Nat → Int32} {X18 : Int32 → sT → Prop} (C : mOk κ cL_law RL 200) (hs : lawS κ L xs) (hr : lawR κ) (hX18 : mAt κ 18 (lf (V := Int32) (fun v => ([some (.ref 1400000), some (.ref 0), some (.ref 162), some (.int v)], [])) (fun v s => X18 v s))) : mAt κ 975 (lf (V := Int32) (fun v => ([some (.ref 1400000), some (.ref 0), some (.ref 162), some (.int v)], [])) (fun v s => claw_975 L xs v X18 s)) := m_lf (m_aload_n C dL_law_975 (m_aload_n C dL_law_976 (m_iload_n C dL_law_977 (m_iconst C dL_law_978 ki_1 (m_iadd C dL_law_979 (m_sld C hs dL_law_980 (m_callV C dL_law_981 M11_odds (by decide) mc_11 cw_L_114 wt_1032 wt_1033 (m_aload_n C dL_law_984 (m_aload_n C dL_law_985 (m_iload_n C dL_law_986 (m_iconst C dL_law_987 ki_1 (m_iadd C dL_law_988 (m_sld C hs dL_law_989 (m_callV C dL_law_990 M12_odds (by decide) mc_12 cw_L_117 wt_2045 wt_2046 (m_icmp_eq C dL_law_993 (by decide) (blaw_1314 C hs hr hX18) (m_iconst C dL_law_996 ki_0 (m_lawret C hr dL_law_997))))))))))))))))) (fun v s h => by unfold claw_975 at h; exact (And.intro rfl (And.intro h.1 (I11_odds h.2 (by exact rfl) (fun _ s_3 h_2 => (And.intro rfl (And.intro h_2.1 (I12_odds h_2.2 (by exact rfl) (fun _ s_6 h_5 => (And.intro (fun q_7 => (llaw_1314 (h_5.1 q_7) (by exact (And.intro rfl (And.intro rfl (And.intro rfl (And.intro rfl rfl))))) (by exact rfl))) (fun q_7 => (False.elim (h_5.2 q_7)))))))))))))
theorem llaw_998 {L : Nat} {xs : Nat → Int32} {X18 : Int32 → sT → Prop} {v3 : Int32} {s : sT} {ls : mL} {st : List Value} (h : claw_998 L xs v3 X18 s) (h1 : lsub [some (.ref 1400000), some (.ref 0), some (.ref 162), some (.int v3)] ls) (h2 : st = []) : lf (V := Int32) (fun v => ([some (.ref 1400000), some (.ref 0), some (.ref 162), some (.int v)], [])) (fun v s => claw_998 L xs v X18 s) ls st (mk s) := lf_in (v := v3) h1 h2 h
set_option maxRecDepth 100000 in
set_option maxHeartbeats 4000000 in
theorem blaw_998 {κ : mX} {L : Nat} {xs : Nat → Int32} {X18 : Int32 → sT → Prop} (C : mOk κ cL_law RL 200) (hs : lawS κ L xs) (hr : lawR κ) (hX18 : mAt κ 18 (lf (V := Int32) (fun v => ([some (.ref 1400000), some (.ref 0), some (.ref 162), some (.int v)], [])) (fun v s => X18 v s))) : mAt κ 998 (lf (V := Int32) (fun v => ([some (.ref 1400000), some (.ref 0), some (.ref 162), some (.int v)], [])) (fun v s => claw_998 L xs v X18 s)) := m_lf (m_aload_n C dL_law_998 (m_callV C dL_law_999 M11_see (by decide) mc_11 cw_L_118 wt_1048 wt_1049 (m_aload_n C dL_law_1002 (m_callV C dL_law_1003 M12_see (by decide) mc_12 cw_L_121 wt_2053 wt_2054 (m_icmp_eq C dL_law_1006 (by decide) (blaw_1314 C hs hr hX18) (m_iconst C dL_law_1009 ki_0 (m_lawret C hr dL_law_1010))))))) (fun v s h => by unfold claw_998 at h; exact (I11_see h (by exact rfl) (fun _ s_3 h_2 => (I12_see h_2 (by exact rfl) (fun _ s_6 h_5 => (And.intro (fun q_7 => (llaw_1314 (h_5.1 q_7) (by exact (And.intro rfl (And.intro rfl (And.intro rfl (And.intro rfl rfl))))) (by exact rfl))) (fun q_7 => (False.elim (h_5.2 q_7)))))))))
theorem llaw_1011 {L : Nat} {xs : Nat → Int32} {X18 : Int32 → sT → Prop} {v3 : Int32} {s : sT} {ls : mL} {st : List Value} (h : claw_1011 L xs v3 X18 s) (h1 : lsub [some (.ref 1400000), some (.ref 0), some (.ref 162), some (.int v3)] ls) (h2 : st = []) : lf (V := Int32) (fun v => ([some (.ref 1400000), some (.ref 0), some (.ref 162), some (.int v)], [])) (fun v s => claw_1011 L xs v X18 s) ls st (mk s) := lf_in (v := v3) h1 h2 h
set_option maxRecDepth 100000 in
set_option maxHeartbeats 4000000 in
theorem blaw_1011 {κ : mX} {L : Nat} {xs : Nat → Int32} {X18 : Int32 → sT → Prop} (C : mOk κ cL_law RL 200) (hs : lawS κ L xs) (hr : lawR κ) (hX18 : mAt κ 18 (lf (V := Int32) (fun v => ([some (.ref 1400000), some (.ref 0), some (.ref 162), some (.int v)], [])) (fun v s => X18 v s))) : mAt κ 1011 (lf (V := Int32) (fun v => ([some (.ref 1400000), some (.ref 0), some (.ref 162), some (.int v)], [])) (fun v s => claw_1011 L xs v X18 s)) := m_lf (m_aload_n C dL_law_1011 (m_aload_n C dL_law_1012 (m_iload_n C dL_law_1013 (m_iconst C dL_law_1014 ki_1 (m_iadd C dL_law_1015 (m_sld C hs dL_law_1016 (m_callV C dL_law_1017 M11_stocks (by decide) mc_11 cw_L_122 wt_1057 wt_1058 (m_aload_n C dL_law_1020 (m_aload_n C dL_law_1021 (m_iload_n C dL_law_1022 (m_iconst C dL_law_1023 ki_1 (m_iadd C dL_law_1024 (m_sld C hs dL_law_1025 (m_callV C dL_law_1026 M12_stocks (by decide) mc_12 cw_L_125 wt_2057 wt_2058 (m_icmp_eq C dL_law_1029 (by decide) (blaw_1314 C hs hr hX18) (m_iconst C dL_law_1032 ki_0 (m_lawret C hr dL_law_1033))))))))))))))))) (fun v s h => by unfold claw_1011 at h; exact (And.intro rfl (And.intro h.1 (I11_stocks h.2 (by exact rfl) (fun _ s_3 h_2 => (And.intro rfl (And.intro h_2.1 (I12_stocks h_2.2 (by exact rfl) (fun _ s_6 h_5 => (And.intro (fun q_7 => (llaw_1314 (h_5.1 q_7) (by exact (And.intro rfl (And.intro rfl (And.intro rfl (And.intro rfl rfl))))) (by exact rfl))) (fun q_7 => (False.elim (h_5.2 q_7)))))))))))))
theorem llaw_1034 {L : Nat} {xs : Nat → Int32} {X18 : Int32 → sT → Prop} {v3 : Int32} {s : sT} {ls : mL} {st : List Value} (h : claw_1034 L xs v3 X18 s) (h1 : lsub [some (.ref 1400000), some (.ref 0), some (.ref 162), some (.int v3)] ls) (h2 : st = []) : lf (V := Int32) (fun v => ([some (.ref 1400000), some (.ref 0), some (.ref 162), some (.int v)], [])) (fun v s => claw_1034 L xs v X18 s) ls st (mk s) := lf_in (v := v3) h1 h2 h
set_option maxRecDepth 100000 in
set_option maxHeartbeats 4000000 in
theorem blaw_1034 {κ : mX} {L : Nat} {xs : Nat → Int32} {X18 : Int32 → sT → Prop} (C : mOk κ cL_law RL 200) (hs : lawS κ L xs) (hr : lawR κ) (hX18 : mAt κ 18 (lf (V := Int32) (fun v => ([some (.ref 1400000), some (.ref 0), some (.ref 162), some (.int v)], [])) (fun v s => X18 v s))) : mAt κ 1034 (lf (V := Int32) (fun v => ([some (.ref 1400000), some (.ref 0), some (.ref 162), some (.int v)], [])) (fun v s => claw_1034 L xs v X18 s)) := m_lf (m_aload_n C dL_law_1034 (m_aload_n C dL_law_1035 (m_iload_n C dL_law_1036 (m_iconst C dL_law_1037 ki_1 (m_iadd C dL_law_1038 (m_sld C hs dL_law_1039 (m_aload_n C dL_law_1040 (m_iload_n C dL_law_1041 (m_iconst C dL_law_1042 ki_2 (m_iadd C dL_law_1043 (m_sld C hs dL_law_1044 (m_callV C dL_law_1045 M11_tells (by decide) mc_11 cw_L_126 wt_1086 wt_1087 (m_aload_n C dL_law_1048 (m_aload_n C dL_law_1049 (m_iload_n C dL_law_1050 (m_iconst C dL_law_1051 ki_1 (m_iadd C dL_law_1052 (m_sld C hs dL_law_1053 (m_aload_n C dL_law_1054 (m_iload_n C dL_law_1055 (m_iconst C dL_law_1056 ki_2 (m_iadd C dL_law_1057 (m_sld C hs dL_law_1058 (m_callV C dL_law_1059 M12_tells (by decide) mc_12 cw_L_129 wt_2069 wt_2070 (m_icmp_eq C dL_law_1062 (by decide) (blaw_1314 C hs hr hX18) (m_iconst C dL_law_1065 ki_0 (m_lawret C hr dL_law_1066))))))))))))))))))))))))))) (fun v s h => by unfold claw_1034 at h; exact (And.intro rfl (And.intro h.1 (And.intro rfl (And.intro h.2.1 (I11_tells h.2.2 (by exact rfl) (fun _ s_3 h_2 => (And.intro rfl (And.intro h_2.1 (And.intro rfl (And.intro h_2.2.1 (I12_tells h_2.2.2 (by exact rfl) (fun _ s_6 h_5 => (And.intro (fun q_7 => (llaw_1314 (h_5.1 q_7) (by exact (And.intro rfl (And.intro rfl (And.intro rfl (And.intro rfl rfl))))) (by exact rfl))) (fun q_7 => (False.elim (h_5.2 q_7)))))))))))))))))
theorem llaw_1067 {L : Nat} {xs : Nat → Int32} {X18 : Int32 → sT → Prop} {v3 : Int32} {s : sT} {ls : mL} {st : List Value} (h : claw_1067 L xs v3 X18 s) (h1 : lsub [some (.ref 1400000), some (.ref 0), some (.ref 162), some (.int v3)] ls) (h2 : st = []) : lf (V := Int32) (fun v => ([some (.ref 1400000), some (.ref 0), some (.ref 162), some (.int v)], [])) (fun v s => claw_1067 L xs v X18 s) ls st (mk s) := lf_in (v := v3) h1 h2 h
set_option maxRecDepth 100000 in
set_option maxHeartbeats 4000000 in
theorem blaw_1067 {κ : mX} {L : Nat} {xs : Nat → Int32} {X18 : Int32 → sT → Prop} (C : mOk κ cL_law RL 200) (hs : lawS κ L xs) (hr : lawR κ) (hX18 : mAt κ 18 (lf (V := Int32) (fun v => ([some (.ref 1400000), some (.ref 0), some (.ref 162), some (.int v)], [])) (fun v s => X18 v s))) : mAt κ 1067 (lf (V := Int32) (fun v => ([some (.ref 1400000), some (.ref 0), some (.ref 162), some (.int v)], [])) (fun v s => claw_1067 L xs v X18 s)) := m_lf (m_aload_n C dL_law_1067 (m_aload_n C dL_law_1068 (m_iload_n C dL_law_1069 (m_iconst C dL_law_1070 ki_1 (m_iadd C dL_law_1071 (m_sld C hs dL_law_1072 (m_callV C dL_law_1073 M11_cut (by decide) mc_11 cw_L_130 wt_1099 wt_1100 (m_aload_n C dL_law_1076 (m_aload_n C dL_law_1077 (m_iload_n C dL_law_1078 (m_iconst C dL_law_1079 ki_1 (m_iadd C dL_law_1080 (m_sld C hs dL_law_1081 (m_callV C dL_law_1082 M12_cut (by decide) mc_12 cw_L_133 wt_2081 wt_2082 (m_icmp_eq C dL_law_1085 (by decide) (blaw_1314 C hs hr hX18) (m_iconst C dL_law_1088 ki_0 (m_lawret C hr dL_law_1089))))))))))))))))) (fun v s h => by unfold claw_1067 at h; exact (And.intro rfl (And.intro h.1 (I11_cut h.2 (by exact rfl) (fun _ s_3 h_2 => (And.intro rfl (And.intro h_2.1 (I12_cut h_2.2 (by exact rfl) (fun _ s_6 h_5 => (And.intro (fun q_7 => (llaw_1314 (h_5.1 q_7) (by exact (And.intro rfl (And.intro rfl (And.intro rfl (And.intro rfl rfl))))) (by exact rfl))) (fun q_7 => (False.elim (h_5.2 q_7)))))))))))))
theorem llaw_1090 {L : Nat} {xs : Nat → Int32} {X18 : Int32 → sT → Prop} {v3 : Int32} {s : sT} {ls : mL} {st : List Value} (h : claw_1090 L xs v3 X18 s) (h1 : lsub [some (.ref 1400000), some (.ref 0), some (.ref 162), some (.int v3)] ls) (h2 : st = []) : lf (V := Int32) (fun v => ([some (.ref 1400000), some (.ref 0), some (.ref 162), some (.int v)], [])) (fun v s => claw_1090 L xs v X18 s) ls st (mk s) := lf_in (v := v3) h1 h2 h
set_option maxRecDepth 100000 in
set_option maxHeartbeats 4000000 in
theorem blaw_1090 {κ : mX} {L : Nat} {xs : Nat → Int32} {X18 : Int32 → sT → Prop} (C : mOk κ cL_law RL 200) (hs : lawS κ L xs) (hr : lawR κ) (hX18 : mAt κ 18 (lf (V := Int32) (fun v => ([some (.ref 1400000), some (.ref 0), some (.ref 162), some (.int v)], [])) (fun v s => X18 v s))) : mAt κ 1090 (lf (V := Int32) (fun v => ([some (.ref 1400000), some (.ref 0), some (.ref 162), some (.int v)], [])) (fun v s => claw_1090 L xs v X18 s)) := m_lf (m_aload_n C dL_law_1090 (m_aload_n C dL_law_1091 (m_iload_n C dL_law_1092 (m_iconst C dL_law_1093 ki_1 (m_iadd C dL_law_1094 (m_sld C hs dL_law_1095 (m_callV C dL_law_1096 M11_bake (by decide) mc_11 cw_L_134 wt_1112 wt_1113 (m_aload_n C dL_law_1099 (m_aload_n C dL_law_1100 (m_iload_n C dL_law_1101 (m_iconst C dL_law_1102 ki_1 (m_iadd C dL_law_1103 (m_sld C hs dL_law_1104 (m_callV C dL_law_1105 M12_bake (by decide) mc_12 cw_L_137 wt_2089 wt_2090 (m_icmp_eq C dL_law_1108 (by decide) (blaw_1314 C hs hr hX18) (m_iconst C dL_law_1111 ki_0 (m_lawret C hr dL_law_1112))))))))))))))))) (fun v s h => by unfold claw_1090 at h; exact (And.intro rfl (And.intro h.1 (I11_bake h.2 (by exact rfl) (fun _ s_3 h_2 => (And.intro rfl (And.intro h_2.1 (I12_bake h_2.2 (by exact rfl) (fun _ s_6 h_5 => (And.intro (fun q_7 => (llaw_1314 (h_5.1 q_7) (by exact (And.intro rfl (And.intro rfl (And.intro rfl (And.intro rfl rfl))))) (by exact rfl))) (fun q_7 => (False.elim (h_5.2 q_7)))))))))))))
theorem llaw_1113 {L : Nat} {xs : Nat → Int32} {X18 : Int32 → sT → Prop} {v3 : Int32} {s : sT} {ls : mL} {st : List Value} (h : claw_1113 L xs v3 X18 s) (h1 : lsub [some (.ref 1400000), some (.ref 0), some (.ref 162), some (.int v3)] ls) (h2 : st = []) : lf (V := Int32) (fun v => ([some (.ref 1400000), some (.ref 0), some (.ref 162), some (.int v)], [])) (fun v s => claw_1113 L xs v X18 s) ls st (mk s) := lf_in (v := v3) h1 h2 h
set_option maxRecDepth 100000 in
set_option maxHeartbeats 4000000 in
theorem blaw_1113 {κ : mX} {L : Nat} {xs : Nat → Int32} {X18 : Int32 → sT → Prop} (C : mOk κ cL_law RL 200) (hs : lawS κ L xs) (hr : lawR κ) (hX18 : mAt κ 18 (lf (V := Int32) (fun v => ([some (.ref 1400000), some (.ref 0), some (.ref 162), some (.int v)], [])) (fun v s => X18 v s))) : mAt κ 1113 (lf (V := Int32) (fun v => ([some (.ref 1400000), some (.ref 0), some (.ref 162), some (.int v)], [])) (fun v s => claw_1113 L xs v X18 s)) := m_lf (m_aload_n C dL_law_1113 (m_aload_n C dL_law_1114 (m_iload_n C dL_law_1115 (m_iconst C dL_law_1116 ki_1 (m_iadd C dL_law_1117 (m_sld C hs dL_law_1118 (m_aload_n C dL_law_1119 (m_iload_n C dL_law_1120 (m_iconst C dL_law_1121 ki_2 (m_iadd C dL_law_1122 (m_sld C hs dL_law_1123 (m_callV C dL_law_1124 M11_serve (by decide) mc_11 cw_L_138 wt_1116 wt_1117 (m_aload_n C dL_law_1127 (m_aload_n C dL_law_1128 (m_iload_n C dL_law_1129 (m_iconst C dL_law_1130 ki_1 (m_iadd C dL_law_1131 (m_sld C hs dL_law_1132 (m_aload_n C dL_law_1133 (m_iload_n C dL_law_1134 (m_iconst C dL_law_1135 ki_2 (m_iadd C dL_law_1136 (m_sld C hs dL_law_1137 (m_callV C dL_law_1138 M12_serve (by decide) mc_12 cw_L_142 wt_2093 wt_2094 (m_icmp_eq C dL_law_1141 (by decide) (blaw_1314 C hs hr hX18) (m_iconst C dL_law_1144 ki_0 (m_lawret C hr dL_law_1145))))))))))))))))))))))))))) (fun v s h => by unfold claw_1113 at h; exact (And.intro rfl (And.intro h.1 (And.intro rfl (And.intro h.2.1 (I11_serve h.2.2 (by exact rfl) (fun _ s_3 h_2 => (And.intro rfl (And.intro h_2.1 (And.intro rfl (And.intro h_2.2.1 (I12_serve h_2.2.2 (by exact rfl) (fun _ s_6 h_5 => (And.intro (fun q_7 => (llaw_1314 (h_5.1 q_7) (by exact (And.intro rfl (And.intro rfl (And.intro rfl (And.intro rfl rfl))))) (by exact rfl))) (fun q_7 => (False.elim (h_5.2 q_7)))))))))))))))))
theorem llaw_1146 {L : Nat} {xs : Nat → Int32} {X18 : Int32 → sT → Prop} {v3 : Int32} {s : sT} {ls : mL} {st : List Value} (h : claw_1146 L xs v3 X18 s) (h1 : lsub [some (.ref 1400000), some (.ref 0), some (.ref 162), some (.int v3)] ls) (h2 : st = []) : lf (V := Int32) (fun v => ([some (.ref 1400000), some (.ref 0), some (.ref 162), some (.int v)], [])) (fun v s => claw_1146 L xs v X18 s) ls st (mk s) := lf_in (v := v3) h1 h2 h
set_option maxRecDepth 100000 in
set_option maxHeartbeats 4000000 in
theorem blaw_1146 {κ : mX} {L : Nat} {xs : Nat → Int32} {X18 : Int32 → sT → Prop} (C : mOk κ cL_law RL 200) (hs : lawS κ L xs) (hr : lawR κ) (hX18 : mAt κ 18 (lf (V := Int32) (fun v => ([some (.ref 1400000), some (.ref 0), some (.ref 162), some (.int v)], [])) (fun v s => X18 v s))) : mAt κ 1146 (lf (V := Int32) (fun v => ([some (.ref 1400000), some (.ref 0), some (.ref 162), some (.int v)], [])) (fun v s => claw_1146 L xs v X18 s)) := m_lf (m_aload_n C dL_law_1146 (m_aload_n C dL_law_1147 (m_iload_n C dL_law_1148 (m_iconst C dL_law_1149 ki_1 (m_iadd C dL_law_1150 (m_sld C hs dL_law_1151 (m_callV C dL_law_1152 M11_days (by decide) mc_11 cw_L_143 wt_1130 wt_1131 (m_aload_n C dL_law_1155 (m_aload_n C dL_law_1156 (m_iload_n C dL_law_1157 (m_iconst C dL_law_1158 ki_1 (m_iadd C dL_law_1159 (m_sld C hs dL_law_1160 (m_callV C dL_law_1161 M12_days (by decide) mc_12 cw_L_146 wt_2105 wt_2106 (m_icmp_eq C dL_law_1164 (by decide) (blaw_1314 C hs hr hX18) (m_iconst C dL_law_1167 ki_0 (m_lawret C hr dL_law_1168))))))))))))))))) (fun v s h => by unfold claw_1146 at h; exact (And.intro rfl (And.intro h.1 (I11_days h.2 (by exact rfl) (fun _ s_3 h_2 => (And.intro rfl (And.intro h_2.1 (I12_days h_2.2 (by exact rfl) (fun _ s_6 h_5 => (And.intro (fun q_7 => (llaw_1314 (h_5.1 q_7) (by exact (And.intro rfl (And.intro rfl (And.intro rfl (And.intro rfl rfl))))) (by exact rfl))) (fun q_7 => (False.elim (h_5.2 q_7)))))))))))))
theorem llaw_1169 {L : Nat} {xs : Nat → Int32} {X18 : Int32 → sT → Prop} {v3 : Int32} {s : sT} {ls : mL} {st : List Value} (h : claw_1169 L xs v3 X18 s) (h1 : lsub [some (.ref 1400000), some (.ref 0), some (.ref 162), some (.int v3)] ls) (h2 : st = []) : lf (V := Int32) (fun v => ([some (.ref 1400000), some (.ref 0), some (.ref 162), some (.int v)], [])) (fun v s => claw_1169 L xs v X18 s) ls st (mk s) := lf_in (v := v3) h1 h2 h
set_option maxRecDepth 100000 in
set_option maxHeartbeats 4000000 in
theorem blaw_1169 {κ : mX} {L : Nat} {xs : Nat → Int32} {X18 : Int32 → sT → Prop} (C : mOk κ cL_law RL 200) (hs : lawS κ L xs) (hr : lawR κ) (hX18 : mAt κ 18 (lf (V := Int32) (fun v => ([some (.ref 1400000), some (.ref 0), some (.ref 162), some (.int v)], [])) (fun v s => X18 v s))) : mAt κ 1169 (lf (V := Int32) (fun v => ([some (.ref 1400000), some (.ref 0), some (.ref 162), some (.int v)], [])) (fun v s => claw_1169 L xs v X18 s)) := m_lf (m_aload_n C dL_law_1169 (m_aload_n C dL_law_1170 (m_iload_n C dL_law_1171 (m_iconst C dL_law_1172 ki_1 (m_iadd C dL_law_1173 (m_sld C hs dL_law_1174 (m_callV C dL_law_1175 M11_chance (by decide) mc_11 cw_L_147 wt_1140 wt_1141 (m_aload_n C dL_law_1178 (m_aload_n C dL_law_1179 (m_iload_n C dL_law_1180 (m_iconst C dL_law_1181 ki_1 (m_iadd C dL_law_1182 (m_sld C hs dL_law_1183 (m_callV C dL_law_1184 M12_chance (by decide) mc_12 cw_L_150 wt_2113 wt_2114 (m_icmp_eq C dL_law_1187 (by decide) (blaw_1314 C hs hr hX18) (m_iconst C dL_law_1190 ki_0 (m_lawret C hr dL_law_1191))))))))))))))))) (fun v s h => by unfold claw_1169 at h; exact (And.intro rfl (And.intro h.1 (I11_chance h.2 (by exact rfl) (fun _ s_3 h_2 => (And.intro rfl (And.intro h_2.1 (I12_chance h_2.2 (by exact rfl) (fun _ s_6 h_5 => (And.intro (fun q_7 => (llaw_1314 (h_5.1 q_7) (by exact (And.intro rfl (And.intro rfl (And.intro rfl (And.intro rfl rfl))))) (by exact rfl))) (fun q_7 => (False.elim (h_5.2 q_7)))))))))))))
theorem llaw_1192 {L : Nat} {xs : Nat → Int32} {X18 : Int32 → sT → Prop} {v3 : Int32} {s : sT} {ls : mL} {st : List Value} (h : claw_1192 L xs v3 X18 s) (h1 : lsub [some (.ref 1400000), some (.ref 0), some (.ref 162), some (.int v3)] ls) (h2 : st = []) : lf (V := Int32) (fun v => ([some (.ref 1400000), some (.ref 0), some (.ref 162), some (.int v)], [])) (fun v s => claw_1192 L xs v X18 s) ls st (mk s) := lf_in (v := v3) h1 h2 h
set_option maxRecDepth 100000 in
set_option maxHeartbeats 4000000 in
theorem blaw_1192 {κ : mX} {L : Nat} {xs : Nat → Int32} {X18 : Int32 → sT → Prop} (C : mOk κ cL_law RL 200) (hs : lawS κ L xs) (hr : lawR κ) (hX18 : mAt κ 18 (lf (V := Int32) (fun v => ([some (.ref 1400000), some (.ref 0), some (.ref 162), some (.int v)], [])) (fun v s => X18 v s))) : mAt κ 1192 (lf (V := Int32) (fun v => ([some (.ref 1400000), some (.ref 0), some (.ref 162), some (.int v)], [])) (fun v s => claw_1192 L xs v X18 s)) := m_lf (m_aload_n C dL_law_1192 (m_callV C dL_law_1193 M11_undo (by decide) mc_11 cw_L_151 wt_1152 wt_1153 (m_aload_n C dL_law_1196 (m_callV C dL_law_1197 M12_undo (by decide) mc_12 cw_L_155 wt_2077 wt_2078 (m_icmp_eq C dL_law_1200 (by decide) (blaw_1314 C hs hr hX18) (m_iconst C dL_law_1203 ki_0 (m_lawret C hr dL_law_1204))))))) (fun v s h => by unfold claw_1192 at h; exact (I11_undo h (by exact rfl) (fun _ s_3 h_2 => (I12_undo h_2 (by exact rfl) (fun _ s_6 h_5 => (And.intro (fun q_7 => (llaw_1314 (h_5.1 q_7) (by exact (And.intro rfl (And.intro rfl (And.intro rfl (And.intro rfl rfl))))) (by exact rfl))) (fun q_7 => (False.elim (h_5.2 q_7)))))))))
theorem llaw_1205 {L : Nat} {xs : Nat → Int32} {X18 : Int32 → sT → Prop} {v3 : Int32} {s : sT} {ls : mL} {st : List Value} (h : claw_1205 L xs v3 X18 s) (h1 : lsub [some (.ref 1400000), some (.ref 0), some (.ref 162), some (.int v3)] ls) (h2 : st = []) : lf (V := Int32) (fun v => ([some (.ref 1400000), some (.ref 0), some (.ref 162), some (.int v)], [])) (fun v s => claw_1205 L xs v X18 s) ls st (mk s) := lf_in (v := v3) h1 h2 h
set_option maxRecDepth 100000 in
set_option maxHeartbeats 4000000 in
theorem blaw_1205 {κ : mX} {L : Nat} {xs : Nat → Int32} {X18 : Int32 → sT → Prop} (C : mOk κ cL_law RL 200) (hs : lawS κ L xs) (hr : lawR κ) (hX18 : mAt κ 18 (lf (V := Int32) (fun v => ([some (.ref 1400000), some (.ref 0), some (.ref 162), some (.int v)], [])) (fun v s => X18 v s))) : mAt κ 1205 (lf (V := Int32) (fun v => ([some (.ref 1400000), some (.ref 0), some (.ref 162), some (.int v)], [])) (fun v s => claw_1205 L xs v X18 s)) := m_lf (m_aload_n C dL_law_1205 (m_aload_n C dL_law_1206 (m_iload_n C dL_law_1207 (m_iconst C dL_law_1208 ki_1 (m_iadd C dL_law_1209 (m_sld C hs dL_law_1210 (m_callV C dL_law_1211 M11_seed (by decide) mc_11 cw_L_156 wt_1160 wt_1161 (m_aload_n C dL_law_1214 (m_aload_n C dL_law_1215 (m_iload_n C dL_law_1216 (m_iconst C dL_law_1217 ki_1 (m_iadd C dL_law_1218 (m_sld C hs dL_law_1219 (m_callV C dL_law_1220 M12_seed (by decide) mc_12 cw_L_159 wt_2109 wt_2110 (m_icmp_eq C dL_law_1223 (by decide) (blaw_1314 C hs hr hX18) (m_iconst C dL_law_1226 ki_0 (m_lawret C hr dL_law_1227))))))))))))))))) (fun v s h => by unfold claw_1205 at h; exact (And.intro rfl (And.intro h.1 (I11_seed h.2 (by exact rfl) (fun _ s_3 h_2 => (And.intro rfl (And.intro h_2.1 (I12_seed h_2.2 (by exact rfl) (fun _ s_6 h_5 => (And.intro (fun q_7 => (llaw_1314 (h_5.1 q_7) (by exact (And.intro rfl (And.intro rfl (And.intro rfl (And.intro rfl rfl))))) (by exact rfl))) (fun q_7 => (False.elim (h_5.2 q_7)))))))))))))
theorem llaw_1228 {L : Nat} {xs : Nat → Int32} {X18 : Int32 → sT → Prop} {v3 : Int32} {s : sT} {ls : mL} {st : List Value} (h : claw_1228 L xs v3 X18 s) (h1 : lsub [some (.ref 1400000), some (.ref 0), some (.ref 162), some (.int v3)] ls) (h2 : st = []) : lf (V := Int32) (fun v => ([some (.ref 1400000), some (.ref 0), some (.ref 162), some (.int v)], [])) (fun v s => claw_1228 L xs v X18 s) ls st (mk s) := lf_in (v := v3) h1 h2 h
set_option maxRecDepth 100000 in
set_option maxHeartbeats 4000000 in
theorem blaw_1228 {κ : mX} {L : Nat} {xs : Nat → Int32} {X18 : Int32 → sT → Prop} (C : mOk κ cL_law RL 200) (hs : lawS κ L xs) (hr : lawR κ) (hX18 : mAt κ 18 (lf (V := Int32) (fun v => ([some (.ref 1400000), some (.ref 0), some (.ref 162), some (.int v)], [])) (fun v s => X18 v s))) : mAt κ 1228 (lf (V := Int32) (fun v => ([some (.ref 1400000), some (.ref 0), some (.ref 162), some (.int v)], [])) (fun v s => claw_1228 L xs v X18 s)) := m_lf (m_aload_n C dL_law_1228 (m_callV C dL_law_1229 M11_ask (by decide) mc_11 cw_L_160 wt_1164 wt_1165 (m_aload_n C dL_law_1232 (m_callV C dL_law_1233 M12_ask (by decide) mc_12 cw_L_164 wt_2125 wt_2126 (m_lcmp C dL_law_1236 (m_if_eq C dL_law_1237 (by decide) (blaw_1314 C hs hr hX18) (m_iconst C dL_law_1240 ki_0 (m_lawret C hr dL_law_1241)))))))) (fun v s h => by unfold claw_1228 at h; exact (I11_ask h (by exact rfl) (fun _ s_3 h_2 => (I12_ask h_2 (by exact rfl) (fun _ s_6 h_5 => (And.intro (fun q_7 => (llaw_1314 (h_5.1 (cmp_eq.mp q_7)) (by exact (And.intro rfl (And.intro rfl (And.intro rfl (And.intro rfl rfl))))) (by exact rfl))) (fun q_7 => (False.elim (h_5.2 (fun z => q_7 (cmp_eq.mpr z)))))))))))
theorem llaw_1242 {L : Nat} {xs : Nat → Int32} {X18 : Int32 → sT → Prop} {v3 : Int32} {s : sT} {ls : mL} {st : List Value} (h : claw_1242 L xs v3 X18 s) (h1 : lsub [some (.ref 1400000), some (.ref 0), some (.ref 162), some (.int v3)] ls) (h2 : st = []) : lf (V := Int32) (fun v => ([some (.ref 1400000), some (.ref 0), some (.ref 162), some (.int v)], [])) (fun v s => claw_1242 L xs v X18 s) ls st (mk s) := lf_in (v := v3) h1 h2 h
set_option maxRecDepth 100000 in
set_option maxHeartbeats 4000000 in
theorem blaw_1242 {κ : mX} {L : Nat} {xs : Nat → Int32} {X18 : Int32 → sT → Prop} (C : mOk κ cL_law RL 200) (hs : lawS κ L xs) (hr : lawR κ) (hX18 : mAt κ 18 (lf (V := Int32) (fun v => ([some (.ref 1400000), some (.ref 0), some (.ref 162), some (.int v)], [])) (fun v s => X18 v s))) : mAt κ 1242 (lf (V := Int32) (fun v => ([some (.ref 1400000), some (.ref 0), some (.ref 162), some (.int v)], [])) (fun v s => claw_1242 L xs v X18 s)) := m_lf (m_aload_n C dL_law_1242 (m_callV C dL_law_1243 M11_image (by decide) mc_11 cw_L_165 wt_1217 wt_1218 (m_aload_n C dL_law_1246 (m_callV C dL_law_1247 M12_image (by decide) mc_12 cw_L_168 wt_2153 wt_2154 (m_icmp_eq C dL_law_1250 (by decide) (blaw_1314 C hs hr hX18) (m_iconst C dL_law_1253 ki_0 (m_lawret C hr dL_law_1254))))))) (fun v s h => by unfold claw_1242 at h; exact (I11_image h (by exact rfl) (fun _ s_3 h_2 => (I12_image h_2 (by exact rfl) (fun _ s_6 h_5 => (And.intro (fun q_7 => (llaw_1314 (h_5.1 q_7) (by exact (And.intro rfl (And.intro rfl (And.intro rfl (And.intro rfl rfl))))) (by exact rfl))) (fun q_7 => (False.elim (h_5.2 q_7)))))))))
theorem llaw_1255 {L : Nat} {xs : Nat → Int32} {X18 : Int32 → sT → Prop} {v3 : Int32} {s : sT} {ls : mL} {st : List Value} (h : claw_1255 L xs v3 X18 s) (h1 : lsub [some (.ref 1400000), some (.ref 0), some (.ref 162), some (.int v3)] ls) (h2 : st = []) : lf (V := Int32) (fun v => ([some (.ref 1400000), some (.ref 0), some (.ref 162), some (.int v)], [])) (fun v s => claw_1255 L xs v X18 s) ls st (mk s) := lf_in (v := v3) h1 h2 h
set_option maxRecDepth 100000 in
set_option maxHeartbeats 4000000 in
theorem blaw_1255 {κ : mX} {L : Nat} {xs : Nat → Int32} {X18 : Int32 → sT → Prop} (C : mOk κ cL_law RL 200) (hs : lawS κ L xs) (hr : lawR κ) (hX18 : mAt κ 18 (lf (V := Int32) (fun v => ([some (.ref 1400000), some (.ref 0), some (.ref 162), some (.int v)], [])) (fun v s => X18 v s))) : mAt κ 1255 (lf (V := Int32) (fun v => ([some (.ref 1400000), some (.ref 0), some (.ref 162), some (.int v)], [])) (fun v s => claw_1255 L xs v X18 s)) := m_lf (m_aload_n C dL_law_1255 (m_aload_n C dL_law_1256 (m_iload_n C dL_law_1257 (m_iconst C dL_law_1258 ki_1 (m_iadd C dL_law_1259 (m_sld C hs dL_law_1260 (m_callV C dL_law_1261 M11_octet (by decide) mc_11 cw_L_169 wt_1232 wt_1233 (m_aload_n C dL_law_1264 (m_aload_n C dL_law_1265 (m_iload_n C dL_law_1266 (m_iconst C dL_law_1267 ki_1 (m_iadd C dL_law_1268 (m_sld C hs dL_law_1269 (m_callV C dL_law_1270 M12_octet (by decide) mc_12 cw_L_172 wt_2145 wt_2146 (m_icmp_eq C dL_law_1273 (by decide) (blaw_1314 C hs hr hX18) (m_iconst C dL_law_1276 ki_0 (m_lawret C hr dL_law_1277))))))))))))))))) (fun v s h => by unfold claw_1255 at h; exact (And.intro rfl (And.intro h.1 (I11_octet h.2 (by exact rfl) (fun _ s_3 h_2 => (And.intro rfl (And.intro h_2.1 (I12_octet h_2.2 (by exact rfl) (fun _ s_6 h_5 => (And.intro (fun q_7 => (llaw_1314 (h_5.1 q_7) (by exact (And.intro rfl (And.intro rfl (And.intro rfl (And.intro rfl rfl))))) (by exact rfl))) (fun q_7 => (False.elim (h_5.2 q_7)))))))))))))
theorem llaw_1278 {L : Nat} {xs : Nat → Int32} {X18 : Int32 → sT → Prop} {v3 : Int32} {s : sT} {ls : mL} {st : List Value} (h : claw_1278 L xs v3 X18 s) (h1 : lsub [some (.ref 1400000), some (.ref 0), some (.ref 162), some (.int v3)] ls) (h2 : st = []) : lf (V := Int32) (fun v => ([some (.ref 1400000), some (.ref 0), some (.ref 162), some (.int v)], [])) (fun v s => claw_1278 L xs v X18 s) ls st (mk s) := lf_in (v := v3) h1 h2 h
set_option maxRecDepth 100000 in
set_option maxHeartbeats 4000000 in
theorem blaw_1278 {κ : mX} {L : Nat} {xs : Nat → Int32} {X18 : Int32 → sT → Prop} (C : mOk κ cL_law RL 200) (hs : lawS κ L xs) (hr : lawR κ) (hX18 : mAt κ 18 (lf (V := Int32) (fun v => ([some (.ref 1400000), some (.ref 0), some (.ref 162), some (.int v)], [])) (fun v s => X18 v s))) : mAt κ 1278 (lf (V := Int32) (fun v => ([some (.ref 1400000), some (.ref 0), some (.ref 162), some (.int v)], [])) (fun v s => claw_1278 L xs v X18 s)) := m_lf (m_aload_n C dL_law_1278 (m_callV C dL_law_1279 M11_on (by decide) mc_11 cw_L_173 wt_1236 wt_1237 (m_aload_n C dL_law_1282 (m_callV C dL_law_1283 M12_on (by decide) mc_12 cw_L_176 wt_2168 wt_2169 (m_icmp_eq C dL_law_1286 (by decide) (blaw_1314 C hs hr hX18) (m_iconst C dL_law_1289 ki_0 (m_lawret C hr dL_law_1290))))))) (fun v s h => by unfold claw_1278 at h; exact (I11_on h (by exact rfl) (fun _ s_3 h_2 => (I12_on h_2 (by exact rfl) (fun _ s_6 h_5 => (And.intro (fun q_7 => (llaw_1314 (h_5.1 q_7) (by exact (And.intro rfl (And.intro rfl (And.intro rfl (And.intro rfl rfl))))) (by exact rfl))) (fun q_7 => (False.elim (h_5.2 q_7)))))))))
theorem llaw_1291 {L : Nat} {xs : Nat → Int32} {X18 : Int32 → sT → Prop} {v3 : Int32} {s : sT} {ls : mL} {st : List Value} (h : claw_1291 L xs v3 X18 s) (h1 : lsub [some (.ref 1400000), some (.ref 0), some (.ref 162), some (.int v3)] ls) (h2 : st = []) : lf (V := Int32) (fun v => ([some (.ref 1400000), some (.ref 0), some (.ref 162), some (.int v)], [])) (fun v s => claw_1291 L xs v X18 s) ls st (mk s) := lf_in (v := v3) h1 h2 h
set_option maxRecDepth 100000 in
set_option maxHeartbeats 4000000 in
theorem blaw_1291 {κ : mX} {L : Nat} {xs : Nat → Int32} {X18 : Int32 → sT → Prop} (C : mOk κ cL_law RL 200) (hs : lawS κ L xs) (hr : lawR κ) (hX18 : mAt κ 18 (lf (V := Int32) (fun v => ([some (.ref 1400000), some (.ref 0), some (.ref 162), some (.int v)], [])) (fun v s => X18 v s))) : mAt κ 1291 (lf (V := Int32) (fun v => ([some (.ref 1400000), some (.ref 0), some (.ref 162), some (.int v)], [])) (fun v s => claw_1291 L xs v X18 s)) := m_lf (m_aload_n C dL_law_1291 (m_aload_n C dL_law_1292 (m_iload_n C dL_law_1293 (m_iconst C dL_law_1294 ki_1 (m_iadd C dL_law_1295 (m_sld C hs dL_law_1296 (m_callV C dL_law_1297 M11_status (by decide) mc_11 cw_L_177 wt_1254 wt_1255 (m_aload_n C dL_law_1300 (m_aload_n C dL_law_1301 (m_iload_n C dL_law_1302 (m_iconst C dL_law_1303 ki_1 (m_iadd C dL_law_1304 (m_sld C hs dL_law_1305 (m_callV C dL_law_1306 M12_status (by decide) mc_12 cw_L_180 wt_2149 wt_2150 (m_icmp_eq C dL_law_1309 (by decide) (blaw_1314 C hs hr hX18) (m_iconst C dL_law_1312 ki_0 (m_lawret C hr dL_law_1313))))))))))))))))) (fun v s h => by unfold claw_1291 at h; exact (And.intro rfl (And.intro h.1 (I11_status h.2 (by exact rfl) (fun _ s_3 h_2 => (And.intro rfl (And.intro h_2.1 (I12_status h_2.2 (by exact rfl) (fun _ s_6 h_5 => (And.intro (fun q_7 => (llaw_1314 (h_5.1 q_7) (by exact (And.intro rfl (And.intro rfl (And.intro rfl (And.intro rfl rfl))))) (by exact rfl))) (fun q_7 => (False.elim (h_5.2 q_7)))))))))))))
set_option maxRecDepth 100000 in
set_option maxHeartbeats 4000000 in
theorem blaw_18b {κ : mX} {L : Nat} {xs : Nat → Int32} {X18 : Int32 → sT → Prop} (C : mOk κ cL_law RL 200) (hs : lawS κ L xs) (hr : lawR κ) (hX18 : mAt κ 18 (lf (V := Int32) (fun v => ([some (.ref 1400000), some (.ref 0), some (.ref 162), some (.int v)], [])) (fun v s => X18 v s))) : mAt κ 18 (lf (V := Int32) (fun v => ([some (.ref 1400000), some (.ref 0), some (.ref 162), some (.int v)], [])) (fun v s => claw_18b L xs v X18 s)) := m_lf (m_iload_n C dL_law_18 (m_aload_n C dL_law_19 (m_sal C hs dL_law_20 (m_bipush C dL_law_21 kb_6 (m_isub C dL_law_23 (m_icmp_gt C dL_law_24 (by decide) (m_iconst C dL_law_1320 ki_1 (m_lawret C hr dL_law_1321)) (m_aload_n C dL_law_27 (m_iload_n C dL_law_28 (m_sld C hs dL_law_29 (m_bipush C dL_law_30 kb_63 (m_iand C dL_law_32 (m_tabw C dL_law_33 (vs := [(0 : Int32), (1 : Int32), (2 : Int32), (3 : Int32), (4 : Int32), (5 : Int32), (6 : Int32), (7 : Int32), (8 : Int32), (9 : Int32), (10 : Int32), (11 : Int32), (12 : Int32), (13 : Int32), (14 : Int32), (15 : Int32), (16 : Int32), (17 : Int32), (18 : Int32), (19 : Int32), (20 : Int32), (21 : Int32), (22 : Int32), (23 : Int32), (24 : Int32), (25 : Int32), (26 : Int32), (27 : Int32), (28 : Int32), (29 : Int32), (30 : Int32), (31 : Int32), (32 : Int32), (33 : Int32), (34 : Int32), (35 : Int32), (36 : Int32), (37 : Int32), (38 : Int32)]) (ks := [(lf (V := Int32) (fun v => ([some (.ref 1400000), some (.ref 0), some (.ref 162), some (.int v)], [])) (fun v s => claw_204 L xs v X18 s)), (lf (V := Int32) (fun v => ([some (.ref 1400000), some (.ref 0), some (.ref 162), some (.int v)], [])) (fun v s => claw_267 L xs v X18 s)), (lf (V := Int32) (fun v => ([some (.ref 1400000), some (.ref 0), some (.ref 162), some (.int v)], [])) (fun v s => claw_290 L xs v X18 s)), (lf (V := Int32) (fun v => ([some (.ref 1400000), some (.ref 0), some (.ref 162), some (.int v)], [])) (fun v s => claw_303 L xs v X18 s)), (lf (V := Int32) (fun v => ([some (.ref 1400000), some (.ref 0), some (.ref 162), some (.int v)], [])) (fun v s => claw_326 L xs v X18 s)), (lf (V := Int32) (fun v => ([some (.ref 1400000), some (.ref 0), some (.ref 162), some (.int v)], [])) (fun v s => claw_349 L xs v X18 s)), (lf (V := Int32) (fun v => ([some (.ref 1400000), some (.ref 0), some (.ref 162), some (.int v)], [])) (fun v s => claw_382 L xs v X18 s)), (lf (V := Int32) (fun v => ([some (.ref 1400000), some (.ref 0), some (.ref 162), some (.int v)], [])) (fun v s => claw_415 L xs v X18 s)), (lf (V := Int32) (fun v => ([some (.ref 1400000), some (.ref 0), some (.ref 162), some (.int v)], [])) (fun v s => claw_438 L xs v X18 s)), (lf (V := Int32) (fun v => ([some (.ref 1400000), some (.ref 0), some (.ref 162), some (.int v)], [])) (fun v s => claw_471 L xs v X18 s)), (lf (V := Int32) (fun v => ([some (.ref 1400000), some (.ref 0), some (.ref 162), some (.int v)], [])) (fun v s => claw_504 L xs v X18 s)), (lf (V := Int32) (fun v => ([some (.ref 1400000), some (.ref 0), some (.ref 162), some (.int v)], [])) (fun v s => claw_547 L xs v X18 s)), (lf (V := Int32) (fun v => ([some (.ref 1400000), some (.ref 0), some (.ref 162), some (.int v)], [])) (fun v s => claw_580 L xs v X18 s)), (lf (V := Int32) (fun v => ([some (.ref 1400000), some (.ref 0), some (.ref 162), some (.int v)], [])) (fun v s => claw_613 L xs v X18 s)), (lf (V := Int32) (fun v => ([some (.ref 1400000), some (.ref 0), some (.ref 162), some (.int v)], [])) (fun v s => claw_657 L xs v X18 s)), (lf (V := Int32) (fun v => ([some (.ref 1400000), some (.ref 0), some (.ref 162), some (.int v)], [])) (fun v s => claw_691 L xs v X18 s)), (lf (V := Int32) (fun v => ([some (.ref 1400000), some (.ref 0), some (.ref 162), some (.int v)], [])) (fun v s => claw_734 L xs v X18 s)), (lf (V := Int32) (fun v => ([some (.ref 1400000), some (.ref 0), some (.ref 162), some (.int v)], [])) (fun v s => claw_787 L xs v X18 s)), (lf (V := Int32) (fun v => ([some (.ref 1400000), some (.ref 0), some (.ref 162), some (.int v)], [])) (fun v s => claw_840 L xs v X18 s)), (lf (V := Int32) (fun v => ([some (.ref 1400000), some (.ref 0), some (.ref 162), some (.int v)], [])) (fun v s => claw_873 L xs v X18 s)), (lf (V := Int32) (fun v => ([some (.ref 1400000), some (.ref 0), some (.ref 162), some (.int v)], [])) (fun v s => claw_896 L xs v X18 s)), (lf (V := Int32) (fun v => ([some (.ref 1400000), some (.ref 0), some (.ref 162), some (.int v)], [])) (fun v s => claw_929 L xs v X18 s)), (lf (V := Int32) (fun v => ([some (.ref 1400000), some (.ref 0), some (.ref 162), some (.int v)], [])) (fun v s => claw_952 L xs v X18 s)), (lf (V := Int32) (fun v => ([some (.ref 1400000), some (.ref 0), some (.ref 162), some (.int v)], [])) (fun v s => claw_975 L xs v X18 s)), (lf (V := Int32) (fun v => ([some (.ref 1400000), some (.ref 0), some (.ref 162), some (.int v)], [])) (fun v s => claw_998 L xs v X18 s)), (lf (V := Int32) (fun v => ([some (.ref 1400000), some (.ref 0), some (.ref 162), some (.int v)], [])) (fun v s => claw_1011 L xs v X18 s)), (lf (V := Int32) (fun v => ([some (.ref 1400000), some (.ref 0), some (.ref 162), some (.int v)], [])) (fun v s => claw_1034 L xs v X18 s)), (lf (V := Int32) (fun v => ([some (.ref 1400000), some (.ref 0), some (.ref 162), some (.int v)], [])) (fun v s => claw_1067 L xs v X18 s)), (lf (V := Int32) (fun v => ([some (.ref 1400000), some (.ref 0), some (.ref 162), some (.int v)], [])) (fun v s => claw_1090 L xs v X18 s)), (lf (V := Int32) (fun v => ([some (.ref 1400000), some (.ref 0), some (.ref 162), some (.int v)], [])) (fun v s => claw_1113 L xs v X18 s)), (lf (V := Int32) (fun v => ([some (.ref 1400000), some (.ref 0), some (.ref 162), some (.int v)], [])) (fun v s => claw_1146 L xs v X18 s)), (lf (V := Int32) (fun v => ([some (.ref 1400000), some (.ref 0), some (.ref 162), some (.int v)], [])) (fun v s => claw_1169 L xs v X18 s)), (lf (V := Int32) (fun v => ([some (.ref 1400000), some (.ref 0), some (.ref 162), some (.int v)], [])) (fun v s => claw_1192 L xs v X18 s)), (lf (V := Int32) (fun v => ([some (.ref 1400000), some (.ref 0), some (.ref 162), some (.int v)], [])) (fun v s => claw_1205 L xs v X18 s)), (lf (V := Int32) (fun v => ([some (.ref 1400000), some (.ref 0), some (.ref 162), some (.int v)], [])) (fun v s => claw_1228 L xs v X18 s)), (lf (V := Int32) (fun v => ([some (.ref 1400000), some (.ref 0), some (.ref 162), some (.int v)], [])) (fun v s => claw_1242 L xs v X18 s)), (lf (V := Int32) (fun v => ([some (.ref 1400000), some (.ref 0), some (.ref 162), some (.int v)], [])) (fun v s => claw_1255 L xs v X18 s)), (lf (V := Int32) (fun v => ([some (.ref 1400000), some (.ref 0), some (.ref 162), some (.int v)], [])) (fun v s => claw_1278 L xs v X18 s)), (lf (V := Int32) (fun v => ([some (.ref 1400000), some (.ref 0), some (.ref 162), some (.int v)], [])) (fun v s => claw_1291 L xs v X18 s))]) (tg := [204, 267, 290, 303, 326, 349, 382, 415, 438, 471, 504, 547, 580, 613, 657, 691, 734, 787, 840, 873, 896, 929, 952, 975, 998, 1011, 1034, 1067, 1090, 1113, 1146, 1169, 1192, 1205, 1228, 1242, 1255, 1278, 1291]) (tD := 1314) (by decide +kernel) (by decide +kernel) (by decide +kernel) rfl rfl (by decide) (And.intro (blaw_204 C hs hr hX18) (And.intro (blaw_267 C hs hr hX18) (And.intro (blaw_290 C hs hr hX18) (And.intro (blaw_303 C hs hr hX18) (And.intro (blaw_326 C hs hr hX18) (And.intro (blaw_349 C hs hr hX18) (And.intro (blaw_382 C hs hr hX18) (And.intro (blaw_415 C hs hr hX18) (And.intro (blaw_438 C hs hr hX18) (And.intro (blaw_471 C hs hr hX18) (And.intro (blaw_504 C hs hr hX18) (And.intro (blaw_547 C hs hr hX18) (And.intro (blaw_580 C hs hr hX18) (And.intro (blaw_613 C hs hr hX18) (And.intro (blaw_657 C hs hr hX18) (And.intro (blaw_691 C hs hr hX18) (And.intro (blaw_734 C hs hr hX18) (And.intro (blaw_787 C hs hr hX18) (And.intro (blaw_840 C hs hr hX18) (And.intro (blaw_873 C hs hr hX18) (And.intro (blaw_896 C hs hr hX18) (And.intro (blaw_929 C hs hr hX18) (And.intro (blaw_952 C hs hr hX18) (And.intro (blaw_975 C hs hr hX18) (And.intro (blaw_998 C hs hr hX18) (And.intro (blaw_1011 C hs hr hX18) (And.intro (blaw_1034 C hs hr hX18) (And.intro (blaw_1067 C hs hr hX18) (And.intro (blaw_1090 C hs hr hX18) (And.intro (blaw_1113 C hs hr hX18) (And.intro (blaw_1146 C hs hr hX18) (And.intro (blaw_1169 C hs hr hX18) (And.intro (blaw_1192 C hs hr hX18) (And.intro (blaw_1205 C hs hr hX18) (And.intro (blaw_1228 C hs hr hX18) (And.intro (blaw_1242 C hs hr hX18) (And.intro (blaw_1255 C hs hr hX18) (And.intro (blaw_1278 C hs hr hX18) (And.intro (blaw_1291 C hs hr hX18) trivial))))))))))))))))))))))))))))))))))))))) (blaw_1314 C hs hr hX18))))))))))))) (fun v s h => by unfold claw_18b at h; exact (And.intro rfl (And.intro (fun q_1 => rfl) (fun q_1 => (And.intro rfl (And.intro (h.2 q_1).1 (And.intro (fun q_s => (llaw_204 ((h.2 q_1).2.1 q_s) (by exact (And.intro rfl (And.intro rfl (And.intro rfl (And.intro rfl rfl))))) (by exact rfl))) (fun q_n1 => (And.intro (fun q_s => (llaw_267 (((h.2 q_1).2.2 q_n1).1 q_s) (by exact (And.intro rfl (And.intro rfl (And.intro rfl (And.intro rfl rfl))))) (by exact rfl))) (fun q_n2 => (And.intro (fun q_s => (llaw_290 ((((h.2 q_1).2.2 q_n1).2 q_n2).1 q_s) (by exact (And.intro rfl (And.intro rfl (And.intro rfl (And.intro rfl rfl))))) (by exact rfl))) (fun q_n3 => (And.intro (fun q_s => (llaw_303 (((((h.2 q_1).2.2 q_n1).2 q_n2).2 q_n3).1 q_s) (by exact (And.intro rfl (And.intro rfl (And.intro rfl (And.intro rfl rfl))))) (by exact rfl))) (fun q_n4 => (And.intro (fun q_s => (llaw_326 ((((((h.2 q_1).2.2 q_n1).2 q_n2).2 q_n3).2 q_n4).1 q_s) (by exact (And.intro rfl (And.intro rfl (And.intro rfl (And.intro rfl rfl))))) (by exact rfl))) (fun q_n5 => (And.intro (fun q_s => (llaw_349 (((((((h.2 q_1).2.2 q_n1).2 q_n2).2 q_n3).2 q_n4).2 q_n5).1 q_s) (by exact (And.intro rfl (And.intro rfl (And.intro rfl (And.intro rfl rfl))))) (by exact rfl))) (fun q_n6 => (And.intro (fun q_s => (llaw_382 ((((((((h.2 q_1).2.2 q_n1).2 q_n2).2 q_n3).2 q_n4).2 q_n5).2 q_n6).1 q_s) (by exact (And.intro rfl (And.intro rfl (And.intro rfl (And.intro rfl rfl))))) (by exact rfl))) (fun q_n7 => (And.intro (fun q_s => (llaw_415 (((((((((h.2 q_1).2.2 q_n1).2 q_n2).2 q_n3).2 q_n4).2 q_n5).2 q_n6).2 q_n7).1 q_s) (by exact (And.intro rfl (And.intro rfl (And.intro rfl (And.intro rfl rfl))))) (by exact rfl))) (fun q_n8 => (And.intro (fun q_s => (llaw_438 ((((((((((h.2 q_1).2.2 q_n1).2 q_n2).2 q_n3).2 q_n4).2 q_n5).2 q_n6).2 q_n7).2 q_n8).1 q_s) (by exact (And.intro rfl (And.intro rfl (And.intro rfl (And.intro rfl rfl))))) (by exact rfl))) (fun q_n9 => (And.intro (fun q_s => (llaw_471 (((((((((((h.2 q_1).2.2 q_n1).2 q_n2).2 q_n3).2 q_n4).2 q_n5).2 q_n6).2 q_n7).2 q_n8).2 q_n9).1 q_s) (by exact (And.intro rfl (And.intro rfl (And.intro rfl (And.intro rfl rfl))))) (by exact rfl))) (fun q_n10 => (And.intro (fun q_s => (llaw_504 ((((((((((((h.2 q_1).2.2 q_n1).2 q_n2).2 q_n3).2 q_n4).2 q_n5).2 q_n6).2 q_n7).2 q_n8).2 q_n9).2 q_n10).1 q_s) (by exact (And.intro rfl (And.intro rfl (And.intro rfl (And.intro rfl rfl))))) (by exact rfl))) (fun q_n11 => (And.intro (fun q_s => (llaw_547 (((((((((((((h.2 q_1).2.2 q_n1).2 q_n2).2 q_n3).2 q_n4).2 q_n5).2 q_n6).2 q_n7).2 q_n8).2 q_n9).2 q_n10).2 q_n11).1 q_s) (by exact (And.intro rfl (And.intro rfl (And.intro rfl (And.intro rfl rfl))))) (by exact rfl))) (fun q_n12 => (And.intro (fun q_s => (llaw_580 ((((((((((((((h.2 q_1).2.2 q_n1).2 q_n2).2 q_n3).2 q_n4).2 q_n5).2 q_n6).2 q_n7).2 q_n8).2 q_n9).2 q_n10).2 q_n11).2 q_n12).1 q_s) (by exact (And.intro rfl (And.intro rfl (And.intro rfl (And.intro rfl rfl))))) (by exact rfl))) (fun q_n13 => (And.intro (fun q_s => (llaw_613 (((((((((((((((h.2 q_1).2.2 q_n1).2 q_n2).2 q_n3).2 q_n4).2 q_n5).2 q_n6).2 q_n7).2 q_n8).2 q_n9).2 q_n10).2 q_n11).2 q_n12).2 q_n13).1 q_s) (by exact (And.intro rfl (And.intro rfl (And.intro rfl (And.intro rfl rfl))))) (by exact rfl))) (fun q_n14 => (And.intro (fun q_s => (llaw_657 ((((((((((((((((h.2 q_1).2.2 q_n1).2 q_n2).2 q_n3).2 q_n4).2 q_n5).2 q_n6).2 q_n7).2 q_n8).2 q_n9).2 q_n10).2 q_n11).2 q_n12).2 q_n13).2 q_n14).1 q_s) (by exact (And.intro rfl (And.intro rfl (And.intro rfl (And.intro rfl rfl))))) (by exact rfl))) (fun q_n15 => (And.intro (fun q_s => (llaw_691 (((((((((((((((((h.2 q_1).2.2 q_n1).2 q_n2).2 q_n3).2 q_n4).2 q_n5).2 q_n6).2 q_n7).2 q_n8).2 q_n9).2 q_n10).2 q_n11).2 q_n12).2 q_n13).2 q_n14).2 q_n15).1 q_s) (by exact (And.intro rfl (And.intro rfl (And.intro rfl (And.intro rfl rfl))))) (by exact rfl))) (fun q_n16 => (And.intro (fun q_s => (llaw_734 ((((((((((((((((((h.2 q_1).2.2 q_n1).2 q_n2).2 q_n3).2 q_n4).2 q_n5).2 q_n6).2 q_n7).2 q_n8).2 q_n9).2 q_n10).2 q_n11).2 q_n12).2 q_n13).2 q_n14).2 q_n15).2 q_n16).1 q_s) (by exact (And.intro rfl (And.intro rfl (And.intro rfl (And.intro rfl rfl))))) (by exact rfl))) (fun q_n17 => (And.intro (fun q_s => (llaw_787 (((((((((((((((((((h.2 q_1).2.2 q_n1).2 q_n2).2 q_n3).2 q_n4).2 q_n5).2 q_n6).2 q_n7).2 q_n8).2 q_n9).2 q_n10).2 q_n11).2 q_n12).2 q_n13).2 q_n14).2 q_n15).2 q_n16).2 q_n17).1 q_s) (by exact (And.intro rfl (And.intro rfl (And.intro rfl (And.intro rfl rfl))))) (by exact rfl))) (fun q_n18 => (And.intro (fun q_s => (llaw_840 ((((((((((((((((((((h.2 q_1).2.2 q_n1).2 q_n2).2 q_n3).2 q_n4).2 q_n5).2 q_n6).2 q_n7).2 q_n8).2 q_n9).2 q_n10).2 q_n11).2 q_n12).2 q_n13).2 q_n14).2 q_n15).2 q_n16).2 q_n17).2 q_n18).1 q_s) (by exact (And.intro rfl (And.intro rfl (And.intro rfl (And.intro rfl rfl))))) (by exact rfl))) (fun q_n19 => (And.intro (fun q_s => (llaw_873 (((((((((((((((((((((h.2 q_1).2.2 q_n1).2 q_n2).2 q_n3).2 q_n4).2 q_n5).2 q_n6).2 q_n7).2 q_n8).2 q_n9).2 q_n10).2 q_n11).2 q_n12).2 q_n13).2 q_n14).2 q_n15).2 q_n16).2 q_n17).2 q_n18).2 q_n19).1 q_s) (by exact (And.intro rfl (And.intro rfl (And.intro rfl (And.intro rfl rfl))))) (by exact rfl))) (fun q_n20 => (And.intro (fun q_s => (llaw_896 ((((((((((((((((((((((h.2 q_1).2.2 q_n1).2 q_n2).2 q_n3).2 q_n4).2 q_n5).2 q_n6).2 q_n7).2 q_n8).2 q_n9).2 q_n10).2 q_n11).2 q_n12).2 q_n13).2 q_n14).2 q_n15).2 q_n16).2 q_n17).2 q_n18).2 q_n19).2 q_n20).1 q_s) (by exact (And.intro rfl (And.intro rfl (And.intro rfl (And.intro rfl rfl))))) (by exact rfl))) (fun q_n21 => (And.intro (fun q_s => (llaw_929 (((((((((((((((((((((((h.2 q_1).2.2 q_n1).2 q_n2).2 q_n3).2 q_n4).2 q_n5).2 q_n6).2 q_n7).2 q_n8).2 q_n9).2 q_n10).2 q_n11).2 q_n12).2 q_n13).2 q_n14).2 q_n15).2 q_n16).2 q_n17).2 q_n18).2 q_n19).2 q_n20).2 q_n21).1 q_s) (by exact (And.intro rfl (And.intro rfl (And.intro rfl (And.intro rfl rfl))))) (by exact rfl))) (fun q_n22 => (And.intro (fun q_s => (llaw_952 ((((((((((((((((((((((((h.2 q_1).2.2 q_n1).2 q_n2).2 q_n3).2 q_n4).2 q_n5).2 q_n6).2 q_n7).2 q_n8).2 q_n9).2 q_n10).2 q_n11).2 q_n12).2 q_n13).2 q_n14).2 q_n15).2 q_n16).2 q_n17).2 q_n18).2 q_n19).2 q_n20).2 q_n21).2 q_n22).1 q_s) (by exact (And.intro rfl (And.intro rfl (And.intro rfl (And.intro rfl rfl))))) (by exact rfl))) (fun q_n23 => (And.intro (fun q_s => (llaw_975 (((((((((((((((((((((((((h.2 q_1).2.2 q_n1).2 q_n2).2 q_n3).2 q_n4).2 q_n5).2 q_n6).2 q_n7).2 q_n8).2 q_n9).2 q_n10).2 q_n11).2 q_n12).2 q_n13).2 q_n14).2 q_n15).2 q_n16).2 q_n17).2 q_n18).2 q_n19).2 q_n20).2 q_n21).2 q_n22).2 q_n23).1 q_s) (by exact (And.intro rfl (And.intro rfl (And.intro rfl (And.intro rfl rfl))))) (by exact rfl))) (fun q_n24 => (And.intro (fun q_s => (llaw_998 ((((((((((((((((((((((((((h.2 q_1).2.2 q_n1).2 q_n2).2 q_n3).2 q_n4).2 q_n5).2 q_n6).2 q_n7).2 q_n8).2 q_n9).2 q_n10).2 q_n11).2 q_n12).2 q_n13).2 q_n14).2 q_n15).2 q_n16).2 q_n17).2 q_n18).2 q_n19).2 q_n20).2 q_n21).2 q_n22).2 q_n23).2 q_n24).1 q_s) (by exact (And.intro rfl (And.intro rfl (And.intro rfl (And.intro rfl rfl))))) (by exact rfl))) (fun q_n25 => (And.intro (fun q_s => (llaw_1011 (((((((((((((((((((((((((((h.2 q_1).2.2 q_n1).2 q_n2).2 q_n3).2 q_n4).2 q_n5).2 q_n6).2 q_n7).2 q_n8).2 q_n9).2 q_n10).2 q_n11).2 q_n12).2 q_n13).2 q_n14).2 q_n15).2 q_n16).2 q_n17).2 q_n18).2 q_n19).2 q_n20).2 q_n21).2 q_n22).2 q_n23).2 q_n24).2 q_n25).1 q_s) (by exact (And.intro rfl (And.intro rfl (And.intro rfl (And.intro rfl rfl))))) (by exact rfl))) (fun q_n26 => (And.intro (fun q_s => (llaw_1034 ((((((((((((((((((((((((((((h.2 q_1).2.2 q_n1).2 q_n2).2 q_n3).2 q_n4).2 q_n5).2 q_n6).2 q_n7).2 q_n8).2 q_n9).2 q_n10).2 q_n11).2 q_n12).2 q_n13).2 q_n14).2 q_n15).2 q_n16).2 q_n17).2 q_n18).2 q_n19).2 q_n20).2 q_n21).2 q_n22).2 q_n23).2 q_n24).2 q_n25).2 q_n26).1 q_s) (by exact (And.intro rfl (And.intro rfl (And.intro rfl (And.intro rfl rfl))))) (by exact rfl))) (fun q_n27 => (And.intro (fun q_s => (llaw_1067 (((((((((((((((((((((((((((((h.2 q_1).2.2 q_n1).2 q_n2).2 q_n3).2 q_n4).2 q_n5).2 q_n6).2 q_n7).2 q_n8).2 q_n9).2 q_n10).2 q_n11).2 q_n12).2 q_n13).2 q_n14).2 q_n15).2 q_n16).2 q_n17).2 q_n18).2 q_n19).2 q_n20).2 q_n21).2 q_n22).2 q_n23).2 q_n24).2 q_n25).2 q_n26).2 q_n27).1 q_s) (by exact (And.intro rfl (And.intro rfl (And.intro rfl (And.intro rfl rfl))))) (by exact rfl))) (fun q_n28 => (And.intro (fun q_s => (llaw_1090 ((((((((((((((((((((((((((((((h.2 q_1).2.2 q_n1).2 q_n2).2 q_n3).2 q_n4).2 q_n5).2 q_n6).2 q_n7).2 q_n8).2 q_n9).2 q_n10).2 q_n11).2 q_n12).2 q_n13).2 q_n14).2 q_n15).2 q_n16).2 q_n17).2 q_n18).2 q_n19).2 q_n20).2 q_n21).2 q_n22).2 q_n23).2 q_n24).2 q_n25).2 q_n26).2 q_n27).2 q_n28).1 q_s) (by exact (And.intro rfl (And.intro rfl (And.intro rfl (And.intro rfl rfl))))) (by exact rfl))) (fun q_n29 => (And.intro (fun q_s => (llaw_1113 (((((((((((((((((((((((((((((((h.2 q_1).2.2 q_n1).2 q_n2).2 q_n3).2 q_n4).2 q_n5).2 q_n6).2 q_n7).2 q_n8).2 q_n9).2 q_n10).2 q_n11).2 q_n12).2 q_n13).2 q_n14).2 q_n15).2 q_n16).2 q_n17).2 q_n18).2 q_n19).2 q_n20).2 q_n21).2 q_n22).2 q_n23).2 q_n24).2 q_n25).2 q_n26).2 q_n27).2 q_n28).2 q_n29).1 q_s) (by exact (And.intro rfl (And.intro rfl (And.intro rfl (And.intro rfl rfl))))) (by exact rfl))) (fun q_n30 => (And.intro (fun q_s => (llaw_1146 ((((((((((((((((((((((((((((((((h.2 q_1).2.2 q_n1).2 q_n2).2 q_n3).2 q_n4).2 q_n5).2 q_n6).2 q_n7).2 q_n8).2 q_n9).2 q_n10).2 q_n11).2 q_n12).2 q_n13).2 q_n14).2 q_n15).2 q_n16).2 q_n17).2 q_n18).2 q_n19).2 q_n20).2 q_n21).2 q_n22).2 q_n23).2 q_n24).2 q_n25).2 q_n26).2 q_n27).2 q_n28).2 q_n29).2 q_n30).1 q_s) (by exact (And.intro rfl (And.intro rfl (And.intro rfl (And.intro rfl rfl))))) (by exact rfl))) (fun q_n31 => (And.intro (fun q_s => (llaw_1169 (((((((((((((((((((((((((((((((((h.2 q_1).2.2 q_n1).2 q_n2).2 q_n3).2 q_n4).2 q_n5).2 q_n6).2 q_n7).2 q_n8).2 q_n9).2 q_n10).2 q_n11).2 q_n12).2 q_n13).2 q_n14).2 q_n15).2 q_n16).2 q_n17).2 q_n18).2 q_n19).2 q_n20).2 q_n21).2 q_n22).2 q_n23).2 q_n24).2 q_n25).2 q_n26).2 q_n27).2 q_n28).2 q_n29).2 q_n30).2 q_n31).1 q_s) (by exact (And.intro rfl (And.intro rfl (And.intro rfl (And.intro rfl rfl))))) (by exact rfl))) (fun q_n32 => (And.intro (fun q_s => (llaw_1192 ((((((((((((((((((((((((((((((((((h.2 q_1).2.2 q_n1).2 q_n2).2 q_n3).2 q_n4).2 q_n5).2 q_n6).2 q_n7).2 q_n8).2 q_n9).2 q_n10).2 q_n11).2 q_n12).2 q_n13).2 q_n14).2 q_n15).2 q_n16).2 q_n17).2 q_n18).2 q_n19).2 q_n20).2 q_n21).2 q_n22).2 q_n23).2 q_n24).2 q_n25).2 q_n26).2 q_n27).2 q_n28).2 q_n29).2 q_n30).2 q_n31).2 q_n32).1 q_s) (by exact (And.intro rfl (And.intro rfl (And.intro rfl (And.intro rfl rfl))))) (by exact rfl))) (fun q_n33 => (And.intro (fun q_s => (llaw_1205 (((((((((((((((((((((((((((((((((((h.2 q_1).2.2 q_n1).2 q_n2).2 q_n3).2 q_n4).2 q_n5).2 q_n6).2 q_n7).2 q_n8).2 q_n9).2 q_n10).2 q_n11).2 q_n12).2 q_n13).2 q_n14).2 q_n15).2 q_n16).2 q_n17).2 q_n18).2 q_n19).2 q_n20).2 q_n21).2 q_n22).2 q_n23).2 q_n24).2 q_n25).2 q_n26).2 q_n27).2 q_n28).2 q_n29).2 q_n30).2 q_n31).2 q_n32).2 q_n33).1 q_s) (by exact (And.intro rfl (And.intro rfl (And.intro rfl (And.intro rfl rfl))))) (by exact rfl))) (fun q_n34 => (And.intro (fun q_s => (llaw_1228 ((((((((((((((((((((((((((((((((((((h.2 q_1).2.2 q_n1).2 q_n2).2 q_n3).2 q_n4).2 q_n5).2 q_n6).2 q_n7).2 q_n8).2 q_n9).2 q_n10).2 q_n11).2 q_n12).2 q_n13).2 q_n14).2 q_n15).2 q_n16).2 q_n17).2 q_n18).2 q_n19).2 q_n20).2 q_n21).2 q_n22).2 q_n23).2 q_n24).2 q_n25).2 q_n26).2 q_n27).2 q_n28).2 q_n29).2 q_n30).2 q_n31).2 q_n32).2 q_n33).2 q_n34).1 q_s) (by exact (And.intro rfl (And.intro rfl (And.intro rfl (And.intro rfl rfl))))) (by exact rfl))) (fun q_n35 => (And.intro (fun q_s => (llaw_1242 (((((((((((((((((((((((((((((((((((((h.2 q_1).2.2 q_n1).2 q_n2).2 q_n3).2 q_n4).2 q_n5).2 q_n6).2 q_n7).2 q_n8).2 q_n9).2 q_n10).2 q_n11).2 q_n12).2 q_n13).2 q_n14).2 q_n15).2 q_n16).2 q_n17).2 q_n18).2 q_n19).2 q_n20).2 q_n21).2 q_n22).2 q_n23).2 q_n24).2 q_n25).2 q_n26).2 q_n27).2 q_n28).2 q_n29).2 q_n30).2 q_n31).2 q_n32).2 q_n33).2 q_n34).2 q_n35).1 q_s) (by exact (And.intro rfl (And.intro rfl (And.intro rfl (And.intro rfl rfl))))) (by exact rfl))) (fun q_n36 => (And.intro (fun q_s => (llaw_1255 ((((((((((((((((((((((((((((((((((((((h.2 q_1).2.2 q_n1).2 q_n2).2 q_n3).2 q_n4).2 q_n5).2 q_n6).2 q_n7).2 q_n8).2 q_n9).2 q_n10).2 q_n11).2 q_n12).2 q_n13).2 q_n14).2 q_n15).2 q_n16).2 q_n17).2 q_n18).2 q_n19).2 q_n20).2 q_n21).2 q_n22).2 q_n23).2 q_n24).2 q_n25).2 q_n26).2 q_n27).2 q_n28).2 q_n29).2 q_n30).2 q_n31).2 q_n32).2 q_n33).2 q_n34).2 q_n35).2 q_n36).1 q_s) (by exact (And.intro rfl (And.intro rfl (And.intro rfl (And.intro rfl rfl))))) (by exact rfl))) (fun q_n37 => (And.intro (fun q_s => (llaw_1278 (((((((((((((((((((((((((((((((((((((((h.2 q_1).2.2 q_n1).2 q_n2).2 q_n3).2 q_n4).2 q_n5).2 q_n6).2 q_n7).2 q_n8).2 q_n9).2 q_n10).2 q_n11).2 q_n12).2 q_n13).2 q_n14).2 q_n15).2 q_n16).2 q_n17).2 q_n18).2 q_n19).2 q_n20).2 q_n21).2 q_n22).2 q_n23).2 q_n24).2 q_n25).2 q_n26).2 q_n27).2 q_n28).2 q_n29).2 q_n30).2 q_n31).2 q_n32).2 q_n33).2 q_n34).2 q_n35).2 q_n36).2 q_n37).1 q_s) (by exact (And.intro rfl (And.intro rfl (And.intro rfl (And.intro rfl rfl))))) (by exact rfl))) (fun q_n38 => (And.intro (fun q_s => (llaw_1291 ((((((((((((((((((((((((((((((((((((((((h.2 q_1).2.2 q_n1).2 q_n2).2 q_n3).2 q_n4).2 q_n5).2 q_n6).2 q_n7).2 q_n8).2 q_n9).2 q_n10).2 q_n11).2 q_n12).2 q_n13).2 q_n14).2 q_n15).2 q_n16).2 q_n17).2 q_n18).2 q_n19).2 q_n20).2 q_n21).2 q_n22).2 q_n23).2 q_n24).2 q_n25).2 q_n26).2 q_n27).2 q_n28).2 q_n29).2 q_n30).2 q_n31).2 q_n32).2 q_n33).2 q_n34).2 q_n35).2 q_n36).2 q_n37).2 q_n38).1 q_s) (by exact (And.intro rfl (And.intro rfl (And.intro rfl (And.intro rfl rfl))))) (by exact rfl))) (fun q_n39 => (llaw_1314 ((((((((((((((((((((((((((((((((((((((((h.2 q_1).2.2 q_n1).2 q_n2).2 q_n3).2 q_n4).2 q_n5).2 q_n6).2 q_n7).2 q_n8).2 q_n9).2 q_n10).2 q_n11).2 q_n12).2 q_n13).2 q_n14).2 q_n15).2 q_n16).2 q_n17).2 q_n18).2 q_n19).2 q_n20).2 q_n21).2 q_n22).2 q_n23).2 q_n24).2 q_n25).2 q_n26).2 q_n27).2 q_n28).2 q_n29).2 q_n30).2 q_n31).2 q_n32).2 q_n33).2 q_n34).2 q_n35).2 q_n36).2 q_n37).2 q_n38).2 q_n39) (by exact (And.intro rfl (And.intro rfl (And.intro rfl (And.intro rfl rfl))))) (by exact rfl))))))))))))))))))))))))))))))))))))))))))))))))))))))))))))))))))))))))))))))))))))))
set_option maxRecDepth 100000 in
set_option maxHeartbeats 4000000 in
theorem blaw_18 {κ : mX} {L : Nat} {xs : Nat → Int32} (C : mOk κ cL_law RL 200) (hs : lawS κ L xs) (hr : lawR κ) : mAt κ 18 (lf (V := Int32) (fun v => ([some (.ref 1400000), some (.ref 0), some (.ref 162), some (.int v)], [])) (fun v s => claw_18 L xs v s)) := m_loop (B := fun X v s => claw_18b L xs v X s) (fun X hX => by have q := blaw_18b (L := L) (xs := xs) (X18 := X) C hs hr hX; exact q) (fun v s h X hX => by unfold claw_18 at h; exact h X hX)
