-- names, numbers, own words
def ownW : List (List Nat) := [[102, 105, 110, 101, 115, 116], [109, 111, 115, 116], [112, 101, 114, 115, 111, 110], [100, 117, 101], [111, 102], [104, 97, 118, 101], [98, 121], [98, 97, 107, 101, 115], [99, 111, 115, 116, 115], [108, 105, 107, 101, 115], [109, 105, 99, 101], [115, 105, 122, 101], [115, 116, 111, 99, 107], [112, 108, 97, 99, 101], [100, 97, 121], [104, 117, 110, 103, 101, 114], [110, 117, 109, 98, 101, 114], [116, 111, 112], [98, 111, 116, 116, 111, 109], [119, 97, 121, 115], [104, 97, 100], [102, 105, 116, 115], [111, 114], [97, 110, 100], [110, 111, 116], [97, 108, 108], [109, 105, 110], [109, 97, 120]]
def ownT : List Nat := [102, 105, 110, 101, 115, 116, 32, 109, 111, 115, 116, 32, 112, 101, 114, 115, 111, 110, 32, 100, 117, 101, 32, 111, 102, 32, 104, 97, 118, 101, 32, 98, 121, 32, 98, 97, 107, 101, 115, 32, 99, 111, 115, 116, 115, 32, 108, 105, 107, 101, 115, 32, 109, 105, 99, 101, 32, 115, 105, 122, 101, 32, 115, 116, 111, 99, 107, 32, 112, 108, 97, 99, 101, 32, 100, 97, 121, 32, 104, 117, 110, 103, 101, 114, 32, 110, 117, 109, 98, 101, 114, 32, 116, 111, 112, 32, 98, 111, 116, 116, 111, 109, 32, 119, 97, 121, 115, 32, 104, 97, 100, 32, 102, 105, 116, 115, 32, 111, 114, 32, 97, 110, 100, 32, 110, 111, 116, 32, 97, 108, 108, 32, 109, 105, 110, 32, 109, 97, 120]
theorem own_len : ownT.length = 139 := by decide +kernel
theorem cWs_own : snB 1000006 = true ∧ strB 1000006 = ownT.map nI := by decide +kernel
theorem own_ws : wlS 1000006 ownT := by
  have h := cWs_own
  exact ⟨h.1, h.2, by rw [own_len]; decide⟩
theorem own_lt : ∀ k (h : k < ownT.length), ownT[k] < 256 := by
  have h : ownT.all (fun c => Nat.blt c 256) = true := by decide +kernel
  intro k hk
  have := List.all_eq_true.1 h _ (List.getElem_mem hk)
  rw [Nat.blt_eq] at this
  exact this
def sgs (W : List Nat) : Nat → Nat → Nat → List (Nat × Nat)
  | 0, f, i => [(f, i)]
  | m + 1, f, i => if W.getD i 0 = 32 then (f, i) :: sgs W m (i + 1) (i + 1) else sgs W m f (i + 1)
/-- a word is one of the segments -/
def sgM (b : Nat → Nat) (P e : Nat) (W : List Nat) (q : Nat × Nat) : Prop := q.2 - q.1 = e - P ∧ agr b P e q.1 W
theorem c_ownLoop {W : List Nat} (w : wlS 1000006 W) (lt : ∀ k (h : k < W.length), W[k] < 256) {b : Nat → Nat} {n : Nat} {P : pT} {Q : Int32 → sT → Prop} {s : sT} (T : TC s b n) (S : CS s b n P) (hP : P.1 < n) (g1 : ∀ q, sgM b P.1 (eot b n P.1) W q → q ∈ sgs W W.length 0 0 → Q 1 s) : ∀ m f i, i + m = W.length → f ≤ i → (∀ q, q ∈ sgs W m f i → q ∈ sgs W W.length 0 0) → ((∀ q, q ∈ sgs W m f i → ¬ sgM b P.1 (eot b n P.1) W q) → Q 0 s) → c8_isOwnWord_4 (nI f) (nI i) Q s := by
  have hl := w.2.2
  have hn := T.1
  have he := eot_le (b := b) hP
  have hg := eot_gt (b := b) (n := n) (i := P.1)
  obtain ⟨-, c6, -⟩ := S.2.2.2 hP
  -- one segment
  have seg : ∀ (X : Int32 → Int32 → sT → Prop) f i, f ≤ i → i ≤ W.length → ((f, i) ∈ sgs W W.length 0 0) → (¬ sgM b P.1 (eot b n P.1) W (f, i) → X (nI (i + 1)) (nI (i + 1)) s) → c8_isOwnWord_33 (nI f) (nI i) Q X s := by
    intro X f i h1 h2 h3 h4
    refine e_c8_isOwnWord_33 ?_
    rw [S.2.1, c6, pk_sub h1, pk_sub (by omega), nI_eq (by omega) (by omega), nI_1]
    refine br_c (fun q => ?_) (fun q x hx => by rw [hx]; exact h4 (fun y => q y.1))
    refine e_c8_isOwnWordFrom (c_letters w lt (by omega) T S hP (fun A => yes1 ?_) (fun A => no0 (fun x hx => by rw [hx]; exact h4 (fun y => A y.2))) (eot b n P.1 - P.1) 0 (by omega) (fun j hj => by omega))
    exact g1 (f, i) ⟨q, A⟩ h3
  intro m
  induction m with
  | zero =>
    intro f i e hf hs g0
    have e : i = W.length := e
    subst e
    refine e_c8_isOwnWord_4 (c_len w (br_f (nI_nlt (Nat.le_refl _) (by omega)) (c_len w (br_t rfl (seg _ f _ hf (Nat.le_refl _) (hs _ (List.mem_singleton.2 rfl)) (fun hno => ?_))))))
    refine e_c8_isOwnWord_4 (c_len w (br_t (nI_lt (by omega) (by omega)) (g0 (fun q hq => ?_))))
    rw [List.mem_singleton.1 hq]
    exact hno
  | succ m ih =>
    intro f i e hf hs g0
    have hi : i < W.length := by omega
    have hc := lt i hi
    have hD : W.getD i 0 = W[i] := getD_at hi
    refine e_c8_isOwnWord_4 (c_len w (br_f (nI_nlt (by omega) (by omega)) (c_len w (br_f (fun q => ?_) (c_chr w hi ?_)))))
    · rw [nI_eq (by omega) (by omega)] at q
      omega
    rw [show (32 : Int32) = nI 32 from rfl, nI_eq (by omega) (by decide), nI_1]
    have hsg : sgs W (m + 1) f i = if W.getD i 0 = 32 then (f, i) :: sgs W m (i + 1) (i + 1) else sgs W m f (i + 1) := rfl
    rw [hsg, hD] at hs g0
    refine br_c (fun q => ?_) (fun q => ?_)
    · rw [if_pos q] at hs g0
      refine seg _ f i hf (by omega) (hs _ List.mem_cons_self) (fun hno => ih (i + 1) (i + 1) (by omega) (Nat.le_refl _) (fun y hy => hs y (List.mem_cons_of_mem _ hy)) (fun hh => g0 (fun y hy => ?_)))
      rcases List.mem_cons.1 hy with z | z
      · rw [z]; exact hno
      · exact hh y z
    · rw [if_neg q] at hs g0
      exact ih f (i + 1) (by omega) (by omega) hs g0
/-- the segments are the own words -/
theorem sgs_own : ∀ q, q ∈ sgs ownT ownT.length 0 0 → q.1 + (q.2 - q.1) ≤ ownT.length ∧ (ownT.drop q.1).take (q.2 - q.1) ∈ ownW := by decide +kernel
theorem own_sgs : ∀ l, l ∈ ownW → ∃ q, q ∈ sgs ownT ownT.length 0 0 ∧ q.1 + (q.2 - q.1) ≤ ownT.length ∧ (ownT.drop q.1).take (q.2 - q.1) = l ∧ q.2 - q.1 = l.length := by decide +kernel
theorem agr_dt {b : Nat → Nat} {P e f : Nat} {W : List Nat} (h : f + (e - P) ≤ W.length) : agr b P e f W ↔ sub b P e = (W.drop f).take (e - P) := by
  have hlen : ((W.drop f).take (e - P)).length = e - P := by rw [List.length_take, List.length_drop]; omega
  refine ⟨fun A => ?_, fun q j hj => ⟨by omega, ?_⟩⟩
  · refine sub_eq (by rw [hlen]) (fun k hk => ?_)
    rw [hlen] at hk
    obtain ⟨h1, h2⟩ := A k (by omega)
    rw [h2, List.getElem_take, List.getElem_drop]
  · have hj2 : j < (sub b P e).length := by rw [sub_len]; omega
    have h1 := sub_at (b := b) (i := P) (e := e) (k := j) hj2
    have h2 : (sub b P e)[j]'hj2 = ((W.drop f).take (e - P))[j]'(by rw [hlen]; omega) := by
      congr 1
    rw [← h1, h2, List.getElem_take, List.getElem_drop]
def isOwn (T : Tok) : Prop := ∃ l, l ∈ ownW ∧ T = tWd l
theorem c_own {b : Nat → Nat} {n : Nat} {P : pT} {l : List Nat} {Q : Int32 → sT → Prop} {s : sT} (T : TC s b n) (S : CS s b n P) (hT : tok b n P = tWd l) (h1 : l ∈ ownW → Q 1 s) (h0 : l ∉ ownW → Q 0 s) : c8_isOwnWord Q s := by
  obtain ⟨d1, d2, d3, d4⟩ := tok_word.1 hT
  have hlen : l.length = eot b n P.1 - P.1 := by rw [← d4, sub_len]
  refine e_c8_isOwnWord (c_ownLoop own_ws own_lt T S d1 (fun q hq hm => h1 ?_) ownT.length 0 0 (Nat.zero_add _) (Nat.le_refl _) (fun _ h => h) (fun hno => h0 (fun hl => ?_)))
  · obtain ⟨e1, e2⟩ := sgs_own q hm
    obtain ⟨q1, q2⟩ := hq
    rw [q1] at e1 e2
    rw [agr_dt e1, d4] at q2
    rw [q2]
    exact e2
  · obtain ⟨q, m1, m2, m3, m4⟩ := own_sgs l hl
    refine hno q m1 ⟨by omega, ?_⟩
    rw [show q.2 - q.1 = eot b n P.1 - P.1 by omega] at m2 m3
    rw [agr_dt m2, d4, m3]
theorem r_own {b : Nat → Nat} {n : Nat} {P : pT} {Q : Int32 → sT → Prop} {s : sT} (I : IC s) (T : TR s b n) (R : RLx s b n P) (h1 : isOwn (tok b n P) → ∀ s', Fr X2R s s' → RN s' b n P → Q 1 s') (h0 : ¬ isOwn (tok b n P) → ∀ s', Fr X2R s s' → RN s' b n P → Q 0 s') : c12_isOwnHere Q s := by
  have step : ∀ {t : Nat} {l : List Nat} {P' : Int32 → sT → Prop} {u : sT}, (t, l) ∈ wRows → Fr X2R s u → RLx u b n P → (tok b n P = tWd l → ∀ u', Fr X2R s u' → RN u' b n P → P' 1 u') → (tok b n P ≠ tWd l → ∀ u', Fr X2R s u' → RN u' b n P → P' 0 u') → c12_isHere t P' u := fun {t l P' u} hm F R' g1 g0 => by
    have Iu : IC u := IC_fr F (fun a j q => by
      unfold fIC at q
      unfold X2R
      rw [Bool.eq_false_iff]
      intro y
      simp only [Bool.or_eq_true, Bool.and_eq_true, Nat.beq_eq, Nat.ble_eq] at *
      omega) I
    exact r_here (wl_of Iu hm) (wl_all _ hm).2.2.1 (TR_fr F rfl (fun _ => rfl) T) R' (fun q u' F' N' => g1 q u' (fr_tr F F') N') (fun q u' F' N' => g0 q u' (fr_tr F F') N')
  have yes : ∀ l, l ∈ ownW → tok b n P = tWd l → isOwn (tok b n P) := fun l hl q => ⟨l, hl, q⟩
  -- the chain, from its end
  have t299 : isOwn (tok b n P) → ∀ u, Fr X2R s u → RN u b n P → c12_isOwnHere_299 (1 : Int32) Q u := fun q u F N => e_c12_isOwnHere_299 (br_f (by decide) (h1 q u F N))
  have t223 : isOwn (tok b n P) → ∀ u, Fr X2R s u → RN u b n P → c12_isOwnHere_223 (1 : Int32) Q u := fun q u F N => e_c12_isOwnHere_223 (br_f (by decide) (t299 q u F N))
  have t147 : isOwn (tok b n P) → ∀ u, Fr X2R s u → RN u b n P → c12_isOwnHere_147 (1 : Int32) Q u := fun q u F N => e_c12_isOwnHere_147 (br_f (by decide) (t223 q u F N))
  have t71 : isOwn (tok b n P) → ∀ u, Fr X2R s u → RN u b n P → c12_isOwnHere_71 (1 : Int32) Q u := fun q u F N => e_c12_isOwnHere_71 (br_f (by decide) (t147 q u F N))
  refine e_c12_isOwnHere ?_
  refine step (t := 165) (l := [102, 105, 110, 101, 115, 116]) (by decide) fr_rf R (fun q u165 F165 N165 => yes1 (t71 (yes _ (by decide) q) u165 F165 N165)) (fun n165 u165 F165 N165 => no0 ?_)
  refine step (t := 166) (l := [109, 111, 115, 116]) (by decide) F165 N165.1 (fun q u166 F166 N166 => yes1 (t71 (yes _ (by decide) q) u166 F166 N166)) (fun n166 u166 F166 N166 => no0 ?_)
  refine step (t := 167) (l := [112, 101, 114, 115, 111, 110]) (by decide) F166 N166.1 (fun q u167 F167 N167 => yes1 (t71 (yes _ (by decide) q) u167 F167 N167)) (fun n167 u167 F167 N167 => no0 ?_)
  refine step (t := 168) (l := [100, 117, 101]) (by decide) F167 N167.1 (fun q u168 F168 N168 => yes1 (t71 (yes _ (by decide) q) u168 F168 N168)) (fun n168 u168 F168 N168 => no0 ?_)
  refine step (t := 169) (l := [111, 102]) (by decide) F168 N168.1 (fun q u169 F169 N169 => yes1 (t71 (yes _ (by decide) q) u169 F169 N169)) (fun n169 u169 F169 N169 => no0 ?_)
  refine step (t := 170) (l := [104, 97, 118, 101]) (by decide) F169 N169.1 (fun q u170 F170 N170 => yes1 (t71 (yes _ (by decide) q) u170 F170 N170)) (fun n170 u170 F170 N170 => no0 ?_)
  refine e_c12_isOwnHere_71 (br_t rfl ?_)
  refine step (t := 171) (l := [98, 121]) (by decide) F170 N170.1 (fun q u171 F171 N171 => yes1 (t147 (yes _ (by decide) q) u171 F171 N171)) (fun n171 u171 F171 N171 => no0 ?_)
  refine step (t := 172) (l := [98, 97, 107, 101, 115]) (by decide) F171 N171.1 (fun q u172 F172 N172 => yes1 (t147 (yes _ (by decide) q) u172 F172 N172)) (fun n172 u172 F172 N172 => no0 ?_)
  refine step (t := 173) (l := [99, 111, 115, 116, 115]) (by decide) F172 N172.1 (fun q u173 F173 N173 => yes1 (t147 (yes _ (by decide) q) u173 F173 N173)) (fun n173 u173 F173 N173 => no0 ?_)
  refine step (t := 174) (l := [108, 105, 107, 101, 115]) (by decide) F173 N173.1 (fun q u174 F174 N174 => yes1 (t147 (yes _ (by decide) q) u174 F174 N174)) (fun n174 u174 F174 N174 => no0 ?_)
  refine step (t := 175) (l := [109, 105, 99, 101]) (by decide) F174 N174.1 (fun q u175 F175 N175 => yes1 (t147 (yes _ (by decide) q) u175 F175 N175)) (fun n175 u175 F175 N175 => no0 ?_)
  refine step (t := 176) (l := [115, 105, 122, 101]) (by decide) F175 N175.1 (fun q u176 F176 N176 => yes1 (t147 (yes _ (by decide) q) u176 F176 N176)) (fun n176 u176 F176 N176 => no0 ?_)
  refine e_c12_isOwnHere_147 (br_t rfl ?_)
  refine step (t := 177) (l := [115, 116, 111, 99, 107]) (by decide) F176 N176.1 (fun q u177 F177 N177 => yes1 (t223 (yes _ (by decide) q) u177 F177 N177)) (fun n177 u177 F177 N177 => no0 ?_)
  refine step (t := 178) (l := [112, 108, 97, 99, 101]) (by decide) F177 N177.1 (fun q u178 F178 N178 => yes1 (t223 (yes _ (by decide) q) u178 F178 N178)) (fun n178 u178 F178 N178 => no0 ?_)
  refine step (t := 179) (l := [100, 97, 121]) (by decide) F178 N178.1 (fun q u179 F179 N179 => yes1 (t223 (yes _ (by decide) q) u179 F179 N179)) (fun n179 u179 F179 N179 => no0 ?_)
  refine step (t := 180) (l := [104, 117, 110, 103, 101, 114]) (by decide) F179 N179.1 (fun q u180 F180 N180 => yes1 (t223 (yes _ (by decide) q) u180 F180 N180)) (fun n180 u180 F180 N180 => no0 ?_)
  refine step (t := 181) (l := [110, 117, 109, 98, 101, 114]) (by decide) F180 N180.1 (fun q u181 F181 N181 => yes1 (t223 (yes _ (by decide) q) u181 F181 N181)) (fun n181 u181 F181 N181 => no0 ?_)
  refine step (t := 182) (l := [116, 111, 112]) (by decide) F181 N181.1 (fun q u182 F182 N182 => yes1 (t223 (yes _ (by decide) q) u182 F182 N182)) (fun n182 u182 F182 N182 => no0 ?_)
  refine e_c12_isOwnHere_223 (br_t rfl ?_)
  refine step (t := 183) (l := [98, 111, 116, 116, 111, 109]) (by decide) F182 N182.1 (fun q u183 F183 N183 => yes1 (t299 (yes _ (by decide) q) u183 F183 N183)) (fun n183 u183 F183 N183 => no0 ?_)
  refine step (t := 184) (l := [119, 97, 121, 115]) (by decide) F183 N183.1 (fun q u184 F184 N184 => yes1 (t299 (yes _ (by decide) q) u184 F184 N184)) (fun n184 u184 F184 N184 => no0 ?_)
  refine step (t := 185) (l := [104, 97, 100]) (by decide) F184 N184.1 (fun q u185 F185 N185 => yes1 (t299 (yes _ (by decide) q) u185 F185 N185)) (fun n185 u185 F185 N185 => no0 ?_)
  refine step (t := 186) (l := [102, 105, 116, 115]) (by decide) F185 N185.1 (fun q u186 F186 N186 => yes1 (t299 (yes _ (by decide) q) u186 F186 N186)) (fun n186 u186 F186 N186 => no0 ?_)
  refine step (t := 187) (l := [111, 114]) (by decide) F186 N186.1 (fun q u187 F187 N187 => yes1 (t299 (yes _ (by decide) q) u187 F187 N187)) (fun n187 u187 F187 N187 => no0 ?_)
  refine step (t := 188) (l := [97, 110, 100]) (by decide) F187 N187.1 (fun q u188 F188 N188 => yes1 (t299 (yes _ (by decide) q) u188 F188 N188)) (fun n188 u188 F188 N188 => no0 ?_)
  refine e_c12_isOwnHere_299 (br_t rfl ?_)
  refine step (t := 189) (l := [110, 111, 116]) (by decide) F188 N188.1 (fun q u189 F189 N189 => yes1 (h1 (yes _ (by decide) q) u189 F189 N189)) (fun n189 u189 F189 N189 => no0 ?_)
  refine step (t := 190) (l := [97, 108, 108]) (by decide) F189 N189.1 (fun q u190 F190 N190 => yes1 (h1 (yes _ (by decide) q) u190 F190 N190)) (fun n190 u190 F190 N190 => no0 ?_)
  refine step (t := 191) (l := [109, 105, 110]) (by decide) F190 N190.1 (fun q u191 F191 N191 => yes1 (h1 (yes _ (by decide) q) u191 F191 N191)) (fun n191 u191 F191 N191 => no0 ?_)
  refine step (t := 192) (l := [109, 97, 120]) (by decide) F191 N191.1 (fun q u192 F192 N192 => yes1 (h1 (yes _ (by decide) q) u192 F192 N192)) (fun n192 u192 F192 N192 => no0 ?_)
  refine h0 ?_ u192 F192 N192
  rintro ⟨l, hl, q⟩
  unfold ownW at hl
  simp only [List.mem_cons, List.mem_nil_iff, or_false] at hl
  rcases hl with rfl | rfl | rfl | rfl | rfl | rfl | rfl | rfl | rfl | rfl | rfl | rfl | rfl | rfl | rfl | rfl | rfl | rfl | rfl | rfl | rfl | rfl | rfl | rfl | rfl | rfl | rfl | rfl
  · exact n165 q
  · exact n166 q
  · exact n167 q
  · exact n168 q
  · exact n169 q
  · exact n170 q
  · exact n171 q
  · exact n172 q
  · exact n173 q
  · exact n174 q
  · exact n175 q
  · exact n176 q
  · exact n177 q
  · exact n178 q
  · exact n179 q
  · exact n180 q
  · exact n181 q
  · exact n182 q
  · exact n183 q
  · exact n184 q
  · exact n185 q
  · exact n186 q
  · exact n187 q
  · exact n188 q
  · exact n189 q
  · exact n190 q
  · exact n191 q
  · exact n192 q
