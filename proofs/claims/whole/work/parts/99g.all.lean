theorem ofC_0 {tk lo hi : Nat} {T : Tok} (h : ∀ k, lo ≤ k → k < hi → alw tk k = true → T ≠ tWd (wdK k)) : ofC tk lo hi T = 0 := by
  unfold ofC
  refine if_neg (fun q => ?_)
  obtain ⟨k, hk⟩ : ∃ k, whC tk T = k + 1 := ⟨whC tk T - 1, by omega⟩
  rw [hk, Nat.add_sub_cancel] at q
  exact h k (by omega) (by omega) q.2.2 (whC_eq hk)
theorem rdQ_01 {z : Bool} {h : Nat} {sim : pT → List Nat → Prop} {nx : Tok → Prop} {sx : Nat → Nat → Prop} {s0 : sT} {b : Nat → Nat} {n t wh : Nat} {P : pT} {C : List Nat} {d : Nat} {Q : Int32 → sT → Prop} (hQ : rdQ z h sim nx sx s0 b n t wh P C d Q) : rdQ z h sim nx sx s0 b n t wh P C d (fun y u => (y = 0 ∨ y = 1) ∧ Q y u) :=
  ⟨fun s' P' Cp a1 a2 a3 a4 a5 => ⟨Or.inr rfl, hQ.1 s' P' Cp a1 a2 a3 a4 a5⟩, fun s' f pl a1 a2 => ⟨Or.inl rfl, hQ.2 s' f pl a1 a2⟩⟩
theorem go_238 {N : Nat} {s0 : sT} {b : Nat → Nat} {n t wh : Nat} {o : Nat} {s : sT} {P : pT} {C : List Nat} {d : Nat} {Q : Int32 → sT → Prop} (R : CCx s0 s b n t wh P C d) (hQ : rdQ false (hPa o) (fun P' Cp => simP b n wh P P' o Cp) nxA (fun f pl => simX pT1 b n wh P o f pl) s0 b n t wh P C d Q) (n40 : tok b n P ≠ tSg 40) (nmi : tok b n P ≠ tWd [109, 105, 110]) (nma : tok b n P ≠ tWd [109, 97, 120]) (nof : ∀ k, 10 ≤ k → k < 12 → alw wh k = true → tok b n P ≠ tWd (wdK k)) (nnu : ∀ l, tok b n P ≠ tNm l) : c6_part_238 (g6 N) Q s := by
  have hm : ∀ i j a b' c (Q Q' : Int32 → sT → Prop) s, g6 N i j a b' c Q s → (∀ r s, Q r s → Q' r s) → g6 N i j a b' c Q' s := fun i j a b' c Q Q' s => mo_g6 N i j a b' c Q Q' s
  have hwh := R.2.2.2.2.2.2.2.2.2
  have none : (∀ k, k < 10 → alw wh k = true → tok b n P ≠ tWd (wdK k)) → c8_fail (1 : Int32) (fun y5 u6 => (y5 = 0 ∨ y5 = 1) ∧ (Q y5 u6)) s := fun hno => c_failC (f := 1) (by decide) R (fun s1 F1 => ⟨Or.inl rfl, hQ.2 s1 1 P.1 F1 (fun s0' s' C' W B d' v1 Q' R' _ h' => s_none R' n40 nmi nma (ofC_0 nof) (ofC_0 (fun k _ h2 => hno k h2)) nnu h')⟩)
  refine e_c6_part_238 hm ?_
  rw [R.2.2.2.2.1, show (2 : Int32) = nI 2 from rfl, nI_eq (by omega) (by decide)]
  refine br_c (fun q => ?_) (fun q => ?_)
  · subst q
    refine e_c6_factOfPerson ?_
    refine c_wd (l := [110, 117, 109, 98, 101, 114]) (by decide) R (fun q => yes1 (br_f (by decide) (go_word (k := 5) R hQ (by decide) q (by rw [q]; decide) (by decide)))) (fun n5 => no0 ?_)
    refine c_wd (l := [104, 117, 110, 103, 101, 114]) (by decide) R (fun q => yes1 (br_f (by decide) (go_word (k := 4) R hQ (by decide) q (by rw [q]; decide) (by decide)))) (fun n4 => no0 ?_)
    refine c_wd (l := [116, 111, 112]) (by decide) R (fun q => yes1 (br_f (by decide) (go_word (k := 6) R hQ (by decide) q (by rw [q]; decide) (by decide)))) (fun n6 => no0 ?_)
    refine c_wd (l := [98, 111, 116, 116, 111, 109]) (by decide) R (fun q => yes1 (br_f (by decide) (go_word (k := 7) R hQ (by decide) q (by rw [q]; decide) (by decide)))) (fun n7 => no0 ?_)
    refine c_wd (l := [119, 97, 121, 115]) (by decide) R (fun q => yes1 (br_f (by decide) (go_word (k := 8) R hQ (by decide) q (by rw [q]; decide) (by decide)))) (fun n8 => no0 ?_)
    refine c_wd (l := [104, 97, 100]) (by decide) R (fun q => yes1 (br_f (by decide) (go_word (k := 9) R hQ (by decide) q (by rw [q]; decide) (by decide)))) (fun n9 => no0 ?_)
    refine c_wd (l := [100, 97, 121]) (by decide) R (fun q => yes1 (br_f (by decide) (go_word (k := 2) R hQ (by decide) q (by rw [q]; decide) (by decide)))) (fun n2 => no0 ?_)
    refine br_t rfl (none (fun k hk ha => ?_))
    have cs : k = 0 ∨ k = 1 ∨ k = 2 ∨ k = 3 ∨ k = 4 ∨ k = 5 ∨ k = 6 ∨ k = 7 ∨ k = 8 ∨ k = 9 := by omega
    rcases cs with rfl | rfl | rfl | rfl | rfl | rfl | rfl | rfl | rfl | rfl
    · exact absurd ha (by decide)
    · exact absurd ha (by decide)
    · exact n2
    · exact absurd ha (by decide)
    · exact n4
    · exact n5
    · exact n6
    · exact n7
    · exact n8
    · exact n9
  · have w01 : wh = 0 ∨ wh = 1 := by omega
    refine e_c6_factOfPart ?_
    refine c_wd (l := [115, 105, 122, 101]) (by decide) R (fun q => yes1 (br_f (by decide) (go_word (k := 0) R hQ (by decide) q (by rw [q]; rcases w01 with rfl | rfl <;> decide) (by rcases w01 with rfl | rfl <;> decide)))) (fun n0 => no0 ?_)
    refine c_wd (l := [115, 116, 111, 99, 107]) (by decide) R (fun q => yes1 (br_f (by decide) (go_word (k := 1) R hQ (by decide) q (by rw [q]; rcases w01 with rfl | rfl <;> decide) (by rcases w01 with rfl | rfl <;> decide)))) (fun n1 => no0 ?_)
    refine c_wd (l := [100, 97, 121]) (by decide) R (fun q => yes1 (br_f (by decide) (go_word (k := 2) R hQ (by decide) q (by rw [q]; rcases w01 with rfl | rfl <;> decide) (by rcases w01 with rfl | rfl <;> decide)))) (fun n2 => no0 ?_)
    rw [R.2.2.2.2.1]
    rcases w01 with rfl | rfl
    · refine br_t rfl (c_wd (l := [112, 108, 97, 99, 101]) (by decide) R (fun q => yes1 (br_f (by decide) (go_word (k := 3) R hQ (by decide) q (by rw [q]; decide) (by decide)))) (fun n3 => no0 (br_t rfl (none (fun k hk ha => ?_)))))
      have cs : k = 0 ∨ k = 1 ∨ k = 2 ∨ k = 3 ∨ k = 4 ∨ k = 5 ∨ k = 6 ∨ k = 7 ∨ k = 8 ∨ k = 9 := by omega
      rcases cs with rfl | rfl | rfl | rfl | rfl | rfl | rfl | rfl | rfl | rfl
      · exact n0
      · exact n1
      · exact n2
      · exact n3
      · exact absurd ha (by decide)
      · exact absurd ha (by decide)
      · exact absurd ha (by decide)
      · exact absurd ha (by decide)
      · exact absurd ha (by decide)
      · exact absurd ha (by decide)
    · refine br_f (by decide) (c_wd (l := [104, 117, 110, 103, 101, 114]) (by decide) R (fun q => yes1 (br_f (by decide) (go_word (k := 4) R hQ (by decide) q (by rw [q]; decide) (by decide)))) (fun n4 => no0 (br_t rfl (none (fun k hk ha => ?_)))))
      have cs : k = 0 ∨ k = 1 ∨ k = 2 ∨ k = 3 ∨ k = 4 ∨ k = 5 ∨ k = 6 ∨ k = 7 ∨ k = 8 ∨ k = 9 := by omega
      rcases cs with rfl | rfl | rfl | rfl | rfl | rfl | rfl | rfl | rfl | rfl
      · exact n0
      · exact n1
      · exact n2
      · exact absurd ha (by decide)
      · exact n4
      · exact absurd ha (by decide)
      · exact absurd ha (by decide)
      · exact absurd ha (by decide)
      · exact absurd ha (by decide)
      · exact absurd ha (by decide)
theorem g6_pair {N : Nat} {a c : Int32} {Q : Int32 → sT → Prop} {s : sT} (h : c6_pair (g6 N) a c Q s) : g6 (N + 1) 6 0 a c 0 Q s := h
theorem go_pa {N : Nat} {s0 : sT} {b : Nat → Nat} {n t wh : Nat} (H3 : goSu (N + 1) s0 b n t wh) (H3' : goSu N s0 b n t wh) (H5 : goPa (N + 1) s0 b n t wh) : goPa (N + 2) s0 b n t wh := by
  intro o ho hN s P C d Q R hQ
  have hm : ∀ i j a b' c (Q Q' : Int32 → sT → Prop) s, g6 (N + 1) i j a b' c Q s → (∀ r s, Q r s → Q' r s) → g6 (N + 1) i j a b' c Q' s := fun i j a b' c Q Q' s => mo_g6 (N + 1) i j a b' c Q Q' s
  have hwh := R.2.2.2.2.2.2.2.2.2
  show c6_part (g6 (N + 1)) (nI o) Q s
  obtain ⟨-, -, -, k2⟩ := cs_kind R.2.2.1
  refine e_c6_part hm (br_c (fun q => ?_) (fun q => ?_))
  · obtain ⟨l, hl⟩ := k2.1 q
    have inj : ∀ l', tok b n P = tNm l' → l' = l := fun l' y => (Prod.mk.inj (hl.symm.trans y)).2.symm
    have nst : tok b n P ≠ tStk := fun y => absurd (Prod.mk.inj (hl.symm.trans y)).1 (by decide)
    have hg := adv_gt (b := b) (n := n) (P := P)
    refine c_seeNum R.2.1.1 R.2.2.1 (fun l' e1 e2 e3 => ?_) (fun l' e1 e2 s1 F1 S1 f1 f2 => ?_) (fun y => absurd hl (y l))
    · rw [inj l' e1] at e2 e3 ⊢
      refine c_advC R (tk_lt hl (fun y => absurd (Prod.mk.inj y).1 (by decide))) nst (fun s1 R1 => br_f (nI_nm (by omega)) ?_)
      refine c_put (c := 0) (v := 1000 + nmV l 0) (k := nmV l 0) R1 (by unfold trc; rw [if_pos (by omega), Nat.add_sub_cancel_left]; rfl) (fun s2 R2 => yes1 (hQ.1 s2 (adv b n P) [1000 + nmV l 0] R2 hg (fun s0' s' C' W B d' v1 Q' R' h' => s_num R' hl (fun _ _ t1 E1 => h' t1 (RC_d E1 (Nat.le_refl _))) (fun y => by omega)) trivial (typd_le (ty_num e3) (by unfold hPa; omega))))
    · rw [inj l' e1] at e2
      have T1 : TC s1 b n := TC_fr F1 (fun a j q => by rcases q with rfl | rfl <;> rfl) R.2.1.1
      refine w_adv T1 S1 (tk_lt hl (fun y => absurd (Prod.mk.inj y).1 (by decide))) nst (fun s2 F2 S2 => br_t rfl (hQ.2 s2 1 (P.1 + 4) ⟨fr_tr (fr_tr R.1 (fr_mo F1 fun a j q => xcc_45 q)) (fr_mo F2 fun a j q => xcc_4 q), by rw [F2.1 _ _ rfl]; exact f1, by rw [F2.1 _ _ rfl]; exact f2, by decide, by decide⟩ (fun s0' s' C' W B d' v1 Q' R' _ h' => s_num R' hl (fun y => by omega) (fun _ => h'))))
  · have nnu : ∀ l, tok b n P ≠ tNm l := fun l y => q (k2.2 ⟨l, y⟩)
    refine c_sg (c := 40) (by decide) R (fun h40 => yes1 (go_round H3 ho (by omega) R hQ h40)) (fun n40 => no0 ?_)
    refine c_wd (t0 := 1000012) (l := [109, 105, 110]) (by decide) R (fun hmi => yes1 (g6_pair (c := nI (9 + 0)) (go_pair (k := 0) H3' ho (by omega) R (rdQ_01 hQ) (Or.inl ⟨rfl, hmi⟩)))) (fun nmi => no0 ?_)
    refine c_wd (t0 := 1000013) (l := [109, 97, 120]) (by decide) R (fun hma => yes1 (g6_pair (c := nI (9 + 1)) (go_pair (k := 1) H3' ho (by omega) R (rdQ_01 hQ) (Or.inr ⟨rfl, hma⟩)))) (fun nma => no0 ?_)
    rw [R.2.2.2.2.1, show (2 : Int32) = nI 2 from rfl, nI_eq (by omega) (by decide)]
    refine br_c (fun q2 => ?_) (fun q2 => ?_)
    · subst q2
      refine c_wd (t0 := 1000014) (l := [115, 116, 111, 99, 107]) (by decide) R (fun hst => yes1 (go_of (k := 0) H5 ho (by omega) R hQ (by decide) hst)) (fun nst => no0 (e_c6_part_186 hm ?_))
      rw [R.2.2.2.2.1]
      refine br_t rfl (c_wd (t0 := 1000015) (l := [102, 105, 116, 115]) (by decide) R (fun hfi => yes1 (go_of (k := 1) H5 ho (by omega) R hQ (by decide) hfi)) (fun nfi => no0 (go_238 R hQ n40 nmi nma (fun k k1 k2 _ => ?_) nnu)))
      have : k = 10 ∨ k = 11 := by omega
      rcases this with rfl | rfl
      · exact nst
      · exact nfi
    · refine e_c6_part_186 hm ?_
      rw [R.2.2.2.2.1, show (2 : Int32) = nI 2 from rfl, nI_eq (by omega) (by decide)]
      refine br_f q2 (go_238 R hQ n40 nmi nma (fun k k1 k2 ha => ?_) nnu)
      have w01 : wh = 0 ∨ wh = 1 := by omega
      have : k = 10 ∨ k = 11 := by omega
      exfalso
      rcases w01 with rfl | rfl <;> (rcases this with rfl | rfl <;> exact absurd ha (by decide))
theorem go_sums {s0 : sT} {b : Nat → Nat} {n t wh : Nat} : ∀ N, (goPa N s0 b n t wh ∧ goPr N s0 b n t wh ∧ goSu N s0 b n t wh) ∧ (goPa (N + 1) s0 b n t wh ∧ goPr (N + 1) s0 b n t wh ∧ goSu (N + 1) s0 b n t wh)
  | 0 => ⟨⟨fun o _ h => by omega, fun o _ h => by omega, fun o _ h => by omega⟩, ⟨fun o _ h => by omega, fun o _ h => by omega, fun o _ h => by omega⟩⟩
  | N + 1 => by
    obtain ⟨⟨a1, a2, a3⟩, b1, b2, b3⟩ := go_sums (s0 := s0) (b := b) (n := n) (t := t) (wh := wh) N
    exact ⟨⟨b1, b2, b3⟩, go_pa b3 a3 b1, go_pr b1, go_su b2⟩
