theorem goodIn_U {b : Cond} (hb : b ∈ mU) : GoodIn mU (b :: mU) := by
  intro w hw
  have h : w ∈ mU := by
    rcases List.mem_cons.mp hw with rfl | h
    · exact hb
    · exact h
  exact ⟨h, good_of_word (List.mem_filter.mp h).2⟩
def mPc (D : va_G) (dA : Nat → ClassId) (sz : Nat) (ext adV : Nat → Nat) (av : List Value) (S : mS) : Array Value → State → Prop := fun v U =>
  v = (av.map (cv (mAd sz ext))).toArray ∧ mRep D dA sz ext S U.heap ∧ va_K D vwCl (mTys dA) U ∧ sz ≤ U.heap.size ∧ mEnv sz ext adV U
def mQc (D : va_G) (dA : Nat → ClassId) (sz : Nat) (ext : Nat → Nat) (n1 w1 : Nat) (Q : mQ) : Array Value → State → Outcome → State → Prop := fun _ st oc t =>
  (∃ (r : Option Value) (S : mS), oc = .returned (r.map (cv (mAd sz ext))) ∧ Q r S ∧ mRep D dA sz ext S t.heap ∧ sN S = n1 ∧ sW S = w1) ∧ va_F (fun q => sz ≤ q) st t
def mRoom (dep mc ms : Nat) : Room := { frames := dep, cells := mc, slots := ms, locals := 100 * dep }
/-- a method's contract: what its model says comes about -/
def mMet (y : MethodName) (cc : ByteArray) (nL : Nat) (ret : Option FieldType) (dep mc ms : Nat) (F : mF) : Prop :=
  ∀ (l : Launch) (D : va_G) (dA : Nat → ClassId) (sz : Nat) (ext adV : Nat → Nat) (av : List Value) (S : mS) (Q : mQ), F av S Q →
    Met l y (Cond.code y cc nL ret :: mU) (mRoom dep mc ms) (mPc D dA sz ext adV av S) (mQc D dA sz ext (sN S + mc) (sW S + ms) Q) mc ms (fun q => sz ≤ q)
theorem mPc_blind (D : va_G) (dA : Nat → ClassId) (sz : Nat) (ext adV : Nat → Nat) (av : List Value) (S : mS) : FrameBlind (mPc D dA sz ext adV av S) := by
  intro a U g mk h
  obtain ⟨h1, h2, h3, h4, h5⟩ := h
  exact ⟨h1, h2, va_K.moved (u := U) (U := U.calling g mk a) (Vm.Alike.refl U.vm) h3, h4, h5.blind g mk a⟩
def ent0 (av : List Value) : mL := match av with
  | [] => []
  | .long x :: r => some (.long x) :: none :: ent0 r
  | .double x :: r => some (.double x) :: none :: ent0 r
  | v :: r => some v :: ent0 r
def entl (nL : Nat) (av : List Value) : mL := ent0 av ++ List.replicate (nL - (ent0 av).length) none
theorem ent0_len (ad : Nat → Nat) : ∀ av : List Value, (ent0 av).length = (lg_sl (av.map (cv ad))).length
  | [] => rfl
  | v :: r => by
    have ih := ent0_len ad r
    show _ = ((if (cv ad v).category = 2 then [Slot.val (cv ad v), Slot.second] else [Slot.val (cv ad v)]) ++ lg_sl (r.map (cv ad))).length
    rw [List.length_append, ← ih]
    cases v with
    | long x => show (ent0 r).length + 1 + 1 = 2 + _; omega
    | double x => show (ent0 r).length + 1 + 1 = 2 + _; omega
    | int x => show (ent0 r).length + 1 = 1 + _; omega
    | float x => show (ent0 r).length + 1 = 1 + _; omega
    | null => show (ent0 r).length + 1 = 1 + _; omega
    | ref x => show (ent0 r).length + 1 = 1 + _; omega
    | retAddr x => show (ent0 r).length + 1 = 1 + _; omega
theorem ent0_at (ad : Nat → Nat) : ∀ (av : List Value) (b i : Nat) (v : Value), (ent0 av)[i]? = some (some v) → (b + i, cv ad v) ∈ lv_args b (av.map (cv ad))
  | [], b, i, v, h => by simp [ent0] at h
  | w :: r, b, i, v, h => by
    have one : ∀ (w : Value), (cv ad w).category = 1 → (some w :: ent0 r)[i]? = some (some v) → (b + i, cv ad v) ∈ lv_args b ((w :: r).map (cv ad)) := by
      intro w hc h
      cases i with
      | zero =>
        simp at h
        subst h
        simp [lv_args]
      | succ i =>
        rw [List.getElem?_cons_succ] at h
        have ih := ent0_at ad r (b + 1) i v h
        rw [show b + (i + 1) = b + 1 + i by omega]
        simp only [List.map_cons, lv_args, hc]
        simp
        right
        simpa using ih
    have two : ∀ (w : Value), (cv ad w).category = 2 → (some w :: none :: ent0 r)[i]? = some (some v) → (b + i, cv ad v) ∈ lv_args b ((w :: r).map (cv ad)) := by
      intro w hc h
      match i, h with
      | 0, h =>
        simp at h
        subst h
        simp [lv_args]
      | 1, h => simp at h
      | i + 2, h =>
        rw [List.getElem?_cons_succ, List.getElem?_cons_succ] at h
        have ih := ent0_at ad r (b + 2) i v h
        rw [show b + (i + 2) = b + 2 + i by omega]
        simp only [List.map_cons, lv_args, hc]
        simp
        right
        simpa using ih
    cases w with
    | long x => exact two _ rfl h
    | double x => exact two _ rfl h
    | int x => exact one _ rfl h
    | float x => exact one _ rfl h
    | null => exact one _ rfl h
    | ref x => exact one _ rfl h
    | retAddr x => exact one _ rfl h
theorem ent_lR (ad : Nat → Nat) (av : List Value) {n : Nat} (h : (ent0 av).length ≤ n) : lR ad (entl n av) ((lg_sl (av.map (cv ad)) ++ List.replicate (n - (lg_sl (av.map (cv ad))).length) Slot.unset).toArray) := by
  have hl := lv_entry (av.map (cv ad)) (n := n) (by rw [← ent0_len ad]; exact h)
  refine ⟨by rw [hl.1]; simp [entl]; omega, hl.2.1, fun i v hi => ?_⟩
  unfold entl at hi
  by_cases q : i < (ent0 av).length
  · rw [List.getElem?_append_left q] at hi
    have := ent0_at ad av 0 i v hi
    rw [Nat.zero_add] at this
    exact hl.2.2 _ this
  · rw [List.getElem?_append_right (by omega)] at hi
    rw [List.getElem?_replicate] at hi
    split at hi <;> cases hi
/-- a method's end: its machine's end is the contract's -/
def mRet (κ : mX) (nm : String) (ret : Option FieldType) (Q : mQ) : Prop := match κ with
  | ((_, _, _, _, s), (_, args, below, meth, _), (D, dA, sz, ext, _), (n0, w0, mc, ms), Qm) =>
    meth.sig.returnType = ret ∧ meth.locks = false ∧ meth.name = nm ∧ Qm = MQ below (mQc D dA sz ext (n0 + mc) (w0 + ms) Q) args s mc ms (fun q => sz ≤ q)
def mLim (κ : mX) : Nat × Nat := match κ with
  | (_, _, _, (n0, w0, mc, ms), _) => (n0 + mc, w0 + ms)
theorem mMet.of {y : MethodName} {cc : ByteArray} {nL : Nat} {ret : Option FieldType} {dep mc ms : Nat} {F : mF} (hy : plainName y.cls = true) (K : mQ → Nat × Nat → mK)
    (hF : ∀ av S Q, F av S Q → (ent0 av).length ≤ nL ∧ K Q (sN S + mc, sW S + ms) (entl nL av) [] S)
    (body : ∀ (κ : mX) (Q : mQ), mOk κ cc y.cls dep → mRet κ y.name ret Q → mAt κ 0 (K Q (mLim κ))) : mMet y cc nL ret dep mc ms F := by
  intro l D dA sz ext adV av S Q hQ
  obtain ⟨hlen, hK⟩ := hF av S Q hQ
  refine Met.ofW (cc := cc) (maxL := nL) (ret := ret) hy rfl ?_
  intro p e s m args below meth c s₁ B hml hv
  obtain ⟨rfl, hR, hKn, hsz, hE⟩ := hv
  have hts := atoms_spec (ws := Cond.code y cc nL ret :: mU) B.pre
  rw [lg_entry_eq]
  have hl := ent_lR (mAd sz ext) av hlen
  have b := body ((p, l, e, mRoom dep mc ms, s), (m, (av.map (cv (mAd sz ext))).toArray, below, meth, c), (D, dA, sz, ext, adV), (sN S, sW S, mc, ms), MQ below (mQc D dA sz ext (sN S + mc) (sW S + ms) Q) (av.map (cv (mAd sz ext))).toArray s mc ms (fun q => sz ≤ q)) Q
    ⟨B.exec, B.bytes, findClass_of_methodNamed B.named, fun w hw => hts w (List.mem_cons_of_mem _ hw), hKn, hsz, ⟨Nat.le_refl _, Nat.le_refl _⟩, ⟨rfl, rfl⟩, hE⟩
    ⟨B.returns, B.notSynchronized, (name_of_methodNamed B.named B.method).1, rfl⟩
  have b2 := b _ _ _ hK s.heap [] _ hR va_S.rf hl (by rw [hml, hl.1]; simp [entl]; omega) ⟨Nat.le_refl _, Nat.le_add_right _ _, Nat.le_refl _, Nat.le_add_right _ _⟩
  rw [Nat.sub_self, Nat.sub_self] at b2
  exact b2
section WAC
variable {p : Program} {l : Launch} {e : Env} {R : Room} {s : State} {m : MethodId} {args : Array Value} {below : List Frame} {meth : Method} {c : Code} {H : Heap} {locs : List Loc} {cells slots : Nat} {Q : State → Prop}
theorem wa_call {D : va_G} {dA : Nat → ClassId} {sz : Nat} {ext : Nat → Nat} {n1 w1 mc ms pc : Nat} {Q1 : mQ} {a : Array Value} {M : Array Slot} {st0 rest : List Value} (hr : va_Run p l e R s m args below meth c H locs cells slots mc ms (F0 m pc M st0) rest (mQc D dA sz ext n1 w1 Q1 a) (fun q => sz ≤ q)) (hS : va_S (fun q => sz ≤ q) s.heap H locs)
    (kk : ∀ (r : Option Value) (S : mS) (H1 : Heap) (locs1 : List Loc), Q1 r S → mRep D dA sz ext S H1 → sN S = n1 → sW S = w1 → va_S (fun q => sz ≤ q) s.heap H1 locs1 → W p l e R s m args below meth c H1 locs1 (cells + mc) (slots + ms) Q (F0 m (pc + 3) M ((r.map (cv (mAd sz ext))).toList ++ rest))) : W p l e R s m args below meth c H locs cells slots Q (F0 m pc M st0) := by
  intro T hT X
  obtain ⟨v, st₀, t, T', L, h0, X', hL, e1, e2, ⟨⟨r, S, hv, hp, hb, hn, hw⟩, hz, hk⟩, st⟩ := hr T hT X
  cases hv
  rw [h0] at hz hk
  rw [← e1] at hb hz hk
  obtain ⟨t2, a1, b1⟩ := kk r S T'.heap (locs ++ L) hp hb hn hw
    ⟨Nat.le_trans hS.1 hz, fun q h1 h2 => by rw [hk q (Nat.lt_of_lt_of_le h1 hS.1) h2]; exact hS.2.1 q h1 h2, fun q hq => by
      rcases List.mem_append.mp hq with h | h
      · exact hS.2.2 q h
      · exact hL q h⟩ T' rfl X'
  exact ⟨t2, st t2 a1, b1⟩
end WAC
