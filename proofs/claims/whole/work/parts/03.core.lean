abbrev mS : Type := (Nat × Nat) × (Nat → Nat × Nat) × (Nat → Nat → Int32) × (Nat → Nat → Int64) × (Nat → Nat → Option Nat)
abbrev mL : Type := List (Option Value)
abbrev mK : Type := mL → List Value → mS → Prop
abbrev mQ : Type := Option Value → mS → Prop
abbrev mF : Type := List Value → mS → mQ → Prop
def sN (S : mS) : Nat := S.1.1
def sW (S : mS) : Nat := S.1.2
def sH (S : mS) (a : Nat) : Nat × Nat := S.2.1 a
def sI (S : mS) (a : Nat) : Nat → Int32 := S.2.2.1 a
def sJ (S : mS) (a : Nat) : Nat → Int64 := S.2.2.2.1 a
def sP (S : mS) (a : Nat) : Nat → Option Nat := S.2.2.2.2 a
def up1 {α : Type} (f : Nat → α) (j : Nat) (v : α) : Nat → α := fun i => if i = j then v else f i
def setIr (S : mS) (a : Nat) (g : Nat → Int32) : mS := (S.1, S.2.1, up1 S.2.2.1 a g, S.2.2.2.1, S.2.2.2.2)
def setJr (S : mS) (a : Nat) (g : Nat → Int64) : mS := (S.1, S.2.1, S.2.2.1, up1 S.2.2.2.1 a g, S.2.2.2.2)
def setPr (S : mS) (a : Nat) (g : Nat → Option Nat) : mS := (S.1, S.2.1, S.2.2.1, S.2.2.2.1, up1 S.2.2.2.2 a g)
def setI (S : mS) (a j : Nat) (v : Int32) : mS := setIr S a (up1 (sI S a) j v)
def setJ (S : mS) (a j : Nat) (v : Int64) : mS := setJr S a (up1 (sJ S a) j v)
def setP (S : mS) (a j : Nat) (v : Option Nat) : mS := setPr S a (up1 (sP S a) j v)
/-- a new cell of shape h with w slots -/
def addC (S : mS) (h : Nat × Nat) (w : Nat) : mS := ((S.1.1 + 1, S.1.2 + w), up1 S.2.1 S.1.1 h, up1 S.2.2.1 S.1.1 (fun _ => 0), up1 S.2.2.2.1 S.1.1 (fun _ => 0), up1 S.2.2.2.2 S.1.1 (fun _ => none))
def mTy (ci : Nat) : Nat → FieldType := match ci with
  | 0 => tyX0 | 1 => tyX1 | 2 => tyX2 | 3 => tyX3 | 4 => tyX4 | 5 => tyX5 | 6 => tyX6 | 7 => tyX7 | 8 => tyX8 | 9 => tyX9 | 10 => tyX10 | 11 => tyX11 | _ => tyX12
def mN (ci : Nat) : Nat := match ci with
  | 0 => 2 | 1 => 7 | 2 => 3 | 3 => 3 | 4 => 3 | 5 => 12 | 6 => 3 | 7 => 16 | 8 => 6 | 9 => 7 | 10 => 2 | 11 => 18 | _ => 112
def cv (ad : Nat → Nat) (v : Value) : Value := match v with
  | .ref k => .ref (ad k)
  | .int x => .int x
  | .long x => .long x
  | v => v
def fvl (ad : Nat → Nat) (ty : FieldType) (S : mS) (a j : Nat) : Value := match ty with
  | .long => .long (sJ S a j)
  | .object _ => va_rf ((sP S a j).map ad)
  | .array _ => va_rf ((sP S a j).map ad)
  | _ => .int (sI S a j)
def fls (ad : Nat → Nat) (ci : Nat) (S : mS) (a : Nat) : List Value := (List.range (mN ci)).map (fun j => fvl ad (mTy ci j) S a j)
def acell (ad : Nat → Nat) (S : mS) (a t : Nat) : (Nat → Int32) ⊕ (Nat → Int64) ⊕ (Nat → UInt32) ⊕ (Nat → UInt64) ⊕ (Nat → Option Nat) := match t with
  | 1 => .inr (.inl (sJ S a))
  | 3 => .inr (.inr (.inr (.inr (fun j => (sP S a j).map ad))))
  | _ => .inl (sI S a)
def mCell (ad : Nat → Nat) (dA : Nat → ClassId) (S : mS) (a : Nat) : va_E :=
  if (sH S a).1 < 100 then .inr ((sH S a).1, fls ad (sH S a).1 S a) else .inl (dA ((sH S a).1 - 100), (sH S a).2, acell ad S a ((sH S a).1 - 100))
def mWs (ad : Nat → Nat) (dA : Nat → ClassId) (sz : Nat) (S : mS) : va_W := (List.range (sN S)).map (fun k => (sz + k, mCell ad dA S k))
def mAd (sz : Nat) (ext : Nat → Nat) : Nat → Nat := fun k => if k < 1000000 then sz + k else ext (k - 1000000)
def mTys (dA : Nat → ClassId) : List (ClassId × FieldType) := [(dA 0, .int), (dA 1, .long), (dA 2, .char), (dA 3, .object RX9)]
def mRep (D : va_G) (dA : Nat → ClassId) (sz : Nat) (ext : Nat → Nat) (S : mS) (H : Heap) : Prop :=
  va_P D vwCl (mWs (mAd sz ext) dA sz S) H ∧ va_D (fun q => sz ≤ q) (mWs (mAd sz ext) dA sz S) ∧ H.size = sz + sN S ∧ (∀ k, sN S ≤ k → sH S k = (999, 0)) ∧ sN S ≤ 1000000
theorem mWs_at {ad : Nat → Nat} {dA : Nat → ClassId} {sz : Nat} {S : mS} {k : Nat} (h : k < sN S) : (mWs ad dA sz S)[k]? = some (sz + k, mCell ad dA S k) := by
  simp [mWs, h]
theorem mWs_set {ad : Nat → Nat} {dA : Nat → ClassId} {sz : Nat} {S T : mS} {a : Nat} {e : va_E} (hn : sN T = sN S) (hc : ∀ k, k ≠ a → mCell ad dA T k = mCell ad dA S k) (he : mCell ad dA T a = e) :
    (mWs ad dA sz S).set a (sz + a, e) = mWs ad dA sz T := by
  apply List.ext_getElem?
  intro k
  by_cases hk : k < sN S
  · rw [mWs_at (by rw [hn]; exact hk)]
    by_cases ha : a = k
    · subst ha
      rw [List.getElem?_set_self (by simp [mWs, hk]), he]
    · rw [List.getElem?_set_ne ha, mWs_at hk, hc k (Ne.symm ha)]
  · rw [List.getElem?_eq_none (by simp [mWs]; omega), List.getElem?_eq_none (by simp [mWs]; omega)]
/-- the parts of a place: program and entry; frame; world; counts; ends -/
abbrev mX : Type := (Program × Launch × Env × Room × State) × (MethodId × Array Value × List Frame × Method × Code) × (va_G × (Nat → ClassId) × Nat × (Nat → Nat) × (Nat → Nat)) × (Nat × Nat × Nat × Nat) × (State → Prop)
def lR (ad : Nat → Nat) (ls : mL) (M : Array Slot) : Prop := M.size = ls.length ∧ lv_wf M ∧ ∀ (i : Nat) (v : Value), ls[i]? = some (some v) → M[i]? = some (.val (cv ad v))
def mAt (κ : mX) (pc : Nat) (K : mK) : Prop := match κ with
  | ((p, l, e, R, s), (m, args, below, meth, c), (D, dA, sz, ext, _), (n0, w0, mc, ms), Q) =>
    ∀ (ls : mL) (st : List Value) (S : mS), K ls st S → ∀ (H : Heap) (locs : List Loc) (M : Array Slot), mRep D dA sz ext S H → va_S (fun q => sz ≤ q) s.heap H locs → lR (mAd sz ext) ls M → c.maxLocals = M.size →
      (n0 ≤ sN S ∧ sN S ≤ n0 + mc ∧ w0 ≤ sW S ∧ sW S ≤ w0 + ms) →
      W p l e R s m args below meth c H locs (sN S - n0) (sW S - w0) Q (F0 m pc M (st.map (cv (mAd sz ext))))
def mU : List Cond := lw_tbl.filter goodWord
def mStr (i : Nat) : String × Nat × String := match i with
  | 0 => ("UnlikeLoaves$OfficeReader", 50, "finest")
  | 1 => ("UnlikeLoaves$OfficeReader", 66, "most")
  | 2 => ("UnlikeLoaves$OfficeReader", 70, "bakes")
  | 3 => ("UnlikeLoaves$OfficeReader", 74, "mice")
  | 4 => ("UnlikeLoaves$OfficeReader", 78, "person")
  | 5 => ("UnlikeLoaves$Scanner", 53, "finest most person due of have by bakes costs likes mice size stock place day hunger number top bottom ways had fits or and not all min max")
  | 6 => ("UnlikeLoaves$OfficeReader", 132, "due")
  | 7 => ("UnlikeLoaves$OfficeReader", 134, "of")
  | 8 => ("UnlikeLoaves$OfficeReader", 84, "have")
  | 9 => ("UnlikeLoaves$OfficeReader", 146, "by")
  | 10 => ("UnlikeLoaves$OfficeReader", 89, "costs")
  | 11 => ("UnlikeLoaves$Phrases", 123, "min")
  | 12 => ("UnlikeLoaves$Phrases", 128, "max")
  | 13 => ("UnlikeLoaves$Phrases", 130, "stock")
  | 14 => ("UnlikeLoaves$Phrases", 132, "fits")
  | 15 => ("UnlikeLoaves$Phrases", 148, "number")
  | 16 => ("UnlikeLoaves$Phrases", 146, "hunger")
  | 17 => ("UnlikeLoaves$Phrases", 150, "top")
  | 18 => ("UnlikeLoaves$Phrases", 152, "bottom")
  | 19 => ("UnlikeLoaves$Phrases", 154, "ways")
  | 20 => ("UnlikeLoaves$Phrases", 156, "had")
  | 21 => ("UnlikeLoaves$Phrases", 142, "day")
  | 22 => ("UnlikeLoaves$Phrases", 140, "size")
  | 23 => ("UnlikeLoaves$Phrases", 144, "place")
  | 24 => ("UnlikeLoaves$OfficeReader", 107, "likes")
  | 25 => ("UnlikeLoaves$Phrases", 93, "not")
  | 26 => ("UnlikeLoaves$Phrases", 105, "all")
  | 27 => ("UnlikeLoaves$Phrases", 91, "and")
  | 28 => ("UnlikeLoaves$Phrases", 83, "or")
  | 29 => ("UnlikeLoaves$Phrases", 60, "first")
  | 30 => ("UnlikeLoaves$Phrases", 66, "last")
  | 31 => ("UnlikeLoaves$Phrases", 68, "often")
  | 32 => ("UnlikeLoaves$Phrases", 70, "total")
  | 33 => ("UnlikeLoaves$Phrases", 72, "most")
  | 34 => ("UnlikeLoaves$Phrases", 74, "least")
  | _ => ("", 0, "")
def mStrB (i : Nat) : List Int32 := (mStr i).2.2.toList.map (fun ch => Int32.ofNat ch.toNat)
def mStrN : Nat := 35
def mNest : List (String × Nat × MethodName × String) := [("UnlikeLoaves", 15, ⟨"UnlikeLoaves$Tape", "<init>", "()V"⟩, "UnlikeLoaves"), ("UnlikeLoaves$OfficeReader", 11, ⟨"UnlikeLoaves$Rules", "<init>", "()V"⟩, "UnlikeLoaves"), ("UnlikeLoaves$Rules", 49, ⟨"UnlikeLoaves$Formula", "<init>", "()V"⟩, "UnlikeLoaves"), ("UnlikeLoaves", 49, ⟨"UnlikeLoaves$Rules", "<init>", "()V"⟩, "UnlikeLoaves"), ("UnlikeLoaves", 65, ⟨"UnlikeLoaves$State", "<init>", "()V"⟩, "UnlikeLoaves"), ("UnlikeLoaves$History", 22, ⟨"UnlikeLoaves$State", "<init>", "()V"⟩, "UnlikeLoaves"), ("UnlikeLoaves$Outlook", 11, ⟨"UnlikeLoaves$State", "<init>", "()V"⟩, "UnlikeLoaves"), ("UnlikeLoaves", 95, ⟨"UnlikeLoaves$Formula", "<init>", "()V"⟩, "UnlikeLoaves")]
/-- words that are not tables' own: nest mates, the row of States, the texts -/
def mEnv (sz : Nat) (ext adV : Nat → Nat) (U : State) : Prop :=
  (∀ q ∈ mNest, va_Nw (.methodLinkNest q.1 q.2.1 q.2.2.1 q.2.2.2) U) ∧ va_AO RX9 U ∧
  (∀ i, i < mStrN → vk_R (mStr i).1 (mStr i).2.1 (mStr i).2.2 (ext (i + 1)) U ∧ vk_S 1 [(mStrB i).length] [mStrB i] (fun _ => ext (i + 1)) (fun _ => adV i) (fun q => sz ≤ q) U U.heap) ∧
  va_Z "java/lang/String" "COMPACT_STRINGS" "Z" (.int 1) (fun q => sz ≤ q) U U.heap ∧
  (va_Z "jdk/internal/util/Preconditions" "SIOOBE_FORMATTER" "Ljava/util/function/BiFunction;" .null (fun q => sz ≤ q) U U.heap ∨ va_Z "jdk/internal/util/Preconditions" "SIOOBE_FORMATTER" "Ljava/util/function/BiFunction;" (.ref (ext 500000)) (fun q => sz ≤ q) U U.heap) ∧
  ∀ i, adV i = ext (1000001 + i)
theorem va_Zo_go {C n d : String} {A : Nat → Prop} {u U : State} {H H1 : Heap} {v w : Value} (hvm : u.vm.Alike U.vm) (hq : ∀ a : Nat, a < H.size → ¬ A a → H1[a]? = H[a]?) (h : va_Z C n d v A u H ∨ va_Z C n d w A u H) : va_Z C n d v A U H1 ∨ va_Z C n d w A U H1 := by
  rcases h with h | h
  · exact Or.inl ((h.kept hq).moved hvm)
  · exact Or.inr ((h.kept hq).moved hvm)
theorem mEnv.go {sz : Nat} {ext adV : Nat → Nat} {s U : State} (h : mEnv sz ext adV s) (hW : s.WarmedH U.vm) (hq : ∀ a : Nat, a < s.heap.size → ¬ sz ≤ a → U.heap[a]? = s.heap[a]?) : mEnv sz ext adV U :=
  ⟨fun q hm => (h.1 q hm).warmM hW, h.2.1.moved hW.alike, fun i hi => ⟨(h.2.2.1 i hi).1.warm hW, ((h.2.2.1 i hi).2.kept hq).moved hW.alike⟩, (h.2.2.2.1.kept hq).moved hW.alike, va_Zo_go hW.alike hq h.2.2.2.2.1, h.2.2.2.2.2⟩
theorem mEnv.blind {sz : Nat} {ext adV : Nat → Nat} {U : State} (h : mEnv sz ext adV U) (g : JFrame) (mk : MethodId) (a : Array Value) : mEnv sz ext adV (U.calling g mk a) :=
  ⟨fun q hm => (h.1 q hm).same rfl rfl, h.2.1.moved (Vm.Alike.refl U.vm), fun i hi => ⟨(h.2.2.1 i hi).1.same rfl, ((h.2.2.1 i hi).2.kept (fun _ _ _ => rfl)).moved (Vm.Alike.refl U.vm)⟩, (h.2.2.2.1.kept (fun _ _ _ => rfl)).moved (Vm.Alike.refl U.vm), va_Zo_go (Vm.Alike.refl U.vm) (fun _ _ _ => rfl) h.2.2.2.2.1, h.2.2.2.2.2⟩
/-- what is known of a place: the machine, its code, the words, the world's classes, its room -/
def mOk (κ : mX) (cc : ByteArray) (own : String) (dep : Nat) : Prop := match κ with
  | ((p, _, _, R, s), (m, args, _, _, c), (D, dA, sz, ext, adV), (_, _, mc, ms), _) =>
    p.tables.exec = Jvm.exec ∧ c.code = cc ∧ s.vm.findClass own = some m.cls ∧ (∀ w ∈ mU, w.before args s = true) ∧ va_K D vwCl (mTys dA) s ∧ sz ≤ s.heap.size ∧ (dep ≤ R.frames ∧ 100 * dep ≤ R.locals) ∧ (R.cells = mc ∧ R.slots = ms) ∧ mEnv sz ext adV s
-- the instructions, each over what goes on behind it
abbrev gd (b : Bool) (A : Prop) : Prop := match b with
  | true => A
  | false => False
abbrev o_push (v : Value) (K : mK) : mK := fun ls st S => K ls (v :: st) S
abbrev o_iload (i : Nat) (K : mK) : mK := fun ls st S => match ls[i]? with
  | some (some (.int x)) => K ls (.int x :: st) S
  | _ => False
abbrev o_lload (i : Nat) (K : mK) : mK := fun ls st S => match ls[i]? with
  | some (some (.long x)) => K ls (.long x :: st) S
  | _ => False
abbrev o_aload (i : Nat) (K : mK) : mK := fun ls st S => match ls[i]? with
  | some (some (.ref x)) => K ls (.ref x :: st) S
  | _ => False
abbrev o_ii (f : Int32 → Int32 → Int32) (K : mK) : mK := fun ls st S => match st with
  | .int y :: .int x :: st => K ls (.int (f x y) :: st) S
  | _ => False
theorem m_iadd {κ : mX} {cc : ByteArray} {own : String} {dep : Nat} (C : mOk κ cc own dep) {pc : Nat} {K : mK} (d : decode cc pc = .ok (.iadd, 1)) (h : mAt κ (pc + 1) K) : mAt κ pc (o_ii (fun x y => x + y) K) := by
  obtain ⟨⟨p, l, e, R, s⟩, ⟨m, args, below, meth, c⟩, ⟨D, dA, sz, ext, adV⟩, ⟨n0, w0, mc, ms⟩, Q⟩ := κ
  intro ls st S hK H locs M hR hS hL hM hn
  unfold o_ii at hK
  split at hK
  · exact lv_iadd C.1 C.2.1 d (h _ _ _ hK H locs M hR hS hL hM hn)
  · exact hK.elim
