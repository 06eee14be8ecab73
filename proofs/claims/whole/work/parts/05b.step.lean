/-! locals as a sorted list -/
def lget : mL → Nat → Option Value
  | [], _ => none
  | q :: r, i => bif Nat.beq q.1 i then some q.2 else lget r i
theorem lget_mem {lv : mL} {i : Nat} {v : Value} (h : lget lv i = some v) : (i, v) ∈ lv := by
  induction lv with
  | nil => cases h
  | cons q r ih =>
    unfold lget at h
    cases hq : Nat.beq q.1 i with
    | true =>
      rw [hq] at h
      have h1 : q.2 = v := Option.some.inj h
      have h2 : q.1 = i := Nat.eq_of_beq_eq_true hq
      rw [← h1, ← h2]
      exact List.mem_cons_self
    | false =>
      rw [hq] at h
      exact List.mem_cons_of_mem _ (ih h)
/-- a local is written; the list stays sorted and written out -/
def lfil (p : Nat × Value → Bool) : mL → (mL → Prop) → Prop
  | [], k => k []
  | q :: r, k => bif p q then lfil p r (fun r' => k (q :: r')) else lfil p r k
theorem lfil.inv {p : Nat × Value → Bool} : ∀ {lv : mL} {k : mL → Prop}, lfil p lv k → ∃ lv', (∀ q ∈ lv', q ∈ lv ∧ p q = true) ∧ k lv'
  | [], k, h => ⟨[], (fun _ h => absurd h List.not_mem_nil), h⟩
  | q :: r, k, h => by
    unfold lfil at h
    cases hb : p q with
    | true =>
      rw [hb] at h
      obtain ⟨lv', h1, h2⟩ := lfil.inv (k := fun r' => k (q :: r')) h
      refine ⟨q :: lv', fun x hx => ?_, h2⟩
      rcases List.mem_cons.mp hx with h | h
      · rw [h]; exact ⟨List.mem_cons_self, hb⟩
      · exact ⟨List.mem_cons_of_mem _ (h1 x h).1, (h1 x h).2⟩
    | false =>
      rw [hb] at h
      obtain ⟨lv', h1, h2⟩ := lfil.inv (k := k) h
      exact ⟨lv', fun x hx => ⟨List.mem_cons_of_mem _ (h1 x hx).1, (h1 x hx).2⟩, h2⟩
def linsK : mL → Nat → Value → (mL → Prop) → Prop
  | [], i, v, k => k [(i, v)]
  | q :: r, i, v, k => bif Nat.blt q.1 i then linsK r i v (fun r' => k (q :: r')) else k ((i, v) :: q :: r)
theorem linsK.inv {i : Nat} {v : Value} : ∀ {lv : mL} {k : mL → Prop}, linsK lv i v k → ∃ lv', (∀ q ∈ lv', q ∈ (i, v) :: lv) ∧ k lv'
  | [], k, h => ⟨[(i, v)], fun _ h => h, h⟩
  | q :: r, k, h => by
    unfold linsK at h
    cases hb : Nat.blt q.1 i with
    | true =>
      rw [hb] at h
      obtain ⟨lv', h1, h2⟩ := linsK.inv (k := fun r' => k (q :: r')) h
      refine ⟨q :: lv', fun x hx => ?_, h2⟩
      rcases List.mem_cons.mp hx with h | h
      · rw [h]; exact List.mem_cons_of_mem _ List.mem_cons_self
      · rcases List.mem_cons.mp (h1 x h) with h | h
        · rw [h]; exact List.mem_cons_self
        · exact List.mem_cons_of_mem _ (List.mem_cons_of_mem _ h)
    | false =>
      rw [hb] at h
      exact ⟨_, fun x hx => hx, h⟩
theorem nbq (a b : Nat) : Nat.beq a b = (a == b) := by
  cases h : Nat.beq a b with
  | true => rw [Nat.eq_of_beq_eq_true h]; simp
  | false => symm; exact beq_eq_false_iff_ne.mpr (Nat.ne_of_beq_eq_false h)
def lsetK (lv : mL) (i : Nat) (v : Value) (k : mL → Prop) : Prop := lfil (fun q => !(Nat.beq q.1 i) && !(Nat.beq (q.1 + 1) i && Nat.beq q.2.category 2)) lv (fun l => linsK l i v k)
def lset2K (lv : mL) (i : Nat) (v : Value) (k : mL → Prop) : Prop := lfil (fun q => !(Nat.beq q.1 i) && (!(Nat.beq q.1 (i + 1)) && !(Nat.beq (q.1 + 1) i && Nat.beq q.2.category 2))) lv (fun l => linsK l i v k)
theorem lsetK.inv {lv : mL} {i : Nat} {v : Value} {k : mL → Prop} (h : lsetK lv i v k) : ∃ lv', (∀ q ∈ lv', q ∈ (i, v) :: lv.filter (fun q => !(q.1 == i) && !(q.1 + 1 == i && q.2.category == 2))) ∧ k lv' := by
  obtain ⟨l1, h1, h2⟩ := lfil.inv h
  obtain ⟨l2, h3, h4⟩ := linsK.inv h2
  refine ⟨l2, fun q hq => ?_, h4⟩
  rcases List.mem_cons.mp (h3 q hq) with h | h
  · rw [h]; exact List.mem_cons_self
  · obtain ⟨g1, g2⟩ := h1 q h
    simp only [nbq] at g2
    exact List.mem_cons_of_mem _ (List.mem_filter.mpr ⟨g1, g2⟩)
theorem lset2K.inv {lv : mL} {i : Nat} {v : Value} {k : mL → Prop} (h : lset2K lv i v k) : ∃ lv', (∀ q ∈ lv', q ∈ (i, v) :: lv.filter (fun q => !(q.1 == i) && (!(q.1 == i + 1) && !(q.1 + 1 == i && q.2.category == 2)))) ∧ k lv' := by
  obtain ⟨l1, h1, h2⟩ := lfil.inv h
  obtain ⟨l2, h3, h4⟩ := linsK.inv h2
  refine ⟨l2, fun q hq => ?_, h4⟩
  rcases List.mem_cons.mp (h3 q hq) with h | h
  · rw [h]; exact List.mem_cons_self
  · obtain ⟨g1, g2⟩ := h1 q h
    simp only [nbq] at g2
    exact List.mem_cons_of_mem _ (List.mem_filter.mpr ⟨g1, g2⟩)
def ltrimK (n : Nat) : mL → (mL → Prop) → Prop
  | [], k => k []
  | q :: r, k => bif Nat.blt q.1 n then ltrimK n r (fun r' => k (q :: r')) else k []
theorem ltrimK.inv {n : Nat} : ∀ {lv : mL} {k : mL → Prop}, ltrimK n lv k → ∃ lv', (∀ q ∈ lv', q ∈ lv) ∧ k lv'
  | [], k, h => ⟨[], fun _ h => h, h⟩
  | q :: r, k, h => by
    unfold ltrimK at h
    cases hb : Nat.blt q.1 n with
    | true =>
      rw [hb] at h
      obtain ⟨lv', h1, h2⟩ := ltrimK.inv (k := fun r' => k (q :: r')) h
      refine ⟨q :: lv', fun x hx => ?_, h2⟩
      rcases List.mem_cons.mp hx with h | h
      · rw [h]; exact List.mem_cons_self
      · exact List.mem_cons_of_mem _ (h1 x h)
    | false =>
      rw [hb] at h
      exact ⟨[], (fun _ h => absurd h List.not_mem_nil), h⟩
theorem lv_le {ls : Array Slot} {nL : Nat} {l l' : mL} (h : lv_has ls nL l) (hs : ∀ q ∈ l', q ∈ l) : lv_has ls nL l' := ⟨h.1, h.2.1, fun q hq => h.2.2 q (hs q hq)⟩
/-! what a step asks: branches, cells, calls -/
def eB (c A B : Prop) : Prop := (c → A) ∧ (¬ c → B)
theorem eB.i {c A B : Prop} (f : c → A) (g : ¬ c → B) : eB c A B := ⟨f, g⟩
theorem eB.t {c A B : Prop} (h : c) (a : A) : eB c A B := ⟨fun _ => a, fun q => absurd h q⟩
theorem eB.f {c A B : Prop} (h : ¬ c) (b : B) : eB c A B := ⟨fun q => absurd q h, fun _ => b⟩
def eZ (y : Int32) (A : Prop) : Prop := ¬ y = 0 ∧ A
theorem eZ.i {y : Int32} {A : Prop} (h : ¬ y = 0) (a : A) : eZ y A := ⟨h, a⟩
def eG (G : mG) (S : mS) (a ci k : Nat) (K : Value → Prop) : Prop := ∃ (fs : List Value) (v : Value), mAt G S a (.inr (ci, fs)) ∧ fs[k]? = some v ∧ K v
theorem eG.i {G : mG} {S : mS} {a ci k : Nat} {K : Value → Prop} {fs : List Value} {v : Value} (h : mAt G S a (.inr (ci, fs))) (hv : fs[k]? = some v) (kk : K v) : eG G S a ci k K := ⟨fs, v, h, hv, kk⟩
def mFt (ci k : Nat) : FieldType := match ci with
  | 0 => tyX0 k | 1 => tyX1 k | 2 => tyX2 k | 3 => tyX3 k | 4 => tyX4 k | 5 => tyX5 k | 6 => tyX6 k | 7 => tyX7 k | _ => tyX8 k
def eP (G : mG) (S : mS) (a ci k : Nat) (v : Value) (K : mS → Prop) : Prop := ∃ fs : List Value, mAt G S a (.inr (ci, fs)) ∧ k < fs.length ∧ narrow (mFt ci k) v = v ∧ fits (mFt ci k) v = true ∧ ∀ S', S' = mUp S a (.inr (ci, fs.set k v)) → K S'
theorem eP.i {G : mG} {S : mS} {a ci k : Nat} {v : Value} {K : mS → Prop} {fs : List Value} (h : mAt G S a (.inr (ci, fs))) (hl : k < fs.length) (hn : narrow (mFt ci k) v = v) (hf : fits (mFt ci k) v = true) (kk : K (mUp S a (.inr (ci, fs.set k v)))) : eP G S a ci k v K := ⟨fs, h, hl, hn, hf, fun _ e => e ▸ kk⟩
abbrev eIn (G : mG) (n : Nat) (f : Nat → Int32) : va_E := .inl (G.2.1 0, n, .inl f)
abbrev eBy (G : mG) (n : Nat) (f : Nat → Int32) : va_E := .inl (G.2.1 1, n, .inl f)
abbrev eRf (G : mG) (t n : Nat) (f : Nat → Option Nat) : va_E := .inl (G.2.1 t, n, .inr (.inr (.inr (.inr f))))
def eL (G : mG) (S : mS) (a : Nat) (i : Int32) (K : Int32 → Prop) : Prop := (∃ (n : Nat) (f : Nat → Int32), mAt G S a (eIn G n f) ∧ vp_in i n ∧ ∀ x, x = f i.toNatClampNeg → K x) ∨ ∃ j : Nat, j < 3 ∧ (G.2.2.2 j).1 = a ∧ vp_in i (G.2.2.2 j).2.1 ∧ ∀ x, x = (G.2.2.2 j).2.2 i.toNatClampNeg → K x
theorem eL.i {G : mG} {S : mS} {a n : Nat} {i : Int32} {K : Int32 → Prop} {f : Nat → Int32} (h : mAt G S a (eIn G n f)) (hi : vp_in i n) (kk : K (f i.toNatClampNeg)) : eL G S a i K := Or.inl ⟨n, f, h, hi, fun _ e => e ▸ kk⟩
theorem eL.x {G : mG} {S : mS} {i : Int32} {K : Int32 → Prop} (j : Nat) (hj : j < 3) (hi : vp_in i (G.2.2.2 j).2.1) (kk : K ((G.2.2.2 j).2.2 i.toNatClampNeg)) : eL G S (G.2.2.2 j).1 i K := Or.inr ⟨j, hj, rfl, hi, fun _ e => e ▸ kk⟩
def eLb (G : mG) (S : mS) (a : Nat) (i : Int32) (K : Int32 → Prop) : Prop := ∃ (n : Nat) (f : Nat → Int32), mAt G S a (eBy G n f) ∧ vp_in i n ∧ ∀ x, x = f i.toNatClampNeg → K x
theorem eLb.i {G : mG} {S : mS} {a n : Nat} {i : Int32} {K : Int32 → Prop} {f : Nat → Int32} (h : mAt G S a (eBy G n f)) (hi : vp_in i n) (kk : K (f i.toNatClampNeg)) : eLb G S a i K := ⟨n, f, h, hi, fun _ e => e ▸ kk⟩
def eLq (G : mG) (S : mS) (a : Nat) (i : Int32) (K : Value → Prop) : Prop := ∃ (t n : Nat) (f : Nat → Option Nat), (2 ≤ t ∧ t < 7) ∧ mAt G S a (eRf G t n f) ∧ vp_in i n ∧ ∀ x, x = va_rf (f i.toNatClampNeg) → K x
theorem eLq.i {G : mG} {S : mS} {a t n : Nat} {i : Int32} {K : Value → Prop} {f : Nat → Option Nat} (h : mAt G S a (eRf G t n f)) (ht : 2 ≤ t ∧ t < 7) (hi : vp_in i n) (kk : K (va_rf (f i.toNatClampNeg))) : eLq G S a i K := ⟨t, n, f, ht, h, hi, fun _ e => e ▸ kk⟩
def eN (G : mG) (S : mS) (a : Nat) (K : Int32 → Prop) : Prop := (∃ (t n : Nat) (x : (Nat → Int32) ⊕ (Nat → Int64) ⊕ (Nat → UInt32) ⊕ (Nat → UInt64) ⊕ (Nat → Option Nat)), t < 7 ∧ mAt G S a (.inl (G.2.1 t, n, x)) ∧ ∀ z, z = nI n → K z) ∨ ∃ j : Nat, j < 3 ∧ (G.2.2.2 j).1 = a ∧ ∀ z, z = nI (G.2.2.2 j).2.1 → K z
theorem eN.i {G : mG} {S : mS} {a t n : Nat} {K : Int32 → Prop} {x : (Nat → Int32) ⊕ (Nat → Int64) ⊕ (Nat → UInt32) ⊕ (Nat → UInt64) ⊕ (Nat → Option Nat)} (h : mAt G S a (.inl (G.2.1 t, n, x))) (ht : t < 7) (kk : K (nI n)) : eN G S a K := Or.inl ⟨t, n, x, ht, h, fun _ e => e ▸ kk⟩
theorem eN.x {G : mG} {S : mS} {K : Int32 → Prop} (j : Nat) (hj : j < 3) (kk : K (nI (G.2.2.2 j).2.1)) : eN G S (G.2.2.2 j).1 K := Or.inr ⟨j, hj, rfl, fun _ e => e ▸ kk⟩
def eS (G : mG) (S : mS) (a : Nat) (i x : Int32) (K : mS → Prop) : Prop := ∃ (n : Nat) (f : Nat → Int32), mAt G S a (eIn G n f) ∧ vp_in i n ∧ ∀ S', S' = mUp S a (eIn G n (upd f i.toNatClampNeg x)) → K S'
theorem eS.i {G : mG} {S : mS} {a n : Nat} {i x : Int32} {K : mS → Prop} {f : Nat → Int32} (h : mAt G S a (eIn G n f)) (hi : vp_in i n) (kk : K (mUp S a (eIn G n (upd f i.toNatClampNeg x)))) : eS G S a i x K := ⟨n, f, h, hi, fun _ e => e ▸ kk⟩
def eSb (G : mG) (S : mS) (a : Nat) (i x : Int32) (K : mS → Prop) : Prop := ∃ (n : Nat) (f : Nat → Int32), mAt G S a (eBy G n f) ∧ vp_in i n ∧ ∀ S', S' = mUp S a (eBy G n (upd f i.toNatClampNeg x.toInt8.toInt32)) → K S'
theorem eSb.i {G : mG} {S : mS} {a n : Nat} {i x : Int32} {K : mS → Prop} {f : Nat → Int32} (h : mAt G S a (eBy G n f)) (hi : vp_in i n) (kk : K (mUp S a (eBy G n (upd f i.toNatClampNeg x.toInt8.toInt32)))) : eSb G S a i x K := ⟨n, f, h, hi, fun _ e => e ▸ kk⟩
def mEl (t : Nat) : Option (Nat × vw_C) := match t with
  | 2 => some (4, (RX4, TX4, 2)) | 3 => some (6, (RX6, TX6, 3)) | 4 => some (2, (RX2, TX2, 2)) | 5 => some (3, (RX3, TX3, 9)) | _ => none
def eSq (G : mG) (S : mS) (a : Nat) (i : Int32) (v : Nat) (K : mS → Prop) : Prop := ∃ (t n : Nat) (f : Nat → Option Nat) (ci : Nat) (r : vw_C) (vs : List Value), mEl t = some (ci, r) ∧ mAt G S a (eRf G t n f) ∧ mAt G S v (.inr (ci, vs)) ∧ vp_in i n ∧ ∀ S', S' = mUp S a (eRf G t n (va_up f i.toNatClampNeg (some v))) → K S'
theorem eSq.i {G : mG} {S : mS} {a t n v ci : Nat} {r : vw_C} {vs : List Value} {i : Int32} {K : mS → Prop} {f : Nat → Option Nat} (ht : mEl t = some (ci, r)) (h : mAt G S a (eRf G t n f)) (hv : mAt G S v (.inr (ci, vs))) (hi : vp_in i n) (kk : K (mUp S a (eRf G t n (va_up f i.toNatClampNeg (some v))))) : eSq G S a i v K := ⟨t, n, f, ci, r, vs, ht, h, hv, hi, fun _ e => e ▸ kk⟩
/-- arraycopy: of bytes among ours, of ints out of a table -/
def eY (G : mG) (S : mS) (R : Room) (a0 : Nat) (sp : Int32) (a : Nat) (dp n : Int32) (K : mS → Prop) : Prop := (¬ sp < 0 ∧ ¬ dp < 0 ∧ ¬ n < 0) ∧ 1 ≤ R.frames ∧ 60 ≤ R.locals ∧
  ((∃ (n0 n1 : Nat) (f g : Nat → Int32), mAt G S a0 (eBy G n0 f) ∧ mAt G S a (eBy G n1 g) ∧ sp.toNatClampNeg + n.toNatClampNeg ≤ n0 ∧ dp.toNatClampNeg + n.toNatClampNeg ≤ n1 ∧ (∀ i, i < n.toNatClampNeg → fits .byte (.int (f (sp.toNatClampNeg + i))) = true) ∧ ∀ S', S' = mUp S a (eBy G n1 (va_cpy f g sp.toNatClampNeg dp.toNatClampNeg n.toNatClampNeg)) → K S') ∨
   ∃ (j n1 : Nat) (g : Nat → Int32), j < 3 ∧ (G.2.2.2 j).1 = a0 ∧ mAt G S a (eIn G n1 g) ∧ sp.toNatClampNeg + n.toNatClampNeg ≤ (G.2.2.2 j).2.1 ∧ dp.toNatClampNeg + n.toNatClampNeg ≤ n1 ∧ ∀ S', S' = mUp S a (eIn G n1 (va_cpy (G.2.2.2 j).2.2 g sp.toNatClampNeg dp.toNatClampNeg n.toNatClampNeg)) → K S')
/-! stacks -/
def sI (st : List Value) (k : Int32 → List Value → Prop) : Prop := match st with | .int x :: r => k x r | _ => False
def sJ (st : List Value) (k : Int64 → List Value → Prop) : Prop := match st with | .long x :: r => k x r | _ => False
def sA (st : List Value) (k : Nat → List Value → Prop) : Prop := match st with | .ref x :: r => k x r | _ => False
def s1 (st : List Value) (k : Value → List Value → Prop) : Prop := match st with | .int x :: r => k (.int x) r | .ref x :: r => k (.ref x) r | .null :: r => k .null r | _ => False
def sQ (st : List Value) (k : Value → List Value → Prop) : Prop := match st with | .ref x :: r => k (.ref x) r | .null :: r => k .null r | _ => False
def s0 (st : List Value) (k : Prop) : Prop := match st with | [] => k | _ => False
theorem sI.inv {st : List Value} {k : Int32 → List Value → Prop} (h : sI st k) : ∃ x r, st = .int x :: r ∧ k x r := by
  unfold sI at h; split at h
  · exact ⟨_, _, rfl, h⟩
  · exact h.elim
theorem sJ.inv {st : List Value} {k : Int64 → List Value → Prop} (h : sJ st k) : ∃ x r, st = .long x :: r ∧ k x r := by
  unfold sJ at h; split at h
  · exact ⟨_, _, rfl, h⟩
  · exact h.elim
theorem sA.inv {st : List Value} {k : Nat → List Value → Prop} (h : sA st k) : ∃ x r, st = .ref x :: r ∧ k x r := by
  unfold sA at h; split at h
  · exact ⟨_, _, rfl, h⟩
  · exact h.elim
theorem s1.inv {st : List Value} {k : Value → List Value → Prop} (h : s1 st k) : ∃ v r, st = v :: r ∧ v.category = 1 ∧ k v r := by
  unfold s1 at h; split at h
  · exact ⟨_, _, rfl, rfl, h⟩
  · exact ⟨_, _, rfl, rfl, h⟩
  · exact ⟨_, _, rfl, rfl, h⟩
  · exact h.elim
theorem sQ.inv {st : List Value} {k : Value → List Value → Prop} (h : sQ st k) : ∃ v r, st = v :: r ∧ (v = .null ∨ ∃ a, v = .ref a) ∧ k v r := by
  unfold sQ at h; split at h
  · exact ⟨_, _, rfl, Or.inr ⟨_, rfl⟩, h⟩
  · exact ⟨_, _, rfl, Or.inl rfl, h⟩
  · exact h.elim
theorem s0.inv {st : List Value} {k : Prop} (h : s0 st k) : st = [] ∧ k := by
  unfold s0 at h; split at h
  · exact ⟨rfl, h⟩
  · exact h.elim
/-! contracts of methods -/
def mWs (y : MethodName) (bytes : ByteArray) (maxL : Nat) (ret : Option FieldType) : List Cond := Cond.code y bytes maxL ret :: mT
def mK (G : mG) (U : State) : Prop := va_K G.1 vwCl (mTys G) U ∧ (∀ j : Nat, j < 3 → (G.2.2.2 j).1 < mb G ∧ va_X (G.2.2.2 j).1 (G.2.2.2 j).2.1 (G.2.2.2 j).2.2 U G.2.2.1) ∧ va_Z RX5 "FIRST" "[I" (.ref (G.2.2.2 1).1) (fun q => mb G ≤ q) U G.2.2.1 ∧ va_Z RX5 "ROUND" "[I" (.ref (G.2.2.2 2).1) (fun q => mb G ≤ q) U G.2.2.1 ∧ (∀ q ∈ mNest, va_Nw (.methodLinkNest RX7 q.1 q.2 RX7) U) ∧ (∀ C ∈ mOver, va_AO C U) ∧ (Cond.arrayOver (.array .int)).before #[] U = true
theorem mOv_moved {u U : State} (hvm : u.vm.Alike U.vm) (h : (Cond.arrayOver (.array .int)).before #[] u = true) : (Cond.arrayOver (.array .int)).before #[] U = true := by
  obtain ⟨comp, c, k, h1, h2, h3, h4, h5⟩ := arrayOverA_spec h
  obtain ⟨k', hk', he⟩ := hvm.2.2 _ _ h3
  have hi : (U.vm.classes.findIdx? fun (x : Class) => match x.kind with | .array component _ => component == comp | _ => false) = some c := by
    first | exact (hvm.findIdx?_eq _ (fun _ => rfl)).trans h2 | exact (hvm.findIdx?_eq _ (fun _ => rfl)).symm.trans h2
  have hkind : k'.kind = .array comp (.array .int) := by rw [he]; exact h4
  have f1 : U.vm.findClass (FieldType.array .int).toString = some comp := by rw [hvm.findClass]; exact h1
  have f2 : U.vm.findClass ("[" ++ (FieldType.array .int).toString) = some c := by rw [hvm.findClass]; exact h5
  unfold Cond.before Cond.holds
  simp only [Cond.value]
  rw [f1, Option.bind_some]
  refine (congrArg (fun o : Option Nat => (o.bind (fun c => (U.vm.classes[c]?).map fun (k : Class) => match k.kind with | .array _ ty => decide (ty = FieldType.array .int) && decide (U.vm.findClass ("[" ++ (FieldType.array .int).toString) = some c) | _ => false) == some true)) hi).trans ?_
  simp [hk', hkind, f2]
theorem mK.moved {G : mG} {s U : State} (hW : s.WarmedH U.vm) (h : mK G s) : mK G U := by
  obtain ⟨h1, h2, h3, h4, h5, h6, h7⟩ := h
  exact ⟨va_K.moved hW.alike h1, fun j hj => ⟨(h2 j hj).1, (h2 j hj).2.moved hW.alike⟩, h3.moved hW.alike, h4.moved hW.alike, fun q hq => va_Nw.warmM hW (h5 q hq), fun C hC => (h6 C hC).moved hW.alike, mOv_moved hW.alike h7⟩
theorem mK.same {G : mG} {s U : State} (hv : s.vm = U.vm) (h : mK G s) : mK G U := mK.moved (by rw [← hv]; exact State.WarmedH.refl s) h
def mCon (G : mG) (y : MethodName) (bytes : ByteArray) (maxL : Nat) (ret : Option FieldType) (rm : Room) (av : List Value) (S : mS) (K : Option Value → mS → Prop) : Prop :=
  ∀ l : Launch, Met l y (mWs y bytes maxL ret) rm (va_Pc av (fun U => mr G S U.heap ∧ mK G U)) (fun _ _ o t => ∃ (v : Option Value) (S' : mS), o = .returned v ∧ K v S' ∧ mr G S' t.heap) rm.cells rm.slots (fun q => mb G ≤ q)
/-- a call: a contract, its room, and what follows -/
def eC (G : mG) (R : Room) (q : mC) (av : List Value) (cs : Nat × Nat) (S : mS) (K : Option Value → Nat × Nat → mS → Prop) : Prop :=
  ∃ (rm : Room) (K0 : Option Value → mS → Prop), mCon G q.2.1 q.2.2.1 q.2.2.2.1 q.2.2.2.2.1 rm av S K0 ∧ (rm.frames + 1 ≤ R.frames ∧ 8 + (q.2.2.2.1 + 11) + rm.locals ≤ R.locals) ∧ (cs.1 + rm.cells ≤ R.cells ∧ cs.2 + rm.slots ≤ R.slots) ∧ ∀ (v : Option Value) (cs' : Nat × Nat) (S' : mS), K0 v S' → cs' = (cs.1 + rm.cells, cs.2 + rm.slots) → K v cs' S'
theorem eC.i {G : mG} {R : Room} {q : mC} {av : List Value} {cs : Nat × Nat} {S : mS} {K : Option Value → Nat × Nat → mS → Prop} {rm : Room} {K0 : Option Value → mS → Prop} (h : mCon G q.2.1 q.2.2.1 q.2.2.2.1 q.2.2.2.2.1 rm av S K0) (hR : rm.frames + 1 ≤ R.frames ∧ 8 + (q.2.2.2.1 + 11) + rm.locals ≤ R.locals) (hC : cs.1 + rm.cells ≤ R.cells ∧ cs.2 + rm.slots ≤ R.slots) (kk : ∀ (v : Option Value) (S' : mS), K0 v S' → K v (cs.1 + rm.cells, cs.2 + rm.slots) S') : eC G R q av cs S K := ⟨rm, K0, h, hR, hC, fun v cs' S' hk e => e ▸ kk v S' hk⟩
theorem eC.z {G : mG} {R : Room} {q : mC} {av : List Value} {cs : Nat × Nat} {S : mS} {K : Option Value → Nat × Nat → mS → Prop} {rm : Room} {K0 : Option Value → mS → Prop} (h : mCon G q.2.1 q.2.2.1 q.2.2.2.1 q.2.2.2.2.1 rm av S K0) (hz : rm.cells = 0 ∧ rm.slots = 0) (hR : rm.frames + 1 ≤ R.frames ∧ 8 + (q.2.2.2.1 + 11) + rm.locals ≤ R.locals) (hC : cs.1 ≤ R.cells ∧ cs.2 ≤ R.slots) (kk : ∀ (v : Option Value) (S' : mS), K0 v S' → K v cs S') : eC G R q av cs S K := by
  refine ⟨rm, K0, h, hR, by rw [hz.1, hz.2]; exact hC, fun v cs' S' hk e => ?_⟩
  rw [hz.1, hz.2] at e
  have e2 : cs' = cs := e
  rw [e2]
  exact kk v S' hk
/-- an answer goes on the stack -/
def pushv (v : Option Value) (r : List Value) (k : List Value → Prop) : Prop := match v with
  | none => k r
  | some x => k (x :: r)
theorem pushv.to {v : Option Value} {r : List Value} {k : List Value → Prop} (h : pushv v r k) : k (v.toList ++ r) := by
  cases v with
  | none => exact h
  | some x => exact h
/-- the receiver of a virtual call is an object of its class -/
def eV (G : mG) (S : mS) (a ci : Nat) (K : Prop) : Prop := (∃ fs : List Value, mAt G S a (.inr (ci, fs))) ∧ K
theorem eV.i {G : mG} {S : mS} {a ci : Nat} {K : Prop} {fs : List Value} (h : mAt G S a (.inr (ci, fs))) (kk : K) : eV G S a ci K := ⟨⟨fs, h⟩, kk⟩
/-- the arguments of a call, n of them, the last on top -/
def sArgs : Nat → List Value → List Value → (List Value → List Value → Prop) → Prop
  | 0, st, acc, k => k acc st
  | n + 1, st, acc, k => match st with
    | v :: r => sArgs n r (v :: acc) k
    | [] => False
theorem sArgs.inv {n : Nat} : ∀ {st acc : List Value} {k : List Value → List Value → Prop}, sArgs n st acc k → ∃ as r, as.length = n ∧ st = as.reverse ++ r ∧ k (as ++ acc) r := by
  induction n with
  | zero => intro st acc k h; exact ⟨[], st, rfl, rfl, h⟩
  | succ n ih =>
    intro st acc k h
    cases st with
    | nil => exact h.elim
    | cons v r =>
      obtain ⟨as, r', h1, h2, h3⟩ := ih (h : sArgs n r (v :: acc) k)
      refine ⟨as ++ [v], r', by simp [h1], by simp [h2], by simpa using h3⟩
theorem eY.b {G : mG} {S : mS} {R : Room} {a0 a n0 n1 : Nat} {sp dp n : Int32} {K : mS → Prop} {f g : Nat → Int32} (hs : ¬ sp < 0 ∧ ¬ dp < 0 ∧ ¬ n < 0) (hR : 1 ≤ R.frames ∧ 60 ≤ R.locals) (h0 : mAt G S a0 (eBy G n0 f)) (h1 : mAt G S a (eBy G n1 g)) (hl : sp.toNatClampNeg + n.toNatClampNeg ≤ n0 ∧ dp.toNatClampNeg + n.toNatClampNeg ≤ n1) (hf : ∀ j, fits .byte (.int (f j)) = true) (kk : K (mUp S a (eBy G n1 (va_cpy f g sp.toNatClampNeg dp.toNatClampNeg n.toNatClampNeg)))) : eY G S R a0 sp a dp n K := ⟨hs, hR.1, hR.2, Or.inl ⟨n0, n1, f, g, h0, h1, hl.1, hl.2, fun i _ => hf _, fun _ e => e ▸ kk⟩⟩
theorem eY.x {G : mG} {S : mS} {R : Room} {a n1 : Nat} {sp dp n : Int32} {K : mS → Prop} {g : Nat → Int32} (j : Nat) (hj : j < 3) (hs : ¬ sp < 0 ∧ ¬ dp < 0 ∧ ¬ n < 0) (hR : 1 ≤ R.frames ∧ 60 ≤ R.locals) (h1 : mAt G S a (eIn G n1 g)) (hl : sp.toNatClampNeg + n.toNatClampNeg ≤ (G.2.2.2 j).2.1 ∧ dp.toNatClampNeg + n.toNatClampNeg ≤ n1) (kk : K (mUp S a (eIn G n1 (va_cpy (G.2.2.2 j).2.2 g sp.toNatClampNeg dp.toNatClampNeg n.toNatClampNeg)))) : eY G S R (G.2.2.2 j).1 sp a dp n K := ⟨hs, hR.1, hR.2, Or.inr ⟨j, n1, g, hj, rfl, h1, hl.1, hl.2, fun _ e => e ▸ kk⟩⟩
