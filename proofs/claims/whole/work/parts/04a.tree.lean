def mTb (ci : Nat) : u_T := match ci with
  | 0 => TX0 | 1 => TX1 | 2 => TX2 | 3 => TX3 | 4 => TX4 | 5 => TX5 | 6 => TX6 | 7 => TX7 | _ => TX8
def mN (ci : Nat) : Nat := match ci with
  | 0 => 2 | 1 => 1 | 2 => 2 | 3 => 9 | 4 => 2 | 5 => 4 | 6 => 3 | 7 => 9 | _ => 35
def mRn (ci : Nat) : String := match ci with
  | 0 => RX0 | 1 => RX1 | 2 => RX2 | 3 => RX3 | 4 => RX4 | 5 => RX5 | 6 => RX6 | 7 => RX7 | _ => RX8
def ilen : Instr → Nat
  | .bipush _ | .iload _ | .aload _ | .lload _ | .istore _ | .astore _ | .lstore _ | .ldc _ | .newarray _ => 2
  | .sipush _ | .ldc2_w _ | .iinc _ _ | .ifCond _ _ | .if_icmp _ _ | .ifnull _ | .ifnonnull _ | .goto _ | .getfield _ | .putfield _ | .getstatic _ | .invokevirtual _ | .invokestatic _ | .invokespecial _ | .new _ | .anewarray _ => 3
  | .multianewarray _ _ => 4
  | .tableswitch _ _ _ _ => 0
  | _ => 1
def okI (pc : Nat) (E : mE) : Bool := match E.1 with
  | .goto off | .ifCond _ off | .if_icmp _ off | .ifnull off | .ifnonnull off => decide ((pc : Int) + off = (E.2.2.1 : Int))
  | .iconst n => decide (Int32.ofInt n = E.2.2.2)
  | .bipush n => decide ((Int8.ofInt n).toInt32 = E.2.2.2)
  | .sipush n => decide ((Int16.ofInt n).toInt32 = E.2.2.2)
  | .iinc _ n => decide (Int32.ofInt n = E.2.2.2)
  | .tableswitch d lo hi offs => decide (0 ≤ (pc : Int) + d) && offs.toList.all (fun o => decide (0 ≤ (pc : Int) + o)) && decide ((offs.size : Int) = hi - lo + 1)
  | _ => true
def okE (cc : ByteArray) (pc : Nat) (E : mE) : Bool := decide (decode cc pc = .ok (E.1, E.2.1 - pc)) && decide (pc ≤ E.2.1) && (decide (ilen E.1 = 0) || decide (ilen E.1 = E.2.1 - pc)) && okI pc E
theorem okE.d {cc : ByteArray} {pc : Nat} {E : mE} (h : okE cc pc E = true) (n : Nat) (hn : ilen E.1 = n) (h0 : 0 < n) : decode cc pc = .ok (E.1, n) ∧ E.2.1 = pc + n := by
  simp only [okE, Bool.and_eq_true, Bool.or_eq_true, decide_eq_true_eq] at h
  obtain ⟨⟨⟨h1, h2⟩, h3⟩, -⟩ := h
  have h4 : E.2.1 - pc = n := by omega
  rw [h4] at h1
  exact ⟨h1, by omega⟩
theorem okE.t {cc : ByteArray} {pc : Nat} {E : mE} (h : okE cc pc E = true) : okI pc E = true := by
  simp only [okE, Bool.and_eq_true] at h
  exact h.2
theorem okE.w {cc : ByteArray} {pc : Nat} {E : mE} (h : okE cc pc E = true) : decode cc pc = .ok (E.1, E.2.1 - pc) := by
  simp only [okE, Bool.and_eq_true, decide_eq_true_eq] at h
  exact h.1.1.1
/-- the local that an instruction writes (the second half of a long counted) -/
def iSl : Instr → Option Nat
  | .istore_n n | .astore_n n => some n.val
  | .istore n | .astore n => some n
  | .lstore_n n => some (n.val + 1)
  | .iinc n _ => some n
  | _ => none
/-- tables as trees: a place is found by halving -/
def nd {α : Type} (k : Nat) (x y : Nat → Option α) : Nat → Option α := fun i => bif Nat.blt i k then x i else y i
def lf {α : Type} (k : Nat) (e : α) : Nat → Option α := fun i => bif Nat.beq i k then some e else none
def tAll {α : Type} (P : Nat → α → Prop) (t : Nat → Option α) : Prop := ∀ (i : Nat) (e : α), t i = some e → P i e
theorem nd_all {α : Type} {P : Nat → α → Prop} {k : Nat} {x y : Nat → Option α} (hx : tAll P x) (hy : tAll P y) : tAll P (nd k x y) := by
  intro i e h
  unfold nd at h
  cases hb : Nat.blt i k with
  | true => rw [hb] at h; exact hx i e h
  | false => rw [hb] at h; exact hy i e h
theorem lf_all {α : Type} {P : Nat → α → Prop} {k : Nat} {e : α} (h : P k e) : tAll P (lf k e) := by
  intro i e' h'
  unfold lf at h'
  cases hb : Nat.beq i k with
  | true =>
    rw [hb] at h'
    have h1 : e = e' := Option.some.inj h'
    rw [← h1, Nat.eq_of_beq_eq_true hb]
    exact h
  | false => rw [hb] at h'; cases h'
def okC (cc : ByteArray) (nL : Nat) (pc : Nat) (E : mE) : Prop := okE cc pc E = true ∧ ∀ i, iSl E.1 = some i → i < nL
def okD (cc : ByteArray) (nL : Nat) (pc : Nat) (E : mE) : Bool := okE cc pc E && (match iSl E.1 with | some i => decide (i < nL) | none => true)
theorem okD_ok {cc : ByteArray} {nL pc : Nat} {E : mE} (h : okD cc nL pc E = true) : okC cc nL pc E := by
  unfold okD at h
  simp only [Bool.and_eq_true] at h
  refine ⟨h.1, fun i hi => ?_⟩
  have h2 := h.2
  rw [hi] at h2
  exact of_decide_eq_true h2
