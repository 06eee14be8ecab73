/-! the reference: its object at M, its arrays behind it in the order of the fields -/
abbrev AA : Type := Nat → Nat → Int32
def mdN (i : Nat) : Nat := match i with
  | 1 => 64
  | 2 => 8
  | 3 => 64
  | 4 => 8
  | 5 => 8
  | 6 => 768
  | 7 => 768
  | 8 => 640
  | 9 => 8
  | 10 => 32
  | 11 => 24000
  | 12 => 60
  | 13 => 60
  | 14 => 32
  | 15 => 32
  | 16 => 3600
  | 17 => 19200
  | 18 => 4
  | 19 => 4
  | 20 => 4
  | 21 => 4
  | 22 => 4
  | 23 => 48
  | 24 => 48
  | 25 => 80
  | 26 => 80
  | 27 => 80
  | 28 => 80
  | 29 => 640
  | 30 => 45
  | 31 => 45
  | _ => 0
def mdB (i : Nat) : Bool := match i with
  | 6 => true
  | 7 => true
  | 10 => true
  | 11 => true
  | 16 => true
  | 17 => true
  | 29 => true
  | 30 => true
  | 31 => true
  | _ => false
def mdE (G : mG) (i : Nat) (f : Nat → Int32) : va_E := match mdB i with
  | true => eBy G (mdN i) f
  | false => eIn G (mdN i) f
abbrev mdO (M ns nl nn nd : Nat) : va_E := .inr (8, [.ref (M + 1), .ref (M + 2), .ref (M + 3), .ref (M + 4), .ref (M + 5), .ref (M + 6), .int (nI ns), .ref (M + 7), .ref (M + 8), .ref (M + 9), .ref (M + 10), .ref (M + 11), .ref (M + 12), .ref (M + 13), .int (nI nl), .ref (M + 14), .ref (M + 15), .int (nI nn), .ref (M + 16), .ref (M + 17), .ref (M + 18), .ref (M + 19), .ref (M + 20), .ref (M + 21), .ref (M + 22), .ref (M + 23), .ref (M + 24), .ref (M + 25), .ref (M + 26), .ref (M + 27), .ref (M + 28), .ref (M + 29), .int (nI nd), .ref (M + 30), .ref (M + 31)])
def MH (G : mG) (S : mS) (M : Nat) (A : AA) (ns nl nn nd : Nat) : Prop := mAt G S M (mdO M ns nl nn nd) ∧ (∀ i, 1 ≤ i → i ≤ 31 → mAt G S (M + i) (mdE G i (A i))) ∧ ∀ i, mdB i = true → ∀ j, isB (A i j)
abbrev xD (M : Nat) : Nat → Prop := fun q => M ≤ q ∧ q ≤ M + 31
section MOD
variable {G : mG} {S S' : mS} {M ns nl nn nd : Nat} {A : AA}
theorem MH.a1 (h : MH G S M A ns nl nn nd) : mAt G S (M + 1) (eIn G 64 (A 1)) := h.2.1 1 (by decide) (by decide)
theorem MH.a2 (h : MH G S M A ns nl nn nd) : mAt G S (M + 2) (eIn G 8 (A 2)) := h.2.1 2 (by decide) (by decide)
theorem MH.a3 (h : MH G S M A ns nl nn nd) : mAt G S (M + 3) (eIn G 64 (A 3)) := h.2.1 3 (by decide) (by decide)
theorem MH.a4 (h : MH G S M A ns nl nn nd) : mAt G S (M + 4) (eIn G 8 (A 4)) := h.2.1 4 (by decide) (by decide)
theorem MH.a5 (h : MH G S M A ns nl nn nd) : mAt G S (M + 5) (eIn G 8 (A 5)) := h.2.1 5 (by decide) (by decide)
theorem MH.a6 (h : MH G S M A ns nl nn nd) : mAt G S (M + 6) (eBy G 768 (A 6)) := h.2.1 6 (by decide) (by decide)
theorem MH.a7 (h : MH G S M A ns nl nn nd) : mAt G S (M + 7) (eBy G 768 (A 7)) := h.2.1 7 (by decide) (by decide)
theorem MH.a8 (h : MH G S M A ns nl nn nd) : mAt G S (M + 8) (eIn G 640 (A 8)) := h.2.1 8 (by decide) (by decide)
theorem MH.a9 (h : MH G S M A ns nl nn nd) : mAt G S (M + 9) (eIn G 8 (A 9)) := h.2.1 9 (by decide) (by decide)
theorem MH.a10 (h : MH G S M A ns nl nn nd) : mAt G S (M + 10) (eBy G 32 (A 10)) := h.2.1 10 (by decide) (by decide)
theorem MH.a11 (h : MH G S M A ns nl nn nd) : mAt G S (M + 11) (eBy G 24000 (A 11)) := h.2.1 11 (by decide) (by decide)
theorem MH.a12 (h : MH G S M A ns nl nn nd) : mAt G S (M + 12) (eIn G 60 (A 12)) := h.2.1 12 (by decide) (by decide)
theorem MH.a13 (h : MH G S M A ns nl nn nd) : mAt G S (M + 13) (eIn G 60 (A 13)) := h.2.1 13 (by decide) (by decide)
theorem MH.a14 (h : MH G S M A ns nl nn nd) : mAt G S (M + 14) (eIn G 32 (A 14)) := h.2.1 14 (by decide) (by decide)
theorem MH.a15 (h : MH G S M A ns nl nn nd) : mAt G S (M + 15) (eIn G 32 (A 15)) := h.2.1 15 (by decide) (by decide)
theorem MH.a16 (h : MH G S M A ns nl nn nd) : mAt G S (M + 16) (eBy G 3600 (A 16)) := h.2.1 16 (by decide) (by decide)
theorem MH.a17 (h : MH G S M A ns nl nn nd) : mAt G S (M + 17) (eBy G 19200 (A 17)) := h.2.1 17 (by decide) (by decide)
theorem MH.a18 (h : MH G S M A ns nl nn nd) : mAt G S (M + 18) (eIn G 4 (A 18)) := h.2.1 18 (by decide) (by decide)
theorem MH.a19 (h : MH G S M A ns nl nn nd) : mAt G S (M + 19) (eIn G 4 (A 19)) := h.2.1 19 (by decide) (by decide)
theorem MH.a20 (h : MH G S M A ns nl nn nd) : mAt G S (M + 20) (eIn G 4 (A 20)) := h.2.1 20 (by decide) (by decide)
theorem MH.a21 (h : MH G S M A ns nl nn nd) : mAt G S (M + 21) (eIn G 4 (A 21)) := h.2.1 21 (by decide) (by decide)
theorem MH.a22 (h : MH G S M A ns nl nn nd) : mAt G S (M + 22) (eIn G 4 (A 22)) := h.2.1 22 (by decide) (by decide)
theorem MH.a23 (h : MH G S M A ns nl nn nd) : mAt G S (M + 23) (eIn G 48 (A 23)) := h.2.1 23 (by decide) (by decide)
theorem MH.a24 (h : MH G S M A ns nl nn nd) : mAt G S (M + 24) (eIn G 48 (A 24)) := h.2.1 24 (by decide) (by decide)
theorem MH.a25 (h : MH G S M A ns nl nn nd) : mAt G S (M + 25) (eIn G 80 (A 25)) := h.2.1 25 (by decide) (by decide)
theorem MH.a26 (h : MH G S M A ns nl nn nd) : mAt G S (M + 26) (eIn G 80 (A 26)) := h.2.1 26 (by decide) (by decide)
theorem MH.a27 (h : MH G S M A ns nl nn nd) : mAt G S (M + 27) (eIn G 80 (A 27)) := h.2.1 27 (by decide) (by decide)
theorem MH.a28 (h : MH G S M A ns nl nn nd) : mAt G S (M + 28) (eIn G 80 (A 28)) := h.2.1 28 (by decide) (by decide)
theorem MH.a29 (h : MH G S M A ns nl nn nd) : mAt G S (M + 29) (eBy G 640 (A 29)) := h.2.1 29 (by decide) (by decide)
theorem MH.a30 (h : MH G S M A ns nl nn nd) : mAt G S (M + 30) (eBy G 45 (A 30)) := h.2.1 30 (by decide) (by decide)
theorem MH.a31 (h : MH G S M A ns nl nn nd) : mAt G S (M + 31) (eBy G 45 (A 31)) := h.2.1 31 (by decide) (by decide)
theorem MH.ab {i : Nat} (h : MH G S M A ns nl nn nd) (hb : mdB i = true) (h1 : 1 ≤ i) (h2 : i ≤ 31) : mAt G S (M + i) (eBy G (mdN i) (A i)) := by
  have e := h.2.1 i h1 h2
  unfold mdE at e
  rw [hb] at e
  exact e
theorem MH.set {i : Nat} {f : Nat → Int32} (h : MH G S M A ns nl nn nd) (h1 : 1 ≤ i) (h2 : i ≤ 31) (hb : mdB i = true → ∀ j, isB (f j)) : MH G (mUp S (M + i) (mdE G i f)) M (va_up A i f) ns nl nn nd := by
  obtain ⟨g1, g2, g3⟩ := h
  refine ⟨g1.ne (by omega), fun k k1 k2 => ?_, fun k hk j => ?_⟩
  · by_cases e : k = i
    · subst e
      rw [up_s]
      exact (g2 k k1 k2).up
    · rw [up_n e]
      exact (g2 k k1 k2).ne (by omega)
  · by_cases e : k = i
    · subst e
      rw [up_s]
      exact hb hk j
    · rw [up_n e]
      exact g3 k hk j
theorem MH.s3 {f : Nat → Int32} (h : MH G S M A ns nl nn nd) : MH G (mUp S (M + 3) (eIn G 64 f)) M (va_up A 3 f) ns nl nn nd := h.set (i := 3) (by decide) (by decide) (fun z => by cases z)
theorem MH.s4 {f : Nat → Int32} (h : MH G S M A ns nl nn nd) : MH G (mUp S (M + 4) (eIn G 8 f)) M (va_up A 4 f) ns nl nn nd := h.set (i := 4) (by decide) (by decide) (fun z => by cases z)
theorem MH.s5 {f : Nat → Int32} (h : MH G S M A ns nl nn nd) : MH G (mUp S (M + 5) (eIn G 8 f)) M (va_up A 5 f) ns nl nn nd := h.set (i := 5) (by decide) (by decide) (fun z => by cases z)
theorem MH.s6 {f : Nat → Int32} (h : MH G S M A ns nl nn nd) (hb : ∀ j, isB (f j)) : MH G (mUp S (M + 6) (eBy G 768 f)) M (va_up A 6 f) ns nl nn nd := h.set (i := 6) (by decide) (by decide) (fun _ => hb)
theorem MH.s7 {f : Nat → Int32} (h : MH G S M A ns nl nn nd) (hb : ∀ j, isB (f j)) : MH G (mUp S (M + 7) (eBy G 768 f)) M (va_up A 7 f) ns nl nn nd := h.set (i := 7) (by decide) (by decide) (fun _ => hb)
theorem MH.s8 {f : Nat → Int32} (h : MH G S M A ns nl nn nd) : MH G (mUp S (M + 8) (eIn G 640 f)) M (va_up A 8 f) ns nl nn nd := h.set (i := 8) (by decide) (by decide) (fun z => by cases z)
theorem MH.s9 {f : Nat → Int32} (h : MH G S M A ns nl nn nd) : MH G (mUp S (M + 9) (eIn G 8 f)) M (va_up A 9 f) ns nl nn nd := h.set (i := 9) (by decide) (by decide) (fun z => by cases z)
theorem MH.s10 {f : Nat → Int32} (h : MH G S M A ns nl nn nd) (hb : ∀ j, isB (f j)) : MH G (mUp S (M + 10) (eBy G 32 f)) M (va_up A 10 f) ns nl nn nd := h.set (i := 10) (by decide) (by decide) (fun _ => hb)
theorem MH.s11 {f : Nat → Int32} (h : MH G S M A ns nl nn nd) (hb : ∀ j, isB (f j)) : MH G (mUp S (M + 11) (eBy G 24000 f)) M (va_up A 11 f) ns nl nn nd := h.set (i := 11) (by decide) (by decide) (fun _ => hb)
theorem MH.s12 {f : Nat → Int32} (h : MH G S M A ns nl nn nd) : MH G (mUp S (M + 12) (eIn G 60 f)) M (va_up A 12 f) ns nl nn nd := h.set (i := 12) (by decide) (by decide) (fun z => by cases z)
theorem MH.s13 {f : Nat → Int32} (h : MH G S M A ns nl nn nd) : MH G (mUp S (M + 13) (eIn G 60 f)) M (va_up A 13 f) ns nl nn nd := h.set (i := 13) (by decide) (by decide) (fun z => by cases z)
theorem MH.s14 {f : Nat → Int32} (h : MH G S M A ns nl nn nd) : MH G (mUp S (M + 14) (eIn G 32 f)) M (va_up A 14 f) ns nl nn nd := h.set (i := 14) (by decide) (by decide) (fun z => by cases z)
theorem MH.s15 {f : Nat → Int32} (h : MH G S M A ns nl nn nd) : MH G (mUp S (M + 15) (eIn G 32 f)) M (va_up A 15 f) ns nl nn nd := h.set (i := 15) (by decide) (by decide) (fun z => by cases z)
theorem MH.s16 {f : Nat → Int32} (h : MH G S M A ns nl nn nd) (hb : ∀ j, isB (f j)) : MH G (mUp S (M + 16) (eBy G 3600 f)) M (va_up A 16 f) ns nl nn nd := h.set (i := 16) (by decide) (by decide) (fun _ => hb)
theorem MH.s17 {f : Nat → Int32} (h : MH G S M A ns nl nn nd) (hb : ∀ j, isB (f j)) : MH G (mUp S (M + 17) (eBy G 19200 f)) M (va_up A 17 f) ns nl nn nd := h.set (i := 17) (by decide) (by decide) (fun _ => hb)
theorem MH.s18 {f : Nat → Int32} (h : MH G S M A ns nl nn nd) : MH G (mUp S (M + 18) (eIn G 4 f)) M (va_up A 18 f) ns nl nn nd := h.set (i := 18) (by decide) (by decide) (fun z => by cases z)
theorem MH.s19 {f : Nat → Int32} (h : MH G S M A ns nl nn nd) : MH G (mUp S (M + 19) (eIn G 4 f)) M (va_up A 19 f) ns nl nn nd := h.set (i := 19) (by decide) (by decide) (fun z => by cases z)
theorem MH.s20 {f : Nat → Int32} (h : MH G S M A ns nl nn nd) : MH G (mUp S (M + 20) (eIn G 4 f)) M (va_up A 20 f) ns nl nn nd := h.set (i := 20) (by decide) (by decide) (fun z => by cases z)
theorem MH.s21 {f : Nat → Int32} (h : MH G S M A ns nl nn nd) : MH G (mUp S (M + 21) (eIn G 4 f)) M (va_up A 21 f) ns nl nn nd := h.set (i := 21) (by decide) (by decide) (fun z => by cases z)
theorem MH.s22 {f : Nat → Int32} (h : MH G S M A ns nl nn nd) : MH G (mUp S (M + 22) (eIn G 4 f)) M (va_up A 22 f) ns nl nn nd := h.set (i := 22) (by decide) (by decide) (fun z => by cases z)
theorem MH.s23 {f : Nat → Int32} (h : MH G S M A ns nl nn nd) : MH G (mUp S (M + 23) (eIn G 48 f)) M (va_up A 23 f) ns nl nn nd := h.set (i := 23) (by decide) (by decide) (fun z => by cases z)
theorem MH.s24 {f : Nat → Int32} (h : MH G S M A ns nl nn nd) : MH G (mUp S (M + 24) (eIn G 48 f)) M (va_up A 24 f) ns nl nn nd := h.set (i := 24) (by decide) (by decide) (fun z => by cases z)
theorem MH.s25 {f : Nat → Int32} (h : MH G S M A ns nl nn nd) : MH G (mUp S (M + 25) (eIn G 80 f)) M (va_up A 25 f) ns nl nn nd := h.set (i := 25) (by decide) (by decide) (fun z => by cases z)
theorem MH.s26 {f : Nat → Int32} (h : MH G S M A ns nl nn nd) : MH G (mUp S (M + 26) (eIn G 80 f)) M (va_up A 26 f) ns nl nn nd := h.set (i := 26) (by decide) (by decide) (fun z => by cases z)
theorem MH.s27 {f : Nat → Int32} (h : MH G S M A ns nl nn nd) : MH G (mUp S (M + 27) (eIn G 80 f)) M (va_up A 27 f) ns nl nn nd := h.set (i := 27) (by decide) (by decide) (fun z => by cases z)
theorem MH.s28 {f : Nat → Int32} (h : MH G S M A ns nl nn nd) : MH G (mUp S (M + 28) (eIn G 80 f)) M (va_up A 28 f) ns nl nn nd := h.set (i := 28) (by decide) (by decide) (fun z => by cases z)
theorem MH.s29 {f : Nat → Int32} (h : MH G S M A ns nl nn nd) (hb : ∀ j, isB (f j)) : MH G (mUp S (M + 29) (eBy G 640 f)) M (va_up A 29 f) ns nl nn nd := h.set (i := 29) (by decide) (by decide) (fun _ => hb)
theorem MH.s30 {f : Nat → Int32} (h : MH G S M A ns nl nn nd) (hb : ∀ j, isB (f j)) : MH G (mUp S (M + 30) (eBy G 45 f)) M (va_up A 30 f) ns nl nn nd := h.set (i := 30) (by decide) (by decide) (fun _ => hb)
theorem MH.s31 {f : Nat → Int32} (h : MH G S M A ns nl nn nd) (hb : ∀ j, isB (f j)) : MH G (mUp S (M + 31) (eBy G 45 f)) M (va_up A 31 f) ns nl nn nd := h.set (i := 31) (by decide) (by decide) (fun _ => hb)
theorem MH.obj {ns' nl' nn' nd' : Nat} (h : MH G S M A ns nl nn nd) : MH G (mUp S M (mdO M ns' nl' nn' nd')) M A ns' nl' nn' nd' := ⟨h.1.up, fun k k1 k2 => (h.2.1 k k1 k2).ne (by omega), h.2.2⟩
theorem MH.keep {X : Nat → Prop} (h : MH G S M A ns nl nn nd) (f : fr S S' X) (hx : ∀ q, M ≤ q → q ≤ M + 31 → ¬ X q) : MH G S' M A ns nl nn nd := ⟨h.1.fr f (hx _ (by omega) (by omega)), fun k k1 k2 => (h.2.1 k k1 k2).fr f (hx _ (by omega) (by omega)), h.2.2⟩
theorem xD_up {i : Nat} {e : va_E} (hi : i ≤ 31) : fr S (mUp S (M + i) e) (xD M) := fr.up (by show _ ∧ _; omega)
theorem xD_o {e : va_E} : fr S (mUp S M e) (xD M) := fr.up (by show _ ∧ _; omega)
end MOD
