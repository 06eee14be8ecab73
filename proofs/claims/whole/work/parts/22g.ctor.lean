/-! the reference's constructor: its arrays -/
def mdFi (f : Nat) : Nat := match f with
  | 0 => 1
  | 1 => 2
  | 2 => 3
  | 3 => 4
  | 4 => 5
  | 5 => 6
  | 6 => 0
  | 7 => 7
  | 8 => 8
  | 9 => 9
  | 10 => 10
  | 11 => 11
  | 12 => 12
  | 13 => 13
  | 14 => 0
  | 15 => 14
  | 16 => 15
  | 17 => 0
  | 18 => 16
  | 19 => 17
  | 20 => 18
  | 21 => 19
  | 22 => 20
  | 23 => 21
  | 24 => 22
  | 25 => 23
  | 26 => 24
  | 27 => 25
  | 28 => 26
  | 29 => 27
  | 30 => 28
  | 31 => 29
  | 32 => 0
  | 33 => 30
  | 34 => 31
  | _ => 0
def obK (M k : Nat) : List Value := (List.range 35).map (fun f => if mdFi f = 0 then .int 0 else if mdFi f ≤ k then .ref (M + mdFi f) else .null)
def mdP (i : Nat) (f : Nat → Int32) : Prop := (i = 1 → ∀ j, j < 64 → f j = KT j) ∧ (i = 2 → ∀ j, j < 8 → f j = IVT j) ∧ (3 ≤ i → f = fun _ => 0)
def MI (G : mG) (S : mS) (M k : Nat) (S4 : mS) : Prop := S4.1 = M + (k + 1) ∧ kb S S4 M ∧ mAt G S4 M (.inr (8, obK M k)) ∧ ∀ i, 1 ≤ i → i ≤ k → ∃ f, mAt G S4 (M + i) (mdE G i f) ∧ mdP i f
def KI (G : mG) (S : mS) (M p n : Nat) (T : Nat → Int32) (i : Nat) (S4 : mS) : Prop := ∃ f, S4.1 = M + (p + 1) ∧ kb S S4 M ∧ mAt G S4 M (.inr (8, obK M (p - 1))) ∧ (∀ i, 1 ≤ i → i ≤ p - 1 → ∃ f, mAt G S4 (M + i) (mdE G i f) ∧ mdP i f) ∧ mAt G S4 (M + p) (eIn G n f) ∧ ∀ j, j < i → f j = T j
section MIN
variable {G : mG} {S S4 : mS} {M : Nat} {n : Int64} {KR : Option Value → mS → Prop}
theorem mdP0 {i : Nat} (h : 3 ≤ i) : mdP i (fun _ => 0) := ⟨fun z => by omega, fun z => by omega, fun _ => rfl⟩
theorem MI.step {k : Nat} {f : Nat → Int32} (h : MI G S M k S4) (hf : mdP (k + 1) f) : MI G S M (k + 1) (mUp (mPush S4 (mdE G (k + 1) f)) M (.inr (8, obK M (k + 1)))) := by
  obtain ⟨h1, h2, h3, h4⟩ := h
  have hm := h3.1
  refine ⟨by show S4.1 + 1 = _; omega, h2.tr ((kb.push (by omega)).tr (kb.up (Nat.le_refl _))), h3.old.up, fun i a b => ?_⟩
  by_cases e : i = k + 1
  · subst e
    exact ⟨f, (mAt.new h1 (by omega)).ne (by omega), hf⟩
  · obtain ⟨g, g1, g2⟩ := h4 i a (by omega)
    exact ⟨g, g1.old.ne (by omega), g2⟩
theorem KI.go {K : mS → Prop} {p m : Nat} {T : Nat → Int32} {i : Nat} (h : KI G S M p m T i S4) (hi : i < m) (hm : m ≤ 64) (hp : 1 ≤ p) (kk : ∀ S5, KI G S M p m T (i + 1) S5 → K S5) : eS G S4 (M + p) (nI i) (T i) K := by
  obtain ⟨f, h1, h2, h3, h4, h5, h6⟩ := h
  refine eS.i (i := nI i) h5 (vp_in_nI (by omega) (by omega)) ?_
  rw [nI_clamp (by omega)]
  refine kk _ ⟨upd f i (T i), h1, h2.tr (kb.up (by omega)), h3.ne (by omega), fun k a b => ?_, h5.up, fun j hj => ?_⟩
  · obtain ⟨g, g1, g2⟩ := h4 k a b
    exact ⟨g, g1.ne (by omega), g2⟩
  · by_cases e : j = i
    · rw [e, pk_us]
    · rw [pk_un e]; exact h6 j (by omega)
theorem KI.beg {p m : Nat} {T : Nat → Int32} (h : MI G S M (p - 1) S4) (hp : 1 ≤ p) : KI G S M p m T 0 (mPush S4 (eIn G m (fun _ => 0))) := by
  obtain ⟨h1, h2, h3, h4⟩ := h
  have hm := h3.1
  refine ⟨fun _ => 0, by show S4.1 + 1 = _; omega, h2.tr (kb.push (by omega)), h3.old, fun k a b => ?_, mAt.new (by omega) (by omega), fun j hj => absurd hj (Nat.not_lt_zero j)⟩
  obtain ⟨g, g1, g2⟩ := h4 k a b
  exact ⟨g, g1.old, g2⟩
theorem KI.fin {p : Nat} {T : Nat → Int32} (h : KI G S M p (mdN p) T (mdN p) S4) (hp : 1 ≤ p) (hb : mdB p = false) (hT : ∀ f : Nat → Int32, (∀ j, j < mdN p → f j = T j) → mdP p f) : MI G S M p (mUp S4 M (.inr (8, obK M p))) := by
  obtain ⟨f, h1, h2, h3, h4, h5, h6⟩ := h
  refine ⟨h1, h2.tr (kb.up (Nat.le_refl _)), h3.up, fun i a b => ?_⟩
  by_cases e : i = p
  · subst e
    refine ⟨f, ?_, hT f h6⟩
    unfold mdE
    rw [hb]
    exact h5.ne (by omega)
  · obtain ⟨g, g1, g2⟩ := h4 i a (by omega)
    exact ⟨g, g1.ne (by omega), g2⟩
theorem mk1_b (h : MI G S M 0 S4) (kk : ∀ S5, KI G S M 1 64 KT 0 S5 → Gd G (miX8 true none) cX8_init 5 (rmN 3 31 50518) 31 50518 KR 9 [(0, .ref M), (1, .long n)] [.ref (M + 1), .ref M] (1, 64) S5) : Gd G (miX8 true none) cX8_init 5 (rmN 3 31 50518) 31 50518 KR 4 [(0, .ref M), (1, .long n)] [] (0, 0) S4 := by
  have hs : S4.1 = M + 1 := h.1
  refine Gd.of (ckX8 _ _) tX8_init_ok (cuts := lf 9 3) 10 ?_
  refine ⟨by decide, by decide, ⟨Nat.le_of_ble_eq_true rfl, Nat.le_of_ble_eq_true rfl⟩, ?_⟩
  rw [hs]
  exact kk _ (KI.beg (p := 1) h (by decide))
theorem mk1_0 (h : KI G S M 1 64 KT 0 S4) (kk : ∀ S5, KI G S M 1 64 KT 1 S5 → Gd G (miX8 true none) cX8_init 5 (rmN 3 31 50518) 31 50518 KR 14 [(0, .ref M), (1, .long n)] [.ref (M + 1), .ref M] (1, 64) S5) : Gd G (miX8 true none) cX8_init 5 (rmN 3 31 50518) 31 50518 KR 9 [(0, .ref M), (1, .long n)] [.ref (M + 1), .ref M] (1, 64) S4 := by
  refine Gd.of (ckX8 _ _) tX8_init_ok (cuts := lf 14 3) 10 ?_
  exact KI.go (i := 0) h (by decide) (by decide) (by decide) kk
theorem mk1_1 (h : KI G S M 1 64 KT 1 S4) (kk : ∀ S5, KI G S M 1 64 KT 2 S5 → Gd G (miX8 true none) cX8_init 5 (rmN 3 31 50518) 31 50518 KR 19 [(0, .ref M), (1, .long n)] [.ref (M + 1), .ref M] (1, 64) S5) : Gd G (miX8 true none) cX8_init 5 (rmN 3 31 50518) 31 50518 KR 14 [(0, .ref M), (1, .long n)] [.ref (M + 1), .ref M] (1, 64) S4 := by
  refine Gd.of (ckX8 _ _) tX8_init_ok (cuts := lf 19 3) 10 ?_
  exact KI.go (i := 1) h (by decide) (by decide) (by decide) kk
theorem mk1_2 (h : KI G S M 1 64 KT 2 S4) (kk : ∀ S5, KI G S M 1 64 KT 3 S5 → Gd G (miX8 true none) cX8_init 5 (rmN 3 31 50518) 31 50518 KR 24 [(0, .ref M), (1, .long n)] [.ref (M + 1), .ref M] (1, 64) S5) : Gd G (miX8 true none) cX8_init 5 (rmN 3 31 50518) 31 50518 KR 19 [(0, .ref M), (1, .long n)] [.ref (M + 1), .ref M] (1, 64) S4 := by
  refine Gd.of (ckX8 _ _) tX8_init_ok (cuts := lf 24 3) 10 ?_
  exact KI.go (i := 2) h (by decide) (by decide) (by decide) kk
theorem mk1_3 (h : KI G S M 1 64 KT 3 S4) (kk : ∀ S5, KI G S M 1 64 KT 4 S5 → Gd G (miX8 true none) cX8_init 5 (rmN 3 31 50518) 31 50518 KR 29 [(0, .ref M), (1, .long n)] [.ref (M + 1), .ref M] (1, 64) S5) : Gd G (miX8 true none) cX8_init 5 (rmN 3 31 50518) 31 50518 KR 24 [(0, .ref M), (1, .long n)] [.ref (M + 1), .ref M] (1, 64) S4 := by
  refine Gd.of (ckX8 _ _) tX8_init_ok (cuts := lf 29 3) 10 ?_
  exact KI.go (i := 3) h (by decide) (by decide) (by decide) kk
theorem mk1_4 (h : KI G S M 1 64 KT 4 S4) (kk : ∀ S5, KI G S M 1 64 KT 5 S5 → Gd G (miX8 true none) cX8_init 5 (rmN 3 31 50518) 31 50518 KR 34 [(0, .ref M), (1, .long n)] [.ref (M + 1), .ref M] (1, 64) S5) : Gd G (miX8 true none) cX8_init 5 (rmN 3 31 50518) 31 50518 KR 29 [(0, .ref M), (1, .long n)] [.ref (M + 1), .ref M] (1, 64) S4 := by
  refine Gd.of (ckX8 _ _) tX8_init_ok (cuts := lf 34 3) 10 ?_
  exact KI.go (i := 4) h (by decide) (by decide) (by decide) kk
theorem mk1_5 (h : KI G S M 1 64 KT 5 S4) (kk : ∀ S5, KI G S M 1 64 KT 6 S5 → Gd G (miX8 true none) cX8_init 5 (rmN 3 31 50518) 31 50518 KR 39 [(0, .ref M), (1, .long n)] [.ref (M + 1), .ref M] (1, 64) S5) : Gd G (miX8 true none) cX8_init 5 (rmN 3 31 50518) 31 50518 KR 34 [(0, .ref M), (1, .long n)] [.ref (M + 1), .ref M] (1, 64) S4 := by
  refine Gd.of (ckX8 _ _) tX8_init_ok (cuts := lf 39 3) 10 ?_
  exact KI.go (i := 5) h (by decide) (by decide) (by decide) kk
theorem mk1_6 (h : KI G S M 1 64 KT 6 S4) (kk : ∀ S5, KI G S M 1 64 KT 7 S5 → Gd G (miX8 true none) cX8_init 5 (rmN 3 31 50518) 31 50518 KR 45 [(0, .ref M), (1, .long n)] [.ref (M + 1), .ref M] (1, 64) S5) : Gd G (miX8 true none) cX8_init 5 (rmN 3 31 50518) 31 50518 KR 39 [(0, .ref M), (1, .long n)] [.ref (M + 1), .ref M] (1, 64) S4 := by
  refine Gd.of (ckX8 _ _) tX8_init_ok (cuts := lf 45 3) 10 ?_
  exact KI.go (i := 6) h (by decide) (by decide) (by decide) kk
theorem mk1_7 (h : KI G S M 1 64 KT 7 S4) (kk : ∀ S5, KI G S M 1 64 KT 8 S5 → Gd G (miX8 true none) cX8_init 5 (rmN 3 31 50518) 31 50518 KR 51 [(0, .ref M), (1, .long n)] [.ref (M + 1), .ref M] (1, 64) S5) : Gd G (miX8 true none) cX8_init 5 (rmN 3 31 50518) 31 50518 KR 45 [(0, .ref M), (1, .long n)] [.ref (M + 1), .ref M] (1, 64) S4 := by
  refine Gd.of (ckX8 _ _) tX8_init_ok (cuts := lf 51 3) 10 ?_
  exact KI.go (i := 7) h (by decide) (by decide) (by decide) kk
theorem mk1_8 (h : KI G S M 1 64 KT 8 S4) (kk : ∀ S5, KI G S M 1 64 KT 9 S5 → Gd G (miX8 true none) cX8_init 5 (rmN 3 31 50518) 31 50518 KR 57 [(0, .ref M), (1, .long n)] [.ref (M + 1), .ref M] (1, 64) S5) : Gd G (miX8 true none) cX8_init 5 (rmN 3 31 50518) 31 50518 KR 51 [(0, .ref M), (1, .long n)] [.ref (M + 1), .ref M] (1, 64) S4 := by
  refine Gd.of (ckX8 _ _) tX8_init_ok (cuts := lf 57 3) 10 ?_
  exact KI.go (i := 8) h (by decide) (by decide) (by decide) kk
theorem mk1_9 (h : KI G S M 1 64 KT 9 S4) (kk : ∀ S5, KI G S M 1 64 KT 10 S5 → Gd G (miX8 true none) cX8_init 5 (rmN 3 31 50518) 31 50518 KR 63 [(0, .ref M), (1, .long n)] [.ref (M + 1), .ref M] (1, 64) S5) : Gd G (miX8 true none) cX8_init 5 (rmN 3 31 50518) 31 50518 KR 57 [(0, .ref M), (1, .long n)] [.ref (M + 1), .ref M] (1, 64) S4 := by
  refine Gd.of (ckX8 _ _) tX8_init_ok (cuts := lf 63 3) 10 ?_
  exact KI.go (i := 9) h (by decide) (by decide) (by decide) kk
theorem mk1_10 (h : KI G S M 1 64 KT 10 S4) (kk : ∀ S5, KI G S M 1 64 KT 11 S5 → Gd G (miX8 true none) cX8_init 5 (rmN 3 31 50518) 31 50518 KR 69 [(0, .ref M), (1, .long n)] [.ref (M + 1), .ref M] (1, 64) S5) : Gd G (miX8 true none) cX8_init 5 (rmN 3 31 50518) 31 50518 KR 63 [(0, .ref M), (1, .long n)] [.ref (M + 1), .ref M] (1, 64) S4 := by
  refine Gd.of (ckX8 _ _) tX8_init_ok (cuts := lf 69 3) 10 ?_
  exact KI.go (i := 10) h (by decide) (by decide) (by decide) kk
theorem mk1_11 (h : KI G S M 1 64 KT 11 S4) (kk : ∀ S5, KI G S M 1 64 KT 12 S5 → Gd G (miX8 true none) cX8_init 5 (rmN 3 31 50518) 31 50518 KR 75 [(0, .ref M), (1, .long n)] [.ref (M + 1), .ref M] (1, 64) S5) : Gd G (miX8 true none) cX8_init 5 (rmN 3 31 50518) 31 50518 KR 69 [(0, .ref M), (1, .long n)] [.ref (M + 1), .ref M] (1, 64) S4 := by
  refine Gd.of (ckX8 _ _) tX8_init_ok (cuts := lf 75 3) 10 ?_
  exact KI.go (i := 11) h (by decide) (by decide) (by decide) kk
theorem mk1_12 (h : KI G S M 1 64 KT 12 S4) (kk : ∀ S5, KI G S M 1 64 KT 13 S5 → Gd G (miX8 true none) cX8_init 5 (rmN 3 31 50518) 31 50518 KR 81 [(0, .ref M), (1, .long n)] [.ref (M + 1), .ref M] (1, 64) S5) : Gd G (miX8 true none) cX8_init 5 (rmN 3 31 50518) 31 50518 KR 75 [(0, .ref M), (1, .long n)] [.ref (M + 1), .ref M] (1, 64) S4 := by
  refine Gd.of (ckX8 _ _) tX8_init_ok (cuts := lf 81 3) 10 ?_
  exact KI.go (i := 12) h (by decide) (by decide) (by decide) kk
theorem mk1_13 (h : KI G S M 1 64 KT 13 S4) (kk : ∀ S5, KI G S M 1 64 KT 14 S5 → Gd G (miX8 true none) cX8_init 5 (rmN 3 31 50518) 31 50518 KR 87 [(0, .ref M), (1, .long n)] [.ref (M + 1), .ref M] (1, 64) S5) : Gd G (miX8 true none) cX8_init 5 (rmN 3 31 50518) 31 50518 KR 81 [(0, .ref M), (1, .long n)] [.ref (M + 1), .ref M] (1, 64) S4 := by
  refine Gd.of (ckX8 _ _) tX8_init_ok (cuts := lf 87 3) 10 ?_
  exact KI.go (i := 13) h (by decide) (by decide) (by decide) kk
theorem mk1_14 (h : KI G S M 1 64 KT 14 S4) (kk : ∀ S5, KI G S M 1 64 KT 15 S5 → Gd G (miX8 true none) cX8_init 5 (rmN 3 31 50518) 31 50518 KR 93 [(0, .ref M), (1, .long n)] [.ref (M + 1), .ref M] (1, 64) S5) : Gd G (miX8 true none) cX8_init 5 (rmN 3 31 50518) 31 50518 KR 87 [(0, .ref M), (1, .long n)] [.ref (M + 1), .ref M] (1, 64) S4 := by
  refine Gd.of (ckX8 _ _) tX8_init_ok (cuts := lf 93 3) 10 ?_
  exact KI.go (i := 14) h (by decide) (by decide) (by decide) kk
theorem mk1_15 (h : KI G S M 1 64 KT 15 S4) (kk : ∀ S5, KI G S M 1 64 KT 16 S5 → Gd G (miX8 true none) cX8_init 5 (rmN 3 31 50518) 31 50518 KR 99 [(0, .ref M), (1, .long n)] [.ref (M + 1), .ref M] (1, 64) S5) : Gd G (miX8 true none) cX8_init 5 (rmN 3 31 50518) 31 50518 KR 93 [(0, .ref M), (1, .long n)] [.ref (M + 1), .ref M] (1, 64) S4 := by
  refine Gd.of (ckX8 _ _) tX8_init_ok (cuts := lf 99 3) 10 ?_
  exact KI.go (i := 15) h (by decide) (by decide) (by decide) kk
theorem mk1_16 (h : KI G S M 1 64 KT 16 S4) (kk : ∀ S5, KI G S M 1 64 KT 17 S5 → Gd G (miX8 true none) cX8_init 5 (rmN 3 31 50518) 31 50518 KR 105 [(0, .ref M), (1, .long n)] [.ref (M + 1), .ref M] (1, 64) S5) : Gd G (miX8 true none) cX8_init 5 (rmN 3 31 50518) 31 50518 KR 99 [(0, .ref M), (1, .long n)] [.ref (M + 1), .ref M] (1, 64) S4 := by
  refine Gd.of (ckX8 _ _) tX8_init_ok (cuts := lf 105 3) 10 ?_
  exact KI.go (i := 16) h (by decide) (by decide) (by decide) kk
theorem mk1_17 (h : KI G S M 1 64 KT 17 S4) (kk : ∀ S5, KI G S M 1 64 KT 18 S5 → Gd G (miX8 true none) cX8_init 5 (rmN 3 31 50518) 31 50518 KR 111 [(0, .ref M), (1, .long n)] [.ref (M + 1), .ref M] (1, 64) S5) : Gd G (miX8 true none) cX8_init 5 (rmN 3 31 50518) 31 50518 KR 105 [(0, .ref M), (1, .long n)] [.ref (M + 1), .ref M] (1, 64) S4 := by
  refine Gd.of (ckX8 _ _) tX8_init_ok (cuts := lf 111 3) 10 ?_
  exact KI.go (i := 17) h (by decide) (by decide) (by decide) kk
theorem mk1_18 (h : KI G S M 1 64 KT 18 S4) (kk : ∀ S5, KI G S M 1 64 KT 19 S5 → Gd G (miX8 true none) cX8_init 5 (rmN 3 31 50518) 31 50518 KR 117 [(0, .ref M), (1, .long n)] [.ref (M + 1), .ref M] (1, 64) S5) : Gd G (miX8 true none) cX8_init 5 (rmN 3 31 50518) 31 50518 KR 111 [(0, .ref M), (1, .long n)] [.ref (M + 1), .ref M] (1, 64) S4 := by
  refine Gd.of (ckX8 _ _) tX8_init_ok (cuts := lf 117 3) 10 ?_
  exact KI.go (i := 18) h (by decide) (by decide) (by decide) kk
theorem mk1_19 (h : KI G S M 1 64 KT 19 S4) (kk : ∀ S5, KI G S M 1 64 KT 20 S5 → Gd G (miX8 true none) cX8_init 5 (rmN 3 31 50518) 31 50518 KR 123 [(0, .ref M), (1, .long n)] [.ref (M + 1), .ref M] (1, 64) S5) : Gd G (miX8 true none) cX8_init 5 (rmN 3 31 50518) 31 50518 KR 117 [(0, .ref M), (1, .long n)] [.ref (M + 1), .ref M] (1, 64) S4 := by
  refine Gd.of (ckX8 _ _) tX8_init_ok (cuts := lf 123 3) 10 ?_
  exact KI.go (i := 19) h (by decide) (by decide) (by decide) kk
theorem mk1_20 (h : KI G S M 1 64 KT 20 S4) (kk : ∀ S5, KI G S M 1 64 KT 21 S5 → Gd G (miX8 true none) cX8_init 5 (rmN 3 31 50518) 31 50518 KR 129 [(0, .ref M), (1, .long n)] [.ref (M + 1), .ref M] (1, 64) S5) : Gd G (miX8 true none) cX8_init 5 (rmN 3 31 50518) 31 50518 KR 123 [(0, .ref M), (1, .long n)] [.ref (M + 1), .ref M] (1, 64) S4 := by
  refine Gd.of (ckX8 _ _) tX8_init_ok (cuts := lf 129 3) 10 ?_
  exact KI.go (i := 20) h (by decide) (by decide) (by decide) kk
theorem mk1_21 (h : KI G S M 1 64 KT 21 S4) (kk : ∀ S5, KI G S M 1 64 KT 22 S5 → Gd G (miX8 true none) cX8_init 5 (rmN 3 31 50518) 31 50518 KR 135 [(0, .ref M), (1, .long n)] [.ref (M + 1), .ref M] (1, 64) S5) : Gd G (miX8 true none) cX8_init 5 (rmN 3 31 50518) 31 50518 KR 129 [(0, .ref M), (1, .long n)] [.ref (M + 1), .ref M] (1, 64) S4 := by
  refine Gd.of (ckX8 _ _) tX8_init_ok (cuts := lf 135 3) 10 ?_
  exact KI.go (i := 21) h (by decide) (by decide) (by decide) kk
theorem mk1_22 (h : KI G S M 1 64 KT 22 S4) (kk : ∀ S5, KI G S M 1 64 KT 23 S5 → Gd G (miX8 true none) cX8_init 5 (rmN 3 31 50518) 31 50518 KR 141 [(0, .ref M), (1, .long n)] [.ref (M + 1), .ref M] (1, 64) S5) : Gd G (miX8 true none) cX8_init 5 (rmN 3 31 50518) 31 50518 KR 135 [(0, .ref M), (1, .long n)] [.ref (M + 1), .ref M] (1, 64) S4 := by
  refine Gd.of (ckX8 _ _) tX8_init_ok (cuts := lf 141 3) 10 ?_
  exact KI.go (i := 22) h (by decide) (by decide) (by decide) kk
theorem mk1_23 (h : KI G S M 1 64 KT 23 S4) (kk : ∀ S5, KI G S M 1 64 KT 24 S5 → Gd G (miX8 true none) cX8_init 5 (rmN 3 31 50518) 31 50518 KR 147 [(0, .ref M), (1, .long n)] [.ref (M + 1), .ref M] (1, 64) S5) : Gd G (miX8 true none) cX8_init 5 (rmN 3 31 50518) 31 50518 KR 141 [(0, .ref M), (1, .long n)] [.ref (M + 1), .ref M] (1, 64) S4 := by
  refine Gd.of (ckX8 _ _) tX8_init_ok (cuts := lf 147 3) 10 ?_
  exact KI.go (i := 23) h (by decide) (by decide) (by decide) kk
theorem mk1_24 (h : KI G S M 1 64 KT 24 S4) (kk : ∀ S5, KI G S M 1 64 KT 25 S5 → Gd G (miX8 true none) cX8_init 5 (rmN 3 31 50518) 31 50518 KR 153 [(0, .ref M), (1, .long n)] [.ref (M + 1), .ref M] (1, 64) S5) : Gd G (miX8 true none) cX8_init 5 (rmN 3 31 50518) 31 50518 KR 147 [(0, .ref M), (1, .long n)] [.ref (M + 1), .ref M] (1, 64) S4 := by
  refine Gd.of (ckX8 _ _) tX8_init_ok (cuts := lf 153 3) 10 ?_
  exact KI.go (i := 24) h (by decide) (by decide) (by decide) kk
theorem mk1_25 (h : KI G S M 1 64 KT 25 S4) (kk : ∀ S5, KI G S M 1 64 KT 26 S5 → Gd G (miX8 true none) cX8_init 5 (rmN 3 31 50518) 31 50518 KR 159 [(0, .ref M), (1, .long n)] [.ref (M + 1), .ref M] (1, 64) S5) : Gd G (miX8 true none) cX8_init 5 (rmN 3 31 50518) 31 50518 KR 153 [(0, .ref M), (1, .long n)] [.ref (M + 1), .ref M] (1, 64) S4 := by
  refine Gd.of (ckX8 _ _) tX8_init_ok (cuts := lf 159 3) 10 ?_
  exact KI.go (i := 25) h (by decide) (by decide) (by decide) kk
theorem mk1_26 (h : KI G S M 1 64 KT 26 S4) (kk : ∀ S5, KI G S M 1 64 KT 27 S5 → Gd G (miX8 true none) cX8_init 5 (rmN 3 31 50518) 31 50518 KR 165 [(0, .ref M), (1, .long n)] [.ref (M + 1), .ref M] (1, 64) S5) : Gd G (miX8 true none) cX8_init 5 (rmN 3 31 50518) 31 50518 KR 159 [(0, .ref M), (1, .long n)] [.ref (M + 1), .ref M] (1, 64) S4 := by
  refine Gd.of (ckX8 _ _) tX8_init_ok (cuts := lf 165 3) 10 ?_
  exact KI.go (i := 26) h (by decide) (by decide) (by decide) kk
theorem mk1_27 (h : KI G S M 1 64 KT 27 S4) (kk : ∀ S5, KI G S M 1 64 KT 28 S5 → Gd G (miX8 true none) cX8_init 5 (rmN 3 31 50518) 31 50518 KR 171 [(0, .ref M), (1, .long n)] [.ref (M + 1), .ref M] (1, 64) S5) : Gd G (miX8 true none) cX8_init 5 (rmN 3 31 50518) 31 50518 KR 165 [(0, .ref M), (1, .long n)] [.ref (M + 1), .ref M] (1, 64) S4 := by
  refine Gd.of (ckX8 _ _) tX8_init_ok (cuts := lf 171 3) 10 ?_
  exact KI.go (i := 27) h (by decide) (by decide) (by decide) kk
theorem mk1_28 (h : KI G S M 1 64 KT 28 S4) (kk : ∀ S5, KI G S M 1 64 KT 29 S5 → Gd G (miX8 true none) cX8_init 5 (rmN 3 31 50518) 31 50518 KR 177 [(0, .ref M), (1, .long n)] [.ref (M + 1), .ref M] (1, 64) S5) : Gd G (miX8 true none) cX8_init 5 (rmN 3 31 50518) 31 50518 KR 171 [(0, .ref M), (1, .long n)] [.ref (M + 1), .ref M] (1, 64) S4 := by
  refine Gd.of (ckX8 _ _) tX8_init_ok (cuts := lf 177 3) 10 ?_
  exact KI.go (i := 28) h (by decide) (by decide) (by decide) kk
theorem mk1_29 (h : KI G S M 1 64 KT 29 S4) (kk : ∀ S5, KI G S M 1 64 KT 30 S5 → Gd G (miX8 true none) cX8_init 5 (rmN 3 31 50518) 31 50518 KR 183 [(0, .ref M), (1, .long n)] [.ref (M + 1), .ref M] (1, 64) S5) : Gd G (miX8 true none) cX8_init 5 (rmN 3 31 50518) 31 50518 KR 177 [(0, .ref M), (1, .long n)] [.ref (M + 1), .ref M] (1, 64) S4 := by
  refine Gd.of (ckX8 _ _) tX8_init_ok (cuts := lf 183 3) 10 ?_
  exact KI.go (i := 29) h (by decide) (by decide) (by decide) kk
theorem mk1_30 (h : KI G S M 1 64 KT 30 S4) (kk : ∀ S5, KI G S M 1 64 KT 31 S5 → Gd G (miX8 true none) cX8_init 5 (rmN 3 31 50518) 31 50518 KR 189 [(0, .ref M), (1, .long n)] [.ref (M + 1), .ref M] (1, 64) S5) : Gd G (miX8 true none) cX8_init 5 (rmN 3 31 50518) 31 50518 KR 183 [(0, .ref M), (1, .long n)] [.ref (M + 1), .ref M] (1, 64) S4 := by
  refine Gd.of (ckX8 _ _) tX8_init_ok (cuts := lf 189 3) 10 ?_
  exact KI.go (i := 30) h (by decide) (by decide) (by decide) kk
theorem mk1_31 (h : KI G S M 1 64 KT 31 S4) (kk : ∀ S5, KI G S M 1 64 KT 32 S5 → Gd G (miX8 true none) cX8_init 5 (rmN 3 31 50518) 31 50518 KR 195 [(0, .ref M), (1, .long n)] [.ref (M + 1), .ref M] (1, 64) S5) : Gd G (miX8 true none) cX8_init 5 (rmN 3 31 50518) 31 50518 KR 189 [(0, .ref M), (1, .long n)] [.ref (M + 1), .ref M] (1, 64) S4 := by
  refine Gd.of (ckX8 _ _) tX8_init_ok (cuts := lf 195 3) 10 ?_
  exact KI.go (i := 31) h (by decide) (by decide) (by decide) kk
theorem mk1_32 (h : KI G S M 1 64 KT 32 S4) (kk : ∀ S5, KI G S M 1 64 KT 33 S5 → Gd G (miX8 true none) cX8_init 5 (rmN 3 31 50518) 31 50518 KR 201 [(0, .ref M), (1, .long n)] [.ref (M + 1), .ref M] (1, 64) S5) : Gd G (miX8 true none) cX8_init 5 (rmN 3 31 50518) 31 50518 KR 195 [(0, .ref M), (1, .long n)] [.ref (M + 1), .ref M] (1, 64) S4 := by
  refine Gd.of (ckX8 _ _) tX8_init_ok (cuts := lf 201 3) 10 ?_
  exact KI.go (i := 32) h (by decide) (by decide) (by decide) kk
theorem mk1_33 (h : KI G S M 1 64 KT 33 S4) (kk : ∀ S5, KI G S M 1 64 KT 34 S5 → Gd G (miX8 true none) cX8_init 5 (rmN 3 31 50518) 31 50518 KR 207 [(0, .ref M), (1, .long n)] [.ref (M + 1), .ref M] (1, 64) S5) : Gd G (miX8 true none) cX8_init 5 (rmN 3 31 50518) 31 50518 KR 201 [(0, .ref M), (1, .long n)] [.ref (M + 1), .ref M] (1, 64) S4 := by
  refine Gd.of (ckX8 _ _) tX8_init_ok (cuts := lf 207 3) 10 ?_
  exact KI.go (i := 33) h (by decide) (by decide) (by decide) kk
theorem mk1_34 (h : KI G S M 1 64 KT 34 S4) (kk : ∀ S5, KI G S M 1 64 KT 35 S5 → Gd G (miX8 true none) cX8_init 5 (rmN 3 31 50518) 31 50518 KR 213 [(0, .ref M), (1, .long n)] [.ref (M + 1), .ref M] (1, 64) S5) : Gd G (miX8 true none) cX8_init 5 (rmN 3 31 50518) 31 50518 KR 207 [(0, .ref M), (1, .long n)] [.ref (M + 1), .ref M] (1, 64) S4 := by
  refine Gd.of (ckX8 _ _) tX8_init_ok (cuts := lf 213 3) 10 ?_
  exact KI.go (i := 34) h (by decide) (by decide) (by decide) kk
theorem mk1_35 (h : KI G S M 1 64 KT 35 S4) (kk : ∀ S5, KI G S M 1 64 KT 36 S5 → Gd G (miX8 true none) cX8_init 5 (rmN 3 31 50518) 31 50518 KR 219 [(0, .ref M), (1, .long n)] [.ref (M + 1), .ref M] (1, 64) S5) : Gd G (miX8 true none) cX8_init 5 (rmN 3 31 50518) 31 50518 KR 213 [(0, .ref M), (1, .long n)] [.ref (M + 1), .ref M] (1, 64) S4 := by
  refine Gd.of (ckX8 _ _) tX8_init_ok (cuts := lf 219 3) 10 ?_
  exact KI.go (i := 35) h (by decide) (by decide) (by decide) kk
theorem mk1_36 (h : KI G S M 1 64 KT 36 S4) (kk : ∀ S5, KI G S M 1 64 KT 37 S5 → Gd G (miX8 true none) cX8_init 5 (rmN 3 31 50518) 31 50518 KR 225 [(0, .ref M), (1, .long n)] [.ref (M + 1), .ref M] (1, 64) S5) : Gd G (miX8 true none) cX8_init 5 (rmN 3 31 50518) 31 50518 KR 219 [(0, .ref M), (1, .long n)] [.ref (M + 1), .ref M] (1, 64) S4 := by
  refine Gd.of (ckX8 _ _) tX8_init_ok (cuts := lf 225 3) 10 ?_
  exact KI.go (i := 36) h (by decide) (by decide) (by decide) kk
theorem mk1_37 (h : KI G S M 1 64 KT 37 S4) (kk : ∀ S5, KI G S M 1 64 KT 38 S5 → Gd G (miX8 true none) cX8_init 5 (rmN 3 31 50518) 31 50518 KR 231 [(0, .ref M), (1, .long n)] [.ref (M + 1), .ref M] (1, 64) S5) : Gd G (miX8 true none) cX8_init 5 (rmN 3 31 50518) 31 50518 KR 225 [(0, .ref M), (1, .long n)] [.ref (M + 1), .ref M] (1, 64) S4 := by
  refine Gd.of (ckX8 _ _) tX8_init_ok (cuts := lf 231 3) 10 ?_
  exact KI.go (i := 37) h (by decide) (by decide) (by decide) kk
theorem mk1_38 (h : KI G S M 1 64 KT 38 S4) (kk : ∀ S5, KI G S M 1 64 KT 39 S5 → Gd G (miX8 true none) cX8_init 5 (rmN 3 31 50518) 31 50518 KR 237 [(0, .ref M), (1, .long n)] [.ref (M + 1), .ref M] (1, 64) S5) : Gd G (miX8 true none) cX8_init 5 (rmN 3 31 50518) 31 50518 KR 231 [(0, .ref M), (1, .long n)] [.ref (M + 1), .ref M] (1, 64) S4 := by
  refine Gd.of (ckX8 _ _) tX8_init_ok (cuts := lf 237 3) 10 ?_
  exact KI.go (i := 38) h (by decide) (by decide) (by decide) kk
theorem mk1_39 (h : KI G S M 1 64 KT 39 S4) (kk : ∀ S5, KI G S M 1 64 KT 40 S5 → Gd G (miX8 true none) cX8_init 5 (rmN 3 31 50518) 31 50518 KR 243 [(0, .ref M), (1, .long n)] [.ref (M + 1), .ref M] (1, 64) S5) : Gd G (miX8 true none) cX8_init 5 (rmN 3 31 50518) 31 50518 KR 237 [(0, .ref M), (1, .long n)] [.ref (M + 1), .ref M] (1, 64) S4 := by
  refine Gd.of (ckX8 _ _) tX8_init_ok (cuts := lf 243 3) 10 ?_
  exact KI.go (i := 39) h (by decide) (by decide) (by decide) kk
theorem mk1_40 (h : KI G S M 1 64 KT 40 S4) (kk : ∀ S5, KI G S M 1 64 KT 41 S5 → Gd G (miX8 true none) cX8_init 5 (rmN 3 31 50518) 31 50518 KR 249 [(0, .ref M), (1, .long n)] [.ref (M + 1), .ref M] (1, 64) S5) : Gd G (miX8 true none) cX8_init 5 (rmN 3 31 50518) 31 50518 KR 243 [(0, .ref M), (1, .long n)] [.ref (M + 1), .ref M] (1, 64) S4 := by
  refine Gd.of (ckX8 _ _) tX8_init_ok (cuts := lf 249 3) 10 ?_
  exact KI.go (i := 40) h (by decide) (by decide) (by decide) kk
theorem mk1_41 (h : KI G S M 1 64 KT 41 S4) (kk : ∀ S5, KI G S M 1 64 KT 42 S5 → Gd G (miX8 true none) cX8_init 5 (rmN 3 31 50518) 31 50518 KR 255 [(0, .ref M), (1, .long n)] [.ref (M + 1), .ref M] (1, 64) S5) : Gd G (miX8 true none) cX8_init 5 (rmN 3 31 50518) 31 50518 KR 249 [(0, .ref M), (1, .long n)] [.ref (M + 1), .ref M] (1, 64) S4 := by
  refine Gd.of (ckX8 _ _) tX8_init_ok (cuts := lf 255 3) 10 ?_
  exact KI.go (i := 41) h (by decide) (by decide) (by decide) kk
theorem mk1_42 (h : KI G S M 1 64 KT 42 S4) (kk : ∀ S5, KI G S M 1 64 KT 43 S5 → Gd G (miX8 true none) cX8_init 5 (rmN 3 31 50518) 31 50518 KR 261 [(0, .ref M), (1, .long n)] [.ref (M + 1), .ref M] (1, 64) S5) : Gd G (miX8 true none) cX8_init 5 (rmN 3 31 50518) 31 50518 KR 255 [(0, .ref M), (1, .long n)] [.ref (M + 1), .ref M] (1, 64) S4 := by
  refine Gd.of (ckX8 _ _) tX8_init_ok (cuts := lf 261 3) 10 ?_
  exact KI.go (i := 42) h (by decide) (by decide) (by decide) kk
theorem mk1_43 (h : KI G S M 1 64 KT 43 S4) (kk : ∀ S5, KI G S M 1 64 KT 44 S5 → Gd G (miX8 true none) cX8_init 5 (rmN 3 31 50518) 31 50518 KR 267 [(0, .ref M), (1, .long n)] [.ref (M + 1), .ref M] (1, 64) S5) : Gd G (miX8 true none) cX8_init 5 (rmN 3 31 50518) 31 50518 KR 261 [(0, .ref M), (1, .long n)] [.ref (M + 1), .ref M] (1, 64) S4 := by
  refine Gd.of (ckX8 _ _) tX8_init_ok (cuts := lf 267 3) 10 ?_
  exact KI.go (i := 43) h (by decide) (by decide) (by decide) kk
theorem mk1_44 (h : KI G S M 1 64 KT 44 S4) (kk : ∀ S5, KI G S M 1 64 KT 45 S5 → Gd G (miX8 true none) cX8_init 5 (rmN 3 31 50518) 31 50518 KR 273 [(0, .ref M), (1, .long n)] [.ref (M + 1), .ref M] (1, 64) S5) : Gd G (miX8 true none) cX8_init 5 (rmN 3 31 50518) 31 50518 KR 267 [(0, .ref M), (1, .long n)] [.ref (M + 1), .ref M] (1, 64) S4 := by
  refine Gd.of (ckX8 _ _) tX8_init_ok (cuts := lf 273 3) 10 ?_
  exact KI.go (i := 44) h (by decide) (by decide) (by decide) kk
theorem mk1_45 (h : KI G S M 1 64 KT 45 S4) (kk : ∀ S5, KI G S M 1 64 KT 46 S5 → Gd G (miX8 true none) cX8_init 5 (rmN 3 31 50518) 31 50518 KR 279 [(0, .ref M), (1, .long n)] [.ref (M + 1), .ref M] (1, 64) S5) : Gd G (miX8 true none) cX8_init 5 (rmN 3 31 50518) 31 50518 KR 273 [(0, .ref M), (1, .long n)] [.ref (M + 1), .ref M] (1, 64) S4 := by
  refine Gd.of (ckX8 _ _) tX8_init_ok (cuts := lf 279 3) 10 ?_
  exact KI.go (i := 45) h (by decide) (by decide) (by decide) kk
theorem mk1_46 (h : KI G S M 1 64 KT 46 S4) (kk : ∀ S5, KI G S M 1 64 KT 47 S5 → Gd G (miX8 true none) cX8_init 5 (rmN 3 31 50518) 31 50518 KR 285 [(0, .ref M), (1, .long n)] [.ref (M + 1), .ref M] (1, 64) S5) : Gd G (miX8 true none) cX8_init 5 (rmN 3 31 50518) 31 50518 KR 279 [(0, .ref M), (1, .long n)] [.ref (M + 1), .ref M] (1, 64) S4 := by
  refine Gd.of (ckX8 _ _) tX8_init_ok (cuts := lf 285 3) 10 ?_
  exact KI.go (i := 46) h (by decide) (by decide) (by decide) kk
theorem mk1_47 (h : KI G S M 1 64 KT 47 S4) (kk : ∀ S5, KI G S M 1 64 KT 48 S5 → Gd G (miX8 true none) cX8_init 5 (rmN 3 31 50518) 31 50518 KR 291 [(0, .ref M), (1, .long n)] [.ref (M + 1), .ref M] (1, 64) S5) : Gd G (miX8 true none) cX8_init 5 (rmN 3 31 50518) 31 50518 KR 285 [(0, .ref M), (1, .long n)] [.ref (M + 1), .ref M] (1, 64) S4 := by
  refine Gd.of (ckX8 _ _) tX8_init_ok (cuts := lf 291 3) 10 ?_
  exact KI.go (i := 47) h (by decide) (by decide) (by decide) kk
theorem mk1_48 (h : KI G S M 1 64 KT 48 S4) (kk : ∀ S5, KI G S M 1 64 KT 49 S5 → Gd G (miX8 true none) cX8_init 5 (rmN 3 31 50518) 31 50518 KR 297 [(0, .ref M), (1, .long n)] [.ref (M + 1), .ref M] (1, 64) S5) : Gd G (miX8 true none) cX8_init 5 (rmN 3 31 50518) 31 50518 KR 291 [(0, .ref M), (1, .long n)] [.ref (M + 1), .ref M] (1, 64) S4 := by
  refine Gd.of (ckX8 _ _) tX8_init_ok (cuts := lf 297 3) 10 ?_
  exact KI.go (i := 48) h (by decide) (by decide) (by decide) kk
theorem mk1_49 (h : KI G S M 1 64 KT 49 S4) (kk : ∀ S5, KI G S M 1 64 KT 50 S5 → Gd G (miX8 true none) cX8_init 5 (rmN 3 31 50518) 31 50518 KR 303 [(0, .ref M), (1, .long n)] [.ref (M + 1), .ref M] (1, 64) S5) : Gd G (miX8 true none) cX8_init 5 (rmN 3 31 50518) 31 50518 KR 297 [(0, .ref M), (1, .long n)] [.ref (M + 1), .ref M] (1, 64) S4 := by
  refine Gd.of (ckX8 _ _) tX8_init_ok (cuts := lf 303 3) 10 ?_
  exact KI.go (i := 49) h (by decide) (by decide) (by decide) kk
theorem mk1_50 (h : KI G S M 1 64 KT 50 S4) (kk : ∀ S5, KI G S M 1 64 KT 51 S5 → Gd G (miX8 true none) cX8_init 5 (rmN 3 31 50518) 31 50518 KR 309 [(0, .ref M), (1, .long n)] [.ref (M + 1), .ref M] (1, 64) S5) : Gd G (miX8 true none) cX8_init 5 (rmN 3 31 50518) 31 50518 KR 303 [(0, .ref M), (1, .long n)] [.ref (M + 1), .ref M] (1, 64) S4 := by
  refine Gd.of (ckX8 _ _) tX8_init_ok (cuts := lf 309 3) 10 ?_
  exact KI.go (i := 50) h (by decide) (by decide) (by decide) kk
theorem mk1_51 (h : KI G S M 1 64 KT 51 S4) (kk : ∀ S5, KI G S M 1 64 KT 52 S5 → Gd G (miX8 true none) cX8_init 5 (rmN 3 31 50518) 31 50518 KR 315 [(0, .ref M), (1, .long n)] [.ref (M + 1), .ref M] (1, 64) S5) : Gd G (miX8 true none) cX8_init 5 (rmN 3 31 50518) 31 50518 KR 309 [(0, .ref M), (1, .long n)] [.ref (M + 1), .ref M] (1, 64) S4 := by
  refine Gd.of (ckX8 _ _) tX8_init_ok (cuts := lf 315 3) 10 ?_
  exact KI.go (i := 51) h (by decide) (by decide) (by decide) kk
theorem mk1_52 (h : KI G S M 1 64 KT 52 S4) (kk : ∀ S5, KI G S M 1 64 KT 53 S5 → Gd G (miX8 true none) cX8_init 5 (rmN 3 31 50518) 31 50518 KR 321 [(0, .ref M), (1, .long n)] [.ref (M + 1), .ref M] (1, 64) S5) : Gd G (miX8 true none) cX8_init 5 (rmN 3 31 50518) 31 50518 KR 315 [(0, .ref M), (1, .long n)] [.ref (M + 1), .ref M] (1, 64) S4 := by
  refine Gd.of (ckX8 _ _) tX8_init_ok (cuts := lf 321 3) 10 ?_
  exact KI.go (i := 52) h (by decide) (by decide) (by decide) kk
theorem mk1_53 (h : KI G S M 1 64 KT 53 S4) (kk : ∀ S5, KI G S M 1 64 KT 54 S5 → Gd G (miX8 true none) cX8_init 5 (rmN 3 31 50518) 31 50518 KR 327 [(0, .ref M), (1, .long n)] [.ref (M + 1), .ref M] (1, 64) S5) : Gd G (miX8 true none) cX8_init 5 (rmN 3 31 50518) 31 50518 KR 321 [(0, .ref M), (1, .long n)] [.ref (M + 1), .ref M] (1, 64) S4 := by
  refine Gd.of (ckX8 _ _) tX8_init_ok (cuts := lf 327 3) 10 ?_
  exact KI.go (i := 53) h (by decide) (by decide) (by decide) kk
theorem mk1_54 (h : KI G S M 1 64 KT 54 S4) (kk : ∀ S5, KI G S M 1 64 KT 55 S5 → Gd G (miX8 true none) cX8_init 5 (rmN 3 31 50518) 31 50518 KR 333 [(0, .ref M), (1, .long n)] [.ref (M + 1), .ref M] (1, 64) S5) : Gd G (miX8 true none) cX8_init 5 (rmN 3 31 50518) 31 50518 KR 327 [(0, .ref M), (1, .long n)] [.ref (M + 1), .ref M] (1, 64) S4 := by
  refine Gd.of (ckX8 _ _) tX8_init_ok (cuts := lf 333 3) 10 ?_
  exact KI.go (i := 54) h (by decide) (by decide) (by decide) kk
theorem mk1_55 (h : KI G S M 1 64 KT 55 S4) (kk : ∀ S5, KI G S M 1 64 KT 56 S5 → Gd G (miX8 true none) cX8_init 5 (rmN 3 31 50518) 31 50518 KR 339 [(0, .ref M), (1, .long n)] [.ref (M + 1), .ref M] (1, 64) S5) : Gd G (miX8 true none) cX8_init 5 (rmN 3 31 50518) 31 50518 KR 333 [(0, .ref M), (1, .long n)] [.ref (M + 1), .ref M] (1, 64) S4 := by
  refine Gd.of (ckX8 _ _) tX8_init_ok (cuts := lf 339 3) 10 ?_
  exact KI.go (i := 55) h (by decide) (by decide) (by decide) kk
theorem mk1_56 (h : KI G S M 1 64 KT 56 S4) (kk : ∀ S5, KI G S M 1 64 KT 57 S5 → Gd G (miX8 true none) cX8_init 5 (rmN 3 31 50518) 31 50518 KR 345 [(0, .ref M), (1, .long n)] [.ref (M + 1), .ref M] (1, 64) S5) : Gd G (miX8 true none) cX8_init 5 (rmN 3 31 50518) 31 50518 KR 339 [(0, .ref M), (1, .long n)] [.ref (M + 1), .ref M] (1, 64) S4 := by
  refine Gd.of (ckX8 _ _) tX8_init_ok (cuts := lf 345 3) 10 ?_
  exact KI.go (i := 56) h (by decide) (by decide) (by decide) kk
theorem mk1_57 (h : KI G S M 1 64 KT 57 S4) (kk : ∀ S5, KI G S M 1 64 KT 58 S5 → Gd G (miX8 true none) cX8_init 5 (rmN 3 31 50518) 31 50518 KR 351 [(0, .ref M), (1, .long n)] [.ref (M + 1), .ref M] (1, 64) S5) : Gd G (miX8 true none) cX8_init 5 (rmN 3 31 50518) 31 50518 KR 345 [(0, .ref M), (1, .long n)] [.ref (M + 1), .ref M] (1, 64) S4 := by
  refine Gd.of (ckX8 _ _) tX8_init_ok (cuts := lf 351 3) 10 ?_
  exact KI.go (i := 57) h (by decide) (by decide) (by decide) kk
theorem mk1_58 (h : KI G S M 1 64 KT 58 S4) (kk : ∀ S5, KI G S M 1 64 KT 59 S5 → Gd G (miX8 true none) cX8_init 5 (rmN 3 31 50518) 31 50518 KR 357 [(0, .ref M), (1, .long n)] [.ref (M + 1), .ref M] (1, 64) S5) : Gd G (miX8 true none) cX8_init 5 (rmN 3 31 50518) 31 50518 KR 351 [(0, .ref M), (1, .long n)] [.ref (M + 1), .ref M] (1, 64) S4 := by
  refine Gd.of (ckX8 _ _) tX8_init_ok (cuts := lf 357 3) 10 ?_
  exact KI.go (i := 58) h (by decide) (by decide) (by decide) kk
theorem mk1_59 (h : KI G S M 1 64 KT 59 S4) (kk : ∀ S5, KI G S M 1 64 KT 60 S5 → Gd G (miX8 true none) cX8_init 5 (rmN 3 31 50518) 31 50518 KR 363 [(0, .ref M), (1, .long n)] [.ref (M + 1), .ref M] (1, 64) S5) : Gd G (miX8 true none) cX8_init 5 (rmN 3 31 50518) 31 50518 KR 357 [(0, .ref M), (1, .long n)] [.ref (M + 1), .ref M] (1, 64) S4 := by
  refine Gd.of (ckX8 _ _) tX8_init_ok (cuts := lf 363 3) 10 ?_
  exact KI.go (i := 59) h (by decide) (by decide) (by decide) kk
theorem mk1_60 (h : KI G S M 1 64 KT 60 S4) (kk : ∀ S5, KI G S M 1 64 KT 61 S5 → Gd G (miX8 true none) cX8_init 5 (rmN 3 31 50518) 31 50518 KR 369 [(0, .ref M), (1, .long n)] [.ref (M + 1), .ref M] (1, 64) S5) : Gd G (miX8 true none) cX8_init 5 (rmN 3 31 50518) 31 50518 KR 363 [(0, .ref M), (1, .long n)] [.ref (M + 1), .ref M] (1, 64) S4 := by
  refine Gd.of (ckX8 _ _) tX8_init_ok (cuts := lf 369 3) 10 ?_
  exact KI.go (i := 60) h (by decide) (by decide) (by decide) kk
theorem mk1_61 (h : KI G S M 1 64 KT 61 S4) (kk : ∀ S5, KI G S M 1 64 KT 62 S5 → Gd G (miX8 true none) cX8_init 5 (rmN 3 31 50518) 31 50518 KR 375 [(0, .ref M), (1, .long n)] [.ref (M + 1), .ref M] (1, 64) S5) : Gd G (miX8 true none) cX8_init 5 (rmN 3 31 50518) 31 50518 KR 369 [(0, .ref M), (1, .long n)] [.ref (M + 1), .ref M] (1, 64) S4 := by
  refine Gd.of (ckX8 _ _) tX8_init_ok (cuts := lf 375 3) 10 ?_
  exact KI.go (i := 61) h (by decide) (by decide) (by decide) kk
theorem mk1_62 (h : KI G S M 1 64 KT 62 S4) (kk : ∀ S5, KI G S M 1 64 KT 63 S5 → Gd G (miX8 true none) cX8_init 5 (rmN 3 31 50518) 31 50518 KR 381 [(0, .ref M), (1, .long n)] [.ref (M + 1), .ref M] (1, 64) S5) : Gd G (miX8 true none) cX8_init 5 (rmN 3 31 50518) 31 50518 KR 375 [(0, .ref M), (1, .long n)] [.ref (M + 1), .ref M] (1, 64) S4 := by
  refine Gd.of (ckX8 _ _) tX8_init_ok (cuts := lf 381 3) 10 ?_
  exact KI.go (i := 62) h (by decide) (by decide) (by decide) kk
theorem mk1_63 (h : KI G S M 1 64 KT 63 S4) (kk : ∀ S5, KI G S M 1 64 KT 64 S5 → Gd G (miX8 true none) cX8_init 5 (rmN 3 31 50518) 31 50518 KR 387 [(0, .ref M), (1, .long n)] [.ref (M + 1), .ref M] (1, 64) S5) : Gd G (miX8 true none) cX8_init 5 (rmN 3 31 50518) 31 50518 KR 381 [(0, .ref M), (1, .long n)] [.ref (M + 1), .ref M] (1, 64) S4 := by
  refine Gd.of (ckX8 _ _) tX8_init_ok (cuts := lf 387 3) 10 ?_
  exact KI.go (i := 63) h (by decide) (by decide) (by decide) kk
theorem mk1_e (h : KI G S M 1 64 KT 64 S4) (kk : ∀ S5, MI G S M 1 S5 → Gd G (miX8 true none) cX8_init 5 (rmN 3 31 50518) 31 50518 KR 390 [(0, .ref M), (1, .long n)] [] (1, 64) S5) : Gd G (miX8 true none) cX8_init 5 (rmN 3 31 50518) 31 50518 KR 387 [(0, .ref M), (1, .long n)] [.ref (M + 1), .ref M] (1, 64) S4 := by
  have h3 : mAt G S4 M (.inr (8, obK M 0)) := by
    obtain ⟨f, h1, h2, h3, h4⟩ := h
    exact h3
  refine Gd.of (ckX8 _ _) tX8_init_ok (cuts := lf 390 3) 10 ?_
  refine ⟨Or.inr ⟨rfl, rfl, rfl⟩, ?_⟩
  refine eP.i h3 (Nat.le_of_ble_eq_true rfl) rfl rfl ?_
  exact kk _ (KI.fin (p := 1) h (by decide) rfl (fun f hf => ⟨fun _ => hf, fun z => absurd z (by decide), fun z => absurd z (by decide)⟩))
theorem mk2_b (h : MI G S M 1 S4) (kk : ∀ S5, KI G S M 2 8 IVT 0 S5 → Gd G (miX8 true none) cX8_init 5 (rmN 3 31 50518) 31 50518 KR 395 [(0, .ref M), (1, .long n)] [.ref (M + 2), .ref M] (2, 72) S5) : Gd G (miX8 true none) cX8_init 5 (rmN 3 31 50518) 31 50518 KR 390 [(0, .ref M), (1, .long n)] [] (1, 64) S4 := by
  have hs : S4.1 = M + 2 := h.1
  refine Gd.of (ckX8 _ _) tX8_init_ok (cuts := lf 395 3) 10 ?_
  refine ⟨by decide, by decide, ⟨Nat.le_of_ble_eq_true rfl, Nat.le_of_ble_eq_true rfl⟩, ?_⟩
  rw [hs]
  exact kk _ (KI.beg (p := 2) h (by decide))
theorem mk2_0 (h : KI G S M 2 8 IVT 0 S4) (kk : ∀ S5, KI G S M 2 8 IVT 1 S5 → Gd G (miX8 true none) cX8_init 5 (rmN 3 31 50518) 31 50518 KR 400 [(0, .ref M), (1, .long n)] [.ref (M + 2), .ref M] (2, 72) S5) : Gd G (miX8 true none) cX8_init 5 (rmN 3 31 50518) 31 50518 KR 395 [(0, .ref M), (1, .long n)] [.ref (M + 2), .ref M] (2, 72) S4 := by
  refine Gd.of (ckX8 _ _) tX8_init_ok (cuts := lf 400 3) 10 ?_
  exact KI.go (i := 0) h (by decide) (by decide) (by decide) kk
theorem mk2_1 (h : KI G S M 2 8 IVT 1 S4) (kk : ∀ S5, KI G S M 2 8 IVT 2 S5 → Gd G (miX8 true none) cX8_init 5 (rmN 3 31 50518) 31 50518 KR 405 [(0, .ref M), (1, .long n)] [.ref (M + 2), .ref M] (2, 72) S5) : Gd G (miX8 true none) cX8_init 5 (rmN 3 31 50518) 31 50518 KR 400 [(0, .ref M), (1, .long n)] [.ref (M + 2), .ref M] (2, 72) S4 := by
  refine Gd.of (ckX8 _ _) tX8_init_ok (cuts := lf 405 3) 10 ?_
  exact KI.go (i := 1) h (by decide) (by decide) (by decide) kk
theorem mk2_2 (h : KI G S M 2 8 IVT 2 S4) (kk : ∀ S5, KI G S M 2 8 IVT 3 S5 → Gd G (miX8 true none) cX8_init 5 (rmN 3 31 50518) 31 50518 KR 410 [(0, .ref M), (1, .long n)] [.ref (M + 2), .ref M] (2, 72) S5) : Gd G (miX8 true none) cX8_init 5 (rmN 3 31 50518) 31 50518 KR 405 [(0, .ref M), (1, .long n)] [.ref (M + 2), .ref M] (2, 72) S4 := by
  refine Gd.of (ckX8 _ _) tX8_init_ok (cuts := lf 410 3) 10 ?_
  exact KI.go (i := 2) h (by decide) (by decide) (by decide) kk
theorem mk2_3 (h : KI G S M 2 8 IVT 3 S4) (kk : ∀ S5, KI G S M 2 8 IVT 4 S5 → Gd G (miX8 true none) cX8_init 5 (rmN 3 31 50518) 31 50518 KR 415 [(0, .ref M), (1, .long n)] [.ref (M + 2), .ref M] (2, 72) S5) : Gd G (miX8 true none) cX8_init 5 (rmN 3 31 50518) 31 50518 KR 410 [(0, .ref M), (1, .long n)] [.ref (M + 2), .ref M] (2, 72) S4 := by
  refine Gd.of (ckX8 _ _) tX8_init_ok (cuts := lf 415 3) 10 ?_
  exact KI.go (i := 3) h (by decide) (by decide) (by decide) kk
theorem mk2_4 (h : KI G S M 2 8 IVT 4 S4) (kk : ∀ S5, KI G S M 2 8 IVT 5 S5 → Gd G (miX8 true none) cX8_init 5 (rmN 3 31 50518) 31 50518 KR 420 [(0, .ref M), (1, .long n)] [.ref (M + 2), .ref M] (2, 72) S5) : Gd G (miX8 true none) cX8_init 5 (rmN 3 31 50518) 31 50518 KR 415 [(0, .ref M), (1, .long n)] [.ref (M + 2), .ref M] (2, 72) S4 := by
  refine Gd.of (ckX8 _ _) tX8_init_ok (cuts := lf 420 3) 10 ?_
  exact KI.go (i := 4) h (by decide) (by decide) (by decide) kk
theorem mk2_5 (h : KI G S M 2 8 IVT 5 S4) (kk : ∀ S5, KI G S M 2 8 IVT 6 S5 → Gd G (miX8 true none) cX8_init 5 (rmN 3 31 50518) 31 50518 KR 425 [(0, .ref M), (1, .long n)] [.ref (M + 2), .ref M] (2, 72) S5) : Gd G (miX8 true none) cX8_init 5 (rmN 3 31 50518) 31 50518 KR 420 [(0, .ref M), (1, .long n)] [.ref (M + 2), .ref M] (2, 72) S4 := by
  refine Gd.of (ckX8 _ _) tX8_init_ok (cuts := lf 425 3) 10 ?_
  exact KI.go (i := 5) h (by decide) (by decide) (by decide) kk
theorem mk2_6 (h : KI G S M 2 8 IVT 6 S4) (kk : ∀ S5, KI G S M 2 8 IVT 7 S5 → Gd G (miX8 true none) cX8_init 5 (rmN 3 31 50518) 31 50518 KR 431 [(0, .ref M), (1, .long n)] [.ref (M + 2), .ref M] (2, 72) S5) : Gd G (miX8 true none) cX8_init 5 (rmN 3 31 50518) 31 50518 KR 425 [(0, .ref M), (1, .long n)] [.ref (M + 2), .ref M] (2, 72) S4 := by
  refine Gd.of (ckX8 _ _) tX8_init_ok (cuts := lf 431 3) 10 ?_
  exact KI.go (i := 6) h (by decide) (by decide) (by decide) kk
theorem mk2_7 (h : KI G S M 2 8 IVT 7 S4) (kk : ∀ S5, KI G S M 2 8 IVT 8 S5 → Gd G (miX8 true none) cX8_init 5 (rmN 3 31 50518) 31 50518 KR 437 [(0, .ref M), (1, .long n)] [.ref (M + 2), .ref M] (2, 72) S5) : Gd G (miX8 true none) cX8_init 5 (rmN 3 31 50518) 31 50518 KR 431 [(0, .ref M), (1, .long n)] [.ref (M + 2), .ref M] (2, 72) S4 := by
  refine Gd.of (ckX8 _ _) tX8_init_ok (cuts := lf 437 3) 10 ?_
  exact KI.go (i := 7) h (by decide) (by decide) (by decide) kk
theorem mk2_e (h : KI G S M 2 8 IVT 8 S4) (kk : ∀ S5, MI G S M 2 S5 → Gd G (miX8 true none) cX8_init 5 (rmN 3 31 50518) 31 50518 KR 440 [(0, .ref M), (1, .long n)] [] (2, 72) S5) : Gd G (miX8 true none) cX8_init 5 (rmN 3 31 50518) 31 50518 KR 437 [(0, .ref M), (1, .long n)] [.ref (M + 2), .ref M] (2, 72) S4 := by
  have h3 : mAt G S4 M (.inr (8, obK M 1)) := by
    obtain ⟨f, h1, h2, h3, h4⟩ := h
    exact h3
  refine Gd.of (ckX8 _ _) tX8_init_ok (cuts := lf 440 3) 10 ?_
  refine ⟨Or.inr ⟨rfl, rfl, rfl⟩, ?_⟩
  refine eP.i h3 (Nat.le_of_ble_eq_true rfl) rfl rfl ?_
  exact kk _ (KI.fin (p := 2) h (by decide) rfl (fun f hf => ⟨fun z => absurd z (by decide), fun _ => hf, fun z => absurd z (by decide)⟩))
theorem mk3 (h : MI G S M 2 S4) (kk : ∀ S5, MI G S M 3 S5 → Gd G (miX8 true none) cX8_init 5 (rmN 3 31 50518) 31 50518 KR 448 [(0, .ref M), (1, .long n)] [] (3, 136) S5) : Gd G (miX8 true none) cX8_init 5 (rmN 3 31 50518) 31 50518 KR 440 [(0, .ref M), (1, .long n)] [] (2, 72) S4 := by
  have hs : S4.1 = M + 3 := h.1
  have h3 : mAt G S4 M (.inr (8, obK M 2)) := h.2.2.1
  refine Gd.of (ckX8 _ _) tX8_init_ok (cuts := lf 448 3) 10 ?_
  refine ⟨by decide, by decide, ⟨Nat.le_of_ble_eq_true rfl, Nat.le_of_ble_eq_true rfl⟩, ?_⟩
  rw [hs]
  refine ⟨Or.inr ⟨rfl, rfl, rfl⟩, ?_⟩
  refine eP.i h3.old (Nat.le_of_ble_eq_true rfl) rfl rfl ?_
  exact kk _ (h.step (k := 2) (f := fun _ => 0) (mdP0 (by decide)))
theorem mk4 (h : MI G S M 3 S4) (kk : ∀ S5, MI G S M 4 S5 → Gd G (miX8 true none) cX8_init 5 (rmN 3 31 50518) 31 50518 KR 456 [(0, .ref M), (1, .long n)] [] (4, 144) S5) : Gd G (miX8 true none) cX8_init 5 (rmN 3 31 50518) 31 50518 KR 448 [(0, .ref M), (1, .long n)] [] (3, 136) S4 := by
  have hs : S4.1 = M + 4 := h.1
  have h3 : mAt G S4 M (.inr (8, obK M 3)) := h.2.2.1
  refine Gd.of (ckX8 _ _) tX8_init_ok (cuts := lf 456 3) 10 ?_
  refine ⟨by decide, by decide, ⟨Nat.le_of_ble_eq_true rfl, Nat.le_of_ble_eq_true rfl⟩, ?_⟩
  rw [hs]
  refine ⟨Or.inr ⟨rfl, rfl, rfl⟩, ?_⟩
  refine eP.i h3.old (Nat.le_of_ble_eq_true rfl) rfl rfl ?_
  exact kk _ (h.step (k := 3) (f := fun _ => 0) (mdP0 (by decide)))
theorem mk5 (h : MI G S M 4 S4) (kk : ∀ S5, MI G S M 5 S5 → Gd G (miX8 true none) cX8_init 5 (rmN 3 31 50518) 31 50518 KR 464 [(0, .ref M), (1, .long n)] [] (5, 152) S5) : Gd G (miX8 true none) cX8_init 5 (rmN 3 31 50518) 31 50518 KR 456 [(0, .ref M), (1, .long n)] [] (4, 144) S4 := by
  have hs : S4.1 = M + 5 := h.1
  have h3 : mAt G S4 M (.inr (8, obK M 4)) := h.2.2.1
  refine Gd.of (ckX8 _ _) tX8_init_ok (cuts := lf 464 3) 10 ?_
  refine ⟨by decide, by decide, ⟨Nat.le_of_ble_eq_true rfl, Nat.le_of_ble_eq_true rfl⟩, ?_⟩
  rw [hs]
  refine ⟨Or.inr ⟨rfl, rfl, rfl⟩, ?_⟩
  refine eP.i h3.old (Nat.le_of_ble_eq_true rfl) rfl rfl ?_
  exact kk _ (h.step (k := 4) (f := fun _ => 0) (mdP0 (by decide)))
theorem mk6 (h : MI G S M 5 S4) (kk : ∀ S5, MI G S M 6 S5 → Gd G (miX8 true none) cX8_init 5 (rmN 3 31 50518) 31 50518 KR 473 [(0, .ref M), (1, .long n)] [] (6, 920) S5) : Gd G (miX8 true none) cX8_init 5 (rmN 3 31 50518) 31 50518 KR 464 [(0, .ref M), (1, .long n)] [] (5, 152) S4 := by
  have hs : S4.1 = M + 6 := h.1
  have h3 : mAt G S4 M (.inr (8, obK M 5)) := h.2.2.1
  refine Gd.of (ckX8 _ _) tX8_init_ok (cuts := lf 473 3) 10 ?_
  refine ⟨by decide, by decide, ⟨Nat.le_of_ble_eq_true rfl, Nat.le_of_ble_eq_true rfl⟩, ?_⟩
  rw [hs]
  refine ⟨Or.inr ⟨rfl, rfl, rfl⟩, ?_⟩
  refine eP.i h3.old (Nat.le_of_ble_eq_true rfl) rfl rfl ?_
  exact kk _ (h.step (k := 5) (f := fun _ => 0) (mdP0 (by decide)))
theorem mk7 (h : MI G S M 6 S4) (kk : ∀ S5, MI G S M 7 S5 → Gd G (miX8 true none) cX8_init 5 (rmN 3 31 50518) 31 50518 KR 482 [(0, .ref M), (1, .long n)] [] (7, 1688) S5) : Gd G (miX8 true none) cX8_init 5 (rmN 3 31 50518) 31 50518 KR 473 [(0, .ref M), (1, .long n)] [] (6, 920) S4 := by
  have hs : S4.1 = M + 7 := h.1
  have h3 : mAt G S4 M (.inr (8, obK M 6)) := h.2.2.1
  refine Gd.of (ckX8 _ _) tX8_init_ok (cuts := lf 482 3) 10 ?_
  refine ⟨by decide, by decide, ⟨Nat.le_of_ble_eq_true rfl, Nat.le_of_ble_eq_true rfl⟩, ?_⟩
  rw [hs]
  refine ⟨Or.inr ⟨rfl, rfl, rfl⟩, ?_⟩
  refine eP.i h3.old (Nat.le_of_ble_eq_true rfl) rfl rfl ?_
  exact kk _ (h.step (k := 6) (f := fun _ => 0) (mdP0 (by decide)))
theorem mk8 (h : MI G S M 7 S4) (kk : ∀ S5, MI G S M 8 S5 → Gd G (miX8 true none) cX8_init 5 (rmN 3 31 50518) 31 50518 KR 491 [(0, .ref M), (1, .long n)] [] (8, 2328) S5) : Gd G (miX8 true none) cX8_init 5 (rmN 3 31 50518) 31 50518 KR 482 [(0, .ref M), (1, .long n)] [] (7, 1688) S4 := by
  have hs : S4.1 = M + 8 := h.1
  have h3 : mAt G S4 M (.inr (8, obK M 7)) := h.2.2.1
  refine Gd.of (ckX8 _ _) tX8_init_ok (cuts := lf 491 3) 10 ?_
  refine ⟨by decide, by decide, ⟨Nat.le_of_ble_eq_true rfl, Nat.le_of_ble_eq_true rfl⟩, ?_⟩
  rw [hs]
  refine ⟨Or.inr ⟨rfl, rfl, rfl⟩, ?_⟩
  refine eP.i h3.old (Nat.le_of_ble_eq_true rfl) rfl rfl ?_
  exact kk _ (h.step (k := 7) (f := fun _ => 0) (mdP0 (by decide)))
theorem mk9 (h : MI G S M 8 S4) (kk : ∀ S5, MI G S M 9 S5 → Gd G (miX8 true none) cX8_init 5 (rmN 3 31 50518) 31 50518 KR 499 [(0, .ref M), (1, .long n)] [] (9, 2336) S5) : Gd G (miX8 true none) cX8_init 5 (rmN 3 31 50518) 31 50518 KR 491 [(0, .ref M), (1, .long n)] [] (8, 2328) S4 := by
  have hs : S4.1 = M + 9 := h.1
  have h3 : mAt G S4 M (.inr (8, obK M 8)) := h.2.2.1
  refine Gd.of (ckX8 _ _) tX8_init_ok (cuts := lf 499 3) 10 ?_
  refine ⟨by decide, by decide, ⟨Nat.le_of_ble_eq_true rfl, Nat.le_of_ble_eq_true rfl⟩, ?_⟩
  rw [hs]
  refine ⟨Or.inr ⟨rfl, rfl, rfl⟩, ?_⟩
  refine eP.i h3.old (Nat.le_of_ble_eq_true rfl) rfl rfl ?_
  exact kk _ (h.step (k := 8) (f := fun _ => 0) (mdP0 (by decide)))
theorem mk10 (h : MI G S M 9 S4) (kk : ∀ S5, MI G S M 10 S5 → Gd G (miX8 true none) cX8_init 5 (rmN 3 31 50518) 31 50518 KR 507 [(0, .ref M), (1, .long n)] [] (10, 2368) S5) : Gd G (miX8 true none) cX8_init 5 (rmN 3 31 50518) 31 50518 KR 499 [(0, .ref M), (1, .long n)] [] (9, 2336) S4 := by
  have hs : S4.1 = M + 10 := h.1
  have h3 : mAt G S4 M (.inr (8, obK M 9)) := h.2.2.1
  refine Gd.of (ckX8 _ _) tX8_init_ok (cuts := lf 507 3) 10 ?_
  refine ⟨by decide, by decide, ⟨Nat.le_of_ble_eq_true rfl, Nat.le_of_ble_eq_true rfl⟩, ?_⟩
  rw [hs]
  refine ⟨Or.inr ⟨rfl, rfl, rfl⟩, ?_⟩
  refine eP.i h3.old (Nat.le_of_ble_eq_true rfl) rfl rfl ?_
  exact kk _ (h.step (k := 9) (f := fun _ => 0) (mdP0 (by decide)))
theorem mk11 (h : MI G S M 10 S4) (kk : ∀ S5, MI G S M 11 S5 → Gd G (miX8 true none) cX8_init 5 (rmN 3 31 50518) 31 50518 KR 516 [(0, .ref M), (1, .long n)] [] (11, 26368) S5) : Gd G (miX8 true none) cX8_init 5 (rmN 3 31 50518) 31 50518 KR 507 [(0, .ref M), (1, .long n)] [] (10, 2368) S4 := by
  have hs : S4.1 = M + 11 := h.1
  have h3 : mAt G S4 M (.inr (8, obK M 10)) := h.2.2.1
  refine Gd.of (ckX8 _ _) tX8_init_ok (cuts := lf 516 3) 10 ?_
  refine ⟨by decide, by decide, ⟨Nat.le_of_ble_eq_true rfl, Nat.le_of_ble_eq_true rfl⟩, ?_⟩
  rw [hs]
  refine ⟨Or.inr ⟨rfl, rfl, rfl⟩, ?_⟩
  refine eP.i h3.old (Nat.le_of_ble_eq_true rfl) rfl rfl ?_
  exact kk _ (h.step (k := 10) (f := fun _ => 0) (mdP0 (by decide)))
theorem mk12 (h : MI G S M 11 S4) (kk : ∀ S5, MI G S M 12 S5 → Gd G (miX8 true none) cX8_init 5 (rmN 3 31 50518) 31 50518 KR 524 [(0, .ref M), (1, .long n)] [] (12, 26428) S5) : Gd G (miX8 true none) cX8_init 5 (rmN 3 31 50518) 31 50518 KR 516 [(0, .ref M), (1, .long n)] [] (11, 26368) S4 := by
  have hs : S4.1 = M + 12 := h.1
  have h3 : mAt G S4 M (.inr (8, obK M 11)) := h.2.2.1
  refine Gd.of (ckX8 _ _) tX8_init_ok (cuts := lf 524 3) 10 ?_
  refine ⟨by decide, by decide, ⟨Nat.le_of_ble_eq_true rfl, Nat.le_of_ble_eq_true rfl⟩, ?_⟩
  rw [hs]
  refine ⟨Or.inr ⟨rfl, rfl, rfl⟩, ?_⟩
  refine eP.i h3.old (Nat.le_of_ble_eq_true rfl) rfl rfl ?_
  exact kk _ (h.step (k := 11) (f := fun _ => 0) (mdP0 (by decide)))
theorem mk13 (h : MI G S M 12 S4) (kk : ∀ S5, MI G S M 13 S5 → Gd G (miX8 true none) cX8_init 5 (rmN 3 31 50518) 31 50518 KR 532 [(0, .ref M), (1, .long n)] [] (13, 26488) S5) : Gd G (miX8 true none) cX8_init 5 (rmN 3 31 50518) 31 50518 KR 524 [(0, .ref M), (1, .long n)] [] (12, 26428) S4 := by
  have hs : S4.1 = M + 13 := h.1
  have h3 : mAt G S4 M (.inr (8, obK M 12)) := h.2.2.1
  refine Gd.of (ckX8 _ _) tX8_init_ok (cuts := lf 532 3) 10 ?_
  refine ⟨by decide, by decide, ⟨Nat.le_of_ble_eq_true rfl, Nat.le_of_ble_eq_true rfl⟩, ?_⟩
  rw [hs]
  refine ⟨Or.inr ⟨rfl, rfl, rfl⟩, ?_⟩
  refine eP.i h3.old (Nat.le_of_ble_eq_true rfl) rfl rfl ?_
  exact kk _ (h.step (k := 12) (f := fun _ => 0) (mdP0 (by decide)))
theorem mk14 (h : MI G S M 13 S4) (kk : ∀ S5, MI G S M 14 S5 → Gd G (miX8 true none) cX8_init 5 (rmN 3 31 50518) 31 50518 KR 540 [(0, .ref M), (1, .long n)] [] (14, 26520) S5) : Gd G (miX8 true none) cX8_init 5 (rmN 3 31 50518) 31 50518 KR 532 [(0, .ref M), (1, .long n)] [] (13, 26488) S4 := by
  have hs : S4.1 = M + 14 := h.1
  have h3 : mAt G S4 M (.inr (8, obK M 13)) := h.2.2.1
  refine Gd.of (ckX8 _ _) tX8_init_ok (cuts := lf 540 3) 10 ?_
  refine ⟨by decide, by decide, ⟨Nat.le_of_ble_eq_true rfl, Nat.le_of_ble_eq_true rfl⟩, ?_⟩
  rw [hs]
  refine ⟨Or.inr ⟨rfl, rfl, rfl⟩, ?_⟩
  refine eP.i h3.old (Nat.le_of_ble_eq_true rfl) rfl rfl ?_
  exact kk _ (h.step (k := 13) (f := fun _ => 0) (mdP0 (by decide)))
theorem mk15 (h : MI G S M 14 S4) (kk : ∀ S5, MI G S M 15 S5 → Gd G (miX8 true none) cX8_init 5 (rmN 3 31 50518) 31 50518 KR 548 [(0, .ref M), (1, .long n)] [] (15, 26552) S5) : Gd G (miX8 true none) cX8_init 5 (rmN 3 31 50518) 31 50518 KR 540 [(0, .ref M), (1, .long n)] [] (14, 26520) S4 := by
  have hs : S4.1 = M + 15 := h.1
  have h3 : mAt G S4 M (.inr (8, obK M 14)) := h.2.2.1
  refine Gd.of (ckX8 _ _) tX8_init_ok (cuts := lf 548 3) 10 ?_
  refine ⟨by decide, by decide, ⟨Nat.le_of_ble_eq_true rfl, Nat.le_of_ble_eq_true rfl⟩, ?_⟩
  rw [hs]
  refine ⟨Or.inr ⟨rfl, rfl, rfl⟩, ?_⟩
  refine eP.i h3.old (Nat.le_of_ble_eq_true rfl) rfl rfl ?_
  exact kk _ (h.step (k := 14) (f := fun _ => 0) (mdP0 (by decide)))
theorem mk16 (h : MI G S M 15 S4) (kk : ∀ S5, MI G S M 16 S5 → Gd G (miX8 true none) cX8_init 5 (rmN 3 31 50518) 31 50518 KR 557 [(0, .ref M), (1, .long n)] [] (16, 30152) S5) : Gd G (miX8 true none) cX8_init 5 (rmN 3 31 50518) 31 50518 KR 548 [(0, .ref M), (1, .long n)] [] (15, 26552) S4 := by
  have hs : S4.1 = M + 16 := h.1
  have h3 : mAt G S4 M (.inr (8, obK M 15)) := h.2.2.1
  refine Gd.of (ckX8 _ _) tX8_init_ok (cuts := lf 557 3) 10 ?_
  refine ⟨by decide, by decide, ⟨Nat.le_of_ble_eq_true rfl, Nat.le_of_ble_eq_true rfl⟩, ?_⟩
  rw [hs]
  refine ⟨Or.inr ⟨rfl, rfl, rfl⟩, ?_⟩
  refine eP.i h3.old (Nat.le_of_ble_eq_true rfl) rfl rfl ?_
  exact kk _ (h.step (k := 15) (f := fun _ => 0) (mdP0 (by decide)))
theorem mk17 (h : MI G S M 16 S4) (kk : ∀ S5, MI G S M 17 S5 → Gd G (miX8 true none) cX8_init 5 (rmN 3 31 50518) 31 50518 KR 566 [(0, .ref M), (1, .long n)] [] (17, 49352) S5) : Gd G (miX8 true none) cX8_init 5 (rmN 3 31 50518) 31 50518 KR 557 [(0, .ref M), (1, .long n)] [] (16, 30152) S4 := by
  have hs : S4.1 = M + 17 := h.1
  have h3 : mAt G S4 M (.inr (8, obK M 16)) := h.2.2.1
  refine Gd.of (ckX8 _ _) tX8_init_ok (cuts := lf 566 3) 10 ?_
  refine ⟨by decide, by decide, ⟨Nat.le_of_ble_eq_true rfl, Nat.le_of_ble_eq_true rfl⟩, ?_⟩
  rw [hs]
  refine ⟨Or.inr ⟨rfl, rfl, rfl⟩, ?_⟩
  refine eP.i h3.old (Nat.le_of_ble_eq_true rfl) rfl rfl ?_
  exact kk _ (h.step (k := 16) (f := fun _ => 0) (mdP0 (by decide)))
theorem mk18 (h : MI G S M 17 S4) (kk : ∀ S5, MI G S M 18 S5 → Gd G (miX8 true none) cX8_init 5 (rmN 3 31 50518) 31 50518 KR 573 [(0, .ref M), (1, .long n)] [] (18, 49356) S5) : Gd G (miX8 true none) cX8_init 5 (rmN 3 31 50518) 31 50518 KR 566 [(0, .ref M), (1, .long n)] [] (17, 49352) S4 := by
  have hs : S4.1 = M + 18 := h.1
  have h3 : mAt G S4 M (.inr (8, obK M 17)) := h.2.2.1
  refine Gd.of (ckX8 _ _) tX8_init_ok (cuts := lf 573 3) 10 ?_
  refine ⟨by decide, by decide, ⟨Nat.le_of_ble_eq_true rfl, Nat.le_of_ble_eq_true rfl⟩, ?_⟩
  rw [hs]
  refine ⟨Or.inr ⟨rfl, rfl, rfl⟩, ?_⟩
  refine eP.i h3.old (Nat.le_of_ble_eq_true rfl) rfl rfl ?_
  exact kk _ (h.step (k := 17) (f := fun _ => 0) (mdP0 (by decide)))
theorem mk19 (h : MI G S M 18 S4) (kk : ∀ S5, MI G S M 19 S5 → Gd G (miX8 true none) cX8_init 5 (rmN 3 31 50518) 31 50518 KR 580 [(0, .ref M), (1, .long n)] [] (19, 49360) S5) : Gd G (miX8 true none) cX8_init 5 (rmN 3 31 50518) 31 50518 KR 573 [(0, .ref M), (1, .long n)] [] (18, 49356) S4 := by
  have hs : S4.1 = M + 19 := h.1
  have h3 : mAt G S4 M (.inr (8, obK M 18)) := h.2.2.1
  refine Gd.of (ckX8 _ _) tX8_init_ok (cuts := lf 580 3) 10 ?_
  refine ⟨by decide, by decide, ⟨Nat.le_of_ble_eq_true rfl, Nat.le_of_ble_eq_true rfl⟩, ?_⟩
  rw [hs]
  refine ⟨Or.inr ⟨rfl, rfl, rfl⟩, ?_⟩
  refine eP.i h3.old (Nat.le_of_ble_eq_true rfl) rfl rfl ?_
  exact kk _ (h.step (k := 18) (f := fun _ => 0) (mdP0 (by decide)))
theorem mk20 (h : MI G S M 19 S4) (kk : ∀ S5, MI G S M 20 S5 → Gd G (miX8 true none) cX8_init 5 (rmN 3 31 50518) 31 50518 KR 587 [(0, .ref M), (1, .long n)] [] (20, 49364) S5) : Gd G (miX8 true none) cX8_init 5 (rmN 3 31 50518) 31 50518 KR 580 [(0, .ref M), (1, .long n)] [] (19, 49360) S4 := by
  have hs : S4.1 = M + 20 := h.1
  have h3 : mAt G S4 M (.inr (8, obK M 19)) := h.2.2.1
  refine Gd.of (ckX8 _ _) tX8_init_ok (cuts := lf 587 3) 10 ?_
  refine ⟨by decide, by decide, ⟨Nat.le_of_ble_eq_true rfl, Nat.le_of_ble_eq_true rfl⟩, ?_⟩
  rw [hs]
  refine ⟨Or.inr ⟨rfl, rfl, rfl⟩, ?_⟩
  refine eP.i h3.old (Nat.le_of_ble_eq_true rfl) rfl rfl ?_
  exact kk _ (h.step (k := 19) (f := fun _ => 0) (mdP0 (by decide)))
theorem mk21 (h : MI G S M 20 S4) (kk : ∀ S5, MI G S M 21 S5 → Gd G (miX8 true none) cX8_init 5 (rmN 3 31 50518) 31 50518 KR 594 [(0, .ref M), (1, .long n)] [] (21, 49368) S5) : Gd G (miX8 true none) cX8_init 5 (rmN 3 31 50518) 31 50518 KR 587 [(0, .ref M), (1, .long n)] [] (20, 49364) S4 := by
  have hs : S4.1 = M + 21 := h.1
  have h3 : mAt G S4 M (.inr (8, obK M 20)) := h.2.2.1
  refine Gd.of (ckX8 _ _) tX8_init_ok (cuts := lf 594 3) 10 ?_
  refine ⟨by decide, by decide, ⟨Nat.le_of_ble_eq_true rfl, Nat.le_of_ble_eq_true rfl⟩, ?_⟩
  rw [hs]
  refine ⟨Or.inr ⟨rfl, rfl, rfl⟩, ?_⟩
  refine eP.i h3.old (Nat.le_of_ble_eq_true rfl) rfl rfl ?_
  exact kk _ (h.step (k := 20) (f := fun _ => 0) (mdP0 (by decide)))
theorem mk22 (h : MI G S M 21 S4) (kk : ∀ S5, MI G S M 22 S5 → Gd G (miX8 true none) cX8_init 5 (rmN 3 31 50518) 31 50518 KR 601 [(0, .ref M), (1, .long n)] [] (22, 49372) S5) : Gd G (miX8 true none) cX8_init 5 (rmN 3 31 50518) 31 50518 KR 594 [(0, .ref M), (1, .long n)] [] (21, 49368) S4 := by
  have hs : S4.1 = M + 22 := h.1
  have h3 : mAt G S4 M (.inr (8, obK M 21)) := h.2.2.1
  refine Gd.of (ckX8 _ _) tX8_init_ok (cuts := lf 601 3) 10 ?_
  refine ⟨by decide, by decide, ⟨Nat.le_of_ble_eq_true rfl, Nat.le_of_ble_eq_true rfl⟩, ?_⟩
  rw [hs]
  refine ⟨Or.inr ⟨rfl, rfl, rfl⟩, ?_⟩
  refine eP.i h3.old (Nat.le_of_ble_eq_true rfl) rfl rfl ?_
  exact kk _ (h.step (k := 21) (f := fun _ => 0) (mdP0 (by decide)))
theorem mk23 (h : MI G S M 22 S4) (kk : ∀ S5, MI G S M 23 S5 → Gd G (miX8 true none) cX8_init 5 (rmN 3 31 50518) 31 50518 KR 609 [(0, .ref M), (1, .long n)] [] (23, 49420) S5) : Gd G (miX8 true none) cX8_init 5 (rmN 3 31 50518) 31 50518 KR 601 [(0, .ref M), (1, .long n)] [] (22, 49372) S4 := by
  have hs : S4.1 = M + 23 := h.1
  have h3 : mAt G S4 M (.inr (8, obK M 22)) := h.2.2.1
  refine Gd.of (ckX8 _ _) tX8_init_ok (cuts := lf 609 3) 10 ?_
  refine ⟨by decide, by decide, ⟨Nat.le_of_ble_eq_true rfl, Nat.le_of_ble_eq_true rfl⟩, ?_⟩
  rw [hs]
  refine ⟨Or.inr ⟨rfl, rfl, rfl⟩, ?_⟩
  refine eP.i h3.old (Nat.le_of_ble_eq_true rfl) rfl rfl ?_
  exact kk _ (h.step (k := 22) (f := fun _ => 0) (mdP0 (by decide)))
theorem mk24 (h : MI G S M 23 S4) (kk : ∀ S5, MI G S M 24 S5 → Gd G (miX8 true none) cX8_init 5 (rmN 3 31 50518) 31 50518 KR 617 [(0, .ref M), (1, .long n)] [] (24, 49468) S5) : Gd G (miX8 true none) cX8_init 5 (rmN 3 31 50518) 31 50518 KR 609 [(0, .ref M), (1, .long n)] [] (23, 49420) S4 := by
  have hs : S4.1 = M + 24 := h.1
  have h3 : mAt G S4 M (.inr (8, obK M 23)) := h.2.2.1
  refine Gd.of (ckX8 _ _) tX8_init_ok (cuts := lf 617 3) 10 ?_
  refine ⟨by decide, by decide, ⟨Nat.le_of_ble_eq_true rfl, Nat.le_of_ble_eq_true rfl⟩, ?_⟩
  rw [hs]
  refine ⟨Or.inr ⟨rfl, rfl, rfl⟩, ?_⟩
  refine eP.i h3.old (Nat.le_of_ble_eq_true rfl) rfl rfl ?_
  exact kk _ (h.step (k := 23) (f := fun _ => 0) (mdP0 (by decide)))
theorem mk25 (h : MI G S M 24 S4) (kk : ∀ S5, MI G S M 25 S5 → Gd G (miX8 true none) cX8_init 5 (rmN 3 31 50518) 31 50518 KR 625 [(0, .ref M), (1, .long n)] [] (25, 49548) S5) : Gd G (miX8 true none) cX8_init 5 (rmN 3 31 50518) 31 50518 KR 617 [(0, .ref M), (1, .long n)] [] (24, 49468) S4 := by
  have hs : S4.1 = M + 25 := h.1
  have h3 : mAt G S4 M (.inr (8, obK M 24)) := h.2.2.1
  refine Gd.of (ckX8 _ _) tX8_init_ok (cuts := lf 625 3) 10 ?_
  refine ⟨by decide, by decide, ⟨Nat.le_of_ble_eq_true rfl, Nat.le_of_ble_eq_true rfl⟩, ?_⟩
  rw [hs]
  refine ⟨Or.inr ⟨rfl, rfl, rfl⟩, ?_⟩
  refine eP.i h3.old (Nat.le_of_ble_eq_true rfl) rfl rfl ?_
  exact kk _ (h.step (k := 24) (f := fun _ => 0) (mdP0 (by decide)))
theorem mk26 (h : MI G S M 25 S4) (kk : ∀ S5, MI G S M 26 S5 → Gd G (miX8 true none) cX8_init 5 (rmN 3 31 50518) 31 50518 KR 633 [(0, .ref M), (1, .long n)] [] (26, 49628) S5) : Gd G (miX8 true none) cX8_init 5 (rmN 3 31 50518) 31 50518 KR 625 [(0, .ref M), (1, .long n)] [] (25, 49548) S4 := by
  have hs : S4.1 = M + 26 := h.1
  have h3 : mAt G S4 M (.inr (8, obK M 25)) := h.2.2.1
  refine Gd.of (ckX8 _ _) tX8_init_ok (cuts := lf 633 3) 10 ?_
  refine ⟨by decide, by decide, ⟨Nat.le_of_ble_eq_true rfl, Nat.le_of_ble_eq_true rfl⟩, ?_⟩
  rw [hs]
  refine ⟨Or.inr ⟨rfl, rfl, rfl⟩, ?_⟩
  refine eP.i h3.old (Nat.le_of_ble_eq_true rfl) rfl rfl ?_
  exact kk _ (h.step (k := 25) (f := fun _ => 0) (mdP0 (by decide)))
theorem mk27 (h : MI G S M 26 S4) (kk : ∀ S5, MI G S M 27 S5 → Gd G (miX8 true none) cX8_init 5 (rmN 3 31 50518) 31 50518 KR 641 [(0, .ref M), (1, .long n)] [] (27, 49708) S5) : Gd G (miX8 true none) cX8_init 5 (rmN 3 31 50518) 31 50518 KR 633 [(0, .ref M), (1, .long n)] [] (26, 49628) S4 := by
  have hs : S4.1 = M + 27 := h.1
  have h3 : mAt G S4 M (.inr (8, obK M 26)) := h.2.2.1
  refine Gd.of (ckX8 _ _) tX8_init_ok (cuts := lf 641 3) 10 ?_
  refine ⟨by decide, by decide, ⟨Nat.le_of_ble_eq_true rfl, Nat.le_of_ble_eq_true rfl⟩, ?_⟩
  rw [hs]
  refine ⟨Or.inr ⟨rfl, rfl, rfl⟩, ?_⟩
  refine eP.i h3.old (Nat.le_of_ble_eq_true rfl) rfl rfl ?_
  exact kk _ (h.step (k := 26) (f := fun _ => 0) (mdP0 (by decide)))
theorem mk28 (h : MI G S M 27 S4) (kk : ∀ S5, MI G S M 28 S5 → Gd G (miX8 true none) cX8_init 5 (rmN 3 31 50518) 31 50518 KR 649 [(0, .ref M), (1, .long n)] [] (28, 49788) S5) : Gd G (miX8 true none) cX8_init 5 (rmN 3 31 50518) 31 50518 KR 641 [(0, .ref M), (1, .long n)] [] (27, 49708) S4 := by
  have hs : S4.1 = M + 28 := h.1
  have h3 : mAt G S4 M (.inr (8, obK M 27)) := h.2.2.1
  refine Gd.of (ckX8 _ _) tX8_init_ok (cuts := lf 649 3) 10 ?_
  refine ⟨by decide, by decide, ⟨Nat.le_of_ble_eq_true rfl, Nat.le_of_ble_eq_true rfl⟩, ?_⟩
  rw [hs]
  refine ⟨Or.inr ⟨rfl, rfl, rfl⟩, ?_⟩
  refine eP.i h3.old (Nat.le_of_ble_eq_true rfl) rfl rfl ?_
  exact kk _ (h.step (k := 27) (f := fun _ => 0) (mdP0 (by decide)))
theorem mk29 (h : MI G S M 28 S4) (kk : ∀ S5, MI G S M 29 S5 → Gd G (miX8 true none) cX8_init 5 (rmN 3 31 50518) 31 50518 KR 658 [(0, .ref M), (1, .long n)] [] (29, 50428) S5) : Gd G (miX8 true none) cX8_init 5 (rmN 3 31 50518) 31 50518 KR 649 [(0, .ref M), (1, .long n)] [] (28, 49788) S4 := by
  have hs : S4.1 = M + 29 := h.1
  have h3 : mAt G S4 M (.inr (8, obK M 28)) := h.2.2.1
  refine Gd.of (ckX8 _ _) tX8_init_ok (cuts := lf 658 3) 10 ?_
  refine ⟨by decide, by decide, ⟨Nat.le_of_ble_eq_true rfl, Nat.le_of_ble_eq_true rfl⟩, ?_⟩
  rw [hs]
  refine ⟨Or.inr ⟨rfl, rfl, rfl⟩, ?_⟩
  refine eP.i h3.old (Nat.le_of_ble_eq_true rfl) rfl rfl ?_
  exact kk _ (h.step (k := 28) (f := fun _ => 0) (mdP0 (by decide)))
theorem mk30 (h : MI G S M 29 S4) (kk : ∀ S5, MI G S M 30 S5 → Gd G (miX8 true none) cX8_init 5 (rmN 3 31 50518) 31 50518 KR 666 [(0, .ref M), (1, .long n)] [] (30, 50473) S5) : Gd G (miX8 true none) cX8_init 5 (rmN 3 31 50518) 31 50518 KR 658 [(0, .ref M), (1, .long n)] [] (29, 50428) S4 := by
  have hs : S4.1 = M + 30 := h.1
  have h3 : mAt G S4 M (.inr (8, obK M 29)) := h.2.2.1
  refine Gd.of (ckX8 _ _) tX8_init_ok (cuts := lf 666 3) 10 ?_
  refine ⟨by decide, by decide, ⟨Nat.le_of_ble_eq_true rfl, Nat.le_of_ble_eq_true rfl⟩, ?_⟩
  rw [hs]
  refine ⟨Or.inr ⟨rfl, rfl, rfl⟩, ?_⟩
  refine eP.i h3.old (Nat.le_of_ble_eq_true rfl) rfl rfl ?_
  exact kk _ (h.step (k := 29) (f := fun _ => 0) (mdP0 (by decide)))
theorem mk31 (h : MI G S M 30 S4) (kk : ∀ S5, MI G S M 31 S5 → Gd G (miX8 true none) cX8_init 5 (rmN 3 31 50518) 31 50518 KR 674 [(0, .ref M), (1, .long n)] [] (31, 50518) S5) : Gd G (miX8 true none) cX8_init 5 (rmN 3 31 50518) 31 50518 KR 666 [(0, .ref M), (1, .long n)] [] (30, 50473) S4 := by
  have hs : S4.1 = M + 31 := h.1
  have h3 : mAt G S4 M (.inr (8, obK M 30)) := h.2.2.1
  refine Gd.of (ckX8 _ _) tX8_init_ok (cuts := lf 674 3) 10 ?_
  refine ⟨by decide, by decide, ⟨Nat.le_of_ble_eq_true rfl, Nat.le_of_ble_eq_true rfl⟩, ?_⟩
  rw [hs]
  refine ⟨Or.inr ⟨rfl, rfl, rfl⟩, ?_⟩
  refine eP.i h3.old (Nat.le_of_ble_eq_true rfl) rfl rfl ?_
  exact kk _ (h.step (k := 30) (f := fun _ => 0) (mdP0 (by decide)))
set_option maxRecDepth 4000 in
theorem mk_all (h : MI G S M 0 S4) (kk : ∀ S5, MI G S M 31 S5 → Gd G (miX8 true none) cX8_init 5 (rmN 3 31 50518) 31 50518 KR 674 [(0, .ref M), (1, .long n)] [] (31, 50518) S5) : Gd G (miX8 true none) cX8_init 5 (rmN 3 31 50518) 31 50518 KR 4 [(0, .ref M), (1, .long n)] [] (0, 0) S4 := by
  refine mk1_b h fun S5 h5 => ?_
  refine mk1_0 h5 fun S5 h5 => ?_
  refine mk1_1 h5 fun S5 h5 => ?_
  refine mk1_2 h5 fun S5 h5 => ?_
  refine mk1_3 h5 fun S5 h5 => ?_
  refine mk1_4 h5 fun S5 h5 => ?_
  refine mk1_5 h5 fun S5 h5 => ?_
  refine mk1_6 h5 fun S5 h5 => ?_
  refine mk1_7 h5 fun S5 h5 => ?_
  refine mk1_8 h5 fun S5 h5 => ?_
  refine mk1_9 h5 fun S5 h5 => ?_
  refine mk1_10 h5 fun S5 h5 => ?_
  refine mk1_11 h5 fun S5 h5 => ?_
  refine mk1_12 h5 fun S5 h5 => ?_
  refine mk1_13 h5 fun S5 h5 => ?_
  refine mk1_14 h5 fun S5 h5 => ?_
  refine mk1_15 h5 fun S5 h5 => ?_
  refine mk1_16 h5 fun S5 h5 => ?_
  refine mk1_17 h5 fun S5 h5 => ?_
  refine mk1_18 h5 fun S5 h5 => ?_
  refine mk1_19 h5 fun S5 h5 => ?_
  refine mk1_20 h5 fun S5 h5 => ?_
  refine mk1_21 h5 fun S5 h5 => ?_
  refine mk1_22 h5 fun S5 h5 => ?_
  refine mk1_23 h5 fun S5 h5 => ?_
  refine mk1_24 h5 fun S5 h5 => ?_
  refine mk1_25 h5 fun S5 h5 => ?_
  refine mk1_26 h5 fun S5 h5 => ?_
  refine mk1_27 h5 fun S5 h5 => ?_
  refine mk1_28 h5 fun S5 h5 => ?_
  refine mk1_29 h5 fun S5 h5 => ?_
  refine mk1_30 h5 fun S5 h5 => ?_
  refine mk1_31 h5 fun S5 h5 => ?_
  refine mk1_32 h5 fun S5 h5 => ?_
  refine mk1_33 h5 fun S5 h5 => ?_
  refine mk1_34 h5 fun S5 h5 => ?_
  refine mk1_35 h5 fun S5 h5 => ?_
  refine mk1_36 h5 fun S5 h5 => ?_
  refine mk1_37 h5 fun S5 h5 => ?_
  refine mk1_38 h5 fun S5 h5 => ?_
  refine mk1_39 h5 fun S5 h5 => ?_
  refine mk1_40 h5 fun S5 h5 => ?_
  refine mk1_41 h5 fun S5 h5 => ?_
  refine mk1_42 h5 fun S5 h5 => ?_
  refine mk1_43 h5 fun S5 h5 => ?_
  refine mk1_44 h5 fun S5 h5 => ?_
  refine mk1_45 h5 fun S5 h5 => ?_
  refine mk1_46 h5 fun S5 h5 => ?_
  refine mk1_47 h5 fun S5 h5 => ?_
  refine mk1_48 h5 fun S5 h5 => ?_
  refine mk1_49 h5 fun S5 h5 => ?_
  refine mk1_50 h5 fun S5 h5 => ?_
  refine mk1_51 h5 fun S5 h5 => ?_
  refine mk1_52 h5 fun S5 h5 => ?_
  refine mk1_53 h5 fun S5 h5 => ?_
  refine mk1_54 h5 fun S5 h5 => ?_
  refine mk1_55 h5 fun S5 h5 => ?_
  refine mk1_56 h5 fun S5 h5 => ?_
  refine mk1_57 h5 fun S5 h5 => ?_
  refine mk1_58 h5 fun S5 h5 => ?_
  refine mk1_59 h5 fun S5 h5 => ?_
  refine mk1_60 h5 fun S5 h5 => ?_
  refine mk1_61 h5 fun S5 h5 => ?_
  refine mk1_62 h5 fun S5 h5 => ?_
  refine mk1_63 h5 fun S5 h5 => ?_
  refine mk1_e h5 fun S5 h5 => ?_
  refine mk2_b h5 fun S5 h5 => ?_
  refine mk2_0 h5 fun S5 h5 => ?_
  refine mk2_1 h5 fun S5 h5 => ?_
  refine mk2_2 h5 fun S5 h5 => ?_
  refine mk2_3 h5 fun S5 h5 => ?_
  refine mk2_4 h5 fun S5 h5 => ?_
  refine mk2_5 h5 fun S5 h5 => ?_
  refine mk2_6 h5 fun S5 h5 => ?_
  refine mk2_7 h5 fun S5 h5 => ?_
  refine mk2_e h5 fun S5 h5 => ?_
  refine mk3 h5 fun S5 h5 => ?_
  refine mk4 h5 fun S5 h5 => ?_
  refine mk5 h5 fun S5 h5 => ?_
  refine mk6 h5 fun S5 h5 => ?_
  refine mk7 h5 fun S5 h5 => ?_
  refine mk8 h5 fun S5 h5 => ?_
  refine mk9 h5 fun S5 h5 => ?_
  refine mk10 h5 fun S5 h5 => ?_
  refine mk11 h5 fun S5 h5 => ?_
  refine mk12 h5 fun S5 h5 => ?_
  refine mk13 h5 fun S5 h5 => ?_
  refine mk14 h5 fun S5 h5 => ?_
  refine mk15 h5 fun S5 h5 => ?_
  refine mk16 h5 fun S5 h5 => ?_
  refine mk17 h5 fun S5 h5 => ?_
  refine mk18 h5 fun S5 h5 => ?_
  refine mk19 h5 fun S5 h5 => ?_
  refine mk20 h5 fun S5 h5 => ?_
  refine mk21 h5 fun S5 h5 => ?_
  refine mk22 h5 fun S5 h5 => ?_
  refine mk23 h5 fun S5 h5 => ?_
  refine mk24 h5 fun S5 h5 => ?_
  refine mk25 h5 fun S5 h5 => ?_
  refine mk26 h5 fun S5 h5 => ?_
  refine mk27 h5 fun S5 h5 => ?_
  refine mk28 h5 fun S5 h5 => ?_
  refine mk29 h5 fun S5 h5 => ?_
  refine mk30 h5 fun S5 h5 => ?_
  refine mk31 h5 fun S5 h5 => ?_
  exact kk _ h5
end MIN
