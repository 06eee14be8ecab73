/-! what is made anew: everything below stays -/
def rmN (d c s : Nat) : Room := { frames := d, cells := c, slots := s, locals := 70 * d }
def kb (S S' : mS) (a : Nat) : Prop := ∀ q, q < a → S'.2 q = S.2 q
def nw (S S' : mS) (a n : Nat) : Prop := S'.1 = a + n ∧ kb S S' a
theorem mNs : mN 0 = 2 ∧ mN 1 = 1 ∧ mN 2 = 2 ∧ mN 3 = 9 ∧ mN 4 = 2 ∧ mN 5 = 4 ∧ mN 6 = 3 ∧ mN 7 = 9 ∧ mN 8 = 35 := ⟨rfl, rfl, rfl, rfl, rfl, rfl, rfl, rfl, rfl⟩
section NEW
variable {G : mG} {S S' S1 S2 : mS} {a b q n cap k : Nat} {e e' : va_E} {l : List Int32}
theorem kb.rf : kb S S a := fun _ _ => rfl
theorem kb.tr (h : kb S S1 a) (g : kb S1 S2 a) : kb S S2 a := fun q hq => (g q hq).trans (h q hq)
theorem kb.mono (h : kb S S1 b) (hb : a ≤ b) : kb S S1 a := fun q hq => h q (by omega)
theorem kb.push (h : a ≤ S.1) : kb S (mPush S e) a := fun q hq => up_n (by omega)
theorem kb.up (h : a ≤ b) : kb S (mUp S b e) a := fun q hq => up_n (by omega)
theorem kb.fr {X : Nat → Prop} (f : fr S S' X) (hx : ∀ q, q < a → ¬ X q) : kb S S' a := fun q hq => f.2 q (hx q hq)
theorem mAt.kb (h : mAt G S q e) (g : kb S S' b) (hq : q < b) (hb : b ≤ S'.1) : mAt G S' q e := ⟨h.1, by omega, (g q hq).trans h.2.2⟩
theorem mAt.new (hS : S.1 = a) (hb : mb G ≤ a) : mAt G (mPush S e) a e := ⟨hb, by show a < S.1 + 1; omega, by show va_up S.2 S.1 e a = e; rw [hS, up_s]⟩
theorem mAt.old (h : mAt G S q e') : mAt G (mPush S e) q e' := ⟨h.1, Nat.lt_succ_of_lt h.2.1, (up_n (Nat.ne_of_lt h.2.1)).trans h.2.2⟩
theorem Rl.kb (h : Rl G S a cap l) (g : kb S S' b) (hq : a + 1 < b) (hb : b ≤ S'.1) : Rl G S' a cap l := by
  obtain ⟨f, h1, h2, h3⟩ := h
  exact ⟨f, h1.kb g (by omega) hb, h2.kb g hq hb, h3⟩
theorem Rl.old (h : Rl G S a cap l) : Rl G (mPush S e) a cap l := by
  obtain ⟨f, h1, h2, h3⟩ := h
  exact ⟨f, h1.old, h2.old, h3⟩
theorem c_Row_init (h : mAt G S a (.inr (4, mDef 4))) (hs : S.1 = a + 1) (hc : cap < 1000000) (hc : cap < 30000) :
    mCon G yX4_init cX4_init 2 none (rmN 2 1 cap) [.ref a, .int (nI cap)] S (fun v S' => v = none ∧ nw S S' a 2 ∧ Rl G S' a cap []) := by
  have h : mAt G S a (.inr (4, [.null, .int 0])) := h
  have hm : mb G ≤ a := h.1
  have e0 : (if nI cap < 0 then (0 : Int32) else nI cap) = nI cap := if_neg (by rw [show (0 : Int32) = nI 0 from rfl, nI_ltI (by omega) (by omega)]; omega)
  have ecl : (nI cap).toNatClampNeg = cap := nI_clamp (by omega)
  refine mCon.of (I := miX4 true none) (by decide) rfl rfl (fun _ => rfl) (fun _ => rfl) (Nat.le_of_ble_eq_true rfl) ?_
  show Gd _ _ _ _ _ _ _ _ 0 [(0, .ref a), (1, .int (nI cap))] [] (0, 0) _
  refine Gd.of (ckX4 _ _) tX4_init_ok (cuts := fun _ => none) 40 ?_
  refine ⟨Nat.le_of_ble_eq_true rfl, ⟨Nat.le_of_ble_eq_true rfl, Nat.le_of_ble_eq_true rfl⟩, ?_⟩
  refine ⟨Nat.le_of_ble_eq_true rfl, ⟨Nat.le_of_ble_eq_true rfl, Nat.le_of_ble_eq_true rfl, Nat.zero_le _, Nat.zero_le _⟩, ?_⟩
  rw [e0]
  refine ⟨by rw [show (0 : Int32) = nI 0 from rfl, nI_ltI (by omega) (by omega)]; omega, by omega, ⟨Nat.le_of_ble_eq_true rfl, by rw [ecl]; dsimp only [rmN]; omega⟩, ?_⟩
  rw [ecl, hs]
  refine ⟨by first | exact Or.inl rfl | exact Or.inr ⟨rfl, rfl, rfl⟩, ?_⟩
  refine eP.i (h.old) (Nat.le_of_ble_eq_true rfl) rfl rfl ?_
  refine ⟨by first | exact Or.inl rfl | exact Or.inr ⟨rfl, rfl, rfl⟩, ?_⟩
  refine eP.i (h.old.up) (Nat.le_of_ble_eq_true rfl) rfl rfl ?_
  refine ⟨⟨Nat.le_refl _, by show 0 + cap ≤ cap; omega⟩, rfl, rfl, ⟨by show S.1 + 1 = a + 2; omega, ((kb.push (by omega)).tr (kb.up (Nat.le_refl _))).tr (kb.up (Nat.le_refl _))⟩, fun _ => 0, h.old.up.up, ((mAt.new hs (by omega)).ne (by omega)).ne (by omega), Nat.zero_le _, by omega, fun _ => isB_0, fun j hj => absurd hj (Nat.not_lt_zero j)⟩
theorem c_Lett_init (h : mAt G S a (.inr (2, mDef 2))) (hs : S.1 = a + 1) :
    mCon G yX2_init cX2_init 1 none (rmN 3 2 299) [.ref a] S (fun v S' => v = none ∧ nw S S' a 3 ∧ Lt G S' a 0 []) := by
  have h : mAt G S a (.inr (2, [.null, .int 0])) := h
  have hm : mb G ≤ a := h.1
  refine mCon.of (I := miX2 true none) (by decide) rfl rfl (fun _ => rfl) (fun _ => rfl) (Nat.le_of_ble_eq_true rfl) ?_
  show Gd _ _ _ _ _ _ _ _ 0 [(0, .ref a)] [] (0, 0) _
  refine Gd.of (ckX2 _ _) tX2_init_ok (cuts := fun _ => none) 40 ?_
  refine ⟨Nat.le_of_ble_eq_true rfl, ⟨Nat.le_of_ble_eq_true rfl, Nat.le_of_ble_eq_true rfl⟩, ?_⟩
  refine ⟨by decide, ⟨by have z := mNs; dsimp only [rmN]; omega, by have z := mNs; dsimp only [rmN]; omega⟩, ?_⟩
  rw [hs]
  refine ⟨Nat.le_of_ble_eq_true rfl, ?_⟩
  refine eC.i (c_Row_init (cap := 297) (mAt.new hs (by omega)) (by show S.1 + 1 = _; omega) (by omega) (by omega)) ⟨Nat.le_of_ble_eq_true rfl, Nat.le_of_ble_eq_true rfl⟩ ⟨by have z := mNs; dsimp only [rmN]; omega, by have z := mNs; dsimp only [rmN]; omega⟩ (fun v S2 hk => ?_)
  obtain ⟨rfl, n2, r2⟩ := hk
  have n1 := n2.1
  have k2 : kb S S2 a := (kb.push (by omega)).tr (n2.2.mono (by omega))
  have h2 := h.old.kb n2.2 (Nat.lt_succ_self a) (by omega)
  refine ⟨by first | exact Or.inl rfl | exact Or.inr ⟨rfl, rfl, rfl⟩, ?_⟩
  refine eP.i (h2) (Nat.le_of_ble_eq_true rfl) rfl rfl ?_
  exact ⟨⟨Nat.le_of_ble_eq_true rfl, Nat.le_of_ble_eq_true rfl⟩, rfl, rfl, ⟨by show S2.1 = _; omega, k2.tr (kb.up (Nat.le_refl _))⟩, h2.up, r2.fr fr.up1 (by omega) (by omega)⟩
theorem c_Keys_init (h : mAt G S a (.inr (1, mDef 1))) (hs : S.1 = a + 1) :
    mCon G yX1_init cX1_init 1 none (rmN 3 2 34) [.ref a] S (fun v S' => v = none ∧ nw S S' a 3 ∧ mAt G S' a (.inr (1, [.ref (a + 1)])) ∧ Rl G S' (a + 1) 32 []) := by
  have h : mAt G S a (.inr (1, [.null])) := h
  have hm : mb G ≤ a := h.1
  refine mCon.of (I := miX1 true none) (by decide) rfl rfl (fun _ => rfl) (fun _ => rfl) (Nat.le_of_ble_eq_true rfl) ?_
  show Gd _ _ _ _ _ _ _ _ 0 [(0, .ref a)] [] (0, 0) _
  refine Gd.of (ckX1 _ _) tX1_init_ok (cuts := fun _ => none) 40 ?_
  refine ⟨Nat.le_of_ble_eq_true rfl, ⟨Nat.le_of_ble_eq_true rfl, Nat.le_of_ble_eq_true rfl⟩, ?_⟩
  refine ⟨by decide, ⟨by have z := mNs; dsimp only [rmN]; omega, by have z := mNs; dsimp only [rmN]; omega⟩, ?_⟩
  rw [hs]
  refine ⟨Nat.le_of_ble_eq_true rfl, ?_⟩
  refine eC.i (c_Row_init (cap := 32) (mAt.new hs (by omega)) (by show S.1 + 1 = _; omega) (by omega) (by omega)) ⟨Nat.le_of_ble_eq_true rfl, Nat.le_of_ble_eq_true rfl⟩ ⟨by have z := mNs; dsimp only [rmN]; omega, by have z := mNs; dsimp only [rmN]; omega⟩ (fun v S2 hk => ?_)
  obtain ⟨rfl, n2, r2⟩ := hk
  have n1 := n2.1
  have k2 : kb S S2 a := (kb.push (by omega)).tr (n2.2.mono (by omega))
  have h2 := h.old.kb n2.2 (Nat.lt_succ_self a) (by omega)
  refine ⟨by first | exact Or.inl rfl | exact Or.inr ⟨rfl, rfl, rfl⟩, ?_⟩
  refine eP.i (h2) (Nat.le_of_ble_eq_true rfl) rfl rfl ?_
  exact ⟨⟨Nat.le_of_ble_eq_true rfl, Nat.le_of_ble_eq_true rfl⟩, rfl, rfl, ⟨by show S2.1 = _; omega, k2.tr (kb.up (Nat.le_refl _))⟩, h2.up, r2.fr fr.up1 (by omega) (by omega)⟩
theorem c_Climb_init (h : mAt G S a (.inr (0, mDef 0))) (hs : S.1 = a + 1) :
    mCon G yX0_init cX0_init 1 none (rmN 3 4 68) [.ref a] S (fun v S' => v = none ∧ nw S S' a 5 ∧ Cb G S' a [] []) := by
  have h : mAt G S a (.inr (0, [.null, .null])) := h
  have hm : mb G ≤ a := h.1
  have k17 : ∀ S3 : mS, S3.1 = a + 3 → kb S S3 a → mAt G S3 a (.inr (0, [.ref (a + 1), .null])) → Rl G S3 (a + 1) 32 [] →
      Gd G (miX0 true none) cX0_init 1 (rmN 3 4 68) 4 68 (fun v S' => v = none ∧ nw S S' a 5 ∧ Cb G S' a [] []) 17 [(0, .ref a)] [] (2, 34) S3 := by
    intro S3 s3 k3 h3 r1
    refine Gd.of (ckX0 _ _) tX0_init_ok (cuts := fun _ => none) 40 ?_
    refine ⟨by decide, ⟨by have z := mNs; dsimp only [rmN]; omega, by have z := mNs; dsimp only [rmN]; omega⟩, ?_⟩
    rw [s3]
    refine ⟨Nat.le_of_ble_eq_true rfl, ?_⟩
    refine eC.i (c_Row_init (cap := 32) (mAt.new s3 (by omega)) (by show S3.1 + 1 = _; omega) (by omega) (by omega)) ⟨Nat.le_of_ble_eq_true rfl, Nat.le_of_ble_eq_true rfl⟩ ⟨by have z := mNs; dsimp only [rmN]; omega, by have z := mNs; dsimp only [rmN]; omega⟩ (fun v S4 hk => ?_)
    obtain ⟨rfl, n4, r4⟩ := hk
    have n41 := n4.1
    have h4 := h3.old.kb n4.2 (by omega) (by omega)
    refine ⟨by first | exact Or.inl rfl | exact Or.inr ⟨rfl, rfl, rfl⟩, ?_⟩
    refine eP.i (h4) (Nat.le_of_ble_eq_true rfl) rfl rfl ?_
    exact ⟨⟨Nat.le_of_ble_eq_true rfl, Nat.le_of_ble_eq_true rfl⟩, rfl, rfl, ⟨by show S4.1 = _; omega, (k3.tr ((kb.push (by omega)).tr (n4.2.mono (by omega)))).tr (kb.up (Nat.le_refl _))⟩, h4.up, (r1.old.kb n4.2 (by omega) (by omega)).fr fr.up1 (by omega) (by omega), r4.fr fr.up1 (by omega) (by omega)⟩
  refine mCon.of (I := miX0 true none) (by decide) rfl rfl (fun _ => rfl) (fun _ => rfl) (Nat.le_of_ble_eq_true rfl) ?_
  show Gd _ _ _ _ _ _ _ _ 0 [(0, .ref a)] [] (0, 0) _
  refine Gd.of (ckX0 _ _) tX0_init_ok (cuts := lf 17 1) 40 ?_
  refine ⟨Nat.le_of_ble_eq_true rfl, ⟨Nat.le_of_ble_eq_true rfl, Nat.le_of_ble_eq_true rfl⟩, ?_⟩
  refine ⟨by decide, ⟨by have z := mNs; dsimp only [rmN]; omega, by have z := mNs; dsimp only [rmN]; omega⟩, ?_⟩
  rw [hs]
  refine ⟨Nat.le_of_ble_eq_true rfl, ?_⟩
  refine eC.i (c_Row_init (cap := 32) (mAt.new hs (by omega)) (by show S.1 + 1 = _; omega) (by omega) (by omega)) ⟨Nat.le_of_ble_eq_true rfl, Nat.le_of_ble_eq_true rfl⟩ ⟨by have z := mNs; dsimp only [rmN]; omega, by have z := mNs; dsimp only [rmN]; omega⟩ (fun v S2 hk => ?_)
  obtain ⟨rfl, n2, r2⟩ := hk
  have n1 := n2.1
  have k2 : kb S S2 a := (kb.push (by omega)).tr (n2.2.mono (by omega))
  have h2 := h.old.kb n2.2 (Nat.lt_succ_self a) (by omega)
  refine ⟨by first | exact Or.inl rfl | exact Or.inr ⟨rfl, rfl, rfl⟩, ?_⟩
  refine eP.i (h2) (Nat.le_of_ble_eq_true rfl) rfl rfl ?_
  exact k17 _ (by show S2.1 = _; omega) (k2.tr (kb.up (Nat.le_refl _))) h2.up (r2.fr fr.up1 (by omega) (by omega))
end NEW
