/-! the constructors of Sha and View -/
section NEC
variable {G : mG} {S S' S1 S2 : mS} {a b q n cap k : Nat} {e e' : va_E} {l : List Int32}
theorem c_Sha_init (h : mAt G S a (.inr (5, mDef 5))) (hs : S.1 = a + 1) :
    mCon G yX5_init cX5_init 1 none (rmN 3 6 812) [.ref a] S (fun v S' => v = none ∧ nw S S' a 7 ∧ Sha G S' a [] []) := by
  have h : mAt G S a (.inr (5, [.null, .null, .null, .null])) := h
  have hm : mb G ≤ a := h.1
  have k39 : ∀ S7 : mS, S7.1 = a + 6 → kb S S7 a → mAt G S7 a (.inr (5, [.ref (a + 1), .ref (a + 3), .ref (a + 5), .null])) → Rl G S7 (a + 1) 704 [] → Rl G S7 (a + 3) 32 [] → mAt G S7 (a + 5) (eIn G 64 (fun _ => 0)) →
      Gd G (miX5 true none) cX5_init 1 (rmN 3 6 812) 6 812 (fun v S' => v = none ∧ nw S S' a 7 ∧ Sha G S' a [] []) 39 [(0, .ref a)] [] (5, 804) S7 := by
    intro S7 s7 k7 h7 r17 r37 w7
    refine Gd.of (ckX5 _ _) tX5_init_ok (cuts := lf 18 1) 40 ?_
    refine ⟨by decide, by decide, ⟨Nat.le_of_ble_eq_true rfl, Nat.le_of_ble_eq_true rfl⟩, ?_⟩
    rw [s7]
    refine ⟨by first | exact Or.inl rfl | exact Or.inr ⟨rfl, rfl, rfl⟩, ?_⟩
    refine eP.i (h7.old) (Nat.le_of_ble_eq_true rfl) rfl rfl ?_
    exact ⟨⟨Nat.le_of_ble_eq_true rfl, Nat.le_of_ble_eq_true rfl⟩, rfl, rfl, ⟨by show S7.1 + 1 = _; omega, k7.tr ((kb.push (by omega)).tr (kb.up (Nat.le_refl _)))⟩, h7.old.up, r17.old.fr fr.up1 (by omega) (by omega), r37.old.fr fr.up1 (by omega) (by omega), ⟨_, w7.old.ne (by omega)⟩, ⟨_, (mAt.new s7 (by omega)).ne (by omega)⟩⟩
  have k47 : ∀ S6 : mS, S6.1 = a + 5 → kb S S6 a → mAt G S6 a (.inr (5, [.ref (a + 1), .ref (a + 3), .null, .null])) → Rl G S6 (a + 1) 704 [] → Rl G S6 (a + 3) 32 [] →
      Gd G (miX5 true none) cX5_init 1 (rmN 3 6 812) 6 812 (fun v S' => v = none ∧ nw S S' a 7 ∧ Sha G S' a [] []) 31 [(0, .ref a)] [] (4, 740) S6 := by
    intro S6 s6 k6 h6 r1 r3
    refine Gd.of (ckX5 _ _) tX5_init_ok (cuts := lf 39 1) 40 ?_
    refine ⟨by decide, by decide, ⟨Nat.le_of_ble_eq_true rfl, Nat.le_of_ble_eq_true rfl⟩, ?_⟩
    rw [s6]
    refine ⟨by first | exact Or.inl rfl | exact Or.inr ⟨rfl, rfl, rfl⟩, ?_⟩
    refine eP.i (h6.old) (Nat.le_of_ble_eq_true rfl) rfl rfl ?_
    exact k39 _ (by show S6.1 + 1 = _; omega) (k6.tr ((kb.push (by omega)).tr (kb.up (Nat.le_refl _)))) h6.old.up (r1.old.fr fr.up1 (by omega) (by omega)) (r3.old.fr fr.up1 (by omega) (by omega)) ((mAt.new s6 (by omega)).ne (by omega))
  have k18 : ∀ S3 : mS, S3.1 = a + 3 → kb S S3 a → mAt G S3 a (.inr (5, [.ref (a + 1), .null, .null, .null])) → Rl G S3 (a + 1) 704 [] →
      Gd G (miX5 true none) cX5_init 1 (rmN 3 6 812) 6 812 (fun v S' => v = none ∧ nw S S' a 7 ∧ Sha G S' a [] []) 18 [(0, .ref a)] [] (2, 706) S3 := by
    intro S3 s3 k3 h3 r1
    refine Gd.of (ckX5 _ _) tX5_init_ok (cuts := lf 31 1) 40 ?_
    refine ⟨by decide, ⟨by have z := mNs; dsimp only [rmN]; omega, by have z := mNs; dsimp only [rmN]; omega⟩, ?_⟩
    rw [s3]
    refine ⟨Nat.le_of_ble_eq_true rfl, ?_⟩
    refine eC.i (c_Row_init (cap := 32) (mAt.new s3 (by omega)) (by show S3.1 + 1 = _; omega) (by omega) (by omega)) ⟨Nat.le_of_ble_eq_true rfl, Nat.le_of_ble_eq_true rfl⟩ ⟨by have z := mNs; dsimp only [rmN]; omega, by have z := mNs; dsimp only [rmN]; omega⟩ (fun v S4 hk => ?_)
    obtain ⟨rfl, n4, r4⟩ := hk
    have n41 := n4.1
    have h4 := h3.old.kb n4.2 (by omega) (by omega)
    refine ⟨by first | exact Or.inl rfl | exact Or.inr ⟨rfl, rfl, rfl⟩, ?_⟩
    refine eP.i (h4) (Nat.le_of_ble_eq_true rfl) rfl rfl ?_
    exact k47 _ (by show S4.1 = _; omega) ((k3.tr ((kb.push (by omega)).tr (n4.2.mono (by omega)))).tr (kb.up (Nat.le_refl _))) h4.up ((r1.old.kb n4.2 (by omega) (by omega)).fr fr.up1 (by omega) (by omega)) (r4.fr fr.up1 (by omega) (by omega))
  refine mCon.of (I := miX5 true none) (by decide) rfl rfl (fun _ => rfl) (fun _ => rfl) (Nat.le_of_ble_eq_true rfl) ?_
  show Gd _ _ _ _ _ _ _ _ 0 [(0, .ref a)] [] (0, 0) _
  refine Gd.of (ckX5 _ _) tX5_init_ok (cuts := lf 18 1) 40 ?_
  refine ⟨Nat.le_of_ble_eq_true rfl, ⟨Nat.le_of_ble_eq_true rfl, Nat.le_of_ble_eq_true rfl⟩, ?_⟩
  refine ⟨by decide, ⟨by have z := mNs; dsimp only [rmN]; omega, by have z := mNs; dsimp only [rmN]; omega⟩, ?_⟩
  rw [hs]
  refine ⟨Nat.le_of_ble_eq_true rfl, ?_⟩
  refine eC.i (c_Row_init (cap := 704) (mAt.new hs (by omega)) (by show S.1 + 1 = _; omega) (by omega) (by omega)) ⟨Nat.le_of_ble_eq_true rfl, Nat.le_of_ble_eq_true rfl⟩ ⟨by have z := mNs; dsimp only [rmN]; omega, by have z := mNs; dsimp only [rmN]; omega⟩ (fun v S2 hk => ?_)
  obtain ⟨rfl, n2, r2⟩ := hk
  have n1 := n2.1
  have h2 := h.old.kb n2.2 (Nat.lt_succ_self a) (by omega)
  refine ⟨by first | exact Or.inl rfl | exact Or.inr ⟨rfl, rfl, rfl⟩, ?_⟩
  refine eP.i (h2) (Nat.le_of_ble_eq_true rfl) rfl rfl ?_
  exact k18 _ (by show S2.1 = _; omega) (((kb.push (by omega)).tr (n2.2.mono (by omega))).tr (kb.up (Nat.le_refl _))) h2.up (r2.fr fr.up1 (by omega) (by omega))
def vS : Nat → Nat
  | 0 => 87
  | i + 1 => vS i + 2 + 80 / 2 ^ i * 32
theorem vS_le : ∀ i, i < 7 → vS i + 2 + 80 / 2 ^ i * 32 ≤ 5157 ∧ (80 >>> (nI i &&& 31)) * 32 = nI (80 / 2 ^ i * 32) ∧ 80 / 2 ^ i * 32 < 30000 := by decide
theorem c_View_init {vals : Nat → Int32} (h : mAt G S a (.inr (6, mDef 6))) (hs : S.1 = a + 1) :
    mCon G yX6_init cX6_init 2 none (rmN 3 16 5157) [.ref a] S (fun v S' => v = none ∧ nw S S' a 17 ∧ Vw G S' a vals 0) := by
  have h : mAt G S a (.inr (6, [.null, .null, .int 0])) := h
  have hm : mb G ≤ a := h.1
  have key : ∀ (d i : Nat) (x : Int32) (c1 c2 : Nat) (f : Nat → Option Nat) (S4 : mS), i + d = 7 → x = nI i → c1 = 2 + 2 * i → c2 = vS i → S4.1 = a + 3 + 2 * i → kb S S4 a → mAt G S4 a (.inr (6, [.ref (a + 1), .ref (a + 2), .int 0])) → mAt G S4 (a + 1) (eIn G 80 (fun _ => 0)) → mAt G S4 (a + 2) (eRf G 2 7 f) → (∀ l, l < i → f l = some (a + 3 + 2 * l)) → (∀ l, l < i → Rl G S4 (a + 3 + 2 * l) (80 / 2 ^ l * 32) []) →
      Gd G (miX6 true none) cX6_init 2 (rmN 3 16 5157) 16 5157 (fun v S' => v = none ∧ nw S S' a 17 ∧ Vw G S' a vals 0) 23 [(0, .ref a), (1, .int x)] [] (c1, c2) S4 := by
    intro d
    induction d with
    | zero =>
      intro i x c1 c2 f S4 hi hx hc1 hc2 s4 k4 h4 w4 q4 hf hr
      subst hx hc1 hc2
      have ei : i = 7 := by omega
      subst ei
      refine Gd.of (ckX6 _ _) tX6_init_ok (cuts := lf 23 2) 40 ?_
      refine eB.t (by decide) ?_
      refine ⟨by first | exact Or.inl rfl | exact Or.inr ⟨rfl, rfl, rfl⟩, ?_⟩
      refine eP.i (h4) (Nat.le_of_ble_eq_true rfl) rfl rfl ?_
      refine ⟨⟨Nat.le_of_ble_eq_true rfl, Nat.le_of_ble_eq_true rfl⟩, rfl, rfl, ⟨by show S4.1 = _; omega, k4.tr (kb.up (Nat.le_refl _))⟩, h4.up, ⟨_, w4.ne (by omega), fun j hj => absurd hj (Nat.not_lt_zero j)⟩, ⟨f, q4.ne (by omega), hf⟩, Nat.zero_le _, fun l hl => ?_⟩
      rw [show (0 / 2 ^ l) = 0 from Nat.zero_div _]
      exact (hr l hl).fr fr.up1 (by omega) (by omega)
    | succ d ih =>
      intro i x c1 c2 f S4 hi hx hc1 hc2 s4 k4 h4 w4 q4 hf hr
      subst hx hc1 hc2
      obtain ⟨v1, v2, v3⟩ := vS_le i (by omega)
      refine Gd.of (ckX6 _ _) tX6_init_ok (cuts := lf 23 2) 40 ?_
      refine eB.f (by rw [show (7 : Int32) = nI 7 from rfl, nI_leI (by omega) (by omega)]; omega) ?_
      refine eG.i h4 rfl ?_
      refine ⟨by decide, ⟨by have z := mNs; dsimp only [rmN]; omega, by have z := mNs; dsimp only [rmN]; omega⟩, ?_⟩
      rw [s4]
      have hc := c_Row_init (cap := 80 / 2 ^ i * 32) (mAt.new (e := .inr (4, mDef 4)) s4 (show mb G ≤ _ by omega)) (by show S4.1 + 1 = _; omega) (by omega) v3
      rw [← v2] at hc
      refine ⟨Nat.le_of_ble_eq_true rfl, ?_⟩
      refine eC.i (hc) ⟨Nat.le_of_ble_eq_true rfl, Nat.le_of_ble_eq_true rfl⟩ ⟨by have z := mNs; dsimp only [rmN]; omega, by have z := mNs; dsimp only [rmN]; omega⟩ (fun v S5 hk => ?_)
      obtain ⟨rfl, n5, r5⟩ := hk
      have n51 := n5.1
      have q5 := q4.old.kb n5.2 (by omega) (by omega)
      refine eSq.i (i := nI i) rfl q5 r5.obj (vp_in_nI (by omega) (by omega)) ?_
      rw [nI_clamp (by omega)]
      refine ih (i + 1) _ _ _ (va_up f i (some (a + 3 + 2 * i))) _ (by omega) (nI_1 i) (by dsimp only [rmN]; omega) (by show vS i + mN 4 + _ = _; rfl) (by show S5.1 = _; omega) ((k4.tr ((kb.push (by omega)).tr (n5.2.mono (by omega)))).tr (kb.up (by omega))) ((h4.old.kb n5.2 (by omega) (by omega)).ne (by omega)) ((w4.old.kb n5.2 (by omega) (by omega)).ne (by omega)) q5.up (fun l hl => ?_) (fun l hl => ?_)
      · by_cases e : l = i
        · rw [e, up_s]
        · rw [up_n e]; exact hf l (by omega)
      · by_cases e : l = i
        · rw [e]; exact r5.fr fr.up1 (by omega) (by omega)
        · exact ((hr l (by omega)).old.kb n5.2 (by omega) (by omega)).fr fr.up1 (by omega) (by omega)
  have k12 : ∀ S2 : mS, S2.1 = a + 2 → kb S S2 a → mAt G S2 a (.inr (6, [.ref (a + 1), .null, .int 0])) → mAt G S2 (a + 1) (eIn G 80 (fun _ => 0)) →
      Gd G (miX6 true none) cX6_init 2 (rmN 3 16 5157) 16 5157 (fun v S' => v = none ∧ nw S S' a 17 ∧ Vw G S' a vals 0) 12 [(0, .ref a)] [] (1, 80) S2 := by
    intro S2 s2 k2 h2 w2
    refine Gd.of (ckX6 _ _) tX6_init_ok (cuts := lf 23 2) 40 ?_
    refine ⟨by decide, by decide, by decide, ⟨Nat.le_of_ble_eq_true rfl, Nat.le_of_ble_eq_true rfl⟩, ?_⟩
    rw [s2]
    refine ⟨by first | exact Or.inl rfl | exact Or.inr ⟨rfl, rfl, rfl⟩, ?_⟩
    refine eP.i (h2.old) (Nat.le_of_ble_eq_true rfl) rfl rfl ?_
    exact key 7 0 _ _ _ (fun _ => none) _ (by omega) rfl rfl rfl (by show S2.1 + 1 = _; omega) (k2.tr ((kb.push (by omega)).tr (kb.up (Nat.le_refl _)))) h2.old.up (w2.old.ne (by omega)) ((mAt.new s2 (by omega)).ne (by omega)) (fun l hl => absurd hl (Nat.not_lt_zero l)) (fun l hl => absurd hl (Nat.not_lt_zero l))
  refine mCon.of (I := miX6 true none) (by decide) rfl rfl (fun _ => rfl) (fun _ => rfl) (Nat.le_of_ble_eq_true rfl) ?_
  show Gd _ _ _ _ _ _ _ _ 0 [(0, .ref a)] [] (0, 0) _
  refine Gd.of (ckX6 _ _) tX6_init_ok (cuts := lf 12 1) 40 ?_
  refine ⟨Nat.le_of_ble_eq_true rfl, ⟨Nat.le_of_ble_eq_true rfl, Nat.le_of_ble_eq_true rfl⟩, ?_⟩
  refine ⟨by decide, by decide, ⟨Nat.le_of_ble_eq_true rfl, Nat.le_of_ble_eq_true rfl⟩, ?_⟩
  rw [hs]
  refine ⟨by first | exact Or.inl rfl | exact Or.inr ⟨rfl, rfl, rfl⟩, ?_⟩
  refine eP.i (h.old) (Nat.le_of_ble_eq_true rfl) rfl rfl ?_
  exact k12 _ (by show S.1 + 1 = _; omega) ((kb.push (by omega)).tr (kb.up (Nat.le_refl _))) h.old.up ((mAt.new hs (by omega)).ne (by omega))
end NEC
