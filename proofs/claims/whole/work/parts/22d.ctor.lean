/-! the constructor of Monitor -/
theorem w_mna : Cond.classLink RX3 24 ("[" ++ (FieldType.array .int).toString) ∈ mT := mT_in (by decide +kernel) rfl
section NED
variable {G : mG} {S S' S1 S2 : mS} {a b q n cap k : Nat} {e e' : va_E} {l : List Int32}
theorem Gd.mna {R : Room} {mc ms : Nat} {KR : Option Value → mS → Prop} {lv : mL} {rest : List Value} {c1 c2 : Nat} (h1 : c1 + 21 ≤ R.cells) (h2 : c2 + 100 ≤ R.slots)
    (kk : Gd G (miX3 true none) cX3_init 2 R mc ms KR 38 lv (.ref S.1 :: rest) (c1 + 21, c2 + 100) (mMu G S 20)) : Gd G (miX3 true none) cX3_init 2 R mc ms KR 34 lv (.int 4 :: .int 20 :: rest) (c1, c2) S := by
  intro p l e s m args below meth c X ls H locs hl hr hL
  obtain ⟨hx, hb, hml, hown, hts, hK, hret, hlk, hin, hcn⟩ := X
  refine r_mna hx hb (own := RX3) (index := 24) hown (hts _ w_mna) hK.2.2.2.2.2.2 (hts _ acI) hK.1 hr hL h1 h2 (by decide +kernel) (fun H1 locs1 hL1 hr1 => ?_)
  exact kk p l e s m args below meth c ⟨hx, hb, hml, hown, hts, hK, hret, hlk, hin, hcn⟩ ls H1 locs1 hl hr1 hL1
def mnC : Nat → Option Nat := nd 40 (lf 34 1) (nd 60 (lf 43 2) (lf 72 2))
set_option maxHeartbeats 1000000 in
theorem c_Mon_init (h : mAt G S a (.inr (3, mDef 3))) (hs : S.1 = a + 1) :
    mCon G yX3_init cX3_init 2 none (rmN 3 88 4672) [.ref a] S (fun v S' => v = none ∧ nw S S' a 89 ∧ MnS G S' a ((0, 0, 0, 0, 0), fun _ => [], fun _ => [], fun _ => 0, fun _ _ => 0)) := by
  have h : mAt G S a (.inr (3, [.null, .null, .null, .null, .int 0, .int 0, .int 0, .int 0, .int 0])) := h
  have hm : mb G ≤ a := h.1
  have k72 : ∀ (d i : Nat) (x : Int32) (c1 c2 : Nat) (f g : Nat → Option Nat) (S4 : mS), i + d = 12 → x = nI i → c1 = 64 + 2 * i → c2 = 1084 + 299 * i → S4.1 = a + 65 + 2 * i → kb S S4 a → mAt G S4 a (.inr (3, [.ref (a + 1), .ref (a + 2), .ref (a + 3), .ref (a + 4), .int 0, .int 0, .int 0, .int 0, .int 0])) → mAt G S4 (a + 1) (eRf G 2 20 g) → (∀ i, i < 20 → g i = some (a + 25 + 2 * i)) → mAt G S4 (a + 2) (eRf G 2 12 f) → mAt G S4 (a + 3) (eIn G 12 (fun _ => 0)) → mAt G S4 (a + 4) (eRf G 6 20 (muF (a + 4) 20)) → (∀ j, j < 20 → mAt G S4 (a + 5 + j) (eIn G 4 (fun _ => 0))) → (∀ l, l < 20 → Rl G S4 (a + 25 + 2 * l) 45 []) → (∀ l, l < i → f l = some (a + 65 + 2 * l)) → (∀ l, l < i → Rl G S4 (a + 65 + 2 * l) 297 []) →
      Gd G (miX3 true none) cX3_init 2 (rmN 3 88 4672) 88 4672 (fun v S' => v = none ∧ nw S S' a 89 ∧ MnS G S' a ((0, 0, 0, 0, 0), fun _ => [], fun _ => [], fun _ => 0, fun _ _ => 0)) 72 [(0, .ref a), (1, .int x)] [] (c1, c2) S4 := by
    intro d
    induction d with
    | zero =>
      intro i x c1 c2 f g S4 hi hx hc1 hc2 s4 k4 h4 w4 w4' q4 w3 w5 w6 w7 hf hr
      subst hx hc1 hc2
      have ei : i = 12 := by omega
      subst ei
      refine Gd.of (ckX3 _ _) tX3_init_ok (cuts := mnC) 40 ?_
      refine eB.t (by decide) ?_
      refine ⟨⟨Nat.le_of_ble_eq_true rfl, Nat.le_of_ble_eq_true rfl⟩, rfl, rfl, ⟨by show S4.1 = _; omega, k4⟩, fun _ _ => 0, fun i hi => absurd hi (Nat.not_lt_zero i), h4, ⟨g, w4, w4'⟩, ⟨f, q4, hf⟩, w3, ⟨_, w5, fun i hi => ?_⟩, w6, w7, hr, Nat.zero_le _, Nat.zero_le _, Nat.zero_le _⟩
      show (if i < 20 then some (a + 4 + 1 + i) else none) = _
      rw [if_pos hi]
    | succ d ih =>
      intro i x c1 c2 f g S4 hi hx hc1 hc2 s4 k4 h4 w4 w4' q4 w3 w5 w6 w7 hf hr
      subst hx hc1 hc2
      refine Gd.of (ckX3 _ _) tX3_init_ok (cuts := mnC) 40 ?_
      refine eB.f (by rw [show (12 : Int32) = nI 12 from rfl, nI_leI (by omega) (by omega)]; omega) ?_
      refine eG.i h4 rfl ?_
      refine ⟨by decide, ⟨by have z := mNs; dsimp only [rmN]; omega, by have z := mNs; dsimp only [rmN]; omega⟩, ?_⟩
      rw [s4]
      refine ⟨Nat.le_of_ble_eq_true rfl, ?_⟩
      refine eC.i (c_Row_init (cap := 297) (mAt.new s4 (by omega)) (by show S4.1 + 1 = _; omega) (by omega) (by omega)) ⟨Nat.le_of_ble_eq_true rfl, Nat.le_of_ble_eq_true rfl⟩ ⟨by have z := mNs; dsimp only [rmN]; omega, by have z := mNs; dsimp only [rmN]; omega⟩ (fun v S5 hk => ?_)
      obtain ⟨rfl, n5, r5⟩ := hk
      have n51 := n5.1
      have q5 := q4.old.kb n5.2 (by omega) (by omega)
      refine eSq.i (i := nI i) rfl q5 r5.obj (vp_in_nI (by omega) (by omega)) ?_
      rw [nI_clamp (by omega)]
      refine ih (i + 1) _ _ _ (va_up f i (some (a + 65 + 2 * i))) g _ (by omega) (nI_1 i) (by dsimp only [rmN]; omega) (by have z := mNs; dsimp only [rmN]; omega) (by show S5.1 = _; omega) ((k4.tr ((kb.push (by omega)).tr (n5.2.mono (by omega)))).tr (kb.up (by omega))) ((h4.old.kb n5.2 (by omega) (by omega)).ne (by omega)) ((w4.old.kb n5.2 (by omega) (by omega)).ne (by omega)) w4' q5.up ((w3.old.kb n5.2 (by omega) (by omega)).ne (by omega)) ((w5.old.kb n5.2 (by omega) (by omega)).ne (by omega)) (fun j hj => ((w6 j hj).old.kb n5.2 (by omega) (by omega)).ne (by omega)) (fun j hj => ((w7 j hj).old.kb n5.2 (by omega) (by omega)).fr fr.up1 (by omega) (by omega)) (fun l hl => ?_) (fun l hl => ?_)
      · by_cases e : l = i
        · rw [e, up_s]
        · rw [up_n e]; exact hf l (by omega)
      · by_cases e : l = i
        · rw [e]; exact r5.fr fr.up1 (by omega) (by omega)
        · exact ((hr l (by omega)).old.kb n5.2 (by omega) (by omega)).fr fr.up1 (by omega) (by omega)
  have k43 : ∀ (d i : Nat) (x : Int32) (c1 c2 : Nat) (f : Nat → Option Nat) (S4 : mS), i + d = 20 → x = nI i → c1 = 24 + 2 * i → c2 = 144 + 47 * i → S4.1 = a + 25 + 2 * i → kb S S4 a → mAt G S4 a (.inr (3, [.ref (a + 1), .ref (a + 2), .ref (a + 3), .ref (a + 4), .int 0, .int 0, .int 0, .int 0, .int 0])) → mAt G S4 (a + 1) (eRf G 2 20 f) → mAt G S4 (a + 2) (eRf G 2 12 (fun _ => none)) → mAt G S4 (a + 3) (eIn G 12 (fun _ => 0)) → mAt G S4 (a + 4) (eRf G 6 20 (muF (a + 4) 20)) → (∀ j, j < 20 → mAt G S4 (a + 5 + j) (eIn G 4 (fun _ => 0))) → (∀ l, l < i → f l = some (a + 25 + 2 * l)) → (∀ l, l < i → Rl G S4 (a + 25 + 2 * l) 45 []) →
      Gd G (miX3 true none) cX3_init 2 (rmN 3 88 4672) 88 4672 (fun v S' => v = none ∧ nw S S' a 89 ∧ MnS G S' a ((0, 0, 0, 0, 0), fun _ => [], fun _ => [], fun _ => 0, fun _ _ => 0)) 43 [(0, .ref a), (1, .int x)] [] (c1, c2) S4 := by
    intro d
    induction d with
    | zero =>
      intro i x c1 c2 f S4 hi hx hc1 hc2 s4 k4 h4 q4 w4 w3 w5 w6 hf hr
      subst hx hc1 hc2
      have ei : i = 20 := by omega
      subst ei
      refine Gd.of (ckX3 _ _) tX3_init_ok (cuts := mnC) 40 ?_
      refine eB.t (by decide) ?_
      exact k72 12 0 _ _ _ (fun _ => none) f S4 (by omega) rfl rfl rfl s4 k4 h4 q4 hf w4 w3 w5 w6 hr (fun l hl => absurd hl (Nat.not_lt_zero l)) (fun l hl => absurd hl (Nat.not_lt_zero l))
    | succ d ih =>
      intro i x c1 c2 f S4 hi hx hc1 hc2 s4 k4 h4 q4 w4 w3 w5 w6 hf hr
      subst hx hc1 hc2
      refine Gd.of (ckX3 _ _) tX3_init_ok (cuts := mnC) 40 ?_
      refine eB.f (by rw [show (20 : Int32) = nI 20 from rfl, nI_leI (by omega) (by omega)]; omega) ?_
      refine eG.i h4 rfl ?_
      refine ⟨by decide, ⟨by have z := mNs; dsimp only [rmN]; omega, by have z := mNs; dsimp only [rmN]; omega⟩, ?_⟩
      rw [s4]
      refine ⟨Nat.le_of_ble_eq_true rfl, ?_⟩
      refine eC.i (c_Row_init (cap := 45) (mAt.new s4 (by omega)) (by show S4.1 + 1 = _; omega) (by omega) (by omega)) ⟨Nat.le_of_ble_eq_true rfl, Nat.le_of_ble_eq_true rfl⟩ ⟨by have z := mNs; dsimp only [rmN]; omega, by have z := mNs; dsimp only [rmN]; omega⟩ (fun v S5 hk => ?_)
      obtain ⟨rfl, n5, r5⟩ := hk
      have n51 := n5.1
      have q5 := q4.old.kb n5.2 (by omega) (by omega)
      refine eSq.i (i := nI i) rfl q5 r5.obj (vp_in_nI (by omega) (by omega)) ?_
      rw [nI_clamp (by omega)]
      refine ih (i + 1) _ _ _ (va_up f i (some (a + 25 + 2 * i))) _ (by omega) (nI_1 i) (by dsimp only [rmN]; omega) (by have z := mNs; dsimp only [rmN]; omega) (by show S5.1 = _; omega) ((k4.tr ((kb.push (by omega)).tr (n5.2.mono (by omega)))).tr (kb.up (by omega))) ((h4.old.kb n5.2 (by omega) (by omega)).ne (by omega)) q5.up ((w4.old.kb n5.2 (by omega) (by omega)).ne (by omega)) ((w3.old.kb n5.2 (by omega) (by omega)).ne (by omega)) ((w5.old.kb n5.2 (by omega) (by omega)).ne (by omega)) (fun j hj => ((w6 j hj).old.kb n5.2 (by omega) (by omega)).ne (by omega)) (fun l hl => ?_) (fun l hl => ?_)
      · by_cases e : l = i
        · rw [e, up_s]
        · rw [up_n e]; exact hf l (by omega)
      · by_cases e : l = i
        · rw [e]; exact r5.fr fr.up1 (by omega) (by omega)
        · exact ((hr l (by omega)).old.kb n5.2 (by omega) (by omega)).fr fr.up1 (by omega) (by omega)
  -- the four arrays
  have k34 : ∀ S4 : mS, S4.1 = a + 4 → kb S S4 a → mAt G S4 a (.inr (3, [.ref (a + 1), .ref (a + 2), .ref (a + 3), .null, .int 0, .int 0, .int 0, .int 0, .int 0])) → mAt G S4 (a + 1) (eRf G 2 20 (fun _ => none)) → mAt G S4 (a + 2) (eRf G 2 12 (fun _ => none)) → mAt G S4 (a + 3) (eIn G 12 (fun _ => 0)) →
      Gd G (miX3 true none) cX3_init 2 (rmN 3 88 4672) 88 4672 (fun v S' => v = none ∧ nw S S' a 89 ∧ MnS G S' a ((0, 0, 0, 0, 0), fun _ => [], fun _ => [], fun _ => 0, fun _ _ => 0)) 34 [(0, .ref a)] [.int 4, .int 20, .ref a] (3, 44) S4 := by
    intro S4 s4 k4 h4 q4 w4 w3
    refine Gd.mna (by dsimp only [rmN]; omega) (by dsimp only [rmN]; omega) ?_
    have s5 : (mMu G S4 20).1 = a + 25 := by rw [mMu_1]; omega
    have k5 : kb S4 (mMu G S4 20) (a + 4) := fun q hq => mMu_old 20 q (by omega)
    have h5 : mAt G (mMu G S4 20) a _ := h4.kb k5 (by omega) (by omega)
    have o5 : mAt G (mMu G S4 20) (a + 4) (eRf G 6 20 (muF (a + 4) 20)) := ⟨by omega, by omega, by have := mMu_own (G := G) (S := S4) 20; rw [s4] at this; exact this⟩
    have w6 : ∀ j, j < 20 → mAt G (mMu G S4 20) (a + 5 + j) (eIn G 4 (fun _ => 0)) := fun j hj => ⟨by omega, by omega, by have := mMu_row (G := G) (S := S4) 20 j hj; rw [s4] at this; exact this⟩
    have q5 := q4.kb k5 (by omega) (by omega)
    have w5 := w4.kb k5 (by omega) (by omega)
    have w35 := w3.kb k5 (by omega) (by omega)
    have k6 : kb S (mMu G S4 20) a := k4.tr (k5.mono (by omega))
    generalize mMu G S4 20 = S5 at *
    rw [s4]
    refine Gd.of (ckX3 _ _) tX3_init_ok (cuts := mnC) 40 ?_
    refine ⟨by first | exact Or.inl rfl | exact Or.inr ⟨rfl, rfl, rfl⟩, ?_⟩
    refine eP.i (h5) (Nat.le_of_ble_eq_true rfl) rfl rfl ?_
    exact k43 20 0 _ _ _ (fun _ => none) _ (by omega) rfl rfl rfl (by show S5.1 = _; omega) (k6.tr (kb.up (Nat.le_refl _))) h5.up (q5.ne (by omega)) (w5.ne (by omega)) (w35.ne (by omega)) (o5.ne (by omega)) (fun j hj => (w6 j hj).ne (by omega)) (fun l hl => absurd hl (Nat.not_lt_zero l)) (fun l hl => absurd hl (Nat.not_lt_zero l))
  have k13 : ∀ S2 : mS, S2.1 = a + 2 → kb S S2 a → mAt G S2 a (.inr (3, [.ref (a + 1), .null, .null, .null, .int 0, .int 0, .int 0, .int 0, .int 0])) → mAt G S2 (a + 1) (eRf G 2 20 (fun _ => none)) →
      Gd G (miX3 true none) cX3_init 2 (rmN 3 88 4672) 88 4672 (fun v S' => v = none ∧ nw S S' a 89 ∧ MnS G S' a ((0, 0, 0, 0, 0), fun _ => [], fun _ => [], fun _ => 0, fun _ _ => 0)) 13 [(0, .ref a)] [] (1, 20) S2 := by
    intro S2 s2 k2 h2 q2
    have k22 : ∀ S3 : mS, S3.1 = a + 3 → kb S S3 a → mAt G S3 a (.inr (3, [.ref (a + 1), .ref (a + 2), .null, .null, .int 0, .int 0, .int 0, .int 0, .int 0])) → mAt G S3 (a + 1) (eRf G 2 20 (fun _ => none)) → mAt G S3 (a + 2) (eRf G 2 12 (fun _ => none)) →
        Gd G (miX3 true none) cX3_init 2 (rmN 3 88 4672) 88 4672 (fun v S' => v = none ∧ nw S S' a 89 ∧ MnS G S' a ((0, 0, 0, 0, 0), fun _ => [], fun _ => [], fun _ => 0, fun _ _ => 0)) 22 [(0, .ref a)] [] (2, 32) S3 := by
      intro S3 s3 k3 h3 q3 w3
      refine Gd.of (ckX3 _ _) tX3_init_ok (cuts := lf 34 1) 40 ?_
      refine ⟨by decide, by decide, ⟨Nat.le_of_ble_eq_true rfl, Nat.le_of_ble_eq_true rfl⟩, ?_⟩
      rw [s3]
      refine ⟨by first | exact Or.inl rfl | exact Or.inr ⟨rfl, rfl, rfl⟩, ?_⟩
      refine eP.i (h3.old) (Nat.le_of_ble_eq_true rfl) rfl rfl ?_
      exact k34 _ (by show S3.1 + 1 = _; omega) (k3.tr ((kb.push (by omega)).tr (kb.up (Nat.le_refl _)))) h3.old.up (q3.old.ne (by omega)) (w3.old.ne (by omega)) ((mAt.new s3 (by omega)).ne (by omega))
    refine Gd.of (ckX3 _ _) tX3_init_ok (cuts := nd 30 (lf 22 1) (lf 34 1)) 40 ?_
    refine ⟨by decide, by decide, by decide, ⟨Nat.le_of_ble_eq_true rfl, Nat.le_of_ble_eq_true rfl⟩, ?_⟩
    rw [s2]
    refine ⟨by first | exact Or.inl rfl | exact Or.inr ⟨rfl, rfl, rfl⟩, ?_⟩
    refine eP.i (h2.old) (Nat.le_of_ble_eq_true rfl) rfl rfl ?_
    exact k22 _ (by show S2.1 + 1 = _; omega) (k2.tr ((kb.push (by omega)).tr (kb.up (Nat.le_refl _)))) h2.old.up (q2.old.ne (by omega)) ((mAt.new s2 (by omega)).ne (by omega))
  refine mCon.of (I := miX3 true none) (by decide) rfl rfl (fun _ => rfl) (fun _ => rfl) (Nat.le_of_ble_eq_true rfl) ?_
  show Gd _ _ _ _ _ _ _ _ 0 [(0, .ref a)] [] (0, 0) _
  refine Gd.of (ckX3 _ _) tX3_init_ok (cuts := lf 13 1) 40 ?_
  refine ⟨Nat.le_of_ble_eq_true rfl, ⟨Nat.le_of_ble_eq_true rfl, Nat.le_of_ble_eq_true rfl⟩, ?_⟩
  refine ⟨by decide, by decide, by decide, ⟨Nat.le_of_ble_eq_true rfl, Nat.le_of_ble_eq_true rfl⟩, ?_⟩
  rw [hs]
  refine ⟨by first | exact Or.inl rfl | exact Or.inr ⟨rfl, rfl, rfl⟩, ?_⟩
  refine eP.i (h.old) (Nat.le_of_ble_eq_true rfl) rfl rfl ?_
  exact k13 _ (by show S.1 + 1 = _; omega) ((kb.push (by omega)).tr (kb.up (Nat.le_refl _))) h.old.up ((mAt.new hs (by omega)).ne (by omega))
end NED
