/-! the constructor of the class itself -/
def mo0 : Mo := ((0, 0, 0, 0, 0), fun _ => [], fun _ => [], fun _ => 0, fun _ _ => 0)
def sgZ (K : List Int32) : Sg := (K, fun _ _ => 0, fun _ => 0, 0, fun _ => 0, fun _ => [], fun _ => mo0, [])
def g1 (G : mG) (S : mS) (B : Nat) (K : List Int32) : Prop := (∃ lm ld, Sha G S (B + 1) lm ld) ∧ Ky G S (B + 8) K ∧ ∃ o w, Cb G S (B + 11) o w
def gwC : Nat → Option Nat := nd 110 (nd 55 (nd 36 (lf 26 3) (lf 38 3)) (nd 70 (lf 60 4) (lf 99 4))) (nd 150 (lf 137 4) (nd 170 (lf 165 4) (lf 179 4)))
section GWI
variable {G : mG} {S S' S1 S2 : mS} {B : Nat} {K : List Int32} {X : Nat → Prop} {n : Int64}
theorem g1.tf (h : g1 G S B K) (f : tf S S' X) (hx : ∀ q, B < q → q < B + 16 → ¬ X q) : g1 G S' B K := by
  obtain ⟨⟨lm, ld, h1⟩, h2, o, w, h3⟩ := h
  exact ⟨⟨lm, ld, h1.tf f (fun q a b => hx q (by omega) (by omega))⟩, h2.tf f (fun q a b => hx q (by omega) (by omega)), o, w, h3.tf f (fun q a b => hx q (by omega) (by omega))⟩
set_option maxHeartbeats 2000000 in
theorem c_X7_init (hG : GOK G) (h : mAt G S B (.inr (7, mDef 7))) (hs : S.1 = B + 1) :
    mCon G yX7_init cX7_init 4 none (rmN 4 694 79951) [.ref B, .long n] S (fun v S' => v = none ∧ nw S S' B 695 ∧ CS G S' B (sgZ (kyL n 4))) := by
  have h : mAt G S B (.inr (7, [.null, .null, .null, .null, .null, .null, .null, .null, .int 0])) := h
  have hm : mb G ≤ B := h.1
  -- the two last rows
  have k179 : ∀ (x : Int32) (S4 : mS), S4.1 = B + 693 → kb S S4 B → mAt G S4 B (.inr (7, [.ref (B + 1), .ref (B + 8), .ref (B + 11), .ref (B + 16), .ref (B + 153), .ref (B + 334), .ref (B + 691), .null, .int 0])) → g1 G S4 B (kyL n 4) → (∃ f : Nat → Option Nat, mAt G S4 (B + 16) (eRf G 3 8 f) ∧ ∀ v, v < 8 → f v = some (B + 17 + 17 * v)) → (∀ v, v < 8 → Vw G S4 (B + 17 + 17 * v) (fun _ => 0) 0) → (∃ f : Nat → Option Nat, mAt G S4 (B + 153) (eRf G 4 60 f) ∧ ∀ i, i < 60 → f i = some (B + 154 + 3 * i)) → (∀ i, i < 60 → Lt G S4 (B + 154 + 3 * i) 0 []) → (∃ f : Nat → Option Nat, mAt G S4 (B + 334) (eRf G 5 4 f) ∧ ∀ j, j < 4 → f j = some (B + 335 + 89 * j)) → (∀ j, j < 4 → MnS G S4 (B + 335 + 89 * j) mo0) → Rl G S4 (B + 691) 634 [] →
      Gd G (miX7 true none) cX7_init 4 (rmN 4 694 79951) 694 79951 (fun v S' => v = none ∧ nw S S' B 695 ∧ CS G S' B (sgZ (kyL n 4))) 179 [(0, .ref B), (1, .long n), (3, .int x)] [] (692, 79693) S4 := by
    intro x S4 s4 k4 h4 g4 v4 w4 p4 l4 m4 o4 d4
    refine Gd.of (ckX7 _ _) tX7_init_ok (cuts := gwC) 60 ?_
    refine ⟨by decide, ⟨by have z := mNs; dsimp only [rmN]; omega, by have z := mNs; dsimp only [rmN]; omega⟩, ?_⟩
    rw [s4]
    refine ⟨Nat.le_of_ble_eq_true rfl, ?_⟩
    refine eC.i (c_Row_init (cap := 256) (mAt.new s4 (by omega)) (by show S4.1 + 1 = _; omega) (by omega) (by omega)) ⟨Nat.le_of_ble_eq_true rfl, Nat.le_of_ble_eq_true rfl⟩ ⟨by have z := mNs; dsimp only [rmN]; omega, by have z := mNs; dsimp only [rmN]; omega⟩ (fun v S5 hk => ?_)
    obtain ⟨rfl, n5, r5⟩ := hk
    have n51 := n5.1
    have t5 : tf S4 S5 (fun _ => False) := tf.push.tr (tf.nw n5 (by show S4.1 + 1 ≤ _; omega)) (fun q hq z => by omega)
    have h5 := h4.tf t5 (fun z => z)
    refine ⟨by first | exact Or.inl rfl | exact Or.inr ⟨rfl, rfl, rfl⟩, ?_⟩
    refine eP.i (h5) (Nat.le_of_ble_eq_true rfl) rfl rfl ?_
    refine ⟨by first | exact Or.inl rfl | exact Or.inr ⟨rfl, rfl, rfl⟩, ?_⟩
    refine eP.i (h5.up) (Nat.le_of_ble_eq_true rfl) rfl rfl ?_
    have t7 : tf S4 (mUp (mUp S5 B (.inr (7, [.ref (B + 1), .ref (B + 8), .ref (B + 11), .ref (B + 16), .ref (B + 153), .ref (B + 334), .ref (B + 691), .ref (B + 693), .int 0]))) B (.inr (7, [.ref (B + 1), .ref (B + 8), .ref (B + 11), .ref (B + 16), .ref (B + 153), .ref (B + 334), .ref (B + 691), .ref (B + 693), .int 0]))) (fun q => q = B) := ((t5.mono (fun q _ z => False.elim z)).tr (tf.up (X := fun q => q = B) rfl) (fun q _ z => z)).tr (tf.up (X := fun q => q = B) rfl) (fun q _ z => z)
    obtain ⟨⟨lm, ld, g41⟩, g42, o, w, g43⟩ := g4.tf t7 (fun q a b => by omega)
    obtain ⟨fv, v41, v42⟩ := v4
    obtain ⟨fp, p41, p42⟩ := p4
    obtain ⟨fm, m41, m42⟩ := m4
    refine ⟨⟨Nat.le_of_ble_eq_true rfl, Nat.le_of_ble_eq_true rfl⟩, rfl, rfl, ⟨by show S5.1 = _; omega, ((k4.tr ((kb.push (by omega)).tr (n5.2.mono (by omega)))).tr (kb.up (Nat.le_refl _))).tr (kb.up (Nat.le_refl _))⟩, h5.up.up, ⟨⟨lm, ld, g41⟩, ⟨o, w, g43⟩, [], (r5.fr fr.up1 (by omega) (by omega)).fr fr.up1 (by omega) (by omega)⟩, g42, ⟨fv, v41.tf t7 (by omega), v42⟩, fun v hv => (w4 v hv).tf t7 (fun q a b => by omega), ⟨fp, p41.tf t7 (by omega), p42⟩, fun i hi => (l4 i hi).tf t7 (fun q a b => by omega), Nat.zero_le _, ⟨fm, m41.tf t7 (by omega), m42⟩, fun j hj => (o4 j hj).tf t7 (fun q a b => by omega), d4.tf t7 (by omega) (by omega)⟩
  have k165 : ∀ (x : Int32) (S4 : mS), S4.1 = B + 691 → kb S S4 B → mAt G S4 B (.inr (7, [.ref (B + 1), .ref (B + 8), .ref (B + 11), .ref (B + 16), .ref (B + 153), .ref (B + 334), .null, .null, .int 0])) → g1 G S4 B (kyL n 4) → (∃ f : Nat → Option Nat, mAt G S4 (B + 16) (eRf G 3 8 f) ∧ ∀ v, v < 8 → f v = some (B + 17 + 17 * v)) → (∀ v, v < 8 → Vw G S4 (B + 17 + 17 * v) (fun _ => 0) 0) → (∃ f : Nat → Option Nat, mAt G S4 (B + 153) (eRf G 4 60 f) ∧ ∀ i, i < 60 → f i = some (B + 154 + 3 * i)) → (∀ i, i < 60 → Lt G S4 (B + 154 + 3 * i) 0 []) → (∃ f : Nat → Option Nat, mAt G S4 (B + 334) (eRf G 5 4 f) ∧ ∀ j, j < 4 → f j = some (B + 335 + 89 * j)) → (∀ j, j < 4 → MnS G S4 (B + 335 + 89 * j) mo0) →
      Gd G (miX7 true none) cX7_init 4 (rmN 4 694 79951) 694 79951 (fun v S' => v = none ∧ nw S S' B 695 ∧ CS G S' B (sgZ (kyL n 4))) 165 [(0, .ref B), (1, .long n), (3, .int x)] [] (690, 79057) S4 := by
    intro x S4 s4 k4 h4 g4 v4 w4 p4 l4 m4 o4
    refine Gd.of (ckX7 _ _) tX7_init_ok (cuts := gwC) 60 ?_
    refine ⟨by decide, ⟨by have z := mNs; dsimp only [rmN]; omega, by have z := mNs; dsimp only [rmN]; omega⟩, ?_⟩
    rw [s4]
    refine ⟨Nat.le_of_ble_eq_true rfl, ?_⟩
    refine eC.i (c_Row_init (cap := 634) (mAt.new s4 (by omega)) (by show S4.1 + 1 = _; omega) (by omega) (by omega)) ⟨Nat.le_of_ble_eq_true rfl, Nat.le_of_ble_eq_true rfl⟩ ⟨by have z := mNs; dsimp only [rmN]; omega, by have z := mNs; dsimp only [rmN]; omega⟩ (fun v S5 hk => ?_)
    obtain ⟨rfl, n5, r5⟩ := hk
    have n51 := n5.1
    have t5 : tf S4 S5 (fun _ => False) := tf.push.tr (tf.nw n5 (by show S4.1 + 1 ≤ _; omega)) (fun q hq z => by omega)
    have h5 := h4.tf t5 (fun z => z)
    refine ⟨by first | exact Or.inl rfl | exact Or.inr ⟨rfl, rfl, rfl⟩, ?_⟩
    refine eP.i (h5) (Nat.le_of_ble_eq_true rfl) rfl rfl ?_
    have t7 : tf S4 (mUp S5 B (.inr (7, [.ref (B + 1), .ref (B + 8), .ref (B + 11), .ref (B + 16), .ref (B + 153), .ref (B + 334), .ref (B + 691), .null, .int 0]))) (fun q => q = B) := (t5.mono (fun q _ z => False.elim z)).tr (tf.up (X := fun q => q = B) rfl) (fun q _ z => z)
    obtain ⟨fv, v41, v42⟩ := v4
    obtain ⟨fp, p41, p42⟩ := p4
    obtain ⟨fm, m41, m42⟩ := m4
    exact k179 x _ (by show S5.1 = _; omega) ((k4.tr ((kb.push (by omega)).tr (n5.2.mono (by omega)))).tr (kb.up (Nat.le_refl _))) h5.up (g4.tf t7 (fun q a b => by omega)) ⟨fv, v41.tf t7 (by omega), v42⟩ (fun v hv => (w4 v hv).tf t7 (fun q a b => by omega)) ⟨fp, p41.tf t7 (by omega), p42⟩ (fun i hi => (l4 i hi).tf t7 (fun q a b => by omega)) ⟨fm, m41.tf t7 (by omega), m42⟩ (fun j hj => (o4 j hj).tf t7 (fun q a b => by omega)) (r5.fr fr.up1 (by omega) (by omega))
  -- the monitors
  have k137 : ∀ (d i : Nat) (x : Int32) (c1 c2 : Nat) (f : Nat → Option Nat) (S4 : mS), i + d = 4 → x = nI i → c1 = 334 + 89 * i → c2 = 60333 + 4681 * i → S4.1 = B + 335 + 89 * i → kb S S4 B → mAt G S4 B (.inr (7, [.ref (B + 1), .ref (B + 8), .ref (B + 11), .ref (B + 16), .ref (B + 153), .ref (B + 334), .null, .null, .int 0])) → g1 G S4 B (kyL n 4) → (∃ f : Nat → Option Nat, mAt G S4 (B + 16) (eRf G 3 8 f) ∧ ∀ v, v < 8 → f v = some (B + 17 + 17 * v)) → (∀ v, v < 8 → Vw G S4 (B + 17 + 17 * v) (fun _ => 0) 0) → (∃ f : Nat → Option Nat, mAt G S4 (B + 153) (eRf G 4 60 f) ∧ ∀ i, i < 60 → f i = some (B + 154 + 3 * i)) → (∀ i, i < 60 → Lt G S4 (B + 154 + 3 * i) 0 []) → mAt G S4 (B + 334) (eRf G 5 4 f) → (∀ j, j < i → f j = some (B + 335 + 89 * j)) → (∀ j, j < i → MnS G S4 (B + 335 + 89 * j) mo0) →
      Gd G (miX7 true none) cX7_init 4 (rmN 4 694 79951) 694 79951 (fun v S' => v = none ∧ nw S S' B 695 ∧ CS G S' B (sgZ (kyL n 4))) 137 [(0, .ref B), (1, .long n), (3, .int x)] [] (c1, c2) S4 := by
    intro d
    induction d with
    | zero =>
      intro i x c1 c2 f S4 hi hx hc1 hc2 s4 k4 h4 g4 v4 w4 p4 l4 q4 hf hr
      subst hx hc1 hc2
      have ei : i = 4 := by omega
      subst ei
      refine Gd.of (ckX7 _ _) tX7_init_ok (cuts := gwC) 60 ?_
      refine eG.i h4 rfl ?_
      refine eN.i q4 (by decide) ?_
      refine eB.t (by decide) ?_
      exact k165 _ S4 s4 k4 h4 g4 v4 w4 p4 l4 ⟨f, q4, hf⟩ hr
    | succ d ih =>
      intro i x c1 c2 f S4 hi hx hc1 hc2 s4 k4 h4 g4 v4 w4 p4 l4 q4 hf hr
      subst hx hc1 hc2
      refine Gd.of (ckX7 _ _) tX7_init_ok (cuts := gwC) 60 ?_
      refine eG.i h4 rfl ?_
      refine eN.i q4 (by decide) ?_
      refine eB.f (by rw [nI_leI (by omega) (by omega)]; omega) ?_
      refine eG.i h4 rfl ?_
      refine ⟨by decide, ⟨by have z := mNs; dsimp only [rmN]; omega, by have z := mNs; dsimp only [rmN]; omega⟩, ?_⟩
      rw [s4]
      refine ⟨Nat.le_of_ble_eq_true rfl, ?_⟩
      refine eC.i (c_Mon_init (mAt.new s4 (by omega)) (by show S4.1 + 1 = _; omega)) ⟨Nat.le_of_ble_eq_true rfl, Nat.le_of_ble_eq_true rfl⟩ ⟨by have z := mNs; dsimp only [rmN]; omega, by have z := mNs; dsimp only [rmN]; omega⟩ (fun v S5 hk => ?_)
      obtain ⟨rfl, n5, r5⟩ := hk
      have n51 := n5.1
      have t5 : tf S4 S5 (fun _ => False) := tf.push.tr (tf.nw n5 (by show S4.1 + 1 ≤ _; omega)) (fun q hq z => by omega)
      have q5 := q4.tf t5 (fun z => z)
      have r5o : mAt G S5 (B + 335 + 89 * i) (moL (B + 335 + 89 * i) 0 0 0 0 0) := by
        obtain ⟨R, -, r5o⟩ := r5
        exact r5o.1
      refine eSq.i (i := nI i) rfl q5 r5o (vp_in_nI (by omega) (by omega)) ?_
      rw [nI_clamp (by omega)]
      have t7 : tf S4 (mUp S5 (B + 334) (eRf G 5 4 (va_up f i (some (B + 335 + 89 * i))))) (fun q => q = B + 334) := (t5.mono (fun q _ z => False.elim z)).tr (tf.up (X := fun q => q = B + 334) rfl) (fun q _ z => z)
      obtain ⟨fv, v41, v42⟩ := v4
      obtain ⟨fp, p41, p42⟩ := p4
      refine ih (i + 1) _ _ _ (va_up f i (some (B + 335 + 89 * i))) _ (by omega) (nI_1 i) (by dsimp only [rmN]; omega) (by have z := mNs; dsimp only [rmN]; omega) (by show S5.1 = _; omega) ((k4.tr ((kb.push (by omega)).tr (n5.2.mono (by omega)))).tr (kb.up (by omega))) (h4.tf t7 (by omega)) (g4.tf t7 (fun q a b => by omega)) ⟨fv, v41.tf t7 (by omega), v42⟩ (fun v hv => (w4 v hv).tf t7 (fun q a b => by omega)) ⟨fp, p41.tf t7 (by omega), p42⟩ (fun i hi => (l4 i hi).tf t7 (fun q a b => by omega)) q5.up (fun l hl => ?_) (fun l hl => ?_)
      · by_cases e : l = i
        · rw [e, up_s]
        · rw [up_n e]; exact hf l (by omega)
      · by_cases e : l = i
        · rw [e]; exact r5.tf (tf.up (X := fun q => q = B + 334) rfl) (fun q a b => by omega)
        · exact (hr l (by omega)).tf t7 (fun q a b => by omega)
  -- the letters
  have k99 : ∀ (d i : Nat) (x : Int32) (c1 c2 : Nat) (f : Nat → Option Nat) (S4 : mS), i + d = 60 → x = nI i → c1 = 153 + 3 * i → c2 = 42269 + 301 * i → S4.1 = B + 154 + 3 * i → kb S S4 B → mAt G S4 B (.inr (7, [.ref (B + 1), .ref (B + 8), .ref (B + 11), .ref (B + 16), .ref (B + 153), .null, .null, .null, .int 0])) → g1 G S4 B (kyL n 4) → (∃ f : Nat → Option Nat, mAt G S4 (B + 16) (eRf G 3 8 f) ∧ ∀ v, v < 8 → f v = some (B + 17 + 17 * v)) → (∀ v, v < 8 → Vw G S4 (B + 17 + 17 * v) (fun _ => 0) 0) → mAt G S4 (B + 153) (eRf G 4 60 f) → (∀ j, j < i → f j = some (B + 154 + 3 * j)) → (∀ j, j < i → Lt G S4 (B + 154 + 3 * j) 0 []) →
      Gd G (miX7 true none) cX7_init 4 (rmN 4 694 79951) 694 79951 (fun v S' => v = none ∧ nw S S' B 695 ∧ CS G S' B (sgZ (kyL n 4))) 99 [(0, .ref B), (1, .long n), (3, .int x)] [] (c1, c2) S4 := by
    intro d
    induction d with
    | zero =>
      intro i x c1 c2 f S4 hi hx hc1 hc2 s4 k4 h4 g4 v4 w4 q4 hf hr
      subst hx hc1 hc2
      have ei : i = 60 := by omega
      subst ei
      refine Gd.of (ckX7 _ _) tX7_init_ok (cuts := gwC) 60 ?_
      refine eG.i h4 rfl ?_
      refine eN.i q4 (by decide) ?_
      refine eB.t (by decide) ?_
      refine ⟨by decide, by decide, by decide, ⟨Nat.le_of_ble_eq_true rfl, Nat.le_of_ble_eq_true rfl⟩, ?_⟩
      rw [s4]
      refine ⟨by first | exact Or.inl rfl | exact Or.inr ⟨rfl, rfl, rfl⟩, ?_⟩
      refine eP.i (h4.old) (Nat.le_of_ble_eq_true rfl) rfl rfl ?_
      have t7 : tf S4 (mUp (mPush S4 (eRf G 5 4 (fun _ => none))) B (.inr (7, [.ref (B + 1), .ref (B + 8), .ref (B + 11), .ref (B + 16), .ref (B + 153), .ref (B + 334), .null, .null, .int 0]))) (fun q => q = B) := tf.push.tr (tf.up (X := fun q => q = B) rfl) (fun q _ z => z)
      obtain ⟨fv, v41, v42⟩ := v4
      exact k137 4 0 _ _ _ (fun _ => none) _ (by omega) rfl rfl rfl (by show S4.1 + 1 = _; omega) (k4.tr ((kb.push (by omega)).tr (kb.up (Nat.le_refl _)))) h4.old.up (g4.tf t7 (fun q a b => by omega)) ⟨fv, v41.tf t7 (by omega), v42⟩ (fun v hv => (w4 v hv).tf t7 (fun q a b => by omega)) ⟨f, q4.tf t7 (by omega), hf⟩ (fun i hi => (hr i hi).tf t7 (fun q a b => by omega)) ((mAt.new s4 (by omega)).ne (by omega)) (fun l hl => absurd hl (Nat.not_lt_zero l)) (fun l hl => absurd hl (Nat.not_lt_zero l))
    | succ d ih =>
      intro i x c1 c2 f S4 hi hx hc1 hc2 s4 k4 h4 g4 v4 w4 q4 hf hr
      subst hx hc1 hc2
      refine Gd.of (ckX7 _ _) tX7_init_ok (cuts := gwC) 60 ?_
      refine eG.i h4 rfl ?_
      refine eN.i q4 (by decide) ?_
      refine eB.f (by rw [nI_leI (by omega) (by omega)]; omega) ?_
      refine eG.i h4 rfl ?_
      refine ⟨by decide, ⟨by have z := mNs; dsimp only [rmN]; omega, by have z := mNs; dsimp only [rmN]; omega⟩, ?_⟩
      rw [s4]
      refine ⟨Nat.le_of_ble_eq_true rfl, ?_⟩
      refine eC.i (c_Lett_init (mAt.new s4 (by omega)) (by show S4.1 + 1 = _; omega)) ⟨Nat.le_of_ble_eq_true rfl, Nat.le_of_ble_eq_true rfl⟩ ⟨by have z := mNs; dsimp only [rmN]; omega, by have z := mNs; dsimp only [rmN]; omega⟩ (fun v S5 hk => ?_)
      obtain ⟨rfl, n5, r5⟩ := hk
      have n51 := n5.1
      have t5 : tf S4 S5 (fun _ => False) := tf.push.tr (tf.nw n5 (by show S4.1 + 1 ≤ _; omega)) (fun q hq z => by omega)
      have q5 := q4.tf t5 (fun z => z)
      refine eSq.i (i := nI i) rfl q5 r5.1 (vp_in_nI (by omega) (by omega)) ?_
      rw [nI_clamp (by omega)]
      have t7 : tf S4 (mUp S5 (B + 153) (eRf G 4 60 (va_up f i (some (B + 154 + 3 * i))))) (fun q => q = B + 153) := (t5.mono (fun q _ z => False.elim z)).tr (tf.up (X := fun q => q = B + 153) rfl) (fun q _ z => z)
      obtain ⟨fv, v41, v42⟩ := v4
      refine ih (i + 1) _ _ _ (va_up f i (some (B + 154 + 3 * i))) _ (by omega) (nI_1 i) (by dsimp only [rmN]; omega) (by have z := mNs; dsimp only [rmN]; omega) (by show S5.1 = _; omega) ((k4.tr ((kb.push (by omega)).tr (n5.2.mono (by omega)))).tr (kb.up (by omega))) (h4.tf t7 (by omega)) (g4.tf t7 (fun q a b => by omega)) ⟨fv, v41.tf t7 (by omega), v42⟩ (fun v hv => (w4 v hv).tf t7 (fun q a b => by omega)) q5.up (fun l hl => ?_) (fun l hl => ?_)
      · by_cases e : l = i
        · rw [e, up_s]
        · rw [up_n e]; exact hf l (by omega)
      · by_cases e : l = i
        · rw [e]; exact r5.tf (tf.up (X := fun q => q = B + 153) rfl) (fun q a b => by omega)
        · exact (hr l (by omega)).tf t7 (fun q a b => by omega)
  -- the views
  have k60 : ∀ (d i : Nat) (x : Int32) (c1 c2 : Nat) (f : Nat → Option Nat) (S4 : mS), i + d = 8 → x = nI i → c1 = 16 + 17 * i → c2 = 929 + 5160 * i → S4.1 = B + 17 + 17 * i → kb S S4 B → mAt G S4 B (.inr (7, [.ref (B + 1), .ref (B + 8), .ref (B + 11), .ref (B + 16), .null, .null, .null, .null, .int 0])) → g1 G S4 B (kyL n 4) → mAt G S4 (B + 16) (eRf G 3 8 f) → (∀ j, j < i → f j = some (B + 17 + 17 * j)) → (∀ j, j < i → Vw G S4 (B + 17 + 17 * j) (fun _ => 0) 0) →
      Gd G (miX7 true none) cX7_init 4 (rmN 4 694 79951) 694 79951 (fun v S' => v = none ∧ nw S S' B 695 ∧ CS G S' B (sgZ (kyL n 4))) 60 [(0, .ref B), (1, .long n), (3, .int x)] [] (c1, c2) S4 := by
    intro d
    induction d with
    | zero =>
      intro i x c1 c2 f S4 hi hx hc1 hc2 s4 k4 h4 g4 q4 hf hr
      subst hx hc1 hc2
      have ei : i = 8 := by omega
      subst ei
      refine Gd.of (ckX7 _ _) tX7_init_ok (cuts := gwC) 60 ?_
      refine eG.i h4 rfl ?_
      refine eN.i q4 (by decide) ?_
      refine eB.t (by decide) ?_
      refine ⟨by decide, by decide, by decide, ⟨Nat.le_of_ble_eq_true rfl, Nat.le_of_ble_eq_true rfl⟩, ?_⟩
      rw [s4]
      refine ⟨by first | exact Or.inl rfl | exact Or.inr ⟨rfl, rfl, rfl⟩, ?_⟩
      refine eP.i (h4.old) (Nat.le_of_ble_eq_true rfl) rfl rfl ?_
      have t7 : tf S4 (mUp (mPush S4 (eRf G 4 60 (fun _ => none))) B (.inr (7, [.ref (B + 1), .ref (B + 8), .ref (B + 11), .ref (B + 16), .ref (B + 153), .null, .null, .null, .int 0]))) (fun q => q = B) := tf.push.tr (tf.up (X := fun q => q = B) rfl) (fun q _ z => z)
      exact k99 60 0 _ _ _ (fun _ => none) _ (by omega) rfl rfl rfl (by show S4.1 + 1 = _; omega) (k4.tr ((kb.push (by omega)).tr (kb.up (Nat.le_refl _)))) h4.old.up (g4.tf t7 (fun q a b => by omega)) ⟨f, q4.tf t7 (by omega), hf⟩ (fun i hi => (hr i hi).tf t7 (fun q a b => by omega)) ((mAt.new s4 (by omega)).ne (by omega)) (fun l hl => absurd hl (Nat.not_lt_zero l)) (fun l hl => absurd hl (Nat.not_lt_zero l))
    | succ d ih =>
      intro i x c1 c2 f S4 hi hx hc1 hc2 s4 k4 h4 g4 q4 hf hr
      subst hx hc1 hc2
      refine Gd.of (ckX7 _ _) tX7_init_ok (cuts := gwC) 60 ?_
      refine eG.i h4 rfl ?_
      refine eN.i q4 (by decide) ?_
      refine eB.f (by rw [nI_leI (by omega) (by omega)]; omega) ?_
      refine eG.i h4 rfl ?_
      refine ⟨by decide, ⟨by have z := mNs; dsimp only [rmN]; omega, by have z := mNs; dsimp only [rmN]; omega⟩, ?_⟩
      rw [s4]
      refine ⟨Nat.le_of_ble_eq_true rfl, ?_⟩
      refine eC.i (c_View_init (vals := fun _ => 0) (mAt.new s4 (by omega)) (by show S4.1 + 1 = _; omega)) ⟨Nat.le_of_ble_eq_true rfl, Nat.le_of_ble_eq_true rfl⟩ ⟨by have z := mNs; dsimp only [rmN]; omega, by have z := mNs; dsimp only [rmN]; omega⟩ (fun v S5 hk => ?_)
      obtain ⟨rfl, n5, r5⟩ := hk
      have n51 := n5.1
      have t5 : tf S4 S5 (fun _ => False) := tf.push.tr (tf.nw n5 (by show S4.1 + 1 ≤ _; omega)) (fun q hq z => by omega)
      have q5 := q4.tf t5 (fun z => z)
      refine eSq.i (i := nI i) rfl q5 r5.1 (vp_in_nI (by omega) (by omega)) ?_
      rw [nI_clamp (by omega)]
      have t7 : tf S4 (mUp S5 (B + 16) (eRf G 3 8 (va_up f i (some (B + 17 + 17 * i))))) (fun q => q = B + 16) := (t5.mono (fun q _ z => False.elim z)).tr (tf.up (X := fun q => q = B + 16) rfl) (fun q _ z => z)
      refine ih (i + 1) _ _ _ (va_up f i (some (B + 17 + 17 * i))) _ (by omega) (nI_1 i) (by dsimp only [rmN]; omega) (by have z := mNs; dsimp only [rmN]; omega) (by show S5.1 = _; omega) ((k4.tr ((kb.push (by omega)).tr (n5.2.mono (by omega)))).tr (kb.up (by omega))) (h4.tf t7 (by omega)) (g4.tf t7 (fun q a b => by omega)) q5.up (fun l hl => ?_) (fun l hl => ?_)
      · by_cases e : l = i
        · rw [e, up_s]
        · rw [up_n e]; exact hf l (by omega)
      · by_cases e : l = i
        · rw [e]; exact r5.tf (tf.up (X := fun q => q = B + 16) rfl) (fun q a b => by omega)
        · exact (hr l (by omega)).tf t7 (fun q a b => by omega)
  -- climb, and the array of views
  have k38 : ∀ (S4 : mS) (lm ld : List Int32), S4.1 = B + 11 → kb S S4 B → mAt G S4 B (.inr (7, [.ref (B + 1), .ref (B + 8), .null, .null, .null, .null, .null, .null, .int 0])) → Sha G S4 (B + 1) lm ld → Ky G S4 (B + 8) (kyL n 4) →
      Gd G (miX7 true none) cX7_init 4 (rmN 4 694 79951) 694 79951 (fun v S' => v = none ∧ nw S S' B 695 ∧ CS G S' B (sgZ (kyL n 4))) 38 [(0, .ref B), (1, .long n)] [] (10, 851) S4 := by
    intro S4 lm ld s4 k4 h4 sh4 ky4
    have k49 : ∀ (S4 : mS), S4.1 = B + 16 → kb S S4 B → mAt G S4 B (.inr (7, [.ref (B + 1), .ref (B + 8), .ref (B + 11), .null, .null, .null, .null, .null, .int 0])) → g1 G S4 B (kyL n 4) →
        Gd G (miX7 true none) cX7_init 4 (rmN 4 694 79951) 694 79951 (fun v S' => v = none ∧ nw S S' B 695 ∧ CS G S' B (sgZ (kyL n 4))) 49 [(0, .ref B), (1, .long n)] [] (15, 921) S4 := by
      intro S4 s4 k4 h4 g4
      refine Gd.of (ckX7 _ _) tX7_init_ok (cuts := gwC) 60 ?_
      refine ⟨by decide, by decide, by decide, ⟨Nat.le_of_ble_eq_true rfl, Nat.le_of_ble_eq_true rfl⟩, ?_⟩
      rw [s4]
      refine ⟨by first | exact Or.inl rfl | exact Or.inr ⟨rfl, rfl, rfl⟩, ?_⟩
      refine eP.i (h4.old) (Nat.le_of_ble_eq_true rfl) rfl rfl ?_
      have t7 : tf S4 (mUp (mPush S4 (eRf G 3 8 (fun _ => none))) B (.inr (7, [.ref (B + 1), .ref (B + 8), .ref (B + 11), .ref (B + 16), .null, .null, .null, .null, .int 0]))) (fun q => q = B) := tf.push.tr (tf.up (X := fun q => q = B) rfl) (fun q _ z => z)
      exact k60 8 0 _ _ _ (fun _ => none) _ (by omega) rfl rfl rfl (by show S4.1 + 1 = _; omega) (k4.tr ((kb.push (by omega)).tr (kb.up (Nat.le_refl _)))) h4.old.up (g4.tf t7 (fun q a b => by omega)) ((mAt.new s4 (by omega)).ne (by omega)) (fun l hl => absurd hl (Nat.not_lt_zero l)) (fun l hl => absurd hl (Nat.not_lt_zero l))
    refine Gd.of (ckX7 _ _) tX7_init_ok (cuts := lf 49 3) 60 ?_
    refine ⟨by decide, ⟨by have z := mNs; dsimp only [rmN]; omega, by have z := mNs; dsimp only [rmN]; omega⟩, ?_⟩
    rw [s4]
    refine ⟨Nat.le_of_ble_eq_true rfl, ?_⟩
    refine eC.i (c_Climb_init (mAt.new s4 (by omega)) (by show S4.1 + 1 = _; omega)) ⟨Nat.le_of_ble_eq_true rfl, Nat.le_of_ble_eq_true rfl⟩ ⟨by have z := mNs; dsimp only [rmN]; omega, by have z := mNs; dsimp only [rmN]; omega⟩ (fun v S5 hk => ?_)
    obtain ⟨rfl, n5, r5⟩ := hk
    have n51 := n5.1
    have t5 : tf S4 S5 (fun _ => False) := tf.push.tr (tf.nw n5 (by show S4.1 + 1 ≤ _; omega)) (fun q hq z => by omega)
    have h5 := h4.tf t5 (fun z => z)
    refine ⟨by first | exact Or.inl rfl | exact Or.inr ⟨rfl, rfl, rfl⟩, ?_⟩
    refine eP.i (h5) (Nat.le_of_ble_eq_true rfl) rfl rfl ?_
    have t7 : tf S4 (mUp S5 B (.inr (7, [.ref (B + 1), .ref (B + 8), .ref (B + 11), .null, .null, .null, .null, .null, .int 0]))) (fun q => q = B) := (t5.mono (fun q _ z => False.elim z)).tr (tf.up (X := fun q => q = B) rfl) (fun q _ z => z)
    exact k49 _ (by show S5.1 = _; omega) ((k4.tr ((kb.push (by omega)).tr (n5.2.mono (by omega)))).tr (kb.up (Nat.le_refl _))) h5.up ⟨⟨lm, ld, sh4.tf t7 (fun q a b => by omega)⟩, ky4.tf t7 (fun q a b => by omega), _, _, r5.tf (tf.up (X := fun q => q = B) rfl) (fun q a b => by omega)⟩
  -- the keys
  have k15 : ∀ (S4 : mS), S4.1 = B + 8 → kb S S4 B → mAt G S4 B (.inr (7, [.ref (B + 1), .null, .null, .null, .null, .null, .null, .null, .int 0])) → Sha G S4 (B + 1) [] [] →
      Gd G (miX7 true none) cX7_init 4 (rmN 4 694 79951) 694 79951 (fun v S' => v = none ∧ nw S S' B 695 ∧ CS G S' B (sgZ (kyL n 4))) 15 [(0, .ref B), (1, .long n)] [] (7, 816) S4 := by
    intro S4 s4 k4 h4 sh4
    have k26 : ∀ (S4 : mS), S4.1 = B + 11 → kb S S4 B → mAt G S4 B (.inr (7, [.ref (B + 1), .ref (B + 8), .null, .null, .null, .null, .null, .null, .int 0])) → Sha G S4 (B + 1) [] [] → mAt G S4 (B + 8) (.inr (1, [.ref (B + 8 + 1)])) → Rl G S4 (B + 8 + 1) 32 [] →
        Gd G (miX7 true none) cX7_init 4 (rmN 4 694 79951) 694 79951 (fun v S' => v = none ∧ nw S S' B 695 ∧ CS G S' B (sgZ (kyL n 4))) 26 [(0, .ref B), (1, .long n)] [] (10, 851) S4 := by
      intro S4 s4 k4 h4 sh4 y4 r4
      refine Gd.of (ckX7 _ _) tX7_init_ok (cuts := gwC) 60 ?_
      refine eG.i h4 rfl ?_
      refine eG.i h4 rfl ?_
      refine ⟨rfl, Nat.le_of_ble_eq_true rfl, ?_⟩
      refine eV.i y4 ?_
      refine eC.z (c_Keys_makeFrom (n := n) hG sh4 y4 r4 (by omega)) ⟨rfl, rfl⟩ ⟨Nat.le_of_ble_eq_true rfl, Nat.le_of_ble_eq_true rfl⟩ ⟨Nat.le_of_ble_eq_true rfl, Nat.le_of_ble_eq_true rfl⟩ (fun v S5 hk => ?_)
      obtain ⟨rfl, f5, ⟨lm, ld, sh5⟩, ky5⟩ := hk
      exact k38 S5 lm ld (by rw [f5.1]; exact s4) (k4.tr (kb.fr f5 (fun q hq => by omega))) (h4.fr f5 (by omega)) sh5 ky5
    refine Gd.of (ckX7 _ _) tX7_init_ok (cuts := gwC) 60 ?_
    refine ⟨by decide, ⟨by have z := mNs; dsimp only [rmN]; omega, by have z := mNs; dsimp only [rmN]; omega⟩, ?_⟩
    rw [s4]
    refine ⟨Nat.le_of_ble_eq_true rfl, ?_⟩
    refine eC.i (c_Keys_init (mAt.new s4 (by omega)) (by show S4.1 + 1 = _; omega)) ⟨Nat.le_of_ble_eq_true rfl, Nat.le_of_ble_eq_true rfl⟩ ⟨by have z := mNs; dsimp only [rmN]; omega, by have z := mNs; dsimp only [rmN]; omega⟩ (fun v S5 hk => ?_)
    obtain ⟨rfl, n5, y5, r5⟩ := hk
    have n51 := n5.1
    have t5 : tf S4 S5 (fun _ => False) := tf.push.tr (tf.nw n5 (by show S4.1 + 1 ≤ _; omega)) (fun q hq z => by omega)
    have h5 := h4.tf t5 (fun z => z)
    refine ⟨by first | exact Or.inl rfl | exact Or.inr ⟨rfl, rfl, rfl⟩, ?_⟩
    refine eP.i (h5) (Nat.le_of_ble_eq_true rfl) rfl rfl ?_
    have t7 : tf S4 (mUp S5 B (.inr (7, [.ref (B + 1), .ref (B + 8), .null, .null, .null, .null, .null, .null, .int 0]))) (fun q => q = B) := (t5.mono (fun q _ z => False.elim z)).tr (tf.up (X := fun q => q = B) rfl) (fun q _ z => z)
    exact k26 _ (by show S5.1 = _; omega) ((k4.tr ((kb.push (by omega)).tr (n5.2.mono (by omega)))).tr (kb.up (Nat.le_refl _))) h5.up (sh4.tf t7 (fun q a b => by omega)) (y5.ne (by omega)) (r5.fr fr.up1 (by omega) (by omega))
  refine mCon.of (I := miX7 true none) (by decide) rfl rfl (fun _ => rfl) (fun _ => rfl) (Nat.le_of_ble_eq_true rfl) ?_
  show Gd _ _ _ _ _ _ _ _ 0 [(0, .ref B), (1, .long n)] [] (0, 0) _
  refine Gd.of (ckX7 _ _) tX7_init_ok (cuts := lf 15 3) 60 ?_
  refine ⟨Nat.le_of_ble_eq_true rfl, ⟨Nat.le_of_ble_eq_true rfl, Nat.le_of_ble_eq_true rfl⟩, ?_⟩
  refine ⟨by decide, ⟨by have z := mNs; dsimp only [rmN]; omega, by have z := mNs; dsimp only [rmN]; omega⟩, ?_⟩
  rw [hs]
  refine ⟨Nat.le_of_ble_eq_true rfl, ?_⟩
  refine eC.i (c_Sha_init (mAt.new hs (by omega)) (by show S.1 + 1 = _; omega)) ⟨Nat.le_of_ble_eq_true rfl, Nat.le_of_ble_eq_true rfl⟩ ⟨by have z := mNs; dsimp only [rmN]; omega, by have z := mNs; dsimp only [rmN]; omega⟩ (fun v S5 hk => ?_)
  obtain ⟨rfl, n5, r5⟩ := hk
  have n51 := n5.1
  have t5 : tf S S5 (fun _ => False) := tf.push.tr (tf.nw n5 (by show S.1 + 1 ≤ _; omega)) (fun q hq z => by omega)
  have h5 := h.tf t5 (fun z => z)
  refine ⟨by first | exact Or.inl rfl | exact Or.inr ⟨rfl, rfl, rfl⟩, ?_⟩
  refine eP.i (h5) (Nat.le_of_ble_eq_true rfl) rfl rfl ?_
  exact k15 _ (by show S5.1 = _; omega) (((kb.push (by omega)).tr (n5.2.mono (by omega))).tr (kb.up (Nat.le_refl _))) h5.up (r5.tf (tf.up (X := fun q => q = B) rfl) (fun q a b => by omega))
end GWI
