/-! numbers -/
theorem i_lt0 {k : Int32} : k < 0 ↔ k.toInt < 0 := by rw [Int32.lt_iff_toInt_lt]; rfl
theorem i_ge0 {k : Int32} : 0 ≤ k ↔ 0 ≤ k.toInt := by rw [Int32.le_iff_toInt_le]; rfl
theorem i_ltn {k : Int32} {n : Nat} (h : n < 2 ^ 31) : k < nI n ↔ k.toInt < n := by rw [Int32.lt_iff_toInt_lt, nI_toInt h]
theorem i_nlt {k : Int32} {n : Nat} (h : n < 2 ^ 31) : nI n < k ↔ (n : Int) < k.toInt := by rw [Int32.lt_iff_toInt_lt, nI_toInt h]
theorem i_nle {k : Int32} {n : Nat} (h : n < 2 ^ 31) : nI n ≤ k ↔ (n : Int) ≤ k.toInt := by rw [Int32.le_iff_toInt_le, nI_toInt h]
theorem i_len {k : Int32} {n : Nat} (h : n < 2 ^ 31) : k ≤ nI n ↔ k.toInt ≤ n := by rw [Int32.le_iff_toInt_le, nI_toInt h]
theorem i_cl {k : Int32} : k.toNatClampNeg = k.toInt.toNat := rfl
theorem i_range (k : Int32) : -2147483648 ≤ k.toInt ∧ k.toInt < 2147483648 := ⟨by have := Int32.le_toInt k; omega, by have := Int32.toInt_lt k; omega⟩
theorem i_add {a b : Int32} (h1 : -2147483648 ≤ a.toInt + b.toInt) (h2 : a.toInt + b.toInt < 2147483648) : (a + b).toInt = a.toInt + b.toInt := by
  rw [Int32.toInt_add]
  exact Int.bmod_eq_of_le (by omega) (by omega)
theorem i_sub {a b : Int32} (h1 : -2147483648 ≤ a.toInt - b.toInt) (h2 : a.toInt - b.toInt < 2147483648) : (a - b).toInt = a.toInt - b.toInt := by
  rw [Int32.toInt_sub]
  exact Int.bmod_eq_of_le (by omega) (by omega)
theorem i_of {k : Int32} (h : 0 ≤ k.toInt) : k = nI k.toInt.toNat := by
  apply Int32.toInt_inj.mp
  have := i_range k
  rw [nI_toInt (by omega)]
  omega
/-! frames -/
def fr (S S' : mS) (X : Nat → Prop) : Prop := S'.1 = S.1 ∧ ∀ q, ¬ X q → S'.2 q = S.2 q
theorem fr.rf {S : mS} {X : Nat → Prop} : fr S S X := ⟨rfl, fun _ _ => rfl⟩
theorem fr.tr {S S1 S2 : mS} {X : Nat → Prop} (h : fr S S1 X) (g : fr S1 S2 X) : fr S S2 X := ⟨g.1.trans h.1, fun q hq => (g.2 q hq).trans (h.2 q hq)⟩
theorem fr.mono {S S' : mS} {X Y : Nat → Prop} (h : fr S S' X) (m : ∀ q, X q → Y q) : fr S S' Y := ⟨h.1, fun q hq => h.2 q (fun z => hq (m q z))⟩
theorem fr.up {S : mS} {a : Nat} {e : va_E} {X : Nat → Prop} (hx : X a) : fr S (mUp S a e) X := ⟨rfl, fun q hq => by
  have : q ≠ a := fun z => hq (by rw [z]; exact hx)
  simp [mUp, va_up, this]⟩
theorem mAt.fr {G : mG} {S S' : mS} {X : Nat → Prop} {a : Nat} {e : va_E} (h : mAt G S a e) (f : fr S S' X) (hx : ¬ X a) : mAt G S' a e := ⟨h.1, by rw [f.1]; exact h.2.1, (f.2 a hx).trans h.2.2⟩
theorem mAt.up {G : mG} {S : mS} {a : Nat} {e e' : va_E} (h : mAt G S a e) : mAt G (mUp S a e') a e' := ⟨h.1, h.2.1, by simp [mUp, va_up]⟩
theorem mAt.ne {G : mG} {S : mS} {a b : Nat} {e e' : va_E} (h : mAt G S a e) (hb : a ≠ b) : mAt G (mUp S b e') a e := ⟨h.1, h.2.1, by
  have := h.2.2
  simp [mUp, va_up, hb, this]⟩
/-! a row of bytes: two cells, the object and its array -/
def isB (x : Int32) : Prop := x.toInt8.toInt32 = x
theorem isB_nar (x : Int32) : isB x.toInt8.toInt32 := by
  unfold isB
  have h := pk_vb x
  rw [vp_nar_byte] at h
  exact h
theorem isB_0 : isB 0 := by unfold isB; decide
theorem isB_fits {x : Int32} (h : isB x) : fits .byte (.int x) = true := by rw [← h]; exact pk_fb x
def Rl (G : mG) (S : mS) (a cap : Nat) (l : List Int32) : Prop := ∃ f : Nat → Int32, mAt G S a (.inr (4, [.ref (a + 1), .int (nI l.length)])) ∧ mAt G S (a + 1) (eBy G cap f) ∧ l.length ≤ cap ∧ cap < 100000 ∧ (∀ j, isB (f j)) ∧ ∀ j, j < l.length → f j = l.getD j 0
abbrev xR (a : Nat) : Nat → Prop := fun q => q = a ∨ q = a + 1
theorem Rl.fr {G : mG} {S S' : mS} {X : Nat → Prop} {a cap : Nat} {l : List Int32} (h : Rl G S a cap l) (f : fr S S' X) (h0 : ¬ X a) (h1 : ¬ X (a + 1)) : Rl G S' a cap l := by
  obtain ⟨g, g1, g2, g3⟩ := h
  exact ⟨g, g1.fr f h0, g2.fr f h1, g3⟩
theorem Rl.le {G : mG} {S : mS} {a cap : Nat} {l : List Int32} (h : Rl G S a cap l) : l.length ≤ cap ∧ cap < 100000 := by
  obtain ⟨g, g1, g2, g3, g4, -⟩ := h
  exact ⟨g3, g4⟩
theorem Rl.b {G : mG} {S : mS} {a cap : Nat} {l : List Int32} (h : Rl G S a cap l) (j : Nat) : isB (l.getD j 0) := by
  obtain ⟨g, g1, g2, g3, g4, g5, g6⟩ := h
  by_cases hj : j < l.length
  · rw [← g6 j hj]; exact g5 j
  · rw [List.getD_eq_getElem?_getD, List.getElem?_eq_none (by omega)]; exact isB_0
def rAt (l : List Int32) (k : Int32) : Int32 := if 0 ≤ k.toInt ∧ k.toInt < l.length then l.getD k.toInt.toNat 0 &&& 255 else -1
theorem eR.int {x : Int32} {mc ms : Nat} {A : Prop} (h : A) : eR (some .int) (some (.int x)) mc ms (0, 0) A := ⟨⟨Nat.zero_le _, Nat.zero_le _⟩, ⟨_, rfl, rfl⟩, h⟩
theorem eR.t {mc ms : Nat} {A : Prop} (h : A) : eR (some .boolean) (some (.int 1)) mc ms (0, 0) A := ⟨⟨Nat.zero_le _, Nat.zero_le _⟩, ⟨_, rfl, rfl⟩, h⟩
theorem eR.f {mc ms : Nat} {A : Prop} (h : A) : eR (some .boolean) (some (.int 0)) mc ms (0, 0) A := ⟨⟨Nat.zero_le _, Nat.zero_le _⟩, ⟨_, rfl, rfl⟩, h⟩
theorem eR.v {mc ms : Nat} {A : Prop} (h : A) : eR none none mc ms (0, 0) A := ⟨⟨Nat.zero_le _, Nat.zero_le _⟩, rfl, h⟩
theorem eR.o {v : Nat} {n : String} {mc ms : Nat} {A : Prop} (h : A) : eR (some (.object n)) (some (.ref v)) mc ms (0, 0) A := ⟨⟨Nat.zero_le _, Nat.zero_le _⟩, ⟨_, rfl, Or.inl ⟨_, rfl⟩⟩, h⟩
theorem eR.n {n : String} {mc ms : Nat} {A : Prop} (h : A) : eR (some (.object n)) (some .null) mc ms (0, 0) A := ⟨⟨Nat.zero_le _, Nat.zero_le _⟩, ⟨_, rfl, Or.inl ⟨_, rfl⟩⟩, h⟩
section ROW
variable {G : mG} {S : mS} {a cap : Nat} {l : List Int32}
theorem c_Row_has {k : Int32} (h : Rl G S a cap l) :
    mCon G yX4_has cX4_has 2 (some .boolean) (rmD 0) [.ref a, .int k] S (fun v S' => S' = S ∧ v = some (.int (if 0 ≤ k.toInt ∧ k.toInt < l.length then 1 else 0))) := by
  obtain ⟨f, g1, g2, g3, g4, g5, g6⟩ := h
  refine mCon.of (I := miX4 false (some .boolean)) (by decide) rfl rfl (fun h => by cases h) (fun _ => rfl) (Nat.le_of_ble_eq_true rfl) ?_
  refine Gd.of (ckX4 _ _) tX4_has_ok (cuts := fun _ => none) 40 ?_
  refine eB.i (fun h1 => ?_) (fun h1 => ?_)
  · rw [i_lt0] at h1
    exact eR.f ⟨rfl, by rw [if_neg (by omega)]⟩
  · rw [i_lt0] at h1
    refine eG.i g1 rfl ?_
    refine eB.i (fun h2 => ?_) (fun h2 => ?_)
    · rw [i_nle (by omega)] at h2
      exact eR.f ⟨rfl, by rw [if_neg (by omega)]⟩
    · rw [i_nle (by omega)] at h2
      exact eR.t ⟨rfl, by rw [if_pos (by omega)]⟩
theorem c_Row_at {k : Int32} (h : Rl G S a cap l) :
    mCon G yX4_at cX4_at 2 (some .int) (rmD 0) [.ref a, .int k] S (fun v S' => S' = S ∧ v = some (.int (rAt l k))) := by
  obtain ⟨f, g1, g2, g3, g4, g5, g6⟩ := h
  refine mCon.of (I := miX4 false (some .int)) (by decide) rfl rfl (fun h => by cases h) (fun _ => rfl) (Nat.le_of_ble_eq_true rfl) ?_
  refine Gd.of (ckX4 _ _) tX4_at_ok (cuts := fun _ => none) 40 ?_
  refine eB.i (fun h1 => ?_) (fun h1 => ?_)
  · rw [i_lt0] at h1
    exact eR.int ⟨rfl, by rw [rAt, if_neg (by omega)]⟩
  · rw [i_lt0] at h1
    refine eG.i g1 rfl ?_
    refine eB.i (fun h2 => ?_) (fun h2 => ?_)
    · rw [i_nle (by omega)] at h2
      exact eR.int ⟨rfl, by rw [rAt, if_neg (by omega)]⟩
    · rw [i_nle (by omega)] at h2
      refine eG.i g1 rfl ?_
      refine eLb.i (i := k) g2 (vp_in_iff.mpr (by omega)) ?_
      refine eR.int ⟨rfl, ?_⟩
      rw [rAt, if_pos (by omega), i_cl, g6 _ (by omega)]
theorem c_Row_empty (h : Rl G S a cap l) :
    mCon G yX4_empty cX4_empty 1 none (rmD 0) [.ref a] S (fun v S' => v = none ∧ fr S S' (xR a) ∧ Rl G S' a cap []) := by
  obtain ⟨f, g1, g2, g3, g4, g5, g6⟩ := h
  refine mCon.of (I := miX4 false none) (by decide) rfl rfl (fun h => by cases h) (fun _ => rfl) (Nat.le_of_ble_eq_true rfl) ?_
  refine Gd.of (ckX4 _ _) tX4_empty_ok (cuts := fun _ => none) 40 ?_
  refine ⟨Or.inl rfl, ?_⟩
  refine eP.i g1 (Nat.le_of_ble_eq_true rfl) rfl rfl ?_
  refine eR.v ⟨rfl, fr.up (Or.inl rfl), f, g1.up, g2.ne (by omega), Nat.zero_le _, g4, g5, fun j hj => ?_⟩
  exact absurd hj (Nat.not_lt_zero j)
theorem c_Row_put {k x : Int32} (h : Rl G S a cap l) :
    mCon G yX4_put cX4_put 3 none (rmD 0) [.ref a, .int k, .int x] S (fun v S' => v = none ∧ fr S S' (xR a) ∧ Rl G S' a cap (if 0 ≤ k.toInt ∧ k.toInt < l.length then l.set k.toInt.toNat x.toInt8.toInt32 else l)) := by
  obtain ⟨f, g1, g2, g3, g4, g5, g6⟩ := h
  refine mCon.of (I := miX4 false none) (by decide) rfl rfl (fun h => by cases h) (fun _ => rfl) (Nat.le_of_ble_eq_true rfl) ?_
  refine Gd.of (ckX4 _ _) tX4_put_ok (cuts := fun _ => none) 40 ?_
  refine eB.i (fun h1 => ?_) (fun h1 => ?_)
  · rw [i_lt0] at h1
    exact eR.v ⟨rfl, fr.rf, by rw [if_neg (by omega)]; exact ⟨f, g1, g2, g3, g4, g5, g6⟩⟩
  · rw [i_lt0] at h1
    refine eG.i g1 rfl ?_
    refine eB.i (fun h2 => ?_) (fun h2 => ?_)
    · rw [i_nle (by omega)] at h2
      exact eR.v ⟨rfl, fr.rf, by rw [if_neg (by omega)]; exact ⟨f, g1, g2, g3, g4, g5, g6⟩⟩
    · rw [i_nle (by omega)] at h2
      refine eG.i g1 rfl ?_
      refine eSb.i g2 (vp_in_iff.mpr (by omega)) ?_
      refine eR.v ⟨rfl, fr.up (Or.inr rfl), ?_⟩
      rw [if_pos (by omega)]
      refine ⟨_, by rw [List.length_set]; exact g1.ne (by omega), g2.up, by rw [List.length_set]; exact g3, g4, fun j => ?_, fun j hj => ?_⟩
      · by_cases hq : j = k.toNatClampNeg
        · simp only [upd, hq, if_true]; exact isB_nar _
        · simp only [upd, hq, if_false]; exact g5 j
      · rw [List.length_set] at hj
        rw [i_cl, isB_nar x]
        by_cases hq : j = k.toInt.toNat
        · subst hq
          simp only [upd, if_true]
          rw [List.getD_eq_getElem?_getD, List.getElem?_set_self hj]
          rfl
        · simp only [upd, hq, if_false, g6 j hj]
          rw [List.getD_eq_getElem?_getD, List.getD_eq_getElem?_getD, List.getElem?_set_ne (fun z => hq z.symm)]
/-- four bytes as a number, the highest first -/
def num4 (l : List Int32) (j : Nat) : Int32 := (((l.getD j 0 <<< (24 &&& 31) ||| ((l.getD (j + 1) 0 &&& 255) <<< (16 &&& 31))) ||| ((l.getD (j + 2) 0 &&& 255) <<< (8 &&& 31))) ||| (l.getD (j + 3) 0 &&& 255))
def rNum (l : List Int32) (k : Int32) : Int32 := if 0 ≤ k.toInt ∧ k.toInt + 4 ≤ l.length then num4 l k.toInt.toNat else -1
theorem c_Row_number {k : Int32} (h : Rl G S a cap l) :
    mCon G yX4_number cX4_number 2 (some .int) (rmD 0) [.ref a, .int k] S (fun v S' => S' = S ∧ v = some (.int (rNum l k))) := by
  obtain ⟨f, g1, g2, g3, g4, g5, g6⟩ := h
  refine mCon.of (I := miX4 false (some .int)) (by decide) rfl rfl (fun h => by cases h) (fun _ => rfl) (Nat.le_of_ble_eq_true rfl) ?_
  refine Gd.of (ckX4 _ _) tX4_number_ok (cuts := fun _ => none) 80 ?_
  refine eB.i (fun h1 => ?_) (fun h1 => ?_)
  · rw [i_lt0] at h1
    exact eR.int ⟨rfl, by rw [rNum, if_neg (by omega)]⟩
  · rw [i_lt0] at h1
    have e4 : (4 : Int32) = nI 4 := rfl
    have hs : (nI l.length - 4).toInt = (l.length : Int) - 4 := by
      rw [e4]
      exact pk_sub_toInt (by omega) (by omega)
    refine eG.i g1 rfl ?_
    refine eB.i (fun h2 => ?_) (fun h2 => ?_)
    · rw [Int32.le_iff_toInt_le, hs] at h2
      have hk := i_of (k := k) (by omega)
      generalize hj : k.toInt.toNat = j at hk
      have hj2 : j + 4 ≤ l.length := by omega
      subst hk
      refine eG.i g1 rfl ?_
      refine eLb.i (i := nI j) g2 (vp_in_nI (by omega) (by omega)) ?_
      refine eG.i g1 rfl ?_
      refine eLb.i (i := nI j + 1) g2 ?_ ?_
      · rw [nI_1]; exact vp_in_nI (by omega) (by omega)
      refine eG.i g1 rfl ?_
      refine eLb.i (i := nI j + 2) g2 ?_ ?_
      · rw [show (2 : Int32) = nI 2 from rfl, nI_add]; exact vp_in_nI (by omega) (by omega)
      refine eG.i g1 rfl ?_
      refine eLb.i (i := nI j + 3) g2 ?_ ?_
      · rw [show (3 : Int32) = nI 3 from rfl, nI_add]; exact vp_in_nI (by omega) (by omega)
      refine eR.int ⟨rfl, ?_⟩
      rw [nI_toInt (by omega)] at hj h2 h1
      rw [rNum, if_pos (by rw [nI_toInt (by omega)]; omega), nI_toInt (by omega)]
      rw [nI_1, show (2 : Int32) = nI 2 from rfl, show (3 : Int32) = nI 3 from rfl, nI_add, nI_add, nI_clamp (by omega), nI_clamp (by omega), nI_clamp (by omega), nI_clamp (by omega)]
      rw [g6 _ (by omega), g6 _ (by omega), g6 _ (by omega), g6 _ (by omega)]
      rfl
    · rw [Int32.le_iff_toInt_le, hs] at h2
      exact eR.int ⟨rfl, by rw [rNum, if_neg (by omega)]⟩
theorem c_Row_add {x : Int32} (h : Rl G S a cap l) (hl : l.length < cap) :
    mCon G yX4_add cX4_add 2 none (rmD 0) [.ref a, .int x] S (fun v S' => v = none ∧ fr S S' (xR a) ∧ Rl G S' a cap (l ++ [x.toInt8.toInt32])) := by
  obtain ⟨f, g1, g2, g3, g4, g5, g6⟩ := h
  refine mCon.of (I := miX4 false none) (by decide) rfl rfl (fun h => by cases h) (fun _ => rfl) (Nat.le_of_ble_eq_true rfl) ?_
  refine Gd.of (ckX4 _ _) tX4_add_ok (cuts := fun _ => none) 40 ?_
  refine eG.i g1 rfl ?_
  refine eG.i g1 rfl ?_
  refine eN.i (t := 1) g2 (by decide) ?_
  refine eB.f (by rw [nI_leI (by omega) (by omega)]; omega) ?_
  refine eG.i g1 rfl ?_
  refine eG.i g1 rfl ?_
  refine eSb.i (i := nI l.length) g2 (vp_in_nI (by omega) (by omega)) ?_
  refine eG.i (g1.ne (by omega)) rfl ?_
  refine ⟨Or.inl rfl, ?_⟩
  refine eP.i (g1.ne (by omega)) (Nat.le_of_ble_eq_true rfl) rfl rfl ?_
  refine eR.v ⟨rfl, (fr.up (Or.inr rfl)).tr (fr.up (Or.inl rfl)), ?_⟩
  have e1 : (l ++ [x.toInt8.toInt32]).length = l.length + 1 := by simp
  refine ⟨_, ?_, (g2.up).ne (by omega), by omega, g4, fun j => ?_, fun j hj => ?_⟩
  · rw [e1, ← nI_1]; exact (g1.ne (by omega)).up
  · unfold upd
    split
    · exact isB_nar _
    · exact g5 j
  · rw [e1] at hj
    rw [nI_clamp (by omega), isB_nar x]
    by_cases hq : j = l.length
    · subst hq
      simp [upd]
    · simp only [upd, hq, if_false, g6 j (by omega)]
      rw [List.getD_eq_getElem?_getD, List.getD_eq_getElem?_getD, List.getElem?_append_left (by omega)]
theorem Rl.obj (h : Rl G S a cap l) : mAt G S a (.inr (4, [.ref (a + 1), .int (nI l.length)])) := by
  obtain ⟨f, g1, g2, g3⟩ := h
  exact g1
theorem c_Row_addNumber {x : Int32} (h : Rl G S a cap l) (hl : l.length + 4 ≤ cap) :
    mCon G yX4_addNumber cX4_addNumber 2 none (rmD 0) [.ref a, .int x] S (fun v S' => v = none ∧ fr S S' (xR a) ∧ Rl G S' a cap (l ++ [(x.toUInt32 >>> (Int32.toUInt32 24 &&& Int32.toUInt32 31)).toInt32.toInt8.toInt32, (x.toUInt32 >>> (Int32.toUInt32 16 &&& Int32.toUInt32 31)).toInt32.toInt8.toInt32, (x.toUInt32 >>> (Int32.toUInt32 8 &&& Int32.toUInt32 31)).toInt32.toInt8.toInt32, x.toInt8.toInt32])) := by
  obtain ⟨f, g1, g2, g3, g4, g5, g6⟩ := h
  refine mCon.of (I := miX4 false none) (by decide) rfl rfl (fun h => by cases h) (fun _ => rfl) (Nat.le_of_ble_eq_true rfl) ?_
  refine Gd.of (ckX4 _ _) tX4_addNumber_ok (cuts := fun _ => none) 80 ?_
  refine eG.i g1 rfl ?_
  refine eG.i g1 rfl ?_
  refine eN.i (t := 1) g2 (by decide) ?_
  refine eB.t ?_ ?_
  · rw [show (4 : Int32) = nI 4 from rfl, pk_sub (by omega), nI_leI (by omega) (by omega)]; omega
  refine eG.i g1 rfl ?_
  refine eG.i g1 rfl ?_
  refine eSb.i (i := nI l.length) g2 (vp_in_nI (by omega) (by omega)) ?_
  refine eG.i (g1.ne (by omega)) rfl ?_
  refine eG.i (g1.ne (by omega)) rfl ?_
  refine eSb.i (i := nI l.length + 1) g2.up ?_ ?_
  · rw [nI_1]; exact vp_in_nI (by omega) (by omega)
  refine eG.i ((g1.ne (by omega)).ne (by omega)) rfl ?_
  refine eG.i ((g1.ne (by omega)).ne (by omega)) rfl ?_
  refine eSb.i (i := nI l.length + 2) g2.up.up ?_ ?_
  · rw [show (2 : Int32) = nI 2 from rfl, nI_add]; exact vp_in_nI (by omega) (by omega)
  refine eG.i (((g1.ne (by omega)).ne (by omega)).ne (by omega)) rfl ?_
  refine eG.i (((g1.ne (by omega)).ne (by omega)).ne (by omega)) rfl ?_
  refine eSb.i (i := nI l.length + 3) g2.up.up.up ?_ ?_
  · rw [show (3 : Int32) = nI 3 from rfl, nI_add]; exact vp_in_nI (by omega) (by omega)
  refine eG.i ((((g1.ne (by omega)).ne (by omega)).ne (by omega)).ne (by omega)) rfl ?_
  refine ⟨Or.inl rfl, ?_⟩
  refine eP.i ((((g1.ne (by omega)).ne (by omega)).ne (by omega)).ne (by omega)) (Nat.le_of_ble_eq_true rfl) rfl rfl ?_
  refine eR.v ⟨rfl, ((((fr.up (Or.inr rfl)).tr (fr.up (Or.inr rfl))).tr (fr.up (Or.inr rfl))).tr (fr.up (Or.inr rfl))).tr (fr.up (Or.inl rfl)), ?_⟩
  refine ⟨_, ?_, (g2.up.up.up.up).ne (by omega), by simp; omega, g4, fun j => ?_, fun j hj => ?_⟩
  · rw [List.length_append, List.length_cons, List.length_cons, List.length_cons, List.length_cons, List.length_nil, ← nI_add]
    exact ((((g1.ne (by omega)).ne (by omega)).ne (by omega)).ne (by omega)).up
  · simp only [upd]
    split
    · exact isB_nar _
    · split
      · exact isB_nar _
      · split
        · exact isB_nar _
        · split
          · exact isB_nar _
          · exact g5 j
  · simp only [isB_nar _, nI_1, show (2 : Int32) = nI 2 from rfl, show (3 : Int32) = nI 3 from rfl, nI_add, upd]
    rw [nI_clamp (by omega), nI_clamp (by omega), nI_clamp (by omega), nI_clamp (by omega)]
    simp only [List.length_append, List.length_cons, List.length_nil] at hj
    by_cases h3 : j = l.length + 3
    · subst h3; simp [isB_nar x, show x.toInt8.toInt32.toInt8.toInt32 = x.toInt8.toInt32 from isB_nar x]
    · rw [if_neg h3]
      by_cases h2 : j = l.length + 2
      · subst h2; simp [show ∀ y : Int32, y.toInt8.toInt32.toInt8.toInt32 = y.toInt8.toInt32 from isB_nar]
      · rw [if_neg h2]
        by_cases h1 : j = l.length + 1
        · subst h1; simp [show ∀ y : Int32, y.toInt8.toInt32.toInt8.toInt32 = y.toInt8.toInt32 from isB_nar]
        · rw [if_neg h1]
          by_cases h0 : j = l.length
          · subst h0; simp [show ∀ y : Int32, y.toInt8.toInt32.toInt8.toInt32 = y.toInt8.toInt32 from isB_nar]
          · rw [if_neg h0, g6 j (by omega), List.getD_eq_getElem?_getD, List.getD_eq_getElem?_getD, List.getElem?_append_left (by omega)]
theorem c_Row_addPart {b cap2 s c : Nat} {l2 : List Int32} (h : Rl G S a cap l) (h2 : Rl G S b cap2 l2) (hd : b ≠ a ∧ b ≠ a + 1 ∧ a ≠ b + 1) (hs : s + c ≤ l2.length) (hc : l.length + c ≤ cap) :
    mCon G yX4_addPart cX4_addPart 4 none (rmD 1) [.ref a, .ref b, .int (nI s), .int (nI c)] S (fun v S' => v = none ∧ fr S S' (xR a) ∧ Rl G S' a cap (l ++ (l2.drop s).take c)) := by
  obtain ⟨f, g1, g2, g3, g4, g5, g6⟩ := h
  obtain ⟨f2, k1, k2, k3, k4, k5, k6⟩ := h2
  refine mCon.of (I := miX4 false none) (by decide) rfl rfl (fun h => by cases h) (fun _ => rfl) (Nat.le_of_ble_eq_true rfl) ?_
  refine Gd.of (ckX4 _ _) tX4_addPart_ok (cuts := fun _ => none) 60 ?_
  refine eB.f (nI_pos (by omega)) ?_
  refine eB.f (nI_pos (by omega)) ?_
  refine eG.i k1 rfl ?_
  refine eB.f ?_ ?_
  · rw [pk_sub (by omega), nI_ltI (by omega) (by omega)]; omega
  refine eG.i g1 rfl ?_
  refine eN.i (t := 1) g2 (by decide) ?_
  refine eG.i g1 rfl ?_
  refine eB.t ?_ ?_
  · rw [pk_sub (by omega), nI_leI (by omega) (by omega)]; omega
  refine eG.i k1 rfl ?_
  refine eG.i g1 rfl ?_
  refine eG.i g1 rfl ?_
  refine ⟨Nat.le_of_ble_eq_true rfl, ?_⟩
  refine eY.b ⟨nI_pos (by omega), nI_pos (by omega), nI_pos (by omega)⟩ ⟨Nat.le_of_ble_eq_true rfl, Nat.le_of_ble_eq_true rfl⟩ k2 g2 ?_ (fun j => isB_fits (k5 j)) ?_
  · rw [nI_clamp (by omega), nI_clamp (by omega), nI_clamp (by omega)]; omega
  refine eG.i (g1.ne (by omega)) rfl ?_
  refine ⟨Or.inl rfl, ?_⟩
  refine eP.i (g1.ne (by omega)) (Nat.le_of_ble_eq_true rfl) rfl rfl ?_
  refine eR.v ⟨rfl, (fr.up (Or.inr rfl)).tr (fr.up (Or.inl rfl)), ?_⟩
  rw [nI_clamp (by omega), nI_clamp (by omega), nI_clamp (by omega)]
  have e1 : (l ++ (l2.drop s).take c).length = l.length + c := by simp; omega
  refine ⟨_, ?_, (g2.up).ne (by omega), by omega, g4, fun j => ?_, fun j hj => ?_⟩
  · rw [e1, ← nI_add]; exact (g1.ne (by omega)).up
  · unfold va_cpy
    split
    · exact k5 _
    · exact g5 _
  · rw [e1] at hj
    by_cases hq : j < l.length
    · rw [pk_cpy_out (Or.inl hq), g6 j hq, List.getD_eq_getElem?_getD, List.getD_eq_getElem?_getD, List.getElem?_append_left hq]
    · rw [pk_cpy_in (by omega) (by omega), k6 _ (by omega), List.getD_eq_getElem?_getD, List.getD_eq_getElem?_getD, List.getElem?_append_right (by omega), List.getElem?_take_of_lt (by omega), List.getElem?_drop]
end ROW
