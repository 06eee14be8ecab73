/-! the reference's block -/
theorem and24 (b : Int32) : (b &&& 255) <<< (24 &&& 31) = b <<< (24 &&& 31) := by
  apply Int32.toBitVec_inj.mp
  apply BitVec.eq_of_getLsbD_eq
  intro i hi
  simp only [Int32.toBitVec_shiftLeft, Int32.toBitVec_and]
  have e : ((24 : Int32) &&& 31).toBitVec.smod 32 = 24#32 := by decide
  simp only [show ((24 : Int32).toBitVec &&& (31 : Int32).toBitVec).smod 32 = 24#32 from by decide]
  simp only [BitVec.shiftLeft_eq', BitVec.getLsbD_shiftLeft, BitVec.getLsbD_and]
  by_cases h : i < 24
  · simp [h]
  · have h255 : ∀ k, k < 8 → (Int32.toBitVec 255).getLsbD k = true := by decide
    have e2 : (24#32).toNat = 24 := rfl
    rw [e2, h255 (i - 24) (by omega)]
    simp
def nu4 (f : Nat → Int32) (j : Nat) : Int32 := ((((f j &&& 255) <<< (24 &&& 31)) ||| ((f (j + 1) &&& 255) <<< (16 &&& 31))) ||| ((f (j + 2) &&& 255) <<< (8 &&& 31))) ||| (f (j + 3) &&& 255)
theorem nu4_eq {f : Nat → Int32} {p : List Int32} {s j : Nat} (h : ∀ k, k < 4 → f (s + k) = p.getD (j + k) 0) : nu4 f s = num4 p j := by
  unfold nu4 num4
  rw [and24, show f s = p.getD j 0 from h 0 (by omega), h 1 (by omega), h 2 (by omega), h 3 (by omega)]
theorem c_M_turn {G : mG} {S : mS} {x n m : Int32} (h : 32 - n = m) : mCon G yX8_turned cX8_turned 2 (some .int) (rmD 0) [.int x, .int n] S (fun v S' => S' = S ∧ v = some (.int (rot x n m))) := by
  rw [← h]
  exact c_M_turned
def bkC : Nat → Option Nat := nd 230 (nd 90 (lf 2 3) (nd 200 (lf 97 3) (lf 224 3))) (nd 300 (lf 250 3) (nd 450 (lf 427 6) (lf 482 3)))
section BLK
variable {G : mG} {S S' : mS} {M ns nl nn nd k : Nat} {A A1 : AA} {p : List Int32} {m : Nat → Int32}
def bkK (G : mG) (S : mS) (M ns nl nn nd : Nat) (A : AA) (m : Nat → Int32) : Option Value → mS → Prop := fun v S' => v = none ∧ fr S S' (xD M) ∧ ∃ A', MH G S' M A' ns nl nn nd ∧ (∀ i, i < 3 ∨ 5 < i → A' i = A i) ∧ ∀ j, j < 8 → A' 4 j = blk (A 4) m j
abbrev bkI : mI := miX8 false none
theorem s8add_of (f V : Nat → Int32) : ∀ j, j < 8 → s8add f (s8of V) j = f j + V j := by
  intro j hj
  match j, hj with
  | 0, _ => rfl
  | 1, _ => rfl
  | 2, _ => rfl
  | 3, _ => rfl
  | 4, _ => rfl
  | 5, _ => rfl
  | 6, _ => rfl
  | 7, _ => rfl
theorem bk5 {V : Nat → Int32} {at0 : Int32} (hV : rnds KT (wX 48 m) 64 (s8of (A 4)) = s8of V) : ∀ (d t : Nat) (x : Int32) (S1 : mS) (A1 : AA), t + d = 8 → x = nI t → fr S S1 (xD M) → MH G S1 M A1 ns nl nn nd → (∀ i, i < 3 ∨ 5 < i → A1 i = A i) → (∀ j, j < 8 → A1 5 j = V j) → (∀ j, j < 8 → A1 4 j = if j < t then A 4 j + V j else A 4 j) →
    Gd G bkI cX8_block 6 (rmD 1) 0 0 (bkK G S M ns nl nn nd A m) 482 [(0, .ref M), (1, .int at0), (2, .int x)] [] (0, 0) S1 := by
  intro d
  induction d with
  | zero =>
    intro t x S1 A1 ht hx f1 h1 c1 c2 c3
    subst hx
    refine Gd.of (ckX8 _ _) tX8_block_ok (cuts := bkC) 80 ?_
    refine eB.t (by rw [show (8 : Int32) = nI 8 from rfl, nI_leI (by omega) (by omega)]; omega) ?_
    refine eR.v ⟨rfl, f1, A1, h1, c1, fun j hj => ?_⟩
    rw [c3 j hj, if_pos (by omega), blk, hV, s8add_of _ _ j hj]
  | succ d ih =>
    intro t x S1 A1 ht hx f1 h1 c1 c2 c3
    subst hx
    have hin : vp_in (nI t) 8 := vp_in_nI (by omega) (by omega)
    have hcl : (nI t).toNatClampNeg = t := nI_clamp (by omega)
    refine Gd.of (ckX8 _ _) tX8_block_ok (cuts := bkC) 80 ?_
    refine eB.f (by rw [show (8 : Int32) = nI 8 from rfl, nI_leI (by omega) (by omega)]; omega) ?_
    refine eG.i h1.1 rfl ?_
    refine eL.i (i := nI t) h1.a4 hin ?_
    refine eG.i h1.1 rfl ?_
    refine eL.i (i := nI t) h1.a5 hin ?_
    refine eS.i (i := nI t) h1.a4 hin ?_
    refine ih (t + 1) _ _ _ (by omega) (nI_1 t) (f1.tr (xD_up (by omega))) h1.s4 (fun i hi => ?_) (fun j hj => ?_) (fun j hj => ?_)
    · rw [up_n (by omega)]; exact c1 i hi
    · rw [up_n (by omega)]; exact c2 j hj
    · rw [up_s, hcl]
      by_cases e : j = t
      · subst e
        rw [pk_us, if_pos (by omega), c3 j hj, c2 j hj, if_neg (by omega)]
      · rw [pk_un e, c3 j hj]
        by_cases e2 : j < t
        · rw [if_pos e2, if_pos (by omega)]
        · rw [if_neg e2, if_neg (by omega)]
/-- the inner loop: v moves up by one; then v 4 and v 0 -/
theorem bk4i {V : Nat → Int32} {at0 one two : Int32} {t : Nat} (nx : ∀ (S1 : mS) (A1 : AA), fr S S1 (xD M) → MH G S1 M A1 ns nl nn nd → (∀ i, i < 3 ∨ 5 < i → A1 i = A i) → A1 3 = A1 3 → (∀ j, j < 8 → A1 5 j = if j = 0 then one + two else if j = 4 then V 3 + one else V (j - 1)) → (∀ j, j < 8 → A1 4 j = A 4 j) → (∀ j, j < 64 → A1 3 j = wX 48 m j) → Gd G bkI cX8_block 6 (rmD 1) 0 0 (bkK G S M ns nl nn nd A m) 250 [(0, .ref M), (1, .int at0), (2, .int (nI t + 1))] [] (0, 0) S1) :
    ∀ (q : Nat) (x : Int32) (S1 : mS) (A1 : AA), q ≤ 7 → x = nI q → fr S S1 (xD M) → MH G S1 M A1 ns nl nn nd → (∀ i, i < 3 ∨ 5 < i → A1 i = A i) → (∀ j, j < 8 → A1 5 j = if q < j then V (j - 1) else V j) → (∀ j, j < 8 → A1 4 j = A 4 j) → (∀ j, j < 64 → A1 3 j = wX 48 m j) →
    Gd G bkI cX8_block 6 (rmD 1) 0 0 (bkK G S M ns nl nn nd A m) 427 [(0, .ref M), (1, .int at0), (2, .int (nI t)), (3, .int one), (4, .int two), (5, .int x)] [] (0, 0) S1 := by
  intro q
  induction q with
  | zero =>
    intro x S1 A1 hq hx f1 h1 c1 c2 c3 c4
    subst hx
    refine Gd.of (ckX8 _ _) tX8_block_ok (cuts := bkC) 80 ?_
    refine eB.t (by decide) ?_
    refine eG.i h1.1 rfl ?_
    refine eL.i (i := 4) h1.a5 (vp_in_iff.mpr (by decide)) ?_
    refine eS.i (i := 4) h1.a5 (vp_in_iff.mpr (by decide)) ?_
    have h2 := h1.s5 (f := upd (A1 5) (4 : Int32).toNatClampNeg (A1 5 (4 : Int32).toNatClampNeg + one))
    refine eG.i h2.1 rfl ?_
    refine eS.i (i := 0) h2.a5 (vp_in_iff.mpr (by decide)) ?_
    refine nx _ _ ((f1.tr (xD_up (by omega))).tr (xD_up (by omega))) h2.s5 (fun i hi => ?_) rfl (fun j hj => ?_) (fun j hj => ?_) (fun j hj => ?_)
    · rw [up_n (by omega), up_n (by omega)]; exact c1 i hi
    · rw [up_s, up_s, show (0 : Int32).toNatClampNeg = 0 from rfl, show (4 : Int32).toNatClampNeg = 4 from rfl]
      by_cases e : j = 0
      · rw [e, pk_us, if_pos rfl]
      · rw [pk_un e, if_neg e]
        by_cases e2 : j = 4
        · rw [e2, pk_us, if_pos rfl, c2 4 (by omega), if_pos (by omega)]
        · rw [pk_un e2, if_neg e2, c2 j hj, if_pos (by omega)]
    · rw [up_n (by omega), up_n (by omega)]; exact c3 j hj
    · rw [up_n (by omega), up_n (by omega)]; exact c4 j hj
  | succ q ih =>
    intro x S1 A1 hq hx f1 h1 c1 c2 c3 c4
    subst hx
    have e1 : nI (q + 1) - 1 = nI q := by rw [show (1 : Int32) = nI 1 from rfl, pk_sub (by omega)]; rfl
    have e3 : nI (q + 1) + (-1) = nI q := by rw [← Int32.sub_eq_add_neg]; exact e1
    have hcl : (nI (q + 1)).toNatClampNeg = q + 1 := nI_clamp (by omega)
    refine Gd.of (ckX8 _ _) tX8_block_ok (cuts := bkC) 80 ?_
    refine eB.f (by rw [show (0 : Int32) = nI 0 from rfl, nI_leI (by omega) (by omega)]; omega) ?_
    refine eG.i h1.1 rfl ?_
    refine eG.i h1.1 rfl ?_
    refine eL.i (i := nI (q + 1) - 1) h1.a5 (by rw [e1]; exact vp_in_nI (by omega) (by omega)) ?_
    refine eS.i (i := nI (q + 1)) h1.a5 (vp_in_nI (by omega) (by omega)) ?_
    refine ih _ _ _ (by omega) e3 (f1.tr (xD_up (by omega))) h1.s5 (fun i hi => ?_) (fun j hj => ?_) (fun j hj => ?_) (fun j hj => ?_)
    · rw [up_n (by omega)]; exact c1 i hi
    · rw [up_s, hcl, e1, nI_clamp (by omega)]
      by_cases e : j = q + 1
      · rw [e, pk_us, c2 q (by omega), if_neg (by omega), if_pos (by omega)]; rfl
      · rw [pk_un e, c2 j hj]
        by_cases e2 : q + 1 < j
        · rw [if_pos e2, if_pos (by omega)]
        · rw [if_neg e2, if_neg (by omega)]
    · rw [up_n (by omega)]; exact c3 j hj
    · rw [up_n (by omega)]; exact c4 j hj
set_option maxRecDepth 8000 in
theorem bk4 {at0 : Int32} (hk : ∀ j, j < 64 → A 1 j = KT j) : ∀ (d t : Nat) (x : Int32) (S1 : mS) (A1 : AA), t + d = 64 → x = nI t → fr S S1 (xD M) → MH G S1 M A1 ns nl nn nd → (∀ i, i < 3 ∨ 5 < i → A1 i = A i) → s8of (A1 5) = rnds KT (wX 48 m) t (s8of (A 4)) → (∀ j, j < 8 → A1 4 j = A 4 j) → (∀ j, j < 64 → A1 3 j = wX 48 m j) →
    Gd G bkI cX8_block 6 (rmD 1) 0 0 (bkK G S M ns nl nn nd A m) 250 [(0, .ref M), (1, .int at0), (2, .int x)] [] (0, 0) S1 := by
  intro d
  induction d with
  | zero =>
    intro t x S1 A1 ht hx f1 h1 c1 c2 c3 c4
    subst hx
    have e : t = 64 := by omega
    subst e
    refine Gd.of (ckX8 _ _) tX8_block_ok (cuts := bkC) 80 ?_
    refine eB.t (by decide) ?_
    exact bk5 c2.symm 8 0 _ S1 A1 (by omega) rfl f1 h1 c1 (fun j hj => rfl) (fun j hj => by rw [if_neg (by omega)]; exact c3 j hj)
  | succ d ih =>
    intro t x S1 A1 ht hx f1 h1 c1 c2 c3 c4
    subst hx
    have hin : vp_in (nI t) 64 := vp_in_nI (by omega) (by omega)
    have hcl : (nI t).toNatClampNeg = t := nI_clamp (by omega)
    have hk1 : A1 1 (nI t).toNatClampNeg = KT t := by rw [hcl, c1 1 (by omega)]; exact hk t (by omega)
    have hw1 : A1 3 (nI t).toNatClampNeg = wX 48 m t := by rw [hcl]; exact c4 t (by omega)
    have l8 : ∀ i : Nat, i < 8 → ∀ x : Int32, x = nI i → vp_in x 8 := fun i hi x hx => by rw [hx]; exact vp_in_nI hi (by omega)
    have i0 := l8 0 (by omega) 0 rfl
    have i1 := l8 1 (by omega) 1 rfl
    have i2 := l8 2 (by omega) 2 rfl
    have i4 := l8 4 (by omega) 4 rfl
    have i5 := l8 5 (by omega) 5 rfl
    have i6 := l8 6 (by omega) 6 rfl
    have i7 := l8 7 (by omega) 7 rfl
    refine Gd.of (ckX8 _ _) tX8_block_ok (cuts := bkC) 160 ?_
    refine eB.f (by rw [show (64 : Int32) = nI 64 from rfl, nI_leI (by omega) (by omega)]; omega) ?_
    refine eG.i h1.1 rfl ?_
    refine eL.i (i := 7) h1.a5 i7 ?_
    refine eG.i h1.1 rfl ?_
    refine eL.i (i := 4) h1.a5 i4 ?_
    refine ⟨Nat.le_of_ble_eq_true rfl, ?_⟩
    refine eC.z (c_M_turn (n := 6) (m := 26) rfl) ⟨rfl, rfl⟩ ⟨Nat.le_of_ble_eq_true rfl, Nat.le_of_ble_eq_true rfl⟩ ⟨Nat.zero_le _, Nat.zero_le _⟩ (fun v S9 hk => ?_)
    obtain ⟨rfl, rfl⟩ := hk
    refine eG.i h1.1 rfl ?_
    refine eL.i (i := 4) h1.a5 i4 ?_
    refine ⟨Nat.le_of_ble_eq_true rfl, ?_⟩
    refine eC.z (c_M_turn (n := 11) (m := 21) rfl) ⟨rfl, rfl⟩ ⟨Nat.le_of_ble_eq_true rfl, Nat.le_of_ble_eq_true rfl⟩ ⟨Nat.zero_le _, Nat.zero_le _⟩ (fun v S9 hk => ?_)
    obtain ⟨rfl, rfl⟩ := hk
    refine eG.i h1.1 rfl ?_
    refine eL.i (i := 4) h1.a5 i4 ?_
    refine ⟨Nat.le_of_ble_eq_true rfl, ?_⟩
    refine eC.z (c_M_turn (n := 25) (m := 7) rfl) ⟨rfl, rfl⟩ ⟨Nat.le_of_ble_eq_true rfl, Nat.le_of_ble_eq_true rfl⟩ ⟨Nat.zero_le _, Nat.zero_le _⟩ (fun v S9 hk => ?_)
    obtain ⟨rfl, rfl⟩ := hk
    refine eG.i h1.1 rfl ?_
    refine eL.i (i := 4) h1.a5 i4 ?_
    refine eG.i h1.1 rfl ?_
    refine eL.i (i := 5) h1.a5 i5 ?_
    refine eG.i h1.1 rfl ?_
    refine eL.i (i := 4) h1.a5 i4 ?_
    refine eG.i h1.1 rfl ?_
    refine eL.i (i := 6) h1.a5 i6 ?_
    refine eG.i h1.1 rfl ?_
    refine eL.i (i := nI t) h1.a1 hin ?_
    refine eG.i h1.1 rfl ?_
    refine eL.i (i := nI t) h1.a3 hin ?_
    refine eG.i h1.1 rfl ?_
    refine eL.i (i := 0) h1.a5 i0 ?_
    refine ⟨Nat.le_of_ble_eq_true rfl, ?_⟩
    refine eC.z (c_M_turn (n := 2) (m := 30) rfl) ⟨rfl, rfl⟩ ⟨Nat.le_of_ble_eq_true rfl, Nat.le_of_ble_eq_true rfl⟩ ⟨Nat.zero_le _, Nat.zero_le _⟩ (fun v S9 hk => ?_)
    obtain ⟨rfl, rfl⟩ := hk
    refine eG.i h1.1 rfl ?_
    refine eL.i (i := 0) h1.a5 i0 ?_
    refine ⟨Nat.le_of_ble_eq_true rfl, ?_⟩
    refine eC.z (c_M_turn (n := 13) (m := 19) rfl) ⟨rfl, rfl⟩ ⟨Nat.le_of_ble_eq_true rfl, Nat.le_of_ble_eq_true rfl⟩ ⟨Nat.zero_le _, Nat.zero_le _⟩ (fun v S9 hk => ?_)
    obtain ⟨rfl, rfl⟩ := hk
    refine eG.i h1.1 rfl ?_
    refine eL.i (i := 0) h1.a5 i0 ?_
    refine ⟨Nat.le_of_ble_eq_true rfl, ?_⟩
    refine eC.z (c_M_turn (n := 22) (m := 10) rfl) ⟨rfl, rfl⟩ ⟨Nat.le_of_ble_eq_true rfl, Nat.le_of_ble_eq_true rfl⟩ ⟨Nat.zero_le _, Nat.zero_le _⟩ (fun v S9 hk => ?_)
    obtain ⟨rfl, rfl⟩ := hk
    refine eG.i h1.1 rfl ?_
    refine eL.i (i := 0) h1.a5 i0 ?_
    refine eG.i h1.1 rfl ?_
    refine eL.i (i := 1) h1.a5 i1 ?_
    refine eG.i h1.1 rfl ?_
    refine eL.i (i := 0) h1.a5 i0 ?_
    refine eG.i h1.1 rfl ?_
    refine eL.i (i := 2) h1.a5 i2 ?_
    refine eG.i h1.1 rfl ?_
    refine eL.i (i := 1) h1.a5 i1 ?_
    refine eG.i h1.1 rfl ?_
    refine eL.i (i := 2) h1.a5 i2 ?_
    refine bk4i (V := A1 5) (t := t) (fun S2 A2 f2 h2 d1 _ d2 d3 d4 => ?_) 7 _ _ A1 (by omega) rfl f1 h1 c1 (fun j hj => by rw [if_neg (by omega)]) c3 c4
    refine ih (t + 1) _ S2 A2 (by omega) (nI_1 t) f2 h2 d1 ?_ d3 d4
    rw [rnds, ← c2]
    rw [hk1, hw1] at d2
    have g0 := d2 0 (by omega)
    have g1 := d2 1 (by omega)
    have g2 := d2 2 (by omega)
    have g3 := d2 3 (by omega)
    have g4 := d2 4 (by omega)
    have g5 := d2 5 (by omega)
    have g6 := d2 6 (by omega)
    have g7 := d2 7 (by omega)
    simp only [if_true, if_neg (show ¬ (1 : Nat) = 0 by decide), if_neg (show ¬ (1 : Nat) = 4 by decide), if_neg (show ¬ (2 : Nat) = 0 by decide), if_neg (show ¬ (2 : Nat) = 4 by decide), if_neg (show ¬ (3 : Nat) = 0 by decide), if_neg (show ¬ (3 : Nat) = 4 by decide), if_neg (show ¬ (4 : Nat) = 0 by decide), if_neg (show ¬ (5 : Nat) = 0 by decide), if_neg (show ¬ (5 : Nat) = 4 by decide), if_neg (show ¬ (6 : Nat) = 0 by decide), if_neg (show ¬ (6 : Nat) = 4 by decide), if_neg (show ¬ (7 : Nat) = 0 by decide), if_neg (show ¬ (7 : Nat) = 4 by decide)] at g0 g1 g2 g3 g4 g5 g6 g7
    unfold s8of
    rw [g0, g1, g2, g3, g4, g5, g6, g7]
    rfl
end BLK
