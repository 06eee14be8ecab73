section BLL
variable {G : mG} {S S' : mS} {M ns nl nn nd k : Nat} {A A1 : AA} {p : List Int32} {m : Nat → Int32}
theorem bk3 {at0 : Int32} (hk : ∀ j, j < 64 → A 1 j = KT j) : ∀ (d t : Nat) (x : Int32) (S1 : mS) (A1 : AA), t + d = 8 → x = nI t → fr S S1 (xD M) → MH G S1 M A1 ns nl nn nd → (∀ i, i < 3 ∨ 5 < i → A1 i = A i) → (∀ j, j < t → A1 5 j = A 4 j) → (∀ j, j < 8 → A1 4 j = A 4 j) → (∀ j, j < 64 → A1 3 j = wX 48 m j) →
    Gd G bkI cX8_block 6 (rmD 1) 0 0 (bkK G S M ns nl nn nd A m) 224 [(0, .ref M), (1, .int at0), (2, .int x)] [] (0, 0) S1 := by
  intro d
  induction d with
  | zero =>
    intro t x S1 A1 ht hx f1 h1 c1 c2 c3 c4
    subst hx
    have e : t = 8 := by omega
    subst e
    refine Gd.of (ckX8 _ _) tX8_block_ok (cuts := bkC) 80 ?_
    refine eB.t (by decide) ?_
    exact bk4 hk 64 0 _ S1 A1 (by omega) rfl f1 h1 c1 (by rw [rnds]; exact s8of_congr c2) c3 c4
  | succ d ih =>
    intro t x S1 A1 ht hx f1 h1 c1 c2 c3 c4
    subst hx
    have hin : vp_in (nI t) 8 := vp_in_nI (by omega) (by omega)
    have hcl : (nI t).toNatClampNeg = t := nI_clamp (by omega)
    refine Gd.of (ckX8 _ _) tX8_block_ok (cuts := bkC) 80 ?_
    refine eB.f (by rw [show (8 : Int32) = nI 8 from rfl, nI_leI (by omega) (by omega)]; omega) ?_
    refine eG.i h1.1 rfl ?_
    refine eG.i h1.1 rfl ?_
    refine eL.i (i := nI t) h1.a4 hin ?_
    refine eS.i (i := nI t) h1.a5 hin ?_
    refine ih (t + 1) _ _ _ (by omega) (nI_1 t) (f1.tr (xD_up (by omega))) h1.s5 (fun i hi => ?_) (fun j hj => ?_) (fun j hj => ?_) (fun j hj => ?_)
    · rw [up_n (by omega)]; exact c1 i hi
    · rw [up_s, hcl]
      by_cases e : j = t
      · rw [e, pk_us, c3 t (by omega)]
      · rw [pk_un e]; exact c2 j (by omega)
    · rw [up_n (by omega)]; exact c3 j hj
    · rw [up_n (by omega)]; exact c4 j hj
set_option maxRecDepth 4000 in
theorem bk2 {at0 : Int32} (hk : ∀ j, j < 64 → A 1 j = KT j) : ∀ (d n : Nat) (x : Int32) (S1 : mS) (A1 : AA), n + d = 48 → x = nI (16 + n) → fr S S1 (xD M) → MH G S1 M A1 ns nl nn nd → (∀ i, i < 3 ∨ 5 < i → A1 i = A i) → (∀ j, j < 8 → A1 4 j = A 4 j) → (∀ j, j < 16 + n → A1 3 j = wX n m j) →
    Gd G bkI cX8_block 6 (rmD 1) 0 0 (bkK G S M ns nl nn nd A m) 97 [(0, .ref M), (1, .int at0), (2, .int x)] [] (0, 0) S1 := by
  intro d
  induction d with
  | zero =>
    intro n x S1 A1 ht hx f1 h1 c1 c3 c4
    subst hx
    have e : n = 48 := by omega
    subst e
    refine Gd.of (ckX8 _ _) tX8_block_ok (cuts := bkC) 80 ?_
    refine eB.t (by decide) ?_
    exact bk3 hk 8 0 _ S1 A1 (by omega) rfl f1 h1 c1 (fun j hj => absurd hj (Nat.not_lt_zero j)) c3 c4
  | succ d ih =>
    intro n x S1 A1 ht hx f1 h1 c1 c3 c4
    subst hx
    have hcl : (nI (16 + n)).toNatClampNeg = 16 + n := nI_clamp (by omega)
    have e15 : nI (16 + n) - 15 = nI (16 + n - 15) := by rw [show (15 : Int32) = nI 15 from rfl, pk_sub (by omega)]
    have e2 : nI (16 + n) - 2 = nI (16 + n - 2) := by rw [show (2 : Int32) = nI 2 from rfl, pk_sub (by omega)]
    have e16 : nI (16 + n) - 16 = nI (16 + n - 16) := by rw [show (16 : Int32) = nI 16 from rfl, pk_sub (by omega)]
    have e7 : nI (16 + n) - 7 = nI (16 + n - 7) := by rw [show (7 : Int32) = nI 7 from rfl, pk_sub (by omega)]
    have v15 : A1 3 (nI (16 + n) - 15).toNatClampNeg = wX n m (16 + n - 15) := by rw [e15, nI_clamp (by omega)]; exact c4 _ (by omega)
    have v2 : A1 3 (nI (16 + n) - 2).toNatClampNeg = wX n m (16 + n - 2) := by rw [e2, nI_clamp (by omega)]; exact c4 _ (by omega)
    have v16 : A1 3 (nI (16 + n) - 16).toNatClampNeg = wX n m (16 + n - 16) := by rw [e16, nI_clamp (by omega)]; exact c4 _ (by omega)
    have v7 : A1 3 (nI (16 + n) - 7).toNatClampNeg = wX n m (16 + n - 7) := by rw [e7, nI_clamp (by omega)]; exact c4 _ (by omega)
    have i15 : vp_in (nI (16 + n) - 15) 64 := by rw [e15]; exact vp_in_nI (by omega) (by omega)
    have i2 : vp_in (nI (16 + n) - 2) 64 := by rw [e2]; exact vp_in_nI (by omega) (by omega)
    have i16 : vp_in (nI (16 + n) - 16) 64 := by rw [e16]; exact vp_in_nI (by omega) (by omega)
    have i7 : vp_in (nI (16 + n) - 7) 64 := by rw [e7]; exact vp_in_nI (by omega) (by omega)
    refine Gd.of (ckX8 _ _) tX8_block_ok (cuts := bkC) 160 ?_
    refine eB.f (by rw [show (64 : Int32) = nI 64 from rfl, nI_leI (by omega) (by omega)]; omega) ?_
    refine eG.i h1.1 rfl ?_
    refine eL.i (i := nI (16 + n) - 15) h1.a3 i15 ?_
    refine ⟨Nat.le_of_ble_eq_true rfl, ?_⟩
    refine eC.z (c_M_turn (n := 7) (m := 25) rfl) ⟨rfl, rfl⟩ ⟨Nat.le_of_ble_eq_true rfl, Nat.le_of_ble_eq_true rfl⟩ ⟨Nat.zero_le _, Nat.zero_le _⟩ (fun v S9 hk => ?_)
    obtain ⟨rfl, rfl⟩ := hk
    refine eG.i h1.1 rfl ?_
    refine eL.i (i := nI (16 + n) - 15) h1.a3 i15 ?_
    refine ⟨Nat.le_of_ble_eq_true rfl, ?_⟩
    refine eC.z (c_M_turn (n := 18) (m := 14) rfl) ⟨rfl, rfl⟩ ⟨Nat.le_of_ble_eq_true rfl, Nat.le_of_ble_eq_true rfl⟩ ⟨Nat.zero_le _, Nat.zero_le _⟩ (fun v S9 hk => ?_)
    obtain ⟨rfl, rfl⟩ := hk
    refine eG.i h1.1 rfl ?_
    refine eL.i (i := nI (16 + n) - 15) h1.a3 i15 ?_
    refine eG.i h1.1 rfl ?_
    refine eL.i (i := nI (16 + n) - 2) h1.a3 i2 ?_
    refine ⟨Nat.le_of_ble_eq_true rfl, ?_⟩
    refine eC.z (c_M_turn (n := 17) (m := 15) rfl) ⟨rfl, rfl⟩ ⟨Nat.le_of_ble_eq_true rfl, Nat.le_of_ble_eq_true rfl⟩ ⟨Nat.zero_le _, Nat.zero_le _⟩ (fun v S9 hk => ?_)
    obtain ⟨rfl, rfl⟩ := hk
    refine eG.i h1.1 rfl ?_
    refine eL.i (i := nI (16 + n) - 2) h1.a3 i2 ?_
    refine ⟨Nat.le_of_ble_eq_true rfl, ?_⟩
    refine eC.z (c_M_turn (n := 19) (m := 13) rfl) ⟨rfl, rfl⟩ ⟨Nat.le_of_ble_eq_true rfl, Nat.le_of_ble_eq_true rfl⟩ ⟨Nat.zero_le _, Nat.zero_le _⟩ (fun v S9 hk => ?_)
    obtain ⟨rfl, rfl⟩ := hk
    refine eG.i h1.1 rfl ?_
    refine eL.i (i := nI (16 + n) - 2) h1.a3 i2 ?_
    refine eG.i h1.1 rfl ?_
    refine eG.i h1.1 rfl ?_
    refine eL.i (i := nI (16 + n) - 16) h1.a3 i16 ?_
    refine eG.i h1.1 rfl ?_
    refine eL.i (i := nI (16 + n) - 7) h1.a3 i7 ?_
    refine eS.i (i := nI (16 + n)) h1.a3 (vp_in_nI (by omega) (by omega)) ?_
    refine ih (n + 1) _ _ _ (by omega) (nI_1 (16 + n)) (f1.tr (xD_up (by omega))) h1.s3 (fun i hi => ?_) (fun j hj => ?_) (fun j hj => ?_)
    · rw [up_n (by omega)]; exact c1 i hi
    · rw [up_n (by omega)]; exact c3 j hj
    · rw [up_s, hcl, v15, v2, v16, v7]
      by_cases e : j = 16 + n
      · rw [e, pk_us, wX, pk_us]
        rfl
      · rw [pk_un e, wX, pk_un e]; exact c4 j (by omega)
theorem bk1 (hk : ∀ j, j < 64 → A 1 j = KT j) (hkk : 64 * k + 64 ≤ 768) (hm : ∀ j, j < 16 → nu4 (A 6) (64 * k + 4 * j) = m j) : ∀ (d t : Nat) (x : Int32) (S1 : mS) (A1 : AA), t + d = 16 → x = nI t → fr S S1 (xD M) → MH G S1 M A1 ns nl nn nd → (∀ i, i < 3 ∨ 5 < i → A1 i = A i) → (∀ j, j < 8 → A1 4 j = A 4 j) → (∀ j, j < t → A1 3 j = m j) →
    Gd G bkI cX8_block 6 (rmD 1) 0 0 (bkK G S M ns nl nn nd A m) 2 [(0, .ref M), (1, .int (nI (64 * k))), (2, .int x)] [] (0, 0) S1 := by
  intro d
  induction d with
  | zero =>
    intro t x S1 A1 ht hx f1 h1 c1 c3 c4
    subst hx
    have e : t = 16 := by omega
    subst e
    refine Gd.of (ckX8 _ _) tX8_block_ok (cuts := bkC) 80 ?_
    refine eB.t (by decide) ?_
    exact bk2 hk 48 0 _ S1 A1 (by omega) rfl f1 h1 c1 c3 c4
  | succ d ih =>
    intro t x S1 A1 ht hx f1 h1 c1 c3 c4
    subst hx
    have hcl : (nI t).toNatClampNeg = t := nI_clamp (by omega)
    have e0 : nI (64 * k) + 4 * nI t = nI (64 * k + 4 * t) := by rw [show (4 : Int32) = nI 4 from rfl, pk_mul, nI_add]
    have e1 : nI (64 * k) + 4 * nI t + 1 = nI (64 * k + 4 * t + 1) := by rw [e0, nI_1]
    have e2 : nI (64 * k) + 4 * nI t + 2 = nI (64 * k + 4 * t + 2) := by rw [e0, show (2 : Int32) = nI 2 from rfl, nI_add]
    have e3 : nI (64 * k) + 4 * nI t + 3 = nI (64 * k + 4 * t + 3) := by rw [e0, show (3 : Int32) = nI 3 from rfl, nI_add]
    refine Gd.of (ckX8 _ _) tX8_block_ok (cuts := bkC) 160 ?_
    refine eB.f (by rw [show (16 : Int32) = nI 16 from rfl, nI_leI (by omega) (by omega)]; omega) ?_
    refine eG.i h1.1 rfl ?_
    refine eG.i h1.1 rfl ?_
    refine eLb.i (i := nI (64 * k) + 4 * nI t) h1.a6 (by rw [e0]; exact vp_in_nI (by omega) (by omega)) ?_
    refine eG.i h1.1 rfl ?_
    refine eLb.i (i := nI (64 * k) + 4 * nI t + 1) h1.a6 (by rw [e1]; exact vp_in_nI (by omega) (by omega)) ?_
    refine eG.i h1.1 rfl ?_
    refine eLb.i (i := nI (64 * k) + 4 * nI t + 2) h1.a6 (by rw [e2]; exact vp_in_nI (by omega) (by omega)) ?_
    refine eG.i h1.1 rfl ?_
    refine eLb.i (i := nI (64 * k) + 4 * nI t + 3) h1.a6 (by rw [e3]; exact vp_in_nI (by omega) (by omega)) ?_
    refine eS.i (i := nI t) h1.a3 (vp_in_nI (by omega) (by omega)) ?_
    refine ih (t + 1) _ _ _ (by omega) (nI_1 t) (f1.tr (xD_up (by omega))) h1.s3 (fun i hi => ?_) (fun j hj => ?_) (fun j hj => ?_)
    · rw [up_n (by omega)]; exact c1 i hi
    · rw [up_n (by omega)]; exact c3 j hj
    · rw [up_s, hcl, e1, e2, e3, e0, nI_clamp (by omega), nI_clamp (by omega), nI_clamp (by omega), nI_clamp (by omega), c1 6 (by omega)]
      by_cases e : j = t
      · rw [e, pk_us]
        exact hm t (by omega)
      · rw [pk_un e]; exact c4 j (by omega)
theorem c_M_block (h : MH G S M A ns nl nn nd) (hk : ∀ j, j < 64 → A 1 j = KT j) (hkk : 64 * k + 64 ≤ 768) (hm : ∀ j, j < 16 → nu4 (A 6) (64 * k + 4 * j) = m j) :
    mCon G yX8_block cX8_block 6 none (rmD 1) [.ref M, .int (nI (64 * k))] S (bkK G S M ns nl nn nd A m) := by
  refine mCon.of (I := miX8 false none) (by decide) rfl rfl (fun h => by cases h) (fun _ => rfl) (Nat.le_of_ble_eq_true rfl) ?_
  show Gd _ _ _ _ _ _ _ _ 0 [(0, .ref M), (1, .int (nI (64 * k)))] [] (0, 0) _
  refine Gd.of (ckX8 _ _) tX8_block_ok (cuts := bkC) 80 ?_
  exact bk1 hk hkk hm 16 0 _ S A (by omega) rfl fr.rf h (fun i _ => rfl) (fun j _ => rfl) (fun j hj => absurd hj (Nat.not_lt_zero j))
end BLL
