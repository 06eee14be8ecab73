section MDE
variable {G : mG} {S S' : mS} {M nl nn nd : Nat} {A : AA} {l : List Int32}
theorem c_M_start (h : Md G S M A l nl nn nd) :
    mCon G yX8_start cX8_start 1 none (rmD 0) [.ref M] S (fun v S' => v = none ∧ fr S S' (xD M) ∧ Md G S' M A [] nl nn nd) := by
  refine mCon.of (I := miX8 false none) (by decide) rfl rfl (fun h => by cases h) (fun _ => rfl) (Nat.le_of_ble_eq_true rfl) ?_
  show Gd _ _ _ _ _ _ _ _ 0 [(0, .ref M)] [] (0, 0) _
  refine Gd.of (ckX8 _ _) tX8_start_ok (cuts := fun _ => none) 40 ?_
  obtain ⟨A', g1, g2, g3, g4⟩ := h
  refine ⟨Or.inl rfl, ?_⟩
  refine eP.i g1.1 (Nat.le_of_ble_eq_true rfl) rfl rfl ?_
  exact eR.v ⟨rfl, xD_o, A', g1.obj, g2, fun j hj => absurd hj (Nat.not_lt_zero j), g4⟩
theorem c_M_put {x : Int32} (h : Md G S M A l nl nn nd) (hl : l.length < 768) :
    mCon G yX8_put cX8_put 2 none (rmD 0) [.ref M, .int x] S (fun v S' => v = none ∧ fr S S' (xD M) ∧ Md G S' M A (l ++ [x.toInt8.toInt32]) nl nn nd) := by
  refine mCon.of (I := miX8 false none) (by decide) rfl rfl (fun h => by cases h) (fun _ => rfl) (Nat.le_of_ble_eq_true rfl) ?_
  show Gd _ _ _ _ _ _ _ _ 0 [(0, .ref M), (1, .int x)] [] (0, 0) _
  refine Gd.of (ckX8 _ _) tX8_put_ok (cuts := fun _ => none) 40 ?_
  obtain ⟨A', g1, g2, g3, g4⟩ := h
  refine eG.i g1.1 rfl ?_
  refine eG.i g1.1 rfl ?_
  refine eSb.i (i := nI l.length) g1.a6 (vp_in_nI (by omega) (by omega)) ?_
  have hb : ∀ j, isB (upd (A' 6) (nI l.length).toNatClampNeg x.toInt8.toInt32.toInt8.toInt32 j) := by
    intro j
    unfold upd
    split
    · exact isB_nar _
    · exact g1.2.2 6 rfl j
  have k1 := g1.s6 hb
  refine eG.i k1.1 rfl ?_
  refine ⟨Or.inl rfl, ?_⟩
  refine eP.i k1.1 (Nat.le_of_ble_eq_true rfl) rfl rfl ?_
  have e1 : (l ++ [x.toInt8.toInt32]).length = l.length + 1 := by simp
  rw [nI_1]
  refine eR.v ⟨rfl, (xD_up (by omega)).tr xD_o, va_up A' 6 (upd (A' 6) (nI l.length).toNatClampNeg x.toInt8.toInt32.toInt8.toInt32), ?_, fun i hi => ?_, fun j hj => ?_, g4⟩
  · rw [e1]
    exact k1.obj
  · rw [up_n (by omega)]
    exact g2 i hi
  · rw [e1] at hj
    rw [up_s, nI_clamp (by omega), isB_nar x]
    by_cases hq : j = l.length
    · subst hq
      simp [upd]
    · simp only [upd, hq, if_false, g3 j (by omega)]
      rw [getD_app_l (by omega)]
theorem c_M_putRow {i s n : Nat} (h : Md G S M A l nl nn nd) (hb : mdB i = true) (h6 : 6 < i) (h31 : i ≤ 31) (hs : s + n ≤ mdN i) (hm : mdN i ≤ 24000) (hl : l.length + n ≤ 768) :
    mCon G yX8_putRow cX8_putRow 5 none (rmD 1) [.ref M, .ref (M + i), .int (nI s), .int (nI n)] S (fun v S' => v = none ∧ fr S S' (xD M) ∧ Md G S' M A (l ++ seg (A i) s n) nl nn nd) := by
  refine mCon.of (I := miX8 false none) (by decide) rfl rfl (fun h => by cases h) (fun _ => rfl) (Nat.le_of_ble_eq_true rfl) ?_
  show Gd _ _ _ _ _ _ _ _ 0 [(0, .ref M), (1, .ref (M + i)), (2, .int (nI s)), (3, .int (nI n))] [] (0, 0) _
  have key : ∀ (d k : Nat) (S1 : mS), k + d = n → fr S S1 (xD M) → Md G S1 M A (l ++ seg (A i) s k) nl nn nd → Gd G (miX8 false none) cX8_putRow 5 (rmD 1) 0 0 (fun v S' => v = none ∧ fr S S' (xD M) ∧ Md G S' M A (l ++ seg (A i) s n) nl nn nd) 3 [(0, .ref M), (1, .ref (M + i)), (2, .int (nI s)), (3, .int (nI n)), (4, .int (nI k))] [] (0, 0) S1 := by
    intro d
    induction d with
    | zero =>
      intro k S1 hk f1 m1
      refine Gd.of (ckX8 _ _) tX8_putRow_ok (cuts := lf 3 5) 60 ?_
      refine eB.t (by rw [nI_leI (by omega) (by omega)]; omega) ?_
      have e : k = n := by omega
      subst e
      exact eR.v ⟨rfl, f1, m1⟩
    | succ d ih =>
      intro k S1 hk f1 m1
      have e1 : nI k + 1 = nI (k + 1) := nI_1 k
      have e2 : nI s + nI k = nI (s + k) := nI_add s k
      refine Gd.of (ckX8 _ _) tX8_putRow_ok (cuts := lf 3 5) 60 ?_
      refine eB.f (by rw [nI_leI (by omega) (by omega)]; omega) ?_
      refine eLb.i (i := nI s + nI k) (m1.b hb h6 h31) (by rw [e2]; exact vp_in_nI (by omega) (by omega)) ?_
      rw [e2, nI_clamp (by omega)]
      refine ⟨rfl, Nat.le_of_ble_eq_true rfl, ?_⟩
      refine eV.i m1.obj ?_
      refine eC.z (c_M_put m1 (by rw [List.length_append, seg_len]; omega)) ⟨rfl, rfl⟩ ⟨Nat.le_of_ble_eq_true rfl, Nat.le_of_ble_eq_true rfl⟩ ⟨Nat.zero_le _, Nat.zero_le _⟩ (fun v S2 hk => ?_)
      obtain ⟨rfl, f2, m2⟩ := hk
      have e3 : (A i (s + k)).toInt8.toInt32 = A i (s + k) := m1.isb hb h6 _
      rw [e3, List.append_assoc, ← seg_succ] at m2
      have h9 := ih (k + 1) S2 (by omega) (f1.tr f2) m2
      rw [← e1] at h9
      exact h9
  refine Gd.of (ckX8 _ _) tX8_putRow_ok (cuts := lf 3 5) 60 ?_
  exact key n 0 S (by omega) fr.rf (by
    show Md G S M A (l ++ []) nl nn nd
    rw [List.append_nil]
    exact h)
def nbL (n : Int64) : Nat → List Int32
  | 0 => []
  | b + 1 => [((n >>> ((nI (8 * b)).toInt64 &&& 63)).toInt32).toInt8.toInt32] ++ nbL n b
theorem nbL_len (n : Int64) (b : Nat) : (nbL n b).length = b := by
  induction b with
  | zero => rfl
  | succ b ih => show ([_] ++ nbL n b).length = _; rw [List.length_append, ih]; simp; omega
theorem c_M_putNumber {n : Int64} {b : Nat} (h : Md G S M A l nl nn nd) (hb : b ≤ 8) (hl : l.length + b ≤ 768) :
    mCon G yX8_putNumber cX8_putNumber 5 none (rmD 1) [.ref M, .long n, .int (nI b)] S (fun v S' => v = none ∧ fr S S' (xD M) ∧ Md G S' M A (l ++ nbL n b) nl nn nd) := by
  refine mCon.of (I := miX8 false none) (by decide) rfl rfl (fun h => by cases h) (fun _ => rfl) (Nat.le_of_ble_eq_true rfl) ?_
  show Gd _ _ _ _ _ _ _ _ 0 [(0, .ref M), (1, .long n), (3, .int (nI b))] [] (0, 0) _
  have key : ∀ (d : Nat) (l1 : List Int32) (S1 : mS), d ≤ b → l1 ++ nbL n d = l ++ nbL n b → fr S S1 (xD M) → Md G S1 M A l1 nl nn nd → Gd G (miX8 false none) cX8_putNumber 5 (rmD 1) 0 0 (fun v S' => v = none ∧ fr S S' (xD M) ∧ Md G S' M A (l ++ nbL n b) nl nn nd) 5 [(0, .ref M), (1, .long n), (3, .int (nI b)), (4, .int (nI d - 1))] [] (0, 0) S1 := by
    intro d
    induction d with
    | zero =>
      intro l1 S1 hk he f1 m1
      refine Gd.of (ckX8 _ _) tX8_putNumber_ok (cuts := lf 5 5) 60 ?_
      refine eB.t (by decide) ?_
      rw [← he]
      refine eR.v ⟨rfl, f1, ?_⟩
      show Md G S1 M A (l1 ++ []) nl nn nd
      rw [List.append_nil]
      exact m1
    | succ d ih =>
      intro l1 S1 hk he f1 m1
      have e1 : nI (d + 1) - 1 = nI d := by rw [show (1 : Int32) = nI 1 from rfl, pk_sub (by omega)]; rfl
      rw [e1]
      have e2 : (8 : Int32) * nI d = nI (8 * d) := by rw [show (8 : Int32) = nI 8 from rfl, pk_mul]
      have e3 : nI d + (-1) = nI d - 1 := by rw [Int32.sub_eq_add_neg]
      refine Gd.of (ckX8 _ _) tX8_putNumber_ok (cuts := lf 5 5) 60 ?_
      refine eB.f (nI_pos (by omega)) ?_
      have hln : l1.length + (d + 1) = l.length + b := by
        have := congrArg List.length he
        rw [List.length_append, List.length_append, nbL_len, nbL_len] at this
        exact this
      refine ⟨rfl, Nat.le_of_ble_eq_true rfl, ?_⟩
      refine eV.i m1.obj ?_
      refine eC.z (c_M_put m1 (by omega)) ⟨rfl, rfl⟩ ⟨Nat.le_of_ble_eq_true rfl, Nat.le_of_ble_eq_true rfl⟩ ⟨Nat.zero_le _, Nat.zero_le _⟩ (fun v S2 hk => ?_)
      obtain ⟨rfl, f2, m2⟩ := hk
      rw [e2] at m2
      have h9 := ih _ S2 (by omega) (by rw [← he, List.append_assoc]; rfl) (f1.tr f2) m2
      rw [← e3] at h9
      exact h9
  refine Gd.of (ckX8 _ _) tX8_putNumber_ok (cuts := lf 5 5) 60 ?_
  exact key b l S (by omega) rfl fr.rf h
theorem c_M_turned {x n : Int32} : mCon G yX8_turned cX8_turned 2 (some .int) (rmD 0) [.int x, .int n] S (fun v S' => S' = S ∧ v = some (.int (rot x n (32 - n)))) := by
  refine mCon.of (I := miX8 false (some .int)) (by decide) rfl rfl (fun h => by cases h) (fun _ => rfl) (Nat.le_of_ble_eq_true rfl) ?_
  show Gd _ _ _ _ _ _ _ _ 0 [(0, .int x), (1, .int n)] [] (0, 0) _
  refine Gd.of (ckX8 _ _) tX8_turned_ok (cuts := fun _ => none) 40 ?_
  exact eR.int ⟨rfl, rfl⟩
theorem c_M_in {x a b : Int32} : mCon G yX8_in cX8_in 3 (some .boolean) (rmD 0) [.int x, .int a, .int b] S (fun v S' => S' = S ∧ v = some (.int (pI (a.toInt ≤ x.toInt ∧ x.toInt ≤ b.toInt)))) := by
  refine mCon.of (I := miX8 false (some .boolean)) (by decide) rfl rfl (fun h => by cases h) (fun _ => rfl) (Nat.le_of_ble_eq_true rfl) ?_
  show Gd _ _ _ _ _ _ _ _ 0 [(0, .int x), (1, .int a), (2, .int b)] [] (0, 0) _
  refine Gd.of (ckX8 _ _) tX8_in_ok (cuts := fun _ => none) 40 ?_
  refine eB.i (fun q => ?_) (fun q => ?_)
  · rw [Int32.lt_iff_toInt_lt] at q
    exact eR.f ⟨rfl, by rw [pI_f (by omega)]⟩
  · rw [Int32.lt_iff_toInt_lt] at q
    refine eB.i (fun q2 => ?_) (fun q2 => ?_)
    · rw [Int32.lt_iff_toInt_lt] at q2
      exact eR.f ⟨rfl, by rw [pI_f (by omega)]⟩
    · rw [Int32.lt_iff_toInt_lt] at q2
      exact eR.t ⟨rfl, by rw [pI_t (by omega)]⟩
theorem c_M_isView {g w : Int32} : mCon G yX8_isView cX8_isView 2 (some .boolean) (rmD 1) [.int g, .int w] S (fun v S' => S' = S ∧ v = some (.int (pI (inV g w)))) := by
  refine mCon.of (I := miX8 false (some .boolean)) (by decide) rfl rfl (fun h => by cases h) (fun _ => rfl) (Nat.le_of_ble_eq_true rfl) ?_
  show Gd _ _ _ _ _ _ _ _ 0 [(0, .int g), (1, .int w)] [] (0, 0) _
  refine Gd.of (ckX8 _ _) tX8_isView_ok (cuts := fun _ => none) 40 ?_
  have e0 : (0 : Int32).toInt = 0 := rfl
  have e3 : (3 : Int32).toInt = 3 := rfl
  have e1 : (1 : Int32).toInt = 1 := rfl
  refine ⟨Nat.le_of_ble_eq_true rfl, ?_⟩
  refine eC.z (c_M_in) ⟨rfl, rfl⟩ ⟨Nat.le_of_ble_eq_true rfl, Nat.le_of_ble_eq_true rfl⟩ ⟨Nat.zero_le _, Nat.zero_le _⟩ (fun v S1 hk => ?_)
  obtain ⟨rfl, rfl⟩ := hk
  by_cases q : (0 : Int32).toInt ≤ g.toInt ∧ g.toInt ≤ (3 : Int32).toInt
  · rw [pI_t q]
    refine eB.f (by decide) ?_
    refine ⟨Nat.le_of_ble_eq_true rfl, ?_⟩
    refine eC.z (c_M_in) ⟨rfl, rfl⟩ ⟨Nat.le_of_ble_eq_true rfl, Nat.le_of_ble_eq_true rfl⟩ ⟨Nat.zero_le _, Nat.zero_le _⟩ (fun v S1 hk => ?_)
    obtain ⟨rfl, rfl⟩ := hk
    by_cases q2 : (0 : Int32).toInt ≤ w.toInt ∧ w.toInt ≤ (1 : Int32).toInt
    · rw [pI_t q2]
      refine eB.f (by decide) ?_
      exact eR.t ⟨rfl, by rw [pI_t (by constructor <;> constructor <;> omega)]⟩
    · rw [pI_f q2]
      refine eB.t rfl ?_
      exact eR.f ⟨rfl, by rw [pI_f (fun z => q2 (by have := z.2; omega))]⟩
  · rw [pI_f q]
    refine eB.t rfl ?_
    exact eR.f ⟨rfl, by rw [pI_f (fun z => q (by have := z.1; omega))]⟩
theorem c_M_half {n : Nat} (h2 : 2 ≤ n) (hn : n ≤ 128) :
    mCon G yX8_half cX8_half 2 (some .int) (rmD 0) [.int (nI n)] S (fun v S' => S' = S ∧ v = some (.int (nI (half n)))) := by
  refine mCon.of (I := miX8 false (some .int)) (by decide) rfl rfl (fun h => by cases h) (fun _ => rfl) (Nat.le_of_ble_eq_true rfl) ?_
  show Gd _ _ _ _ _ _ _ _ 0 [(0, .int (nI n))] [] (0, 0) _
  obtain ⟨j, e0, e1, e2⟩ := half_ok h2
  have key : ∀ (d k : Nat), k + d = j → Gd G (miX8 false (some .int)) cX8_half 2 (rmD 0) 0 0 (fun v S' => S' = S ∧ v = some (.int (nI (half n)))) 2 [(0, .int (nI n)), (1, .int (nI (2 ^ k)))] [] (0, 0) S := by
    intro d
    induction d with
    | zero =>
      intro k hk
      have e : k = j := by omega
      subst e
      have e3 : (2 : Int32) * nI (2 ^ k) = nI (2 ^ (k + 1)) := by rw [show (2 : Int32) = nI 2 from rfl, pk_mul, Nat.pow_succ, Nat.mul_comm]
      have e4 : 2 ^ (k + 1) = 2 ^ k * 2 := Nat.pow_succ 2 k
      refine Gd.of (ckX8 _ _) tX8_half_ok (cuts := lf 2 2) 60 ?_
      refine eB.t (by rw [e3, nI_leI (by omega) (by omega)]; omega) ?_
      exact eR.int ⟨rfl, by rw [e0]⟩
    | succ d ih =>
      intro k hk
      have e3 : (2 : Int32) * nI (2 ^ k) = nI (2 ^ (k + 1)) := by rw [show (2 : Int32) = nI 2 from rfl, pk_mul, Nat.pow_succ, Nat.mul_comm]
      have e4 : 2 ^ (k + 1) ≤ 2 ^ j := Nat.pow_le_pow_right (by decide) (by omega)
      refine Gd.of (ckX8 _ _) tX8_half_ok (cuts := lf 2 2) 60 ?_
      refine eB.f (by rw [e3, nI_leI (by omega) (by omega)]; omega) ?_
      have h9 := ih (k + 1) (by omega)
      rw [← e3] at h9
      exact h9
  refine Gd.of (ckX8 _ _) tX8_half_ok (cuts := lf 2 2) 60 ?_
  exact key j 0 (by omega)
end MDE
