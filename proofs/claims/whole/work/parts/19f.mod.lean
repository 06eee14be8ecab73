/-! the reference's sum -/
def hset (f : Nat → Int32) (p : Nat) (d : List Int32) : Nat → Int32 := fun j => if 32 * p ≤ j ∧ j < 32 * p + 32 then d.getD (j - 32 * p) 0 else f j
theorem rem64 : ∀ n, n < 768 → nI n - nI n / 64 * 64 = nI (n % 64) := by decide +kernel
theorem bits8 : ∀ n, n < 640 → nbL (8 * (nI n).toInt64) 8 = be4 0 ++ be4 (nI (n * 8)) := by decide +kernel
theorem shB (x : Int32) (s : Nat) (hs : s ≤ 24) : (x >>> (nI s &&& 31)).toInt8.toInt32 = (ush x (nI s)).toInt8.toInt32 := by
  congr 1
  apply Int8.toBitVec_inj.mp
  apply BitVec.eq_of_getLsbD_eq
  intro i hi
  have e1 : ∀ s, s ≤ 24 → ((nI s &&& 31).toBitVec.smod 32).toNat = s := by decide
  have e2 : ∀ s, s ≤ 24 → ((Int32.toUInt32 (nI s) &&& Int32.toUInt32 31).toBitVec % 32).toNat = s := by decide
  unfold ush
  simp only [Int32.toBitVec_toInt8]
  rw [BitVec.getLsbD_signExtend, BitVec.getLsbD_signExtend]
  have g1 : (x >>> (nI s &&& 31)).toBitVec = x.toBitVec.sshiftRight s := by
    rw [Int32.toBitVec_shiftRight, BitVec.sshiftRight_eq', e1 s hs]
  have g2 : ((x.toUInt32 >>> (Int32.toUInt32 (nI s) &&& Int32.toUInt32 31)).toInt32).toBitVec = x.toBitVec >>> s := by
    show (x.toUInt32 >>> (Int32.toUInt32 (nI s) &&& Int32.toUInt32 31)).toBitVec = _
    rw [UInt32.toBitVec_shiftRight, BitVec.ushiftRight_eq', e2 s hs]
    rfl
  rw [g1, g2, BitVec.getLsbD_sshiftRight, BitVec.getLsbD_ushiftRight]
  simp [show i < 32 by omega, show s + i < 32 by omega, show ¬ 32 ≤ i by omega]
theorem be4_getD (x : Int32) : ∀ r, r < 4 → (be4 x).getD r 0 = (x >>> (nI (24 - 8 * r) &&& 31)).toInt8.toInt32 := by
  intro r hr
  rw [shB x _ (by omega)]
  match r, hr with
  | 0, _ => rfl
  | 1, _ => rfl
  | 2, _ => rfl
  | 3, _ =>
    rw [← shB x (24 - 8 * 3) (by omega)]
    show x.toInt8.toInt32 = (x >>> (nI 0 &&& 31)).toInt8.toInt32
    rw [show nI 0 &&& 31 = (0 : Int32) from rfl, Int32.shiftRight_zero]
theorem outB_getD (t : Nat → Int32) : ∀ (i k : Nat), k < 4 * i → (outB t i).getD k 0 = (t (k / 4) >>> (nI (24 - 8 * (k % 4)) &&& 31)).toInt8.toInt32 := by
  intro i
  induction i with
  | zero => intro k hk; omega
  | succ i ih =>
    intro k hk
    show (outB t i ++ be4 (t i)).getD k 0 = _
    by_cases h : k < 4 * i
    · rw [getD_app_l (by rw [outB_len]; exact h)]
      exact ih k h
    · rw [getD_app_r (by rw [outB_len]; omega), outB_len]
      have e1 : k / 4 = i := by omega
      have e2 : k - 4 * i = k % 4 := by omega
      rw [e1, e2]
      exact be4_getD _ _ (by omega)
def smC : Nat → Option Nat := nd 60 (nd 30 (lf 17 4) (lf 47 5)) (nd 90 (lf 77 5) (lf 101 5))
section SUM
variable {G : mG} {S S' : mS} {M ns nl nn nd p : Nat} {A A1 : AA} {l : List Int32} {bits : Int64}
def sumK (G : mG) (S : mS) (M nl nn nd : Nat) (A : AA) (p : Nat) (d : List Int32) : Option Value → mS → Prop := fun v S' => v = none ∧ fr S S' (xD M) ∧ ∃ l', Md G S' M (va_up A 7 (hset (A 7) p d)) l' nl nn nd
theorem div4 : ∀ k, k < 32 → nI k / 4 = nI (k / 4) ∧ 24 - 8 * (nI k - nI k / 4 * 4) = nI (24 - 8 * (k % 4)) := by decide
theorem Md.of {ns : Nat} (h : MH G S M A1 ns nl nn nd) (c1 : ∀ i, i < 3 ∨ 6 < i → A1 i = A i) (k1 : ∀ j, j < 64 → A 1 j = KT j) (k2 : ∀ j, j < 8 → A 2 j = IVT j) : ∃ l', Md G S M A l' nl nn nd := by
  refine ⟨seg (A1 6) 0 ns, A1, ?_, c1, fun j hj => ?_, k1, k2⟩
  · rw [seg_len]; exact h
  · rw [seg_len] at hj
    rw [seg_getD _ _ _ _ hj, Nat.zero_add]
theorem sm4 (hp : p ≤ 23) {t : Nat → Int32} (k1 : ∀ j, j < 64 → A 1 j = KT j) (k2 : ∀ j, j < 8 → A 2 j = IVT j) : ∀ (d k : Nat) (x : Int32) (S1 : mS) (A1 : AA), k + d = 32 → x = nI k → fr S S1 (xD M) → MH G S1 M A1 ns nl nn nd → (∀ i, i < 3 ∨ 7 < i → A1 i = A i) → (∀ j, j < 8 → A1 4 j = t j) → (∀ j, A1 7 j = if 32 * p ≤ j ∧ j < 32 * p + k then (outB t 8).getD (j - 32 * p) 0 else A 7 j) →
    Gd G bkI cX8_sum 5 (rmD 2) 0 0 (sumK G S M nl nn nd A p (outB t 8)) 101 [(0, .ref M), (1, .int (nI p)), (2, .long bits), (4, .int x)] [] (0, 0) S1 := by
  intro d
  induction d with
  | zero =>
    intro k x S1 A1 hk hx f1 h1 c1 c2 c3
    subst hx
    have e : k = 32 := by omega
    subst e
    refine Gd.of (ckX8 _ _) tX8_sum_ok (cuts := smC) 80 ?_
    refine eB.t (by decide) ?_
    refine eR.v ⟨rfl, f1, Md.of h1 (fun i hi => ?_) (fun j hj => ?_) (fun j hj => ?_)⟩
    · by_cases q : i = 7
      · rw [q, up_s]
        funext j
        rw [c3 j]
        rfl
      · rw [up_n q]; exact c1 i (by omega)
    · rw [up_n (by decide)]; exact k1 j hj
    · rw [up_n (by decide)]; exact k2 j hj
  | succ d ih =>
    intro k x S1 A1 hk hx f1 h1 c1 c2 c3
    subst hx
    obtain ⟨e1, e2⟩ := div4 k (by omega)
    have e0 : 32 * nI p + nI k = nI (32 * p + k) := by rw [show (32 : Int32) = nI 32 from rfl, pk_mul, nI_add]
    refine Gd.of (ckX8 _ _) tX8_sum_ok (cuts := smC) 80 ?_
    refine eB.f (by rw [show (32 : Int32) = nI 32 from rfl, nI_leI (by omega) (by omega)]; omega) ?_
    refine eG.i h1.1 rfl ?_
    refine eG.i h1.1 rfl ?_
    refine eZ.i (by decide) ?_
    refine eL.i (i := nI k / 4) h1.a4 (by rw [e1]; exact vp_in_nI (by omega) (by omega)) ?_
    refine eZ.i (by decide) ?_
    refine eSb.i (i := 32 * nI p + nI k) h1.a7 (by rw [e0]; exact vp_in_nI (by omega) (by omega)) ?_
    have hv : (A1 4 (nI k / 4).toNatClampNeg >>> ((24 - 8 * (nI k - nI k / 4 * 4)) &&& 31)).toInt8.toInt32 = (outB t 8).getD k 0 := by
      rw [e2, e1, nI_clamp (by omega), c2 _ (by omega)]
      exact (outB_getD t 8 k (by omega)).symm
    have hb : isB ((outB t 8).getD k 0) := by rw [← hv]; exact isB_nar _
    have hb' : ((outB t 8).getD k 0).toInt8.toInt32 = (outB t 8).getD k 0 := hb
    rw [hv, hb', e0, nI_clamp (by omega)]
    refine ih (k + 1) _ _ _ (by omega) (nI_1 k) (f1.tr (xD_up (by omega))) (h1.s7 (fun j => ?_)) (fun i hi => ?_) (fun j hj => ?_) (fun j => ?_)
    · unfold upd
      split
      · exact hb
      · exact h1.2.2 7 rfl j
    · rw [up_n (by omega)]; exact c1 i hi
    · rw [up_n (by omega)]; exact c2 j hj
    · rw [up_s]
      by_cases q : j = 32 * p + k
      · rw [q, pk_us, if_pos (by omega), show 32 * p + k - 32 * p = k by omega]
      · rw [pk_un q, c3 j]
        by_cases q2 : 32 * p ≤ j ∧ j < 32 * p + k
        · rw [if_pos q2, if_pos (by omega)]
        · rw [if_neg q2, if_neg (by omega)]
theorem sm3 (hp : p ≤ 23) {P : List Int32} {nb : Nat} (hP : P.length = 64 * nb) (hnb : nb ≤ 12) (k1 : ∀ j, j < 64 → A 1 j = KT j) (k2 : ∀ j, j < 8 → A 2 j = IVT j) : ∀ (d b : Nat) (x : Int32) (S1 : mS) (A1 : AA), b + d = nb → x = nI (64 * b) → fr S S1 (xD M) → MH G S1 M A1 (64 * nb) nl nn nd → (∀ i, i < 3 ∨ 6 < i → A1 i = A i) → (∀ j, j < P.length → A1 6 j = P.getD j 0) → (∀ j, j < 8 → A1 4 j = stF P b j) →
    Gd G bkI cX8_sum 5 (rmD 2) 0 0 (sumK G S M nl nn nd A p (outB (stF P nb) 8)) 77 [(0, .ref M), (1, .int (nI p)), (2, .long bits), (4, .int x)] [] (0, 0) S1 := by
  intro d
  induction d with
  | zero =>
    intro b x S1 A1 hb hx f1 h1 c1 c2 c3
    subst hx
    have e : b = nb := by omega
    subst e
    refine Gd.of (ckX8 _ _) tX8_sum_ok (cuts := smC) 80 ?_
    refine eG.i h1.1 rfl ?_
    refine eB.t (by rw [nI_leI (by omega) (by omega)]; omega) ?_
    refine sm4 hp k1 k2 32 0 _ S1 A1 (by omega) rfl f1 h1 (fun i hi => c1 i (by omega)) c3 (fun j => ?_)
    rw [if_neg (by omega), c1 7 (by omega)]
  | succ d ih =>
    intro b x S1 A1 hb hx f1 h1 c1 c2 c3
    subst hx
    refine Gd.of (ckX8 _ _) tX8_sum_ok (cuts := smC) 80 ?_
    refine eG.i h1.1 rfl ?_
    refine eB.f (by rw [nI_leI (by omega) (by omega)]; omega) ?_
    refine ⟨rfl, Nat.le_of_ble_eq_true rfl, ?_⟩
    refine eV.i h1.1 ?_
    refine eC.z (c_M_block (k := b) (m := blkW P b) h1 (fun j hj => by rw [c1 1 (by omega)]; exact k1 j hj) (by omega) (fun j hj => by rw [blkW, if_pos hj]; exact nu4_eq (fun i hi => c2 _ (by omega)))) ⟨rfl, rfl⟩ ⟨Nat.le_of_ble_eq_true rfl, Nat.le_of_ble_eq_true rfl⟩ ⟨Nat.zero_le _, Nat.zero_le _⟩ (fun v S2 hk => ?_)
    obtain ⟨rfl, f2, A2, h2, d1, d2⟩ := hk
    refine ih (b + 1) _ S2 A2 (by omega) ?_ (f1.tr f2) h2 (fun i hi => ?_) (fun j hj => ?_) (fun j hj => ?_)
    · rw [show (64 : Int32) = nI 64 from rfl, nI_add]; congr 1
    · rw [d1 i (by omega)]; exact c1 i hi
    · rw [d1 6 (by omega)]; exact c2 j hj
    · rw [d2 j hj]
      exact blk_eq c3 (fun _ _ => rfl) j hj
theorem sm2 (hp : p ≤ 23) {P : List Int32} {nb : Nat} (hP : P.length = 64 * nb) (hnb : nb ≤ 12) (k1 : ∀ j, j < 64 → A 1 j = KT j) (k2 : ∀ j, j < 8 → A 2 j = IVT j) : ∀ (d k : Nat) (x : Int32) (S1 : mS) (A1 : AA), k + d = 8 → x = nI k → fr S S1 (xD M) → MH G S1 M A1 (64 * nb) nl nn nd → (∀ i, i < 3 ∨ 6 < i → A1 i = A i) → (∀ j, j < P.length → A1 6 j = P.getD j 0) → (∀ j, j < k → A1 4 j = IVT j) →
    Gd G bkI cX8_sum 5 (rmD 2) 0 0 (sumK G S M nl nn nd A p (outB (stF P nb) 8)) 47 [(0, .ref M), (1, .int (nI p)), (2, .long bits), (4, .int x)] [] (0, 0) S1 := by
  intro d
  induction d with
  | zero =>
    intro k x S1 A1 hb hx f1 h1 c1 c2 c3
    subst hx
    have e : k = 8 := by omega
    subst e
    refine Gd.of (ckX8 _ _) tX8_sum_ok (cuts := smC) 80 ?_
    refine eB.t (by decide) ?_
    exact sm3 hp hP hnb k1 k2 nb 0 _ S1 A1 (by omega) rfl f1 h1 c1 c2 c3
  | succ d ih =>
    intro k x S1 A1 hb hx f1 h1 c1 c2 c3
    subst hx
    have hin : vp_in (nI k) 8 := vp_in_nI (by omega) (by omega)
    have hcl : (nI k).toNatClampNeg = k := nI_clamp (by omega)
    refine Gd.of (ckX8 _ _) tX8_sum_ok (cuts := smC) 80 ?_
    refine eB.f (by rw [show (8 : Int32) = nI 8 from rfl, nI_leI (by omega) (by omega)]; omega) ?_
    refine eG.i h1.1 rfl ?_
    refine eG.i h1.1 rfl ?_
    refine eL.i (i := nI k) h1.a2 hin ?_
    refine eS.i (i := nI k) h1.a4 hin ?_
    refine ih (k + 1) _ _ _ (by omega) (nI_1 k) (f1.tr (xD_up (by omega))) h1.s4 (fun i hi => ?_) (fun j hj => ?_) (fun j hj => ?_)
    · rw [up_n (by omega)]; exact c1 i hi
    · rw [up_n (by omega)]; exact c2 j hj
    · rw [up_s, hcl]
      by_cases e : j = k
      · rw [e, pk_us, c1 2 (by omega)]; exact k2 k (by omega)
      · rw [pk_un e]; exact c3 j (by omega)
theorem c_M_sum (h : Md G S M A l nl nn nd) (hp : p ≤ 23) (hl : l.length ≤ 634) :
    mCon G yX8_sum cX8_sum 5 none (rmD 2) [.ref M, .int (nI p)] S (sumK G S M nl nn nd A p (sha l)) := by
  obtain ⟨z1, z2, z3⟩ := zc_ok l.length
  refine mCon.of (I := miX8 false none) (by decide) rfl rfl (fun h => by cases h) (fun _ => rfl) (Nat.le_of_ble_eq_true rfl) ?_
  show Gd _ _ _ _ _ _ _ _ 0 [(0, .ref M), (1, .int (nI p))] [] (0, 0) _
  have key : ∀ (d i : Nat) (S1 : mS), i + d = zc l.length → fr S S1 (xD M) → Md G S1 M A (padA l i) nl nn nd → Gd G bkI cX8_sum 5 (rmD 2) 0 0 (sumK G S M nl nn nd A p (sha l)) 17 [(0, .ref M), (1, .int (nI p)), (2, .long (8 * (nI l.length).toInt64))] [] (0, 0) S1 := by
    intro d
    induction d with
    | zero =>
      intro i S1 hi f1 m1
      have e : i = zc l.length := by omega
      subst e
      refine Gd.of (ckX8 _ _) tX8_sum_ok (cuts := smC) 80 ?_
      refine eG.i m1.obj rfl ?_
      refine eZ.i (by decide) ?_
      refine eB.t (by rw [padA_len, rem64 _ (by omega), z1]; rfl) ?_
      refine ⟨rfl, Nat.le_of_ble_eq_true rfl, ?_⟩
      refine eV.i m1.obj ?_
      refine eC.z (c_M_putNumber (b := 8) m1 (by omega) (by rw [padA_len]; omega)) ⟨rfl, rfl⟩ ⟨Nat.le_of_ble_eq_true rfl, Nat.le_of_ble_eq_true rfl⟩ ⟨Nat.zero_le _, Nat.zero_le _⟩ (fun v S2 hk => ?_)
      obtain ⟨rfl, f2, m2⟩ := hk
      rw [bits8 _ (by omega), ← List.append_assoc] at m2
      have m3 : Md G S2 M A (pad l) nl nn nd := m2
      have hpl := pad_len l
      have hnb : (pad l).length = 64 * ((pad l).length / 64) := by omega
      obtain ⟨A1, g1, g2, g3, g4, g5⟩ := m3
      rw [hnb] at g1
      exact sm2 hp hnb (by omega) g4 g5 8 0 _ S2 A1 (by omega) rfl (f1.tr f2) g1 g2 g3 (fun j hj => absurd hj (Nat.not_lt_zero j))
    | succ d ih =>
      intro i S1 hi f1 m1
      refine Gd.of (ckX8 _ _) tX8_sum_ok (cuts := smC) 80 ?_
      refine eG.i m1.obj rfl ?_
      refine eZ.i (by decide) ?_
      refine eB.f ?_ ?_
      · rw [padA_len, rem64 _ (by omega)]
        intro q
        apply z3 i (by omega)
        have := congrArg Int32.toInt q
        rw [nI_toInt (by omega), show (56 : Int32).toInt = 56 from rfl] at this
        omega
      refine ⟨rfl, Nat.le_of_ble_eq_true rfl, ?_⟩
      refine eV.i m1.obj ?_
      refine eC.z (c_M_put m1 (by rw [padA_len]; omega)) ⟨rfl, rfl⟩ ⟨Nat.le_of_ble_eq_true rfl, Nat.le_of_ble_eq_true rfl⟩ ⟨Nat.zero_le _, Nat.zero_le _⟩ (fun v S2 hk => ?_)
      obtain ⟨rfl, f2, m2⟩ := hk
      have e : padA l i ++ [(0 : Int32).toInt8.toInt32] = padA l (i + 1) := by
        unfold padA
        rw [List.replicate_succ', List.append_assoc]
        rfl
      rw [e] at m2
      exact ih (i + 1) S2 (by omega) (f1.tr f2) m2
  refine Gd.of (ckX8 _ _) tX8_sum_ok (cuts := smC) 80 ?_
  refine eG.i h.obj rfl ?_
  refine ⟨rfl, Nat.le_of_ble_eq_true rfl, ?_⟩
  refine eV.i h.obj ?_
  refine eC.z (c_M_put h (by omega)) ⟨rfl, rfl⟩ ⟨Nat.le_of_ble_eq_true rfl, Nat.le_of_ble_eq_true rfl⟩ ⟨Nat.zero_le _, Nat.zero_le _⟩ (fun v S2 hk => ?_)
  obtain ⟨rfl, f2, m2⟩ := hk
  exact key (zc l.length) 0 S2 (by omega) f2 (by
    have e : padA l 0 = l ++ [(128 : Int32).toInt8.toInt32] := by
      show (l ++ [-128]) ++ [] = _
      rw [List.append_nil]
      rfl
    rw [e]
    exact m2)
end SUM
