/-! bytes of longs; joined; root -/
theorem nbyte (n : Int64) (s : Nat) (hs : s ≤ 56) (i : Nat) (hi : i < 8) : ((n >>> ((nI s).toInt64 &&& 63)).toInt32).toInt8.toBitVec.getLsbD i = n.toBitVec.getLsbD (s + i) := by
  have e1 : ∀ s, s ≤ 56 → (((nI s).toInt64 &&& 63).toBitVec.smod 64).toNat = s := by decide
  have g1 : (n >>> ((nI s).toInt64 &&& 63)).toBitVec = n.toBitVec.sshiftRight s := by
    rw [Int64.toBitVec_shiftRight, BitVec.sshiftRight_eq', e1 s hs]
  simp only [Int32.toBitVec_toInt8, Int64.toBitVec_toInt32]
  rw [BitVec.getLsbD_signExtend, BitVec.getLsbD_signExtend, g1, BitVec.getLsbD_sshiftRight]
  simp [hi, show i < 32 by omega, show ¬ 64 ≤ i by omega, show s + i < 64 by omega]
theorem nbyte4 (x : Int32) (s : Nat) (hs : s ≤ 24) : ((x.toInt64 >>> ((nI s).toInt64 &&& 63)).toInt32).toInt8.toInt32 = (x >>> (nI s &&& 31)).toInt8.toInt32 := by
  congr 1
  apply Int8.toBitVec_inj.mp
  apply BitVec.eq_of_getLsbD_eq
  intro i hi
  rw [nbyte _ s (by omega) i hi]
  have e1 : ∀ s, s ≤ 24 → ((nI s &&& 31).toBitVec.smod 32).toNat = s := by decide
  have g1 : (x >>> (nI s &&& 31)).toBitVec = x.toBitVec.sshiftRight s := by
    rw [Int32.toBitVec_shiftRight, BitVec.sshiftRight_eq', e1 s hs]
  simp only [Int32.toBitVec_toInt8]
  rw [BitVec.getLsbD_signExtend, g1, BitVec.getLsbD_sshiftRight, Int32.toBitVec_toInt64, BitVec.getLsbD_signExtend]
  simp [hi, show ¬ 32 ≤ i by omega, show s + i < 32 by omega, show s + i < 64 by omega]
theorem nb4 (x : Int32) : nbL x.toInt64 4 = be4 x := by
  have e : ∀ r, r < 4 → (nbL x.toInt64 4).getD r 0 = (be4 x).getD r 0 := by
    intro r hr
    rw [be4_getD x r hr]
    match r, hr with
    | 0, _ => exact nbyte4 x 24 (by omega)
    | 1, _ => exact nbyte4 x 16 (by omega)
    | 2, _ => exact nbyte4 x 8 (by omega)
    | 3, _ => exact nbyte4 x 0 (by omega)
  exact getD_ext (by rw [nbL_len, be4_len]) (fun j hj => by rw [nbL_len] at hj; exact e j hj)
section RT
variable {G : mG} {S S' : mS} {M nl nn nd p : Nat} {A A1 : AA} {l : List Int32}
theorem c_M_joined {i j a b : Nat} (h : Md G S M A l nl nn nd) (bi : mdB i = true) (i6 : 6 < i) (i31 : i ≤ 31) (ha : a + 32 ≤ mdN i) (hi : mdN i ≤ 24000) (bj : mdB j = true) (j6 : 6 < j) (j31 : j ≤ 31) (hb : b + 32 ≤ mdN j) (hj : mdN j ≤ 24000) (hp : p ≤ 23) :
    mCon G yX8_joined cX8_joined 6 none (rmD 3) [.ref M, .ref (M + i), .int (nI a), .ref (M + j), .int (nI b), .int (nI p)] S (sumK G S M nl nn nd A p (nh (seg (A i) a 32) (seg (A j) b 32))) := by
  refine mCon.of (I := miX8 false none) (by decide) rfl rfl (fun h => by cases h) (fun _ => rfl) (Nat.le_of_ble_eq_true rfl) ?_
  show Gd _ _ _ _ _ _ _ _ 0 [(0, .ref M), (1, .ref (M + i)), (2, .int (nI a)), (3, .ref (M + j)), (4, .int (nI b)), (5, .int (nI p))] [] (0, 0) _
  refine Gd.of (ckX8 _ _) tX8_joined_ok (cuts := fun _ => none) 60 ?_
  refine ⟨rfl, Nat.le_of_ble_eq_true rfl, ?_⟩
  refine eV.i h.obj ?_
  refine eC.z (c_M_start h) ⟨rfl, rfl⟩ ⟨Nat.le_of_ble_eq_true rfl, Nat.le_of_ble_eq_true rfl⟩ ⟨Nat.zero_le _, Nat.zero_le _⟩ (fun v S1 hk => ?_)
  obtain ⟨rfl, f1, m1⟩ := hk
  refine ⟨rfl, Nat.le_of_ble_eq_true rfl, ?_⟩
  refine eV.i m1.obj ?_
  refine eC.z (c_M_put m1 (by decide)) ⟨rfl, rfl⟩ ⟨Nat.le_of_ble_eq_true rfl, Nat.le_of_ble_eq_true rfl⟩ ⟨Nat.zero_le _, Nat.zero_le _⟩ (fun v S2 hk => ?_)
  obtain ⟨rfl, f2, m2⟩ := hk
  refine ⟨rfl, Nat.le_of_ble_eq_true rfl, ?_⟩
  refine eV.i m2.obj ?_
  refine eC.z (c_M_putRow (n := 32) m2 bi i6 i31 ha hi (by decide)) ⟨rfl, rfl⟩ ⟨Nat.le_of_ble_eq_true rfl, Nat.le_of_ble_eq_true rfl⟩ ⟨Nat.zero_le _, Nat.zero_le _⟩ (fun v S3 hk => ?_)
  obtain ⟨rfl, f3, m3⟩ := hk
  have l3 : ([] ++ [(1 : Int32).toInt8.toInt32] ++ seg (A i) a 32).length = 33 := by rw [List.length_append, seg_len]; rfl
  refine ⟨rfl, Nat.le_of_ble_eq_true rfl, ?_⟩
  refine eV.i m3.obj ?_
  refine eC.z (c_M_putRow (n := 32) m3 bj j6 j31 hb hj (by rw [l3]; decide)) ⟨rfl, rfl⟩ ⟨Nat.le_of_ble_eq_true rfl, Nat.le_of_ble_eq_true rfl⟩ ⟨Nat.zero_le _, Nat.zero_le _⟩ (fun v S4 hk => ?_)
  obtain ⟨rfl, f4, m4⟩ := hk
  refine ⟨rfl, Nat.le_of_ble_eq_true rfl, ?_⟩
  refine eV.i m4.obj ?_
  refine eC.z (c_M_sum m4 hp (by rw [List.length_append, l3, seg_len]; decide)) ⟨rfl, rfl⟩ ⟨Nat.le_of_ble_eq_true rfl, Nat.le_of_ble_eq_true rfl⟩ ⟨Nat.zero_le _, Nat.zero_le _⟩ (fun v S5 hk => ?_)
  obtain ⟨rfl, f5, l5, m5⟩ := hk
  exact eR.v ⟨rfl, (((f1.tr f2).tr f3).tr f4).tr f5, l5, m5⟩
def rtK (G : mG) (S : mS) (M nl nn nd : Nat) (A : AA) (p : Nat) (d : List Int32) : Option Value → mS → Prop := fun v S' => v = none ∧ fr S S' (xD M) ∧ ∃ l' H, Md G S' M (va_up A 7 H) l' nl nn nd ∧ (∀ j, j < 32 * p → H j = A 7 j) ∧ seg H (32 * p) 32 = d
theorem hset_lt {f : Nat → Int32} {p j : Nat} {d : List Int32} (h : j < 32 * p) : hset f p d j = f j := by
  unfold hset
  rw [if_neg (by omega)]
theorem hset_seg {f : Nat → Int32} {p : Nat} {d : List Int32} (h : d.length = 32) : seg (hset f p d) (32 * p) 32 = d := by
  apply getD_ext (by rw [seg_len, h])
  intro j hj
  rw [seg_len] at hj
  rw [seg_getD _ _ _ _ hj, hset, if_pos (by omega), show 32 * p + j - 32 * p = j by omega]
theorem seg_congr {f g : Nat → Int32} {s n : Nat} (h : ∀ j, s ≤ j → j < s + n → f j = g j) : seg f s n = seg g s n := by
  apply getD_ext (by rw [seg_len, seg_len])
  intro j hj
  rw [seg_len] at hj
  rw [seg_getD _ _ _ _ hj, seg_getD _ _ _ _ hj, h _ (by omega) (by omega)]
theorem up_up {α : Type} (f : Nat → α) (k : Nat) (x y : α) : va_up (va_up f k x) k y = va_up f k y := by
  funext q
  by_cases h : q = k
  · rw [h, up_s, up_s]
  · rw [up_n h, up_n h, up_n h]
theorem rt0 {k w a n p : Nat} {S : mS} (hn1 : n ≤ 1) (hw : w < 8) (ha : a + n ≤ 80) (hp : p ≤ 22) (h : Md G S M A l nl nn nd) :
    mCon G yX8_root cX8_root 6 none (rmD (4 + k)) [.ref M, .int (nI w), .int (nI a), .int (nI n), .int (nI p)] S (rtK G S M nl nn nd A p (mth (fun j => A 8 (80 * w + j)) a n)) := by
  refine mCon.of (I := miX8 false none) (by decide) rfl rfl (fun h => by cases h) (fun _ => rfl) (Nat.le_of_ble_eq_true rfl) ?_
  show Gd _ _ _ _ _ _ _ _ 0 [(0, .ref M), (1, .int (nI w)), (2, .int (nI a)), (3, .int (nI n)), (4, .int (nI p))] [] (0, 0) _
  refine Gd.of (ckX8 _ _) tX8_root_ok (cuts := fun _ => none) 60 ?_
  refine eB.f (by rw [show (1 : Int32) = nI 1 from rfl, nI_ltI (by omega) (by omega)]; omega) ?_
  refine ⟨rfl, Nat.le_of_ble_eq_true rfl, ?_⟩
  refine eV.i h.obj ?_
  refine eC.z (c_M_start h) ⟨rfl, rfl⟩ ⟨by dsimp only [rmD]; omega, by dsimp only [rmD]; omega⟩ ⟨Nat.zero_le _, Nat.zero_le _⟩ (fun v S1 hk => ?_)
  obtain ⟨rfl, f1, m1⟩ := hk
  by_cases e : n = 1
  · subst e
    have e0 : 80 * nI w + nI a = nI (80 * w + a) := by rw [show (80 : Int32) = nI 80 from rfl, pk_mul, nI_add]
    refine eB.t rfl ?_
    refine ⟨rfl, Nat.le_of_ble_eq_true rfl, ?_⟩
    refine eV.i m1.obj ?_
    refine eC.z (c_M_put m1 (by decide)) ⟨rfl, rfl⟩ ⟨by dsimp only [rmD]; omega, by dsimp only [rmD]; omega⟩ ⟨Nat.zero_le _, Nat.zero_le _⟩ (fun v S2 hk => ?_)
    obtain ⟨rfl, f2, m2⟩ := hk
    refine eG.i m2.obj rfl ?_
    refine eL.i (i := 80 * nI w + nI a) m2.a8 (by rw [e0]; exact vp_in_nI (by omega) (by omega)) ?_
    rw [e0, nI_clamp (by omega)]
    refine ⟨rfl, Nat.le_of_ble_eq_true rfl, ?_⟩
    refine eV.i m2.obj ?_
    refine eC.z (c_M_putNumber (b := 4) m2 (by omega) (by decide)) ⟨rfl, rfl⟩ ⟨by dsimp only [rmD]; omega, by dsimp only [rmD]; omega⟩ ⟨Nat.zero_le _, Nat.zero_le _⟩ (fun v S3 hk => ?_)
    obtain ⟨rfl, f3, m3⟩ := hk
    rw [nb4] at m3
    refine ⟨rfl, Nat.le_of_ble_eq_true rfl, ?_⟩
    refine eV.i m3.obj ?_
    refine eC.z (c_M_sum m3 (by omega) (by show 5 ≤ 634; decide)) ⟨rfl, rfl⟩ ⟨by dsimp only [rmD]; omega, by dsimp only [rmD]; omega⟩ ⟨Nat.zero_le _, Nat.zero_le _⟩ (fun v S4 hk => ?_)
    obtain ⟨rfl, f4, l4, m4⟩ := hk
    refine eR.v ⟨rfl, ((f1.tr f2).tr f3).tr f4, l4, _, m4, fun j hj => hset_lt hj, ?_⟩
    rw [hset_seg (sha_len _), mth_1]
    rfl
  · have e2 : n = 0 := by omega
    subst e2
    refine eB.f (by decide) ?_
    refine ⟨rfl, Nat.le_of_ble_eq_true rfl, ?_⟩
    refine eV.i m1.obj ?_
    refine eC.z (c_M_sum m1 (by omega) (by decide)) ⟨rfl, rfl⟩ ⟨by dsimp only [rmD]; omega, by dsimp only [rmD]; omega⟩ ⟨Nat.zero_le _, Nat.zero_le _⟩ (fun v S4 hk => ?_)
    obtain ⟨rfl, f4, l4, m4⟩ := hk
    refine eR.v ⟨rfl, f1.tr f4, l4, _, m4, fun j hj => hset_lt hj, ?_⟩
    rw [hset_seg (sha_len _), mth_0]
theorem c_M_root : ∀ (k w a n p : Nat) (S : mS) (A : AA) (l : List Int32), n ≤ 2 ^ k → k ≤ 7 → w < 8 → a + n ≤ 80 → p + k ≤ 22 → Md G S M A l nl nn nd →
    mCon G yX8_root cX8_root 6 none (rmD (4 + k)) [.ref M, .int (nI w), .int (nI a), .int (nI n), .int (nI p)] S (rtK G S M nl nn nd A p (mth (fun j => A 8 (80 * w + j)) a n)) := by
  intro k
  induction k with
  | zero =>
    intro w a n p S A l hn hk hw ha hp h
    exact rt0 hn hw ha (by omega) h
  | succ k ih =>
    intro w a n p S A l hn hk hw ha hp h
    by_cases h2 : n ≤ 1
    · exact rt0 h2 hw ha (by omega) h
    · have hn2 : 2 ≤ n := by omega
      have e4 : 2 ^ (k + 1) = 2 ^ k * 2 := Nat.pow_succ 2 k
      obtain ⟨hh1, hh2, hh3⟩ := half_lt hn2
      have hh : half n ≤ 2 ^ k := by
        obtain ⟨j, j1, j2, j3⟩ := half_ok hn2
        rw [j1]
        refine Nat.pow_le_pow_right (by decide) ?_
        by_cases q : j ≤ k
        · exact q
        · have := Nat.pow_le_pow_right (n := 2) (by decide) (show k + 1 ≤ j by omega)
          omega
      have e5 : nI a + nI (half n) = nI (a + half n) := nI_add a (half n)
      have e6 : nI n - nI (half n) = nI (n - half n) := by rw [pk_sub (by omega)]
      have e7 : nI p + 1 = nI (p + 1) := nI_1 p
      have e8 : 32 * nI p = nI (32 * p) := by rw [show (32 : Int32) = nI 32 from rfl, pk_mul]
      have e9 : 32 * nI (p + 1) = nI (32 * (p + 1)) := by rw [show (32 : Int32) = nI 32 from rfl, pk_mul]
      refine mCon.of (I := miX8 false none) (by decide) rfl rfl (fun h => by cases h) (fun _ => rfl) (Nat.le_of_ble_eq_true rfl) ?_
      show Gd _ _ _ _ _ _ _ _ 0 [(0, .ref M), (1, .int (nI w)), (2, .int (nI a)), (3, .int (nI n)), (4, .int (nI p))] [] (0, 0) _
      refine Gd.of (ckX8 _ _) tX8_root_ok (cuts := fun _ => none) 60 ?_
      refine eB.t (by rw [show (1 : Int32) = nI 1 from rfl, nI_ltI (by omega) (by omega)]; omega) ?_
      refine ⟨Nat.le_of_ble_eq_true rfl, ?_⟩
      refine eC.z (c_M_half hn2 (by omega)) ⟨rfl, rfl⟩ ⟨by show 0 + 1 ≤ 4 + (k + 1); omega, by show 8 + (2 + 11) + 70 * 0 ≤ 70 * (4 + (k + 1)); omega⟩ ⟨Nat.zero_le _, Nat.zero_le _⟩ (fun v S1 hk => ?_)
      obtain ⟨rfl, rfl⟩ := hk
      refine ⟨rfl, Nat.le_of_ble_eq_true rfl, ?_⟩
      refine eV.i h.obj ?_
      refine eC.z (ih w a (half n) p _ A l (by omega) (by omega) hw (by omega) (by omega) h) ⟨rfl, rfl⟩ ⟨by dsimp only [rmD]; omega, by dsimp only [rmD]; omega⟩ ⟨Nat.zero_le _, Nat.zero_le _⟩ (fun v S2 hk => ?_)
      obtain ⟨rfl, f2, l2, H2, m2, q2, s2⟩ := hk
      have hc := ih w (a + half n) (n - half n) (p + 1) S2 _ l2 (by omega) (by omega) hw (by omega) (by omega) m2
      rw [← e5, ← e6, ← e7] at hc
      refine ⟨rfl, Nat.le_of_ble_eq_true rfl, ?_⟩
      refine eV.i m2.obj ?_
      refine eC.z (hc) ⟨rfl, rfl⟩ ⟨by dsimp only [rmD]; omega, by dsimp only [rmD]; omega⟩ ⟨Nat.zero_le _, Nat.zero_le _⟩ (fun v S3 hk => ?_)
      obtain ⟨rfl, f3, l3, H3, m3, q3, s3⟩ := hk
      rw [up_up] at m3
      rw [up_s] at q3
      rw [up_n (by decide)] at s3
      refine eG.i m3.obj rfl ?_
      refine eG.i m3.obj rfl ?_
      have hc := c_M_joined (i := 7) (j := 7) (a := 32 * p) (b := 32 * (p + 1)) (p := p) m3 rfl (by decide) (by decide) (by show 32 * p + 32 ≤ 768; omega) (by decide) rfl (by decide) (by decide) (by show 32 * (p + 1) + 32 ≤ 768; omega) (by decide) (by omega)
      rw [← e8, ← e9, ← e7] at hc
      refine ⟨rfl, Nat.le_of_ble_eq_true rfl, ?_⟩
      refine eV.i m3.obj ?_
      refine eC.z (hc) ⟨rfl, rfl⟩ ⟨by dsimp only [rmD]; omega, by dsimp only [rmD]; omega⟩ ⟨Nat.zero_le _, Nat.zero_le _⟩ (fun v S4 hk => ?_)
      obtain ⟨rfl, f4, l4, m4⟩ := hk
      rw [up_up, up_s] at m4
      refine eR.v ⟨rfl, (f2.tr f3).tr f4, l4, _, m4, fun j hj => ?_, ?_⟩
      · rw [hset_lt hj, q3 j (by omega), q2 j hj]
      · have g1 : seg H3 (32 * p) 32 = mth (fun j => A 8 (80 * w + j)) a (half n) := by
          rw [← s2]
          exact seg_congr (fun j j1 j2 => q3 j (by omega))
        rw [hset_seg (d := nh _ _) (sha_len _), mth_2 _ _ hn2, g1, s3]
end RT
