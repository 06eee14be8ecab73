section GWM
variable {G : mG} {S S' S0 : mS} {X : Nat → Prop} {B : Nat} {K : List Int32} {vals : Nat → Nat → Int32} {cnt : Nat → Nat} {np : Nat} {kd : Nat → Int32} {lt : Nat → List Int32} {mo : Nat → Mo} {dk : List Int32} {k : Int32} {l : List Int32}
theorem be4_eq (x : Int32) : [(x.toUInt32 >>> (Int32.toUInt32 24 &&& Int32.toUInt32 31)).toInt32.toInt8.toInt32, (x.toUInt32 >>> (Int32.toUInt32 16 &&& Int32.toUInt32 31)).toInt32.toInt8.toInt32, (x.toUInt32 >>> (Int32.toUInt32 8 &&& Int32.toUInt32 31)).toInt32.toInt8.toInt32, x.toInt8.toInt32] = be4 x := rfl
theorem c_X7_head {g w n : Int32} (hG : GOK G) (h : CS G S B (K, vals, cnt, np, kd, lt, mo, dk)) :
    mCon G yX7_head cX7_head 6 (some .int) (rmD 6) [.ref B, .int g, .int w, .int n] S (oK G S B (oHd (K, vals, cnt, np, kd, lt, mo, dk) g w n)) := by
  have hall := h
  obtain ⟨h1, ⟨⟨lm, ld, h2⟩, h2'⟩, h3, h4, h5, h6, h7, h8, h9⟩ := h
  refine mCon.of (I := miX7 false (some .int)) (by decide) rfl rfl (fun h => by cases h) (fun _ => rfl) (Nat.le_of_ble_eq_true rfl) ?_
  show Gd _ _ _ _ _ _ _ _ 0 [(0, .ref B), (1, .int g), (2, .int w), (3, .int n)] [] (0, 0) _
  refine Gd.of (ckX7 _ _) tX7_head_ok (cuts := fun _ => none) 100 ?_
  have hno : ∀ (x : Option Value), x = some (.int (-1)) → ¬ (inV g w ∧ (0 ≤ n.toInt ∧ n.toInt ≤ cnt (vN g w)) ∧ np < 60) → oK G S B (oHd (K, vals, cnt, np, kd, lt, mo, dk) g w n) x S := by
    intro x hx hc
    refine oK.no hall ?_ hx
    show (if _ then _ else _) = _
    rw [if_neg hc]
  by_cases hv : inV g w
  · have hv8 := (vN_ok hv).1
    have hw := h5 _ hv8
    have h80 := hw.2.2.2.1
    refine ⟨rfl, Nat.le_of_ble_eq_true rfl, ?_⟩
    refine eV.i h1 ?_
    refine eC.z (c_viewOf hall hv) ⟨rfl, rfl⟩ ⟨Nat.le_of_ble_eq_true rfl, Nat.le_of_ble_eq_true rfl⟩ ⟨Nat.zero_le _, Nat.zero_le _⟩ (fun v S1 hk => ?_)
    obtain ⟨rfl, rfl⟩ := hk
    refine eB.i (fun q => ?_) (fun q => ?_)
    · rw [i_lt0] at q
      exact eR.int (hno _ rfl (by omega))
    · rw [i_lt0] at q
      refine eG.i hw.1 rfl ?_
      refine eB.i (fun q2 => ?_) (fun q2 => ?_)
      · rw [i_nlt (by omega)] at q2
        exact eR.int (hno _ rfl (by omega))
      · rw [i_nlt (by omega)] at q2
        refine eG.i h1 rfl ?_
        refine eB.i (fun q3 => ?_) (fun q3 => ?_)
        · have hn : np < 60 := (nI_ltI (a := np) (b := 60) (by omega) (by omega)).mp q3
          have hn3 : nI n.toInt.toNat = n := (i_of (by omega)).symm
          refine ⟨rfl, Nat.le_of_ble_eq_true rfl, ?_⟩
          refine eV.i h1 ?_
          refine eC.z (c_nextLetter hall hn) ⟨rfl, rfl⟩ ⟨Nat.le_of_ble_eq_true rfl, Nat.le_of_ble_eq_true rfl⟩ ⟨Nat.zero_le _, Nat.zero_le _⟩ (fun v S1 hk => ?_)
          obtain ⟨rfl, f1, a1, a2⟩ := hk
          rw [g_byte hv.1] at a2
          have p1 := PL.beg hall hn f1 a1 a2
          refine ⟨rfl, Nat.le_of_ble_eq_true rfl, ?_⟩
          refine eV.i p1.2.2.1.2.obj ?_
          refine eC.z (c_Row_addNumber p1.2.2.1.2 (by show 1 + 4 ≤ 297; omega)) ⟨rfl, rfl⟩ ⟨Nat.le_of_ble_eq_true rfl, Nat.le_of_ble_eq_true rfl⟩ ⟨Nat.zero_le _, Nat.zero_le _⟩ (fun v S2 hk => ?_)
          obtain ⟨rfl, f2, r2⟩ := hk
          rw [be4_eq] at r2
          have p2 := p1.row hn f2 r2
          have w2 := hw.keep p2.1 (fun q a b => by omega)
          obtain ⟨⟨lm2, ld2, s2⟩, -⟩ := p2.2.2.2
          refine eG.i p2.2.1 rfl ?_
          have hc := c_View_rootOf (b := 0) (e := n.toInt.toNat) (k := 7) hG w2 s2 (by omega) (by omega) (by omega) (by decide) (by omega)
          rw [hn3] at hc
          refine ⟨rfl, Nat.le_of_ble_eq_true rfl, ?_⟩
          refine eV.i w2.1 ?_
          refine eC.z (hc) ⟨rfl, rfl⟩ ⟨Nat.le_of_ble_eq_true rfl, Nat.le_of_ble_eq_true rfl⟩ ⟨Nat.zero_le _, Nat.zero_le _⟩ (fun v S3 hk => ?_)
          obtain ⟨rfl, f3, lm3, s3⟩ := hk
          have p3 := p2.sha hn f3 ⟨_, _, s3⟩
          have hm := mth_len (vals (vN g w)) 0 (n.toInt.toNat - 0)
          refine ⟨rfl, Nat.le_of_ble_eq_true rfl, ?_⟩
          refine eV.i p3.2.2.1.2.obj ?_
          refine eC.z (c_Row_addPart (s := 0) (c := 32) p3.2.2.1.2 s3.d (by omega) (by omega) (by show 5 + 32 ≤ 297; omega)) ⟨rfl, rfl⟩ ⟨Nat.le_of_ble_eq_true rfl, Nat.le_of_ble_eq_true rfl⟩ ⟨Nat.zero_le _, Nat.zero_le _⟩ (fun v S4 hk => ?_)
          obtain ⟨rfl, f4, r4⟩ := hk
          have r4' : Rl G S4 (B + 154 + 3 * np + 1) 297 ([g] ++ be4 n ++ part (mth (vals (vN g w)) 0 (n.toInt.toNat - 0)) 0 32) := r4
          rw [part_all hm, Nat.sub_zero] at r4'
          rw [Nat.sub_zero] at hm
          have p4 := p3.row hn f4 r4'
          refine eG.i p4.2.1 rfl ?_
          refine eG.i p4.2.1 rfl ?_
          obtain ⟨⟨lm4, ld4, s4⟩, -⟩ := p4.2.2.2
          have k4 := h3.keep p4.1 (fun q a b => by omega)
          have hl4 : ([g] ++ be4 n ++ mth (vals (vN g w)) 0 n.toInt.toNat).length = 37 := by
            rw [List.length_append, hm]
            rfl
          have hg4 : g.toInt.toNat < 4 := by have := hv.1; omega
          refine ⟨rfl, Nat.le_of_ble_eq_true rfl, ?_⟩
          refine eV.i k4.1 ?_
          refine eC.z (c_Keys_signFor (ls := 0) (ss := 1) (g := g.toInt.toNat) hG s4 k4 r4' (by omega) (by omega) hg4 (by rw [List.append_assoc]; exact rAt_0 hv.1) (by omega)) ⟨rfl, rfl⟩ ⟨Nat.le_of_ble_eq_true rfl, Nat.le_of_ble_eq_true rfl⟩ ⟨Nat.zero_le _, Nat.zero_le _⟩ (fun v S5 hk => ?_)
          obtain ⟨rfl, f5, lm5, s5⟩ := hk
          have p5 := p4.sha hn f5 ⟨_, _, s5⟩
          have e5 : part ([g] ++ be4 n ++ mth (vals (vN g w)) 0 n.toInt.toNat) 1 36 = be4 n ++ mth (vals (vN g w)) 0 n.toInt.toNat := by
            show (be4 n ++ mth (vals (vN g w)) 0 n.toInt.toNat).take 36 = _
            rw [List.take_of_length_le (by rw [List.length_append, hm, be4_len]; omega)]
          rw [e5] at s5
          refine ⟨rfl, Nat.le_of_ble_eq_true rfl, ?_⟩
          refine eV.i p5.2.2.1.2.obj ?_
          refine eC.z (c_Row_addPart (s := 0) (c := 8) p5.2.2.1.2 s5.d (by omega) (by rw [sgn, sha_len]; omega) (by rw [hl4]; omega)) ⟨rfl, rfl⟩ ⟨Nat.le_of_ble_eq_true rfl, Nat.le_of_ble_eq_true rfl⟩ ⟨Nat.zero_le _, Nat.zero_le _⟩ (fun v S6 hk => ?_)
          obtain ⟨rfl, f6, r6⟩ := hk
          have p6 := p5.row hn f6 r6
          obtain ⟨z1, z2⟩ := PL.done hall hn p6
          refine eG.i p6.2.1 rfl ?_
          have e : oHd (K, vals, cnt, np, kd, lt, mo, dk) g w n = (nI np, K, vals, cnt, np + 1, va_up kd np 0, va_up lt np (hdB K g (vals (vN g w)) n), mo, dk) := by
            show (if _ then _ else _) = _
            rw [if_pos ⟨hv, by omega, hn⟩]
          refine eR.int ?_
          rw [e]
          refine ⟨?_, z1, z2⟩
          rw [show (1 : Int32) = nI 1 from rfl, pk_sub (by omega)]
          rfl
        · have hn : ¬ np < 60 := mt (nI_ltI (a := np) (b := 60) (by omega) (by omega)).mpr q3
          exact eR.int (hno _ rfl (by omega))
  · refine ⟨rfl, Nat.le_of_ble_eq_true rfl, ?_⟩
    refine eV.i h1 ?_
    refine eC.z (c_viewOf_no hv) ⟨rfl, rfl⟩ ⟨Nat.le_of_ble_eq_true rfl, Nat.le_of_ble_eq_true rfl⟩ ⟨Nat.zero_le _, Nat.zero_le _⟩ (fun v S1 hk => ?_)
    obtain ⟨rfl, rfl⟩ := hk
    exact eR.int (hno _ rfl (fun z => hv z.1))
theorem c_X7_proof {g w m n : Int32} (hG : GOK G) (h : CS G S B (K, vals, cnt, np, kd, lt, mo, dk)) :
    mCon G yX7_proof cX7_proof 7 (some .int) (rmD 6) [.ref B, .int g, .int w, .int m, .int n] S (oK G S B (oPf (K, vals, cnt, np, kd, lt, mo, dk) g w m n)) := by
  have hall := h
  obtain ⟨h1, ⟨⟨lm, ld, h2⟩, h2'⟩, h3, h4, h5, h6, h7, h8, h9⟩ := h
  refine mCon.of (I := miX7 false (some .int)) (by decide) rfl rfl (fun h => by cases h) (fun _ => rfl) (Nat.le_of_ble_eq_true rfl) ?_
  show Gd _ _ _ _ _ _ _ _ 0 [(0, .ref B), (1, .int g), (2, .int w), (3, .int m), (4, .int n)] [] (0, 0) _
  refine Gd.of (ckX7 _ _) tX7_proof_ok (cuts := fun _ => none) 100 ?_
  have hno : ∀ (x : Option Value), x = some (.int (-1)) → ¬ (inV g w ∧ (0 < m.toInt ∧ m.toInt < n.toInt ∧ n.toInt ≤ cnt (vN g w)) ∧ np < 60) → oK G S B (oPf (K, vals, cnt, np, kd, lt, mo, dk) g w m n) x S := by
    intro x hx hc
    refine oK.no hall ?_ hx
    show (if _ then _ else _) = _
    rw [if_neg hc]
  by_cases hv : inV g w
  · have hv8 := (vN_ok hv).1
    have hw := h5 _ hv8
    have h80 := hw.2.2.2.1
    refine ⟨rfl, Nat.le_of_ble_eq_true rfl, ?_⟩
    refine eV.i h1 ?_
    refine eC.z (c_viewOf hall hv) ⟨rfl, rfl⟩ ⟨Nat.le_of_ble_eq_true rfl, Nat.le_of_ble_eq_true rfl⟩ ⟨Nat.zero_le _, Nat.zero_le _⟩ (fun v S1 hk => ?_)
    obtain ⟨rfl, rfl⟩ := hk
    refine eB.i (fun q => ?_) (fun q => ?_)
    · have q' : m.toInt ≤ 0 := Int32.le_iff_toInt_le.mp q
      exact eR.int (hno _ rfl (by omega))
    · have q' : ¬ m.toInt ≤ 0 := fun z => q (Int32.le_iff_toInt_le.mpr z)
      refine eB.i (fun q1 => ?_) (fun q1 => ?_)
      · rw [Int32.le_iff_toInt_le] at q1
        exact eR.int (hno _ rfl (by omega))
      · rw [Int32.le_iff_toInt_le] at q1
        refine eG.i hw.1 rfl ?_
        refine eB.i (fun q2 => ?_) (fun q2 => ?_)
        · rw [i_nlt (by omega)] at q2
          exact eR.int (hno _ rfl (by omega))
        · rw [i_nlt (by omega)] at q2
          refine eG.i h1 rfl ?_
          refine eB.i (fun q3 => ?_) (fun q3 => ?_)
          · have hn : np < 60 := (nI_ltI (a := np) (b := 60) (by omega) (by omega)).mp q3
            have hm3 : nI m.toInt.toNat = m := (i_of (by omega)).symm
            have hn3 : nI n.toInt.toNat = n := (i_of (by omega)).symm
            refine ⟨rfl, Nat.le_of_ble_eq_true rfl, ?_⟩
            refine eV.i h1 ?_
            refine eC.z (c_nextLetter hall hn) ⟨rfl, rfl⟩ ⟨Nat.le_of_ble_eq_true rfl, Nat.le_of_ble_eq_true rfl⟩ ⟨Nat.zero_le _, Nat.zero_le _⟩ (fun v S1 hk => ?_)
            obtain ⟨rfl, f1, a1, a2⟩ := hk
            rw [g_byte hv.1] at a2
            have p1 := PL.beg hall hn f1 a1 a2
            refine ⟨rfl, Nat.le_of_ble_eq_true rfl, ?_⟩
            refine eV.i p1.2.2.1.2.obj ?_
            refine eC.z (c_Row_addNumber p1.2.2.1.2 (by show 1 + 4 ≤ 297; omega)) ⟨rfl, rfl⟩ ⟨Nat.le_of_ble_eq_true rfl, Nat.le_of_ble_eq_true rfl⟩ ⟨Nat.zero_le _, Nat.zero_le _⟩ (fun v S2 hk => ?_)
            obtain ⟨rfl, f2, r2⟩ := hk
            rw [be4_eq] at r2
            have p2 := p1.row hn f2 r2
            refine ⟨rfl, Nat.le_of_ble_eq_true rfl, ?_⟩
            refine eV.i p2.2.2.1.2.obj ?_
            refine eC.z (c_Row_addNumber p2.2.2.1.2 (by show 5 + 4 ≤ 297; omega)) ⟨rfl, rfl⟩ ⟨Nat.le_of_ble_eq_true rfl, Nat.le_of_ble_eq_true rfl⟩ ⟨Nat.zero_le _, Nat.zero_le _⟩ (fun v S3 hk => ?_)
            obtain ⟨rfl, f3, r3⟩ := hk
            rw [be4_eq] at r3
            have p3 := p2.row hn f3 r3
            have w3 := hw.keep p3.1 (fun q a b => by omega)
            obtain ⟨⟨lm3, ld3, s3⟩, -⟩ := p3.2.2.2
            refine eG.i p3.2.1 rfl ?_
            have hc := c_View_rootOf (b := 0) (e := m.toInt.toNat) (k := 7) hG w3 s3 (by omega) (by omega) (by omega) (by decide) (by omega)
            rw [hm3] at hc
            refine ⟨rfl, Nat.le_of_ble_eq_true rfl, ?_⟩
            refine eV.i w3.1 ?_
            refine eC.z (hc) ⟨rfl, rfl⟩ ⟨Nat.le_of_ble_eq_true rfl, Nat.le_of_ble_eq_true rfl⟩ ⟨Nat.zero_le _, Nat.zero_le _⟩ (fun v S4 hk => ?_)
            obtain ⟨rfl, f4, lm4, s4⟩ := hk
            have p4 := p3.sha hn f4 ⟨_, _, s4⟩
            have hm := mth_len (vals (vN g w)) 0 (m.toInt.toNat - 0)
            refine ⟨rfl, Nat.le_of_ble_eq_true rfl, ?_⟩
            refine eV.i p4.2.2.1.2.obj ?_
            refine eC.z (c_Row_addPart (s := 0) (c := 32) p4.2.2.1.2 s4.d (by omega) (by omega) (by show 9 + 32 ≤ 297; omega)) ⟨rfl, rfl⟩ ⟨Nat.le_of_ble_eq_true rfl, Nat.le_of_ble_eq_true rfl⟩ ⟨Nat.zero_le _, Nat.zero_le _⟩ (fun v S5 hk => ?_)
            obtain ⟨rfl, f5, r5⟩ := hk
            have r5' : Rl G S5 (B + 154 + 3 * np + 1) 297 ([g] ++ be4 m ++ be4 n ++ part (mth (vals (vN g w)) 0 (m.toInt.toNat - 0)) 0 32) := r5
            rw [part_all hm, Nat.sub_zero] at r5'
            rw [Nat.sub_zero] at hm
            have p5 := p4.row hn f5 r5'
            obtain ⟨⟨lm5, ld5, s5⟩, -, t5, b5⟩ := p5.2.2.2
            refine eG.i p5.2.1 rfl ?_
            refine ⟨rfl, Nat.le_of_ble_eq_true rfl, ?_⟩
            refine eV.i b5.obj ?_
            refine eC.z (c_Row_empty b5) ⟨rfl, rfl⟩ ⟨Nat.le_of_ble_eq_true rfl, Nat.le_of_ble_eq_true rfl⟩ ⟨Nat.zero_le _, Nat.zero_le _⟩ (fun v S6 hk => ?_)
            obtain ⟨rfl, f6, b6⟩ := hk
            have p6 := p5.stk hn (f6.mono (fun q z => Or.inr z)) ⟨_, _, s5.keep f6 (fun q a b => by omega)⟩ b6
            have w6 := hw.keep p6.1 (fun q a b => by omega)
            obtain ⟨⟨lm6, ld6, s6⟩, -⟩ := p6.2.2.2
            refine eG.i p6.2.1 rfl ?_
            refine eG.i p6.2.1 rfl ?_
            have hc := c_View_pushProof (t := m.toInt.toNat) (n := n.toInt.toNat) hG w6 s6 b6 (by omega) (by omega) (by omega) (by omega) (by omega) (by omega) rfl
            rw [hm3, hn3] at hc
            refine ⟨rfl, Nat.le_of_ble_eq_true rfl, ?_⟩
            refine eV.i w6.1 ?_
            refine eC.z (hc) ⟨rfl, rfl⟩ ⟨Nat.le_of_ble_eq_true rfl, Nat.le_of_ble_eq_true rfl⟩ ⟨Nat.zero_le _, Nat.zero_le _⟩ (fun v S7 hk => ?_)
            obtain ⟨rfl, f7, s7, b7⟩ := hk
            have p7 := p6.stk hn f7 s7 b7
            refine eG.i p7.2.1 rfl ?_
            have hl5 : ([g] ++ be4 m ++ be4 n ++ mth (vals (vN g w)) 0 m.toInt.toNat).length = 41 := by
              rw [List.length_append, hm]
              rfl
            have hpl := prfN_len 7 0 n.toInt.toNat m.toInt.toNat
            refine ⟨rfl, Nat.le_of_ble_eq_true rfl, ?_⟩
            refine eV.i p7.2.2.1.2.obj ?_
            refine eC.z (c_Row_addHashesReversed (n := (prfN 7 0 n.toInt.toNat m.toInt.toNat).length) p7.2.2.1.2 b7 (by omega) (by rw [cat_len]) (by rw [hl5]; omega)) ⟨rfl, rfl⟩ ⟨Nat.le_of_ble_eq_true rfl, Nat.le_of_ble_eq_true rfl⟩ ⟨Nat.zero_le _, Nat.zero_le _⟩ (fun v S8 hk => ?_)
            obtain ⟨rfl, f8, r8⟩ := hk
            rw [revH_cat] at r8
            have p8 := p7.row hn f8 r8
            obtain ⟨z1, z2⟩ := PL.done hall hn p8
            refine eG.i p8.2.1 rfl ?_
            have e : oPf (K, vals, cnt, np, kd, lt, mo, dk) g w m n = (nI np, K, vals, cnt, np + 1, va_up kd np 1, va_up lt np (pfB g (vals (vN g w)) m n), mo, dk) := by
              show (if _ then _ else _) = _
              rw [if_pos ⟨hv, by omega, hn⟩]
            refine eR.int ?_
            rw [e]
            refine ⟨?_, z1, z2⟩
            rw [show (1 : Int32) = nI 1 from rfl, pk_sub (by omega)]
            rfl
          · have hn : ¬ np < 60 := mt (nI_ltI (a := np) (b := 60) (by omega) (by omega)).mpr q3
            exact eR.int (hno _ rfl (by omega))
  · refine ⟨rfl, Nat.le_of_ble_eq_true rfl, ?_⟩
    refine eV.i h1 ?_
    refine eC.z (c_viewOf_no hv) ⟨rfl, rfl⟩ ⟨Nat.le_of_ble_eq_true rfl, Nat.le_of_ble_eq_true rfl⟩ ⟨Nat.zero_le _, Nat.zero_le _⟩ (fun v S1 hk => ?_)
    obtain ⟨rfl, rfl⟩ := hk
    exact eR.int (hno _ rfl (fun z => hv z.1))
theorem c_X7_path {g w n i : Int32} (hG : GOK G) (h : CS G S B (K, vals, cnt, np, kd, lt, mo, dk)) :
    mCon G yX7_path cX7_path 7 (some .int) (rmD 6) [.ref B, .int g, .int w, .int n, .int i] S (oK G S B (oPt (K, vals, cnt, np, kd, lt, mo, dk) g w n i)) := by
  have hall := h
  obtain ⟨h1, ⟨⟨lm, ld, h2⟩, h2'⟩, h3, h4, h5, h6, h7, h8, h9⟩ := h
  refine mCon.of (I := miX7 false (some .int)) (by decide) rfl rfl (fun h => by cases h) (fun _ => rfl) (Nat.le_of_ble_eq_true rfl) ?_
  show Gd _ _ _ _ _ _ _ _ 0 [(0, .ref B), (1, .int g), (2, .int w), (3, .int n), (4, .int i)] [] (0, 0) _
  refine Gd.of (ckX7 _ _) tX7_path_ok (cuts := fun _ => none) 100 ?_
  have hno : ∀ (x : Option Value), x = some (.int (-1)) → ¬ (inV g w ∧ (0 ≤ i.toInt ∧ i.toInt < n.toInt ∧ n.toInt ≤ cnt (vN g w)) ∧ np < 60) → oK G S B (oPt (K, vals, cnt, np, kd, lt, mo, dk) g w n i) x S := by
    intro x hx hc
    refine oK.no hall ?_ hx
    show (if _ then _ else _) = _
    rw [if_neg hc]
  by_cases hv : inV g w
  · have hv8 := (vN_ok hv).1
    have hw := h5 _ hv8
    have h80 := hw.2.2.2.1
    refine ⟨rfl, Nat.le_of_ble_eq_true rfl, ?_⟩
    refine eV.i h1 ?_
    refine eC.z (c_viewOf hall hv) ⟨rfl, rfl⟩ ⟨Nat.le_of_ble_eq_true rfl, Nat.le_of_ble_eq_true rfl⟩ ⟨Nat.zero_le _, Nat.zero_le _⟩ (fun v S1 hk => ?_)
    obtain ⟨rfl, rfl⟩ := hk
    refine eG.i hw.1 rfl ?_
    refine eB.i (fun q2 => ?_) (fun q2 => ?_)
    · rw [i_nlt (by omega)] at q2
      exact eR.int (hno _ rfl (by omega))
    · rw [i_nlt (by omega)] at q2
      refine eB.i (fun q => ?_) (fun q => ?_)
      · rw [i_lt0] at q
        exact eR.int (hno _ rfl (by omega))
      · rw [i_lt0] at q
        refine eB.i (fun q1 => ?_) (fun q1 => ?_)
        · rw [Int32.le_iff_toInt_le] at q1
          exact eR.int (hno _ rfl (by omega))
        · rw [Int32.le_iff_toInt_le] at q1
          refine eG.i h1 rfl ?_
          refine eB.i (fun q3 => ?_) (fun q3 => ?_)
          · have hn : np < 60 := (nI_ltI (a := np) (b := 60) (by omega) (by omega)).mp q3
            have hm3 : nI i.toInt.toNat = i := (i_of (by omega)).symm
            have hn3 : nI n.toInt.toNat = n := (i_of (by omega)).symm
            refine ⟨rfl, Nat.le_of_ble_eq_true rfl, ?_⟩
            refine eV.i h1 ?_
            refine eC.z (c_nextLetter hall hn) ⟨rfl, rfl⟩ ⟨Nat.le_of_ble_eq_true rfl, Nat.le_of_ble_eq_true rfl⟩ ⟨Nat.zero_le _, Nat.zero_le _⟩ (fun v S1 hk => ?_)
            obtain ⟨rfl, f1, a1, a2⟩ := hk
            rw [g_byte hv.1] at a2
            have p1 := PL.beg hall hn f1 a1 a2
            refine ⟨rfl, Nat.le_of_ble_eq_true rfl, ?_⟩
            refine eV.i p1.2.2.1.2.obj ?_
            refine eC.z (c_Row_addNumber p1.2.2.1.2 (by show 1 + 4 ≤ 297; omega)) ⟨rfl, rfl⟩ ⟨Nat.le_of_ble_eq_true rfl, Nat.le_of_ble_eq_true rfl⟩ ⟨Nat.zero_le _, Nat.zero_le _⟩ (fun v S2 hk => ?_)
            obtain ⟨rfl, f2, r2⟩ := hk
            rw [be4_eq] at r2
            have p2 := p1.row hn f2 r2
            refine ⟨rfl, Nat.le_of_ble_eq_true rfl, ?_⟩
            refine eV.i p2.2.2.1.2.obj ?_
            refine eC.z (c_Row_addNumber p2.2.2.1.2 (by show 5 + 4 ≤ 297; omega)) ⟨rfl, rfl⟩ ⟨Nat.le_of_ble_eq_true rfl, Nat.le_of_ble_eq_true rfl⟩ ⟨Nat.zero_le _, Nat.zero_le _⟩ (fun v S3 hk => ?_)
            obtain ⟨rfl, f3, r3⟩ := hk
            rw [be4_eq] at r3
            have p3 := p2.row hn f3 r3
            have w3 := hw.keep p3.1 (fun q a b => by omega)
            have hc := c_View_leafAt (i := i.toInt.toNat) w3 (by omega)
            rw [hm3] at hc
            refine ⟨rfl, Nat.le_of_ble_eq_true rfl, ?_⟩
            refine eV.i w3.1 ?_
            refine eC.z (hc) ⟨rfl, rfl⟩ ⟨Nat.le_of_ble_eq_true rfl, Nat.le_of_ble_eq_true rfl⟩ ⟨Nat.zero_le _, Nat.zero_le _⟩ (fun v S4 hk => ?_)
            obtain ⟨rfl, rfl⟩ := hk
            refine ⟨rfl, Nat.le_of_ble_eq_true rfl, ?_⟩
            refine eV.i p3.2.2.1.2.obj ?_
            refine eC.z (c_Row_addNumber p3.2.2.1.2 (by show 9 + 4 ≤ 297; omega)) ⟨rfl, rfl⟩ ⟨Nat.le_of_ble_eq_true rfl, Nat.le_of_ble_eq_true rfl⟩ ⟨Nat.zero_le _, Nat.zero_le _⟩ (fun v S5 hk => ?_)
            obtain ⟨rfl, f5, r5⟩ := hk
            rw [be4_eq] at r5
            have p5 := p3.row hn f5 r5
            obtain ⟨⟨lm5, ld5, s5⟩, -, t5, b5⟩ := p5.2.2.2
            refine eG.i p5.2.1 rfl ?_
            refine ⟨rfl, Nat.le_of_ble_eq_true rfl, ?_⟩
            refine eV.i b5.obj ?_
            refine eC.z (c_Row_empty b5) ⟨rfl, rfl⟩ ⟨Nat.le_of_ble_eq_true rfl, Nat.le_of_ble_eq_true rfl⟩ ⟨Nat.zero_le _, Nat.zero_le _⟩ (fun v S6 hk => ?_)
            obtain ⟨rfl, f6, b6⟩ := hk
            have p6 := p5.stk hn (f6.mono (fun q z => Or.inr z)) ⟨_, _, s5.keep f6 (fun q a b => by omega)⟩ b6
            have w6 := hw.keep p6.1 (fun q a b => by omega)
            obtain ⟨⟨lm6, ld6, s6⟩, -⟩ := p6.2.2.2
            refine eG.i p6.2.1 rfl ?_
            refine eG.i p6.2.1 rfl ?_
            have hc := c_View_pushPath (i := i.toInt.toNat) (n := n.toInt.toNat) hG w6 s6 b6 (by omega) (by omega) (by omega) (by omega) (by omega) rfl
            rw [hm3, hn3] at hc
            refine ⟨rfl, Nat.le_of_ble_eq_true rfl, ?_⟩
            refine eV.i w6.1 ?_
            refine eC.z (hc) ⟨rfl, rfl⟩ ⟨Nat.le_of_ble_eq_true rfl, Nat.le_of_ble_eq_true rfl⟩ ⟨Nat.zero_le _, Nat.zero_le _⟩ (fun v S7 hk => ?_)
            obtain ⟨rfl, f7, s7, b7⟩ := hk
            have p7 := p6.stk hn f7 s7 b7
            refine eG.i p7.2.1 rfl ?_
            have hpl := pathN_len 7 0 n.toInt.toNat i.toInt.toNat
            refine ⟨rfl, Nat.le_of_ble_eq_true rfl, ?_⟩
            refine eV.i p7.2.2.1.2.obj ?_
            refine eC.z (c_Row_addHashesReversed (n := (pathN 7 0 n.toInt.toNat i.toInt.toNat).length) p7.2.2.1.2 b7 (by omega) (by rw [cat_len]) (by show 13 + _ ≤ 297; omega)) ⟨rfl, rfl⟩ ⟨Nat.le_of_ble_eq_true rfl, Nat.le_of_ble_eq_true rfl⟩ ⟨Nat.zero_le _, Nat.zero_le _⟩ (fun v S8 hk => ?_)
            obtain ⟨rfl, f8, r8⟩ := hk
            rw [revH_cat] at r8
            have p8 := p7.row hn f8 r8
            obtain ⟨z1, z2⟩ := PL.done hall hn p8
            refine eG.i p8.2.1 rfl ?_
            have e : oPt (K, vals, cnt, np, kd, lt, mo, dk) g w n i = (nI np, K, vals, cnt, np + 1, va_up kd np 2, va_up lt np (ptB g (vals (vN g w)) n i), mo, dk) := by
              show (if _ then _ else _) = _
              rw [if_pos ⟨hv, by omega, hn⟩]
            refine eR.int ?_
            rw [e]
            refine ⟨?_, z1, z2⟩
            rw [show (1 : Int32) = nI 1 from rfl, pk_sub (by omega)]
            rfl
          · have hn : ¬ np < 60 := mt (nI_ltI (a := np) (b := 60) (by omega) (by omega)).mpr q3
            exact eR.int (hno _ rfl (by omega))
  · refine ⟨rfl, Nat.le_of_ble_eq_true rfl, ?_⟩
    refine eV.i h1 ?_
    refine eC.z (c_viewOf_no hv) ⟨rfl, rfl⟩ ⟨Nat.le_of_ble_eq_true rfl, Nat.le_of_ble_eq_true rfl⟩ ⟨Nat.zero_le _, Nat.zero_le _⟩ (fun v S1 hk => ?_)
    obtain ⟨rfl, rfl⟩ := hk
    exact eR.int (hno _ rfl (fun z => hv z.1))
end GWM
