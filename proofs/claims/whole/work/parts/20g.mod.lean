/-! bytes, signed and not; the reference's calls that change letters -/
theorem byte_cases {b : Int32} (h : isB b) : (∃ n, n < 128 ∧ b = nI n) ∨ ∃ n, 1 ≤ n ∧ n ≤ 128 ∧ b = 0 - nI n := by
  have h1 : -128 ≤ b.toInt ∧ b.toInt < 128 := by
    unfold isB at h
    rw [← h, Int8.toInt_toInt32]
    have h1 := Int8.le_toInt b.toInt8
    have h2 := Int8.toInt_lt b.toInt8
    constructor <;> omega
  by_cases q : 0 ≤ b.toInt
  · exact Or.inl ⟨b.toInt.toNat, by omega, i_of q⟩
  · refine Or.inr ⟨(-b.toInt).toNat, by omega, by omega, ?_⟩
    apply Int32.toInt_inj.mp
    have e0 : (0 : Int32).toInt = 0 := rfl
    have e1 := nI_toInt (n := (-b.toInt).toNat) (by omega)
    rw [i_sub (by omega) (by omega), e0, e1]
    omega
theorem and255_pos : ∀ n, n < 128 → nI n &&& 255 = nI n := by decide
theorem and255_neg : ∀ n, n ≤ 128 → 1 ≤ n → ((0 - nI n) &&& 255).toInt = 256 - (n : Int) ∧ (0 - nI n).toInt = - (n : Int) := by decide
theorem in03 {b : Int32} (h : isB b) : ((b &&& 255).toInt < 4 ↔ 0 ≤ b.toInt ∧ b.toInt ≤ 3) ∧ (0 ≤ b.toInt → b &&& 255 = b) := by
  rcases byte_cases h with ⟨n, h1, rfl⟩ | ⟨n, h1, h2, rfl⟩
  · rw [and255_pos n h1]
    have := nI_toInt (n := n) (by omega)
    exact ⟨by omega, fun _ => rfl⟩
  · obtain ⟨e1, e2⟩ := and255_neg n h2 h1
    exact ⟨by omega, fun z => by omega⟩
theorem and255_inj {a b : Int32} (ha : isB a) (hb : isB b) : a &&& 255 = b &&& 255 ↔ a = b := by
  constructor
  · intro h
    rw [← and255 ha, ← and255 hb, h]
  · intro h
    rw [h]
theorem xor8 (b x : Int32) : ((b &&& 255) ^^^ x).toInt8.toInt32 = (b ^^^ x).toInt8.toInt32 := by
  congr 1
  apply Int8.toBitVec_inj.mp
  apply BitVec.eq_of_getLsbD_eq
  intro i hi
  simp only [Int32.toBitVec_toInt8, Int32.toBitVec_and, Int32.toBitVec_xor]
  rw [BitVec.getLsbD_signExtend, BitVec.getLsbD_signExtend]
  have h255 : ∀ i, i < 8 → (255#32).getLsbD i = true := by decide
  simp [h255 i hi, hi, show i < 32 by omega]
theorem cpy_succ {f g : Nat → Int32} {sp dp n : Nat} : upd (va_cpy f g sp dp n) (dp + n) (f (sp + n)) = va_cpy f g sp dp (n + 1) := by
  funext j
  by_cases e : j = dp + n
  · rw [e, pk_us, pk_cpy_in (by omega) (by omega), show dp + n - dp = n by omega]
  · rw [pk_un e]
    by_cases h1 : dp ≤ j ∧ j < dp + n
    · rw [pk_cpy_in h1.1 h1.2, pk_cpy_in h1.1 (by omega)]
    · rw [pk_cpy_out (by omega), pk_cpy_out (by omega)]
theorem cpy_0 {f g : Nat → Int32} {sp dp : Nat} : va_cpy f g sp dp 0 = g := by
  funext j
  exact pk_cpy_out (by omega)
section LTT
variable {G : mG} {S S' : mS} {M nl nn nd p : Nat} {A A' : AA} {l t : List Int32} {k : Int32} {K : List Int32} {vals : Nat → Nat → Int32} {cnt : Nat → Nat} {np : Nat} {kd : Nat → Int32} {lt : Nat → List Int32} {mo : Nat → Mo} {dk : List Int32} {L : List (Nat × Nat)}
theorem Rel.lset {q : Nat} (h : Rel A (K, vals, cnt, np, kd, lt, mo, dk)) (g : Ag A A' q) (w : Wr A' q (kd q) t) : Rel A' (K, vals, cnt, np, kd, va_up lt q t, mo, dk) := by
  obtain ⟨h1, h2, h3, h4, h5⟩ := h
  obtain ⟨g1, g2, g3⟩ := g
  refine ⟨h1.cong (g1 10 (by omega) (by omega) (by omega) (by omega) (by omega) (by omega)), h2.cong (g1 8 (by omega) (by omega) (by omega) (by omega) (by omega) (by omega)) (g1 9 (by omega) (by omega) (by omega) (by omega) (by omega) (by omega)), ⟨h3.1, fun i hi => ?_⟩, fun m hm => (h4 m hm).cong (fun i i1 i2 => g1 i (by omega) (by omega) (by omega) (by omega) (by omega) (by omega)), h5.cong (g1 29 (by omega) (by omega) (by omega) (by omega) (by omega) (by omega))⟩
  by_cases e : i = q
  · rw [e, up_s]; exact w
  · rw [up_n e]
    obtain ⟨w1, w2, w3, w4⟩ := h3.2 i (by omega)
    refine ⟨(g3 i e).1.trans w1, (g3 i e).2.trans w2, w3, fun j hj => ?_⟩
    rw [g2 _ (by omega)]
    exact w4 j hj
theorem c_M_isLetter {x : Int32} (h : Md G S M A l nl nn nd) (hn : nl ≤ 60) :
    mCon G yX8_isLetter cX8_isLetter 2 (some .boolean) (rmD 1) [.ref M, .int x] S (fun v S' => S' = S ∧ v = some (.int (pI (inR x nl)))) := by
  refine mCon.of (I := miX8 false (some .boolean)) (by decide) rfl rfl (fun h => by cases h) (fun _ => rfl) (Nat.le_of_ble_eq_true rfl) ?_
  show Gd _ _ _ _ _ _ _ _ 0 [(0, .ref M), (1, .int x)] [] (0, 0) _
  refine Gd.of (ckX8 _ _) tX8_isLetter_ok (cuts := fun _ => none) 60 ?_
  refine eG.i h.obj rfl ?_
  refine ⟨Nat.le_of_ble_eq_true rfl, ?_⟩
  refine eC.z (c_M_in) ⟨rfl, rfl⟩ ⟨Nat.le_of_ble_eq_true rfl, Nat.le_of_ble_eq_true rfl⟩ ⟨Nat.zero_le _, Nat.zero_le _⟩ (fun v S1 hk => ?_)
  obtain ⟨rfl, rfl⟩ := hk
  have e0 : (0 : Int32).toInt = 0 := rfl
  have e1 : (1 : Int32).toInt = 1 := rfl
  have e2 := nI_toInt (n := nl) (by omega)
  have e3 : (nI nl - 1).toInt = (nl : Int) - 1 := by rw [i_sub (by omega) (by omega), e1, e2]
  refine eR.z (pI_or _) ⟨rfl, ?_⟩
  congr 2
  by_cases q : inR x nl
  · rw [pI_t q, pI_t (by omega)]
  · rw [pI_f q, pI_f (by omega)]
theorem c_M_headOf {x : Int32} : mCon G yX8_headOf cX8_headOf 1 (some .int) (rmD 0) [.int x] S (fun v S' => S' = S ∧ v = some (.int (if x = 1 then 41 else 13))) := by
  refine mCon.of (I := miX8 false (some .int)) (by decide) rfl rfl (fun h => by cases h) (fun _ => rfl) (Nat.le_of_ble_eq_true rfl) ?_
  show Gd _ _ _ _ _ _ _ _ 0 [(0, .int x)] [] (0, 0) _
  refine Gd.of (ckX8 _ _) tX8_headOf_ok (cuts := fun _ => none) 60 ?_
  refine eB.i (fun q => ?_) (fun q => ?_)
  · exact eR.int ⟨rfl, by rw [if_pos q]⟩
  · exact eR.int ⟨rfl, by rw [if_neg q]⟩
theorem c_X8_clear (h : MS G S M (K, vals, cnt, np, kd, lt, mo, dk)) :
    mCon G yX8_clear cX8_clear 2 (some .int) (rmD 14) [.ref M] S (oM G S M (oClr (K, vals, cnt, np, kd, lt, mo, dk))) := by
  obtain ⟨A, l, nn, m, h1, h2, h3, h4, h5⟩ := h
  refine mCon.of (I := miX8 false (some .int)) (by decide) rfl rfl (fun h => by cases h) (fun _ => rfl) (Nat.le_of_ble_eq_true rfl) ?_
  show Gd _ _ _ _ _ _ _ _ 0 [(0, .ref M)] [] (0, 0) _
  refine Gd.of (ckX8 _ _) tX8_clear_ok (cuts := fun _ => none) 60 ?_
  refine eG.i m.obj rfl ?_
  refine ⟨Or.inl rfl, ?_⟩
  refine eP.i m.obj (Nat.le_of_ble_eq_true rfl) rfl rfl ?_
  exact eR.int ⟨rfl, xD_o, A, l, nn, m.nums, h1, h2, ⟨Nat.zero_le _, fun i hi => absurd hi (Nat.not_lt_zero i)⟩, h4, h5⟩
theorem c_X8_letters (h : MS G S M (K, vals, cnt, np, kd, lt, mo, dk)) :
    mCon G yX8_letters cX8_letters 1 (some .int) (rmD 14) [.ref M] S (oM G S M (oLts (K, vals, cnt, np, kd, lt, mo, dk))) := by
  have hall := h
  obtain ⟨A, l, nn, m, h1⟩ := h
  refine mCon.of (I := miX8 false (some .int)) (by decide) rfl rfl (fun h => by cases h) (fun _ => rfl) (Nat.le_of_ble_eq_true rfl) ?_
  show Gd _ _ _ _ _ _ _ _ 0 [(0, .ref M)] [] (0, 0) _
  refine Gd.of (ckX8 _ _) tX8_letters_ok (cuts := fun _ => none) 60 ?_
  refine eG.i m.obj rfl ?_
  exact eR.int ⟨rfl, fr.rf, hall⟩
theorem c_X8_letter {a i : Int32} (h : MS G S M (K, vals, cnt, np, kd, lt, mo, dk)) :
    mCon G yX8_letter cX8_letter 3 (some .int) (rmD 14) [.ref M, .int a, .int i] S (oM G S M (oLet (K, vals, cnt, np, kd, lt, mo, dk) a i)) := by
  have hall := h
  obtain ⟨A, l, nn, m, h1, h2, h3, h4, h5⟩ := h
  have np60 := h3.1
  refine mCon.of (I := miX8 false (some .int)) (by decide) rfl rfl (fun h => by cases h) (fun _ => rfl) (Nat.le_of_ble_eq_true rfl) ?_
  show Gd _ _ _ _ _ _ _ _ 0 [(0, .ref M), (1, .int a), (2, .int i)] [] (0, 0) _
  refine Gd.of (ckX8 _ _) tX8_letter_ok (cuts := fun _ => none) 60 ?_
  refine ⟨rfl, Nat.le_of_ble_eq_true rfl, ?_⟩
  refine eV.i m.obj ?_
  refine eC.z (c_M_isLetter m np60) ⟨rfl, rfl⟩ ⟨Nat.le_of_ble_eq_true rfl, Nat.le_of_ble_eq_true rfl⟩ ⟨Nat.zero_le _, Nat.zero_le _⟩ (fun v S1 hk => ?_)
  obtain ⟨rfl, rfl⟩ := hk
  by_cases hv : inR a np
  · have ea : a = nI a.toInt.toNat := i_of hv.1
    obtain ⟨w1, w2, w3, w4⟩ := h3.2 a.toInt.toNat (by omega)
    have hin : vp_in a 60 := vp_in_iff.mpr (by omega)
    rw [pI_t hv]
    refine eB.f (by decide) ?_
    refine eB.i (fun q => ?_) (fun q => ?_)
    · refine eG.i m.obj rfl ?_
      refine eL.i (i := a) m.a12 hin ?_
      rw [i_cl, w1]
      refine eR.int (oM.no hall ?_ rfl)
      show (if _ then _ else _, _) = _
      rw [if_neg (fun z => z hv), if_pos q]
    · refine eB.i (fun q2 => ?_) (fun q2 => ?_)
      · refine eG.i m.obj rfl ?_
        refine eL.i (i := a) m.a13 hin ?_
        rw [i_cl, w2]
        refine eR.int (oM.no hall ?_ rfl)
        show (if _ then _ else _, _) = _
        rw [if_neg (fun z => z hv), if_neg q, if_pos q2]
      · refine eG.i m.obj rfl ?_
        refine eL.i (i := a) m.a13 hin ?_
        rw [i_cl, w2]
        refine ⟨Nat.le_of_ble_eq_true rfl, ?_⟩
        refine eC.z (c_M_in) ⟨rfl, rfl⟩ ⟨Nat.le_of_ble_eq_true rfl, Nat.le_of_ble_eq_true rfl⟩ ⟨Nat.zero_le _, Nat.zero_le _⟩ (fun v S1 hk => ?_)
        obtain ⟨rfl, rfl⟩ := hk
        have e0 : (0 : Int32).toInt = 0 := rfl
        have e1 : (1 : Int32).toInt = 1 := rfl
        have e2 := nI_toInt (n := (lt a.toInt.toNat).length) (by omega)
        have e3 : (nI (lt a.toInt.toNat).length - 1).toInt = ((lt a.toInt.toNat).length : Int) - 1 := by rw [i_sub (by omega) (by omega), e1, e2]
        by_cases hi : (0 : Int32).toInt ≤ i.toInt ∧ i.toInt ≤ (nI (lt a.toInt.toNat).length - 1).toInt
        · have ei : i = nI i.toInt.toNat := i_of (by omega)
          have e8 : 400 * a + i = nI (400 * a.toInt.toNat + i.toInt.toNat) := by rw [show (400 : Int32) = nI 400 from rfl, ← nI_add, ← pk_mul, ← ea, ← ei]
          rw [pI_t hi]
          refine eB.f (by decide) ?_
          refine eG.i m.obj rfl ?_
          refine eLb.i (i := 400 * a + i) m.a11 (by rw [e8]; exact vp_in_nI (by omega) (by omega)) ?_
          rw [e8, nI_clamp (by omega), w4 _ (by omega)]
          refine eR.int (oM.no hall ?_ rfl)
          show (if _ then _ else _, _) = _
          rw [if_neg (fun z => z hv), if_neg q, if_neg q2, rAt, if_pos (by omega)]
        · rw [pI_f hi]
          refine eB.t rfl ?_
          refine eR.int (oM.no hall ?_ rfl)
          show (if _ then _ else _, _) = _
          rw [if_neg (fun z => z hv), if_neg q, if_neg q2, rAt, if_neg (by omega)]
  · rw [pI_f hv]
    refine eB.t rfl ?_
    refine eR.int (oM.no hall ?_ rfl)
    show (if _ then _ else _, _) = _
    rw [if_pos hv]
theorem c_X8_alter {a i x : Int32} (h : MS G S M (K, vals, cnt, np, kd, lt, mo, dk)) :
    mCon G yX8_alter cX8_alter 5 (some .int) (rmD 14) [.ref M, .int a, .int i, .int x] S (oM G S M (oAlt (K, vals, cnt, np, kd, lt, mo, dk) a i x)) := by
  have hall := h
  obtain ⟨A, l, nn, m, hR⟩ := h
  have hR' := hR
  obtain ⟨h1, h2, h3, h4, h5⟩ := hR
  have np60 := h3.1
  refine mCon.of (I := miX8 false (some .int)) (by decide) rfl rfl (fun h => by cases h) (fun _ => rfl) (Nat.le_of_ble_eq_true rfl) ?_
  show Gd _ _ _ _ _ _ _ _ 0 [(0, .ref M), (1, .int a), (2, .int i), (3, .int x)] [] (0, 0) _
  refine Gd.of (ckX8 _ _) tX8_alter_ok (cuts := fun _ => none) 60 ?_
  refine ⟨rfl, Nat.le_of_ble_eq_true rfl, ?_⟩
  refine eV.i m.obj ?_
  refine eC.z (c_M_isLetter m np60) ⟨rfl, rfl⟩ ⟨Nat.le_of_ble_eq_true rfl, Nat.le_of_ble_eq_true rfl⟩ ⟨Nat.zero_le _, Nat.zero_le _⟩ (fun v S1 hk => ?_)
  obtain ⟨rfl, rfl⟩ := hk
  by_cases hv : inR a np
  · have ea : a = nI a.toInt.toNat := i_of hv.1
    obtain ⟨w1, w2, w3, w4⟩ := h3.2 a.toInt.toNat (by omega)
    have hin : vp_in a 60 := vp_in_iff.mpr (by omega)
    rw [pI_t hv]
    refine eB.f (by decide) ?_
    refine eG.i m.obj rfl ?_
    refine eL.i (i := a) m.a13 hin ?_
    rw [i_cl, w2]
    refine ⟨Nat.le_of_ble_eq_true rfl, ?_⟩
    refine eC.z (c_M_in) ⟨rfl, rfl⟩ ⟨Nat.le_of_ble_eq_true rfl, Nat.le_of_ble_eq_true rfl⟩ ⟨Nat.zero_le _, Nat.zero_le _⟩ (fun v S1 hk => ?_)
    obtain ⟨rfl, rfl⟩ := hk
    have e0 : (0 : Int32).toInt = 0 := rfl
    have e1 : (1 : Int32).toInt = 1 := rfl
    have e2 := nI_toInt (n := (lt a.toInt.toNat).length) (by omega)
    have e3 : (nI (lt a.toInt.toNat).length - 1).toInt = ((lt a.toInt.toNat).length : Int) - 1 := by rw [i_sub (by omega) (by omega), e1, e2]
    by_cases hi : (0 : Int32).toInt ≤ i.toInt ∧ i.toInt ≤ (nI (lt a.toInt.toNat).length - 1).toInt
    · have ei : i = nI i.toInt.toNat := i_of (by omega)
      have e8 : 400 * a + i = nI (400 * a.toInt.toNat + i.toInt.toNat) := by rw [show (400 : Int32) = nI 400 from rfl, ← nI_add, ← pk_mul, ← ea, ← ei]
      have hin2 : vp_in (400 * a + i) 24000 := by rw [e8]; exact vp_in_nI (by omega) (by omega)
      have hcl : (400 * a + i).toNatClampNeg = 400 * a.toInt.toNat + i.toInt.toNat := by rw [e8, nI_clamp (by omega)]
      rw [pI_t hi]
      refine eB.f (by decide) ?_
      refine eG.i m.obj rfl ?_
      refine eG.i m.obj rfl ?_
      refine eLb.i (i := 400 * a + i) m.a11 hin2 ?_
      refine eSb.i (i := 400 * a + i) m.a11 hin2 ?_
      rw [hcl, w4 _ (by omega), isB_nar _]
      have hrA : rAt (lt a.toInt.toNat) i = (lt a.toInt.toNat).getD i.toInt.toNat 0 &&& 255 := by rw [rAt, if_pos (by omega)]
      have ex : ((lt a.toInt.toNat).getD i.toInt.toNat 0 ^^^ x).toInt8.toInt32 = (rAt (lt a.toInt.toNat) i ^^^ x).toInt8.toInt32 := by rw [hrA, xor8]
      rw [ex]
      have hb : ∀ j, isB (upd (A 11) (400 * a.toInt.toNat + i.toInt.toNat) (rAt (lt a.toInt.toNat) i ^^^ x).toInt8.toInt32 j) := by
        intro j
        unfold upd
        split
        · exact isB_nar _
        · exact m.isb rfl (by decide) j
      have m1 := m.s11 hb
      refine eG.i m1.obj rfl ?_
      refine eLb.i (i := 400 * a + i) m1.a11 hin2 ?_
      rw [up_s, hcl, pk_us]
      have e : oAlt (K, vals, cnt, np, kd, lt, mo, dk) a i x = ((rAt (lt a.toInt.toNat) i ^^^ x).toInt8.toInt32 &&& 255, K, vals, cnt, np, kd, va_up lt a.toInt.toNat ((lt a.toInt.toNat).set i.toInt.toNat (rAt (lt a.toInt.toNat) i ^^^ x).toInt8.toInt32), mo, dk) := if_pos ⟨hv, by omega⟩
      rw [e]
      refine eR.int ⟨rfl, xD_up (by omega), _, l, nn, m1, hR'.lset ⟨fun k _ k11 _ _ _ _ => up_n k11, fun j hj => ?_, fun j hj => ⟨by rw [up_n (by decide)], by rw [up_n (by decide)]⟩⟩ ⟨?_, ?_, ?_, fun j hj => ?_⟩⟩
      · rw [up_s, pk_un (by omega)]
      · rw [up_n (by decide)]; exact w1
      · rw [up_n (by decide), List.length_set]; exact w2
      · rw [List.length_set]; exact w3
      · rw [List.length_set] at hj
        rw [up_s]
        by_cases q : j = i.toInt.toNat
        · rw [q, pk_us, List.getD_eq_getElem?_getD, List.getElem?_set_self (by omega)]; rfl
        · rw [pk_un (by omega), w4 j hj, List.getD_eq_getElem?_getD, List.getD_eq_getElem?_getD, List.getElem?_set_ne (fun z => q z.symm)]
    · rw [pI_f hi]
      refine eB.t rfl ?_
      exact eR.int (oM.no hall (if_neg (fun z => hi (by omega))) rfl)
  · rw [pI_f hv]
    refine eB.t rfl ?_
    exact eR.int (oM.no hall (if_neg (fun z => hv z.1)) rfl)
theorem c_X8_cut {a n : Int32} (hI : Inv (K, vals, cnt, np, kd, lt, mo, dk)) (h : MS G S M (K, vals, cnt, np, kd, lt, mo, dk)) :
    mCon G yX8_cut cX8_cut 4 (some .int) (rmD 14) [.ref M, .int a, .int n] S (oM G S M (oCut (K, vals, cnt, np, kd, lt, mo, dk) a n)) := by
  have hall := h
  obtain ⟨A, l, nn, m, hR⟩ := h
  have hR' := hR
  obtain ⟨h1, h2, h3, h4, h5⟩ := hR
  have np60 := h3.1
  refine mCon.of (I := miX8 false (some .int)) (by decide) rfl rfl (fun h => by cases h) (fun _ => rfl) (Nat.le_of_ble_eq_true rfl) ?_
  show Gd _ _ _ _ _ _ _ _ 0 [(0, .ref M), (1, .int a), (2, .int n)] [] (0, 0) _
  refine Gd.of (ckX8 _ _) tX8_cut_ok (cuts := fun _ => none) 60 ?_
  refine ⟨rfl, Nat.le_of_ble_eq_true rfl, ?_⟩
  refine eV.i m.obj ?_
  refine eC.z (c_M_isLetter m np60) ⟨rfl, rfl⟩ ⟨Nat.le_of_ble_eq_true rfl, Nat.le_of_ble_eq_true rfl⟩ ⟨Nat.zero_le _, Nat.zero_le _⟩ (fun v S1 hk => ?_)
  obtain ⟨rfl, rfl⟩ := hk
  by_cases hv : inR a np
  · have ea : a = nI a.toInt.toNat := i_of hv.1
    obtain ⟨w1, w2, w3, w4⟩ := h3.2 a.toInt.toNat (by omega)
    have ho := hashN_ok (hI.1 a.toInt.toNat (by omega))
    have hin : vp_in a 60 := vp_in_iff.mpr (by omega)
    generalize hp : a.toInt.toNat = p at *
    have v12 : A 12 a.toNatClampNeg = kd p := by rw [i_cl, hp, w1]
    have v13 : A 13 a.toNatClampNeg = nI (lt p).length := by rw [i_cl, hp, w2]
    rw [pI_t hv]
    refine eB.f (by decide) ?_
    refine eG.i m.obj rfl ?_
    refine eL.i (i := a) m.a12 hin ?_
    rw [v12]
    rcases ho with ⟨k0, -⟩ | ⟨k0, e0, e1, e2⟩
    · refine eB.t k0 ?_
      exact eR.int (oM.no hall (if_neg (fun z => z.2.1 (by rw [hp]; exact k0))) rfl)
    · refine eB.f k0 ?_
      refine eB.i (fun q => ?_) (fun q => ?_)
      · rw [i_ge0] at q
        refine eG.i m.obj rfl ?_
        refine eL.i (i := a) m.a13 hin ?_
        refine eG.i m.obj rfl ?_
        refine eL.i (i := a) m.a12 hin ?_
        rw [v12, v13]
        refine ⟨Nat.le_of_ble_eq_true rfl, ?_⟩
        refine eC.z (c_M_headOf) ⟨rfl, rfl⟩ ⟨Nat.le_of_ble_eq_true rfl, Nat.le_of_ble_eq_true rfl⟩ ⟨Nat.zero_le _, Nat.zero_le _⟩ (fun v S1 hk => ?_)
        obtain ⟨rfl, rfl⟩ := hk
        refine eZ.i (by decide) ?_
        rw [hashN, if_neg k0] at e0
        rw [e0]
        refine eB.i (fun q2 => ?_) (fun q2 => ?_)
        · rw [i_len (by omega)] at q2
          have hn3 : n = nI n.toInt.toNat := i_of (by omega)
          refine eG.i m.obj rfl ?_
          refine eG.i m.obj rfl ?_
          refine eL.i (i := a) m.a12 hin ?_
          rw [v12]
          refine ⟨Nat.le_of_ble_eq_true rfl, ?_⟩
          refine eC.z (c_M_headOf) ⟨rfl, rfl⟩ ⟨Nat.le_of_ble_eq_true rfl, Nat.le_of_ble_eq_true rfl⟩ ⟨Nat.zero_le _, Nat.zero_le _⟩ (fun v S1 hk => ?_)
          obtain ⟨rfl, rfl⟩ := hk
          refine eS.i (i := a) m.a13 hin ?_
          have eh : (if kd p = 1 then 41 else 13 : Int32) = nI (hcB (kd p)) := by unfold hcB; split <;> rfl
          have hcb : hcB (kd p) ≤ 41 := by unfold hcB; split <;> omega
          have et : (if kd p = 1 then 41 else 13 : Int32) + 32 * n = nI (hcB (kd p) + 32 * n.toInt.toNat) := by rw [eh, ← nI_add, ← pk_mul, ← hn3]; rfl
          rw [et]
          have es : nI (hcN (kd p) (lt p)) - n = nI (hcN (kd p) (lt p) - n.toInt.toNat) := by
            rw [← pk_sub (by omega), ← hn3]
          have e : oCut (K, vals, cnt, np, kd, lt, mo, dk) a n = (nI (hcN (kd p) (lt p) - n.toInt.toNat), K, vals, cnt, np, kd, va_up lt p ((lt p).take (hcB (kd p) + 32 * n.toInt.toNat)), mo, dk) := by
            show (if _ then _ else _) = _
            rw [hp, if_pos ⟨hv, k0, by omega⟩]
          rw [e, ← es]
          have el : ((lt p).take (hcB (kd p) + 32 * n.toInt.toNat)).length = hcB (kd p) + 32 * n.toInt.toNat := by rw [List.length_take]; omega
          refine eR.int ⟨rfl, xD_up (by omega), _, l, nn, m.s13, hR'.lset ⟨fun k _ _ _ k13 _ _ => up_n k13, fun j hj => by rw [up_n (by decide)], fun j hj => ⟨by rw [up_n (by decide)], ?_⟩⟩ ⟨by rw [up_n (by decide)]; exact w1, ?_, by omega, fun j hj => ?_⟩⟩
          · rw [up_s, i_cl, hp, pk_un hj]
          · rw [up_s, i_cl, hp, pk_us, el]
          · rw [up_n (by decide), w4 j (by omega), List.getD_eq_getElem?_getD, List.getD_eq_getElem?_getD, List.getElem?_take_of_lt (by omega)]
        · rw [i_len (by omega)] at q2
          exact eR.int (oM.no hall (if_neg (fun z => by rw [hp] at z; have := z.2.2; omega)) rfl)
      · rw [i_ge0] at q
        exact eR.int (oM.no hall (if_neg (fun z => by have := z.2.2; omega)) rfl)
  · rw [pI_f hv]
    refine eB.t rfl ?_
    exact eR.int (oM.no hall (if_neg (fun z => hv z.1)) rfl)
theorem seg_key {g : Nat} (h : RK A K) (hg : g < 4) : seg (A 10) (8 * g) 8 = part K (8 * g) 8 := by
  have := seg_part (f := A 10) (s := 0) (a := 8 * g) (n := 8) (l := K) (fun j hj => by rw [Nat.zero_add]; exact h.2 j (by rw [h.1] at hj; exact hj)) (by rw [h.1]; omega)
  rw [Nat.zero_add] at this
  exact this
theorem sgn_eq {g : Nat} {row : List Int32} (h : 37 ≤ row.length) (e : row.getD 0 0 = nI g) : sha ([2] ++ part K (8 * g) 8 ++ part row 0 37) = sgn K g (part row 1 36) := by
  unfold sgn
  congr 1
  rw [List.append_assoc ([2] ++ part K (8 * g) 8)]
  congr 1
  apply getD_ext
  · rw [part_len (by omega), List.length_append, part_len (by omega)]; rfl
  · intro j hj
    rw [part_len (by omega)] at hj
    have hp : ∀ a n j, a + n ≤ row.length → j < n → (part row a n).getD j 0 = row.getD (a + j) 0 := by
      intro a n j _ hj
      rw [part, List.getD_eq_getElem?_getD, List.getD_eq_getElem?_getD, List.getElem?_take_of_lt hj, List.getElem?_drop]
    rw [hp 0 37 j (by omega) hj, Nat.zero_add]
    by_cases q : j = 0
    · rw [q, e]; rfl
    · rw [getD_app_r (by show 1 ≤ j; omega), hp 1 36 _ (by omega) (by show j - 1 < 36; omega)]
      congr 1
      show j = 1 + (j - 1)
      omega
theorem c_X8_sign {a : Int32} (hI : Inv (K, vals, cnt, np, kd, lt, mo, dk)) (h : MS G S M (K, vals, cnt, np, kd, lt, mo, dk)) :
    mCon G yX8_sign cX8_sign 3 (some .boolean) (rmD 14) [.ref M, .int a] S (oM G S M (oSig (K, vals, cnt, np, kd, lt, mo, dk) a)) := by
  have hall := h
  obtain ⟨A, l, nn, m, hR⟩ := h
  have hR' := hR
  obtain ⟨h1, h2, h3, h4, h5⟩ := hR
  have np60 := h3.1
  refine mCon.of (I := miX8 false (some .boolean)) (by decide) rfl rfl (fun h => by cases h) (fun _ => rfl) (Nat.le_of_ble_eq_true rfl) ?_
  show Gd _ _ _ _ _ _ _ _ 0 [(0, .ref M), (1, .int a)] [] (0, 0) _
  by_cases hv : inR a np
  · have ea : a = nI a.toInt.toNat := i_of hv.1
    have hW := h3.2 a.toInt.toNat (by omega)
    obtain ⟨w1, w2, w3, w4⟩ := hW
    have ho := hI.1 a.toInt.toNat (by omega)
    have hin : vp_in a 60 := vp_in_iff.mpr (by omega)
    have hp60 : a.toInt.toNat < 60 := by omega
    generalize hp : a.toInt.toNat = p at *
    have v12 : A 12 a.toNatClampNeg = kd p := by rw [i_cl, hp, w1]
    have e4 : 400 * a = nI (400 * p) := by rw [ea, show (400 : Int32) = nI 400 from rfl, pk_mul]
    have hno : ∀ (x : Option Value), x = some (.int 0) → ¬ (kd p = 0 ∧ (rAt (lt p) 0).toInt < 4) → oM G S M (oSig (K, vals, cnt, np, kd, lt, mo, dk) a) x S := by
      intro x hx hc
      refine oM.no hall ?_ hx
      show (if _ then _ else _) = _
      rw [hp, if_neg (fun z => hc z.2)]
    have key : ∀ (d i : Nat) (x : Int32) (S1 : mS) (A1 : AA) (l1 : List Int32) (D : List Int32), kd p = 0 ∧ (rAt (lt p) 0).toInt < 4 → (lt p).length = 45 → D = sgn K (rAt (lt p) 0).toInt.toNat (part (lt p) 1 36) → i + d = 8 → x = nI i → fr S S1 (xD M) → Md G S1 M A1 l1 np nn dk.length → (∀ k, k ≠ 7 → k ≠ 11 → A1 k = A k) → (∀ j, j < 8 → A1 7 j = D.getD j 0) → A1 11 = va_cpy (A1 7) (A 11) 0 (400 * p + 37) i → Gd G (miX8 false (some .boolean)) cX8_sign 3 (rmD 14) 0 0 (oM G S M (oSig (K, vals, cnt, np, kd, lt, mo, dk) a)) 53 [(0, .ref M), (1, .int a), (2, .int x)] [] (0, 0) S1 := by
      intro d
      induction d with
      | zero =>
        intro i x S1 A1 l1 D hc hlen hD hi hx f1 m1 c1 c2 c3
        subst hx
        have e : i = 8 := by omega
        subst e
        refine Gd.of (ckX8 _ _) tX8_sign_ok (cuts := lf 53 3) 60 ?_
        refine eB.t (by decide) ?_
        have e : oSig (K, vals, cnt, np, kd, lt, mo, dk) a = (1, K, vals, cnt, np, kd, va_up lt p ((lt p).take 37 ++ part (sgn K (rAt (lt p) 0).toInt.toNat (part (lt p) 1 36)) 0 8), mo, dk) := by
          show (if _ then _ else _) = _
          rw [hp, if_pos ⟨hv, hc⟩]
        rw [e, ← hD]
        have dl : D.length = 32 := by rw [hD]; exact sha_len _
        have el : ((lt p).take 37 ++ part D 0 8).length = 45 := by rw [List.length_append, part_len (by omega), List.length_take]; omega
        refine eR.t ⟨rfl, f1, A1, l1, nn, m1, hR'.lset ⟨fun k k7 k11 _ _ _ _ => c1 k k7 k11, fun j hj => ?_, fun j hj => ⟨by rw [c1 12 (by decide) (by decide)], by rw [c1 13 (by decide) (by decide)]⟩⟩ ⟨by rw [c1 12 (by decide) (by decide)]; exact w1, ?_, by omega, fun j hj => ?_⟩⟩
        · rw [c3, pk_cpy_out (by omega)]
        · rw [c1 13 (by decide) (by decide), w2, el, hlen]
        · rw [el] at hj
          rw [c3]
          by_cases q : j < 37
          · rw [pk_cpy_out (by omega), w4 j (by omega), getD_app_l (by rw [List.length_take]; omega), List.getD_eq_getElem?_getD, List.getD_eq_getElem?_getD, List.getElem?_take_of_lt q]
          · rw [pk_cpy_in (by omega) (by omega), getD_app_r (by rw [List.length_take]; omega), List.length_take]
            rw [show min 37 (lt p).length = 37 by omega, show 0 + (400 * p + j - (400 * p + 37)) = j - 37 by omega, c2 _ (by omega), part, List.getD_eq_getElem?_getD, List.getD_eq_getElem?_getD, List.getElem?_take_of_lt (by omega), List.getElem?_drop, Nat.zero_add]
      | succ d ih =>
        intro i x S1 A1 l1 D hc hlen hD hi hx f1 m1 c1 c2 c3
        subst hx
        have e5 : 400 * a + 37 + nI i = nI (400 * p + 37 + i) := by rw [e4, show (37 : Int32) = nI 37 from rfl, nI_add, nI_add]
        refine Gd.of (ckX8 _ _) tX8_sign_ok (cuts := lf 53 3) 60 ?_
        refine eB.f (by rw [show (8 : Int32) = nI 8 from rfl, nI_leI (by omega) (by omega)]; omega) ?_
        refine eG.i m1.obj rfl ?_
        refine eG.i m1.obj rfl ?_
        refine eLb.i (i := nI i) m1.a7 (vp_in_nI (by omega) (by omega)) ?_
        refine eSb.i (i := 400 * a + 37 + nI i) m1.a11 (by rw [e5]; exact vp_in_nI (by omega) (by omega)) ?_
        have eb : (A1 7 i).toInt8.toInt32 = A1 7 i := m1.isb rfl (by decide) _
        rw [e5, nI_clamp (by omega), nI_clamp (by omega), eb, c3]
        have ec := cpy_succ (f := A1 7) (g := A 11) (sp := 0) (dp := 400 * p + 37) (n := i)
        rw [Nat.zero_add] at ec
        rw [ec]
        refine ih (i + 1) _ _ _ l1 D hc hlen hD (by omega) (nI_1 i) (f1.tr (xD_up (by omega))) (m1.s11 (fun j => ?_)) (fun k k7 k11 => by rw [up_n k11]; exact c1 k k7 k11) (fun j hj => by rw [up_n (by decide)]; exact c2 j hj) (by rw [up_s, up_n (by decide)])
        unfold va_cpy
        split
        · exact m1.isb rfl (by decide) _
        · exact m.isb rfl (by decide) _
    refine Gd.of (ckX8 _ _) tX8_sign_ok (cuts := lf 53 3) 60 ?_
    refine ⟨rfl, Nat.le_of_ble_eq_true rfl, ?_⟩
    refine eV.i m.obj ?_
    refine eC.z (c_M_isLetter m np60) ⟨rfl, rfl⟩ ⟨Nat.le_of_ble_eq_true rfl, Nat.le_of_ble_eq_true rfl⟩ ⟨Nat.zero_le _, Nat.zero_le _⟩ (fun v S1 hk => ?_)
    obtain ⟨rfl, rfl⟩ := hk
    rw [pI_t hv]
    refine eB.f (by decide) ?_
    refine eG.i m.obj rfl ?_
    refine eL.i (i := a) m.a12 hin ?_
    rw [v12]
    refine eB.i (fun q => ?_) (fun q => ?_)
    · have hlen : (lt p).length = 45 := by
        rcases ho with ⟨-, e⟩ | ⟨e, -⟩ | ⟨e, -⟩
        · exact e
        · rw [e] at q; exact absurd q (by decide)
        · rw [e] at q; exact absurd q (by decide)
      have ea0 := rAt_0n (l := lt p) (by omega)
      have wb : A 11 (400 * p) = (lt p).getD 0 0 := by
        have := w4 0 (by omega)
        rw [Nat.add_zero] at this
        exact this
      have hb0 : isB ((lt p).getD 0 0) := by rw [← wb]; exact m.isb rfl (by decide) _
      obtain ⟨b1, b2⟩ := in03 hb0
      refine eG.i m.obj rfl ?_
      refine eLb.i (i := 400 * a) m.a11 (by rw [e4]; exact vp_in_nI (by omega) (by omega)) ?_
      rw [e4, nI_clamp (by omega), wb]
      refine ⟨Nat.le_of_ble_eq_true rfl, ?_⟩
      refine eC.z (c_M_in) ⟨rfl, rfl⟩ ⟨Nat.le_of_ble_eq_true rfl, Nat.le_of_ble_eq_true rfl⟩ ⟨Nat.zero_le _, Nat.zero_le _⟩ (fun v S1 hk => ?_)
      obtain ⟨rfl, rfl⟩ := hk
      have e0 : (0 : Int32).toInt = 0 := rfl
      have e3 : (3 : Int32).toInt = 3 := rfl
      by_cases hc : (0 : Int32).toInt ≤ ((lt p).getD 0 0).toInt ∧ ((lt p).getD 0 0).toInt ≤ (3 : Int32).toInt
      · rw [pI_t hc]
        refine eB.f (by decide) ?_
        refine eG.i m.obj rfl ?_
        have eg : (lt p).getD 0 0 = nI ((lt p).getD 0 0).toInt.toNat := i_of (by omega)
        have hcs := c_M_signs (i := 11) (s := 400 * p) (g := ((lt p).getD 0 0).toInt.toNat) (p := 0) m rfl (by decide) (by decide) (by show 400 * p + 37 ≤ 24000; omega) (by decide) (by omega) (by omega) (wb.trans eg)
        rw [← e4] at hcs
        refine ⟨rfl, Nat.le_of_ble_eq_true rfl, ?_⟩
        refine eV.i m.obj ?_
        refine eC.z (hcs) ⟨rfl, rfl⟩ ⟨Nat.le_of_ble_eq_true rfl, Nat.le_of_ble_eq_true rfl⟩ ⟨Nat.zero_le _, Nat.zero_le _⟩ (fun v S5 hk => ?_)
        obtain ⟨rfl, f5, l5, m5⟩ := hk
        have esg : seg (A 11) (400 * p) 37 = part (lt p) 0 37 := by
          have := seg_part (f := A 11) (s := 400 * p) (a := 0) (n := 37) (l := lt p) w4 (by omega)
          rw [Nat.add_zero] at this
          exact this
        have eD : sha ([2] ++ seg (A 10) (8 * ((lt p).getD 0 0).toInt.toNat) 8 ++ seg (A 11) (400 * p) 37) = sgn K (rAt (lt p) 0).toInt.toNat (part (lt p) 1 36) := by
          rw [seg_key h1 (by omega), esg, sgn_eq (by omega) eg, ea0, b2 (by omega)]
        rw [eD] at m5
        refine key 8 0 _ S5 _ l5 _ ⟨q, by rw [ea0, b2 (by omega)]; omega⟩ hlen rfl (by omega) rfl f5 m5 (fun k k7 _ => up_n k7) (fun j hj => ?_) ?_
        · rw [up_s, hset, if_pos (by omega)]
          rfl
        · rw [up_n (by decide), cpy_0]
      · rw [pI_f hc]
        refine eB.t rfl ?_
        exact eR.f (hno _ rfl (fun z => hc (by have := z.2; rw [ea0] at this; omega)))
    · exact eR.f (hno _ rfl (fun z => q z.1))
  · refine Gd.of (ckX8 _ _) tX8_sign_ok (cuts := lf 53 3) 60 ?_
    refine ⟨rfl, Nat.le_of_ble_eq_true rfl, ?_⟩
    refine eV.i m.obj ?_
    refine eC.z (c_M_isLetter m np60) ⟨rfl, rfl⟩ ⟨Nat.le_of_ble_eq_true rfl, Nat.le_of_ble_eq_true rfl⟩ ⟨Nat.zero_le _, Nat.zero_le _⟩ (fun v S1 hk => ?_)
    obtain ⟨rfl, rfl⟩ := hk
    rw [pI_f hv]
    refine eB.t rfl ?_
    exact eR.f (oM.no hall (if_neg (fun z => hv z.1)) rfl)
end LTT
