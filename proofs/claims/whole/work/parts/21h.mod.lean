/-! what the reference says of its monitors -/
theorem in_44 {x : Int32} : ((0 : Int32).toInt ≤ x.toInt ∧ x.toInt ≤ (44 : Int32).toInt) ↔ inR x 45 := in_n (k := 45) (by decide)
theorem in_35 {x : Int32} : ((0 : Int32).toInt ≤ x.toInt ∧ x.toInt ≤ (35 : Int32).toInt) ↔ inR x 36 := in_n (k := 36) (by decide)
theorem in_634 {x : Int32} : ((0 : Int32).toInt ≤ x.toInt ∧ x.toInt ≤ (634 : Int32).toInt) ↔ inR x 635 := in_n (k := 635) (by decide)
theorem in_31 {x : Int32} : ((0 : Int32).toInt ≤ x.toInt ∧ x.toInt ≤ (31 : Int32).toInt) ↔ inR x 32 := in_n (k := 32) (by decide)
section HLD
variable {G : mG} {S S' : mS} {M nl nn nd : Nat} {A A' : AA} {l t : List Int32} {K : List Int32} {vals : Nat → Nat → Int32} {cnt : Nat → Nat} {np : Nat} {kd : Nat → Int32} {lt : Nat → List Int32} {mo : Nat → Mo} {dk : List Int32}
theorem oM.an {y : Int32} {s : Sg} {r : Int32 × Sg} {v : Option Value} (h : MS G S M s) (hr : r.1 = y) (h2 : r.2 = s) (hv : v = some (.int y)) : oM G S M r v S := by
  refine ⟨by rw [hr]; exact hv, fr.rf, ?_⟩
  rw [h2]; exact h
theorem c_X8_holds {a x : Int32} (h : MS G S M (K, vals, cnt, np, kd, lt, mo, dk)) :
    mCon G yX8_holds cX8_holds 3 (some .int) (rmD 14) [.ref M, .int a, .int x] S (oM G S M (oHol (K, vals, cnt, np, kd, lt, mo, dk) a x)) := by
  have hall := h
  obtain ⟨A, l, nn, m0, h1, h2, h3, h4, h5⟩ := h
  by_cases hv : inR a 4
  · obtain ⟨m, hm, hma⟩ : ∃ m, m < 4 ∧ a = nI m := ⟨a.toInt.toNat, by omega, i_of hv.1⟩
    subst hma
    have em : (nI m).toInt.toNat = m := by rw [nI_toInt (by omega)]; rfl
    have hin : vp_in (nI m) 4 := vp_in_nI (by omega) (by omega)
    have hcl : (nI m).toNatClampNeg = m := nI_clamp (by omega)
    obtain ⟨a1, a2, a3, a4, a5⟩ := (h4 m hm).2.1
    have hy : ∀ y, cntOf (mo m).1.1 (mo m).1.2.1 (mo m).1.2.2.1 (mo m).1.2.2.2.1 (mo m).1.2.2.2.2 x = y → oM G S M (oHol (K, vals, cnt, np, kd, lt, mo, dk) (nI m) x) (some (.int y)) S := by
      intro y e
      refine oM.an hall ?_ rfl rfl
      show (if _ then _ else _) = _
      rw [if_pos hv, em, e]
    refine mCon.of (I := miX8 false (some .int)) (by decide) rfl rfl (fun h => by cases h) (fun _ => rfl) (Nat.le_of_ble_eq_true rfl) ?_
    show Gd _ _ _ _ _ _ _ _ 0 [(0, .ref M), (1, .int (nI m)), (2, .int x)] [] (0, 0) _
    refine Gd.of (ckX8 _ _) tX8_holds_ok (cuts := fun _ => none) 40 ?_
    refine ⟨Nat.le_of_ble_eq_true rfl, ?_⟩
    refine eC.z (c_M_in) ⟨rfl, rfl⟩ ⟨Nat.le_of_ble_eq_true rfl, Nat.le_of_ble_eq_true rfl⟩ ⟨Nat.zero_le _, Nat.zero_le _⟩ (fun v S1 hk => ?_)
    obtain ⟨rfl, rfl⟩ := hk
    rw [pI_t (in_3.mpr hv)]
    refine eB.f (by decide) ?_
    refine eB.i (fun q => ?_) (fun q => ?_)
    · have h0 : x ≠ 0 := fun z => by rw [z] at q; revert q; decide
      have h1 : x ≠ 1 := fun z => by rw [z] at q; revert q; decide
      have h2 : x ≠ 2 := fun z => by rw [z] at q; revert q; decide
      have h3 : x ≠ 3 := fun z => by rw [z] at q; revert q; decide
      have h4 : x ≠ 4 := fun z => by rw [z] at q; revert q; decide
      refine eR.int (hy _ ?_)
      rw [cntOf, if_neg h0, if_neg h1, if_neg h2, if_neg h3, if_neg h4]
    · intro j off hj hx
      match j, hj, hx with
      | 0, hj, hx =>
        obtain rfl : (36 : Int) = off := Option.some.inj hj
        have e := i_lit (by omega) hx
        subst e
        refine eG.i m0.obj rfl ?_
        refine eL.i (i := nI m) m0.a18 hin ?_
        rw [hcl, a1]
        exact eR.int (hy _ rfl)
      | 1, hj, hx =>
        obtain rfl : (43 : Int) = off := Option.some.inj hj
        have e := i_lit (by omega) hx
        subst e
        refine eG.i m0.obj rfl ?_
        refine eL.i (i := nI m) m0.a19 hin ?_
        rw [hcl, a2]
        exact eR.int (hy _ rfl)
      | 2, hj, hx =>
        obtain rfl : (50 : Int) = off := Option.some.inj hj
        have e := i_lit (by omega) hx
        subst e
        refine eG.i m0.obj rfl ?_
        refine eL.i (i := nI m) m0.a20 hin ?_
        rw [hcl, a3]
        exact eR.int (hy _ rfl)
      | 3, hj, hx =>
        obtain rfl : (57 : Int) = off := Option.some.inj hj
        have e := i_lit (by omega) hx
        subst e
        refine eG.i m0.obj rfl ?_
        refine eL.i (i := nI m) m0.a21 hin ?_
        rw [hcl, a4]
        exact eR.int (hy _ rfl)
      | 4, hj, hx =>
        obtain rfl : (64 : Int) = off := Option.some.inj hj
        have e := i_lit (by omega) hx
        subst e
        refine eG.i m0.obj rfl ?_
        refine eL.i (i := nI m) m0.a22 hin ?_
        rw [hcl, a5]
        exact eR.int (hy _ rfl)
      | j + 5, hj, hx => cases hj
  · refine mCon.of (I := miX8 false (some .int)) (by decide) rfl rfl (fun h => by cases h) (fun _ => rfl) (Nat.le_of_ble_eq_true rfl) ?_
    show Gd _ _ _ _ _ _ _ _ 0 [(0, .ref M), (1, .int a), (2, .int x)] [] (0, 0) _
    refine Gd.of (ckX8 _ _) tX8_holds_ok (cuts := fun _ => none) 40 ?_
    refine ⟨Nat.le_of_ble_eq_true rfl, ?_⟩
    refine eC.z (c_M_in) ⟨rfl, rfl⟩ ⟨Nat.le_of_ble_eq_true rfl, Nat.le_of_ble_eq_true rfl⟩ ⟨Nat.zero_le _, Nat.zero_le _⟩ (fun v S1 hk => ?_)
    obtain ⟨rfl, rfl⟩ := hk
    rw [pI_f (fun z => hv (in_3.mp z))]
    refine eB.t rfl ?_
    refine eR.int (oM.an hall ?_ rfl rfl)
    exact if_neg hv
theorem c_X8_held {a i k : Int32} (hI : Inv (K, vals, cnt, np, kd, lt, mo, dk)) (h : MS G S M (K, vals, cnt, np, kd, lt, mo, dk)) :
    mCon G yX8_held cX8_held 4 (some .int) (rmD 14) [.ref M, .int a, .int i, .int k] S (oM G S M (oHel (K, vals, cnt, np, kd, lt, mo, dk) a i k)) := by
  have hall := h
  obtain ⟨A, l, nn, m0, h1, h2, h3, h4, h5⟩ := h
  by_cases hv : inR a 4
  · obtain ⟨m, hm, hma⟩ : ∃ m, m < 4 ∧ a = nI m := ⟨a.toInt.toNat, by omega, i_of hv.1⟩
    subst hma
    have em : (nI m).toInt.toNat = m := by rw [nI_toInt (by omega)]; rfl
    have hin : vp_in (nI m) 4 := vp_in_nI (by omega) (by omega)
    have hcl : (nI m).toNatClampNeg = m := nI_clamp (by omega)
    have hz := (h4 m hm).1.1
    have a1 := (h4 m hm).2.1.1
    refine mCon.of (I := miX8 false (some .int)) (by decide) rfl rfl (fun h => by cases h) (fun _ => rfl) (Nat.le_of_ble_eq_true rfl) ?_
    show Gd _ _ _ _ _ _ _ _ 0 [(0, .ref M), (1, .int (nI m)), (2, .int i), (3, .int k)] [] (0, 0) _
    refine Gd.of (ckX8 _ _) tX8_held_ok (cuts := fun _ => none) 60 ?_
    refine ⟨Nat.le_of_ble_eq_true rfl, ?_⟩
    refine eC.z (c_M_in) ⟨rfl, rfl⟩ ⟨Nat.le_of_ble_eq_true rfl, Nat.le_of_ble_eq_true rfl⟩ ⟨Nat.zero_le _, Nat.zero_le _⟩ (fun v S1 hk => ?_)
    obtain ⟨rfl, rfl⟩ := hk
    rw [pI_t (in_3.mpr hv)]
    refine eB.f (by decide) ?_
    refine eG.i m0.obj rfl ?_
    refine eL.i (i := nI m) m0.a18 hin ?_
    rw [hcl, a1]
    refine ⟨Nat.le_of_ble_eq_true rfl, ?_⟩
    refine eC.z (c_M_in) ⟨rfl, rfl⟩ ⟨Nat.le_of_ble_eq_true rfl, Nat.le_of_ble_eq_true rfl⟩ ⟨Nat.zero_le _, Nat.zero_le _⟩ (fun v S1 hk => ?_)
    obtain ⟨rfl, rfl⟩ := hk
    by_cases hi : inR i (mo m).1.1
    · obtain ⟨j, hj, hji⟩ : ∃ j, j < (mo m).1.1 ∧ i = nI j := ⟨i.toInt.toNat, by omega, i_of hi.1⟩
      subst hji
      have ej : (nI j).toInt.toNat = j := by rw [nI_toInt (by omega)]; rfl
      have hl := ((hI.2 m hm).1 j hj).1
      have e : (oHel (K, vals, cnt, np, kd, lt, mo, dk) (nI m) (nI j) k).1 = rAt ((mo m).2.1 j) k := by
        show (if _ then _ else _) = _
        rw [em, ej, if_pos ⟨hv, hi⟩]
      rw [pI_t ((in_n (by omega)).mpr hi)]
      refine eB.f (by decide) ?_
      refine ⟨Nat.le_of_ble_eq_true rfl, ?_⟩
      refine eC.z (c_M_in) ⟨rfl, rfl⟩ ⟨Nat.le_of_ble_eq_true rfl, Nat.le_of_ble_eq_true rfl⟩ ⟨Nat.zero_le _, Nat.zero_le _⟩ (fun v S1 hk => ?_)
      obtain ⟨rfl, rfl⟩ := hk
      by_cases hx : inR k 45
      · obtain ⟨x, hx1, hx2⟩ : ∃ x, x < 45 ∧ k = nI x := ⟨k.toInt.toNat, by omega, i_of hx.1⟩
        subst hx2
        rw [pI_t (in_44.mpr hx)]
        refine eB.f (by decide) ?_
        refine eG.i m0.obj rfl ?_
        refine ⟨Nat.le_of_ble_eq_true rfl, ?_⟩
        refine eC.z (c_M_headAt) ⟨rfl, rfl⟩ ⟨Nat.le_of_ble_eq_true rfl, Nat.le_of_ble_eq_true rfl⟩ ⟨Nat.zero_le _, Nat.zero_le _⟩ (fun v S1 hk => ?_)
        obtain ⟨rfl, rfl⟩ := hk
        have e3 : nI (900 * m + 45 * j) + nI x = nI (900 * m + 45 * j + x) := nI_add _ _
        refine eLb.i (i := nI (900 * m + 45 * j) + nI x) m0.a16 (by rw [e3]; exact vp_in_nI (by omega) (by omega)) ?_
        rw [e3, nI_clamp (by omega), (h4 m hm).2.2.1 j hj x hx1]
        refine eR.int (oM.an hall ?_ rfl rfl)
        rw [e, rAt_n (by omega) (by omega)]
      · rw [pI_f (fun z => hx (in_44.mp z))]
        refine eB.t rfl ?_
        refine eR.int (oM.an hall ?_ rfl rfl)
        rw [e, rAt, if_neg (by rw [hl]; exact hx)]
    · rw [pI_f (fun z => hi ((in_n (by omega)).mp z))]
      refine eB.t rfl ?_
      refine eR.int (oM.an hall ?_ rfl rfl)
      show (if _ then _ else _) = _
      rw [em]
      exact if_neg (fun z => hi z.2)
  · refine mCon.of (I := miX8 false (some .int)) (by decide) rfl rfl (fun h => by cases h) (fun _ => rfl) (Nat.le_of_ble_eq_true rfl) ?_
    show Gd _ _ _ _ _ _ _ _ 0 [(0, .ref M), (1, .int a), (2, .int i), (3, .int k)] [] (0, 0) _
    refine Gd.of (ckX8 _ _) tX8_held_ok (cuts := fun _ => none) 60 ?_
    refine ⟨Nat.le_of_ble_eq_true rfl, ?_⟩
    refine eC.z (c_M_in) ⟨rfl, rfl⟩ ⟨Nat.le_of_ble_eq_true rfl, Nat.le_of_ble_eq_true rfl⟩ ⟨Nat.zero_le _, Nat.zero_le _⟩ (fun v S1 hk => ?_)
    obtain ⟨rfl, rfl⟩ := hk
    rw [pI_f (fun z => hv (in_3.mp z))]
    refine eB.t rfl ?_
    refine eR.int (oM.an hall ?_ rfl rfl)
    exact if_neg (fun z => hv z.1)
theorem c_X8_fact {a i x : Int32} (hI : Inv (K, vals, cnt, np, kd, lt, mo, dk)) (h : MS G S M (K, vals, cnt, np, kd, lt, mo, dk)) :
    mCon G yX8_fact cX8_fact 5 (some .int) (rmD 14) [.ref M, .int a, .int i, .int x] S (oM G S M (oFac (K, vals, cnt, np, kd, lt, mo, dk) a i x)) := by
  have hall := h
  obtain ⟨A, l, nn, m0, h1, h2, h3, h4, h5⟩ := h
  by_cases hv : inR a 4
  · obtain ⟨m, hm, hma⟩ : ∃ m, m < 4 ∧ a = nI m := ⟨a.toInt.toNat, by omega, i_of hv.1⟩
    subst hma
    have em : (nI m).toInt.toNat = m := by rw [nI_toInt (by omega)]; rfl
    have hin : vp_in (nI m) 4 := vp_in_nI (by omega) (by omega)
    have hcl : (nI m).toNatClampNeg = m := nI_clamp (by omega)
    have hz := (h4 m hm).1.2.1
    have a2 := (h4 m hm).2.1.2.1
    have e0 : (oFac (K, vals, cnt, np, kd, lt, mo, dk) (nI m) i x).1 = fcV (mo m).1.2.1 (mo m).2.2.1 (mo m).2.2.2.1 i x := by
      show (if _ then _ else _) = _
      rw [if_pos hv, em]
    refine mCon.of (I := miX8 false (some .int)) (by decide) rfl rfl (fun h => by cases h) (fun _ => rfl) (Nat.le_of_ble_eq_true rfl) ?_
    show Gd _ _ _ _ _ _ _ _ 0 [(0, .ref M), (1, .int (nI m)), (2, .int i), (3, .int x)] [] (0, 0) _
    refine Gd.of (ckX8 _ _) tX8_fact_ok (cuts := fun _ => none) 60 ?_
    refine ⟨Nat.le_of_ble_eq_true rfl, ?_⟩
    refine eC.z (c_M_in) ⟨rfl, rfl⟩ ⟨Nat.le_of_ble_eq_true rfl, Nat.le_of_ble_eq_true rfl⟩ ⟨Nat.zero_le _, Nat.zero_le _⟩ (fun v S1 hk => ?_)
    obtain ⟨rfl, rfl⟩ := hk
    rw [pI_t (in_3.mpr hv)]
    refine eB.f (by decide) ?_
    refine eG.i m0.obj rfl ?_
    refine eL.i (i := nI m) m0.a19 hin ?_
    rw [hcl, a2]
    refine ⟨Nat.le_of_ble_eq_true rfl, ?_⟩
    refine eC.z (c_M_in) ⟨rfl, rfl⟩ ⟨Nat.le_of_ble_eq_true rfl, Nat.le_of_ble_eq_true rfl⟩ ⟨Nat.zero_le _, Nat.zero_le _⟩ (fun v S1 hk => ?_)
    obtain ⟨rfl, rfl⟩ := hk
    by_cases hi : inR i (mo m).1.2.1
    · obtain ⟨j, hj, hji⟩ : ∃ j, j < (mo m).1.2.1 ∧ i = nI j := ⟨i.toInt.toNat, by omega, i_of hi.1⟩
      subst hji
      have ej : (nI j).toInt.toNat = j := by rw [nI_toInt (by omega)]; rfl
      obtain ⟨ok1, ⟨g, hg, eg⟩, -⟩ := (hI.2 m hm).2.1 j hj
      obtain ⟨b1, b2, b3, b4⟩ := (h4 m hm).2.2.2.1 j hj
      have hl : 41 ≤ ((mo m).2.2.1 j).length := by
        rcases ok1 with ⟨e, -⟩ | ⟨-, c, -, e⟩ | ⟨e, -⟩
        · exact absurd e (by decide)
        · omega
        · exact absurd e (by decide)
      rw [pI_t ((in_n (by omega)).mpr hi)]
      refine eB.f (by decide) ?_
      refine ⟨Nat.le_of_ble_eq_true rfl, ?_⟩
      refine eC.z (c_M_in) ⟨rfl, rfl⟩ ⟨Nat.le_of_ble_eq_true rfl, Nat.le_of_ble_eq_true rfl⟩ ⟨Nat.zero_le _, Nat.zero_le _⟩ (fun v S1 hk => ?_)
      obtain ⟨rfl, rfl⟩ := hk
      by_cases hx : inR x 36
      · have e1 : (oFac (K, vals, cnt, np, kd, lt, mo, dk) (nI m) (nI j) x).1 = (if x = 0 then rAt ((mo m).2.2.1 j) 0 else if x = 1 then rNum ((mo m).2.2.1 j) 1 else if x = 2 then (mo m).2.2.2.1 j else if x = 3 then (nI ((mo m).2.2.1 j).length - 41) / 32 else rAt ((mo m).2.2.1 j) (9 + x - 4)) := by
          rw [e0, fcV, if_pos ⟨hi, hx⟩, ej]
        have e12 : 12 * nI m + nI j = nI (12 * m + j) := by rw [show (12 : Int32) = nI 12 from rfl, pk_mul, nI_add]
        have hin2 : vp_in (12 * nI m + nI j) 48 := by rw [e12]; exact vp_in_nI (by omega) (by omega)
        have hcl2 : (12 * nI m + nI j).toNatClampNeg = 12 * m + j := by rw [e12, nI_clamp (by omega)]
        rw [pI_t (in_35.mpr hx)]
        refine eB.f (by decide) ?_
        refine ⟨Nat.le_of_ble_eq_true rfl, ?_⟩
        refine eC.z (c_M_factAt) ⟨rfl, rfl⟩ ⟨Nat.le_of_ble_eq_true rfl, Nat.le_of_ble_eq_true rfl⟩ ⟨Nat.zero_le _, Nat.zero_le _⟩ (fun v S1 hk => ?_)
        obtain ⟨rfl, rfl⟩ := hk
        refine eB.i (fun q => ?_) (fun q => ?_)
        · have h0 : x ≠ 0 := fun z => by rw [z] at q; revert q; decide
          have h1 : x ≠ 1 := fun z => by rw [z] at q; revert q; decide
          have h2 : x ≠ 2 := fun z => by rw [z] at q; revert q; decide
          have h3 : x ≠ 3 := fun z => by rw [z] at q; revert q; decide
          obtain ⟨y, hy1, hy2⟩ : ∃ y, y < 36 ∧ x = nI y := ⟨x.toInt.toNat, by omega, i_of hx.1⟩
          subst hy2
          have hy4 : 4 ≤ y := by
            have d0 : y ≠ 0 := fun z => h0 (by rw [z]; rfl)
            have d1 : y ≠ 1 := fun z => h1 (by rw [z]; rfl)
            have d2 : y ≠ 2 := fun z => h2 (by rw [z]; rfl)
            have d3 : y ≠ 3 := fun z => h3 (by rw [z]; rfl)
            omega
          have e3 : nI (4800 * m + 400 * j) + 9 + nI y - 4 = nI (4800 * m + 400 * j + (9 + y - 4)) := by
            rw [show (9 : Int32) = nI 9 from rfl, show (4 : Int32) = nI 4 from rfl, nI_add, nI_add, pk_sub (by omega)]
            congr 1
            omega
          have e9 : 9 + nI y - 4 = nI (9 + y - 4) := by
            rw [show (9 : Int32) = nI 9 from rfl, show (4 : Int32) = nI 4 from rfl, nI_add, pk_sub (by omega)]
          refine eG.i m0.obj rfl ?_
          refine eLb.i (i := nI (4800 * m + 400 * j) + 9 + nI y - 4) m0.a17 (by rw [e3]; exact vp_in_nI (by omega) (by omega)) ?_
          rw [e3, nI_clamp (by omega), b4 _ (by omega)]
          refine eR.int (oM.an hall ?_ rfl rfl)
          rw [e1, if_neg h0, if_neg h1, if_neg h2, if_neg h3, e9, rAt_n (by omega) (by omega)]
        · intro z off hz hx
          match z, hz, hx with
          | 0, hz, hx =>
            obtain rfl : (31 : Int) = off := Option.some.inj hz
            have e := i_lit (by omega) hx
            subst e
            refine eG.i m0.obj rfl ?_
            refine eLb.i (i := nI (4800 * m + 400 * j)) m0.a17 (vp_in_nI (by omega) (by omega)) ?_
            have b0 : A 17 (4800 * m + 400 * j) = ((mo m).2.2.1 j).getD 0 0 := b4 0 (by omega)
            rw [nI_clamp (by omega), b0]
            refine eR.int (oM.an hall ?_ rfl rfl)
            rw [e1, if_pos (by decide)]
            have isb : isB (((mo m).2.2.1 j).getD 0 0) := by rw [← b0]; exact m0.isb rfl (by decide) _
            rw [rAt_0n (by omega)] at eg ⊢
            refine (in03 isb).2 ((in03 isb).1.mp ?_).1
            rw [eg, nI_toInt (by omega)]
            omega
          | 1, hz, hx =>
            obtain rfl : (39 : Int) = off := Option.some.inj hz
            have e := i_lit (by omega) hx
            subst e
            refine eG.i m0.obj rfl ?_
            have hc1 := c_M_number (i := 17) (s := 4800 * m + 400 * j + 1) m0 rfl (by decide) (by decide) (by show 4800 * m + 400 * j + 1 + 4 ≤ 19200; omega) (by decide)
            rw [← nI_1 (4800 * m + 400 * j)] at hc1
            refine ⟨Nat.le_of_ble_eq_true rfl, ?_⟩
            refine eC.z (hc1) ⟨rfl, rfl⟩ ⟨Nat.le_of_ble_eq_true rfl, Nat.le_of_ble_eq_true rfl⟩ ⟨Nat.zero_le _, Nat.zero_le _⟩ (fun v S1 hk => ?_)
            obtain ⟨rfl, rfl⟩ := hk
            refine eR.int (oM.an hall ?_ rfl rfl)
            rw [e1, if_neg (by decide), if_pos (by decide), nu4_eq (p := (mo m).2.2.1 j) (j := 1) (fun k hk => by rw [Nat.add_assoc]; exact b4 _ (by omega))]
            exact rNum_n (j := 1) (by omega) (by omega)
          | 2, hz, hx =>
            obtain rfl : (51 : Int) = off := Option.some.inj hz
            have e := i_lit (by omega) hx
            subst e
            refine eG.i m0.obj rfl ?_
            refine eL.i (i := 12 * nI m + nI j) m0.a24 hin2 ?_
            rw [hcl2, b2]
            refine eR.int (oM.an hall ?_ rfl rfl)
            rw [e1, if_neg (by decide), if_neg (by decide), if_pos (by decide)]
          | 3, hz, hx =>
            obtain rfl : (63 : Int) = off := Option.some.inj hz
            have e := i_lit (by omega) hx
            subst e
            refine eG.i m0.obj rfl ?_
            refine eL.i (i := 12 * nI m + nI j) m0.a23 hin2 ?_
            rw [hcl2, b1]
            refine eZ.i (by decide) ?_
            refine eR.int (oM.an hall ?_ rfl rfl)
            rw [e1, if_neg (by decide), if_neg (by decide), if_neg (by decide), if_pos (by decide)]
          | z + 4, hz, hx => cases hz
      · rw [pI_f (fun z => hx (in_35.mp z))]
        refine eB.t rfl ?_
        refine eR.int (oM.an hall ?_ rfl rfl)
        rw [e0, fcV, if_neg (fun z => hx z.2)]
    · rw [pI_f (fun z => hi ((in_n (by omega)).mp z))]
      refine eB.t rfl ?_
      refine eR.int (oM.an hall ?_ rfl rfl)
      rw [e0, fcV, if_neg (fun z => hi z.1)]
  · refine mCon.of (I := miX8 false (some .int)) (by decide) rfl rfl (fun h => by cases h) (fun _ => rfl) (Nat.le_of_ble_eq_true rfl) ?_
    show Gd _ _ _ _ _ _ _ _ 0 [(0, .ref M), (1, .int a), (2, .int i), (3, .int x)] [] (0, 0) _
    refine Gd.of (ckX8 _ _) tX8_fact_ok (cuts := fun _ => none) 60 ?_
    refine ⟨Nat.le_of_ble_eq_true rfl, ?_⟩
    refine eC.z (c_M_in) ⟨rfl, rfl⟩ ⟨Nat.le_of_ble_eq_true rfl, Nat.le_of_ble_eq_true rfl⟩ ⟨Nat.zero_le _, Nat.zero_le _⟩ (fun v S1 hk => ?_)
    obtain ⟨rfl, rfl⟩ := hk
    rw [pI_f (fun z => hv (in_3.mp z))]
    refine eB.t rfl ?_
    refine eR.int (oM.an hall ?_ rfl rfl)
    exact if_neg hv
theorem c_M_isRecord {a i : Int32} (h : Md G S M A l nl nn nd) (h4 : RM A mo) :
    mCon G yX8_isRecord cX8_isRecord 3 (some .boolean) (rmD 1) [.ref M, .int a, .int i] S (fun v S' => S' = S ∧ v = some (.int (pI (inR a 4 ∧ inR i (mo a.toInt.toNat).1.2.2.1)))) := by
  refine mCon.of (I := miX8 false (some .boolean)) (by decide) rfl rfl (fun h => by cases h) (fun _ => rfl) (Nat.le_of_ble_eq_true rfl) ?_
  show Gd _ _ _ _ _ _ _ _ 0 [(0, .ref M), (1, .int a), (2, .int i)] [] (0, 0) _
  refine Gd.of (ckX8 _ _) tX8_isRecord_ok (cuts := fun _ => none) 60 ?_
  refine ⟨Nat.le_of_ble_eq_true rfl, ?_⟩
  refine eC.z (c_M_in) ⟨rfl, rfl⟩ ⟨Nat.le_of_ble_eq_true rfl, Nat.le_of_ble_eq_true rfl⟩ ⟨Nat.zero_le _, Nat.zero_le _⟩ (fun v S1 hk => ?_)
  obtain ⟨rfl, rfl⟩ := hk
  by_cases hv : inR a 4
  · obtain ⟨m, hm, hma⟩ : ∃ m, m < 4 ∧ a = nI m := ⟨a.toInt.toNat, by omega, i_of hv.1⟩
    subst hma
    have em : (nI m).toInt.toNat = m := by rw [nI_toInt (by omega)]; rfl
    have hin : vp_in (nI m) 4 := vp_in_nI (by omega) (by omega)
    have hcl : (nI m).toNatClampNeg = m := nI_clamp (by omega)
    have hz := (h4 m hm).1.2.2
    have a3 := (h4 m hm).2.1.2.2.1
    rw [pI_t (in_3.mpr hv)]
    refine eB.f (by decide) ?_
    refine eG.i h.obj rfl ?_
    refine eL.i (i := nI m) h.a20 hin ?_
    rw [hcl, a3]
    refine ⟨Nat.le_of_ble_eq_true rfl, ?_⟩
    refine eC.z (c_M_in) ⟨rfl, rfl⟩ ⟨Nat.le_of_ble_eq_true rfl, Nat.le_of_ble_eq_true rfl⟩ ⟨Nat.zero_le _, Nat.zero_le _⟩ (fun v S1 hk => ?_)
    obtain ⟨rfl, rfl⟩ := hk
    by_cases hi : inR i (mo m).1.2.2.1
    · rw [pI_t ((in_n (by omega)).mpr hi)]
      refine eB.f (by decide) ?_
      exact eR.t ⟨rfl, by rw [em, pI_t ⟨hv, hi⟩]⟩
    · rw [pI_f (fun z => hi ((in_n (by omega)).mp z))]
      refine eB.t rfl ?_
      exact eR.f ⟨rfl, by rw [em, pI_f (fun z => hi z.2)]⟩
  · rw [pI_f (fun z => hv (in_3.mp z))]
    refine eB.t rfl ?_
    exact eR.f ⟨rfl, by rw [pI_f (fun z => hv z.1)]⟩
theorem c_X8_record {a i x : Int32} (h : MS G S M (K, vals, cnt, np, kd, lt, mo, dk)) :
    mCon G yX8_record cX8_record 5 (some .int) (rmD 14) [.ref M, .int a, .int i, .int x] S (oM G S M (oRec (K, vals, cnt, np, kd, lt, mo, dk) a i x)) := by
  have hall := h
  obtain ⟨A, l, nn, m0, h1, h2, h3, h4, h5⟩ := h
  refine mCon.of (I := miX8 false (some .int)) (by decide) rfl rfl (fun h => by cases h) (fun _ => rfl) (Nat.le_of_ble_eq_true rfl) ?_
  show Gd _ _ _ _ _ _ _ _ 0 [(0, .ref M), (1, .int a), (2, .int i), (3, .int x)] [] (0, 0) _
  refine Gd.of (ckX8 _ _) tX8_record_ok (cuts := fun _ => none) 60 ?_
  refine ⟨rfl, Nat.le_of_ble_eq_true rfl, ?_⟩
  refine eV.i m0.obj ?_
  refine eC.z (c_M_isRecord m0 h4) ⟨rfl, rfl⟩ ⟨Nat.le_of_ble_eq_true rfl, Nat.le_of_ble_eq_true rfl⟩ ⟨Nat.zero_le _, Nat.zero_le _⟩ (fun v S1 hk => ?_)
  obtain ⟨rfl, rfl⟩ := hk
  by_cases hv : inR a 4 ∧ inR i (mo a.toInt.toNat).1.2.2.1
  · obtain ⟨m, hm, hma⟩ : ∃ m, m < 4 ∧ a = nI m := ⟨a.toInt.toNat, by omega, i_of hv.1.1⟩
    subst hma
    have em : (nI m).toInt.toNat = m := by rw [nI_toInt (by omega)]; rfl
    have hz := (h4 m hm).1.2.2
    rw [pI_t hv]
    rw [em] at hv
    obtain ⟨j, hj, hji⟩ : ∃ j, j < (mo m).1.2.2.1 ∧ i = nI j := ⟨i.toInt.toNat, by omega, i_of hv.2.1⟩
    subst hji
    have ej : (nI j).toInt.toNat = j := by rw [nI_toInt (by omega)]; rfl
    obtain ⟨b0, b1, b2, b3⟩ := (h4 m hm).2.2.2.2 j hj
    have e20 : 20 * nI m + nI j = nI (20 * m + j) := by rw [show (20 : Int32) = nI 20 from rfl, pk_mul, nI_add]
    have hin2 : vp_in (20 * nI m + nI j) 80 := by rw [e20]; exact vp_in_nI (by omega) (by omega)
    have hcl2 : (20 * nI m + nI j).toNatClampNeg = 20 * m + j := by rw [e20, nI_clamp (by omega)]
    have e0 : (oRec (K, vals, cnt, np, kd, lt, mo, dk) (nI m) (nI j) x).1 = if inR x 4 then (mo m).2.2.2.2 j x.toInt.toNat else -1 := by
      show (if _ then rcV _ _ _ _ else _) = _
      rw [if_pos hv.1, em, rcV, ej]
      by_cases hx : inR x 4
      · rw [if_pos ⟨hv.2, hx⟩, if_pos hx]
      · rw [if_neg (fun z => hx z.2), if_neg hx]
    refine eB.f (by decide) ?_
    refine eB.i (fun q => ?_) (fun q => ?_)
    · subst q
      refine eG.i m0.obj rfl ?_
      refine eL.i (i := 20 * nI m + nI j) m0.a25 hin2 ?_
      rw [hcl2, b0]
      refine eR.int (oM.an hall ?_ rfl rfl)
      rw [e0, if_pos (by decide)]; rfl
    · refine eB.i (fun q1 => ?_) (fun q1 => ?_)
      · subst q1
        refine eG.i m0.obj rfl ?_
        refine eL.i (i := 20 * nI m + nI j) m0.a26 hin2 ?_
        rw [hcl2, b1]
        refine eR.int (oM.an hall ?_ rfl rfl)
        rw [e0, if_pos (by decide)]; rfl
      · refine eB.i (fun q2 => ?_) (fun q2 => ?_)
        · subst q2
          refine eG.i m0.obj rfl ?_
          refine eL.i (i := 20 * nI m + nI j) m0.a27 hin2 ?_
          rw [hcl2, b2]
          refine eR.int (oM.an hall ?_ rfl rfl)
          rw [e0, if_pos (by decide)]; rfl
        · refine eB.i (fun q3 => ?_) (fun q3 => ?_)
          · subst q3
            refine eG.i m0.obj rfl ?_
            refine eL.i (i := 20 * nI m + nI j) m0.a28 hin2 ?_
            rw [hcl2, b3]
            refine eR.int (oM.an hall ?_ rfl rfl)
            rw [e0, if_pos (by decide)]; rfl
          · refine eR.int (oM.an hall ?_ rfl rfl)
            rw [e0, if_neg (fun z => ?_)]
            have ex := i_of z.1
            have : x.toInt.toNat < 4 := by omega
            generalize x.toInt.toNat = y at this ex
            have : y = 0 ∨ y = 1 ∨ y = 2 ∨ y = 3 := by omega
            rcases this with w | w | w | w <;> rw [w] at ex
            · exact q ex
            · exact q1 ex
            · exact q2 ex
            · exact q3 ex
  · rw [pI_f hv]
    refine eB.t rfl ?_
    refine eR.int (oM.an hall ?_ rfl rfl)
    show (if _ then rcV _ _ _ _ else _) = _
    by_cases hv1 : inR a 4
    · rw [if_pos hv1, rcV, if_neg (fun z => hv ⟨hv1, z.1⟩)]
    · rw [if_neg hv1]
end HLD
