/-! the reference's desk -/
section DSK
variable {G : mG} {S S' : mS} {M nl nn nd : Nat} {A A' : AA} {l t : List Int32} {K : List Int32} {vals : Nat → Nat → Int32} {cnt : Nat → Nat} {np : Nat} {kd : Nat → Int32} {lt : Nat → List Int32} {mo : Nat → Mo} {dk : List Int32}
theorem rsz_len {l : List Int32} {n : Nat} : (rsz l n).length = n := by
  rw [rsz, List.length_append, List.length_take, List.length_replicate]; omega
theorem rsz_getD {l : List Int32} {n j : Nat} (hj : j < n) : (rsz l n).getD j 0 = if j < l.length then l.getD j 0 else 0 := by
  unfold rsz
  by_cases q : j < l.length
  · rw [if_pos q, getD_app_l (by rw [List.length_take]; omega), List.getD_eq_getElem?_getD, List.getD_eq_getElem?_getD, List.getElem?_take_of_lt hj]
  · rw [if_neg q, getD_app_r (by rw [List.length_take]; omega), List.getD_eq_getElem?_getD, List.getElem?_replicate]
    split <;> rfl
theorem Rel.desk {dk' : List Int32} (h : Rel A (K, vals, cnt, np, kd, lt, mo, dk)) (e : ∀ i, 8 ≤ i → i ≤ 28 → A' i = A i) (r : RD A' dk') : Rel A' (K, vals, cnt, np, kd, lt, mo, dk') := by
  obtain ⟨h1, h2, h3, h4, h5⟩ := h
  exact ⟨h1.cong (e 10 (by omega) (by omega)), h2.cong (e 8 (by omega) (by omega)) (e 9 (by omega) (by omega)), ⟨h3.1, fun i hi => (h3.2 i hi).cong (e 11 (by omega) (by omega)) (e 12 (by omega) (by omega)) (e 13 (by omega) (by omega))⟩, fun m hm => (h4 m hm).cong (fun i i1 i2 => e i (by omega) (by omega)), r⟩
theorem c_X8_desk {i : Int32} (h : MS G S M (K, vals, cnt, np, kd, lt, mo, dk)) :
    mCon G yX8_desk cX8_desk 2 (some .int) (rmD 14) [.ref M, .int i] S (oM G S M (oDsk (K, vals, cnt, np, kd, lt, mo, dk) i)) := by
  have hall := h
  obtain ⟨A, l, nn, m0, h1, h2, h3, h4, h5⟩ := h
  have hd := h5.1
  refine mCon.of (I := miX8 false (some .int)) (by decide) rfl rfl (fun h => by cases h) (fun _ => rfl) (Nat.le_of_ble_eq_true rfl) ?_
  show Gd _ _ _ _ _ _ _ _ 0 [(0, .ref M), (1, .int i)] [] (0, 0) _
  refine Gd.of (ckX8 _ _) tX8_desk_ok (cuts := fun _ => none) 60 ?_
  refine eG.i m0.obj rfl ?_
  refine ⟨Nat.le_of_ble_eq_true rfl, ?_⟩
  refine eC.z (c_M_in) ⟨rfl, rfl⟩ ⟨Nat.le_of_ble_eq_true rfl, Nat.le_of_ble_eq_true rfl⟩ ⟨Nat.zero_le _, Nat.zero_le _⟩ (fun v S1 hk => ?_)
  obtain ⟨rfl, rfl⟩ := hk
  by_cases hi : inR i dk.length
  · obtain ⟨j, hj, hji⟩ : ∃ j, j < dk.length ∧ i = nI j := ⟨i.toInt.toNat, by omega, i_of hi.1⟩
    subst hji
    rw [pI_t ((in_n (by omega)).mpr hi)]
    refine eB.f (by decide) ?_
    refine eG.i m0.obj rfl ?_
    refine eLb.i (i := nI j) m0.a29 (vp_in_nI (by omega) (by omega)) ?_
    rw [nI_clamp (by omega), h5.2.1 j hj]
    refine eR.int (oM.an hall ?_ rfl rfl)
    exact rAt_n hj (by omega)
  · rw [pI_f (fun z => hi ((in_n (by omega)).mp z))]
    refine eB.t rfl ?_
    refine eR.int (oM.an hall ?_ rfl rfl)
    exact if_neg hi
theorem c_X8_patch {i x : Int32} (h : MS G S M (K, vals, cnt, np, kd, lt, mo, dk)) :
    mCon G yX8_patch cX8_patch 3 (some .boolean) (rmD 14) [.ref M, .int i, .int x] S (oM G S M (oPat (K, vals, cnt, np, kd, lt, mo, dk) i x)) := by
  have hall := h
  obtain ⟨A, l, nn, m0, hR⟩ := h
  have hR' := hR
  obtain ⟨h1, h2, h3, h4, h5⟩ := hR
  have hd := h5.1
  refine mCon.of (I := miX8 false (some .boolean)) (by decide) rfl rfl (fun h => by cases h) (fun _ => rfl) (Nat.le_of_ble_eq_true rfl) ?_
  show Gd _ _ _ _ _ _ _ _ 0 [(0, .ref M), (1, .int i), (2, .int x)] [] (0, 0) _
  refine Gd.of (ckX8 _ _) tX8_patch_ok (cuts := fun _ => none) 60 ?_
  refine eG.i m0.obj rfl ?_
  refine ⟨Nat.le_of_ble_eq_true rfl, ?_⟩
  refine eC.z (c_M_in) ⟨rfl, rfl⟩ ⟨Nat.le_of_ble_eq_true rfl, Nat.le_of_ble_eq_true rfl⟩ ⟨Nat.zero_le _, Nat.zero_le _⟩ (fun v S1 hk => ?_)
  obtain ⟨rfl, rfl⟩ := hk
  by_cases hi : inR i dk.length
  · obtain ⟨j, hj, hji⟩ : ∃ j, j < dk.length ∧ i = nI j := ⟨i.toInt.toNat, by omega, i_of hi.1⟩
    subst hji
    have ej : (nI j).toInt.toNat = j := by rw [nI_toInt (by omega)]; rfl
    rw [pI_t ((in_n (by omega)).mpr hi)]
    refine eB.f (by decide) ?_
    refine eG.i m0.obj rfl ?_
    refine eSb.i (i := nI j) m0.a29 (vp_in_nI (by omega) (by omega)) ?_
    rw [nI_clamp (by omega), isB_nar _]
    have m1 := m0.s29 (f := upd (A 29) j x.toInt8.toInt32) (fun k => by
      unfold upd
      split
      · exact isB_nar _
      · exact m0.isb rfl (by decide) k)
    have e : oPat (K, vals, cnt, np, kd, lt, mo, dk) (nI j) x = (1, K, vals, cnt, np, kd, lt, mo, dk.set j x.toInt8.toInt32) := by
      show (if _ then _ else _) = _
      rw [if_pos hi, ej]
    rw [e]
    refine eR.t ⟨rfl, xD_up (by omega), va_up A 29 (upd (A 29) j x.toInt8.toInt32), l, nn, (show Md G _ M _ l np nn (dk.set j x.toInt8.toInt32).length from by rw [List.length_set]; exact m1), hR'.desk (fun k _ _ => up_n (by omega)) ⟨by rw [List.length_set]; exact hd, fun k hk => ?_, fun k hk hk2 => ?_⟩⟩
    · rw [List.length_set] at hk
      rw [up_s]
      by_cases q : k = j
      · rw [q, pk_us, List.getD_eq_getElem?_getD, List.getElem?_set_self (by omega)]; rfl
      · rw [pk_un q, h5.2.1 k hk, List.getD_eq_getElem?_getD, List.getD_eq_getElem?_getD, List.getElem?_set_ne (fun z => q z.symm)]
    · rw [List.length_set] at hk
      rw [up_s, pk_un (by omega)]
      exact h5.2.2 k hk hk2
  · rw [pI_f (fun z => hi ((in_n (by omega)).mp z))]
    refine eB.t rfl ?_
    exact eR.f (oM.no hall (if_neg hi) rfl)
theorem c_X8_trim {n : Int32} (h : MS G S M (K, vals, cnt, np, kd, lt, mo, dk)) :
    mCon G yX8_trim cX8_trim 3 (some .boolean) (rmD 14) [.ref M, .int n] S (oM G S M (oTri (K, vals, cnt, np, kd, lt, mo, dk) n)) := by
  have hall := h
  obtain ⟨A, l, nn, m0, hR⟩ := h
  have hR' := hR
  obtain ⟨h1, h2, h3, h4, h5⟩ := hR
  have hd := h5.1
  refine mCon.of (I := miX8 false (some .boolean)) (by decide) rfl rfl (fun h => by cases h) (fun _ => rfl) (Nat.le_of_ble_eq_true rfl) ?_
  show Gd _ _ _ _ _ _ _ _ 0 [(0, .ref M), (1, .int n)] [] (0, 0) _
  by_cases hi : inR n 635
  · obtain ⟨j, hj, hji⟩ : ∃ j, j < 635 ∧ n = nI j := ⟨n.toInt.toNat, by omega, i_of hi.1⟩
    subst hji
    have ej : (nI j).toInt.toNat = j := by rw [nI_toInt (by omega)]; rfl
    have e : oTri (K, vals, cnt, np, kd, lt, mo, dk) (nI j) = (1, K, vals, cnt, np, kd, lt, mo, rsz dk j) := by
      show (if _ then _ else _) = _
      rw [if_pos hi, ej]
    rw [e]
    have key : ∀ (d k : Nat) (x : Int32) (S4 : mS), j + k + d = 640 → x = nI (j + k) → fr S S4 (xD M) → Md G S4 M (va_up A 29 (va_cpy (fun _ => 0) (A 29) 0 j k)) l np nn dk.length →
        Gd G (miX8 false (some .boolean)) cX8_trim 3 (rmD 14) 0 0 (oM G S M (1, K, vals, cnt, np, kd, lt, mo, rsz dk j)) 15 [(0, .ref M), (1, .int (nI j)), (2, .int x)] [] (0, 0) S4 := by
      intro d
      induction d with
      | zero =>
        intro k x S4 hk hx f4 m4
        subst hx
        refine Gd.of (ckX8 _ _) tX8_trim_ok (cuts := lf 15 3) 60 ?_
        refine eB.t (by rw [show (640 : Int32) = nI 640 from rfl, nI_leI (by omega) (by omega)]; omega) ?_
        refine ⟨Or.inl rfl, ?_⟩
        refine eP.i m4.obj (Nat.le_of_ble_eq_true rfl) rfl rfl ?_
        refine eR.t ⟨rfl, f4.tr xD_o, va_up A 29 (va_cpy (fun _ => 0) (A 29) 0 j k), l, nn, (show Md G _ M _ l np nn (rsz dk j).length from by rw [rsz_len]; exact m4.nums), hR'.desk (fun k _ _ => up_n (by omega)) ⟨by rw [rsz_len]; omega, fun y hy => ?_, fun y hy hy2 => ?_⟩⟩
        · rw [rsz_len] at hy
          rw [up_s, pk_cpy_out (by omega), rsz_getD hy]
          by_cases q : y < dk.length
          · rw [if_pos q]; exact h5.2.1 y q
          · rw [if_neg q]; exact h5.2.2 y (by omega) (by omega)
        · rw [rsz_len] at hy
          rw [up_s, pk_cpy_in (by omega) (by omega)]
      | succ d ih =>
        intro k x S4 hk hx f4 m4
        subst hx
        refine Gd.of (ckX8 _ _) tX8_trim_ok (cuts := lf 15 3) 60 ?_
        refine eB.f (by rw [show (640 : Int32) = nI 640 from rfl, nI_leI (by omega) (by omega)]; omega) ?_
        refine eG.i m4.obj rfl ?_
        refine eSb.i (i := nI (j + k)) m4.a29 (vp_in_nI (by omega) (by omega)) ?_
        have eu : upd (va_cpy (fun _ => 0) (A 29) 0 j k) (j + k) (0 : Int32).toInt8.toInt32 = va_cpy (fun _ => 0) (A 29) 0 j (k + 1) := cpy_succ (f := fun _ => 0)
        rw [nI_clamp (by omega), up_s, eu]
        have m5 := m4.s29 (f := va_cpy (fun _ => 0) (A 29) 0 j (k + 1)) (fun y => by
          unfold va_cpy
          split
          · exact isB_0
          · exact m0.isb rfl (by decide) y)
        rw [up_up] at m5
        exact ih (k + 1) _ _ (by omega) (nI_1 (j + k)) (f4.tr (xD_up (by omega))) m5
    refine Gd.of (ckX8 _ _) tX8_trim_ok (cuts := lf 15 3) 60 ?_
    refine ⟨Nat.le_of_ble_eq_true rfl, ?_⟩
    refine eC.z (c_M_in) ⟨rfl, rfl⟩ ⟨Nat.le_of_ble_eq_true rfl, Nat.le_of_ble_eq_true rfl⟩ ⟨Nat.zero_le _, Nat.zero_le _⟩ (fun v S1 hk => ?_)
    obtain ⟨rfl, rfl⟩ := hk
    rw [pI_t (in_634.mpr hi)]
    refine eB.f (by decide) ?_
    refine key (640 - j) 0 _ _ (by omega) rfl fr.rf ?_
    rw [cpy_0, up_same]
    exact m0
  · refine Gd.of (ckX8 _ _) tX8_trim_ok (cuts := lf 15 3) 60 ?_
    refine ⟨Nat.le_of_ble_eq_true rfl, ?_⟩
    refine eC.z (c_M_in) ⟨rfl, rfl⟩ ⟨Nat.le_of_ble_eq_true rfl, Nat.le_of_ble_eq_true rfl⟩ ⟨Nat.zero_le _, Nat.zero_le _⟩ (fun v S1 hk => ?_)
    obtain ⟨rfl, rfl⟩ := hk
    rw [pI_f (fun z => hi (in_634.mp z))]
    refine eB.t rfl ?_
    exact eR.f (oM.no hall (if_neg hi) rfl)
theorem c_X8_hash {i : Int32} (h : MS G S M (K, vals, cnt, np, kd, lt, mo, dk)) :
    mCon G yX8_hash cX8_hash 2 (some .int) (rmD 14) [.ref M, .int i] S (oM G S M (oHas (K, vals, cnt, np, kd, lt, mo, dk) i)) := by
  have hall := h
  obtain ⟨A, l, nn, m0, hR⟩ := h
  have hR' := hR
  obtain ⟨h1, h2, h3, h4, h5⟩ := hR
  have hd := h5.1
  refine mCon.of (I := miX8 false (some .int)) (by decide) rfl rfl (fun h => by cases h) (fun _ => rfl) (Nat.le_of_ble_eq_true rfl) ?_
  show Gd _ _ _ _ _ _ _ _ 0 [(0, .ref M), (1, .int i)] [] (0, 0) _
  refine Gd.of (ckX8 _ _) tX8_hash_ok (cuts := fun _ => none) 60 ?_
  refine ⟨Nat.le_of_ble_eq_true rfl, ?_⟩
  refine eC.z (c_M_in) ⟨rfl, rfl⟩ ⟨Nat.le_of_ble_eq_true rfl, Nat.le_of_ble_eq_true rfl⟩ ⟨Nat.zero_le _, Nat.zero_le _⟩ (fun v S1 hk => ?_)
  obtain ⟨rfl, rfl⟩ := hk
  by_cases hi : inR i 32
  · obtain ⟨j, hj, hji⟩ : ∃ j, j < 32 ∧ i = nI j := ⟨i.toInt.toNat, by omega, i_of hi.1⟩
    subst hji
    rw [pI_t (in_31.mpr hi)]
    refine eB.f (by decide) ?_
    refine ⟨rfl, Nat.le_of_ble_eq_true rfl, ?_⟩
    refine eV.i m0.obj ?_
    refine eC.z (c_M_start m0) ⟨rfl, rfl⟩ ⟨Nat.le_of_ble_eq_true rfl, Nat.le_of_ble_eq_true rfl⟩ ⟨Nat.zero_le _, Nat.zero_le _⟩ (fun v S2 hk => ?_)
    obtain ⟨rfl, f2, m2⟩ := hk
    refine eG.i m2.obj rfl ?_
    refine eG.i m2.obj rfl ?_
    refine ⟨rfl, Nat.le_of_ble_eq_true rfl, ?_⟩
    refine eV.i m2.obj ?_
    refine eC.z (c_M_putRow (i := 29) (s := 0) (n := dk.length) m2 rfl (by decide) (by decide) (by show 0 + dk.length ≤ 640; omega) (by decide) (by show 0 + dk.length ≤ 768; omega)) ⟨rfl, rfl⟩ ⟨Nat.le_of_ble_eq_true rfl, Nat.le_of_ble_eq_true rfl⟩ ⟨Nat.zero_le _, Nat.zero_le _⟩ (fun v S3 hk => ?_)
    obtain ⟨rfl, f3, m3⟩ := hk
    rw [List.nil_append, seg_eq (l := dk) (fun y hy => by rw [Nat.zero_add]; exact h5.2.1 y hy)] at m3
    refine ⟨rfl, Nat.le_of_ble_eq_true rfl, ?_⟩
    refine eV.i m3.obj ?_
    refine eC.z (c_M_sum (p := 0) m3 (by omega) hd) ⟨rfl, rfl⟩ ⟨Nat.le_of_ble_eq_true rfl, Nat.le_of_ble_eq_true rfl⟩ ⟨Nat.zero_le _, Nat.zero_le _⟩ (fun v S4 hk => ?_)
    obtain ⟨rfl, f4, l4, m4⟩ := hk
    refine eG.i m4.obj rfl ?_
    refine eLb.i (i := nI j) m4.a7 (vp_in_nI (by omega) (by omega)) ?_
    rw [nI_clamp (by omega), up_s, hset, if_pos (by omega), show j - 32 * 0 = j by omega]
    refine eR.int ⟨?_, (f2.tr f3).tr f4, _, l4, nn, m4, hR'.cong (fun k _ _ _ _ => up_n (by omega))⟩
    have e : (oHas (K, vals, cnt, np, kd, lt, mo, dk) (nI j)).1 = rAt (sha dk) (nI j) := if_pos hi
    rw [e, rAt_n (by rw [sha_len]; exact hj) (by omega)]
  · rw [pI_f (fun z => hi (in_31.mp z))]
    refine eB.t rfl ?_
    refine eR.int (oM.an hall ?_ rfl rfl)
    exact if_neg hi
theorem c_M_lays {i s n : Nat} (h : Md G S M A l nl nn nd) (bi : mdB i = true) (i6 : 6 < i) (i29 : i < 29) (hi : mdN i ≤ 24000) (hs : s + n ≤ mdN i) (hn : nd + n ≤ 640) :
    mCon G yX8_lays cX8_lays 5 none (rmD 0) [.ref M, .ref (M + i), .int (nI s), .int (nI n)] S (fun v S' => v = none ∧ fr S S' (xD M) ∧ Md G S' M (va_up A 29 (va_cpy (A i) (A 29) s nd n)) l nl nn (nd + n)) := by
  have key : ∀ (d k : Nat) (x : Int32) (S4 : mS), k + d = n → x = nI k → fr S S4 (xD M) → Md G S4 M (va_up A 29 (va_cpy (A i) (A 29) s nd k)) l nl nn (nd + k) →
      Gd G (miX8 false none) cX8_lays 5 (rmD 0) 0 0 (fun v S' => v = none ∧ fr S S' (xD M) ∧ Md G S' M (va_up A 29 (va_cpy (A i) (A 29) s nd n)) l nl nn (nd + n)) 3 [(0, .ref M), (1, .ref (M + i)), (2, .int (nI s)), (3, .int (nI n)), (4, .int x)] [] (0, 0) S4 := by
    intro d
    induction d with
    | zero =>
      intro k x S4 hk hx f4 m4
      subst hx
      have e : k = n := by omega
      subst e
      refine Gd.of (ckX8 _ _) tX8_lays_ok (cuts := lf 3 5) 60 ?_
      refine eB.t (by rw [nI_leI (by omega) (by omega)]; omega) ?_
      exact eR.v ⟨rfl, f4, m4⟩
    | succ d ih =>
      intro k x S4 hk hx f4 m4
      subst hx
      have e1 : nI s + nI k = nI (s + k) := nI_add _ _
      refine Gd.of (ckX8 _ _) tX8_lays_ok (cuts := lf 3 5) 60 ?_
      refine eB.f (by rw [nI_leI (by omega) (by omega)]; omega) ?_
      refine eG.i m4.obj rfl ?_
      refine eG.i m4.obj rfl ?_
      refine eLb.i (i := nI s + nI k) (m4.b bi i6 (by omega)) (by rw [e1]; exact vp_in_nI (by omega) (by omega)) ?_
      refine eSb.i (i := nI (nd + k)) m4.a29 (vp_in_nI (by omega) (by omega)) ?_
      have eb : (A i (s + k)).toInt8.toInt32 = A i (s + k) := h.isb bi i6 _
      rw [e1, nI_clamp (by omega), nI_clamp (by omega), show va_up A 29 (va_cpy (A i) (A 29) s nd k) i = A i from up_n (by omega), eb, up_s, cpy_succ]
      have m5 := m4.s29 (f := va_cpy (A i) (A 29) s nd (k + 1)) (fun y => by
        unfold va_cpy
        split
        · exact h.isb bi i6 _
        · exact h.isb rfl (by decide) y)
      rw [up_up] at m5
      refine eG.i m5.obj rfl ?_
      refine ⟨Or.inl rfl, ?_⟩
      refine eP.i m5.obj (Nat.le_of_ble_eq_true rfl) rfl rfl ?_
      rw [nI_1 (nd + k)]
      exact ih (k + 1) _ _ (by omega) (nI_1 k) ((f4.tr (xD_up (by omega))).tr xD_o) m5.nums
  refine mCon.of (I := miX8 false none) (by decide) rfl rfl (fun h => by cases h) (fun _ => rfl) (Nat.le_of_ble_eq_true rfl) ?_
  show Gd _ _ _ _ _ _ _ _ 0 [(0, .ref M), (1, .ref (M + i)), (2, .int (nI s)), (3, .int (nI n))] [] (0, 0) _
  refine Gd.of (ckX8 _ _) tX8_lays_ok (cuts := lf 3 5) 60 ?_
  refine key n 0 _ S (by omega) rfl fr.rf ?_
  rw [cpy_0, up_same]
  exact h
end DSK
