/-! a letter that the reference writes -/
def Wr (A : AA) (q : Nat) (k : Int32) (t : List Int32) : Prop := A 12 q = k ∧ A 13 q = nI t.length ∧ t.length ≤ 400 ∧ ∀ j, j < t.length → A 11 (400 * q + j) = t.getD j 0
def Ag (A A' : AA) (q : Nat) : Prop := (∀ i, i ≠ 7 → i ≠ 11 → i ≠ 12 → i ≠ 13 → i ≠ 14 → i ≠ 15 → A' i = A i) ∧ (∀ j, j < 400 * q ∨ 400 * q + 400 ≤ j → A' 11 j = A 11 j) ∧ ∀ j, j ≠ q → A' 12 j = A 12 j ∧ A' 13 j = A 13 j
def Ae (A A' : AA) : Prop := A' 7 = A 7 ∧ A' 14 = A 14 ∧ A' 15 = A 15
theorem Ag.rf {A : AA} {q : Nat} : Ag A A q := ⟨fun _ _ _ _ _ _ _ => rfl, fun _ _ => rfl, fun _ _ => ⟨rfl, rfl⟩⟩
theorem Ag.tr {A B C : AA} {q : Nat} (h : Ag A B q) (g : Ag B C q) : Ag A C q := ⟨fun i a b c d e f => (g.1 i a b c d e f).trans (h.1 i a b c d e f), fun j hj => (g.2.1 j hj).trans (h.2.1 j hj), fun j hj => ⟨(g.2.2 j hj).1.trans (h.2.2 j hj).1, (g.2.2 j hj).2.trans (h.2.2 j hj).2⟩⟩
theorem Ae.rf {A : AA} : Ae A A := ⟨rfl, rfl, rfl⟩
theorem Ae.tr {A B C : AA} (h : Ae A B) (g : Ae B C) : Ae A C := ⟨g.1.trans h.1, g.2.1.trans h.2.1, g.2.2.trans h.2.2⟩
theorem Ag.h7 {A : AA} {q : Nat} {H : Nat → Int32} : Ag A (va_up A 7 H) q := ⟨fun i a _ _ _ _ _ => up_n a, fun j _ => by rw [up_n (by decide)], fun j _ => ⟨by rw [up_n (by decide)], by rw [up_n (by decide)]⟩⟩
theorem Wr.h7 {A : AA} {q : Nat} {k : Int32} {t : List Int32} {H : Nat → Int32} (h : Wr A q k t) : Wr (va_up A 7 H) q k t := by
  unfold Wr
  rw [up_n (by decide), up_n (by decide), up_n (by decide)]
  exact h
section WRT
variable {G : mG} {S S' : mS} {M nl nn nd p : Nat} {A A1 : AA} {l t : List Int32} {k : Int32}
def adK (G : mG) (S : mS) (M : Nat) (A : AA) (l : List Int32) (nl nn nd : Nat) (k : Int32) (t : List Int32) : Option Value → mS → Prop := fun v S' => v = none ∧ fr S S' (xD M) ∧ ∃ A', Md G S' M A' l nl nn nd ∧ Ag A A' nl ∧ Ae A A' ∧ Wr A' nl k t
theorem c_M_adds {x : Int32} (h : Md G S M A l nl nn nd) (hn : nl < 60) (hw : Wr A nl k t) (ht : t.length < 400) :
    mCon G yX8_adds cX8_adds 2 none (rmD 0) [.ref M, .int x] S (adK G S M A l nl nn nd k (t ++ [x.toInt8.toInt32])) := by
  obtain ⟨w1, w2, w3, w4⟩ := hw
  have hcl : (nI nl).toNatClampNeg = nl := nI_clamp (by omega)
  have hin : vp_in (nI nl) 60 := vp_in_nI (by omega) (by omega)
  have e0 : 400 * nI nl + A 13 (nI nl).toNatClampNeg = nI (400 * nl + t.length) := by rw [hcl, w2, show (400 : Int32) = nI 400 from rfl, pk_mul, nI_add]
  refine mCon.of (I := miX8 false none) (by decide) rfl rfl (fun h => by cases h) (fun _ => rfl) (Nat.le_of_ble_eq_true rfl) ?_
  show Gd _ _ _ _ _ _ _ _ 0 [(0, .ref M), (1, .int x)] [] (0, 0) _
  refine Gd.of (ckX8 _ _) tX8_adds_ok (cuts := fun _ => none) 60 ?_
  refine eG.i h.obj rfl ?_
  refine eG.i h.obj rfl ?_
  refine eG.i h.obj rfl ?_
  refine eG.i h.obj rfl ?_
  refine eL.i (i := nI nl) h.a13 hin ?_
  refine eSb.i (i := 400 * nI nl + A 13 (nI nl).toNatClampNeg) h.a11 (by rw [e0]; exact vp_in_nI (by omega) (by omega)) ?_
  rw [e0, nI_clamp (by omega), isB_nar x]
  have hb : ∀ j, isB (upd (A 11) (400 * nl + t.length) x.toInt8.toInt32 j) := by
    intro j
    unfold upd
    split
    · exact isB_nar _
    · exact h.isb rfl (by decide) j
  have h1 := h.s11 hb
  refine eG.i h1.obj rfl ?_
  refine eG.i h1.obj rfl ?_
  refine eL.i (i := nI nl) h1.a13 hin ?_
  refine eS.i (i := nI nl) h1.a13 hin ?_
  refine eR.v ⟨rfl, (xD_up (by omega)).tr (xD_up (by omega)), _, h1.s13, ⟨fun i i7 i11 i12 i13 i14 i15 => ?_, fun j hj => ?_, fun j hj => ⟨?_, ?_⟩⟩, ⟨?_, ?_, ?_⟩, ?_, ?_, ?_, fun j hj => ?_⟩
  · rw [up_n i13, up_n i11]
  · rw [up_n (by decide), up_s, pk_un (by omega)]
  · rw [up_n (by decide), up_n (by decide)]
  · rw [up_s, hcl, pk_un hj, up_n (by decide)]
  · rw [up_n (by decide), up_n (by decide)]
  · rw [up_n (by decide), up_n (by decide)]
  · rw [up_n (by decide), up_n (by decide)]
  · rw [up_n (by decide), up_n (by decide)]; exact w1
  · rw [up_s, hcl, pk_us, up_n (by decide), w2, nI_1, List.length_append]; rfl
  · rw [List.length_append]; exact ht
  · rw [up_n (by decide), up_s]
    rw [List.length_append, List.length_singleton] at hj
    by_cases e : j = t.length
    · rw [e, pk_us, getD_app_r (by omega), Nat.sub_self]; rfl
    · rw [pk_un (by omega), getD_app_l (by omega), w4 j (by omega)]
theorem c_M_begins {g : Int32} (h : Md G S M A l nl nn nd) (hn : nl < 60) :
    mCon G yX8_begins cX8_begins 3 none (rmD 1) [.ref M, .int k, .int g] S (adK G S M A l nl nn nd k [g.toInt8.toInt32]) := by
  have hcl : (nI nl).toNatClampNeg = nl := nI_clamp (by omega)
  have hin : vp_in (nI nl) 60 := vp_in_nI (by omega) (by omega)
  refine mCon.of (I := miX8 false none) (by decide) rfl rfl (fun h => by cases h) (fun _ => rfl) (Nat.le_of_ble_eq_true rfl) ?_
  show Gd _ _ _ _ _ _ _ _ 0 [(0, .ref M), (1, .int k), (2, .int g)] [] (0, 0) _
  refine Gd.of (ckX8 _ _) tX8_begins_ok (cuts := fun _ => none) 60 ?_
  refine eG.i h.obj rfl ?_
  refine eG.i h.obj rfl ?_
  refine eS.i (i := nI nl) h.a12 hin ?_
  have h1 := h.s12 (f := upd (A 12) (nI nl).toNatClampNeg k)
  refine eG.i h1.obj rfl ?_
  refine eG.i h1.obj rfl ?_
  refine eS.i (i := nI nl) h1.a13 hin ?_
  have h2 := h1.s13 (f := upd (va_up A 12 (upd (A 12) (nI nl).toNatClampNeg k) 13) (nI nl).toNatClampNeg 0)
  refine ⟨rfl, Nat.le_of_ble_eq_true rfl, ?_⟩
  refine eV.i h2.obj ?_
  refine eC.z (c_M_adds (k := k) (t := []) h2 hn ⟨by rw [up_n (by decide), up_s, hcl, pk_us], by rw [up_s, hcl, pk_us]; rfl, by decide, fun j hj => absurd hj (Nat.not_lt_zero j)⟩ (by decide)) ⟨rfl, rfl⟩ ⟨Nat.le_of_ble_eq_true rfl, Nat.le_of_ble_eq_true rfl⟩ ⟨Nat.zero_le _, Nat.zero_le _⟩ (fun v S3 hk => ?_)
  obtain ⟨rfl, f3, A3, m3, g3, e3, w3⟩ := hk
  refine eR.v ⟨rfl, ((xD_up (by omega)).tr (xD_up (by omega))).tr f3, A3, m3, Ag.tr ⟨fun i i7 i11 i12 i13 i14 i15 => ?_, fun j hj => ?_, fun j hj => ⟨?_, ?_⟩⟩ g3, Ae.tr ⟨?_, ?_, ?_⟩ e3, w3⟩
  · rw [up_n i13, up_n i12]
  · rw [up_n (by decide), up_n (by decide)]
  · rw [up_n (by decide), up_s, hcl, pk_un hj]
  · rw [up_s, hcl, pk_un hj, up_n (by decide)]
  · rw [up_n (by decide), up_n (by decide)]
  · rw [up_n (by decide), up_n (by decide)]
  · rw [up_n (by decide), up_n (by decide)]
theorem c_M_addsNumber {x : Int32} (h : Md G S M A l nl nn nd) (hn : nl < 60) (hw : Wr A nl k t) (ht : t.length + 4 ≤ 400) :
    mCon G yX8_addsNumber cX8_addsNumber 3 none (rmD 1) [.ref M, .int x] S (adK G S M A l nl nn nd k (t ++ be4 x)) := by
  refine mCon.of (I := miX8 false none) (by decide) rfl rfl (fun h => by cases h) (fun _ => rfl) (Nat.le_of_ble_eq_true rfl) ?_
  show Gd _ _ _ _ _ _ _ _ 0 [(0, .ref M), (1, .int x)] [] (0, 0) _
  refine Gd.of (ckX8 _ _) tX8_addsNumber_ok (cuts := fun _ => none) 100 ?_
  refine eB.f (by decide) ?_
  refine ⟨rfl, Nat.le_of_ble_eq_true rfl, ?_⟩
  refine eV.i h.obj ?_
  refine eC.z (c_M_adds h hn hw (by omega)) ⟨rfl, rfl⟩ ⟨Nat.le_of_ble_eq_true rfl, Nat.le_of_ble_eq_true rfl⟩ ⟨Nat.zero_le _, Nat.zero_le _⟩ (fun v S1 hk => ?_)
  obtain ⟨rfl, f1, A1, m1, g1, e1, w1⟩ := hk
  refine eB.f (by decide) ?_
  refine ⟨rfl, Nat.le_of_ble_eq_true rfl, ?_⟩
  refine eV.i m1.obj ?_
  refine eC.z (c_M_adds m1 hn w1 (by rw [List.length_append, List.length_singleton]; omega)) ⟨rfl, rfl⟩ ⟨Nat.le_of_ble_eq_true rfl, Nat.le_of_ble_eq_true rfl⟩ ⟨Nat.zero_le _, Nat.zero_le _⟩ (fun v S2 hk => ?_)
  obtain ⟨rfl, f2, A2, m2, g2, e2, w2⟩ := hk
  refine eB.f (by decide) ?_
  refine ⟨rfl, Nat.le_of_ble_eq_true rfl, ?_⟩
  refine eV.i m2.obj ?_
  refine eC.z (c_M_adds m2 hn w2 (by rw [List.length_append, List.length_append, List.length_singleton]; simp; omega)) ⟨rfl, rfl⟩ ⟨Nat.le_of_ble_eq_true rfl, Nat.le_of_ble_eq_true rfl⟩ ⟨Nat.zero_le _, Nat.zero_le _⟩ (fun v S3 hk => ?_)
  obtain ⟨rfl, f3, A3, m3, g3, e3, w3⟩ := hk
  refine eB.f (by decide) ?_
  refine ⟨rfl, Nat.le_of_ble_eq_true rfl, ?_⟩
  refine eV.i m3.obj ?_
  refine eC.z (c_M_adds m3 hn w3 (by rw [List.length_append, List.length_append, List.length_append]; simp; omega)) ⟨rfl, rfl⟩ ⟨Nat.le_of_ble_eq_true rfl, Nat.le_of_ble_eq_true rfl⟩ ⟨Nat.zero_le _, Nat.zero_le _⟩ (fun v S4 hk => ?_)
  obtain ⟨rfl, f4, A4, m4, g4, e4, w4⟩ := hk
  refine eB.t (by decide) ?_
  refine eR.v ⟨rfl, ((f1.tr f2).tr f3).tr f4, A4, m4, ((g1.tr g2).tr g3).tr g4, ((e1.tr e2).tr e3).tr e4, ?_⟩
  have eb : t ++ be4 x = t ++ [(x >>> ((8 * 3) &&& 31)).toInt8.toInt32] ++ [(x >>> ((8 * (3 + -1)) &&& 31)).toInt8.toInt32] ++ [(x >>> ((8 * (3 + -1 + -1)) &&& 31)).toInt8.toInt32] ++ [(x >>> ((8 * (3 + -1 + -1 + -1)) &&& 31)).toInt8.toInt32] := by
    have h0 := be4_getD x 0 (by omega)
    have h1 := be4_getD x 1 (by omega)
    have h2 := be4_getD x 2 (by omega)
    have h3 := be4_getD x 3 (by omega)
    rw [show (8 * 3 : Int32) &&& 31 = nI (24 - 8 * 0) &&& 31 from by decide, show (8 * (3 + -1) : Int32) &&& 31 = nI (24 - 8 * 1) &&& 31 from by decide, show (8 * (3 + -1 + -1) : Int32) &&& 31 = nI (24 - 8 * 2) &&& 31 from by decide, show (8 * (3 + -1 + -1 + -1) : Int32) &&& 31 = nI (24 - 8 * 3) &&& 31 from by decide, ← h0, ← h1, ← h2, ← h3]
    simp only [List.append_assoc]
    rfl
  rw [eb]
  exact w4
theorem c_M_addsHash (h : Md G S M A l nl nn nd) (hn : nl < 60) (hp : p ≤ 23) (hw : Wr A nl k t) (ht : t.length + 32 ≤ 400) :
    mCon G yX8_addsHash cX8_addsHash 3 none (rmD 1) [.ref M, .int (nI p)] S (adK G S M A l nl nn nd k (t ++ seg (A 7) (32 * p) 32)) := by
  refine mCon.of (I := miX8 false none) (by decide) rfl rfl (fun h => by cases h) (fun _ => rfl) (Nat.le_of_ble_eq_true rfl) ?_
  show Gd _ _ _ _ _ _ _ _ 0 [(0, .ref M), (1, .int (nI p))] [] (0, 0) _
  have key : ∀ (d i : Nat) (x : Int32) (S1 : mS) (A1 : AA), i + d = 32 → x = nI i → fr S S1 (xD M) → Md G S1 M A1 l nl nn nd → Ag A A1 nl → Ae A A1 → Wr A1 nl k (t ++ seg (A 7) (32 * p) i) → Gd G bkI cX8_addsHash 3 (rmD 1) 0 0 (adK G S M A l nl nn nd k (t ++ seg (A 7) (32 * p) 32)) 2 [(0, .ref M), (1, .int (nI p)), (2, .int x)] [] (0, 0) S1 := by
    intro d
    induction d with
    | zero =>
      intro i x S1 A1 hi hx f1 m1 g1 e1 w1
      subst hx
      have e : i = 32 := by omega
      subst e
      refine Gd.of (ckX8 _ _) tX8_addsHash_ok (cuts := lf 2 3) 60 ?_
      refine eB.t (by decide) ?_
      exact eR.v ⟨rfl, f1, A1, m1, g1, e1, w1⟩
    | succ d ih =>
      intro i x S1 A1 hi hx f1 m1 g1 e1 w1
      subst hx
      have e0 : 32 * nI p + nI i = nI (32 * p + i) := by rw [show (32 : Int32) = nI 32 from rfl, pk_mul, nI_add]
      refine Gd.of (ckX8 _ _) tX8_addsHash_ok (cuts := lf 2 3) 60 ?_
      refine eB.f (by rw [show (32 : Int32) = nI 32 from rfl, nI_leI (by omega) (by omega)]; omega) ?_
      refine eG.i m1.obj rfl ?_
      refine eLb.i (i := 32 * nI p + nI i) m1.a7 (by rw [e0]; exact vp_in_nI (by omega) (by omega)) ?_
      rw [e0, nI_clamp (by omega)]
      refine ⟨rfl, Nat.le_of_ble_eq_true rfl, ?_⟩
      refine eV.i m1.obj ?_
      refine eC.z (c_M_adds m1 hn w1 (by rw [List.length_append, seg_len]; omega)) ⟨rfl, rfl⟩ ⟨Nat.le_of_ble_eq_true rfl, Nat.le_of_ble_eq_true rfl⟩ ⟨Nat.zero_le _, Nat.zero_le _⟩ (fun v S2 hk => ?_)
      obtain ⟨rfl, f2, A2, m2, g2, e2, w2⟩ := hk
      have eb : (A1 7 (32 * p + i)).toInt8.toInt32 = A1 7 (32 * p + i) := m1.isb rfl (by decide) _
      rw [eb, e1.1, List.append_assoc, ← seg_succ] at w2
      exact ih (i + 1) _ S2 A2 (by omega) (nI_1 i) (f1.tr f2) m2 (g1.tr g2) (e1.tr e2) w2
  refine Gd.of (ckX8 _ _) tX8_addsHash_ok (cuts := lf 2 3) 60 ?_
  exact key 32 0 _ S A (by omega) rfl fr.rf h Ag.rf Ae.rf (by
    show Wr A nl k (t ++ [])
    rw [List.append_nil]
    exact hw)
theorem c_M_ends (h : Md G S M A l nl nn nd) (hn : nl < 60) :
    mCon G yX8_ends cX8_ends 1 (some .int) (rmD 0) [.ref M] S (fun v S' => v = some (.int (nI nl)) ∧ fr S S' (xD M) ∧ Md G S' M A l (nl + 1) nn nd) := by
  refine mCon.of (I := miX8 false (some .int)) (by decide) rfl rfl (fun h => by cases h) (fun _ => rfl) (Nat.le_of_ble_eq_true rfl) ?_
  show Gd _ _ _ _ _ _ _ _ 0 [(0, .ref M)] [] (0, 0) _
  refine Gd.of (ckX8 _ _) tX8_ends_ok (cuts := fun _ => none) 60 ?_
  refine eG.i h.obj rfl ?_
  refine ⟨Or.inl rfl, ?_⟩
  refine eP.i h.obj (Nat.le_of_ble_eq_true rfl) rfl rfl ?_
  rw [nI_1]
  have h1 := h.nums (nl' := nl + 1) (nn' := nn) (nd' := nd)
  refine eG.i h1.obj rfl ?_
  refine eR.int ⟨?_, xD_o, h1⟩
  rw [show (1 : Int32) = nI 1 from rfl, pk_sub (by omega)]
  rfl
theorem c_M_signs {i s g : Nat} (h : Md G S M A l nl nn nd) (bi : mdB i = true) (i6 : 6 < i) (i31 : i ≤ 31) (hs : s + 37 ≤ mdN i) (hi : mdN i ≤ 24000) (hp : p ≤ 23) (hg : g < 4) (eg : A i s = nI g) :
    mCon G yX8_signs cX8_signs 4 none (rmD 3) [.ref M, .ref (M + i), .int (nI s), .int (nI p)] S (sumK G S M nl nn nd A p (sha ([2] ++ seg (A 10) (8 * g) 8 ++ seg (A i) s 37))) := by
  refine mCon.of (I := miX8 false none) (by decide) rfl rfl (fun h => by cases h) (fun _ => rfl) (Nat.le_of_ble_eq_true rfl) ?_
  show Gd _ _ _ _ _ _ _ _ 0 [(0, .ref M), (1, .ref (M + i)), (2, .int (nI s)), (3, .int (nI p))] [] (0, 0) _
  refine Gd.of (ckX8 _ _) tX8_signs_ok (cuts := fun _ => none) 60 ?_
  refine ⟨rfl, Nat.le_of_ble_eq_true rfl, ?_⟩
  refine eV.i h.obj ?_
  refine eC.z (c_M_start h) ⟨rfl, rfl⟩ ⟨Nat.le_of_ble_eq_true rfl, Nat.le_of_ble_eq_true rfl⟩ ⟨Nat.zero_le _, Nat.zero_le _⟩ (fun v S1 hk => ?_)
  obtain ⟨rfl, f1, m1⟩ := hk
  refine ⟨rfl, Nat.le_of_ble_eq_true rfl, ?_⟩
  refine eV.i m1.obj ?_
  refine eC.z (c_M_put m1 (by decide)) ⟨rfl, rfl⟩ ⟨Nat.le_of_ble_eq_true rfl, Nat.le_of_ble_eq_true rfl⟩ ⟨Nat.zero_le _, Nat.zero_le _⟩ (fun v S2 hk => ?_)
  obtain ⟨rfl, f2, m2⟩ := hk
  refine eG.i m2.obj rfl ?_
  refine eLb.i (i := nI s) (m2.b bi i6 i31) (vp_in_nI (by omega) (by omega)) ?_
  have e8 : 8 * A i (nI s).toNatClampNeg = nI (8 * g) := by rw [nI_clamp (by omega), eg, show (8 : Int32) = nI 8 from rfl, pk_mul]
  have hc := c_M_putRow (i := 10) (s := 8 * g) (n := 8) m2 rfl (by decide) (by decide) (by show 8 * g + 8 ≤ 32; omega) (by decide) (by decide)
  rw [← e8] at hc
  refine ⟨rfl, Nat.le_of_ble_eq_true rfl, ?_⟩
  refine eV.i m2.obj ?_
  refine eC.z (hc) ⟨rfl, rfl⟩ ⟨Nat.le_of_ble_eq_true rfl, Nat.le_of_ble_eq_true rfl⟩ ⟨Nat.zero_le _, Nat.zero_le _⟩ (fun v S3 hk => ?_)
  obtain ⟨rfl, f3, m3⟩ := hk
  have l3 : ([] ++ [(2 : Int32).toInt8.toInt32] ++ seg (A 10) (8 * g) 8).length = 9 := by rw [List.length_append, seg_len]; rfl
  refine ⟨rfl, Nat.le_of_ble_eq_true rfl, ?_⟩
  refine eV.i m3.obj ?_
  refine eC.z (c_M_putRow (n := 37) m3 bi i6 i31 hs hi (by rw [l3]; decide)) ⟨rfl, rfl⟩ ⟨Nat.le_of_ble_eq_true rfl, Nat.le_of_ble_eq_true rfl⟩ ⟨Nat.zero_le _, Nat.zero_le _⟩ (fun v S4 hk => ?_)
  obtain ⟨rfl, f4, m4⟩ := hk
  refine ⟨rfl, Nat.le_of_ble_eq_true rfl, ?_⟩
  refine eV.i m4.obj ?_
  refine eC.z (c_M_sum m4 hp (by rw [List.length_append, l3, seg_len]; decide)) ⟨rfl, rfl⟩ ⟨Nat.le_of_ble_eq_true rfl, Nat.le_of_ble_eq_true rfl⟩ ⟨Nat.zero_le _, Nat.zero_le _⟩ (fun v S5 hk => ?_)
  obtain ⟨rfl, f5, l5, m5⟩ := hk
  exact eR.v ⟨rfl, (((f1.tr f2).tr f3).tr f4).tr f5, l5, m5⟩
theorem c_M_note {a n : Int32} (h : Md G S M A l nl nn nd) (hn : nn < 32) :
    mCon G yX8_note cX8_note 3 none (rmD 0) [.ref M, .int a, .int n] S (fun v S' => v = none ∧ fr S S' (xD M) ∧ Md G S' M (va_up (va_up A 14 (upd (A 14) nn a)) 15 (upd (A 15) nn n)) l nl (nn + 1) nd) := by
  have hcl : (nI nn).toNatClampNeg = nn := nI_clamp (by omega)
  have hin : vp_in (nI nn) 32 := vp_in_nI (by omega) (by omega)
  refine mCon.of (I := miX8 false none) (by decide) rfl rfl (fun h => by cases h) (fun _ => rfl) (Nat.le_of_ble_eq_true rfl) ?_
  show Gd _ _ _ _ _ _ _ _ 0 [(0, .ref M), (1, .int a), (2, .int n)] [] (0, 0) _
  refine Gd.of (ckX8 _ _) tX8_note_ok (cuts := fun _ => none) 60 ?_
  refine eG.i h.obj rfl ?_
  refine eG.i h.obj rfl ?_
  refine eS.i (i := nI nn) h.a14 hin ?_
  have h1 := h.s14 (f := upd (A 14) (nI nn).toNatClampNeg a)
  refine eG.i h1.obj rfl ?_
  refine eG.i h1.obj rfl ?_
  refine eS.i (i := nI nn) h1.a15 hin ?_
  have h2 := h1.s15 (f := upd (va_up A 14 (upd (A 14) (nI nn).toNatClampNeg a) 15) (nI nn).toNatClampNeg n)
  refine eG.i h2.obj rfl ?_
  refine ⟨Or.inl rfl, ?_⟩
  refine eP.i h2.obj (Nat.le_of_ble_eq_true rfl) rfl rfl ?_
  have h3 := h2.nums (nl' := nl) (nn' := nn + 1) (nd' := nd)
  rw [nI_1]
  refine eR.v ⟨rfl, ((xD_up (by omega)).tr (xD_up (by omega))).tr xD_o, ?_⟩
  rw [hcl, up_n (by decide)] at h3 ⊢
  exact h3
end WRT
