/-! nodes that are noted, and the reference's head -/
def Nt (A : AA) (L : List (Nat × Nat)) : Prop := ∀ j, j < L.length → A 14 j = nI (L.getD j (0, 0)).1 ∧ A 15 j = nI (L.getD j (0, 0)).2
def ok80 (L : List (Nat × Nat)) : Prop := ∀ j, j < L.length → (L.getD j (0, 0)).1 + (L.getD j (0, 0)).2 ≤ 80
theorem gp_l {L R : List (Nat × Nat)} {j : Nat} (h : j < L.length) : (L ++ R).getD j (0, 0) = L.getD j (0, 0) := by
  rw [List.getD_eq_getElem?_getD, List.getD_eq_getElem?_getD, List.getElem?_append_left h]
theorem gp_e {L : List (Nat × Nat)} {q : Nat × Nat} : (L ++ [q]).getD L.length (0, 0) = q := by
  rw [List.getD_eq_getElem?_getD, List.getElem?_append_right (by omega), Nat.sub_self]
  rfl
theorem Nt.app {A : AA} {L : List (Nat × Nat)} {a n : Nat} (h : Nt A L) : Nt (va_up (va_up A 14 (upd (A 14) L.length (nI a))) 15 (upd (A 15) L.length (nI n))) (L ++ [(a, n)]) := by
  intro j hj
  rw [List.length_append, List.length_singleton] at hj
  rw [up_s, up_n (show 14 ≠ 15 by decide), up_s]
  by_cases e : j = L.length
  · rw [e, gp_e, pk_us, pk_us]
    exact ⟨rfl, rfl⟩
  · rw [gp_l (by omega), pk_un e, pk_un e]
    exact h j (by omega)
theorem ok80.app {L : List (Nat × Nat)} {a n : Nat} (h : ok80 L) (h2 : a + n ≤ 80) : ok80 (L ++ [(a, n)]) := by
  intro j hj
  rw [List.length_append, List.length_singleton] at hj
  by_cases e : j = L.length
  · rw [e, gp_e]; exact h2
  · rw [gp_l (by omega)]; exact h j (by omega)
theorem Ag.nt {A : AA} {q : Nat} {f g : Nat → Int32} : Ag A (va_up (va_up A 14 f) 15 g) q := ⟨fun i _ _ _ _ a b => by rw [up_n b, up_n a], fun j _ => by rw [up_n (by decide), up_n (by decide)], fun j _ => ⟨by rw [up_n (by decide), up_n (by decide)], by rw [up_n (by decide), up_n (by decide)]⟩⟩
theorem Wr.nt {A : AA} {q : Nat} {k : Int32} {t : List Int32} {f g : Nat → Int32} (h : Wr A q k t) : Wr (va_up (va_up A 14 f) 15 g) q k t := h.cong (by rw [up_n (by decide), up_n (by decide)]) (by rw [up_n (by decide), up_n (by decide)]) (by rw [up_n (by decide), up_n (by decide)])
theorem take_rev {L : List (Nat × Nat)} {r : Nat} (h : r < L.length) : (L.take (r + 1)).reverse = L.getD r (0, 0) :: (L.take r).reverse := by
  rw [List.take_succ, List.reverse_append, List.getElem?_eq_getElem h, List.getD_eq_getElem?_getD, List.getElem?_eq_getElem h]
  rfl
section HED
variable {G : mG} {S S' : mS} {M nl nn nd p w : Nat} {A A' : AA} {l t : List Int32} {k : Int32} {K : List Int32} {vals : Nat → Nat → Int32} {cnt : Nat → Nat} {np : Nat} {kd : Nat → Int32} {lt : Nat → List Int32} {mo : Nat → Mo} {dk : List Int32} {L : List (Nat × Nat)}
theorem c_M_addsNoted (h : Md G S M A l nl L.length nd) (hn : nl < 60) (hw8 : w < 8) (hL : L.length ≤ 9) (h80 : ok80 L) (hN : Nt A L) (hw : Wr A nl k t) (ht : t.length + 32 * L.length ≤ 400) :
    mCon G yX8_addsNoted cX8_addsNoted 2 none (rmD 12) [.ref M, .int (nI w)] S (fun v S' => v = none ∧ fr S S' (xD M) ∧ ∃ A' l', Md G S' M A' l' nl 0 nd ∧ Ag A A' nl ∧ Wr A' nl k (t ++ cat (fun j => A 8 (80 * w + j)) L.reverse)) := by
  refine mCon.of (I := miX8 false none) (by decide) rfl rfl (fun h => by cases h) (fun _ => rfl) (Nat.le_of_ble_eq_true rfl) ?_
  show Gd _ _ _ _ _ _ _ _ 0 [(0, .ref M), (1, .int (nI w))] [] (0, 0) _
  have key : ∀ (r : Nat) (S1 : mS) (A1 : AA) (l1 t1 : List Int32), r ≤ L.length → fr S S1 (xD M) → Md G S1 M A1 l1 nl r nd → Ag A A1 nl → A1 14 = A 14 → A1 15 = A 15 → Wr A1 nl k t1 → t1.length + 32 * r ≤ 400 → t1 ++ cat (fun j => A 8 (80 * w + j)) (L.take r).reverse = t ++ cat (fun j => A 8 (80 * w + j)) L.reverse → Gd G bkI cX8_addsNoted 2 (rmD 12) 0 0 (fun v S' => v = none ∧ fr S S' (xD M) ∧ ∃ A' l', Md G S' M A' l' nl 0 nd ∧ Ag A A' nl ∧ Wr A' nl k (t ++ cat (fun j => A 8 (80 * w + j)) L.reverse)) 0 [(0, .ref M), (1, .int (nI w))] [] (0, 0) S1 := by
    intro r
    induction r with
    | zero =>
      intro S1 A1 l1 t1 hr f1 m1 g1 e14 e15 w1 hl he
      refine Gd.of (ckX8 _ _) tX8_addsNoted_ok (cuts := lf 0 2) 60 ?_
      refine eG.i m1.obj rfl ?_
      refine eB.t (by decide) ?_
      refine eR.v ⟨rfl, f1, A1, l1, m1, g1, ?_⟩
      rw [← he]
      show Wr A1 nl k (t1 ++ [])
      rw [List.append_nil]
      exact w1
    | succ r ih =>
      intro S1 A1 l1 t1 hr f1 m1 g1 e14 e15 w1 hl he
      have e1 : nI (r + 1) - 1 = nI r := by rw [show (1 : Int32) = nI 1 from rfl, pk_sub (by omega)]; rfl
      refine Gd.of (ckX8 _ _) tX8_addsNoted_ok (cuts := lf 0 2) 60 ?_
      refine eG.i m1.obj rfl ?_
      refine eB.f (by rw [show (0 : Int32) = nI 0 from rfl, nI_leI (by omega) (by omega)]; omega) ?_
      refine eG.i m1.obj rfl ?_
      refine ⟨Or.inl rfl, ?_⟩
      refine eP.i m1.obj (Nat.le_of_ble_eq_true rfl) rfl rfl ?_
      rw [e1]
      have m2 := m1.nums (nl' := nl) (nn' := r) (nd' := nd)
      refine eG.i m2.obj rfl ?_
      refine eG.i m2.obj rfl ?_
      refine eL.i (i := nI r) m2.a14 (vp_in_nI (by omega) (by omega)) ?_
      refine eG.i m2.obj rfl ?_
      refine eG.i m2.obj rfl ?_
      refine eL.i (i := nI r) m2.a15 (vp_in_nI (by omega) (by omega)) ?_
      obtain ⟨n1, n2⟩ := hN r (by omega)
      have hb := h80 r (by omega)
      rw [nI_clamp (by omega), e14, e15, n1, n2]
      refine ⟨rfl, Nat.le_of_ble_eq_true rfl, ?_⟩
      refine eV.i m2.obj ?_
      refine eC.z (c_M_root 7 w (L.getD r (0, 0)).1 (L.getD r (0, 0)).2 0 _ A1 l1 (by omega) (by omega) hw8 hb (by omega) m2) ⟨rfl, rfl⟩ ⟨Nat.le_of_ble_eq_true rfl, Nat.le_of_ble_eq_true rfl⟩ ⟨Nat.zero_le _, Nat.zero_le _⟩ (fun v S3 hk => ?_)
      obtain ⟨rfl, f3, l3, H3, m3, q3, s3⟩ := hk
      refine ⟨rfl, Nat.le_of_ble_eq_true rfl, ?_⟩
      refine eV.i m3.obj ?_
      refine eC.z (c_M_addsHash (p := 0) m3 hn (by omega) w1.h7 (by omega)) ⟨rfl, rfl⟩ ⟨Nat.le_of_ble_eq_true rfl, Nat.le_of_ble_eq_true rfl⟩ ⟨Nat.zero_le _, Nat.zero_le _⟩ (fun v S4 hk => ?_)
      obtain ⟨rfl, f4, A4, m4, g4, e4, w4⟩ := hk
      rw [up_s, s3, g1.1 8 (by omega) (by omega) (by omega) (by omega) (by omega) (by omega)] at w4
      refine ih S4 A4 l3 _ (by omega) (((f1.tr xD_o).tr f3).tr f4) m4 ((g1.tr Ag.h7).tr g4) ?_ ?_ w4 ?_ ?_
      · rw [e4.2.1, up_n (by decide)]; exact e14
      · rw [e4.2.2, up_n (by decide)]; exact e15
      · rw [List.length_append, mth_len]; omega
      · rw [← he, take_rev (by omega), List.append_assoc]
        rfl
  exact key L.length S A l t (by omega) fr.rf h Ag.rf rfl rfl hw ht (by rw [List.take_length])
theorem c_X8_head {g w n : Int32} (h : MS G S M (K, vals, cnt, np, kd, lt, mo, dk)) :
    mCon G yX8_head cX8_head 5 (some .int) (rmD 14) [.ref M, .int g, .int w, .int n] S (oM G S M (oHd (K, vals, cnt, np, kd, lt, mo, dk) g w n)) := by
  have hall := h
  obtain ⟨A, l, nn, m, hR⟩ := h
  have hR' := hR
  obtain ⟨h1, h2, h3, h4, h5⟩ := hR
  have hno : ∀ (x : Option Value), x = some (.int (-1)) → ¬ (inV g w ∧ (0 ≤ n.toInt ∧ n.toInt ≤ cnt (vN g w)) ∧ np < 60) → oM G S M (oHd (K, vals, cnt, np, kd, lt, mo, dk) g w n) x S := fun x hx hc => oM.no hall (if_neg hc) hx
  have np60 := h3.1
  have hcut : ∀ (T t : List Int32) (d i : Nat) (x : Int32) (S1 : mS) (A1 : AA) (l1 : List Int32), inV g w ∧ (0 ≤ n.toInt ∧ n.toInt ≤ cnt (vN g w)) ∧ np < 60 → i + d = 8 → x = nI i → t.length ≤ 60 → t ++ seg (A1 7) 0 8 = hdB K g (vals (vN g w)) n → fr S S1 (xD M) → Md G S1 M A1 l1 np nn dk.length → Ag A A1 np → Wr A1 np 0 (t ++ seg (A1 7) 0 i) → Gd G (miX8 false (some .int)) cX8_head 5 (rmD 14) 0 0 (oM G S M (oHd (K, vals, cnt, np, kd, lt, mo, dk) g w n)) 85 [(0, .ref M), (1, .int g), (2, .int w), (3, .int n), (4, .int x)] [] (0, 0) S1 := by
    intro T t d
    induction d with
    | zero =>
      intro i x S1 A1 l1 hc hi hx ht he f1 m1 g1 w1
      subst hx
      have e : i = 8 := by omega
      subst e
      rw [he] at w1
      refine Gd.of (ckX8 _ _) tX8_head_ok (cuts := lf 85 5) 60 ?_
      refine eB.t (by decide) ?_
      refine ⟨rfl, Nat.le_of_ble_eq_true rfl, ?_⟩
      refine eV.i m1.obj ?_
      refine eC.z (c_M_ends m1 hc.2.2) ⟨rfl, rfl⟩ ⟨Nat.le_of_ble_eq_true rfl, Nat.le_of_ble_eq_true rfl⟩ ⟨Nat.zero_le _, Nat.zero_le _⟩ (fun v S2 hk => ?_)
      obtain ⟨rfl, f2, m2⟩ := hk
      have e : oHd (K, vals, cnt, np, kd, lt, mo, dk) g w n = (nI np, K, vals, cnt, np + 1, va_up kd np 0, va_up lt np (hdB K g (vals (vN g w)) n), mo, dk) := if_pos hc
      rw [e]
      exact eR.int ⟨rfl, f1.tr f2, A1, l1, nn, m2, hR'.post hc.2.2 g1 w1⟩
    | succ d ih =>
      intro i x S1 A1 l1 hc hi hx ht he f1 m1 g1 w1
      subst hx
      refine Gd.of (ckX8 _ _) tX8_head_ok (cuts := lf 85 5) 60 ?_
      refine eB.f (by rw [show (8 : Int32) = nI 8 from rfl, nI_leI (by omega) (by omega)]; omega) ?_
      refine eG.i m1.obj rfl ?_
      refine eLb.i (i := nI i) m1.a7 (vp_in_nI (by omega) (by omega)) ?_
      rw [nI_clamp (by omega)]
      refine ⟨rfl, Nat.le_of_ble_eq_true rfl, ?_⟩
      refine eV.i m1.obj ?_
      refine eC.z (c_M_adds m1 hc.2.2 w1 (by rw [List.length_append, seg_len]; omega)) ⟨rfl, rfl⟩ ⟨Nat.le_of_ble_eq_true rfl, Nat.le_of_ble_eq_true rfl⟩ ⟨Nat.zero_le _, Nat.zero_le _⟩ (fun v S2 hk => ?_)
      obtain ⟨rfl, f2, A2, m2, g2, e2, w2⟩ := hk
      have eb : (A1 7 i).toInt8.toInt32 = A1 7 (0 + i) := by rw [Nat.zero_add]; exact m1.isb rfl (by decide) _
      rw [eb, List.append_assoc, ← seg_succ, ← e2.1] at w2
      exact ih (i + 1) _ S2 A2 l1 hc (by omega) (nI_1 i) ht (by rw [e2.1]; exact he) (f1.tr f2) m2 (g1.tr g2) w2
  refine mCon.of (I := miX8 false (some .int)) (by decide) rfl rfl (fun h => by cases h) (fun _ => rfl) (Nat.le_of_ble_eq_true rfl) ?_
  show Gd _ _ _ _ _ _ _ _ 0 [(0, .ref M), (1, .int g), (2, .int w), (3, .int n)] [] (0, 0) _
  refine Gd.of (ckX8 _ _) tX8_head_ok (cuts := lf 85 5) 100 ?_
  refine ⟨Nat.le_of_ble_eq_true rfl, ?_⟩
  refine eC.z (c_M_isView) ⟨rfl, rfl⟩ ⟨Nat.le_of_ble_eq_true rfl, Nat.le_of_ble_eq_true rfl⟩ ⟨Nat.zero_le _, Nat.zero_le _⟩ (fun v S1 hk => ?_)
  obtain ⟨rfl, rfl⟩ := hk
  by_cases hv : inV g w
  · have hv8 := (vN_ok hv).1
    obtain ⟨q1, q2, q3⟩ := h2 _ hv8
    have ev := vN_ok2 hv
    rw [pI_t hv]
    refine eB.f (by decide) ?_
    refine eG.i m.obj rfl ?_
    refine eL.i (i := 2 * g + w) m.a9 (by rw [ev]; exact vp_in_nI (by omega) (by omega)) ?_
    rw [ev, nI_clamp (by omega), q1]
    refine ⟨Nat.le_of_ble_eq_true rfl, ?_⟩
    refine eC.z (c_M_in) ⟨rfl, rfl⟩ ⟨Nat.le_of_ble_eq_true rfl, Nat.le_of_ble_eq_true rfl⟩ ⟨Nat.zero_le _, Nat.zero_le _⟩ (fun v S1 hk => ?_)
    obtain ⟨rfl, rfl⟩ := hk
    have e0 : (0 : Int32).toInt = 0 := rfl
    have ec : (nI (cnt (vN g w))).toInt = cnt (vN g w) := nI_toInt (by omega)
    by_cases hn : (0 : Int32).toInt ≤ n.toInt ∧ n.toInt ≤ (nI (cnt (vN g w))).toInt
    · rw [pI_t hn]
      refine eB.f (by decide) ?_
      refine eG.i m.obj rfl ?_
      by_cases h60 : np < 60
      · refine eB.f (fun z => ?_) ?_
        · have := congrArg Int32.toInt z
          rw [nI_toInt (by omega), show (60 : Int32).toInt = 60 from rfl] at this
          omega
        have hn3 : n = nI n.toInt.toNat := i_of (by omega)
        refine ⟨rfl, Nat.le_of_ble_eq_true rfl, ?_⟩
        refine eV.i m.obj ?_
        refine eC.z (c_M_begins m h60) ⟨rfl, rfl⟩ ⟨Nat.le_of_ble_eq_true rfl, Nat.le_of_ble_eq_true rfl⟩ ⟨Nat.zero_le _, Nat.zero_le _⟩ (fun v S1 hk => ?_)
        obtain ⟨rfl, f1, A1, m1, g1, e1, w1⟩ := hk
        rw [g_byte hv.1] at w1
        refine ⟨rfl, Nat.le_of_ble_eq_true rfl, ?_⟩
        refine eV.i m1.obj ?_
        refine eC.z (c_M_addsNumber m1 h60 w1 (by show 1 + 4 ≤ 400; omega)) ⟨rfl, rfl⟩ ⟨Nat.le_of_ble_eq_true rfl, Nat.le_of_ble_eq_true rfl⟩ ⟨Nat.zero_le _, Nat.zero_le _⟩ (fun v S2 hk => ?_)
        obtain ⟨rfl, f2, A2, m2, g2, e2, w2⟩ := hk
        have hc := c_M_root 7 (vN g w) 0 n.toInt.toNat 0 _ A2 l (by omega) (by omega) hv8 (by omega) (by omega) m2
        rw [← hn3, ← ev] at hc
        refine ⟨rfl, Nat.le_of_ble_eq_true rfl, ?_⟩
        refine eV.i m2.obj ?_
        refine eC.z (hc) ⟨rfl, rfl⟩ ⟨Nat.le_of_ble_eq_true rfl, Nat.le_of_ble_eq_true rfl⟩ ⟨Nat.zero_le _, Nat.zero_le _⟩ (fun v S3 hk => ?_)
        obtain ⟨rfl, f3, l3, H3, m3, q3', s3⟩ := hk
        have g12 := g1.tr g2
        have em : mth (fun j => A2 8 (80 * vN g w + j)) 0 n.toInt.toNat = mth (vals (vN g w)) 0 n.toInt.toNat := by
          rw [g12.1 8 (by omega) (by omega) (by omega) (by omega) (by omega) (by omega)]
          exact mth_congr _ _ (fun j _ hj => q3 j (by omega))
        rw [em] at s3
        refine ⟨rfl, Nat.le_of_ble_eq_true rfl, ?_⟩
        refine eV.i m3.obj ?_
        refine eC.z (c_M_addsHash (p := 0) m3 h60 (by omega) w2.h7 (by show 5 + 32 ≤ 400; omega)) ⟨rfl, rfl⟩ ⟨Nat.le_of_ble_eq_true rfl, Nat.le_of_ble_eq_true rfl⟩ ⟨Nat.zero_le _, Nat.zero_le _⟩ (fun v S4 hk => ?_)
        obtain ⟨rfl, f4, A4, m4, g4, e4, w4⟩ := hk
        rw [up_s, s3] at w4
        have g14 := (g12.tr Ag.h7).tr g4
        refine eG.i m4.obj rfl ?_
        refine eG.i m4.obj rfl ?_
        have hm := mth_len (vals (vN g w)) 0 n.toInt.toNat
        have hl4 : ([g] ++ be4 n ++ mth (vals (vN g w)) 0 n.toInt.toNat).length = 37 := by
          rw [List.length_append, hm]
          rfl
        have es : 400 * nI np = nI (400 * np) := by rw [show (400 : Int32) = nI 400 from rfl, pk_mul]
        have hgn : g = nI g.toInt.toNat := i_of hv.1.1
        have hb0 : A4 11 (400 * np) = nI g.toInt.toNat := by
          have := w4.2.2.2 0 (by omega)
          rw [Nat.add_zero] at this
          rw [this, ← hgn]
          rfl
        have hc := c_M_signs (i := 11) (s := 400 * np) (g := g.toInt.toNat) (p := 0) m4 rfl (by decide) (by decide) (by show 400 * np + 37 ≤ 24000; omega) (by decide) (by omega) (by have := hv.1; omega) hb0
        rw [← es] at hc
        refine ⟨rfl, Nat.le_of_ble_eq_true rfl, ?_⟩
        refine eV.i m4.obj ?_
        refine eC.z (hc) ⟨rfl, rfl⟩ ⟨Nat.le_of_ble_eq_true rfl, Nat.le_of_ble_eq_true rfl⟩ ⟨Nat.zero_le _, Nat.zero_le _⟩ (fun v S5 hk => ?_)
        obtain ⟨rfl, f5, l5, m5⟩ := hk
        have g15 := g14.tr (Ag.h7 (H := hset (A4 7) 0 (sha ([2] ++ seg (A4 10) (8 * g.toInt.toNat) 8 ++ seg (A4 11) (400 * np) 37))))
        have eseg : seg (A4 11) (400 * np) 37 = [g] ++ be4 n ++ mth (vals (vN g w)) 0 n.toInt.toNat := by
          rw [← hl4]
          exact seg_eq w4.2.2.2
        have ekey : seg (A4 10) (8 * g.toInt.toNat) 8 = part K (8 * g.toInt.toNat) 8 := by
          rw [g14.1 10 (by omega) (by omega) (by omega) (by omega) (by omega) (by omega)]
          have := seg_part (f := A 10) (s := 0) (a := 8 * g.toInt.toNat) (n := 8) (l := K) (fun j hj => by rw [Nat.zero_add]; exact h1.2 j (by rw [h1.1] at hj; exact hj)) (by rw [h1.1]; have := hv.1; omega)
          rw [Nat.zero_add] at this
          exact this
        refine hcut [] _ 8 0 _ S5 _ l5 ⟨hv, by omega, h60⟩ (by omega) rfl (by rw [hl4]; omega) ?_ ((((f1.tr f2).tr f3).tr f4).tr f5) m5 g15 ?_
        · rw [up_s, eseg, ekey]
          show _ ++ seg (hset (A4 7) 0 _) 0 8 = hdB K g (vals (vN g w)) n
          unfold hdB
          congr 1
          have e32 : seg (hset (A4 7) 0 (sha ([2] ++ part K (8 * g.toInt.toNat) 8 ++ ([g] ++ be4 n ++ mth (vals (vN g w)) 0 n.toInt.toNat)))) 0 8 = part (sha ([2] ++ part K (8 * g.toInt.toNat) 8 ++ ([g] ++ be4 n ++ mth (vals (vN g w)) 0 n.toInt.toNat))) 0 8 := by
            have := seg_part (f := hset (A4 7) 0 (sha ([2] ++ part K (8 * g.toInt.toNat) 8 ++ ([g] ++ be4 n ++ mth (vals (vN g w)) 0 n.toInt.toNat)))) (s := 0) (a := 0) (n := 8) (l := sha ([2] ++ part K (8 * g.toInt.toNat) 8 ++ ([g] ++ be4 n ++ mth (vals (vN g w)) 0 n.toInt.toNat))) (fun j hj => by
              rw [sha_len] at hj
              rw [Nat.zero_add, hset, if_pos (by omega)]
              rfl) (by rw [sha_len]; omega)
            exact this
          rw [e32]
          unfold sgn
          rw [← hgn]
          simp only [List.append_assoc]
        · have e00 : ∀ f : Nat → Int32, [g] ++ be4 n ++ mth (vals (vN g w)) 0 n.toInt.toNat ++ seg f 0 0 = [g] ++ be4 n ++ mth (vals (vN g w)) 0 n.toInt.toNat := fun f => List.append_nil _
          rw [e00]
          exact w4.h7
      · refine eB.t (by rw [show np = 60 by omega]; rfl) ?_
        exact eR.int (hno _ rfl (fun z => h60 z.2.2))
    · rw [pI_f hn]
      refine eB.t rfl ?_
      exact eR.int (hno _ rfl (fun z => hn (by omega)))
  · rw [pI_f hv]
    refine eB.t rfl ?_
    exact eR.int (hno _ rfl (fun z => hv z.1))
end HED
