section PTT
variable {G : mG} {S S' : mS} {M nl nn p : Nat} {A A' : AA} {l t : List Int32} {k : Int32} {K : List Int32} {vals : Nat → Nat → Int32} {cnt : Nat → Nat} {np : Nat} {kd : Nat → Int32} {lt : Nat → List Int32} {mo : Nat → Mo} {dk : List Int32} {L : List (Nat × Nat)}
theorem c_X8_path {g w n m : Int32} (h : MS G S M (K, vals, cnt, np, kd, lt, mo, dk)) :
    mCon G yX8_path cX8_path 10 (some .int) (rmD 14) [.ref M, .int g, .int w, .int n, .int m] S (oM G S M (oPt (K, vals, cnt, np, kd, lt, mo, dk) g w n m)) := by
  have hall := h
  obtain ⟨A, l, nn, md, hR⟩ := h
  have hR' := hR
  obtain ⟨h1, h2, h3, h4, h5⟩ := hR
  have hno : ∀ (x : Option Value), x = some (.int (-1)) → ¬ (inV g w ∧ (0 ≤ m.toInt ∧ m.toInt < n.toInt ∧ n.toInt ≤ cnt (vN g w)) ∧ np < 60) → oM G S M (oPt (K, vals, cnt, np, kd, lt, mo, dk) g w n m) x S := fun x hx hc => oM.no hall (if_neg hc) hx
  have np60 := h3.1
  have key : ∀ (f a r u : Nat) (x6 x7 x8 : Int32) (L : List (Nat × Nat)) (t : List Int32) (S1 : mS) (A1 : AA) (l1 : List Int32), inV g w ∧ (0 ≤ m.toInt ∧ m.toInt < n.toInt ∧ n.toInt ≤ cnt (vN g w)) ∧ np < 60 → r ≤ 2 ^ f → u < r → a + r ≤ 80 → f + L.length ≤ 7 → x6 = nI a → x7 = nI r → x8 = nI u → L ++ pathN f a r u = pathN 7 0 n.toInt.toNat m.toInt.toNat → t ++ cat (vals (vN g w)) (pathN 7 0 n.toInt.toNat m.toInt.toNat).reverse = ptB g (vals (vN g w)) n m → t.length = 13 → ok80 L → Nt A1 L → fr S S1 (xD M) → Md G S1 M A1 l1 np L.length dk.length → Ag A A1 np → Wr A1 np 2 t → Gd G (miX8 false (some .int)) cX8_path 10 (rmD 14) 0 0 (oM G S M (oPt (K, vals, cnt, np, kd, lt, mo, dk) g w n m)) 105 [(0, .ref M), (1, .int g), (2, .int w), (3, .int n), (4, .int m), (5, .int (2 * g + w)), (6, .int x6), (7, .int x7), (8, .int x8)] [] (0, 0) S1 := by
    intro f
    -- no node is left
    have last : ∀ (a r : Nat) (x6 x8 : Int32) (L : List (Nat × Nat)) (t : List Int32) (S1 : mS) (A1 : AA) (l1 : List Int32), inV g w ∧ (0 ≤ m.toInt ∧ m.toInt < n.toInt ∧ n.toInt ≤ cnt (vN g w)) ∧ np < 60 → r ≤ 1 → L.length ≤ 7 → L = pathN 7 0 n.toInt.toNat m.toInt.toNat → t ++ cat (vals (vN g w)) (pathN 7 0 n.toInt.toNat m.toInt.toNat).reverse = ptB g (vals (vN g w)) n m → t.length = 13 → ok80 L → Nt A1 L → fr S S1 (xD M) → Md G S1 M A1 l1 np L.length dk.length → Ag A A1 np → Wr A1 np 2 t → Gd G (miX8 false (some .int)) cX8_path 10 (rmD 14) 0 0 (oM G S M (oPt (K, vals, cnt, np, kd, lt, mo, dk) g w n m)) 105 [(0, .ref M), (1, .int g), (2, .int w), (3, .int n), (4, .int m), (5, .int (2 * g + w)), (6, .int x6), (7, .int (nI r)), (8, .int x8)] [] (0, 0) S1 := by
      intro a r x6 x8 T t S1 A1 l1 hc hr hL hT he ht h80 hN f1 m1 g1 w1
      have hv8 := (vN_ok hc.1).1
      have ev := vN_ok2 hc.1
      obtain ⟨q1, q2, q3⟩ := h2 _ hv8
      refine Gd.of (ckX8 _ _) tX8_path_ok (cuts := lf 105 9) 60 ?_
      refine eB.t (by rw [show (1 : Int32) = nI 1 from rfl, nI_leI (by omega) (by omega)]; omega) ?_
      have hc2 := c_M_addsNoted (w := vN g w) m1 hc.2.2 hv8 (by omega) h80 hN w1 (by omega)
      rw [← ev] at hc2
      refine ⟨rfl, Nat.le_of_ble_eq_true rfl, ?_⟩
      refine eV.i m1.obj ?_
      refine eC.z (hc2) ⟨rfl, rfl⟩ ⟨Nat.le_of_ble_eq_true rfl, Nat.le_of_ble_eq_true rfl⟩ ⟨Nat.zero_le _, Nat.zero_le _⟩ (fun v S2 hk => ?_)
      obtain ⟨rfl, f2, A2, l2, m2, g2, w2⟩ := hk
      have ec : cat (fun j => A1 8 (80 * vN g w + j)) T.reverse = cat (vals (vN g w)) T.reverse := by
        rw [g1.1 8 (by omega) (by omega) (by omega) (by omega) (by omega) (by omega)]
        refine cat_congr (c := cnt (vN g w)) (fun j hj => q3 j hj) _ (fun q hq => ?_)
        rw [List.mem_reverse, hT] at hq
        have := pathN_in 7 0 n.toInt.toNat m.toInt.toNat (by omega) q hq
        omega
      rw [ec, hT, he] at w2
      refine ⟨rfl, Nat.le_of_ble_eq_true rfl, ?_⟩
      refine eV.i m2.obj ?_
      refine eC.z (c_M_ends m2 hc.2.2) ⟨rfl, rfl⟩ ⟨Nat.le_of_ble_eq_true rfl, Nat.le_of_ble_eq_true rfl⟩ ⟨Nat.zero_le _, Nat.zero_le _⟩ (fun v S3 hk => ?_)
      obtain ⟨rfl, f3, m3⟩ := hk
      have e : oPt (K, vals, cnt, np, kd, lt, mo, dk) g w n m = (nI np, K, vals, cnt, np + 1, va_up kd np 2, va_up lt np (ptB g (vals (vN g w)) n m), mo, dk) := if_pos hc
      rw [e]
      exact eR.int ⟨rfl, (f1.tr f2).tr f3, A2, l2, 0, m3, hR'.post hc.2.2 (g1.tr g2) w2⟩
    induction f with
    | zero =>
      intro a r u x6 x7 x8 L t S1 A1 l1 hc hr hur ha hL e6 e7 e8 he ht1 ht2 h80 hN f1 m1 g1 w1
      subst e6 e7 e8
      rw [pathN, List.append_nil] at he
      exact last a r _ _ L t S1 A1 l1 hc hr (by omega) he ht1 ht2 h80 hN f1 m1 g1 w1
    | succ f ih =>
      intro a r u x6 x7 x8 L t S1 A1 l1 hc hr hur ha hL e6 e7 e8 he ht1 ht2 h80 hN f1 m1 g1 w1
      subst e6 e7 e8
      by_cases e : r ≤ 1
      · rw [pathN, if_pos e, List.append_nil] at he
        exact last a r _ _ L t S1 A1 l1 hc e (by omega) he ht1 ht2 h80 hN f1 m1 g1 w1
      · have h2r : 2 ≤ r := by omega
        have hh := half_le h2r hr
        obtain ⟨k1, k2, k3⟩ := half_lt h2r
        rw [pathN, if_neg e] at he
        refine Gd.of (ckX8 _ _) tX8_path_ok (cuts := lf 105 9) 60 ?_
        refine eB.f (by rw [show (1 : Int32) = nI 1 from rfl, nI_leI (by omega) (by omega)]; omega) ?_
        refine ⟨Nat.le_of_ble_eq_true rfl, ?_⟩
        refine eC.z (c_M_half h2r (by omega)) ⟨rfl, rfl⟩ ⟨Nat.le_of_ble_eq_true rfl, Nat.le_of_ble_eq_true rfl⟩ ⟨Nat.zero_le _, Nat.zero_le _⟩ (fun v S2 hk => ?_)
        obtain ⟨rfl, rfl⟩ := hk
        have ea : nI a + nI (half r) = nI (a + half r) := nI_add _ _
        have er : nI r - nI (half r) = nI (r - half r) := by rw [pk_sub (by omega)]
        by_cases e2 : u < half r
        · rw [if_pos e2] at he
          refine eB.f (by rw [nI_leI (by omega) (by omega)]; omega) ?_
          refine ⟨rfl, Nat.le_of_ble_eq_true rfl, ?_⟩
          refine eV.i m1.obj ?_
          refine eC.z (c_M_note m1 (by omega)) ⟨rfl, rfl⟩ ⟨Nat.le_of_ble_eq_true rfl, Nat.le_of_ble_eq_true rfl⟩ ⟨Nat.zero_le _, Nat.zero_le _⟩ (fun v S2 hk => ?_)
          obtain ⟨rfl, f2, m2⟩ := hk
          rw [ea, er] at m2
          have el : (L ++ [(a + half r, r - half r)]).length = L.length + 1 := by rw [List.length_append]; rfl
          rw [← el] at m2
          exact ih a (half r) u _ _ _ (L ++ [(a + half r, r - half r)]) t S2 _ l1 hc hh e2 (by omega) (by omega) rfl rfl rfl (by rw [← he, List.append_assoc]; rfl) ht1 ht2 (h80.app (by omega)) hN.app (f1.tr f2) m2 (g1.tr Ag.nt) w1.nt
        · rw [if_neg e2] at he
          have eu : nI u - nI (half r) = nI (u - half r) := by rw [pk_sub (by omega)]
          refine eB.t (by rw [nI_leI (by omega) (by omega)]; omega) ?_
          refine ⟨rfl, Nat.le_of_ble_eq_true rfl, ?_⟩
          refine eV.i m1.obj ?_
          refine eC.z (c_M_note m1 (by omega)) ⟨rfl, rfl⟩ ⟨Nat.le_of_ble_eq_true rfl, Nat.le_of_ble_eq_true rfl⟩ ⟨Nat.zero_le _, Nat.zero_le _⟩ (fun v S2 hk => ?_)
          obtain ⟨rfl, f2, m2⟩ := hk
          have el : (L ++ [(a, half r)]).length = L.length + 1 := by rw [List.length_append]; rfl
          rw [← el] at m2
          exact ih (a + half r) (r - half r) (u - half r) _ _ _ (L ++ [(a, half r)]) t S2 _ l1 hc (by omega) (by omega) (by omega) (by omega) ea er eu (by rw [← he, List.append_assoc]; rfl) ht1 ht2 (h80.app (by omega)) hN.app (f1.tr f2) m2 (g1.tr Ag.nt) w1.nt
  refine mCon.of (I := miX8 false (some .int)) (by decide) rfl rfl (fun h => by cases h) (fun _ => rfl) (Nat.le_of_ble_eq_true rfl) ?_
  show Gd _ _ _ _ _ _ _ _ 0 [(0, .ref M), (1, .int g), (2, .int w), (3, .int n), (4, .int m)] [] (0, 0) _
  refine Gd.of (ckX8 _ _) tX8_path_ok (cuts := lf 105 9) 100 ?_
  refine ⟨Nat.le_of_ble_eq_true rfl, ?_⟩
  refine eC.z (c_M_isView) ⟨rfl, rfl⟩ ⟨Nat.le_of_ble_eq_true rfl, Nat.le_of_ble_eq_true rfl⟩ ⟨Nat.zero_le _, Nat.zero_le _⟩ (fun v S1 hk => ?_)
  obtain ⟨rfl, rfl⟩ := hk
  by_cases hv : inV g w
  · have hv8 := (vN_ok hv).1
    obtain ⟨q1, q2, q3⟩ := h2 _ hv8
    have ev := vN_ok2 hv
    have e0 : (0 : Int32).toInt = 0 := rfl
    have e1 : (1 : Int32).toInt = 1 := rfl
    have ec : (nI (cnt (vN g w))).toInt = cnt (vN g w) := nI_toInt (by omega)
    rw [pI_t hv]
    refine eB.f (by decide) ?_
    refine eG.i md.obj rfl ?_
    refine eL.i (i := 2 * g + w) md.a9 (by rw [ev]; exact vp_in_nI (by omega) (by omega)) ?_
    rw [show A 9 (2 * g + w).toNatClampNeg = nI (cnt (vN g w)) from by rw [ev, nI_clamp (by omega), q1]]
    refine ⟨Nat.le_of_ble_eq_true rfl, ?_⟩
    refine eC.z (c_M_in) ⟨rfl, rfl⟩ ⟨Nat.le_of_ble_eq_true rfl, Nat.le_of_ble_eq_true rfl⟩ ⟨Nat.zero_le _, Nat.zero_le _⟩ (fun v S1 hk => ?_)
    obtain ⟨rfl, rfl⟩ := hk
    by_cases hn : (1 : Int32).toInt ≤ n.toInt ∧ n.toInt ≤ (nI (cnt (vN g w))).toInt
    · rw [pI_t hn]
      refine eB.f (by decide) ?_
      refine ⟨Nat.le_of_ble_eq_true rfl, ?_⟩
      refine eC.z (c_M_in) ⟨rfl, rfl⟩ ⟨Nat.le_of_ble_eq_true rfl, Nat.le_of_ble_eq_true rfl⟩ ⟨Nat.zero_le _, Nat.zero_le _⟩ (fun v S1 hk => ?_)
      obtain ⟨rfl, rfl⟩ := hk
      have en : (n - 1).toInt = n.toInt - 1 := by rw [i_sub (by omega) (by omega), e1]
      by_cases hm : (0 : Int32).toInt ≤ m.toInt ∧ m.toInt ≤ (n - 1).toInt
      · rw [pI_t hm]
        refine eB.f (by decide) ?_
        refine eG.i md.obj rfl ?_
        by_cases h60 : np < 60
        · refine eB.f (fun z => ?_) ?_
          · have := congrArg Int32.toInt z
            rw [nI_toInt (by omega), show (60 : Int32).toInt = 60 from rfl] at this
            omega
          have hm3 : m = nI m.toInt.toNat := i_of (by omega)
          have hn3 : n = nI n.toInt.toNat := i_of (by omega)
          refine ⟨rfl, Nat.le_of_ble_eq_true rfl, ?_⟩
          refine eV.i md.obj ?_
          refine eC.z (c_M_begins md h60) ⟨rfl, rfl⟩ ⟨Nat.le_of_ble_eq_true rfl, Nat.le_of_ble_eq_true rfl⟩ ⟨Nat.zero_le _, Nat.zero_le _⟩ (fun v S1 hk => ?_)
          obtain ⟨rfl, f1, A1, m1, g1, e1, w1⟩ := hk
          rw [g_byte hv.1] at w1
          refine ⟨rfl, Nat.le_of_ble_eq_true rfl, ?_⟩
          refine eV.i m1.obj ?_
          refine eC.z (c_M_addsNumber m1 h60 w1 (by show 1 + 4 ≤ 400; omega)) ⟨rfl, rfl⟩ ⟨Nat.le_of_ble_eq_true rfl, Nat.le_of_ble_eq_true rfl⟩ ⟨Nat.zero_le _, Nat.zero_le _⟩ (fun v S2 hk => ?_)
          obtain ⟨rfl, f2, A2, m2, g2, e2, w2⟩ := hk
          refine ⟨rfl, Nat.le_of_ble_eq_true rfl, ?_⟩
          refine eV.i m2.obj ?_
          refine eC.z (c_M_addsNumber m2 h60 w2 (by show 5 + 4 ≤ 400; omega)) ⟨rfl, rfl⟩ ⟨Nat.le_of_ble_eq_true rfl, Nat.le_of_ble_eq_true rfl⟩ ⟨Nat.zero_le _, Nat.zero_le _⟩ (fun v S3 hk => ?_)
          obtain ⟨rfl, f3, A3, m3, g3, e3, w3⟩ := hk
          have g13 := (g1.tr g2).tr g3
          refine eG.i m3.obj rfl ?_
          have e8 : 80 * (2 * g + w) + m = nI (80 * vN g w + m.toInt.toNat) := by rw [ev, hm3, show (80 : Int32) = nI 80 from rfl, pk_mul, nI_add, ← hm3]
          refine eL.i (i := 80 * (2 * g + w) + m) m3.a8 (by rw [e8]; exact vp_in_nI (by omega) (by omega)) ?_
          have e9 : A3 8 (80 * (2 * g + w) + m).toNatClampNeg = vals (vN g w) m.toInt.toNat := by
            rw [e8, nI_clamp (by omega), g13.1 8 (by omega) (by omega) (by omega) (by omega) (by omega) (by omega)]
            exact q3 _ (by omega)
          rw [e9]
          refine ⟨rfl, Nat.le_of_ble_eq_true rfl, ?_⟩
          refine eV.i m3.obj ?_
          refine eC.z (c_M_addsNumber m3 h60 w3 (by show 9 + 4 ≤ 400; omega)) ⟨rfl, rfl⟩ ⟨Nat.le_of_ble_eq_true rfl, Nat.le_of_ble_eq_true rfl⟩ ⟨Nat.zero_le _, Nat.zero_le _⟩ (fun v S5 hk => ?_)
          obtain ⟨rfl, f5, A5, m5, g5, e5, w5⟩ := hk
          have g15 := g13.tr g5
          refine ⟨Or.inl rfl, ?_⟩
          refine eP.i m5.obj (Nat.le_of_ble_eq_true rfl) rfl rfl ?_
          have m6 := m5.nums (nl' := np) (nn' := 0) (nd' := dk.length)
          exact key 7 0 n.toInt.toNat m.toInt.toNat _ _ _ [] ([g] ++ be4 n ++ be4 m ++ be4 (vals (vN g w) m.toInt.toNat)) _ A5 l ⟨hv, by omega, h60⟩ (by omega) (by omega) (by omega) (by show 7 + 0 ≤ 7; omega) rfl hn3 hm3 rfl rfl rfl (fun j hj => absurd hj (Nat.not_lt_zero j)) (fun j hj => absurd hj (Nat.not_lt_zero j)) ((((f1.tr f2).tr f3).tr f5).tr xD_o) m6 g15 w5
        · refine eB.t (by rw [show np = 60 by omega]; rfl) ?_
          exact eR.int (hno _ rfl (fun z => h60 z.2.2))
      · rw [pI_f hm]
        refine eB.t rfl ?_
        exact eR.int (hno _ rfl (fun z => hm (by omega)))
    · rw [pI_f hn]
      refine eB.t rfl ?_
      exact eR.int (hno _ rfl (fun z => hn (by omega)))
  · rw [pI_f hv]
    refine eB.t rfl ?_
    exact eR.int (hno _ rfl (fun z => hv z.1))
end PTT
