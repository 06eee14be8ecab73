section PPT
variable {G : mG} {S S' : mS} {M nl nn p : Nat} {A A' : AA} {l t : List Int32} {k : Int32} {K : List Int32} {vals : Nat → Nat → Int32} {cnt : Nat → Nat} {np : Nat} {kd : Nat → Int32} {lt : Nat → List Int32} {mo : Nat → Mo} {dk : List Int32} {L : List (Nat × Nat)}
theorem cat_congr {u v : Nat → Int32} {c : Nat} (h : ∀ j, j < c → u j = v j) : ∀ (L : List (Nat × Nat)), (∀ q ∈ L, q.1 + q.2 ≤ c) → cat u L = cat v L := by
  intro L
  induction L with
  | nil => intro _; rfl
  | cons q L ih =>
    intro hq
    show mth u q.1 q.2 ++ cat u L = mth v q.1 q.2 ++ cat v L
    rw [ih (fun z hz => hq z (List.mem_cons_of_mem _ hz)), mth_congr _ _ (fun j _ hj => h j (by have := hq q List.mem_cons_self; omega))]
theorem prfN_in : ∀ (f a n m : Nat), 0 < m → m ≤ n → n ≤ 2 ^ f → ∀ q ∈ prfN f a n m, q.1 + q.2 ≤ a + n := by
  intro f
  induction f with
  | zero =>
    intro a n m h0 h1 h2 q hq
    unfold prfN at hq
    split at hq
    · cases hq
    · rw [List.mem_singleton.mp hq]; exact Nat.le_refl _
  | succ f ih =>
    intro a n m h0 h1 h2 q hq
    unfold prfN at hq
    by_cases e : m = n
    · rw [if_pos e] at hq
      split at hq
      · cases hq
      · rw [List.mem_singleton.mp hq]; exact Nat.le_refl _
    · rw [if_neg e] at hq
      obtain ⟨j, j1, j2, j3⟩ := half_ok (n := n) (by omega)
      obtain ⟨k1, k2, k3⟩ := half_lt (n := n) (by omega)
      have e4 : 2 ^ (f + 1) = 2 ^ f * 2 := Nat.pow_succ 2 f
      have hh : half n ≤ 2 ^ f := by
        rw [j1]
        refine Nat.pow_le_pow_right (by decide) ?_
        by_cases q : j ≤ f
        · exact q
        · have := Nat.pow_le_pow_right (n := 2) (by decide) (show f + 1 ≤ j by omega)
          omega
      by_cases e2 : m ≤ half n
      · rw [if_pos e2] at hq
        rcases List.mem_cons.mp hq with h | h
        · rw [h]; show a + half n + (n - half n) ≤ _; omega
        · have := ih a (half n) m h0 e2 hh q h; omega
      · rw [if_neg e2] at hq
        rcases List.mem_cons.mp hq with h | h
        · rw [h]; show a + half n ≤ _; omega
        · have := ih (a + half n) (n - half n) (m - half n) (by omega) (by omega) (by omega) q h; omega
theorem pathN_in : ∀ (f a n i : Nat), i < n → ∀ q ∈ pathN f a n i, q.1 + q.2 ≤ a + n := by
  intro f
  induction f with
  | zero => intro a n i h1 q hq; cases hq
  | succ f ih =>
    intro a n i h1 q hq
    unfold pathN at hq
    by_cases e : n ≤ 1
    · rw [if_pos e] at hq; cases hq
    · rw [if_neg e] at hq
      obtain ⟨k1, k2, k3⟩ := half_lt (n := n) (by omega)
      by_cases e2 : i < half n
      · rw [if_pos e2] at hq
        rcases List.mem_cons.mp hq with h | h
        · rw [h]; show a + half n + (n - half n) ≤ _; omega
        · have := ih a (half n) i e2 q h; omega
      · rw [if_neg e2] at hq
        rcases List.mem_cons.mp hq with h | h
        · rw [h]; show a + half n ≤ _; omega
        · have := ih (a + half n) (n - half n) (i - half n) (by omega) q h; omega
theorem half_le {n f : Nat} (h2 : 2 ≤ n) (hn : n ≤ 2 ^ (f + 1)) : half n ≤ 2 ^ f := by
  obtain ⟨j, j1, j2, j3⟩ := half_ok h2
  rw [j1]
  refine Nat.pow_le_pow_right (by decide) ?_
  by_cases q : j ≤ f
  · exact q
  · have := Nat.pow_le_pow_right (n := 2) (by decide) (show f + 1 ≤ j by omega)
    omega
theorem c_X8_proof {g w m n : Int32} (h : MS G S M (K, vals, cnt, np, kd, lt, mo, dk)) :
    mCon G yX8_proof cX8_proof 11 (some .int) (rmD 14) [.ref M, .int g, .int w, .int m, .int n] S (oM G S M (oPf (K, vals, cnt, np, kd, lt, mo, dk) g w m n)) := by
  have hall := h
  obtain ⟨A, l, nn, md, hR⟩ := h
  have hR' := hR
  obtain ⟨h1, h2, h3, h4, h5⟩ := hR
  have hno : ∀ (x : Option Value), x = some (.int (-1)) → ¬ (inV g w ∧ (0 < m.toInt ∧ m.toInt < n.toInt ∧ n.toInt ≤ cnt (vN g w)) ∧ np < 60) → oM G S M (oPf (K, vals, cnt, np, kd, lt, mo, dk) g w m n) x S := fun x hx hc => oM.no hall (if_neg hc) hx
  have np60 := h3.1
  -- the end: all nodes are noted
  have hend : ∀ (T : List (Nat × Nat)) (x6 x7 x8 x9 : Int32) (t : List Int32) (S1 : mS) (A1 : AA) (l1 : List Int32), inV g w ∧ (0 < m.toInt ∧ m.toInt < n.toInt ∧ n.toInt ≤ cnt (vN g w)) ∧ np < 60 → T = prfN 7 0 n.toInt.toNat m.toInt.toNat → t ++ cat (vals (vN g w)) T.reverse = pfB g (vals (vN g w)) m n → t.length = 41 → ok80 T → Nt A1 T → fr S S1 (xD M) → Md G S1 M A1 l1 np T.length dk.length → Ag A A1 np → Wr A1 np 1 t → Gd G (miX8 false (some .int)) cX8_proof 11 (rmD 14) 0 0 (oM G S M (oPf (K, vals, cnt, np, kd, lt, mo, dk) g w m n)) 190 [(0, .ref M), (1, .int g), (2, .int w), (3, .int m), (4, .int n), (5, .int (2 * g + w)), (6, .int x6), (7, .int x7), (8, .int x8), (9, .int x9)] [] (0, 0) S1 := by
    intro T x6 x7 x8 x9 t S1 A1 l1 hc hT he ht h80 hN f1 m1 g1 w1
    have hv8 := (vN_ok hc.1).1
    have ev := vN_ok2 hc.1
    have hTl : T.length ≤ 8 := by rw [hT]; exact prfN_len 7 0 _ _
    obtain ⟨q1, q2, q3⟩ := h2 _ hv8
    refine Gd.of (ckX8 _ _) tX8_proof_ok (cuts := nd 150 (lf 100 10) (lf 190 10)) 60 ?_
    have hc2 := c_M_addsNoted (w := vN g w) m1 hc.2.2 hv8 (by omega) h80 hN w1 (by omega)
    rw [← ev] at hc2
    refine ⟨rfl, Nat.le_of_ble_eq_true rfl, ?_⟩
    refine eV.i m1.obj ?_
    refine eC.z (hc2) ⟨rfl, rfl⟩ ⟨Nat.le_of_ble_eq_true rfl, Nat.le_of_ble_eq_true rfl⟩ ⟨Nat.zero_le _, Nat.zero_le _⟩ (fun v S2 hk => ?_)
    obtain ⟨rfl, f2, A2, l2, m2, g2, w2⟩ := hk
    have ec : cat (fun j => A1 8 (80 * vN g w + j)) T.reverse = cat (vals (vN g w)) T.reverse := by
      rw [g1.1 8 (by omega) (by omega) (by omega) (by omega) (by omega) (by omega)]
      refine cat_congr (c := cnt (vN g w)) (fun j hj => q3 j hj) _ (fun q hq => ?_)
      rw [List.mem_reverse, hT] at hq
      have := prfN_in 7 0 n.toInt.toNat m.toInt.toNat (by omega) (by omega) (by omega) q hq
      omega
    rw [ec, he] at w2
    refine ⟨rfl, Nat.le_of_ble_eq_true rfl, ?_⟩
    refine eV.i m2.obj ?_
    refine eC.z (c_M_ends m2 hc.2.2) ⟨rfl, rfl⟩ ⟨Nat.le_of_ble_eq_true rfl, Nat.le_of_ble_eq_true rfl⟩ ⟨Nat.zero_le _, Nat.zero_le _⟩ (fun v S3 hk => ?_)
    obtain ⟨rfl, f3, m3⟩ := hk
    have e : oPf (K, vals, cnt, np, kd, lt, mo, dk) g w m n = (nI np, K, vals, cnt, np + 1, va_up kd np 1, va_up lt np (pfB g (vals (vN g w)) m n), mo, dk) := if_pos hc
    rw [e]
    exact eR.int ⟨rfl, (f1.tr f2).tr f3, A2, l2, 0, m3, hR'.post hc.2.2 (g1.tr g2) w2⟩
  have key : ∀ (f a r u : Nat) (x6 x7 x8 x9 : Int32) (L : List (Nat × Nat)) (t : List Int32) (S1 : mS) (A1 : AA) (l1 : List Int32), inV g w ∧ (0 < m.toInt ∧ m.toInt < n.toInt ∧ n.toInt ≤ cnt (vN g w)) ∧ np < 60 → r ≤ 2 ^ f → 0 < u → u ≤ r → a + r ≤ 80 → f + L.length ≤ 7 → x6 = nI a → x7 = nI r → x8 = nI u → x9 = (if a = 0 then 1 else 0) → L ++ prfN f a r u = prfN 7 0 n.toInt.toNat m.toInt.toNat → t ++ cat (vals (vN g w)) (prfN 7 0 n.toInt.toNat m.toInt.toNat).reverse = pfB g (vals (vN g w)) m n → t.length = 41 → ok80 L → Nt A1 L → fr S S1 (xD M) → Md G S1 M A1 l1 np L.length dk.length → Ag A A1 np → Wr A1 np 1 t → Gd G (miX8 false (some .int)) cX8_proof 11 (rmD 14) 0 0 (oM G S M (oPf (K, vals, cnt, np, kd, lt, mo, dk) g w m n)) 100 [(0, .ref M), (1, .int g), (2, .int w), (3, .int m), (4, .int n), (5, .int (2 * g + w)), (6, .int x6), (7, .int x7), (8, .int x8), (9, .int x9)] [] (0, 0) S1 := by
    intro f
    -- no node is left
    have last : ∀ (a r : Nat) (L : List (Nat × Nat)) (t : List Int32) (S1 : mS) (A1 : AA) (l1 : List Int32), inV g w ∧ (0 < m.toInt ∧ m.toInt < n.toInt ∧ n.toInt ≤ cnt (vN g w)) ∧ np < 60 → 0 < r → a + r ≤ 80 → L.length ≤ 7 → L ++ (if a = 0 then [] else [(a, r)]) = prfN 7 0 n.toInt.toNat m.toInt.toNat → t ++ cat (vals (vN g w)) (prfN 7 0 n.toInt.toNat m.toInt.toNat).reverse = pfB g (vals (vN g w)) m n → t.length = 41 → ok80 L → Nt A1 L → fr S S1 (xD M) → Md G S1 M A1 l1 np L.length dk.length → Ag A A1 np → Wr A1 np 1 t → Gd G (miX8 false (some .int)) cX8_proof 11 (rmD 14) 0 0 (oM G S M (oPf (K, vals, cnt, np, kd, lt, mo, dk) g w m n)) 100 [(0, .ref M), (1, .int g), (2, .int w), (3, .int m), (4, .int n), (5, .int (2 * g + w)), (6, .int (nI a)), (7, .int (nI r)), (8, .int (nI r)), (9, .int (if a = 0 then 1 else 0))] [] (0, 0) S1 := by
      intro a r L t S1 A1 l1 hc hr ha hL he ht1 ht2 h80 hN f1 m1 g1 w1
      refine Gd.of (ckX8 _ _) tX8_proof_ok (cuts := nd 150 (lf 100 10) (lf 190 10)) 60 ?_
      refine eB.t (by rw [nI_leI (by omega) (by omega)]; omega) ?_
      by_cases e0 : a = 0
      · rw [if_pos e0] at he ⊢
        rw [List.append_nil] at he
        refine eB.f (by decide) ?_
        exact hend L _ _ _ _ t S1 A1 l1 hc he (by rw [he]; exact ht1) ht2 h80 hN f1 m1 g1 w1
      · rw [if_neg e0] at he ⊢
        refine eB.t rfl ?_
        refine ⟨rfl, Nat.le_of_ble_eq_true rfl, ?_⟩
        refine eV.i m1.obj ?_
        refine eC.z (c_M_note m1 (by omega)) ⟨rfl, rfl⟩ ⟨Nat.le_of_ble_eq_true rfl, Nat.le_of_ble_eq_true rfl⟩ ⟨Nat.zero_le _, Nat.zero_le _⟩ (fun v S2 hk => ?_)
        obtain ⟨rfl, f2, m2⟩ := hk
        have el : (L ++ [(a, r)]).length = L.length + 1 := by rw [List.length_append]; rfl
        rw [← el] at m2
        exact hend (L ++ [(a, r)]) _ _ _ _ t S2 _ l1 hc he (by rw [he]; exact ht1) ht2 (h80.app ha) hN.app (f1.tr f2) m2 (g1.tr Ag.nt) w1.nt
    induction f with
    | zero =>
      intro a r u x6 x7 x8 x9 L t S1 A1 l1 hc hr hu hur ha hL e6 e7 e8 e9 he ht1 ht2 h80 hN f1 m1 g1 w1
      subst e6 e7 e8 e9
      have hr1 : r ≤ 1 := hr
      have e : u = r := by omega
      subst e
      exact last a u L t S1 A1 l1 hc hu ha (by omega) he ht1 ht2 h80 hN f1 m1 g1 w1
    | succ f ih =>
      intro a r u x6 x7 x8 x9 L t S1 A1 l1 hc hr hu hur ha hL e6 e7 e8 e9 he ht1 ht2 h80 hN f1 m1 g1 w1
      subst e6 e7 e8 e9
      by_cases e : u = r
      · subst e
        rw [prfN, if_pos rfl] at he
        exact last a u L t S1 A1 l1 hc hu ha (by omega) he ht1 ht2 h80 hN f1 m1 g1 w1
      · have h2r : 2 ≤ r := by omega
        have hh := half_le h2r hr
        obtain ⟨k1, k2, k3⟩ := half_lt h2r
        rw [prfN, if_neg e] at he
        refine Gd.of (ckX8 _ _) tX8_proof_ok (cuts := nd 150 (lf 100 10) (lf 190 10)) 60 ?_
        refine eB.f (by rw [nI_leI (by omega) (by omega)]; omega) ?_
        refine ⟨Nat.le_of_ble_eq_true rfl, ?_⟩
        refine eC.z (c_M_half h2r (by omega)) ⟨rfl, rfl⟩ ⟨Nat.le_of_ble_eq_true rfl, Nat.le_of_ble_eq_true rfl⟩ ⟨Nat.zero_le _, Nat.zero_le _⟩ (fun v S2 hk => ?_)
        obtain ⟨rfl, rfl⟩ := hk
        have ea : nI a + nI (half r) = nI (a + half r) := nI_add _ _
        have er : nI r - nI (half r) = nI (r - half r) := by rw [pk_sub (by omega)]
        by_cases e2 : u ≤ half r
        · rw [if_pos e2] at he
          refine eB.f (by rw [nI_ltI (by omega) (by omega)]; omega) ?_
          refine ⟨rfl, Nat.le_of_ble_eq_true rfl, ?_⟩
          refine eV.i m1.obj ?_
          refine eC.z (c_M_note m1 (by omega)) ⟨rfl, rfl⟩ ⟨Nat.le_of_ble_eq_true rfl, Nat.le_of_ble_eq_true rfl⟩ ⟨Nat.zero_le _, Nat.zero_le _⟩ (fun v S2 hk => ?_)
          obtain ⟨rfl, f2, m2⟩ := hk
          rw [ea, er] at m2
          have el : (L ++ [(a + half r, r - half r)]).length = L.length + 1 := by rw [List.length_append]; rfl
          rw [← el] at m2
          exact ih a (half r) u _ _ _ _ (L ++ [(a + half r, r - half r)]) t S2 _ l1 hc hh hu e2 (by omega) (by omega) rfl rfl rfl rfl (by rw [← he, List.append_assoc]; rfl) ht1 ht2 (h80.app (by omega)) hN.app (f1.tr f2) m2 (g1.tr Ag.nt) w1.nt
        · rw [if_neg e2] at he
          have eu : nI u - nI (half r) = nI (u - half r) := by rw [pk_sub (by omega)]
          refine eB.t (by rw [nI_ltI (by omega) (by omega)]; omega) ?_
          refine ⟨rfl, Nat.le_of_ble_eq_true rfl, ?_⟩
          refine eV.i m1.obj ?_
          refine eC.z (c_M_note m1 (by omega)) ⟨rfl, rfl⟩ ⟨Nat.le_of_ble_eq_true rfl, Nat.le_of_ble_eq_true rfl⟩ ⟨Nat.zero_le _, Nat.zero_le _⟩ (fun v S2 hk => ?_)
          obtain ⟨rfl, f2, m2⟩ := hk
          have el : (L ++ [(a, half r)]).length = L.length + 1 := by rw [List.length_append]; rfl
          rw [← el] at m2
          exact ih (a + half r) (r - half r) (u - half r) _ _ _ _ (L ++ [(a, half r)]) t S2 _ l1 hc (by omega) (by omega) (by omega) (by omega) (by omega) ea er eu (by rw [if_neg (by omega)]) (by rw [← he, List.append_assoc]; rfl) ht1 ht2 (h80.app (by omega)) hN.app (f1.tr f2) m2 (g1.tr Ag.nt) w1.nt
  refine mCon.of (I := miX8 false (some .int)) (by decide) rfl rfl (fun h => by cases h) (fun _ => rfl) (Nat.le_of_ble_eq_true rfl) ?_
  show Gd _ _ _ _ _ _ _ _ 0 [(0, .ref M), (1, .int g), (2, .int w), (3, .int m), (4, .int n)] [] (0, 0) _
  refine Gd.of (ckX8 _ _) tX8_proof_ok (cuts := nd 150 (lf 100 10) (lf 190 10)) 100 ?_
  refine ⟨Nat.le_of_ble_eq_true rfl, ?_⟩
  refine eC.z (c_M_isView) ⟨rfl, rfl⟩ ⟨Nat.le_of_ble_eq_true rfl, Nat.le_of_ble_eq_true rfl⟩ ⟨Nat.zero_le _, Nat.zero_le _⟩ (fun v S1 hk => ?_)
  obtain ⟨rfl, rfl⟩ := hk
  by_cases hv : inV g w
  · have hv8 := (vN_ok hv).1
    obtain ⟨q1, q2, q3⟩ := h2 _ hv8
    have ev := vN_ok2 hv
    rw [pI_t hv]
    refine eB.f (by decide) ?_
    refine eB.i (fun z1 => ?_) (fun z1 => ?_)
    · have z1' : m.toInt ≤ 0 := Int32.le_iff_toInt_le.mp z1
      exact eR.int (hno _ rfl (by omega))
    have z1' : ¬ m.toInt ≤ 0 := fun z => z1 (Int32.le_iff_toInt_le.mpr z)
    refine eB.i (fun z2 => ?_) (fun z2 => ?_)
    · rw [Int32.le_iff_toInt_le] at z2
      exact eR.int (hno _ rfl (by omega))
    rw [Int32.le_iff_toInt_le] at z2
    refine eG.i md.obj rfl ?_
    refine eL.i (i := 2 * g + w) md.a9 (by rw [ev]; exact vp_in_nI (by omega) (by omega)) ?_
    rw [show A 9 (2 * g + w).toNatClampNeg = nI (cnt (vN g w)) from by rw [ev, nI_clamp (by omega), q1]]
    refine eB.i (fun z3 => ?_) (fun z3 => ?_)
    · rw [i_nlt (by omega)] at z3
      exact eR.int (hno _ rfl (by omega))
    rw [i_nlt (by omega)] at z3
    refine eG.i md.obj rfl ?_
    by_cases h60 : np < 60
    · refine eB.f (fun z => ?_) ?_
      · have := congrArg Int32.toInt z
        rw [nI_toInt (by omega), show (60 : Int32).toInt = 60 from rfl] at this
        omega
      have hm3 : m = nI m.toInt.toNat := i_of (by omega)
      have hn3 : n = nI n.toInt.toNat := i_of (by omega)
      refine ⟨rfl, Nat.le_of_ble_eq_true rfl, ?_⟩
      refine eV.i md.obj ?_
      refine eC.z (c_M_begins md h60) ⟨rfl, rfl⟩ ⟨Nat.le_of_ble_eq_true rfl, Nat.le_of_ble_eq_true rfl⟩ ⟨Nat.zero_le _, Nat.zero_le _⟩ (fun v S1 hk => ?_)
      obtain ⟨rfl, f1, A1, m1, g1, e1, w1⟩ := hk
      rw [g_byte hv.1] at w1
      refine ⟨rfl, Nat.le_of_ble_eq_true rfl, ?_⟩
      refine eV.i m1.obj ?_
      refine eC.z (c_M_addsNumber m1 h60 w1 (by show 1 + 4 ≤ 400; omega)) ⟨rfl, rfl⟩ ⟨Nat.le_of_ble_eq_true rfl, Nat.le_of_ble_eq_true rfl⟩ ⟨Nat.zero_le _, Nat.zero_le _⟩ (fun v S2 hk => ?_)
      obtain ⟨rfl, f2, A2, m2, g2, e2, w2⟩ := hk
      refine ⟨rfl, Nat.le_of_ble_eq_true rfl, ?_⟩
      refine eV.i m2.obj ?_
      refine eC.z (c_M_addsNumber m2 h60 w2 (by show 5 + 4 ≤ 400; omega)) ⟨rfl, rfl⟩ ⟨Nat.le_of_ble_eq_true rfl, Nat.le_of_ble_eq_true rfl⟩ ⟨Nat.zero_le _, Nat.zero_le _⟩ (fun v S3 hk => ?_)
      obtain ⟨rfl, f3, A3, m3, g3, e3, w3⟩ := hk
      have hc := c_M_root 7 (vN g w) 0 m.toInt.toNat 0 _ A3 l (by omega) (by omega) hv8 (by omega) (by omega) m3
      rw [← hm3, ← ev] at hc
      refine ⟨rfl, Nat.le_of_ble_eq_true rfl, ?_⟩
      refine eV.i m3.obj ?_
      refine eC.z (hc) ⟨rfl, rfl⟩ ⟨Nat.le_of_ble_eq_true rfl, Nat.le_of_ble_eq_true rfl⟩ ⟨Nat.zero_le _, Nat.zero_le _⟩ (fun v S4 hk => ?_)
      obtain ⟨rfl, f4, l4, H4, m4, q4', s4⟩ := hk
      have g13 := (g1.tr g2).tr g3
      have em : mth (fun j => A3 8 (80 * vN g w + j)) 0 m.toInt.toNat = mth (vals (vN g w)) 0 m.toInt.toNat := by
        rw [g13.1 8 (by omega) (by omega) (by omega) (by omega) (by omega) (by omega)]
        exact mth_congr _ _ (fun j _ hj => q3 j (by omega))
      rw [em] at s4
      refine ⟨rfl, Nat.le_of_ble_eq_true rfl, ?_⟩
      refine eV.i m4.obj ?_
      refine eC.z (c_M_addsHash (p := 0) m4 h60 (by omega) w3.h7 (by show 9 + 32 ≤ 400; omega)) ⟨rfl, rfl⟩ ⟨Nat.le_of_ble_eq_true rfl, Nat.le_of_ble_eq_true rfl⟩ ⟨Nat.zero_le _, Nat.zero_le _⟩ (fun v S5 hk => ?_)
      obtain ⟨rfl, f5, A5, m5, g5, e5, w5⟩ := hk
      rw [up_s, s4] at w5
      have g15 := (g13.tr Ag.h7).tr g5
      refine ⟨Or.inl rfl, ?_⟩
      refine eP.i m5.obj (Nat.le_of_ble_eq_true rfl) rfl rfl ?_
      have m6 := m5.nums (nl' := np) (nn' := 0) (nd' := dk.length)
      have hl5 : ([g] ++ be4 m ++ be4 n ++ mth (vals (vN g w)) 0 m.toInt.toNat).length = 41 := by
        rw [List.length_append, mth_len]
        rfl
      exact key 7 0 n.toInt.toNat m.toInt.toNat _ _ _ _ [] ([g] ++ be4 m ++ be4 n ++ mth (vals (vN g w)) 0 m.toInt.toNat) _ A5 l4 ⟨hv, by omega, h60⟩ (by omega) (by omega) (by omega) (by omega) (by show 7 + 0 ≤ 7; omega) rfl hn3 hm3 rfl rfl rfl hl5 (fun j hj => absurd hj (Nat.not_lt_zero j)) (fun j hj => absurd hj (Nat.not_lt_zero j)) (((((f1.tr f2).tr f3).tr f4).tr f5).tr xD_o) m6 g15 w5
    · refine eB.t (by rw [show np = 60 by omega]; rfl) ?_
      exact eR.int (hno _ rfl (fun z => h60 z.2.2))
  · rw [pI_f hv]
    refine eB.t rfl ?_
    exact eR.int (hno _ rfl (fun z => hv z.1))
end PPT
