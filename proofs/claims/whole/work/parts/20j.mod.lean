def wyC : Nat → Option Nat := nd 70 (lf 44 12) (nd 90 (lf 83 13) (nd 120 (lf 97 13) (lf 138 13)))
section WAY
variable {G : mG} {S S' : mS} {M nl nn nd p : Nat} {A A' : AA} {l row : List Int32} {m n : Int32} {i j s u h : Nat}
theorem c_M_isWay (hd : Md G S M A l nl nn nd) (bi : mdB i = true) (i7 : 7 < i) (i31 : i ≤ 31) (hi : mdN i ≤ 24000) (bj : mdB j = true) (j7 : 7 < j) (j31 : j ≤ 31) (hj : mdN j ≤ 24000) (hu : u + 32 ≤ mdN j) (hs : s + row.length ≤ mdN i) (hl : row.length = 13 + 32 * h) (hr : ∀ x, x < row.length → A i (s + x) = row.getD x 0) :
    mCon G yX8_isWay cX8_isWay 13 (some .boolean) (rmD 4) [.ref M, .int m, .int n, .ref (M + i), .int (nI (s + 9)), .int (nI (s + 13)), .int (nI h), .ref (M + j), .int (nI u)] S (ldK G S M A l nl nn nd (∃ root, pth row h m n = some root ∧ ∀ k, k < 32 → root.getD k 0 = A j (u + k))) := by
  have hpart : ∀ a c, a + c ≤ row.length → seg (A i) (s + a) c = part row a c := fun a c ha => seg_part (fun x hx => hr x hx) ha
  have k44 : ∀ (d kk f s2 : Nat) (x9 x10 x11 : Int32) (o : List Int32) (H : Nat → Int32) (S1 : mS) (l1 : List Int32), kk + d = h → f < 2 ^ 31 → s2 < 2 ^ 31 → x9 = nI f → x10 = nI s2 → x11 = nI kk → fr S S1 (xD M) → Md G S1 M (va_up A 7 H) l1 nl nn nd → pth row h m n = (rise row d (13 + 32 * kk) o (seg H (32 * 1) 32) f s2).map (fun y => y.2) →
      Gd G (miX8 false (some .boolean)) cX8_isWay 13 (rmD 4) 0 0 (ldK G S M A l nl nn nd (∃ root, pth row h m n = some root ∧ ∀ k, k < 32 → root.getD k 0 = A j (u + k))) 44 [(0, .ref M), (1, .int m), (2, .int n), (3, .ref (M + i)), (4, .int (nI (s + 9))), (5, .int (nI (s + 13))), (6, .int (nI h)), (7, .ref (M + j)), (8, .int (nI u)), (9, .int x9), (10, .int x10), (11, .int x11)] [] (0, 0) S1 := by
    intro d
    induction d with
    | zero =>
      intro kk f s2 x9 x10 x11 o H S1 l1 hk hf hs2 e9 e10 e11 f1 m1 he
      subst e9 e10 e11
      refine Gd.of (ckX8 _ _) tX8_isWay_ok (cuts := wyC) 80 ?_
      refine eB.t (by rw [nI_leI (by omega) (by omega)]; omega) ?_
      by_cases q : s2 = 0
      · subst q
        rw [rise, if_pos rfl] at he
        refine eB.t rfl ?_
        refine eG.i m1.obj rfl ?_
        refine ⟨Nat.le_of_ble_eq_true rfl, ?_⟩
        refine eC.z (c_M_isSame (i := 7) (j := j) (s := 32) (u := u) (n := 32) m1 rfl (by decide) (by decide) (by decide) (by decide) bj (by omega) j31 (by omega) hj) ⟨rfl, rfl⟩ ⟨Nat.le_of_ble_eq_true rfl, Nat.le_of_ble_eq_true rfl⟩ ⟨Nat.zero_le _, Nat.zero_le _⟩ (fun v S2 hk => ?_)
        obtain ⟨rfl, rfl⟩ := hk
        have hp : pth row h m n = some (seg H (32 * 1) 32) := he
        have e2 : (∀ k, k < 32 → va_up A 7 H 7 (32 + k) = va_up A 7 H j (u + k)) ↔ ∃ root, pth row h m n = some root ∧ ∀ k, k < 32 → root.getD k 0 = A j (u + k) := by
          constructor
          · intro z
            refine ⟨_, hp, fun k hk => ?_⟩
            have := z k hk
            rw [up_s, up_n (by omega)] at this
            rw [seg_getD _ _ _ _ hk]
            exact this
          · intro z k hk
            obtain ⟨root, z1, z2⟩ := z
            rw [hp] at z1
            have z3 := Option.some.inj z1
            have := z2 k hk
            rw [← z3, seg_getD _ _ _ _ hk] at this
            rw [up_s, up_n (by omega)]
            exact this
        by_cases q2 : ∃ root, pth row h m n = some root ∧ ∀ k, k < 32 → root.getD k 0 = A j (u + k)
        · rw [pI_t (e2.mpr q2)]
          refine eB.f (by decide) ?_
          exact eR.t ⟨by rw [pI_t q2], f1, l1, H, m1⟩
        · rw [pI_f (fun z => q2 (e2.mp z))]
          refine eB.t rfl ?_
          exact eR.f ⟨by rw [pI_f q2], f1, l1, H, m1⟩
      · rw [rise, if_neg q] at he
        refine eB.f (by rw [show (0 : Int32) = nI 0 from rfl, nI_eq hs2 (by omega)]; exact q) ?_
        have hp : pth row h m n = none := he
        exact eR.f ⟨by rw [pI_f (fun z => by obtain ⟨r, z1, -⟩ := z; rw [hp] at z1; cases z1)], f1, l1, H, m1⟩
    | succ d ih =>
      intro kk f s2 x9 x10 x11 o H S1 l1 hk hf hs2 e9 e10 e11 f1 m1 he
      subst e9 e10 e11
      have ec : nI (s + 13) + 32 * nI kk = nI (s + (13 + 32 * kk)) := by
        rw [show (32 : Int32) = nI 32 from rfl, pk_mul, nI_add]
        congr 1
        omega
      have ep := hpart (13 + 32 * kk) 32 (by omega)
      have tail : ∀ (f3 s3 : Nat) (x9 x10 x12 : Int32) (o : List Int32) (H3 : Nat → Int32) (S3 : mS) (l3 : List Int32), f3 < 2 ^ 31 → s3 < 2 ^ 31 → x9 = nI f3 → x10 = nI s3 → fr S S3 (xD M) → Md G S3 M (va_up A 7 H3) l3 nl nn nd → pth row h m n = (rise row d (13 + 32 * (kk + 1)) o (seg H3 (32 * 1) 32) (f3 / 2) (s3 / 2)).map (fun y => y.2) →
          Gd G (miX8 false (some .boolean)) cX8_isWay 13 (rmD 4) 0 0 (ldK G S M A l nl nn nd (∃ root, pth row h m n = some root ∧ ∀ k, k < 32 → root.getD k 0 = A j (u + k))) 138 [(0, .ref M), (1, .int m), (2, .int n), (3, .ref (M + i)), (4, .int (nI (s + 9))), (5, .int (nI (s + 13))), (6, .int (nI h)), (7, .ref (M + j)), (8, .int (nI u)), (9, .int x9), (10, .int x10), (11, .int (nI kk)), (12, .int x12)] [] (0, 0) S3 := by
        intro f3 s3 x9 x10 x12 o H3 S3 l3 hf3 hs3 e9 e10 f3' m3 he3
        subst e9 e10
        refine Gd.of (ckX8 _ _) tX8_isWay_ok (cuts := wyC) 80 ?_
        exact ih (kk + 1) (f3 / 2) (s3 / 2) _ _ _ o H3 S3 l3 (by omega) (by omega) (by omega) (shr1 hf3) (shr1 hs3) (nI_1 kk) f3' m3 he3
      have shifts : ∀ (q f3 s3 : Nat) (x9 x10 x12 : Int32) (o : List Int32) (H3 : Nat → Int32) (S3 : mS) (l3 : List Int32), f3 < 2 ^ q → f3 < 2 ^ 31 → s3 < 2 ^ 31 → x9 = nI f3 → x10 = nI s3 → fr S S3 (xD M) → Md G S3 M (va_up A 7 H3) l3 nl nn nd → pth row h m n = (rise row d (13 + 32 * (kk + 1)) o (seg H3 (32 * 1) 32) ((sE q f3 s3).1 / 2) ((sE q f3 s3).2 / 2)).map (fun y => y.2) →
          Gd G (miX8 false (some .boolean)) cX8_isWay 13 (rmD 4) 0 0 (ldK G S M A l nl nn nd (∃ root, pth row h m n = some root ∧ ∀ k, k < 32 → root.getD k 0 = A j (u + k))) 97 [(0, .ref M), (1, .int m), (2, .int n), (3, .ref (M + i)), (4, .int (nI (s + 9))), (5, .int (nI (s + 13))), (6, .int (nI h)), (7, .ref (M + j)), (8, .int (nI u)), (9, .int x9), (10, .int x10), (11, .int (nI kk)), (12, .int x12)] [] (0, 0) S3 := by
        intro q
        induction q with
        | zero =>
          intro f3 s3 x9 x10 x12 o H3 S3 l3 hq hf3 hs3 e9 e10 f3' m3 he3
          have e0 : f3 = 0 := by have : f3 < 1 := hq; omega
          subst e0
          subst e9 e10
          refine Gd.of (ckX8 _ _) tX8_isWay_ok (cuts := wyC) 80 ?_
          refine eB.t (by decide) ?_
          refine eB.t (by decide) ?_
          exact tail 0 s3 _ _ x12 o H3 S3 l3 hf3 hs3 rfl rfl f3' m3 he3
        | succ q ih2 =>
          intro f3 s3 x9 x10 x12 o H3 S3 l3 hq hf3 hs3 e9 e10 f3' m3 he3
          subst e9 e10
          have e4 : 2 ^ (q + 1) = 2 ^ q * 2 := Nat.pow_succ 2 q
          refine Gd.of (ckX8 _ _) tX8_isWay_ok (cuts := wyC) 80 ?_
          refine eB.i (fun z => ?_) (fun z => ?_)
          · rw [and1 hf3, show (0 : Int32) = nI 0 from rfl, nI_eq (by omega) (by omega)] at z
            refine eB.i (fun z2 => ?_) (fun z2 => ?_)
            · rw [show (0 : Int32) = nI 0 from rfl, nI_eq hf3 (by omega)] at z2
              rw [sE, if_neg (by omega)] at he3
              exact tail f3 s3 _ _ x12 o H3 S3 l3 hf3 hs3 rfl rfl f3' m3 he3
            · rw [show (0 : Int32) = nI 0 from rfl, nI_eq hf3 (by omega)] at z2
              rw [sE, if_pos ⟨z, z2⟩] at he3
              exact ih2 (f3 / 2) (s3 / 2) _ _ x12 o H3 S3 l3 (by omega) (by omega) (by omega) (shr1 hf3) (shr1 hs3) f3' m3 he3
          · rw [and1 hf3, show (0 : Int32) = nI 0 from rfl, nI_eq (by omega) (by omega)] at z
            rw [sE, if_neg (by omega)] at he3
            exact tail f3 s3 _ _ x12 o H3 S3 l3 hf3 hs3 rfl rfl f3' m3 he3
      have both : ∀ (x12 : Int32), x12 = nI (s + (13 + 32 * kk)) → ¬ s2 = 0 → (f % 2 = 1 ∨ f = s2) →
          Gd G (miX8 false (some .boolean)) cX8_isWay 13 (rmD 4) 0 0 (ldK G S M A l nl nn nd (∃ root, pth row h m n = some root ∧ ∀ k, k < 32 → root.getD k 0 = A j (u + k))) 83 [(0, .ref M), (1, .int m), (2, .int n), (3, .ref (M + i)), (4, .int (nI (s + 9))), (5, .int (nI (s + 13))), (6, .int (nI h)), (7, .ref (M + j)), (8, .int (nI u)), (9, .int (nI f)), (10, .int (nI s2)), (11, .int (nI kk)), (12, .int x12)] [] (0, 0) S1 := by
        intro x12 e12 q0 q1
        subst e12
        rw [rise, if_neg q0, if_pos q1] at he
        refine Gd.of (ckX8 _ _) tX8_isWay_ok (cuts := wyC) 80 ?_
        refine eG.i m1.obj rfl ?_
        refine ⟨rfl, Nat.le_of_ble_eq_true rfl, ?_⟩
        refine eV.i m1.obj ?_
        refine eC.z (c_M_joined (i := i) (j := 7) (a := s + (13 + 32 * kk)) (b := 32 * 1) (p := 1) m1 bi (by omega) i31 (by omega) hi rfl (by decide) (by decide) (by decide) (by decide) (by omega)) ⟨rfl, rfl⟩ ⟨Nat.le_of_ble_eq_true rfl, Nat.le_of_ble_eq_true rfl⟩ ⟨Nat.zero_le _, Nat.zero_le _⟩ (fun v S2 hk => ?_)
        obtain ⟨rfl, f2, l2, m2⟩ := hk
        rw [up_up, up_s, up_n (show i ≠ 7 by omega), ep] at m2
        refine shifts 32 f s2 _ _ _ (nh (part row (13 + 32 * kk) 32) o) _ S2 l2 (by omega) hf hs2 rfl rfl (f1.tr f2) m2 ?_
        rw [he, hset_seg (nh_len _ _)]
        rfl
      refine Gd.of (ckX8 _ _) tX8_isWay_ok (cuts := wyC) 80 ?_
      refine eB.f (by rw [nI_leI (by omega) (by omega)]; omega) ?_
      refine eB.i (fun q => ?_) (fun q => ?_)
      · rw [show (0 : Int32) = nI 0 from rfl, nI_eq hs2 (by omega)] at q
        rw [rise, if_pos q] at he
        have hp : pth row h m n = none := he
        exact eR.f ⟨by rw [pI_f (fun z => by obtain ⟨r, z1, -⟩ := z; rw [hp] at z1; cases z1)], f1, l1, H, m1⟩
      · rw [show (0 : Int32) = nI 0 from rfl, nI_eq hs2 (by omega)] at q
        refine eB.i (fun q2 => ?_) (fun q2 => ?_)
        · rw [and1 hf, show (1 : Int32) = nI 1 from rfl, nI_eq (by omega) (by omega)] at q2
          exact both _ ec q (Or.inl q2)
        · rw [and1 hf, show (1 : Int32) = nI 1 from rfl, nI_eq (by omega) (by omega)] at q2
          refine eB.i (fun q3 => ?_) (fun q3 => ?_)
          · rw [nI_eq hf hs2] at q3
            exact both _ ec q (Or.inr q3)
          · rw [nI_eq hf hs2] at q3
            rw [rise, if_neg q, if_neg (by omega)] at he
            refine eG.i m1.obj rfl ?_
            have hc := c_M_joined (i := 7) (j := i) (a := 32 * 1) (b := s + (13 + 32 * kk)) (p := 1) m1 rfl (by decide) (by decide) (by decide) (by decide) bi (by omega) i31 (by omega) hi (by omega)
            rw [← ec] at hc
            refine ⟨rfl, Nat.le_of_ble_eq_true rfl, ?_⟩
            refine eV.i m1.obj ?_
            refine eC.z (hc) ⟨rfl, rfl⟩ ⟨Nat.le_of_ble_eq_true rfl, Nat.le_of_ble_eq_true rfl⟩ ⟨Nat.zero_le _, Nat.zero_le _⟩ (fun v S2 hk => ?_)
            obtain ⟨rfl, f2, l2, m2⟩ := hk
            rw [up_up, up_s, up_n (show i ≠ 7 by omega), ep] at m2
            refine tail f s2 _ _ _ o _ S2 l2 hf hs2 rfl rfl (f1.tr f2) m2 ?_
            rw [he, hset_seg (nh_len _ _)]
            rfl
  refine mCon.of (I := miX8 false (some .boolean)) (by decide) rfl rfl (fun h => by cases h) (fun _ => rfl) (Nat.le_of_ble_eq_true rfl) ?_
  show Gd _ _ _ _ _ _ _ _ 0 [(0, .ref M), (1, .int m), (2, .int n), (3, .ref (M + i)), (4, .int (nI (s + 9))), (5, .int (nI (s + 13))), (6, .int (nI h)), (7, .ref (M + j)), (8, .int (nI u))] [] (0, 0) _
  have hkeep : Md G S M (va_up A 7 (A 7)) l nl nn nd := by rw [up_same]; exact hd
  have nul : pth row h m n = none → ldK G S M A l nl nn nd (∃ root, pth row h m n = some root ∧ ∀ k, k < 32 → root.getD k 0 = A j (u + k)) (some (.int 0)) S := fun z => ⟨by rw [pI_f (fun w => by obtain ⟨r, z1, -⟩ := w; rw [z] at z1; cases z1)], fr.rf, l, _, hkeep⟩
  by_cases hm : m < 0
  · refine Gd.of (ckX8 _ _) tX8_isWay_ok (cuts := wyC) 80 ?_
    refine eB.t hm ?_
    exact eR.f (nul (by rw [pth, if_pos (Or.inl hm)]))
  by_cases hn : n ≤ m
  · refine Gd.of (ckX8 _ _) tX8_isWay_ok (cuts := wyC) 80 ?_
    refine eB.f hm ?_
    refine eB.f (by rw [Int32.lt_iff_toInt_lt]; rw [Int32.le_iff_toInt_le] at hn; omega) ?_
    exact eR.f (nul (by rw [pth, if_pos (Or.inr hn)]))
  have hpf : pth row h m n = (rise row h 13 (sha ([0] ++ part row 9 4)) (sha ([0] ++ part row 9 4)) m.toInt.toNat (n - 1).toInt.toNat).map (fun y => y.2) := by
    rw [pth, if_neg (by rintro (z | z); exact hm z; exact hn z)]
  have hm' : 0 ≤ m.toInt := by
    rw [i_lt0] at hm
    omega
  have hn' : m.toInt < n.toInt := by
    rw [Int32.le_iff_toInt_le] at hn
    omega
  have rm := i_range m
  have rn := i_range n
  have e1i : (1 : Int32).toInt = 1 := rfl
  have en1 : (n - 1).toInt = n.toInt - 1 := by rw [i_sub (by omega) (by omega), e1i]
  have em2 : m = nI m.toInt.toNat := i_of (by omega)
  have en2 : n - 1 = nI (n - 1).toInt.toNat := i_of (by omega)
  refine Gd.of (ckX8 _ _) tX8_isWay_ok (cuts := wyC) 80 ?_
  refine eB.f hm ?_
  refine eB.t (by rw [Int32.lt_iff_toInt_lt]; omega) ?_
  refine ⟨rfl, Nat.le_of_ble_eq_true rfl, ?_⟩
  refine eV.i hd.obj ?_
  refine eC.z (c_M_start hd) ⟨rfl, rfl⟩ ⟨Nat.le_of_ble_eq_true rfl, Nat.le_of_ble_eq_true rfl⟩ ⟨Nat.zero_le _, Nat.zero_le _⟩ (fun v S1 hk => ?_)
  obtain ⟨rfl, f1, m1⟩ := hk
  refine ⟨rfl, Nat.le_of_ble_eq_true rfl, ?_⟩
  refine eV.i m1.obj ?_
  refine eC.z (c_M_put m1 (by decide)) ⟨rfl, rfl⟩ ⟨Nat.le_of_ble_eq_true rfl, Nat.le_of_ble_eq_true rfl⟩ ⟨Nat.zero_le _, Nat.zero_le _⟩ (fun v S2 hk => ?_)
  obtain ⟨rfl, f2, m2⟩ := hk
  refine ⟨rfl, Nat.le_of_ble_eq_true rfl, ?_⟩
  refine eV.i m2.obj ?_
  refine eC.z (c_M_putRow (n := 4) m2 bi (by omega) i31 (by omega) hi (by decide)) ⟨rfl, rfl⟩ ⟨Nat.le_of_ble_eq_true rfl, Nat.le_of_ble_eq_true rfl⟩ ⟨Nat.zero_le _, Nat.zero_le _⟩ (fun v S3 hk => ?_)
  obtain ⟨rfl, f3, m3⟩ := hk
  rw [hpart 9 4 (by omega)] at m3
  refine ⟨rfl, Nat.le_of_ble_eq_true rfl, ?_⟩
  refine eV.i m3.obj ?_
  refine eC.z (c_M_sum (p := 1) m3 (by omega) (by rw [List.length_append, part_len (by omega)]; decide)) ⟨rfl, rfl⟩ ⟨Nat.le_of_ble_eq_true rfl, Nat.le_of_ble_eq_true rfl⟩ ⟨Nat.zero_le _, Nat.zero_le _⟩ (fun v S4 hk => ?_)
  obtain ⟨rfl, f4, l4, m4⟩ := hk
  refine k44 h 0 m.toInt.toNat (n - 1).toInt.toNat _ _ _ (sha ([0] ++ part row 9 4)) _ S4 l4 (by omega) (by omega) (by omega) em2 en2 rfl (((f1.tr f2).tr f3).tr f4) m4 ?_
  rw [hpf, hset_seg (sha_len _)]
  rfl
end WAY
