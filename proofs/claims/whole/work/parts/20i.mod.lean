/-! where hashes lead to, in the reference -/
def ldC : Nat → Option Nat := nd 100 (nd 40 (lf 26 11) (lf 49 11)) (nd 150 (lf 112 13) (nd 170 (lf 151 14) (nd 200 (lf 179 14) (lf 220 14))))
section LDS
variable {G : mG} {S S' : mS} {M nl nn nd p : Nat} {A A' : AA} {l row : List Int32} {m n : Int32} {i j s u rS h : Nat}
def ldK (G : mG) (S : mS) (M : Nat) (A : AA) (l : List Int32) (nl nn nd : Nat) (P : Prop) : Option Value → mS → Prop := fun v S' => v = some (.int (pI P)) ∧ fr S S' (xD M) ∧ ∃ l' H, Md G S' M (va_up A 7 H) l' nl nn nd
noncomputable def prf2 (row : List Int32) (rS : Nat) (x : Option (List Int32 × List Int32)) : Option (List Int32) := match x with
  | none => none
  | some (o, w) => @ite _ (same o 0 row rS 32) (Classical.propDecidable _) (some w) none
theorem segb {f : Nat → Int32} {a n : Nat} (h : ∀ j, isB (f j)) : bl (seg f a n) := by
  intro j
  by_cases q : j < n
  · rw [seg_getD _ _ _ _ q]; exact h _
  · rw [List.getD_eq_getElem?_getD, List.getElem?_eq_none (by rw [seg_len]; omega)]; exact isB_0
theorem hset_ne {f : Nat → Int32} {p q : Nat} {d : List Int32} (h : p ≠ q) : seg (hset f p d) (32 * q) 32 = seg f (32 * q) 32 := by
  refine seg_congr (fun j h1 h2 => ?_)
  unfold hset
  rw [if_neg (by omega)]
theorem c_M_leads (hd : Md G S M A l nl nn nd) (bi : mdB i = true) (i7 : 7 < i) (i31 : i ≤ 31) (hi : mdN i ≤ 24000) (bj : mdB j = true) (j7 : 7 < j) (j31 : j ≤ 31) (hj : mdN j ≤ 24000) (hu : u + 32 ≤ mdN j) (hs : s + row.length ≤ mdN i) (hl : row.length = rS + 32 + 32 * h) (bR : bl row) (hr : ∀ x, x < row.length → A i (s + x) = row.getD x 0) :
    mCon G yX8_leads cX8_leads 14 (some .boolean) (rmD 4) [.ref M, .int m, .int n, .ref (M + i), .int (nI (s + rS)), .int (nI (s + rS + 32)), .int (nI h), .ref (M + j), .int (nI u)] S (ldK G S M A l nl nn nd (∃ root, prf row rS h m n = some root ∧ ∀ k, k < 32 → root.getD k 0 = A j (u + k))) := by
  have hpart : ∀ a, a + 32 ≤ row.length → seg (A i) (s + a) 32 = part row a 32 := fun a ha => seg_part (fun x hx => hr x hx) ha
  -- the loop over the hashes
  have k112 : ∀ (d kk f s2 : Nat) (x9 x10 x12 x11 : Int32) (H : Nat → Int32) (S1 : mS) (l1 : List Int32), kk + d = h → f < 2 ^ 31 → s2 < 2 ^ 31 → x9 = nI f → x10 = nI s2 → x12 = nI kk → fr S S1 (xD M) → Md G S1 M (va_up A 7 H) l1 nl nn nd → prf row rS h m n = prf2 row rS (rise row d (rS + 32 + 32 * kk) (seg H (32 * 1) 32) (seg H (32 * 2) 32) f s2) →
      Gd G (miX8 false (some .boolean)) cX8_leads 14 (rmD 4) 0 0 (ldK G S M A l nl nn nd (∃ root, prf row rS h m n = some root ∧ ∀ k, k < 32 → root.getD k 0 = A j (u + k))) 112 [(0, .ref M), (1, .int m), (2, .int n), (3, .ref (M + i)), (4, .int (nI (s + rS))), (5, .int (nI (s + rS + 32))), (6, .int (nI h)), (7, .ref (M + j)), (8, .int (nI u)), (9, .int x9), (10, .int x10), (11, .int x11), (12, .int x12)] [] (0, 0) S1 := by
    intro d
    induction d with
    | zero =>
      intro kk f s2 x9 x10 x12 x11 H S1 l1 hk hf hs2 e9 e10 e12 f1 m1 he
      subst e9 e10 e12
      have hbH : ∀ q, isB (H q) := fun q => by
        have := m1.isb (i := 7) rfl (by decide) q
        rw [up_s] at this
        exact this
      refine Gd.of (ckX8 _ _) tX8_leads_ok (cuts := ldC) 80 ?_
      refine eB.t (by rw [nI_leI (by omega) (by omega)]; omega) ?_
      by_cases q : s2 = 0
      · subst q
        rw [rise, if_pos rfl] at he
        refine eB.t rfl ?_
        refine eG.i m1.obj rfl ?_
        refine ⟨Nat.le_of_ble_eq_true rfl, ?_⟩
        refine eC.z (c_M_isSame (i := 7) (j := i) (s := 32) (u := s + rS) (n := 32) m1 rfl (by decide) (by decide) (by decide) (by decide) bi (by omega) i31 (by omega) hi) ⟨rfl, rfl⟩ ⟨Nat.le_of_ble_eq_true rfl, Nat.le_of_ble_eq_true rfl⟩ ⟨Nat.zero_le _, Nat.zero_le _⟩ (fun v S2 hk => ?_)
        obtain ⟨rfl, rfl⟩ := hk
        have e1 : (∀ k, k < 32 → va_up A 7 H 7 (32 + k) = va_up A 7 H i (s + rS + k)) ↔ same (seg H (32 * 1) 32) 0 row rS 32 := by
          rw [same_iff (by rw [seg_len]; omega) (by omega) (segb hbH) bR (by omega) (by omega)]
          constructor
          · intro z k hk
            have := z k hk
            rw [up_s, up_n (by omega), Nat.add_assoc, hr _ (by omega)] at this
            rw [Nat.zero_add, seg_getD _ _ _ _ hk]
            exact this
          · intro z k hk
            have := z k hk
            rw [Nat.zero_add, seg_getD _ _ _ _ hk] at this
            rw [up_s, up_n (by omega), Nat.add_assoc, hr _ (by omega)]
            exact this
        by_cases q1 : same (seg H (32 * 1) 32) 0 row rS 32
        · rw [pI_t (e1.mpr q1)]
          refine eB.f (by decide) ?_
          refine eG.i m1.obj rfl ?_
          refine ⟨Nat.le_of_ble_eq_true rfl, ?_⟩
          refine eC.z (c_M_isSame (i := 7) (j := j) (s := 64) (u := u) (n := 32) m1 rfl (by decide) (by decide) (by decide) (by decide) bj (by omega) j31 (by omega) hj) ⟨rfl, rfl⟩ ⟨Nat.le_of_ble_eq_true rfl, Nat.le_of_ble_eq_true rfl⟩ ⟨Nat.zero_le _, Nat.zero_le _⟩ (fun v S2 hk => ?_)
          obtain ⟨rfl, rfl⟩ := hk
          have hp : prf row rS h m n = some (seg H (32 * 2) 32) := by rw [he]; exact if_pos q1
          have e2 : (∀ k, k < 32 → va_up A 7 H 7 (64 + k) = va_up A 7 H j (u + k)) ↔ ∃ root, prf row rS h m n = some root ∧ ∀ k, k < 32 → root.getD k 0 = A j (u + k) := by
            constructor
            · intro z
              refine ⟨_, hp, fun k hk => ?_⟩
              have := z k hk
              rw [up_s, up_n (by omega)] at this
              rw [seg_getD _ _ _ _ hk]
              exact this
            · intro z k hk
              obtain ⟨root, z1, z2⟩ := z
              rw [hp] at z1
              have z3 := Option.some.inj z1
              have := z2 k hk
              rw [← z3, seg_getD _ _ _ _ hk] at this
              rw [up_s, up_n (by omega)]
              exact this
          by_cases q2 : ∃ root, prf row rS h m n = some root ∧ ∀ k, k < 32 → root.getD k 0 = A j (u + k)
          · rw [pI_t (e2.mpr q2)]
            refine eB.f (by decide) ?_
            exact eR.t ⟨by rw [pI_t q2], f1, l1, H, m1⟩
          · rw [pI_f (fun z => q2 (e2.mp z))]
            refine eB.t rfl ?_
            exact eR.f ⟨by rw [pI_f q2], f1, l1, H, m1⟩
        · rw [pI_f (fun z => q1 (e1.mp z))]
          refine eB.t rfl ?_
          have hp : prf row rS h m n = none := by rw [he]; exact if_neg q1
          exact eR.f ⟨by rw [pI_f (fun z => by obtain ⟨r, z1, -⟩ := z; rw [hp] at z1; cases z1)], f1, l1, H, m1⟩
      · rw [rise, if_neg q] at he
        refine eB.f (by rw [show (0 : Int32) = nI 0 from rfl, nI_eq hs2 (by omega)]; exact q) ?_
        have hp : prf row rS h m n = none := he
        exact eR.f ⟨by rw [pI_f (fun z => by obtain ⟨r, z1, -⟩ := z; rw [hp] at z1; cases z1)], f1, l1, H, m1⟩
    | succ d ih =>
      intro kk f s2 x9 x10 x12 x11 H S1 l1 hk hf hs2 e9 e10 e12 f1 m1 he
      subst e9 e10 e12
      have ec : nI (s + rS + 32) + 32 * nI kk = nI (s + (rS + 32 + 32 * kk)) := by
        rw [show (32 : Int32) = nI 32 from rfl, pk_mul, nI_add]
        congr 1
        omega
      have ep := hpart (rS + 32 + 32 * kk) (by omega)
      -- behind all ways
      have tail : ∀ (f3 s3 : Nat) (x9 x10 x13 : Int32) (H3 : Nat → Int32) (S3 : mS) (l3 : List Int32), f3 < 2 ^ 31 → s3 < 2 ^ 31 → x9 = nI f3 → x10 = nI s3 → fr S S3 (xD M) → Md G S3 M (va_up A 7 H3) l3 nl nn nd → prf row rS h m n = prf2 row rS (rise row d (rS + 32 + 32 * (kk + 1)) (seg H3 (32 * 1) 32) (seg H3 (32 * 2) 32) (f3 / 2) (s3 / 2)) →
          Gd G (miX8 false (some .boolean)) cX8_leads 14 (rmD 4) 0 0 (ldK G S M A l nl nn nd (∃ root, prf row rS h m n = some root ∧ ∀ k, k < 32 → root.getD k 0 = A j (u + k))) 220 [(0, .ref M), (1, .int m), (2, .int n), (3, .ref (M + i)), (4, .int (nI (s + rS))), (5, .int (nI (s + rS + 32))), (6, .int (nI h)), (7, .ref (M + j)), (8, .int (nI u)), (9, .int x9), (10, .int x10), (11, .int x11), (12, .int (nI kk)), (13, .int x13)] [] (0, 0) S3 := by
        intro f3 s3 x9 x10 x13 H3 S3 l3 hf3 hs3 e9 e10 f3' m3 he3
        subst e9 e10
        refine Gd.of (ckX8 _ _) tX8_leads_ok (cuts := ldC) 80 ?_
        exact ih (kk + 1) (f3 / 2) (s3 / 2) _ _ _ x11 H3 S3 l3 (by omega) (by omega) (by omega) (shr1 hf3) (shr1 hs3) (nI_1 kk) f3' m3 he3
      have shifts : ∀ (q f3 s3 : Nat) (x9 x10 x13 : Int32) (H3 : Nat → Int32) (S3 : mS) (l3 : List Int32), f3 < 2 ^ q → f3 < 2 ^ 31 → s3 < 2 ^ 31 → x9 = nI f3 → x10 = nI s3 → fr S S3 (xD M) → Md G S3 M (va_up A 7 H3) l3 nl nn nd → prf row rS h m n = prf2 row rS (rise row d (rS + 32 + 32 * (kk + 1)) (seg H3 (32 * 1) 32) (seg H3 (32 * 2) 32) ((sE q f3 s3).1 / 2) ((sE q f3 s3).2 / 2)) →
          Gd G (miX8 false (some .boolean)) cX8_leads 14 (rmD 4) 0 0 (ldK G S M A l nl nn nd (∃ root, prf row rS h m n = some root ∧ ∀ k, k < 32 → root.getD k 0 = A j (u + k))) 179 [(0, .ref M), (1, .int m), (2, .int n), (3, .ref (M + i)), (4, .int (nI (s + rS))), (5, .int (nI (s + rS + 32))), (6, .int (nI h)), (7, .ref (M + j)), (8, .int (nI u)), (9, .int x9), (10, .int x10), (11, .int x11), (12, .int (nI kk)), (13, .int x13)] [] (0, 0) S3 := by
        intro q
        induction q with
        | zero =>
          intro f3 s3 x9 x10 x13 H3 S3 l3 hq hf3 hs3 e9 e10 f3' m3 he3
          have e0 : f3 = 0 := by have : f3 < 1 := hq; omega
          subst e0
          subst e9 e10
          refine Gd.of (ckX8 _ _) tX8_leads_ok (cuts := ldC) 80 ?_
          refine eB.t (by decide) ?_
          refine eB.t (by decide) ?_
          exact tail 0 s3 _ _ x13 H3 S3 l3 hf3 hs3 rfl rfl f3' m3 he3
        | succ q ih2 =>
          intro f3 s3 x9 x10 x13 H3 S3 l3 hq hf3 hs3 e9 e10 f3' m3 he3
          subst e9 e10
          have e4 : 2 ^ (q + 1) = 2 ^ q * 2 := Nat.pow_succ 2 q
          refine Gd.of (ckX8 _ _) tX8_leads_ok (cuts := ldC) 80 ?_
          refine eB.i (fun z => ?_) (fun z => ?_)
          · rw [and1 hf3, show (0 : Int32) = nI 0 from rfl, nI_eq (by omega) (by omega)] at z
            refine eB.i (fun z2 => ?_) (fun z2 => ?_)
            · rw [show (0 : Int32) = nI 0 from rfl, nI_eq hf3 (by omega)] at z2
              rw [sE, if_neg (by omega)] at he3
              exact tail f3 s3 _ _ x13 H3 S3 l3 hf3 hs3 rfl rfl f3' m3 he3
            · rw [show (0 : Int32) = nI 0 from rfl, nI_eq hf3 (by omega)] at z2
              rw [sE, if_pos ⟨z, z2⟩] at he3
              exact ih2 (f3 / 2) (s3 / 2) _ _ x13 H3 S3 l3 (by omega) (by omega) (by omega) (shr1 hf3) (shr1 hs3) f3' m3 he3
          · rw [and1 hf3, show (0 : Int32) = nI 0 from rfl, nI_eq (by omega) (by omega)] at z
            rw [sE, if_neg (by omega)] at he3
            exact tail f3 s3 _ _ x13 H3 S3 l3 hf3 hs3 rfl rfl f3' m3 he3
      have both : ∀ (x13 : Int32), x13 = nI (s + (rS + 32 + 32 * kk)) → ¬ s2 = 0 → (f % 2 = 1 ∨ f = s2) →
          Gd G (miX8 false (some .boolean)) cX8_leads 14 (rmD 4) 0 0 (ldK G S M A l nl nn nd (∃ root, prf row rS h m n = some root ∧ ∀ k, k < 32 → root.getD k 0 = A j (u + k))) 151 [(0, .ref M), (1, .int m), (2, .int n), (3, .ref (M + i)), (4, .int (nI (s + rS))), (5, .int (nI (s + rS + 32))), (6, .int (nI h)), (7, .ref (M + j)), (8, .int (nI u)), (9, .int (nI f)), (10, .int (nI s2)), (11, .int x11), (12, .int (nI kk)), (13, .int x13)] [] (0, 0) S1 := by
        intro x13 e13 q0 q1
        subst e13
        rw [rise, if_neg q0, if_pos q1] at he
        refine Gd.of (ckX8 _ _) tX8_leads_ok (cuts := ldC) 80 ?_
        refine eG.i m1.obj rfl ?_
        refine ⟨rfl, Nat.le_of_ble_eq_true rfl, ?_⟩
        refine eV.i m1.obj ?_
        refine eC.z (c_M_joined (i := i) (j := 7) (a := s + (rS + 32 + 32 * kk)) (b := 32 * 1) (p := 1) m1 bi (by omega) i31 (by omega) hi rfl (by decide) (by decide) (by decide) (by decide) (by omega)) ⟨rfl, rfl⟩ ⟨Nat.le_of_ble_eq_true rfl, Nat.le_of_ble_eq_true rfl⟩ ⟨Nat.zero_le _, Nat.zero_le _⟩ (fun v S2 hk => ?_)
        obtain ⟨rfl, f2, l2, m2⟩ := hk
        rw [up_up, up_s, up_n (show i ≠ 7 by omega), ep] at m2
        refine eG.i m2.obj rfl ?_
        refine ⟨rfl, Nat.le_of_ble_eq_true rfl, ?_⟩
        refine eV.i m2.obj ?_
        refine eC.z (c_M_joined (i := i) (j := 7) (a := s + (rS + 32 + 32 * kk)) (b := 32 * 2) (p := 2) m2 bi (by omega) i31 (by omega) hi rfl (by decide) (by decide) (by decide) (by decide) (by omega)) ⟨rfl, rfl⟩ ⟨Nat.le_of_ble_eq_true rfl, Nat.le_of_ble_eq_true rfl⟩ ⟨Nat.zero_le _, Nat.zero_le _⟩ (fun v S3 hk => ?_)
        obtain ⟨rfl, f3, l3, m3⟩ := hk
        rw [up_up, up_s, up_n (show i ≠ 7 by omega), ep, hset_ne (by omega)] at m3
        refine shifts 32 f s2 _ _ _ _ S3 l3 (by omega) hf hs2 rfl rfl ((f1.tr f2).tr f3) m3 ?_
        rw [he, hset_ne (by omega), hset_seg (nh_len _ _), hset_seg (nh_len _ _)]
        congr 1
      refine Gd.of (ckX8 _ _) tX8_leads_ok (cuts := ldC) 80 ?_
      refine eB.f (by rw [nI_leI (by omega) (by omega)]; omega) ?_
      refine eB.i (fun q => ?_) (fun q => ?_)
      · rw [show (0 : Int32) = nI 0 from rfl, nI_eq hs2 (by omega)] at q
        rw [rise, if_pos q] at he
        have hp : prf row rS h m n = none := he
        exact eR.f ⟨by rw [pI_f (fun z => by obtain ⟨r, z1, -⟩ := z; rw [hp] at z1; cases z1)], f1, l1, H, m1⟩
      · rw [show (0 : Int32) = nI 0 from rfl, nI_eq hs2 (by omega)] at q
        refine eB.i (fun q2 => ?_) (fun q2 => ?_)
        · rw [and1 hf, show (1 : Int32) = nI 1 from rfl, nI_eq (by omega) (by omega)] at q2
          exact both _ ec q (Or.inl q2)
        · rw [and1 hf, show (1 : Int32) = nI 1 from rfl, nI_eq (by omega) (by omega)] at q2
          refine eB.i (fun q3 => ?_) (fun q3 => ?_)
          · rw [nI_eq hf hs2] at q3
            exact both _ ec q (Or.inr q3)
          · rw [nI_eq hf hs2] at q3
            rw [rise, if_neg q, if_neg (by omega)] at he
            refine eG.i m1.obj rfl ?_
            have hc := c_M_joined (i := 7) (j := i) (a := 32 * 2) (b := s + (rS + 32 + 32 * kk)) (p := 2) m1 rfl (by decide) (by decide) (by decide) (by decide) bi (by omega) i31 (by omega) hi (by omega)
            rw [← ec] at hc
            refine ⟨rfl, Nat.le_of_ble_eq_true rfl, ?_⟩
            refine eV.i m1.obj ?_
            refine eC.z (hc) ⟨rfl, rfl⟩ ⟨Nat.le_of_ble_eq_true rfl, Nat.le_of_ble_eq_true rfl⟩ ⟨Nat.zero_le _, Nat.zero_le _⟩ (fun v S2 hk => ?_)
            obtain ⟨rfl, f2, l2, m2⟩ := hk
            rw [up_up, up_s, up_n (show i ≠ 7 by omega), ep] at m2
            refine tail f s2 _ _ _ _ S2 l2 hf hs2 rfl rfl (f1.tr f2) m2 ?_
            rw [he, hset_ne (by omega), hset_seg (nh_len _ _)]
            congr 1
  refine mCon.of (I := miX8 false (some .boolean)) (by decide) rfl rfl (fun h => by cases h) (fun _ => rfl) (Nat.le_of_ble_eq_true rfl) ?_
  show Gd _ _ _ _ _ _ _ _ 0 [(0, .ref M), (1, .int m), (2, .int n), (3, .ref (M + i)), (4, .int (nI (s + rS))), (5, .int (nI (s + rS + 32))), (6, .int (nI h)), (7, .ref (M + j)), (8, .int (nI u))] [] (0, 0) _
  have hkeep : Md G S M (va_up A 7 (A 7)) l nl nn nd := by rw [up_same]; exact hd
  have nul : prf row rS h m n = none → ldK G S M A l nl nn nd (∃ root, prf row rS h m n = some root ∧ ∀ k, k < 32 → root.getD k 0 = A j (u + k)) (some (.int 0)) S := fun z => ⟨by rw [pI_f (fun w => by obtain ⟨r, z1, -⟩ := w; rw [z] at z1; cases z1)], fr.rf, l, _, hkeep⟩
  by_cases hm : m ≤ 0
  · refine Gd.of (ckX8 _ _) tX8_leads_ok (cuts := ldC) 80 ?_
    refine eB.t hm ?_
    exact eR.f (nul (by rw [prf, if_pos (Or.inl hm)]))
  by_cases hn : n ≤ m
  · refine Gd.of (ckX8 _ _) tX8_leads_ok (cuts := ldC) 80 ?_
    refine eB.f hm ?_
    refine eB.t hn ?_
    exact eR.f (nul (by rw [prf, if_pos (Or.inr (Or.inl hn))]))
  by_cases hh : h = 0
  · refine Gd.of (ckX8 _ _) tX8_leads_ok (cuts := ldC) 80 ?_
    refine eB.f hm ?_
    refine eB.f hn ?_
    refine eB.t (by rw [hh]; rfl) ?_
    exact eR.f (nul (by rw [prf, if_pos (Or.inr (Or.inr hh))]))
  have hpf : prf row rS h m n = prf2 row rS (rise row (if pw m then h else h - 1) (if pw m then rS + 32 else rS + 64) (part row (if pw m then rS else rS + 32) 32) (part row (if pw m then rS else rS + 32) 32) (sO 32 (m - 1).toInt.toNat (n - 1).toInt.toNat).1 (sO 32 (m - 1).toInt.toNat (n - 1).toInt.toNat).2) := by
    rw [prf, if_neg (by rintro (z | z | z); exact hm z; exact hn z; exact hh z)]
    rfl
  have hm' : 0 < m.toInt := by
    rw [Int32.le_iff_toInt_le] at hm
    have : (0 : Int32).toInt = 0 := rfl
    omega
  have hn' : m.toInt < n.toInt := by
    rw [Int32.le_iff_toInt_le] at hn
    omega
  have rm := i_range m
  have rn := i_range n
  have e1i : (1 : Int32).toInt = 1 := rfl
  have em1 : (m - 1).toInt = m.toInt - 1 := by rw [i_sub (by omega) (by omega), e1i]
  have en1 : (n - 1).toInt = n.toInt - 1 := by rw [i_sub (by omega) (by omega), e1i]
  have em2 : m - 1 = nI (m - 1).toInt.toNat := i_of (by omega)
  have en2 : n - 1 = nI (n - 1).toInt.toNat := i_of (by omega)
  have hh0 : ¬ nI h = 0 := by
    rw [show (0 : Int32) = nI 0 from rfl, nI_eq (by omega) (by omega)]
    exact hh
  -- the starts
  have k49 : ∀ (f s2 : Nat) (x9 x10 : Int32), f < 2 ^ 31 → s2 < 2 ^ 31 → x9 = nI f → x10 = nI s2 → (sO 32 (m - 1).toInt.toNat (n - 1).toInt.toNat) = (f, s2) →
      Gd G (miX8 false (some .boolean)) cX8_leads 14 (rmD 4) 0 0 (ldK G S M A l nl nn nd (∃ root, prf row rS h m n = some root ∧ ∀ k, k < 32 → root.getD k 0 = A j (u + k))) 49 [(0, .ref M), (1, .int m), (2, .int n), (3, .ref (M + i)), (4, .int (nI (s + rS))), (5, .int (nI (s + rS + 32))), (6, .int (nI h)), (7, .ref (M + j)), (8, .int (nI u)), (9, .int x9), (10, .int x10)] [] (0, 0) S := by
    intro f s2 x9 x10 hf hs2 e9 e10 he
    rw [he] at hpf
    subst e9 e10
    refine Gd.of (ckX8 _ _) tX8_leads_ok (cuts := ldC) 80 ?_
    by_cases hp : pw m
    · rw [if_pos hp, if_pos hp, if_pos hp] at hpf
      refine eB.t hp ?_
      refine eB.f (by decide) ?_
      refine ⟨rfl, Nat.le_of_ble_eq_true rfl, ?_⟩
      refine eV.i hd.obj ?_
      refine eC.z (c_M_copies (p := 1) (a := s + rS) hd bi i7 i31 (by omega) hi (by omega)) ⟨rfl, rfl⟩ ⟨Nat.le_of_ble_eq_true rfl, Nat.le_of_ble_eq_true rfl⟩ ⟨Nat.zero_le _, Nat.zero_le _⟩ (fun v S1 hk => ?_)
      obtain ⟨rfl, f1, m1⟩ := hk
      refine eB.f (by decide) ?_
      refine ⟨rfl, Nat.le_of_ble_eq_true rfl, ?_⟩
      refine eV.i m1.obj ?_
      refine eC.z (c_M_copies (p := 2) (a := s + rS) m1 bi i7 i31 (by omega) hi (by omega)) ⟨rfl, rfl⟩ ⟨Nat.le_of_ble_eq_true rfl, Nat.le_of_ble_eq_true rfl⟩ ⟨Nat.zero_le _, Nat.zero_le _⟩ (fun v S2 hk => ?_)
      obtain ⟨rfl, f2, m2⟩ := hk
      rw [up_up, up_s, up_n (show i ≠ 7 by omega), hpart rS (by omega)] at m2
      refine eB.f (by decide) ?_
      refine k112 h 0 f s2 _ _ _ _ _ S2 l (by omega) hf hs2 rfl rfl rfl (f1.tr f2) m2 ?_
      rw [hpf, hset_ne (by omega), hset_seg (part_len (by omega)), hset_seg (part_len (by omega))]
    · rw [if_neg hp, if_neg hp, if_neg hp] at hpf
      refine eB.f hp ?_
      refine eB.t rfl ?_
      refine ⟨rfl, Nat.le_of_ble_eq_true rfl, ?_⟩
      refine eV.i hd.obj ?_
      refine eC.z (c_M_copies (p := 1) (a := s + rS + 32) hd bi i7 i31 (by omega) hi (by omega)) ⟨rfl, rfl⟩ ⟨Nat.le_of_ble_eq_true rfl, Nat.le_of_ble_eq_true rfl⟩ ⟨Nat.zero_le _, Nat.zero_le _⟩ (fun v S1 hk => ?_)
      obtain ⟨rfl, f1, m1⟩ := hk
      refine eB.t rfl ?_
      refine ⟨rfl, Nat.le_of_ble_eq_true rfl, ?_⟩
      refine eV.i m1.obj ?_
      refine eC.z (c_M_copies (p := 2) (a := s + rS + 32) m1 bi i7 i31 (by omega) hi (by omega)) ⟨rfl, rfl⟩ ⟨Nat.le_of_ble_eq_true rfl, Nat.le_of_ble_eq_true rfl⟩ ⟨Nat.zero_le _, Nat.zero_le _⟩ (fun v S2 hk => ?_)
      obtain ⟨rfl, f2, m2⟩ := hk
      rw [up_up, up_s, up_n (show i ≠ 7 by omega), Nat.add_assoc s rS 32, hpart (rS + 32) (by omega)] at m2
      refine eB.t rfl ?_
      refine k112 (h - 1) 1 f s2 _ _ _ _ _ S2 l (by omega) hf hs2 rfl rfl rfl (f1.tr f2) m2 ?_
      rw [hpf, hset_ne (by omega), hset_seg (part_len (by omega)), hset_seg (part_len (by omega))]
  have k26 : ∀ (q f s2 : Nat) (x9 x10 : Int32), f < 2 ^ q → f < 2 ^ 31 → s2 < 2 ^ 31 → x9 = nI f → x10 = nI s2 → (sO 32 (m - 1).toInt.toNat (n - 1).toInt.toNat) = sO q f s2 →
      Gd G (miX8 false (some .boolean)) cX8_leads 14 (rmD 4) 0 0 (ldK G S M A l nl nn nd (∃ root, prf row rS h m n = some root ∧ ∀ k, k < 32 → root.getD k 0 = A j (u + k))) 26 [(0, .ref M), (1, .int m), (2, .int n), (3, .ref (M + i)), (4, .int (nI (s + rS))), (5, .int (nI (s + rS + 32))), (6, .int (nI h)), (7, .ref (M + j)), (8, .int (nI u)), (9, .int x9), (10, .int x10)] [] (0, 0) S := by
    intro q
    induction q with
    | zero =>
      intro f s2 x9 x10 hq hf hs2 e9 e10 he
      have e0 : f = 0 := by have : f < 1 := hq; omega
      subst e0
      subst e9 e10
      refine Gd.of (ckX8 _ _) tX8_leads_ok (cuts := ldC) 80 ?_
      refine eB.f (by decide) ?_
      exact k49 0 s2 _ _ hf hs2 rfl rfl he
    | succ q ih2 =>
      intro f s2 x9 x10 hq hf hs2 e9 e10 he
      subst e9 e10
      have e4 : 2 ^ (q + 1) = 2 ^ q * 2 := Nat.pow_succ 2 q
      refine Gd.of (ckX8 _ _) tX8_leads_ok (cuts := ldC) 80 ?_
      refine eB.i (fun z => ?_) (fun z => ?_)
      · rw [and1 hf, show (1 : Int32) = nI 1 from rfl, nI_eq (by omega) (by omega)] at z
        rw [show sO (q + 1) f s2 = sO q (f / 2) (s2 / 2) from if_pos z] at he
        exact ih2 (f / 2) (s2 / 2) _ _ (by omega) (by omega) (by omega) (shr1 hf) (shr1 hs2) he
      · rw [and1 hf, show (1 : Int32) = nI 1 from rfl, nI_eq (by omega) (by omega)] at z
        rw [show sO (q + 1) f s2 = (f, s2) from if_neg z] at he
        exact k49 f s2 _ _ hf hs2 rfl rfl he
  refine Gd.of (ckX8 _ _) tX8_leads_ok (cuts := ldC) 80 ?_
  refine eB.f hm ?_
  refine eB.f hn ?_
  refine eB.f hh0 ?_
  exact k26 32 (m - 1).toInt.toNat (n - 1).toInt.toNat _ _ (by omega) (by omega) (by omega) em2 en2 rfl
end LDS
