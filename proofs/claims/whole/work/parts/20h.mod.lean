/-! the reference's looks at rows -/
theorem part_getD {row : List Int32} {a n j : Nat} (hj : j < n) : (part row a n).getD j 0 = row.getD (a + j) 0 := by
  rw [part, List.getD_eq_getElem?_getD, List.getD_eq_getElem?_getD, List.getElem?_take_of_lt hj, List.getElem?_drop]
def bl (l : List Int32) : Prop := ∀ j, isB (l.getD j 0)
theorem rAt_n {l : List Int32} {j : Nat} (h : j < l.length) (hj : j < 100000) : rAt l (nI j) = l.getD j 0 &&& 255 := by
  have e := nI_toInt (n := j) (by omega)
  rw [rAt, if_pos (by omega), e]
  rfl
theorem same_iff {a b : List Int32} {i j n : Nat} (ha : i + n ≤ a.length) (hb : j + n ≤ b.length) (h1 : bl a) (h2 : bl b) (hi : i + n < 100000) (hj : j + n < 100000) : same a i b j n ↔ ∀ k, k < n → a.getD (i + k) 0 = b.getD (j + k) 0 := by
  constructor
  · intro h k hk
    have e := h k hk
    rw [rAt_n (by omega) (by omega), rAt_n (by omega) (by omega)] at e
    exact (and255_inj (h1 _) (h2 _)).mp e
  · intro h k hk
    rw [rAt_n (by omega) (by omega), rAt_n (by omega) (by omega), h k hk]
section LOOK
variable {G : mG} {S S' : mS} {M nl nn nd p : Nat} {A A' : AA} {l t : List Int32} {k : Int32} {K : List Int32}
theorem c_M_number {i s : Nat} (h : Md G S M A l nl nn nd) (bi : mdB i = true) (i6 : 6 < i) (i31 : i ≤ 31) (hs : s + 4 ≤ mdN i) (hm : mdN i ≤ 24000) :
    mCon G yX8_number cX8_number 2 (some .int) (rmD 0) [.ref (M + i), .int (nI s)] S (fun v S' => S' = S ∧ v = some (.int (nu4 (A i) s))) := by
  have e2 : nI s + 2 = nI (s + 2) := nI_add s 2
  have e3 : nI s + 3 = nI (s + 3) := nI_add s 3
  have e1 : nI s + 1 = nI (s + 1) := nI_1 s
  refine mCon.of (I := miX8 false (some .int)) (by decide) rfl rfl (fun h => by cases h) (fun _ => rfl) (Nat.le_of_ble_eq_true rfl) ?_
  show Gd _ _ _ _ _ _ _ _ 0 [(0, .ref (M + i)), (1, .int (nI s))] [] (0, 0) _
  refine Gd.of (ckX8 _ _) tX8_number_ok (cuts := fun _ => none) 60 ?_
  refine eLb.i (i := nI s) (h.b bi i6 i31) (vp_in_nI (by omega) (by omega)) ?_
  refine eLb.i (i := nI s + 1) (h.b bi i6 i31) (by rw [e1]; exact vp_in_nI (by omega) (by omega)) ?_
  refine eLb.i (i := nI s + 2) (h.b bi i6 i31) (by rw [e2]; exact vp_in_nI (by omega) (by omega)) ?_
  refine eLb.i (i := nI s + 3) (h.b bi i6 i31) (by rw [e3]; exact vp_in_nI (by omega) (by omega)) ?_
  refine eR.int ⟨rfl, ?_⟩
  rw [e1, e2, e3, nI_clamp (by omega), nI_clamp (by omega), nI_clamp (by omega), nI_clamp (by omega)]
  rfl
theorem c_M_isSame {i j s u n : Nat} (h : Md G S M A l nl nn nd) (bi : mdB i = true) (i6 : 6 < i) (i31 : i ≤ 31) (hs : s + n ≤ mdN i) (hi : mdN i ≤ 24000) (bj : mdB j = true) (j6 : 6 < j) (j31 : j ≤ 31) (hu : u + n ≤ mdN j) (hj : mdN j ≤ 24000) :
    mCon G yX8_isSame cX8_isSame 6 (some .boolean) (rmD 0) [.ref (M + i), .int (nI s), .ref (M + j), .int (nI u), .int (nI n)] S (fun v S' => S' = S ∧ v = some (.int (pI (∀ k, k < n → A i (s + k) = A j (u + k))))) := by
  refine mCon.of (I := miX8 false (some .boolean)) (by decide) rfl rfl (fun h => by cases h) (fun _ => rfl) (Nat.le_of_ble_eq_true rfl) ?_
  show Gd _ _ _ _ _ _ _ _ 0 [(0, .ref (M + i)), (1, .int (nI s)), (2, .ref (M + j)), (3, .int (nI u)), (4, .int (nI n))] [] (0, 0) _
  have key : ∀ (d k : Nat) (x : Int32), k + d = n → x = nI k → (∀ q, q < k → A i (s + q) = A j (u + q)) → Gd G (miX8 false (some .boolean)) cX8_isSame 6 (rmD 0) 0 0 (fun v S' => S' = S ∧ v = some (.int (pI (∀ k, k < n → A i (s + k) = A j (u + k))))) 3 [(0, .ref (M + i)), (1, .int (nI s)), (2, .ref (M + j)), (3, .int (nI u)), (4, .int (nI n)), (5, .int x)] [] (0, 0) S := by
    intro d
    induction d with
    | zero =>
      intro k x hk hx hq
      subst hx
      have e : k = n := by omega
      subst e
      refine Gd.of (ckX8 _ _) tX8_isSame_ok (cuts := lf 3 6) 60 ?_
      refine eB.t (by rw [nI_leI (by omega) (by omega)]; omega) ?_
      exact eR.t ⟨rfl, by rw [pI_t hq]⟩
    | succ d ih =>
      intro k x hk hx hq
      subst hx
      have e1 : nI s + nI k = nI (s + k) := nI_add _ _
      have e2 : nI u + nI k = nI (u + k) := nI_add _ _
      refine Gd.of (ckX8 _ _) tX8_isSame_ok (cuts := lf 3 6) 60 ?_
      refine eB.f (by rw [nI_leI (by omega) (by omega)]; omega) ?_
      refine eLb.i (i := nI s + nI k) (h.b bi i6 i31) (by rw [e1]; exact vp_in_nI (by omega) (by omega)) ?_
      refine eLb.i (i := nI u + nI k) (h.b bj j6 j31) (by rw [e2]; exact vp_in_nI (by omega) (by omega)) ?_
      rw [e1, e2, nI_clamp (by omega), nI_clamp (by omega)]
      refine eB.i (fun q => ?_) (fun q => ?_)
      · refine ih (k + 1) _ (by omega) (nI_1 k) (fun z hz => ?_)
        by_cases e : z = k
        · rw [e]; exact q
        · exact hq z (by omega)
      · exact eR.f ⟨rfl, by rw [pI_f (fun z => q (z k (by omega)))]⟩
  refine Gd.of (ckX8 _ _) tX8_isSame_ok (cuts := lf 3 6) 60 ?_
  exact key n 0 _ (by omega) rfl (fun q hq => absurd hq (Nat.not_lt_zero q))
theorem c_M_copies {i a : Nat} (h : Md G S M A l nl nn nd) (bi : mdB i = true) (i7 : 7 < i) (i31 : i ≤ 31) (ha : a + 32 ≤ mdN i) (hi : mdN i ≤ 24000) (hp : p ≤ 23) :
    mCon G yX8_copies cX8_copies 5 none (rmD 0) [.ref M, .ref (M + i), .int (nI a), .int (nI p)] S (fun v S' => v = none ∧ fr S S' (xD M) ∧ Md G S' M (va_up A 7 (hset (A 7) p (seg (A i) a 32))) l nl nn nd) := by
  refine mCon.of (I := miX8 false none) (by decide) rfl rfl (fun h => by cases h) (fun _ => rfl) (Nat.le_of_ble_eq_true rfl) ?_
  show Gd _ _ _ _ _ _ _ _ 0 [(0, .ref M), (1, .ref (M + i)), (2, .int (nI a)), (3, .int (nI p))] [] (0, 0) _
  have ef : va_cpy (A i) (A 7) a (32 * p) 32 = hset (A 7) p (seg (A i) a 32) := by
    funext j
    unfold hset
    by_cases q : 32 * p ≤ j ∧ j < 32 * p + 32
    · rw [if_pos q, pk_cpy_in q.1 q.2, seg_getD _ _ _ _ (by omega)]
    · rw [if_neg q, pk_cpy_out (by omega)]
  rw [← ef]
  have key : ∀ (d k : Nat) (x : Int32) (S1 : mS), k + d = 32 → x = nI k → fr S S1 (xD M) → Md G S1 M (va_up A 7 (va_cpy (A i) (A 7) a (32 * p) k)) l nl nn nd → Gd G bkI cX8_copies 5 (rmD 0) 0 0 (fun v S' => v = none ∧ fr S S' (xD M) ∧ Md G S' M (va_up A 7 (va_cpy (A i) (A 7) a (32 * p) 32)) l nl nn nd) 3 [(0, .ref M), (1, .ref (M + i)), (2, .int (nI a)), (3, .int (nI p)), (4, .int x)] [] (0, 0) S1 := by
    intro d
    induction d with
    | zero =>
      intro k x S1 hk hx f1 m1
      subst hx
      have e : k = 32 := by omega
      subst e
      refine Gd.of (ckX8 _ _) tX8_copies_ok (cuts := lf 3 5) 60 ?_
      refine eB.t (by decide) ?_
      exact eR.v ⟨rfl, f1, m1⟩
    | succ d ih =>
      intro k x S1 hk hx f1 m1
      subst hx
      have e1 : nI a + nI k = nI (a + k) := nI_add _ _
      have e2 : 32 * nI p + nI k = nI (32 * p + k) := by rw [show (32 : Int32) = nI 32 from rfl, pk_mul, nI_add]
      refine Gd.of (ckX8 _ _) tX8_copies_ok (cuts := lf 3 5) 60 ?_
      refine eB.f (by rw [show (32 : Int32) = nI 32 from rfl, nI_leI (by omega) (by omega)]; omega) ?_
      refine eG.i m1.obj rfl ?_
      refine eLb.i (i := nI a + nI k) (m1.b bi (by omega) i31) (by rw [e1]; exact vp_in_nI (by omega) (by omega)) ?_
      refine eSb.i (i := 32 * nI p + nI k) m1.a7 (by rw [e2]; exact vp_in_nI (by omega) (by omega)) ?_
      have eb : (A i (a + k)).toInt8.toInt32 = A i (a + k) := h.isb bi (by omega) _
      rw [e1, e2, nI_clamp (by omega), nI_clamp (by omega), up_n (show i ≠ 7 by omega), up_s, eb, cpy_succ]
      have m2 := m1.s7 (f := va_cpy (A i) (A 7) a (32 * p) (k + 1)) (fun j => by
        unfold va_cpy
        split
        · exact h.isb bi (by omega) _
        · exact h.isb rfl (by decide) _)
      rw [up_up] at m2
      exact ih (k + 1) _ _ (by omega) (nI_1 k) (f1.tr (xD_up (by omega))) m2
  refine Gd.of (ckX8 _ _) tX8_copies_ok (cuts := lf 3 5) 60 ?_
  exact key 32 0 _ S (by omega) rfl fr.rf (by rw [cpy_0, up_same]; exact h)
/-- the SIGN of a head's 45 bytes that stand in a row of the reference -/
theorem c_M_isSigned {i s : Nat} {row : List Int32} (h : Md G S M A l nl nn nd) (hK : RK A K) (bK : bl K) (bi : mdB i = true) (i7 : 7 < i) (i31 : i ≤ 31) (hs : s + 45 ≤ mdN i) (hi : mdN i ≤ 24000) (hl : row.length = 45) (hr : ∀ j, j < 45 → A i (s + j) = row.getD j 0) :
    mCon G yX8_isSigned cX8_isSigned 3 (some .boolean) (rmD 4) [.ref M, .ref (M + i), .int (nI s)] S (fun v S' => v = some (.int (pI (signed K row 0 1))) ∧ fr S S' (xD M) ∧ ∃ l' H, Md G S' M (va_up A 7 H) l' nl nn nd) := by
  have h0 : A i s = row.getD 0 0 := hr 0 (by omega)
  have hb0 : isB (row.getD 0 0) := by rw [← h0]; exact h.isb bi (by omega) _
  have bR : bl row := by
    intro j
    by_cases q : j < 45
    · rw [← hr j q]; exact h.isb bi (by omega) _
    · rw [List.getD_eq_getElem?_getD, List.getElem?_eq_none (by omega)]; exact isB_0
  obtain ⟨b1, b2⟩ := in03 hb0
  have ea0 := rAt_0n (l := row) (by omega)
  have hkeep : Md G S M (va_up A 7 (A 7)) l nl nn nd := by rw [up_same]; exact h
  have e0 : (0 : Int32).toInt = 0 := rfl
  have e3 : (3 : Int32).toInt = 3 := rfl
  have en : nu4 (A i) (s + 1) = num4 row 1 := nu4_eq (fun k hk => by rw [Nat.add_assoc]; exact hr _ (by omega))
  have ern : rNum row (nI 1) = num4 row 1 := rNum_n (by omega) (by omega)
  refine mCon.of (I := miX8 false (some .boolean)) (by decide) rfl rfl (fun h => by cases h) (fun _ => rfl) (Nat.le_of_ble_eq_true rfl) ?_
  show Gd _ _ _ _ _ _ _ _ 0 [(0, .ref M), (1, .ref (M + i)), (2, .int (nI s))] [] (0, 0) _
  refine Gd.of (ckX8 _ _) tX8_isSigned_ok (cuts := fun _ => none) 60 ?_
  refine eLb.i (i := nI s) (h.b bi (by omega) i31) (vp_in_nI (by omega) (by omega)) ?_
  rw [nI_clamp (by omega), h0]
  refine ⟨Nat.le_of_ble_eq_true rfl, ?_⟩
  refine eC.z (c_M_in) ⟨rfl, rfl⟩ ⟨Nat.le_of_ble_eq_true rfl, Nat.le_of_ble_eq_true rfl⟩ ⟨Nat.zero_le _, Nat.zero_le _⟩ (fun v S1 hk => ?_)
  obtain ⟨rfl, rfl⟩ := hk
  have hno : (¬ (0 ≤ (row.getD 0 0).toInt ∧ (row.getD 0 0).toInt ≤ 3) ∨ (num4 row 1).toInt < 0) → ¬ signed K row 0 1 := by
    intro z q
    obtain ⟨g, g1, g2, g3, -⟩ := q
    have g2' : rAt row 0 = nI g := g2
    rcases z with z | z
    · apply z
      apply b1.mp
      rw [← ea0, g2', nI_toInt (by omega)]
      omega
    · rw [ern] at g3
      omega
  by_cases hc : (0 : Int32).toInt ≤ (row.getD 0 0).toInt ∧ (row.getD 0 0).toInt ≤ (3 : Int32).toInt
  · rw [pI_t hc]
    refine eB.f (by decide) ?_
    have hcn := c_M_number (s := s + 1) h bi (by omega) i31 (by omega) hi
    rw [← nI_1] at hcn
    refine ⟨Nat.le_of_ble_eq_true rfl, ?_⟩
    refine eC.z (hcn) ⟨rfl, rfl⟩ ⟨Nat.le_of_ble_eq_true rfl, Nat.le_of_ble_eq_true rfl⟩ ⟨Nat.zero_le _, Nat.zero_le _⟩ (fun v S1 hk => ?_)
    obtain ⟨rfl, rfl⟩ := hk
    rw [en]
    refine eB.i (fun q => ?_) (fun q => ?_)
    · rw [i_ge0] at q
      have eg : row.getD 0 0 = nI (row.getD 0 0).toInt.toNat := i_of (by omega)
      refine ⟨rfl, Nat.le_of_ble_eq_true rfl, ?_⟩
      refine eV.i h.obj ?_
      refine eC.z (c_M_signs (s := s) (g := (row.getD 0 0).toInt.toNat) (p := 0) h bi (by omega) i31 (by omega) hi (by omega) (by omega) (h0.trans eg)) ⟨rfl, rfl⟩ ⟨Nat.le_of_ble_eq_true rfl, Nat.le_of_ble_eq_true rfl⟩ ⟨Nat.zero_le _, Nat.zero_le _⟩ (fun v S5 hk => ?_)
      obtain ⟨rfl, f5, l5, m5⟩ := hk
      have esg : seg (A i) s 37 = part row 0 37 := by
        have := seg_part (f := A i) (s := s) (a := 0) (n := 37) (l := row) (fun j hj => hr j (by omega)) (by omega)
        rw [Nat.add_zero] at this
        exact this
      rw [seg_key hK (by omega), esg, sgn_eq (by omega) eg] at m5
      refine eG.i m5.obj rfl ?_
      have hcs := c_M_isSame (i := 7) (j := i) (s := 0) (u := s + 37) (n := 8) m5 rfl (by decide) (by decide) (by decide) (by decide) bi (by omega) i31 (by omega) hi
      rw [← nI_add s 37] at hcs
      refine ⟨Nat.le_of_ble_eq_true rfl, ?_⟩
      refine eC.z (hcs) ⟨rfl, rfl⟩ ⟨Nat.le_of_ble_eq_true rfl, Nat.le_of_ble_eq_true rfl⟩ ⟨Nat.zero_le _, Nat.zero_le _⟩ (fun v S6 hk => ?_)
      obtain ⟨rfl, rfl⟩ := hk
      have eqv : (∀ k, k < 8 → va_up A 7 (hset (A 7) 0 (sgn K (row.getD 0 0).toInt.toNat (part row 1 36))) 7 (0 + k) = va_up A 7 (hset (A 7) 0 (sgn K (row.getD 0 0).toInt.toNat (part row 1 36))) i (s + 37 + k)) ↔ signed K row 0 1 := by
        have dl : (sgn K (row.getD 0 0).toInt.toNat (part row 1 36)).length = 32 := sha_len _
        have db : bl (sgn K (row.getD 0 0).toInt.toNat (part row 1 36)) := by
          intro j
          by_cases q : j < 32
          · have := m5.isb (i := 7) rfl (by decide) j
            rw [up_s, hset, if_pos (by omega)] at this
            exact this
          · rw [List.getD_eq_getElem?_getD, List.getElem?_eq_none (by omega)]; exact isB_0
        have hsi := same_iff (a := sgn K (row.getD 0 0).toInt.toNat (part row 1 36)) (b := row) (i := 0) (j := 37) (n := 8) (by omega) (by omega) db bR (by omega) (by omega)
        have h1 : (∀ k, k < 8 → va_up A 7 (hset (A 7) 0 (sgn K (row.getD 0 0).toInt.toNat (part row 1 36))) 7 (0 + k) = va_up A 7 (hset (A 7) 0 (sgn K (row.getD 0 0).toInt.toNat (part row 1 36))) i (s + 37 + k)) ↔ ∀ k, k < 8 → (sgn K (row.getD 0 0).toInt.toNat (part row 1 36)).getD (0 + k) 0 = row.getD (37 + k) 0 := by
          constructor
          · intro z k hk
            have := z k hk
            rw [up_s, up_n (by omega), hset, if_pos (by omega), Nat.add_assoc, hr _ (by omega)] at this
            exact this
          · intro z k hk
            rw [up_s, up_n (by omega), hset, if_pos (by omega), Nat.add_assoc, hr _ (by omega)]
            exact z k hk
        rw [h1, ← hsi]
        constructor
        · intro z
          refine ⟨(row.getD 0 0).toInt.toNat, by omega, ?_, ?_, z⟩
          · show rAt row 0 = _
            rw [ea0, b2 (by omega)]
            exact eg
          · rw [ern]; exact q
        · intro z
          obtain ⟨g, g1, g2, g3, g4⟩ := z
          have g2' : rAt row 0 = nI g := g2
          rw [ea0, b2 (by omega)] at g2'
          have : (row.getD 0 0).toInt.toNat = g := by rw [g2', nI_toInt (by omega)]; omega
          rw [this]
          exact g4
      refine eR.z (pI_or _) ⟨?_, f5, l5, _, m5⟩
      congr 2
      by_cases z : signed K row 0 1
      · rw [pI_t z, pI_t (eqv.mpr z)]
      · rw [pI_f z, pI_f (fun w => z (eqv.mp w))]
    · rw [i_ge0] at q
      exact eR.f ⟨by rw [pI_f (hno (Or.inr (by omega)))], fr.rf, l, _, hkeep⟩
  · rw [pI_f hc]
    refine eB.t rfl ?_
    exact eR.f ⟨by rw [pI_f (hno (Or.inl hc))], fr.rf, l, _, hkeep⟩
end LOOK
