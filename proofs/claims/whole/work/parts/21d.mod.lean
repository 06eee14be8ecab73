/-! the reference takes a proof -/
section TPA
variable {G : mG} {S S' : mS} {M nl nn nd m q : Nat} {A A' : AA} {l t : List Int32} {o : Mo} {k : Int32}
theorem Wr.am (h : Wr A q k t) (g : Am A A' m) : Wr A' q k t := h.cong (g.1 11 (by decide) (by decide)) (g.1 12 (by decide) (by decide)) (g.1 13 (by decide) (by decide))
theorem c_M_isOther {i : Nat} (h : Md G S M A l nl nn nd) (hR : RM1 A m o) (hm : m < 4) (hi : i < o.1.1) (hl : (o.2.1 i).length = 45) (hq : q < 60) (hw : Wr A q k t) (ht : 41 ≤ t.length) :
    mCon G yX8_isOther cX8_isOther 6 (some .boolean) (rmD 1) [.ref M, .int (nI m), .int (nI i), .int (nI q)] S (fun v S' => S' = S ∧ v = some (.int (pI (bel (o.2.1 i) t)))) := by
  obtain ⟨⟨z1, z2, z3⟩, -, h3, -, -⟩ := hR
  have b4 := h3 i hi
  obtain ⟨w1, w2, w3, w4⟩ := hw
  have bR : bl (o.2.1 i) := h.bl (q := 16) (a := 900 * m + 45 * i) rfl (by decide) (fun x hx => b4 x (by omega))
  have bP : bl t := h.bl (q := 11) (a := 400 * q) rfl (by decide) w4
  have hA0 : A 16 (900 * m + 45 * i) = (o.2.1 i).getD 0 0 := b4 0 (by omega)
  have hr0 : A 11 (400 * q) = t.getD 0 0 := w4 0 (by omega)
  have e4 : 400 * nI q = nI (400 * q) := by rw [show (400 : Int32) = nI 400 from rfl, pk_mul]
  refine mCon.of (I := miX8 false (some .boolean)) (by decide) rfl rfl (fun h => by cases h) (fun _ => rfl) (Nat.le_of_ble_eq_true rfl) ?_
  show Gd _ _ _ _ _ _ _ _ 0 [(0, .ref M), (1, .int (nI m)), (2, .int (nI i)), (3, .int (nI q))] [] (0, 0) _
  refine Gd.of (ckX8 _ _) tX8_isOther_ok (cuts := fun _ => none) 60 ?_
  refine ⟨Nat.le_of_ble_eq_true rfl, ?_⟩
  refine eC.z (c_M_headAt) ⟨rfl, rfl⟩ ⟨Nat.le_of_ble_eq_true rfl, Nat.le_of_ble_eq_true rfl⟩ ⟨Nat.zero_le _, Nat.zero_le _⟩ (fun v S1 hk => ?_)
  obtain ⟨rfl, rfl⟩ := hk
  refine eG.i h.obj rfl ?_
  refine eLb.i (i := nI (900 * m + 45 * i)) h.a16 (vp_in_nI (by omega) (by omega)) ?_
  refine eG.i h.obj rfl ?_
  refine eLb.i (i := 400 * nI q) h.a11 (by rw [e4]; exact vp_in_nI (by omega) (by omega)) ?_
  rw [show A 11 (400 * nI q).toNatClampNeg = t.getD 0 0 from by rw [e4, nI_clamp (by omega), hr0], nI_clamp (by omega), hA0]
  refine eB.i (fun z => ?_) (fun z => ?_)
  · refine eG.i h.obj rfl ?_
    refine eG.i h.obj rfl ?_
    have hc := c_M_isSame (i := 16) (j := 11) (s := 900 * m + 45 * i + 1) (u := 400 * q + 1) (n := 4) h rfl (by decide) (by decide) (by show 900 * m + 45 * i + 1 + 4 ≤ 3600; omega) (by decide) rfl (by decide) (by decide) (by show 400 * q + 1 + 4 ≤ 24000; omega) (by decide)
    rw [← nI_1 (900 * m + 45 * i), ← nI_1 (400 * q), ← e4] at hc
    refine ⟨Nat.le_of_ble_eq_true rfl, ?_⟩
    refine eC.z (hc) ⟨rfl, rfl⟩ ⟨Nat.le_of_ble_eq_true rfl, Nat.le_of_ble_eq_true rfl⟩ ⟨Nat.zero_le _, Nat.zero_le _⟩ (fun v S1 hk => ?_)
    obtain ⟨rfl, rfl⟩ := hk
    have e5 : same (o.2.1 i) 0 t 0 5 ↔ ∀ k, k < 4 → A 16 (900 * m + 45 * i + 1 + k) = A 11 (400 * q + 1 + k) := by
      rw [same5 (by omega) (by omega) bR bP]
      constructor
      · intro y k hk
        rw [Nat.add_assoc, b4 _ (by omega), Nat.add_assoc, w4 _ (by omega)]
        exact y.2 k hk
      · intro y
        refine ⟨z, fun k hk => ?_⟩
        have := y k hk
        rw [Nat.add_assoc, b4 _ (by omega), Nat.add_assoc, w4 _ (by omega)] at this
        exact this
    by_cases q5 : same (o.2.1 i) 0 t 0 5
    · rw [pI_t (e5.mp q5)]
      refine eB.f (by decide) ?_
      refine eG.i h.obj rfl ?_
      refine eG.i h.obj rfl ?_
      have hc := c_M_isSame (i := 16) (j := 11) (s := 900 * m + 45 * i + 5) (u := 400 * q + 9) (n := 32) h rfl (by decide) (by decide) (by show 900 * m + 45 * i + 5 + 32 ≤ 3600; omega) (by decide) rfl (by decide) (by decide) (by show 400 * q + 9 + 32 ≤ 24000; omega) (by decide)
      rw [← nI_add _ 5, ← nI_add (400 * q) 9, ← e4] at hc
      refine ⟨Nat.le_of_ble_eq_true rfl, ?_⟩
      refine eC.z (hc) ⟨rfl, rfl⟩ ⟨Nat.le_of_ble_eq_true rfl, Nat.le_of_ble_eq_true rfl⟩ ⟨Nat.zero_le _, Nat.zero_le _⟩ (fun v S1 hk => ?_)
      obtain ⟨rfl, rfl⟩ := hk
      have e32 : same (o.2.1 i) 5 t 9 32 ↔ ∀ k, k < 32 → A 16 (900 * m + 45 * i + 5 + k) = A 11 (400 * q + 9 + k) := by
        rw [same_iff (by omega) (by omega) bR bP (by omega) (by omega)]
        constructor
        · intro y k hk
          rw [Nat.add_assoc, b4 _ (by omega), Nat.add_assoc, w4 _ (by omega)]
          exact y k hk
        · intro y k hk
          have := y k hk
          rw [Nat.add_assoc, b4 _ (by omega), Nat.add_assoc, w4 _ (by omega)] at this
          exact this
      by_cases q32 : same (o.2.1 i) 5 t 9 32
      · rw [pI_t (e32.mp q32)]
        refine eB.f (by decide) ?_
        exact eR.f ⟨rfl, by rw [pI_f (fun z => z.2 q32)]⟩
      · rw [pI_f (fun z => q32 (e32.mpr z))]
        refine eB.t rfl ?_
        exact eR.t ⟨rfl, by rw [pI_t ⟨q5, q32⟩]⟩
    · rw [pI_f (fun z => q5 (e5.mpr z))]
      refine eB.t rfl ?_
      exact eR.f ⟨rfl, by rw [pI_f (fun z => q5 z.1)]⟩
  · refine eR.f ⟨rfl, ?_⟩
    rw [pI_f (fun y => z ((same5 (by omega) (by omega) bR bP).mp y.1).1)]
/-- what is noted of an answer -/
def ntA (A : AA) (m : Nat) (a b : Int32) : AA := va_up (va_up A 21 (upd (A 21) m a)) 22 (upd (A 22) m b)
theorem ntA_n {a b : Int32} {k : Nat} (x : k ≠ 21) (y : k ≠ 22) : ntA A m a b k = A k := (up_n y).trans (up_n x)
theorem ntA_21 {a b : Int32} : ntA A m a b 21 = upd (A 21) m a := (up_n (by decide)).trans (up_s _ _ _)
theorem ntA_22 {a b : Int32} : ntA A m a b 22 = upd (A 22) m b := up_s _ _ _
theorem Am.nt {a b : Int32} : Am A (ntA A m a b) m := by
  refine ⟨fun i _ b => ntA_n (by omega) (by omega), fun j _ => by rw [ntA_n (by decide) (by decide)], fun j _ => by rw [ntA_n (by decide) (by decide)], fun i a b j hj => ?_, fun i a b j _ => by rw [ntA_n (by omega) (by omega)], fun i a b j _ => by rw [ntA_n (by omega) (by omega)]⟩
  by_cases e : i = 22
  · rw [e, ntA_22, pk_un hj]
  · by_cases e2 : i = 21
    · rw [e2, ntA_21, pk_un hj]
    · rw [ntA_n e2 e]
theorem RM1.nt {a b : Int32} (h : RM1 A m o) : RM1 (ntA A m a b) m ((o.1.1, o.1.2.1, o.1.2.2.1, a, b), o.2.1, o.2.2.1, o.2.2.2.1, o.2.2.2.2) := by
  obtain ⟨h1, ⟨a1, a2, a3, a4, a5⟩, h3, h4, h5⟩ := h
  refine ⟨h1, ⟨?_, ?_, ?_, ?_, ?_⟩, fun i hi j hj => ?_, fun i hi => ?_, fun i hi => ?_⟩
  · rw [ntA_n (by decide) (by decide)]; exact a1
  · rw [ntA_n (by decide) (by decide)]; exact a2
  · rw [ntA_n (by decide) (by decide)]; exact a3
  · rw [ntA_21, pk_us]
  · rw [ntA_22, pk_us]
  · rw [ntA_n (by decide) (by decide)]; exact h3 i hi j hj
  · rw [ntA_n (by decide) (by decide), ntA_n (by decide) (by decide), ntA_n (by decide) (by decide)]; exact h4 i hi
  · rw [ntA_n (by decide) (by decide), ntA_n (by decide) (by decide), ntA_n (by decide) (by decide), ntA_n (by decide) (by decide)]; exact h5 i hi
theorem c_M_answered {x : Int32} (h : Md G S M A l nl nn nd) (hR : RM1 A m o) (hm : m < 4) :
    mCon G yX8_answered cX8_answered 3 (some .int) (rmD 0) [.ref M, .int (nI m), .int x] S (fun v S' => v = some (.int x) ∧ fr S S' (xD M) ∧ ∃ A', Md G S' M A' l nl nn nd ∧ Am A A' m ∧ RM1 A' m (ntM o x)) := by
  obtain ⟨⟨hn, fn, rn, nr, nc⟩, hF, pF, fH, rF⟩ := o
  have hin : vp_in (nI m) 4 := vp_in_nI (by omega) (by omega)
  have hcl : (nI m).toNatClampNeg = m := nI_clamp (by omega)
  have e21 : A 21 m = nr := hR.2.1.2.2.2.1
  have e22 : A 22 m = nc := hR.2.1.2.2.2.2
  have k19 : ∀ (a : Int32) (S1 : mS), a = nt x (-1) nr → fr S S1 (xD M) → Md G S1 M (va_up A 21 (upd (A 21) m a)) l nl nn nd → Gd G (miX8 false (some .int)) cX8_answered 3 (rmD 0) 0 0 (fun v S' => v = some (.int x) ∧ fr S S' (xD M) ∧ ∃ A', Md G S' M A' l nl nn nd ∧ Am A A' m ∧ RM1 A' m (ntM ((hn, fn, rn, nr, nc), hF, pF, fH, rF) x)) 19 [(0, .ref M), (1, .int (nI m)), (2, .int x)] [] (0, 0) S1 := by
    intro a S1 ha f1 m1
    subst ha
    have e22' : va_up A 21 (upd (A 21) m (nt x (-1) nr)) 22 = A 22 := up_n (by decide)
    refine Gd.of (ckX8 _ _) tX8_answered_ok (cuts := lf 19 3) 40 ?_
    refine eG.i m1.obj rfl ?_
    refine eL.i (i := nI m) m1.a22 hin ?_
    refine eB.i (fun z => ?_) (fun z => ?_)
    · refine eS.i (i := nI m) m1.a22 hin ?_
      have m2 := m1.s22 (f := upd (A 22) m (nt x (-3) nc))
      rw [e22', hcl, e22, show nc + 1 = nt x (-3) nc from (if_pos z).symm]
      exact eR.int ⟨rfl, f1.tr (xD_up (by omega)), ntA A m (nt x (-1) nr) (nt x (-3) nc), m2, Am.nt, hR.nt⟩
    · refine eS.i (i := nI m) m1.a22 hin ?_
      have m2 := m1.s22 (f := upd (A 22) m nc)
      rw [e22', hcl, e22, Int32.add_zero]
      refine eR.int ⟨rfl, f1.tr (xD_up (by omega)), ntA A m (nt x (-1) nr) nc, m2, Am.nt, ?_⟩
      have := hR.nt (a := nt x (-1) nr) (b := nc)
      show RM1 _ m ((hn, fn, rn, nt x (-1) nr, nt x (-3) nc), hF, pF, fH, rF)
      rw [show nt x (-3) nc = nc from if_neg z]
      exact this
  refine mCon.of (I := miX8 false (some .int)) (by decide) rfl rfl (fun h => by cases h) (fun _ => rfl) (Nat.le_of_ble_eq_true rfl) ?_
  show Gd _ _ _ _ _ _ _ _ 0 [(0, .ref M), (1, .int (nI m)), (2, .int x)] [] (0, 0) _
  refine Gd.of (ckX8 _ _) tX8_answered_ok (cuts := lf 19 3) 40 ?_
  refine eG.i h.obj rfl ?_
  refine eL.i (i := nI m) h.a21 hin ?_
  refine eB.i (fun z => ?_) (fun z => ?_)
  · refine eS.i (i := nI m) h.a21 hin ?_
    rw [hcl, e21]
    exact k19 (nr + 1) _ (if_pos z).symm (xD_up (by omega)) (h.s21 (f := upd (A 21) m (nr + 1)))
  · refine eS.i (i := nI m) h.a21 hin ?_
    rw [hcl, e21, Int32.add_zero]
    exact k19 nr _ (if_neg z).symm (xD_up (by omega)) (h.s21 (f := upd (A 21) m nr))
end TPA
