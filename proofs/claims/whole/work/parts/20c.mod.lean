/-! the reference's arrays say the same state -/
def RK (A : AA) (K : List Int32) : Prop := K.length = 32 ∧ ∀ j, j < 32 → A 10 j = K.getD j 0
def RV (A : AA) (vals : Nat → Nat → Int32) (cnt : Nat → Nat) : Prop := ∀ v, v < 8 → A 9 v = nI (cnt v) ∧ cnt v ≤ 80 ∧ ∀ j, j < cnt v → A 8 (80 * v + j) = vals v j
def RLt (A : AA) (np : Nat) (kd : Nat → Int32) (lt : Nat → List Int32) : Prop := np ≤ 60 ∧ ∀ i, i < np → Wr A i (kd i) (lt i)
def RM1 (A : AA) (m : Nat) (o : Mo) : Prop := (o.1.1 ≤ 20 ∧ o.1.2.1 ≤ 12 ∧ o.1.2.2.1 ≤ 20) ∧ (A 18 m = nI o.1.1 ∧ A 19 m = nI o.1.2.1 ∧ A 20 m = nI o.1.2.2.1 ∧ A 21 m = o.1.2.2.2.1 ∧ A 22 m = o.1.2.2.2.2) ∧ (∀ i, i < o.1.1 → ∀ j, j < 45 → A 16 (900 * m + 45 * i + j) = (o.2.1 i).getD j 0) ∧ (∀ i, i < o.1.2.1 → A 23 (12 * m + i) = nI (o.2.2.1 i).length ∧ A 24 (12 * m + i) = o.2.2.2.1 i ∧ (o.2.2.1 i).length ≤ 400 ∧ ∀ j, j < (o.2.2.1 i).length → A 17 (4800 * m + 400 * i + j) = (o.2.2.1 i).getD j 0) ∧ ∀ i, i < o.1.2.2.1 → A 25 (20 * m + i) = o.2.2.2.2 i 0 ∧ A 26 (20 * m + i) = o.2.2.2.2 i 1 ∧ A 27 (20 * m + i) = o.2.2.2.2 i 2 ∧ A 28 (20 * m + i) = o.2.2.2.2 i 3
def RM (A : AA) (mo : Nat → Mo) : Prop := ∀ m, m < 4 → RM1 A m (mo m)
def RD (A : AA) (dk : List Int32) : Prop := dk.length ≤ 634 ∧ (∀ j, j < dk.length → A 29 j = dk.getD j 0) ∧ ∀ j, dk.length ≤ j → j < 640 → A 29 j = 0
def Rel (A : AA) (s : Sg) : Prop := match s with
  | (K, vals, cnt, np, kd, lt, mo, dk) => RK A K ∧ RV A vals cnt ∧ RLt A np kd lt ∧ RM A mo ∧ RD A dk
def MS (G : mG) (S : mS) (M : Nat) (s : Sg) : Prop := match s with
  | (K, vals, cnt, np, kd, lt, mo, dk) => ∃ (A : AA) (l : List Int32) (nn : Nat), Md G S M A l np nn dk.length ∧ Rel A (K, vals, cnt, np, kd, lt, mo, dk)
def oM (G : mG) (S : mS) (M : Nat) (r : Int32 × Sg) : Option Value → mS → Prop := fun v S' => v = some (.int r.1) ∧ fr S S' (xD M) ∧ MS G S' M r.2
section REL
variable {G : mG} {S S' : mS} {M nl nn nd p : Nat} {A A' : AA} {l t : List Int32} {k : Int32} {K : List Int32} {vals : Nat → Nat → Int32} {cnt : Nat → Nat} {np : Nat} {kd : Nat → Int32} {lt : Nat → List Int32} {mo : Nat → Mo} {dk : List Int32}
theorem RK.cong (h : RK A K) (e : A' 10 = A 10) : RK A' K := by
  unfold RK at *
  rw [e]
  exact h
theorem RV.cong (h : RV A vals cnt) (e8 : A' 8 = A 8) (e9 : A' 9 = A 9) : RV A' vals cnt := by
  unfold RV at *
  rw [e8, e9]
  exact h
theorem Wr.cong {q : Nat} (h : Wr A q k t) (e1 : A' 11 = A 11) (e2 : A' 12 = A 12) (e3 : A' 13 = A 13) : Wr A' q k t := by
  unfold Wr at *
  rw [e1, e2, e3]
  exact h
theorem RM1.cong {m : Nat} {o : Mo} (h : RM1 A m o) (e : ∀ i, 16 ≤ i → i ≤ 28 → A' i = A i) : RM1 A' m o := by
  unfold RM1 at *
  rw [e 16 (by omega) (by omega), e 17 (by omega) (by omega), e 18 (by omega) (by omega), e 19 (by omega) (by omega), e 20 (by omega) (by omega), e 21 (by omega) (by omega), e 22 (by omega) (by omega), e 23 (by omega) (by omega), e 24 (by omega) (by omega), e 25 (by omega) (by omega), e 26 (by omega) (by omega), e 27 (by omega) (by omega), e 28 (by omega) (by omega)]
  exact h
theorem RD.cong (h : RD A dk) (e : A' 29 = A 29) : RD A' dk := by
  unfold RD at *
  rw [e]
  exact h
theorem Rel.cong (h : Rel A (K, vals, cnt, np, kd, lt, mo, dk)) (e : ∀ i, 8 ≤ i → i ≤ 29 → i ≠ 14 → i ≠ 15 → A' i = A i) : Rel A' (K, vals, cnt, np, kd, lt, mo, dk) := by
  obtain ⟨h1, h2, h3, h4, h5⟩ := h
  exact ⟨h1.cong (e 10 (by omega) (by omega) (by omega) (by omega)), h2.cong (e 8 (by omega) (by omega) (by omega) (by omega)) (e 9 (by omega) (by omega) (by omega) (by omega)), ⟨h3.1, fun i hi => (h3.2 i hi).cong (e 11 (by omega) (by omega) (by omega) (by omega)) (e 12 (by omega) (by omega) (by omega) (by omega)) (e 13 (by omega) (by omega) (by omega) (by omega))⟩, fun m hm => (h4 m hm).cong (fun i i1 i2 => e i (by omega) (by omega) (by omega) (by omega)), h5.cong (e 29 (by omega) (by omega) (by omega) (by omega))⟩
theorem Rel.post (h : Rel A (K, vals, cnt, np, kd, lt, mo, dk)) (hn : np < 60) (g : Ag A A' np) (w : Wr A' np k t) : Rel A' (K, vals, cnt, np + 1, va_up kd np k, va_up lt np t, mo, dk) := by
  obtain ⟨h1, h2, h3, h4, h5⟩ := h
  obtain ⟨g1, g2, g3⟩ := g
  refine ⟨h1.cong (g1 10 (by omega) (by omega) (by omega) (by omega) (by omega) (by omega)), h2.cong (g1 8 (by omega) (by omega) (by omega) (by omega) (by omega) (by omega)) (g1 9 (by omega) (by omega) (by omega) (by omega) (by omega) (by omega)), ⟨by omega, fun i hi => ?_⟩, fun m hm => (h4 m hm).cong (fun i i1 i2 => g1 i (by omega) (by omega) (by omega) (by omega) (by omega) (by omega)), h5.cong (g1 29 (by omega) (by omega) (by omega) (by omega) (by omega) (by omega))⟩
  by_cases e : i = np
  · rw [e, up_s, up_s]; exact w
  · rw [up_n e, up_n e]
    obtain ⟨w1, w2, w3, w4⟩ := h3.2 i (by omega)
    refine ⟨(g3 i e).1.trans w1, (g3 i e).2.trans w2, w3, fun j hj => ?_⟩
    rw [g2 _ (by omega)]
    exact w4 j hj
theorem vN_ok2 {g v : Int32} (h : inV g v) : 2 * g + v = nI (vN g v) := by
  rw [← (vN_ok h).2, Int32.mul_comm]
theorem oM.no {x : Int32} {s : Sg} {r : Int32 × Sg} {v : Option Value} (h : MS G S M s) (hr : r = (x, s)) (hv : v = some (.int x)) : oM G S M r v S := by
  rw [hr]
  exact ⟨hv, fr.rf, h⟩
theorem c_X8_leaves {g w : Int32} (h : MS G S M (K, vals, cnt, np, kd, lt, mo, dk)) :
    mCon G yX8_leaves cX8_leaves 3 (some .int) (rmD 14) [.ref M, .int g, .int w] S (oM G S M (oLvs (K, vals, cnt, np, kd, lt, mo, dk) g w)) := by
  have hall := h
  obtain ⟨A, l, nn, m, h1, h2, h3⟩ := h
  refine mCon.of (I := miX8 false (some .int)) (by decide) rfl rfl (fun h => by cases h) (fun _ => rfl) (Nat.le_of_ble_eq_true rfl) ?_
  show Gd _ _ _ _ _ _ _ _ 0 [(0, .ref M), (1, .int g), (2, .int w)] [] (0, 0) _
  refine Gd.of (ckX8 _ _) tX8_leaves_ok (cuts := fun _ => none) 60 ?_
  refine ⟨Nat.le_of_ble_eq_true rfl, ?_⟩
  refine eC.z (c_M_isView) ⟨rfl, rfl⟩ ⟨Nat.le_of_ble_eq_true rfl, Nat.le_of_ble_eq_true rfl⟩ ⟨Nat.zero_le _, Nat.zero_le _⟩ (fun v S1 hk => ?_)
  obtain ⟨rfl, rfl⟩ := hk
  by_cases hv : inV g w
  · have hv8 := (vN_ok hv).1
    obtain ⟨q1, q2, q3⟩ := h2 _ hv8
    have ev := vN_ok2 hv
    rw [pI_t hv]
    refine eB.f (by decide) ?_
    refine eG.i m.obj rfl ?_
    refine eL.i (i := 2 * g + w) m.a9 (by rw [ev]; exact vp_in_nI (by omega) (by omega)) ?_
    refine eR.int (oM.no hall ?_ rfl)
    rw [ev, nI_clamp (by omega), q1]
    show (if _ then _ else _, _) = _
    rw [if_pos hv]
  · rw [pI_f hv]
    refine eB.t rfl ?_
    refine eR.int (oM.no hall ?_ rfl)
    show (if _ then _ else _, _) = _
    rw [if_neg hv]
theorem c_X8_append {g w x : Int32} (h : MS G S M (K, vals, cnt, np, kd, lt, mo, dk)) :
    mCon G yX8_append cX8_append 5 (some .int) (rmD 14) [.ref M, .int g, .int w, .int x] S (oM G S M (oApp (K, vals, cnt, np, kd, lt, mo, dk) g w x)) := by
  have hall := h
  obtain ⟨A, l, nn, m, h1, h2, h3, h4, h5⟩ := h
  refine mCon.of (I := miX8 false (some .int)) (by decide) rfl rfl (fun h => by cases h) (fun _ => rfl) (Nat.le_of_ble_eq_true rfl) ?_
  show Gd _ _ _ _ _ _ _ _ 0 [(0, .ref M), (1, .int g), (2, .int w), (3, .int x)] [] (0, 0) _
  refine Gd.of (ckX8 _ _) tX8_append_ok (cuts := fun _ => none) 80 ?_
  refine ⟨Nat.le_of_ble_eq_true rfl, ?_⟩
  refine eC.z (c_M_isView) ⟨rfl, rfl⟩ ⟨Nat.le_of_ble_eq_true rfl, Nat.le_of_ble_eq_true rfl⟩ ⟨Nat.zero_le _, Nat.zero_le _⟩ (fun v S1 hk => ?_)
  obtain ⟨rfl, rfl⟩ := hk
  by_cases hv : inV g w
  · have hv8 := (vN_ok hv).1
    obtain ⟨q1, q2, q3⟩ := h2 _ hv8
    have ev := vN_ok2 hv
    have hin : vp_in (2 * g + w) 8 := by rw [ev]; exact vp_in_nI (by omega) (by omega)
    have hcl : (2 * g + w).toNatClampNeg = vN g w := by rw [ev, nI_clamp (by omega)]
    rw [pI_t hv]
    refine eB.f (by decide) ?_
    refine eG.i m.obj rfl ?_
    refine eL.i (i := 2 * g + w) m.a9 hin ?_
    rw [hcl, q1]
    by_cases hc : cnt (vN g w) < 80
    · refine eB.f (fun z => ?_) ?_
      · have := congrArg Int32.toInt z
        rw [nI_toInt (by omega), show (80 : Int32).toInt = 80 from rfl] at this
        omega
      have e0 : 80 * (2 * g + w) + A 9 (2 * g + w).toNatClampNeg = nI (80 * vN g w + cnt (vN g w)) := by rw [hcl, q1, ev, show (80 : Int32) = nI 80 from rfl, pk_mul, nI_add]
      refine eG.i m.obj rfl ?_
      refine eG.i m.obj rfl ?_
      refine eL.i (i := 2 * g + w) m.a9 hin ?_
      refine eS.i (i := 80 * (2 * g + w) + A 9 (2 * g + w).toNatClampNeg) m.a8 (by rw [e0]; exact vp_in_nI (by omega) (by omega)) ?_
      rw [e0, nI_clamp (by omega)]
      have m1 := m.s8 (f := upd (A 8) (80 * vN g w + cnt (vN g w)) x)
      refine eG.i m1.obj rfl ?_
      refine eL.i (i := 2 * g + w) m1.a9 hin ?_
      refine eS.i (i := 2 * g + w) m1.a9 hin ?_
      have e9 : va_up A 8 (upd (A 8) (80 * vN g w + cnt (vN g w)) x) 9 = A 9 := up_n (by decide)
      rw [e9, hcl, q1, nI_1]
      have m2 := m1.s9 (f := upd (A 9) (vN g w) (nI (cnt (vN g w) + 1)))
      refine eG.i m2.obj rfl ?_
      refine eL.i (i := 2 * g + w) m2.a9 hin ?_
      rw [up_s, hcl, pk_us]
      have e : oApp (K, vals, cnt, np, kd, lt, mo, dk) g w x = (nI (cnt (vN g w) + 1), K, va_up vals (vN g w) (upd (vals (vN g w)) (cnt (vN g w)) x), va_up cnt (vN g w) (cnt (vN g w) + 1), np, kd, lt, mo, dk) := if_pos ⟨hv, hc⟩
      rw [e]
      have c0 : ∀ i, i ≠ 8 → i ≠ 9 → va_up (va_up A 8 (upd (A 8) (80 * vN g w + cnt (vN g w)) x)) 9 (upd (A 9) (vN g w) (nI (cnt (vN g w) + 1))) i = A i := fun i a b => by rw [up_n b, up_n a]
      refine eR.int ⟨rfl, (xD_up (by omega)).tr (xD_up (by omega)), _, _, _, m2, h1.cong (c0 10 (by omega) (by omega)), fun v hv => ?_, ⟨h3.1, fun i hi => (h3.2 i hi).cong (c0 11 (by omega) (by omega)) (c0 12 (by omega) (by omega)) (c0 13 (by omega) (by omega))⟩, fun m hm => (h4 m hm).cong (fun i a b => c0 i (by omega) (by omega)), h5.cong (c0 29 (by omega) (by omega))⟩
      obtain ⟨p1, p2, p3⟩ := h2 v hv
      rw [up_s, up_n (show 8 ≠ 9 by decide), up_s]
      by_cases q : v = vN g w
      · subst q
        rw [up_s, up_s, pk_us]
        refine ⟨rfl, by omega, fun j hj => ?_⟩
        by_cases q : j = cnt (vN g w)
        · rw [q, pk_us, pk_us]
        · rw [pk_un q, pk_un (by omega)]; exact p3 j (by omega)
      · rw [up_n q, up_n q, pk_un q]
        exact ⟨p1, p2, fun j hj => by rw [pk_un (by omega)]; exact p3 j hj⟩
    · refine eB.t (by rw [show cnt (vN g w) = 80 by omega]; rfl) ?_
      exact eR.int (oM.no hall (if_neg (fun z => hc z.2)) rfl)
  · rw [pI_f hv]
    refine eB.t rfl ?_
    exact eR.int (oM.no hall (if_neg (fun z => hv z.1)) rfl)
end REL
