/-! the reference takes a head -/
def thC : Nat → Option Nat := nd 120 (nd 50 (lf 17 6) (lf 88 6)) (nd 200 (lf 166 7) (nd 230 (lf 212 7) (lf 258 7)))
section TKH
variable {G : mG} {S S' : mS} {M nl nn nd m hn fn rn i s : Nat} {nr nc : Int32} {A : AA} {l row K : List Int32} {hF pF : Nat → List Int32} {fH : Nat → Int32} {rF : Nat → Nat → Int32}
def thK (G : mG) (S : mS) (M : Nat) (A : AA) (nl nn nd m : Nat) (r : Int32 × Mo) : Option Value → mS → Prop := fun v S' => v = some (.int r.1) ∧ fr S S' (xD M) ∧ ∃ A' l', Md G S' M A' l' nl nn nd ∧ Am A A' m ∧ RM1 A' m r.2
theorem Md.bl {S1 : mS} {A1 : AA} {l1 : List Int32} {q a : Nat} {t : List Int32} (h : Md G S1 M A1 l1 nl nn nd) (hb : mdB q = true) (h6 : 6 < q) (hr : ∀ x, x < t.length → A1 q (a + x) = t.getD x 0) : bl t := by
  intro j
  by_cases z : j < t.length
  · rw [← hr j z]; exact h.isb hb h6 _
  · rw [List.getD_eq_getElem?_getD, List.getElem?_eq_none (by omega)]; exact isB_0
theorem same37 {a b : List Int32} (ha : a.length = 45) (hb : 37 ≤ b.length) (h1 : bl a) (h2 : bl b) : same a 0 b 0 37 ↔ (same a 0 b 0 5 ∧ same a 5 b 5 32) := by
  rw [same_iff (by omega) (by omega) h1 h2 (by omega) (by omega), same_iff (by omega) (by omega) h1 h2 (by omega) (by omega), same_iff (by omega) (by omega) h1 h2 (by omega) (by omega)]
  constructor
  · intro h
    refine ⟨fun k hk => h k (by omega), fun k hk => ?_⟩
    have := h (5 + k) (by omega)
    rw [Nat.zero_add] at this
    exact this
  · intro h k hk
    by_cases e : k < 5
    · exact h.1 k e
    · have := h.2 (k - 5) (by omega)
      rw [show 5 + (k - 5) = k by omega] at this
      rw [Nat.zero_add]
      exact this
set_option maxHeartbeats 1000000 in
theorem c_M_takesHead (hd : Md G S M A l nl nn nd) (hK : RK A K) (bK : bl K) (hR : RM1 A m ((hn, fn, rn, nr, nc), hF, pF, fH, rF)) (hO : okM K ((hn, fn, rn, nr, nc), hF, pF, fH, rF)) (hm : m < 4) (bi : mdB i = true) (i7 : 7 < i) (i17 : i < 17) (hi : mdN i ≤ 24000) (hs : s + 45 ≤ mdN i) (hl : row.length = 45) (hr0 : ∀ x, x < 45 → A i (s + x) = row.getD x 0) (hdis : i = 16 → s + 45 ≤ 900 * m ∨ 900 * m + 900 ≤ s) :
    mCon G yX8_takesHead cX8_takesHead 7 (some .int) (rmD 6) [.ref M, .int (nI m), .ref (M + i), .int (nI s)] S (thK G S M A nl nn nd m (tkS K ((hn, fn, rn, nr, nc), hF, pF, fH, rF) row)) := by
  have hz := hR.1
  have hz1 : hn ≤ 20 := hz.1
  have hz2 : fn ≤ 12 := hz.2.1
  have hz3 : rn ≤ 20 := hz.2.2
  obtain ⟨o1, o2, o3⟩ := hO
  have hlF : ∀ q, q < hn → (hF q).length = 45 := fun q hq => (o1 q hq).1
  have hlP : ∀ q, q < fn → 41 ≤ (pF q).length := fun q hq => by
    rcases (o2 q hq).1 with ⟨e, -⟩ | ⟨-, c, -, e⟩ | ⟨e, -⟩
    · exact absurd e (by decide)
    · have e' : (pF q).length = 41 + 32 * c := e
      omega
    · exact absurd e (by decide)
  have bR : bl row := hd.bl bi (by omega) (fun x hx => hr0 x (by omega))
  have hin : vp_in (nI m) 4 := vp_in_nI (by omega) (by omega)
  have hcl : (nI m).toNatClampNeg = m := nI_clamp (by omega)
  -- the row stays
  have hrow : ∀ {A4 : AA}, Am A A4 m → ∀ x, x < 45 → A4 i (s + x) = row.getD x 0 := by
    intro A4 g x hx
    rw [← hr0 x hx]
    by_cases e : i = 16
    · subst e
      have := hdis rfl
      exact g.2.1 _ (by omega)
    · rw [g.1 i (by omega) (by omega)]
  have eq5 : ∀ {A4 : AA} {S4 : mS} {l4 : List Int32} {hF4 : Nat → List Int32} {a b c : Nat} {d e : Int32} {rF4 : Nat → Nat → Int32} (q : Nat), Md G S4 M A4 l4 nl nn nd → Am A A4 m → RM1 A4 m ((a, b, c, d, e), hF4, pF, fH, rF4) → q < a → (hF4 q).length = 45 → ((∀ k, k < 5 → A4 16 (900 * m + 45 * q + k) = A4 i (s + k)) ↔ same (hF4 q) 0 row 0 5) ∧ ((∀ k, k < 32 → A4 16 (900 * m + 45 * q + 5 + k) = A4 i (s + 5 + k)) ↔ same (hF4 q) 5 row 5 32) := by
    intro A4 S4 l4 hF4 a b c d e rF4 q m4 g4 r4 hq hlq
    have h3 := r4.2.2.1 q hq
    have bH : bl (hF4 q) := m4.bl (q := 16) (a := 900 * m + 45 * q) rfl (by decide) (fun x hx => h3 x (by omega))
    constructor
    · rw [same_iff (by omega) (by omega) bH bR (by omega) (by omega)]
      constructor
      · intro z k hk
        have := z k hk
        rw [h3 k (by omega), hrow g4 k (by omega)] at this
        rw [Nat.zero_add]
        exact this
      · intro z k hk
        rw [h3 k (by omega), hrow g4 k (by omega)]
        have := z k hk
        rw [Nat.zero_add] at this
        exact this
    · rw [same_iff (by omega) (by omega) bH bR (by omega) (by omega)]
      constructor
      · intro z k hk
        have := z k hk
        rw [Nat.add_assoc, h3 _ (by omega), Nat.add_assoc, hrow g4 _ (by omega)] at this
        exact this
      · intro z k hk
        rw [Nat.add_assoc, h3 _ (by omega), Nat.add_assoc, hrow g4 _ (by omega)]
        exact z k hk
  by_cases sg : signed K row 0 1
  · have eSS : tkS K ((hn, fn, rn, nr, nc), hF, pF, fH, rF) row = tkH ((hn, fn, rn, nr, nc), hF, pF, fH, rF) row := if_pos sg
    -- the last loop: facts
    have k258 : (¬ ∃ q, q < hn ∧ same (hF q) 0 row 0 37) → hn < 20 → rn + (recF hn hF row).length + (recB hn fn pF fH row).length ≤ 20 → ∀ (d q : Nat) (x : Int32) (L : List q4) (S4 : mS) (A4 : AA) (l4 : List Int32), q + d = fn → x = nI q → L ++ recL (fun i => bel row (pF i)) (fun i => ((2 : Int32), nI hn, fH i, nI i)) d q = recB hn fn pF fH row → fr S S4 (xD M) → Md G S4 M A4 l4 nl nn nd → Am A A4 m → RM1 A4 m ((hn + 1, fn, rn + (recF hn hF row).length + L.length, nr, nc), va_up hF hn row, pF, fH, rputs (rputs rF rn (recF hn hF row)) (rn + (recF hn hF row).length) L) →
        Gd G (miX8 false (some .int)) cX8_takesHead 7 (rmD 6) 0 0 (thK G S M A nl nn nd m (tkS K ((hn, fn, rn, nr, nc), hF, pF, fH, rF) row)) 258 [(0, .ref M), (1, .int (nI m)), (2, .ref (M + i)), (3, .int (nI s)), (4, .int (nI ((recF hn hF row).length + (recB hn fn pF fH row).length))), (5, .int (nI hn)), (6, .int x)] [] (0, 0) S4 := by
      intro hno h20 hle d
      induction d with
      | zero =>
        intro q x L S4 A4 l4 hq hx hL f4 m4 g4 r4
        subst hx
        rw [show recL (fun i => bel row (pF i)) (fun i => ((2 : Int32), nI hn, fH i, nI i)) 0 q = [] from rfl, List.append_nil] at hL
        subst hL
        have e19 : A4 19 (nI m).toNatClampNeg = nI fn := by rw [hcl]; exact r4.2.1.2.1
        refine Gd.of (ckX8 _ _) tX8_takesHead_ok (cuts := thC) 80 ?_
        refine eG.i m4.obj rfl ?_
        refine eL.i (i := nI m) m4.a19 hin ?_
        rw [e19]
        refine eB.t (by rw [nI_leI (by omega) (by omega)]; omega) ?_
        have e : tkH ((hn, fn, rn, nr, nc), hF, pF, fH, rF) row = (1, (hn + 1, fn, rn + (recF hn hF row).length + (recB hn fn pF fH row).length, nr, nc), va_up hF hn row, pF, fH, rputs (rputs rF rn (recF hn hF row)) (rn + (recF hn hF row).length) (recB hn fn pF fH row)) := (if_neg hno).trans (if_neg (by omega))
        rw [eSS, e]
        exact eR.int ⟨rfl, f4, A4, l4, m4, g4, r4⟩
      | succ d ih =>
        intro q x L S4 A4 l4 hq hx hL f4 m4 g4 r4
        subst hx
        have e19 : A4 19 (nI m).toNatClampNeg = nI fn := by rw [hcl]; exact r4.2.1.2.1
        have e24 : 12 * nI m + nI q = nI (12 * m + q) := by rw [show (12 : Int32) = nI 12 from rfl, pk_mul, nI_add]
        refine Gd.of (ckX8 _ _) tX8_takesHead_ok (cuts := thC) 80 ?_
        refine eG.i m4.obj rfl ?_
        refine eL.i (i := nI m) m4.a19 hin ?_
        rw [e19]
        refine eB.f (by rw [nI_leI (by omega) (by omega)]; omega) ?_
        refine ⟨rfl, Nat.le_of_ble_eq_true rfl, ?_⟩
        refine eV.i m4.obj ?_
        refine eC.z (c_M_isAgainst (f := q) m4 r4 hm (by show q < fn; omega) (hlP q (by omega)) bi (by omega) (by omega) hi hs hl (hrow g4)) ⟨rfl, rfl⟩ ⟨Nat.le_of_ble_eq_true rfl, Nat.le_of_ble_eq_true rfl⟩ ⟨Nat.zero_le _, Nat.zero_le _⟩ (fun v S5 hk => ?_)
        obtain ⟨rfl, rfl⟩ := hk
        by_cases z : bel row (pF q)
        · rw [recL_t z] at hL
          have hlen : (L ++ [((2 : Int32), nI hn, fH q, nI q)] ++ recL (fun i => bel row (pF i)) (fun i => ((2 : Int32), nI hn, fH i, nI i)) d (q + 1)).length = (recB hn fn pF fH row).length := by rw [List.append_assoc]; exact congrArg List.length hL
          rw [List.length_append, List.length_append, List.length_singleton] at hlen
          rw [show pI (bel row ((((hn + 1, fn, rn + (recF hn hF row).length + L.length, nr, nc), va_up hF hn row, pF, fH, rputs (rputs rF rn (recF hn hF row)) (rn + (recF hn hF row).length) L) : Mo).2.2.1 q)) = 1 from pI_t z]
          refine eB.f (by decide) ?_
          refine eG.i m4.obj rfl ?_
          refine eL.i (i := 12 * nI m + nI q) m4.a24 (by rw [e24]; exact vp_in_nI (by omega) (by omega)) ?_
          have ef : A4 24 (12 * nI m + nI q).toNatClampNeg = fH q := by rw [e24, nI_clamp (by omega)]; exact (r4.2.2.2.1 q (by show q < fn; omega)).2.1
          rw [ef]
          refine ⟨rfl, Nat.le_of_ble_eq_true rfl, ?_⟩
          refine eV.i m4.obj ?_
          refine eC.z (c_M_records (rn := rn + (recF hn hF row).length + L.length) (q := ((2 : Int32), nI hn, fH q, nI q)) m4 hm (by omega) r4.2.1.2.2.1) ⟨rfl, rfl⟩ ⟨Nat.le_of_ble_eq_true rfl, Nat.le_of_ble_eq_true rfl⟩ ⟨Nat.zero_le _, Nat.zero_le _⟩ (fun v S6 hk => ?_)
          obtain ⟨rfl, f6, m6⟩ := hk
          refine ih (q + 1) _ (L ++ [((2 : Int32), nI hn, fH q, nI q)]) S6 _ l4 (by omega) (nI_1 q) (by rw [← hL, List.append_assoc]) (f4.tr f6) m6 (g4.tr (Am.rec (by omega))) ?_
          have r6 := r4.rec (q := ((2 : Int32), nI hn, fH q, nI q)) (by omega)
          rw [rputs_app, List.length_append, List.length_singleton]
          exact r6
        · rw [recL_f z] at hL
          rw [show pI (bel row ((((hn + 1, fn, rn + (recF hn hF row).length + L.length, nr, nc), va_up hF hn row, pF, fH, rputs (rputs rF rn (recF hn hF row)) (rn + (recF hn hF row).length) L) : Mo).2.2.1 q)) = 0 from pI_f z]
          refine eB.t rfl ?_
          exact ih (q + 1) _ L _ A4 l4 (by omega) (nI_1 q) hL f4 m4 g4 r4
    -- forks
    have k212 : (¬ ∃ q, q < hn ∧ same (hF q) 0 row 0 37) → hn < 20 → rn + (recF hn hF row).length + (recB hn fn pF fH row).length ≤ 20 → ∀ (d q : Nat) (x : Int32) (L : List q4) (S4 : mS) (A4 : AA) (l4 : List Int32), q + d = hn → x = nI q → L ++ recL (fun i => same (hF i) 0 row 0 5) (fun i => ((1 : Int32), nI i, nI hn, (-1 : Int32))) d q = recF hn hF row → fr S S4 (xD M) → Md G S4 M A4 l4 nl nn nd → Am A A4 m → RM1 A4 m ((hn + 1, fn, rn + L.length, nr, nc), va_up hF hn row, pF, fH, rputs rF rn L) →
        Gd G (miX8 false (some .int)) cX8_takesHead 7 (rmD 6) 0 0 (thK G S M A nl nn nd m (tkS K ((hn, fn, rn, nr, nc), hF, pF, fH, rF) row)) 212 [(0, .ref M), (1, .int (nI m)), (2, .ref (M + i)), (3, .int (nI s)), (4, .int (nI ((recF hn hF row).length + (recB hn fn pF fH row).length))), (5, .int (nI hn)), (6, .int x)] [] (0, 0) S4 := by
      intro hno h20 hle d
      induction d with
      | zero =>
        intro q x L S4 A4 l4 hq hx hL f4 m4 g4 r4
        subst hx
        rw [show recL (fun i => same (hF i) 0 row 0 5) (fun i => ((1 : Int32), nI i, nI hn, (-1 : Int32))) 0 q = [] from rfl, List.append_nil] at hL
        subst hL
        refine Gd.of (ckX8 _ _) tX8_takesHead_ok (cuts := thC) 80 ?_
        refine eB.t (by rw [nI_leI (by omega) (by omega)]; omega) ?_
        exact k258 hno h20 hle fn 0 _ [] S4 A4 l4 (by omega) rfl rfl f4 m4 g4 r4
      | succ d ih =>
        intro q x L S4 A4 l4 hq hx hL f4 m4 g4 r4
        subst hx
        have eup : va_up hF hn row q = hF q := up_n (by omega)
        have e5 := (eq5 q m4 g4 r4 (by omega) (by rw [eup]; exact hlF q (by omega))).1
        rw [eup] at e5
        refine Gd.of (ckX8 _ _) tX8_takesHead_ok (cuts := thC) 80 ?_
        refine eB.f (by rw [nI_leI (by omega) (by omega)]; omega) ?_
        refine eG.i m4.obj rfl ?_
        refine ⟨Nat.le_of_ble_eq_true rfl, ?_⟩
        refine eC.z (c_M_headAt) ⟨rfl, rfl⟩ ⟨Nat.le_of_ble_eq_true rfl, Nat.le_of_ble_eq_true rfl⟩ ⟨Nat.zero_le _, Nat.zero_le _⟩ (fun v S5 hk => ?_)
        obtain ⟨rfl, rfl⟩ := hk
        refine ⟨Nat.le_of_ble_eq_true rfl, ?_⟩
        refine eC.z (c_M_isSame (i := 16) (j := i) (s := 900 * m + 45 * q) (u := s) (n := 5) m4 rfl (by decide) (by decide) (by show 900 * m + 45 * q + 5 ≤ 3600; omega) (by decide) bi (by omega) (by omega) (by omega) hi) ⟨rfl, rfl⟩ ⟨Nat.le_of_ble_eq_true rfl, Nat.le_of_ble_eq_true rfl⟩ ⟨Nat.zero_le _, Nat.zero_le _⟩ (fun v S5 hk => ?_)
        obtain ⟨rfl, rfl⟩ := hk
        by_cases z : same (hF q) 0 row 0 5
        · rw [recL_t (P := fun i => same (hF i) 0 row 0 5) (i := q) z] at hL
          have hlen : (L ++ [((1 : Int32), nI q, nI hn, (-1 : Int32))] ++ recL (fun i => same (hF i) 0 row 0 5) (fun i => ((1 : Int32), nI i, nI hn, (-1 : Int32))) d (q + 1)).length = (recF hn hF row).length := by rw [List.append_assoc]; exact congrArg List.length hL
          rw [List.length_append, List.length_append, List.length_singleton] at hlen
          rw [pI_t (e5.mpr z)]
          refine eB.f (by decide) ?_
          refine ⟨rfl, Nat.le_of_ble_eq_true rfl, ?_⟩
          refine eV.i m4.obj ?_
          refine eC.z (c_M_records (rn := rn + L.length) (q := ((1 : Int32), nI q, nI hn, (-1 : Int32))) m4 hm (by omega) r4.2.1.2.2.1) ⟨rfl, rfl⟩ ⟨Nat.le_of_ble_eq_true rfl, Nat.le_of_ble_eq_true rfl⟩ ⟨Nat.zero_le _, Nat.zero_le _⟩ (fun v S6 hk => ?_)
          obtain ⟨rfl, f6, m6⟩ := hk
          refine ih (q + 1) _ (L ++ [((1 : Int32), nI q, nI hn, (-1 : Int32))]) S6 _ l4 (by omega) (nI_1 q) (by rw [← hL, List.append_assoc]) (f4.tr f6) m6 (g4.tr (Am.rec (by omega))) ?_
          have r6 := r4.rec (q := ((1 : Int32), nI q, nI hn, (-1 : Int32))) (by omega)
          rw [rputs_app, List.length_append, List.length_singleton]
          exact r6
        · rw [recL_f (P := fun i => same (hF i) 0 row 0 5) (i := q) z] at hL
          rw [pI_f (fun w => z (e5.mp w))]
          refine eB.t rfl ?_
          exact ih (q + 1) _ L _ A4 l4 (by omega) (nI_1 q) hL f4 m4 g4 r4
    -- the head is written
    have k166 : (¬ ∃ q, q < hn ∧ same (hF q) 0 row 0 37) → hn < 20 → rn + (recF hn hF row).length + (recB hn fn pF fH row).length ≤ 20 → ∀ (A0 : AA), Am A A0 m → RM1 A0 m ((hn, fn, rn, nr, nc), hF, pF, fH, rF) → (∀ j, isB (A0 16 j)) → ∀ (d q : Nat) (x : Int32) (S4 : mS) (l4 : List Int32), q + d = 45 → x = nI q → fr S S4 (xD M) → Md G S4 M (va_up A0 16 (va_cpy (A0 i) (A0 16) s (900 * m + 45 * hn) q)) l4 nl nn nd →
        Gd G (miX8 false (some .int)) cX8_takesHead 7 (rmD 6) 0 0 (thK G S M A nl nn nd m (tkS K ((hn, fn, rn, nr, nc), hF, pF, fH, rF) row)) 166 [(0, .ref M), (1, .int (nI m)), (2, .ref (M + i)), (3, .int (nI s)), (4, .int (nI ((recF hn hF row).length + (recB hn fn pF fH row).length))), (5, .int (nI hn)), (6, .int x)] [] (0, 0) S4 := by
      intro hno h20 hle A0 g0 r0 b0 d
      have gq : ∀ q, q ≤ 45 → Am A (va_up A0 16 (va_cpy (A0 i) (A0 16) s (900 * m + 45 * hn) q)) m := by
        intro q hq
        refine g0.tr ⟨fun k _ b => up_n (by omega), fun j hj => by rw [up_s, pk_cpy_out (by omega)], fun j _ => by rw [up_n (by decide)], fun k a b j _ => by rw [up_n (by omega)], fun k a b j _ => by rw [up_n (by omega)], fun k a b j _ => by rw [up_n (by omega)]⟩
      induction d with
      | zero =>
        intro q x S4 l4 hq hx f4 m4
        subst hx
        have e : q = 45 := by omega
        subst e
        have e18 : va_up A0 16 (va_cpy (A0 i) (A0 16) s (900 * m + 45 * hn) 45) 18 = A0 18 := up_n (by decide)
        have e18m : A0 18 m = nI hn := r0.2.1.1
        refine Gd.of (ckX8 _ _) tX8_takesHead_ok (cuts := thC) 80 ?_
        refine eB.t (by decide) ?_
        refine eG.i m4.obj rfl ?_
        refine eL.i (i := nI m) m4.a18 hin ?_
        refine eS.i (i := nI m) m4.a18 hin ?_
        rw [e18, hcl, e18m, nI_1]
        have m5 := m4.s18 (f := upd (A0 18) m (nI (hn + 1)))
        refine k212 hno h20 hle hn 0 _ [] _ _ l4 (by omega) rfl rfl (f4.tr (xD_up (by omega))) m5 ((gq 45 (by omega)).tr ⟨fun k _ b => up_n (by omega), fun j _ => by rw [up_n (by decide)], fun j _ => by rw [up_n (by decide)], fun k a b j hj => ?_, fun k a b j _ => by rw [up_n (by omega)], fun k a b j _ => by rw [up_n (by omega)]⟩) ?_
        · by_cases e : k = 18
          · rw [e, up_s, pk_un hj, up_n (by decide)]
          · rw [up_n e]
        · obtain ⟨z0, ⟨a1, a2, a3, a4, a5⟩, h3, h4, h5⟩ := r0
          have u16 : va_up (va_up A0 16 (va_cpy (A0 i) (A0 16) s (900 * m + 45 * hn) 45)) 18 (upd (A0 18) m (nI (hn + 1))) 16 = va_cpy (A0 i) (A0 16) s (900 * m + 45 * hn) 45 := by rw [up_n (by decide), up_s]
          have un : ∀ k, k ≠ 16 → k ≠ 18 → va_up (va_up A0 16 (va_cpy (A0 i) (A0 16) s (900 * m + 45 * hn) 45)) 18 (upd (A0 18) m (nI (hn + 1))) k = A0 k := fun k a b => by rw [up_n b, up_n a]
          refine ⟨⟨h20, hz2, hz3⟩, ⟨?_, ?_, ?_, ?_, ?_⟩, fun k hk j hj => ?_, fun k hk => ?_, fun k hk => ?_⟩
          · rw [up_s, pk_us]
          · rw [un 19 (by decide) (by decide)]; exact a2
          · rw [un 20 (by decide) (by decide)]; exact a3
          · rw [un 21 (by decide) (by decide)]; exact a4
          · rw [un 22 (by decide) (by decide)]; exact a5
          · have hk' : k < hn + 1 := hk
            rw [u16]
            by_cases e : k = hn
            · subst e
              show _ = (va_up hF k row k).getD j 0
              rw [up_s, pk_cpy_in (by omega) (by omega), show 900 * m + 45 * k + j - (900 * m + 45 * k) = j by omega]
              exact hrow g0 j hj
            · show _ = (va_up hF hn row k).getD j 0
              rw [up_n e, pk_cpy_out (by omega)]
              exact h3 k (show k < hn by omega) j hj
          · rw [un 23 (by decide) (by decide), un 24 (by decide) (by decide), un 17 (by decide) (by decide)]
            exact h4 k hk
          · rw [un 25 (by decide) (by decide), un 26 (by decide) (by decide), un 27 (by decide) (by decide), un 28 (by decide) (by decide)]
            exact h5 k hk
      | succ d ih =>
        intro q x S4 l4 hq hx f4 m4
        subst hx
        have e1 : nI s + nI q = nI (s + q) := nI_add _ _
        have e2 : nI (900 * m + 45 * hn) + nI q = nI (900 * m + 45 * hn + q) := nI_add _ _
        refine Gd.of (ckX8 _ _) tX8_takesHead_ok (cuts := thC) 80 ?_
        refine eB.f (by rw [show (45 : Int32) = nI 45 from rfl, nI_leI (by omega) (by omega)]; omega) ?_
        refine eG.i m4.obj rfl ?_
        refine ⟨Nat.le_of_ble_eq_true rfl, ?_⟩
        refine eC.z (c_M_headAt) ⟨rfl, rfl⟩ ⟨Nat.le_of_ble_eq_true rfl, Nat.le_of_ble_eq_true rfl⟩ ⟨Nat.zero_le _, Nat.zero_le _⟩ (fun v S5 hk => ?_)
        obtain ⟨rfl, rfl⟩ := hk
        refine eLb.i (i := nI s + nI q) (m4.b bi (by omega) (by omega)) (by rw [e1]; exact vp_in_nI (by omega) (by omega)) ?_
        refine eSb.i (i := nI (900 * m + 45 * hn) + nI q) m4.a16 (by rw [e2]; exact vp_in_nI (by omega) (by omega)) ?_
        have ev : va_up A0 16 (va_cpy (A0 i) (A0 16) s (900 * m + 45 * hn) q) i (s + q) = A0 i (s + q) := by
          rw [hrow (gq q (by omega)) q (by omega), hrow g0 q (by omega)]
        have eb : (A0 i (s + q)).toInt8.toInt32 = A0 i (s + q) := by rw [← ev]; exact m4.isb bi (by omega) _
        rw [e1, e2, nI_clamp (by omega), nI_clamp (by omega), ev, eb, up_s, cpy_succ]
        have m5 := m4.s16 (f := va_cpy (A0 i) (A0 16) s (900 * m + 45 * hn) (q + 1)) (fun j => by
          unfold va_cpy
          split
          · by_cases e : i = 16
            · subst e; exact b0 _
            · have := m4.isb bi (by omega) (s + (j - (900 * m + 45 * hn)))
              rw [up_n e] at this
              exact this
          · exact b0 _)
        rw [up_up] at m5
        exact ih (q + 1) _ _ l4 (by omega) (nI_1 q) (f4.tr (xD_up (by omega))) m5
    -- is there room
    have k88 : (¬ ∃ q, q < hn ∧ same (hF q) 0 row 0 37) → ∀ (A0 : AA), Am A A0 m → RM1 A0 m ((hn, fn, rn, nr, nc), hF, pF, fH, rF) → ∀ (d q c : Nat) (x x4 : Int32) (S4 : mS) (l4 : List Int32), q + d = fn → x = nI q → x4 = nI c → c + cntN (fun i => bel row (pF i)) d q = (recF hn hF row).length + (recB hn fn pF fH row).length → c ≤ 20 + q → fr S S4 (xD M) → Md G S4 M A0 l4 nl nn nd →
        Gd G (miX8 false (some .int)) cX8_takesHead 7 (rmD 6) 0 0 (thK G S M A nl nn nd m (tkS K ((hn, fn, rn, nr, nc), hF, pF, fH, rF) row)) 88 [(0, .ref M), (1, .int (nI m)), (2, .ref (M + i)), (3, .int (nI s)), (4, .int x4), (5, .int x)] [] (0, 0) S4 := by
      intro hno A0 g0 r0 d
      have e18m : A0 18 (nI m).toNatClampNeg = nI hn := by rw [hcl]; exact r0.2.1.1
      have e19 : A0 19 (nI m).toNatClampNeg = nI fn := by rw [hcl]; exact r0.2.1.2.1
      have e20 : A0 20 (nI m).toNatClampNeg = nI rn := by rw [hcl]; exact r0.2.1.2.2.1
      induction d with
      | zero =>
        intro q c x x4 S4 l4 hq hx hx4 hc hcq f4 m4
        subst hx hx4
        rw [show cntN (fun i => bel row (pF i)) 0 q = 0 from rfl, Nat.add_zero] at hc
        refine Gd.of (ckX8 _ _) tX8_takesHead_ok (cuts := thC) 80 ?_
        refine eG.i m4.obj rfl ?_
        refine eL.i (i := nI m) m4.a19 hin ?_
        rw [e19]
        refine eB.t (by rw [nI_leI (by omega) (by omega)]; omega) ?_
        refine eG.i m4.obj rfl ?_
        refine eL.i (i := nI m) m4.a18 hin ?_
        rw [e18m]
        have hful : (hn = 20 ∨ 20 < rn + (recF hn hF row).length + (recB hn fn pF fH row).length) → thK G S M A nl nn nd m (tkS K ((hn, fn, rn, nr, nc), hF, pF, fH, rF) row) (some (.int (-3))) S4 := by
          intro z
          have e : tkH ((hn, fn, rn, nr, nc), hF, pF, fH, rF) row = (-3, (hn, fn, rn, nr, nc), hF, pF, fH, rF) := (if_neg hno).trans (if_pos z)
          rw [eSS, e]
          exact ⟨rfl, f4, A0, l4, m4, g0, r0⟩
        by_cases z1 : hn = 20
        · refine eB.t (by rw [z1]; rfl) ?_
          exact eR.int (hful (Or.inl z1))
        · refine eB.f (by rw [show (20 : Int32) = nI 20 from rfl, nI_eq (by omega) (by omega)]; exact z1) ?_
          refine eG.i m4.obj rfl ?_
          refine eL.i (i := nI m) m4.a20 hin ?_
          rw [e20]
          by_cases z2 : rn + c ≤ 20
          · refine eB.t (by rw [nI_add, show (20 : Int32) = nI 20 from rfl, nI_leI (by omega) (by omega)]; omega) ?_
            refine eG.i m4.obj rfl ?_
            refine eL.i (i := nI m) m4.a18 hin ?_
            rw [e18m, hc]
            refine k166 hno (by omega) (by omega) A0 g0 r0 (fun j => m4.isb rfl (by decide) j) 45 0 _ S4 l4 (by omega) rfl f4 ?_
            rw [cpy_0, up_same]
            exact m4
          · refine eB.f (by rw [nI_add, show (20 : Int32) = nI 20 from rfl, nI_leI (by omega) (by omega)]; omega) ?_
            exact eR.int (hful (Or.inr (by omega)))
      | succ d ih =>
        intro q c x x4 S4 l4 hq hx hx4 hc hcq f4 m4
        subst hx hx4
        refine Gd.of (ckX8 _ _) tX8_takesHead_ok (cuts := thC) 80 ?_
        refine eG.i m4.obj rfl ?_
        refine eL.i (i := nI m) m4.a19 hin ?_
        rw [e19]
        refine eB.f (by rw [nI_leI (by omega) (by omega)]; omega) ?_
        refine ⟨rfl, Nat.le_of_ble_eq_true rfl, ?_⟩
        refine eV.i m4.obj ?_
        refine eC.z (c_M_isAgainst (f := q) m4 r0 hm (by show q < fn; omega) (hlP q (by omega)) bi (by omega) (by omega) hi hs hl (hrow g0)) ⟨rfl, rfl⟩ ⟨Nat.le_of_ble_eq_true rfl, Nat.le_of_ble_eq_true rfl⟩ ⟨Nat.zero_le _, Nat.zero_le _⟩ (fun v S5 hk => ?_)
        obtain ⟨rfl, rfl⟩ := hk
        by_cases z : bel row (pF q)
        · rw [cntN_t z] at hc
          rw [show pI (bel row ((((hn, fn, rn, nr, nc), hF, pF, fH, rF) : Mo).2.2.1 q)) = 1 from pI_t z]
          refine eB.f (by decide) ?_
          exact ih (q + 1) (c + 1) _ _ _ l4 (by omega) (nI_1 q) (nI_1 c) (by omega) (by omega) f4 m4
        · rw [cntN_f z] at hc
          rw [show pI (bel row ((((hn, fn, rn, nr, nc), hF, pF, fH, rF) : Mo).2.2.1 q)) = 0 from pI_f z]
          refine eB.t rfl ?_
          exact ih (q + 1) c _ _ _ l4 (by omega) (nI_1 q) (Int32.add_zero _) hc (by omega) f4 m4
    -- one like it, forks
    have k17 : ∀ (A0 : AA), Am A A0 m → RM1 A0 m ((hn, fn, rn, nr, nc), hF, pF, fH, rF) → ∀ (d q c : Nat) (x x4 : Int32) (S4 : mS) (l4 : List Int32), q + d = hn → x = nI q → x4 = nI c → (∀ j, j < q → ¬ same (hF j) 0 row 0 37) → c + cntN (fun i => same (hF i) 0 row 0 5) d q = (recF hn hF row).length → c ≤ q → fr S S4 (xD M) → Md G S4 M A0 l4 nl nn nd →
        Gd G (miX8 false (some .int)) cX8_takesHead 7 (rmD 6) 0 0 (thK G S M A nl nn nd m (tkS K ((hn, fn, rn, nr, nc), hF, pF, fH, rF) row)) 17 [(0, .ref M), (1, .int (nI m)), (2, .ref (M + i)), (3, .int (nI s)), (4, .int x4), (5, .int x)] [] (0, 0) S4 := by
      intro A0 g0 r0 d
      have e18m : A0 18 (nI m).toNatClampNeg = nI hn := by rw [hcl]; exact r0.2.1.1
      induction d with
      | zero =>
        intro q c x x4 S4 l4 hq hx hx4 hnl hc hcq f4 m4
        subst hx hx4
        rw [show cntN (fun i => same (hF i) 0 row 0 5) 0 q = 0 from rfl, Nat.add_zero] at hc
        refine Gd.of (ckX8 _ _) tX8_takesHead_ok (cuts := thC) 80 ?_
        refine eG.i m4.obj rfl ?_
        refine eL.i (i := nI m) m4.a18 hin ?_
        rw [e18m]
        refine eB.t (by rw [nI_leI (by omega) (by omega)]; omega) ?_
        refine k88 (fun z => ?_) A0 g0 r0 fn 0 c _ _ S4 l4 (by omega) rfl rfl (by rw [hc, recL_len fn 0]) (by omega) f4 m4
        obtain ⟨j, j1, j2⟩ := z
        exact hnl j (by omega) j2
      | succ d ih =>
        intro q c x x4 S4 l4 hq hx hx4 hnl hc hcq f4 m4
        subst hx hx4
        have e5 := eq5 q m4 g0 r0 (by omega) (hlF q (by omega))
        have bH : bl (hF q) := m4.bl (q := 16) (a := 900 * m + 45 * q) rfl (by decide) (fun x hx => r0.2.2.1 q (show q < hn by omega) x (by rw [hlF q (by omega)] at hx; exact hx))
        have s37 := same37 (hlF q (by omega)) (by omega) bH bR
        refine Gd.of (ckX8 _ _) tX8_takesHead_ok (cuts := thC) 80 ?_
        refine eG.i m4.obj rfl ?_
        refine eL.i (i := nI m) m4.a18 hin ?_
        rw [e18m]
        refine eB.f (by rw [nI_leI (by omega) (by omega)]; omega) ?_
        refine eG.i m4.obj rfl ?_
        refine ⟨Nat.le_of_ble_eq_true rfl, ?_⟩
        refine eC.z (c_M_headAt) ⟨rfl, rfl⟩ ⟨Nat.le_of_ble_eq_true rfl, Nat.le_of_ble_eq_true rfl⟩ ⟨Nat.zero_le _, Nat.zero_le _⟩ (fun v S5 hk => ?_)
        obtain ⟨rfl, rfl⟩ := hk
        refine ⟨Nat.le_of_ble_eq_true rfl, ?_⟩
        refine eC.z (c_M_isSame (i := 16) (j := i) (s := 900 * m + 45 * q) (u := s) (n := 5) m4 rfl (by decide) (by decide) (by show 900 * m + 45 * q + 5 ≤ 3600; omega) (by decide) bi (by omega) (by omega) (by omega) hi) ⟨rfl, rfl⟩ ⟨Nat.le_of_ble_eq_true rfl, Nat.le_of_ble_eq_true rfl⟩ ⟨Nat.zero_le _, Nat.zero_le _⟩ (fun v S5 hk => ?_)
        obtain ⟨rfl, rfl⟩ := hk
        by_cases z : same (hF q) 0 row 0 5
        · rw [cntN_t (P := fun i => same (hF i) 0 row 0 5) (i := q) z] at hc
          rw [pI_t (e5.1.mpr z)]
          refine eB.f (by decide) ?_
          refine eG.i m4.obj rfl ?_
          refine ⟨Nat.le_of_ble_eq_true rfl, ?_⟩
          refine eC.z (c_M_headAt) ⟨rfl, rfl⟩ ⟨Nat.le_of_ble_eq_true rfl, Nat.le_of_ble_eq_true rfl⟩ ⟨Nat.zero_le _, Nat.zero_le _⟩ (fun v S5 hk => ?_)
          obtain ⟨rfl, rfl⟩ := hk
          have hcs := c_M_isSame (i := 16) (j := i) (s := 900 * m + 45 * q + 5) (u := s + 5) (n := 32) m4 rfl (by decide) (by decide) (by show 900 * m + 45 * q + 5 + 32 ≤ 3600; omega) (by decide) bi (by omega) (by omega) (by omega) hi
          rw [← nI_add _ 5, ← nI_add s 5] at hcs
          refine ⟨Nat.le_of_ble_eq_true rfl, ?_⟩
          refine eC.z (hcs) ⟨rfl, rfl⟩ ⟨Nat.le_of_ble_eq_true rfl, Nat.le_of_ble_eq_true rfl⟩ ⟨Nat.zero_le _, Nat.zero_le _⟩ (fun v S5 hk => ?_)
          obtain ⟨rfl, rfl⟩ := hk
          by_cases z2 : same (hF q) 5 row 5 32
          · rw [pI_t (e5.2.mpr z2)]
            refine eB.f (by decide) ?_
            have e : tkH ((hn, fn, rn, nr, nc), hF, pF, fH, rF) row = (0, (hn, fn, rn, nr, nc), hF, pF, fH, rF) := if_pos ⟨q, by omega, s37.mpr ⟨z, z2⟩⟩
            rw [eSS, e]
            exact eR.int ⟨rfl, f4, A0, l4, m4, g0, r0⟩
          · rw [pI_f (fun w => z2 (e5.2.mp w))]
            refine eB.t rfl ?_
            refine ih (q + 1) (c + 1) _ _ _ l4 (by omega) (nI_1 q) (nI_1 c) (fun j hj => ?_) (by omega) (by omega) f4 m4
            by_cases e : j = q
            · rw [e]; exact fun w => z2 (s37.mp w).2
            · exact hnl j (by omega)
        · rw [cntN_f (P := fun i => same (hF i) 0 row 0 5) (i := q) z] at hc
          rw [pI_f (fun w => z (e5.1.mp w))]
          refine eB.t rfl ?_
          refine ih (q + 1) c _ _ _ l4 (by omega) (nI_1 q) rfl (fun j hj => ?_) hc (by omega) f4 m4
          by_cases e : j = q
          · rw [e]; exact fun w => z (s37.mp w).1
          · exact hnl j (by omega)
    refine mCon.of (I := miX8 false (some .int)) (by decide) rfl rfl (fun h => by cases h) (fun _ => rfl) (Nat.le_of_ble_eq_true rfl) ?_
    show Gd _ _ _ _ _ _ _ _ 0 [(0, .ref M), (1, .int (nI m)), (2, .ref (M + i)), (3, .int (nI s))] [] (0, 0) _
    refine Gd.of (ckX8 _ _) tX8_takesHead_ok (cuts := thC) 80 ?_
    refine ⟨rfl, Nat.le_of_ble_eq_true rfl, ?_⟩
    refine eV.i hd.obj ?_
    refine eC.z (c_M_isSigned hd hK bK bi i7 (by omega) hs hi hl hr0) ⟨rfl, rfl⟩ ⟨Nat.le_of_ble_eq_true rfl, Nat.le_of_ble_eq_true rfl⟩ ⟨Nat.zero_le _, Nat.zero_le _⟩ (fun v S1 hk => ?_)
    obtain ⟨rfl, f1, l1, H1, m1⟩ := hk
    rw [pI_t sg]
    refine eB.f (by decide) ?_
    exact k17 _ Am.h7 hR.h7 hn 0 0 _ _ S1 l1 (by omega) rfl rfl (fun j hj => absurd hj (Nat.not_lt_zero j)) (by rw [recL_len hn 0]; omega) (by omega) f1 m1
  · have eSS : tkS K ((hn, fn, rn, nr, nc), hF, pF, fH, rF) row = (-1, (hn, fn, rn, nr, nc), hF, pF, fH, rF) := if_neg sg
    refine mCon.of (I := miX8 false (some .int)) (by decide) rfl rfl (fun h => by cases h) (fun _ => rfl) (Nat.le_of_ble_eq_true rfl) ?_
    show Gd _ _ _ _ _ _ _ _ 0 [(0, .ref M), (1, .int (nI m)), (2, .ref (M + i)), (3, .int (nI s))] [] (0, 0) _
    refine Gd.of (ckX8 _ _) tX8_takesHead_ok (cuts := thC) 80 ?_
    refine ⟨rfl, Nat.le_of_ble_eq_true rfl, ?_⟩
    refine eV.i hd.obj ?_
    refine eC.z (c_M_isSigned hd hK bK bi i7 (by omega) hs hi hl hr0) ⟨rfl, rfl⟩ ⟨Nat.le_of_ble_eq_true rfl, Nat.le_of_ble_eq_true rfl⟩ ⟨Nat.zero_le _, Nat.zero_le _⟩ (fun v S1 hk => ?_)
    obtain ⟨rfl, f1, l1, H1, m1⟩ := hk
    rw [pI_f sg, eSS]
    refine eB.t rfl ?_
    exact eR.int ⟨rfl, f1, _, l1, m1, Am.h7, hR.h7⟩
end TKH
