/-! the reference takes a proof -/
def tpC : Nat → Option Nat := nd 100 (nd 30 (lf 9 5) (lf 60 6)) (nd 200 (lf 153 7) (nd 280 (lf 230 8) (lf 315 8)))
section TKP
variable {G : mG} {S S' : mS} {M nl nn nd m hn fn rn q : Nat} {nr nc : Int32} {A : AA} {l t K : List Int32} {hF pF : Nat → List Int32} {fH : Nat → Int32} {rF : Nat → Nat → Int32}
theorem fstN_no {P : Nat → Prop} (h : ∀ i, ¬ P i) : ∀ d i, fstN P d i = none := by
  intro d
  induction d with
  | zero => intro i; rfl
  | succ d ih => intro i; rw [fstN_f (h i)]; exact ih (i + 1)
theorem accR_eq {o : Mo} : accR o t = fstN (fun i => ∃ root, prf t 9 (hcN 1 t) (num4 t 1) (num4 t 5) = some root ∧ accP (o.2.1 i) t root) o.1.1 0 := by
  unfold accR
  cases e : prf t 9 (hcN 1 t) (num4 t 1) (num4 t 5) with
  | none =>
    rw [fstN_no (fun i z => by obtain ⟨r, z, -⟩ := z; cases z)]
    rfl
  | some root =>
    have : (fun i => ∃ r, some root = some r ∧ accP (o.2.1 i) t r) = fun i => accP (o.2.1 i) t root := by
      funext i
      apply propext
      constructor
      · intro z
        obtain ⟨r, z1, z2⟩ := z
        rw [Option.some.inj z1]
        exact z2
      · intro z
        exact ⟨root, rfl, z⟩
    rw [this]
    rfl
set_option maxHeartbeats 1000000 in
theorem c_M_takesProof (hd : Md G S M A l nl nn nd) (hR : RM1 A m ((hn, fn, rn, nr, nc), hF, pF, fH, rF)) (hO : okM K ((hn, fn, rn, nr, nc), hF, pF, fH, rF)) (hm : m < 4) (hq : q < 60) (hw : Wr A q 1 t) (hk : okL 1 t) :
    mCon G yX8_takesProof cX8_takesProof 8 (some .int) (rmD 6) [.ref M, .int (nI m), .int (nI q)] S (thK G S M A nl nn nd m (tkP ((hn, fn, rn, nr, nc), hF, pF, fH, rF) t (accR ((hn, fn, rn, nr, nc), hF, pF, fH, rF) t))) := by
  have hz := hR.1
  have hz1 : hn ≤ 20 := hz.1
  have hz2 : fn ≤ 12 := hz.2.1
  have hz3 : rn ≤ 20 := hz.2.2
  obtain ⟨o1, o2, o3⟩ := hO
  have hlF : ∀ q, q < hn → (hF q).length = 45 := fun q hq => (o1 q hq).1
  have hlt : 41 ≤ t.length ∧ t.length ≤ 297 := by
    rcases hk with ⟨e, -⟩ | ⟨-, c, c8, e⟩ | ⟨e, -⟩
    · exact absurd e (by decide)
    · omega
    · exact absurd e (by decide)
  have hlP : ∀ q, q < fn → 41 ≤ (pF q).length := fun q hq => by
    rcases (o2 q hq).1 with ⟨e, -⟩ | ⟨-, c, -, e⟩ | ⟨e, -⟩
    · exact absurd e (by decide)
    · have e' : (pF q).length = 41 + 32 * c := e
      omega
    · exact absurd e (by decide)
  have bt : bl t := hd.bl (q := 11) (a := 400 * q) rfl (by decide) hw.2.2.2
  have hin : vp_in (nI m) 4 := vp_in_nI (by omega) (by omega)
  have hcl : (nI m).toNatClampNeg = m := nI_clamp (by omega)
  have hinq : vp_in (nI q) 60 := vp_in_nI (by omega) (by omega)
  have hclq : (nI q).toNatClampNeg = q := nI_clamp (by omega)
  have e4 : 400 * nI q = nI (400 * q) := by rw [show (400 : Int32) = nI 400 from rfl, pk_mul]
  -- the records
  have k315 : ∀ j, accR ((hn, fn, rn, nr, nc), hF, pF, fH, rF) t = some j → j < hn → (¬ ∃ i, i < fn ∧ lik (pF i) t ∧ fH i = nI j) → fn < 12 → rn + (recA hn fn hF (nI j) t).length ≤ 20 → ∀ (d i : Nat) (x x5 : Int32) (L : List q4) (S4 : mS) (A4 : AA) (l4 : List Int32), i + d = hn → x = nI i → L ++ recL (fun i => bel (hF i) t) (fun i => ((2 : Int32), nI i, nI j, nI fn)) d i = recA hn fn hF (nI j) t → fr S S4 (xD M) → Md G S4 M A4 l4 nl nn nd → Am A A4 m → RM1 A4 m ((hn, fn + 1, rn + L.length, nr, nc), hF, va_up pF fn t, upd fH fn (nI j), rputs rF rn L) →
      Gd G (miX8 false (some .int)) cX8_takesProof 8 (rmD 6) 0 0 (thK G S M A nl nn nd m (tkP ((hn, fn, rn, nr, nc), hF, pF, fH, rF) t (accR ((hn, fn, rn, nr, nc), hF, pF, fH, rF) t))) 315 [(0, .ref M), (1, .int (nI m)), (2, .int (nI q)), (3, .int (nI (400 * q))), (4, .int (nI j)), (5, .int x5), (6, .int (nI fn)), (7, .int x)] [] (0, 0) S4 := by
    intro j ej hj hno h12 hle d
    induction d with
    | zero =>
      intro i x x5 L S4 A4 l4 hi hx hL f4 m4 g4 r4
      subst hx
      rw [show recL (fun i => bel (hF i) t) (fun i => ((2 : Int32), nI i, nI j, nI fn)) 0 i = [] from rfl, List.append_nil] at hL
      subst hL
      have e18 : A4 18 (nI m).toNatClampNeg = nI hn := by rw [hcl]; exact r4.2.1.1
      refine Gd.of (ckX8 _ _) tX8_takesProof_ok (cuts := tpC) 80 ?_
      refine eG.i m4.obj rfl ?_
      refine eL.i (i := nI m) m4.a18 hin ?_
      rw [e18]
      refine eB.t (by rw [nI_leI (by omega) (by omega)]; omega) ?_
      have e : tkP ((hn, fn, rn, nr, nc), hF, pF, fH, rF) t (some j) = (1, (hn, fn + 1, rn + (recA hn fn hF (nI j) t).length, nr, nc), hF, va_up pF fn t, upd fH fn (nI j), rputs rF rn (recA hn fn hF (nI j) t)) := (if_neg hno).trans (if_neg (by omega))
      rw [ej, e]
      exact eR.int ⟨rfl, f4, A4, l4, m4, g4, r4⟩
    | succ d ih =>
      intro i x x5 L S4 A4 l4 hi hx hL f4 m4 g4 r4
      subst hx
      have e18 : A4 18 (nI m).toNatClampNeg = nI hn := by rw [hcl]; exact r4.2.1.1
      refine Gd.of (ckX8 _ _) tX8_takesProof_ok (cuts := tpC) 80 ?_
      refine eG.i m4.obj rfl ?_
      refine eL.i (i := nI m) m4.a18 hin ?_
      rw [e18]
      refine eB.f (by rw [nI_leI (by omega) (by omega)]; omega) ?_
      refine ⟨rfl, Nat.le_of_ble_eq_true rfl, ?_⟩
      refine eV.i m4.obj ?_
      refine eC.z (c_M_isOther (i := i) m4 r4 hm (by show i < hn; omega) (hlF i (by omega)) hq (hw.am g4) hlt.1) ⟨rfl, rfl⟩ ⟨Nat.le_of_ble_eq_true rfl, Nat.le_of_ble_eq_true rfl⟩ ⟨Nat.zero_le _, Nat.zero_le _⟩ (fun v S5 hk => ?_)
      obtain ⟨rfl, rfl⟩ := hk
      by_cases z : bel (hF i) t
      · rw [recL_t (P := fun i => bel (hF i) t) (i := i) z] at hL
        have hlen : (L ++ [((2 : Int32), nI i, nI j, nI fn)] ++ recL (fun i => bel (hF i) t) (fun i => ((2 : Int32), nI i, nI j, nI fn)) d (i + 1)).length = (recA hn fn hF (nI j) t).length := by rw [List.append_assoc]; exact congrArg List.length hL
        rw [List.length_append, List.length_append, List.length_singleton] at hlen
        rw [show pI (bel ((((hn, fn + 1, rn + L.length, nr, nc), hF, va_up pF fn t, upd fH fn (nI j), rputs rF rn L) : Mo).2.1 i) t) = 1 from pI_t z]
        refine eB.f (by decide) ?_
        refine ⟨rfl, Nat.le_of_ble_eq_true rfl, ?_⟩
        refine eV.i m4.obj ?_
        refine eC.z (c_M_records (rn := rn + L.length) (q := ((2 : Int32), nI i, nI j, nI fn)) m4 hm (by omega) r4.2.1.2.2.1) ⟨rfl, rfl⟩ ⟨Nat.le_of_ble_eq_true rfl, Nat.le_of_ble_eq_true rfl⟩ ⟨Nat.zero_le _, Nat.zero_le _⟩ (fun v S6 hk => ?_)
        obtain ⟨rfl, f6, m6⟩ := hk
        refine ih (i + 1) _ _ (L ++ [((2 : Int32), nI i, nI j, nI fn)]) S6 _ l4 (by omega) (nI_1 i) (by rw [← hL, List.append_assoc]) (f4.tr f6) m6 (g4.tr (Am.rec (by omega))) ?_
        have r6 := r4.rec (q := ((2 : Int32), nI i, nI j, nI fn)) (by omega)
        rw [rputs_app, List.length_append, List.length_singleton]
        exact r6
      · rw [recL_f (P := fun i => bel (hF i) t) (i := i) z] at hL
        rw [show pI (bel ((((hn, fn + 1, rn + L.length, nr, nc), hF, va_up pF fn t, upd fH fn (nI j), rputs rF rn L) : Mo).2.1 i) t) = 0 from pI_f z]
        refine eB.t rfl ?_
        exact ih (i + 1) _ _ L _ A4 l4 (by omega) (nI_1 i) hL f4 m4 g4 r4
  -- the proof is written
  have k230 : ∀ j, accR ((hn, fn, rn, nr, nc), hF, pF, fH, rF) t = some j → j < hn → (¬ ∃ i, i < fn ∧ lik (pF i) t ∧ fH i = nI j) → fn < 12 → rn + (recA hn fn hF (nI j) t).length ≤ 20 → ∀ (A0 : AA), Am A A0 m → RM1 A0 m ((hn, fn, rn, nr, nc), hF, pF, fH, rF) → (∀ j, isB (A0 17 j)) → ∀ (d i : Nat) (x x5 : Int32) (S4 : mS) (l4 : List Int32), i + d = t.length → x = nI i → fr S S4 (xD M) → Md G S4 M (va_up A0 17 (va_cpy (A0 11) (A0 17) (400 * q) (4800 * m + 400 * fn) i)) l4 nl nn nd →
      Gd G (miX8 false (some .int)) cX8_takesProof 8 (rmD 6) 0 0 (thK G S M A nl nn nd m (tkP ((hn, fn, rn, nr, nc), hF, pF, fH, rF) t (accR ((hn, fn, rn, nr, nc), hF, pF, fH, rF) t))) 230 [(0, .ref M), (1, .int (nI m)), (2, .int (nI q)), (3, .int (nI (400 * q))), (4, .int (nI j)), (5, .int x5), (6, .int (nI fn)), (7, .int x)] [] (0, 0) S4 := by
    intro j ej hj hno h12 hle A0 g0 r0 b0 d
    have w0 := hw.am g0
    have gq : ∀ i, i ≤ 400 → Am A (va_up A0 17 (va_cpy (A0 11) (A0 17) (400 * q) (4800 * m + 400 * fn) i)) m := by
      intro i hi
      refine g0.tr ⟨fun k _ b => up_n (by omega), fun j _ => by rw [up_n (by decide)], fun j hj => by rw [up_s, pk_cpy_out (by omega)], fun k a b j _ => by rw [up_n (by omega)], fun k a b j _ => by rw [up_n (by omega)], fun k a b j _ => by rw [up_n (by omega)]⟩
    induction d with
    | zero =>
      intro i x x5 S4 l4 hi hx f4 m4
      subst hx
      have e : i = t.length := by omega
      subst e
      have e13 : va_up A0 17 (va_cpy (A0 11) (A0 17) (400 * q) (4800 * m + 400 * fn) t.length) 13 q = nI t.length := by rw [up_n (by decide)]; exact w0.2.1
      have e12 : 12 * nI m + nI fn = nI (12 * m + fn) := by rw [show (12 : Int32) = nI 12 from rfl, pk_mul, nI_add]
      have hin2 : vp_in (12 * nI m + nI fn) 48 := by rw [e12]; exact vp_in_nI (by omega) (by omega)
      have hcl2 : (12 * nI m + nI fn).toNatClampNeg = 12 * m + fn := by rw [e12, nI_clamp (by omega)]
      refine Gd.of (ckX8 _ _) tX8_takesProof_ok (cuts := tpC) 80 ?_
      refine eG.i m4.obj rfl ?_
      refine eL.i (i := nI q) m4.a13 hinq ?_
      rw [hclq, e13]
      refine eB.t (by rw [nI_leI (by omega) (by omega)]; omega) ?_
      refine eG.i m4.obj rfl ?_
      refine eG.i m4.obj rfl ?_
      refine eL.i (i := nI q) m4.a13 hinq ?_
      refine eS.i (i := 12 * nI m + nI fn) m4.a23 hin2 ?_
      rw [hclq, e13, hcl2, up_n (by decide)]
      have m5 := m4.s23 (f := upd (A0 23) (12 * m + fn) (nI t.length))
      refine eG.i m5.obj rfl ?_
      refine eS.i (i := 12 * nI m + nI fn) m5.a24 hin2 ?_
      rw [hcl2, up_n (by decide), up_n (by decide)]
      have m6 := m5.s24 (f := upd (A0 24) (12 * m + fn) (nI j))
      refine eG.i m6.obj rfl ?_
      refine eL.i (i := nI m) m6.a19 hin ?_
      refine eS.i (i := nI m) m6.a19 hin ?_
      rw [hcl, up_n (by decide), up_n (by decide), up_n (by decide), show A0 19 m = nI fn from r0.2.1.2.1, nI_1]
      have m7 := m6.s19 (f := upd (A0 19) m (nI (fn + 1)))
      have un : ∀ k, k ≠ 17 → k ≠ 23 → k ≠ 24 → k ≠ 19 → va_up (va_up (va_up (va_up A0 17 (va_cpy (A0 11) (A0 17) (400 * q) (4800 * m + 400 * fn) t.length)) 23 (upd (A0 23) (12 * m + fn) (nI t.length))) 24 (upd (A0 24) (12 * m + fn) (nI j))) 19 (upd (A0 19) m (nI (fn + 1))) k = A0 k := fun k a b c d => by rw [up_n d, up_n c, up_n b, up_n a]
      refine k315 j ej hj hno h12 hle hn 0 _ _ [] _ _ l4 (by omega) rfl rfl (((f4.tr (xD_up (by omega))).tr (xD_up (by omega))).tr (xD_up (by omega))) m7 (g0.tr ⟨fun k _ b => un k (by omega) (by omega) (by omega) (by omega), fun j _ => by rw [un 16 (by decide) (by decide) (by decide) (by decide)], fun j hj => ?_, fun k a b j hj => ?_, fun k a b j hj => ?_, fun k a b j _ => by rw [un k (by omega) (by omega) (by omega) (by omega)]⟩) ?_
      · rw [up_n (by decide), up_n (by decide), up_n (by decide), up_s, pk_cpy_out (by omega)]
      · by_cases e : k = 19
        · rw [e, up_s, pk_un hj]
        · rw [un k (by omega) (by omega) (by omega) e]
      · have : k = 23 ∨ k = 24 := by omega
        rcases this with e | e <;> subst e
        · rw [up_n (by decide), up_n (by decide), up_s, pk_un (by omega)]
        · rw [up_n (by decide), up_s, pk_un (by omega)]
      · obtain ⟨z0, ⟨a1, a2, a3, a4, a5⟩, h3, h4, h5⟩ := r0
        refine ⟨⟨hz1, h12, hz3⟩, ⟨?_, ?_, ?_, ?_, ?_⟩, fun k hk j hj => ?_, fun k hk => ?_, fun k hk => ?_⟩
        · rw [un 18 (by decide) (by decide) (by decide) (by decide)]; exact a1
        · rw [up_s, pk_us]
        · rw [un 20 (by decide) (by decide) (by decide) (by decide)]; exact a3
        · rw [un 21 (by decide) (by decide) (by decide) (by decide)]; exact a4
        · rw [un 22 (by decide) (by decide) (by decide) (by decide)]; exact a5
        · rw [un 16 (by decide) (by decide) (by decide) (by decide)]; exact h3 k hk j hj
        · have hk' : k < fn + 1 := hk
          rw [up_n (show 23 ≠ 19 by decide), up_n (show 23 ≠ 24 by decide), up_s, up_n (show 24 ≠ 19 by decide), up_s, up_n (show 17 ≠ 19 by decide), up_n (show 17 ≠ 24 by decide), up_n (show 17 ≠ 23 by decide), up_s]
          by_cases e : k = fn
          · subst e
            show _ = nI (va_up pF k t k).length ∧ _ = upd fH k (nI j) k ∧ (va_up pF k t k).length ≤ 400 ∧ ∀ y, y < (va_up pF k t k).length → _ = (va_up pF k t k).getD y 0
            rw [up_s, pk_us, pk_us, pk_us]
            refine ⟨rfl, rfl, by omega, fun y hy => ?_⟩
            rw [pk_cpy_in (by omega) (by omega), show 4800 * m + 400 * k + y - (4800 * m + 400 * k) = y by omega]
            exact w0.2.2.2 y hy
          · show _ = nI (va_up pF fn t k).length ∧ _ = upd fH fn (nI j) k ∧ (va_up pF fn t k).length ≤ 400 ∧ ∀ y, y < (va_up pF fn t k).length → _ = (va_up pF fn t k).getD y 0
            obtain ⟨b1, b2, b3, b4⟩ := h4 k (show k < fn by omega)
            rw [up_n e, pk_un (by omega), pk_un (by omega), pk_un (by omega)]
            refine ⟨b1, b2, b3, fun y hy => ?_⟩
            have b3' : (pF k).length ≤ 400 := b3
            rw [pk_cpy_out (by omega)]
            exact b4 y hy
        · rw [un 25 (by decide) (by decide) (by decide) (by decide), un 26 (by decide) (by decide) (by decide) (by decide), un 27 (by decide) (by decide) (by decide) (by decide), un 28 (by decide) (by decide) (by decide) (by decide)]
          exact h5 k hk
    | succ d ih =>
      intro i x x5 S4 l4 hi hx f4 m4
      subst hx
      have e13 : va_up A0 17 (va_cpy (A0 11) (A0 17) (400 * q) (4800 * m + 400 * fn) i) 13 q = nI t.length := by rw [up_n (by decide)]; exact w0.2.1
      have e1 : nI (400 * q) + nI i = nI (400 * q + i) := nI_add _ _
      have e2 : nI (4800 * m + 400 * fn) + nI i = nI (4800 * m + 400 * fn + i) := nI_add _ _
      refine Gd.of (ckX8 _ _) tX8_takesProof_ok (cuts := tpC) 80 ?_
      refine eG.i m4.obj rfl ?_
      refine eL.i (i := nI q) m4.a13 hinq ?_
      rw [hclq, e13]
      refine eB.f (by rw [nI_leI (by omega) (by omega)]; omega) ?_
      refine eG.i m4.obj rfl ?_
      refine ⟨Nat.le_of_ble_eq_true rfl, ?_⟩
      refine eC.z (c_M_factAt) ⟨rfl, rfl⟩ ⟨Nat.le_of_ble_eq_true rfl, Nat.le_of_ble_eq_true rfl⟩ ⟨Nat.zero_le _, Nat.zero_le _⟩ (fun v S5 hk => ?_)
      obtain ⟨rfl, rfl⟩ := hk
      refine eG.i m4.obj rfl ?_
      refine eLb.i (i := nI (400 * q) + nI i) m4.a11 (by rw [e1]; exact vp_in_nI (by omega) (by omega)) ?_
      refine eSb.i (i := nI (4800 * m + 400 * fn) + nI i) m4.a17 (by rw [e2]; exact vp_in_nI (by omega) (by omega)) ?_
      have ev : va_up A0 17 (va_cpy (A0 11) (A0 17) (400 * q) (4800 * m + 400 * fn) i) 11 (400 * q + i) = A0 11 (400 * q + i) := by rw [up_n (by decide)]
      have eb : (A0 11 (400 * q + i)).toInt8.toInt32 = A0 11 (400 * q + i) := by rw [← ev]; exact m4.isb rfl (by decide) _
      rw [e1, e2, nI_clamp (by omega), nI_clamp (by omega), ev, eb, up_s, cpy_succ]
      have m5 := m4.s17 (f := va_cpy (A0 11) (A0 17) (400 * q) (4800 * m + 400 * fn) (i + 1)) (fun j => by
        unfold va_cpy
        split
        · have := m4.isb (i := 11) rfl (by decide) (400 * q + (j - (4800 * m + 400 * fn)))
          rw [up_n (by decide)] at this
          exact this
        · exact b0 _)
      rw [up_up] at m5
      exact ih (i + 1) _ _ _ l4 (by omega) (nI_1 i) (f4.tr (xD_up (by omega))) m5
  -- is there room
  have k153 : ∀ j, accR ((hn, fn, rn, nr, nc), hF, pF, fH, rF) t = some j → j < hn → (¬ ∃ i, i < fn ∧ lik (pF i) t ∧ fH i = nI j) → ∀ (A0 : AA), Am A A0 m → RM1 A0 m ((hn, fn, rn, nr, nc), hF, pF, fH, rF) → ∀ (d i c : Nat) (x x5 : Int32) (S4 : mS) (l4 : List Int32), i + d = hn → x = nI i → x5 = nI c → c + cntN (fun i => bel (hF i) t) d i = (recA hn fn hF (nI j) t).length → c ≤ i → fr S S4 (xD M) → Md G S4 M A0 l4 nl nn nd →
      Gd G (miX8 false (some .int)) cX8_takesProof 8 (rmD 6) 0 0 (thK G S M A nl nn nd m (tkP ((hn, fn, rn, nr, nc), hF, pF, fH, rF) t (accR ((hn, fn, rn, nr, nc), hF, pF, fH, rF) t))) 153 [(0, .ref M), (1, .int (nI m)), (2, .int (nI q)), (3, .int (nI (400 * q))), (4, .int (nI j)), (5, .int x5), (6, .int x)] [] (0, 0) S4 := by
    intro j ej hj hno A0 g0 r0 d
    have e18 : A0 18 (nI m).toNatClampNeg = nI hn := by rw [hcl]; exact r0.2.1.1
    have e19 : A0 19 (nI m).toNatClampNeg = nI fn := by rw [hcl]; exact r0.2.1.2.1
    have e20 : A0 20 (nI m).toNatClampNeg = nI rn := by rw [hcl]; exact r0.2.1.2.2.1
    induction d with
    | zero =>
      intro i c x x5 S4 l4 hi hx hx5 hc hci f4 m4
      subst hx hx5
      rw [show cntN (fun i => bel (hF i) t) 0 i = 0 from rfl, Nat.add_zero] at hc
      refine Gd.of (ckX8 _ _) tX8_takesProof_ok (cuts := tpC) 80 ?_
      refine eG.i m4.obj rfl ?_
      refine eL.i (i := nI m) m4.a18 hin ?_
      rw [e18]
      refine eB.t (by rw [nI_leI (by omega) (by omega)]; omega) ?_
      refine eG.i m4.obj rfl ?_
      refine eL.i (i := nI m) m4.a19 hin ?_
      rw [e19]
      have hful : (fn = 12 ∨ 20 < rn + (recA hn fn hF (nI j) t).length) → thK G S M A nl nn nd m (tkP ((hn, fn, rn, nr, nc), hF, pF, fH, rF) t (accR ((hn, fn, rn, nr, nc), hF, pF, fH, rF) t)) (some (.int (-3))) S4 := by
        intro z
        have e : tkP ((hn, fn, rn, nr, nc), hF, pF, fH, rF) t (some j) = (-3, (hn, fn, rn, nr, nc), hF, pF, fH, rF) := (if_neg hno).trans (if_pos z)
        rw [ej, e]
        exact ⟨rfl, f4, A0, l4, m4, g0, r0⟩
      by_cases z1 : fn = 12
      · refine eB.t (by rw [z1]; rfl) ?_
        exact eR.int (hful (Or.inl z1))
      · refine eB.f (by rw [show (12 : Int32) = nI 12 from rfl, nI_eq (by omega) (by omega)]; exact z1) ?_
        refine eG.i m4.obj rfl ?_
        refine eL.i (i := nI m) m4.a20 hin ?_
        rw [e20]
        by_cases z2 : rn + c ≤ 20
        · refine eB.t (by rw [nI_add, show (20 : Int32) = nI 20 from rfl, nI_leI (by omega) (by omega)]; omega) ?_
          refine eG.i m4.obj rfl ?_
          refine eL.i (i := nI m) m4.a19 hin ?_
          rw [e19]
          refine k230 j ej hj hno (by omega) (by omega) A0 g0 r0 (fun j => m4.isb rfl (by decide) j) t.length 0 _ _ S4 l4 (by omega) rfl f4 ?_
          rw [cpy_0, up_same]
          exact m4
        · refine eB.f (by rw [nI_add, show (20 : Int32) = nI 20 from rfl, nI_leI (by omega) (by omega)]; omega) ?_
          exact eR.int (hful (Or.inr (by omega)))
    | succ d ih =>
      intro i c x x5 S4 l4 hi hx hx5 hc hci f4 m4
      subst hx hx5
      refine Gd.of (ckX8 _ _) tX8_takesProof_ok (cuts := tpC) 80 ?_
      refine eG.i m4.obj rfl ?_
      refine eL.i (i := nI m) m4.a18 hin ?_
      rw [e18]
      refine eB.f (by rw [nI_leI (by omega) (by omega)]; omega) ?_
      refine ⟨rfl, Nat.le_of_ble_eq_true rfl, ?_⟩
      refine eV.i m4.obj ?_
      refine eC.z (c_M_isOther (i := i) m4 r0 hm (by show i < hn; omega) (hlF i (by omega)) hq (hw.am g0) hlt.1) ⟨rfl, rfl⟩ ⟨Nat.le_of_ble_eq_true rfl, Nat.le_of_ble_eq_true rfl⟩ ⟨Nat.zero_le _, Nat.zero_le _⟩ (fun v S5 hk => ?_)
      obtain ⟨rfl, rfl⟩ := hk
      by_cases z : bel (hF i) t
      · rw [cntN_t (P := fun i => bel (hF i) t) (i := i) z] at hc
        rw [show pI (bel ((((hn, fn, rn, nr, nc), hF, pF, fH, rF) : Mo).2.1 i) t) = 1 from pI_t z]
        refine eB.f (by decide) ?_
        exact ih (i + 1) (c + 1) _ _ _ l4 (by omega) (nI_1 i) (nI_1 c) (by omega) (by omega) f4 m4
      · rw [cntN_f (P := fun i => bel (hF i) t) (i := i) z] at hc
        rw [show pI (bel ((((hn, fn, rn, nr, nc), hF, pF, fH, rF) : Mo).2.1 i) t) = 0 from pI_f z]
        refine eB.t rfl ?_
        exact ih (i + 1) c _ _ _ l4 (by omega) (nI_1 i) (Int32.add_zero _) hc (by omega) f4 m4
  -- is there one like it
  have k60 : ∀ j, accR ((hn, fn, rn, nr, nc), hF, pF, fH, rF) t = some j → j < hn → ∀ (A0 : AA), Am A A0 m → RM1 A0 m ((hn, fn, rn, nr, nc), hF, pF, fH, rF) → ∀ (d i : Nat) (x : Int32) (S4 : mS) (l4 : List Int32), i + d = fn → x = nI i → (∀ g, g < i → ¬ (lik (pF g) t ∧ fH g = nI j)) → fr S S4 (xD M) → Md G S4 M A0 l4 nl nn nd →
      Gd G (miX8 false (some .int)) cX8_takesProof 8 (rmD 6) 0 0 (thK G S M A nl nn nd m (tkP ((hn, fn, rn, nr, nc), hF, pF, fH, rF) t (accR ((hn, fn, rn, nr, nc), hF, pF, fH, rF) t))) 60 [(0, .ref M), (1, .int (nI m)), (2, .int (nI q)), (3, .int (nI (400 * q))), (4, .int (nI j)), (5, .int x)] [] (0, 0) S4 := by
    intro j ej hj A0 g0 r0 d
    have e19 : A0 19 (nI m).toNatClampNeg = nI fn := by rw [hcl]; exact r0.2.1.2.1
    have w0 := hw.am g0
    induction d with
    | zero =>
      intro i x S4 l4 hi hx hnl f4 m4
      subst hx
      refine Gd.of (ckX8 _ _) tX8_takesProof_ok (cuts := tpC) 80 ?_
      refine eG.i m4.obj rfl ?_
      refine eL.i (i := nI m) m4.a19 hin ?_
      rw [e19]
      refine eB.t (by rw [nI_leI (by omega) (by omega)]; omega) ?_
      refine k153 j ej hj (fun z => ?_) A0 g0 r0 hn 0 0 _ _ S4 l4 (by omega) rfl rfl (by rw [recL_len hn 0]; omega) (by omega) f4 m4
      obtain ⟨g, g1, g2⟩ := z
      exact hnl g (by omega) g2
    | succ d ih =>
      intro i x S4 l4 hi hx hnl f4 m4
      subst hx
      have e12 : 12 * nI m + nI i = nI (12 * m + i) := by rw [show (12 : Int32) = nI 12 from rfl, pk_mul, nI_add]
      obtain ⟨b1, b2, b3, b4⟩ := r0.2.2.2.1 i (show i < fn by omega)
      have b4' : ∀ j, j < (pF i).length → A0 17 (4800 * m + 400 * i + j) = (pF i).getD j 0 := b4
      have bP : bl (pF i) := m4.bl (q := 17) (a := 4800 * m + 400 * i) rfl (by decide) b4'
      have hp := hlP i (by omega)
      have w4 := w0.2.2.2
      have hnx : ¬ (lik (pF i) t ∧ fH i = nI j) → ∀ g, g < i + 1 → ¬ (lik (pF g) t ∧ fH g = nI j) := by
        intro z g hg
        by_cases e : g = i
        · rw [e]; exact z
        · exact hnl g (by omega)
      refine Gd.of (ckX8 _ _) tX8_takesProof_ok (cuts := tpC) 80 ?_
      refine eG.i m4.obj rfl ?_
      refine eL.i (i := nI m) m4.a19 hin ?_
      rw [e19]
      refine eB.f (by rw [nI_leI (by omega) (by omega)]; omega) ?_
      refine ⟨Nat.le_of_ble_eq_true rfl, ?_⟩
      refine eC.z (c_M_factAt) ⟨rfl, rfl⟩ ⟨Nat.le_of_ble_eq_true rfl, Nat.le_of_ble_eq_true rfl⟩ ⟨Nat.zero_le _, Nat.zero_le _⟩ (fun v S5 hk => ?_)
      obtain ⟨rfl, rfl⟩ := hk
      refine eG.i m4.obj rfl ?_
      refine eL.i (i := 12 * nI m + nI i) m4.a24 (by rw [e12]; exact vp_in_nI (by omega) (by omega)) ?_
      rw [show A0 24 (12 * nI m + nI i).toNatClampNeg = fH i from by rw [e12, nI_clamp (by omega)]; exact b2]
      refine eB.i (fun z0 => ?_) (fun z0 => ?_)
      · refine eG.i m4.obj rfl ?_
        refine eG.i m4.obj rfl ?_
        refine ⟨Nat.le_of_ble_eq_true rfl, ?_⟩
        refine eC.z (c_M_isSame (i := 17) (j := 11) (s := 4800 * m + 400 * i) (u := 400 * q) (n := 5) m4 rfl (by decide) (by decide) (by show 4800 * m + 400 * i + 5 ≤ 19200; omega) (by decide) rfl (by decide) (by decide) (by show 400 * q + 5 ≤ 24000; omega) (by decide)) ⟨rfl, rfl⟩ ⟨Nat.le_of_ble_eq_true rfl, Nat.le_of_ble_eq_true rfl⟩ ⟨Nat.zero_le _, Nat.zero_le _⟩ (fun v S5 hk => ?_)
        obtain ⟨rfl, rfl⟩ := hk
        have e5 : (∀ k, k < 5 → A0 17 (4800 * m + 400 * i + k) = A0 11 (400 * q + k)) ↔ same (pF i) 0 t 0 5 := by
          rw [same_iff (by omega) (by omega) bP bt (by omega) (by omega)]
          constructor
          · intro y k hk
            have := y k hk
            rw [b4' k (by omega), w4 k (by omega)] at this
            rw [Nat.zero_add]
            exact this
          · intro y k hk
            rw [b4' k (by omega), w4 k (by omega)]
            have := y k hk
            rw [Nat.zero_add] at this
            exact this
        by_cases z5 : same (pF i) 0 t 0 5
        · rw [pI_t (e5.mpr z5)]
          refine eB.f (by decide) ?_
          refine eG.i m4.obj rfl ?_
          refine eG.i m4.obj rfl ?_
          have hcs := c_M_isSame (i := 17) (j := 11) (s := 4800 * m + 400 * i + 9) (u := 400 * q + 9) (n := 32) m4 rfl (by decide) (by decide) (by show 4800 * m + 400 * i + 9 + 32 ≤ 19200; omega) (by decide) rfl (by decide) (by decide) (by show 400 * q + 9 + 32 ≤ 24000; omega) (by decide)
          rw [← nI_add (4800 * m + 400 * i) 9, ← nI_add (400 * q) 9] at hcs
          refine ⟨Nat.le_of_ble_eq_true rfl, ?_⟩
          refine eC.z (hcs) ⟨rfl, rfl⟩ ⟨Nat.le_of_ble_eq_true rfl, Nat.le_of_ble_eq_true rfl⟩ ⟨Nat.zero_le _, Nat.zero_le _⟩ (fun v S5 hk => ?_)
          obtain ⟨rfl, rfl⟩ := hk
          have e32 : (∀ k, k < 32 → A0 17 (4800 * m + 400 * i + 9 + k) = A0 11 (400 * q + 9 + k)) ↔ same (pF i) 9 t 9 32 := by
            rw [same_iff (by omega) (by omega) bP bt (by omega) (by omega)]
            constructor
            · intro y k hk
              have := y k hk
              rw [Nat.add_assoc, b4' _ (by omega), Nat.add_assoc, w4 _ (by omega)] at this
              exact this
            · intro y k hk
              rw [Nat.add_assoc, b4' _ (by omega), Nat.add_assoc, w4 _ (by omega)]
              exact y k hk
          by_cases z9 : same (pF i) 9 t 9 32
          · rw [pI_t (e32.mpr z9)]
            refine eB.f (by decide) ?_
            have e : tkP ((hn, fn, rn, nr, nc), hF, pF, fH, rF) t (some j) = (0, (hn, fn, rn, nr, nc), hF, pF, fH, rF) := if_pos ⟨i, by omega, ⟨z5, z9⟩, z0⟩
            rw [ej, e]
            exact eR.int ⟨rfl, f4, A0, l4, m4, g0, r0⟩
          · rw [pI_f (fun w => z9 (e32.mp w))]
            refine eB.t rfl ?_
            exact ih (i + 1) _ _ l4 (by omega) (nI_1 i) (hnx (fun w => z9 w.1.2)) f4 m4
        · rw [pI_f (fun w => z5 (e5.mp w))]
          refine eB.t rfl ?_
          exact ih (i + 1) _ _ l4 (by omega) (nI_1 i) (hnx (fun w => z5 w.1.1)) f4 m4
      · exact ih (i + 1) _ _ l4 (by omega) (nI_1 i) (hnx (fun w => z0 w.2)) f4 m4
  -- the first head that accepts it
  have k9 : ∀ (d i : Nat) (x x3 : Int32) (S4 : mS) (H : Nat → Int32) (l4 : List Int32), i + d = hn → x = nI i → x3 = nI (400 * q) → accR ((hn, fn, rn, nr, nc), hF, pF, fH, rF) t = fstN (fun i => ∃ root, prf t 9 (hcN 1 t) (num4 t 1) (num4 t 5) = some root ∧ accP (hF i) t root) d i → fr S S4 (xD M) → Md G S4 M (va_up A 7 H) l4 nl nn nd →
      Gd G (miX8 false (some .int)) cX8_takesProof 8 (rmD 6) 0 0 (thK G S M A nl nn nd m (tkP ((hn, fn, rn, nr, nc), hF, pF, fH, rF) t (accR ((hn, fn, rn, nr, nc), hF, pF, fH, rF) t))) 9 [(0, .ref M), (1, .int (nI m)), (2, .int (nI q)), (3, .int x3), (4, .int x)] [] (0, 0) S4 := by
    intro d
    induction d with
    | zero =>
      intro i x x3 S4 H l4 hi hx hx3 ha f4 m4
      subst hx hx3
      have e18 : va_up A 7 H 18 (nI m).toNatClampNeg = nI hn := by rw [hcl]; exact hR.h7.2.1.1
      have ei : i = hn := by omega
      subst ei
      refine Gd.of (ckX8 _ _) tX8_takesProof_ok (cuts := tpC) 80 ?_
      refine eG.i m4.obj rfl ?_
      refine eL.i (i := nI m) m4.a18 hin ?_
      rw [e18]
      refine eB.t (by rw [nI_leI (by omega) (by omega)]; omega) ?_
      refine eG.i m4.obj rfl ?_
      refine eL.i (i := nI m) m4.a18 hin ?_
      rw [e18]
      refine eB.t rfl ?_
      rw [ha]
      exact eR.int ⟨rfl, f4, _, l4, m4, Am.h7, hR.h7⟩
    | succ d ih =>
      intro i x x3 S4 H l4 hi hx hx3 ha f4 m4
      subst hx hx3
      have e18 : va_up A 7 H 18 (nI m).toNatClampNeg = nI hn := by rw [hcl]; exact hR.h7.2.1.1
      refine Gd.of (ckX8 _ _) tX8_takesProof_ok (cuts := tpC) 80 ?_
      refine eG.i m4.obj rfl ?_
      refine eL.i (i := nI m) m4.a18 hin ?_
      rw [e18]
      refine eB.f (by rw [nI_leI (by omega) (by omega)]; omega) ?_
      refine eG.i m4.obj rfl ?_
      refine ⟨Nat.le_of_ble_eq_true rfl, ?_⟩
      refine eC.z (c_M_headAt) ⟨rfl, rfl⟩ ⟨Nat.le_of_ble_eq_true rfl, Nat.le_of_ble_eq_true rfl⟩ ⟨Nat.zero_le _, Nat.zero_le _⟩ (fun v S5 hk => ?_)
      obtain ⟨rfl, rfl⟩ := hk
      refine ⟨rfl, Nat.le_of_ble_eq_true rfl, ?_⟩
      refine eV.i m4.obj ?_
      refine eC.z (c_M_acc1 (u := 900 * m + 45 * i) (hd := hF i) m4 hq hw.h7 hk (by omega) (hlF i (by omega)) (fun x hx => hR.h7.2.2.1 i (show i < hn by omega) x hx)) ⟨rfl, rfl⟩ ⟨Nat.le_of_ble_eq_true rfl, Nat.le_of_ble_eq_true rfl⟩ ⟨Nat.zero_le _, Nat.zero_le _⟩ (fun v S6 hk6 => ?_)
      obtain ⟨rfl, f6, l6, H6, m6⟩ := hk6
      rw [up_up] at m6
      by_cases z : ∃ root, prf t 9 (hcN 1 t) (num4 t 1) (num4 t 5) = some root ∧ accP (hF i) t root
      · rw [fstN_t (P := fun i => ∃ root, prf t 9 (hcN 1 t) (num4 t 1) (num4 t 5) = some root ∧ accP (hF i) t root) (i := i) z] at ha
        rw [pI_t z]
        refine eB.f (by decide) ?_
        have e18' : va_up A 7 H6 18 (nI m).toNatClampNeg = nI hn := by rw [hcl]; exact hR.h7.2.1.1
        refine eG.i m6.obj rfl ?_
        refine eL.i (i := nI m) m6.a18 hin ?_
        rw [e18']
        refine eB.f (by rw [nI_eq (by omega) (by omega)]; omega) ?_
        exact k60 i ha (by omega) _ Am.h7 hR.h7 fn 0 _ S6 l6 (by omega) rfl (fun g hg => absurd hg (Nat.not_lt_zero g)) (f4.tr f6) m6
      · rw [fstN_f (P := fun i => ∃ root, prf t 9 (hcN 1 t) (num4 t 1) (num4 t 5) = some root ∧ accP (hF i) t root) (i := i) z] at ha
        rw [pI_f z]
        refine eB.t rfl ?_
        exact ih (i + 1) _ _ S6 H6 l6 (by omega) (nI_1 i) rfl ha (f4.tr f6) m6
  refine mCon.of (I := miX8 false (some .int)) (by decide) rfl rfl (fun h => by cases h) (fun _ => rfl) (Nat.le_of_ble_eq_true rfl) ?_
  show Gd _ _ _ _ _ _ _ _ 0 [(0, .ref M), (1, .int (nI m)), (2, .int (nI q))] [] (0, 0) _
  refine Gd.of (ckX8 _ _) tX8_takesProof_ok (cuts := tpC) 80 ?_
  refine k9 hn 0 _ _ S (A 7) l (by omega) rfl e4 accR_eq fr.rf ?_
  rw [up_same]
  exact hd
end TKP
