/-! the reference's monitors: what a call may change of one of them -/
def Am (A A' : AA) (m : Nat) : Prop := (∀ i, i ≠ 7 → i < 16 ∨ 28 < i → A' i = A i) ∧ (∀ j, j < 900 * m ∨ 900 * m + 900 ≤ j → A' 16 j = A 16 j) ∧ (∀ j, j < 4800 * m ∨ 4800 * m + 4800 ≤ j → A' 17 j = A 17 j) ∧ (∀ i, 18 ≤ i → i ≤ 22 → ∀ j, j ≠ m → A' i j = A i j) ∧ (∀ i, 23 ≤ i → i ≤ 24 → ∀ j, j < 12 * m ∨ 12 * m + 12 ≤ j → A' i j = A i j) ∧ ∀ i, 25 ≤ i → i ≤ 28 → ∀ j, j < 20 * m ∨ 20 * m + 20 ≤ j → A' i j = A i j
theorem Am.rf {A : AA} {m : Nat} : Am A A m := ⟨fun _ _ _ => rfl, fun _ _ => rfl, fun _ _ => rfl, fun _ _ _ _ _ => rfl, fun _ _ _ _ _ => rfl, fun _ _ _ _ _ => rfl⟩
theorem Am.tr {A B C : AA} {m : Nat} (h : Am A B m) (g : Am B C m) : Am A C m := ⟨fun i a b => (g.1 i a b).trans (h.1 i a b), fun j a => (g.2.1 j a).trans (h.2.1 j a), fun j a => (g.2.2.1 j a).trans (h.2.2.1 j a), fun i a b j c => (g.2.2.2.1 i a b j c).trans (h.2.2.2.1 i a b j c), fun i a b j c => (g.2.2.2.2.1 i a b j c).trans (h.2.2.2.2.1 i a b j c), fun i a b j c => (g.2.2.2.2.2 i a b j c).trans (h.2.2.2.2.2 i a b j c)⟩
theorem Am.h7 {A : AA} {m : Nat} {H : Nat → Int32} : Am A (va_up A 7 H) m := ⟨fun i a _ => up_n a, fun j _ => by rw [up_n (by decide)], fun j _ => by rw [up_n (by decide)], fun i a b j _ => by rw [up_n (by omega)], fun i a b j _ => by rw [up_n (by omega)], fun i a b j _ => by rw [up_n (by omega)]⟩
theorem RM1.h7 {A : AA} {m : Nat} {o : Mo} {H : Nat → Int32} (h : RM1 A m o) : RM1 (va_up A 7 H) m o := h.cong (fun i a b => up_n (by omega))
theorem RM1.other {A A' : AA} {m q : Nat} {o : Mo} (h : RM1 A q o) (g : Am A A' m) (hq : q ≠ m) : RM1 A' q o := by
  obtain ⟨h1, ⟨a1, a2, a3, a4, a5⟩, h3, h4, h5⟩ := h
  obtain ⟨g1, g2, g3, g4, g5, g6⟩ := g
  refine ⟨h1, ⟨?_, ?_, ?_, ?_, ?_⟩, fun i hi j hj => ?_, fun i hi => ?_, fun i hi => ?_⟩
  · rw [g4 18 (by omega) (by omega) q hq]; exact a1
  · rw [g4 19 (by omega) (by omega) q hq]; exact a2
  · rw [g4 20 (by omega) (by omega) q hq]; exact a3
  · rw [g4 21 (by omega) (by omega) q hq]; exact a4
  · rw [g4 22 (by omega) (by omega) q hq]; exact a5
  · rw [g2 _ (by omega)]; exact h3 i hi j hj
  · obtain ⟨b1, b2, b3, b4⟩ := h4 i hi
    refine ⟨?_, ?_, b3, fun j hj => ?_⟩
    · rw [g5 23 (by omega) (by omega) _ (by omega)]; exact b1
    · rw [g5 24 (by omega) (by omega) _ (by omega)]; exact b2
    · rw [g3 _ (by omega)]; exact b4 j hj
  · obtain ⟨b1, b2, b3, b4⟩ := h5 i hi
    refine ⟨?_, ?_, ?_, ?_⟩
    · rw [g6 25 (by omega) (by omega) _ (by omega)]; exact b1
    · rw [g6 26 (by omega) (by omega) _ (by omega)]; exact b2
    · rw [g6 27 (by omega) (by omega) _ (by omega)]; exact b3
    · rw [g6 28 (by omega) (by omega) _ (by omega)]; exact b4
/-- a record that is written -/
def rcA (A : AA) (m rn : Nat) (q : q4) : AA := va_up (va_up (va_up (va_up (va_up A 25 (upd (A 25) (20 * m + rn) q.1)) 26 (upd (A 26) (20 * m + rn) q.2.1)) 27 (upd (A 27) (20 * m + rn) q.2.2.1)) 28 (upd (A 28) (20 * m + rn) q.2.2.2)) 20 (upd (A 20) m (nI (rn + 1)))
theorem rcA_n {A : AA} {m rn : Nat} {q : q4} {i : Nat} (h : i ≠ 20) (h2 : i < 25 ∨ 28 < i) : rcA A m rn q i = A i := by
  unfold rcA
  rw [up_n h, up_n (by omega), up_n (by omega), up_n (by omega), up_n (by omega)]
theorem rcA_20 {A : AA} {m rn : Nat} {q : q4} : rcA A m rn q 20 = upd (A 20) m (nI (rn + 1)) := by unfold rcA; rw [up_s]
theorem rcA_25 {A : AA} {m rn : Nat} {q : q4} : rcA A m rn q 25 = upd (A 25) (20 * m + rn) q.1 := by unfold rcA; rw [up_n (by decide), up_n (by decide), up_n (by decide), up_n (by decide), up_s]
theorem rcA_26 {A : AA} {m rn : Nat} {q : q4} : rcA A m rn q 26 = upd (A 26) (20 * m + rn) q.2.1 := by unfold rcA; rw [up_n (by decide), up_n (by decide), up_n (by decide), up_s]
theorem rcA_27 {A : AA} {m rn : Nat} {q : q4} : rcA A m rn q 27 = upd (A 27) (20 * m + rn) q.2.2.1 := by unfold rcA; rw [up_n (by decide), up_n (by decide), up_s]
theorem rcA_28 {A : AA} {m rn : Nat} {q : q4} : rcA A m rn q 28 = upd (A 28) (20 * m + rn) q.2.2.2 := by unfold rcA; rw [up_n (by decide), up_s]
theorem Am.rec {A : AA} {m rn : Nat} {q : q4} (hr : rn < 20) : Am A (rcA A m rn q) m := by
  refine ⟨fun i _ b => rcA_n (by omega) (by omega), fun j _ => by rw [rcA_n (by decide) (by decide)], fun j _ => by rw [rcA_n (by decide) (by decide)], fun i a b j hj => ?_, fun i a b j _ => by rw [rcA_n (by omega) (by omega)], fun i a b j hj => ?_⟩
  · by_cases e : i = 20
    · rw [e, rcA_20, pk_un hj]
    · rw [rcA_n e (by omega)]
  · have : i = 25 ∨ i = 26 ∨ i = 27 ∨ i = 28 := by omega
    rcases this with e | e | e | e <;> subst e
    · rw [rcA_25, pk_un (by omega)]
    · rw [rcA_26, pk_un (by omega)]
    · rw [rcA_27, pk_un (by omega)]
    · rw [rcA_28, pk_un (by omega)]
theorem rput_n {rF : Nat → Nat → Int32} {n i : Nat} {q : q4} (h : i ≠ n) : rput rF n q i = rF i := if_neg h
theorem rput_s {rF : Nat → Nat → Int32} {n : Nat} {q : q4} : rput rF n q n 0 = q.1 ∧ rput rF n q n 1 = q.2.1 ∧ rput rF n q n 2 = q.2.2.1 ∧ rput rF n q n 3 = q.2.2.2 := by
  have e : rput rF n q n = upd (upd (upd (upd (rF n) 0 q.1) 1 q.2.1) 2 q.2.2.1) 3 q.2.2.2 := if_pos rfl
  rw [e]
  exact ⟨rfl, rfl, rfl, rfl⟩
theorem RM1.rec {A : AA} {m hn fn rn : Nat} {nr nc : Int32} {hF pF : Nat → List Int32} {fH : Nat → Int32} {rF : Nat → Nat → Int32} {q : q4} (h : RM1 A m ((hn, fn, rn, nr, nc), hF, pF, fH, rF)) (hr : rn < 20) : RM1 (rcA A m rn q) m ((hn, fn, rn + 1, nr, nc), hF, pF, fH, rput rF rn q) := by
  obtain ⟨⟨z1, z2, z3⟩, ⟨a1, a2, a3, a4, a5⟩, h3, h4, h5⟩ := h
  refine ⟨⟨z1, z2, hr⟩, ⟨?_, ?_, ?_, ?_, ?_⟩, fun i hi j hj => ?_, fun i hi => ?_, fun i hi => ?_⟩
  · rw [rcA_n (by decide) (by decide)]; exact a1
  · rw [rcA_n (by decide) (by decide)]; exact a2
  · rw [rcA_20, pk_us]
  · rw [rcA_n (by decide) (by decide)]; exact a4
  · rw [rcA_n (by decide) (by decide)]; exact a5
  · rw [rcA_n (by decide) (by decide)]; exact h3 i hi j hj
  · rw [rcA_n (by decide) (by decide), rcA_n (by decide) (by decide), rcA_n (by decide) (by decide)]; exact h4 i hi
  · have hi' : i < rn + 1 := hi
    rw [rcA_25, rcA_26, rcA_27, rcA_28]
    by_cases e : i = rn
    · subst e
      rw [pk_us, pk_us, pk_us, pk_us]
      obtain ⟨r0, r1, r2, r3⟩ := rput_s (rF := rF) (n := i) (q := q)
      exact ⟨r0.symm, r1.symm, r2.symm, r3.symm⟩
    · rw [pk_un (by omega), pk_un (by omega), pk_un (by omega), pk_un (by omega)]
      have := h5 i (show i < rn by omega)
      show _ = rput rF rn q i 0 ∧ _ = rput rF rn q i 1 ∧ _ = rput rF rn q i 2 ∧ _ = rput rF rn q i 3
      rw [rput_n e]
      exact this
theorem recL_len {P : Nat → Prop} {R : Nat → q4} : ∀ (d i : Nat), (recL P R d i).length = cntN P d i := by
  intro d
  induction d with
  | zero => intro i; rfl
  | succ d ih =>
    intro i
    rw [recL, cntN, List.length_append, ih]
    congr 1
    by_cases h : P i
    · rw [if_pos h, if_pos h]; rfl
    · rw [if_neg h, if_neg h]; rfl
section MNM
variable {G : mG} {S S' : mS} {M nl nn nd p m : Nat} {A A' : AA} {l row : List Int32} {K : List Int32} {o : Mo}
theorem c_M_headAt {i : Nat} : mCon G yX8_headAt cX8_headAt 2 (some .int) (rmD 0) [.int (nI m), .int (nI i)] S (fun v S' => S' = S ∧ v = some (.int (nI (900 * m + 45 * i)))) := by
  refine mCon.of (I := miX8 false (some .int)) (by decide) rfl rfl (fun h => by cases h) (fun _ => rfl) (Nat.le_of_ble_eq_true rfl) ?_
  show Gd _ _ _ _ _ _ _ _ 0 [(0, .int (nI m)), (1, .int (nI i))] [] (0, 0) _
  refine Gd.of (ckX8 _ _) tX8_headAt_ok (cuts := fun _ => none) 40 ?_
  refine eR.int ⟨rfl, ?_⟩
  rw [show (900 : Int32) = nI 900 from rfl, show (45 : Int32) = nI 45 from rfl, pk_mul, pk_mul, nI_add]
theorem c_M_factAt {i : Nat} : mCon G yX8_factAt cX8_factAt 2 (some .int) (rmD 0) [.int (nI m), .int (nI i)] S (fun v S' => S' = S ∧ v = some (.int (nI (4800 * m + 400 * i)))) := by
  refine mCon.of (I := miX8 false (some .int)) (by decide) rfl rfl (fun h => by cases h) (fun _ => rfl) (Nat.le_of_ble_eq_true rfl) ?_
  show Gd _ _ _ _ _ _ _ _ 0 [(0, .int (nI m)), (1, .int (nI i))] [] (0, 0) _
  refine Gd.of (ckX8 _ _) tX8_factAt_ok (cuts := fun _ => none) 40 ?_
  refine eR.int ⟨rfl, ?_⟩
  rw [show (4800 : Int32) = nI 4800 from rfl, show (400 : Int32) = nI 400 from rfl, pk_mul, pk_mul, nI_add]
theorem c_M_records {q : q4} {rn : Nat} (h : Md G S M A l nl nn nd) (hm : m < 4) (hr : rn < 20) (e : A 20 m = nI rn) :
    mCon G yX8_records cX8_records 7 none (rmD 0) [.ref M, .int (nI m), .int q.1, .int q.2.1, .int q.2.2.1, .int q.2.2.2] S (fun v S' => v = none ∧ fr S S' (xD M) ∧ Md G S' M (rcA A m rn q) l nl nn nd) := by
  have hin : vp_in (nI m) 4 := vp_in_nI (by omega) (by omega)
  have hcl : (nI m).toNatClampNeg = m := nI_clamp (by omega)
  have e0 : 20 * nI m + A 20 (nI m).toNatClampNeg = nI (20 * m + rn) := by rw [hcl, e, show (20 : Int32) = nI 20 from rfl, pk_mul, nI_add]
  have hin2 : vp_in (20 * nI m + A 20 (nI m).toNatClampNeg) 80 := by rw [e0]; exact vp_in_nI (by omega) (by omega)
  have hcl2 : (20 * nI m + A 20 (nI m).toNatClampNeg).toNatClampNeg = 20 * m + rn := by rw [e0, nI_clamp (by omega)]
  refine mCon.of (I := miX8 false none) (by decide) rfl rfl (fun h => by cases h) (fun _ => rfl) (Nat.le_of_ble_eq_true rfl) ?_
  show Gd _ _ _ _ _ _ _ _ 0 [(0, .ref M), (1, .int (nI m)), (2, .int q.1), (3, .int q.2.1), (4, .int q.2.2.1), (5, .int q.2.2.2)] [] (0, 0) _
  refine Gd.of (ckX8 _ _) tX8_records_ok (cuts := fun _ => none) 60 ?_
  refine eG.i h.obj rfl ?_
  refine eL.i (i := nI m) h.a20 hin ?_
  refine eG.i h.obj rfl ?_
  refine eS.i (i := 20 * nI m + A 20 (nI m).toNatClampNeg) h.a25 hin2 ?_
  have h1 := h.s25 (f := upd (A 25) (20 * nI m + A 20 (nI m).toNatClampNeg).toNatClampNeg q.1)
  refine eG.i h1.obj rfl ?_
  refine eS.i (i := 20 * nI m + A 20 (nI m).toNatClampNeg) h1.a26 hin2 ?_
  have h2 := h1.s26 (f := upd (A 26) (20 * nI m + A 20 (nI m).toNatClampNeg).toNatClampNeg q.2.1)
  refine eG.i h2.obj rfl ?_
  refine eS.i (i := 20 * nI m + A 20 (nI m).toNatClampNeg) h2.a27 hin2 ?_
  have h3 := h2.s27 (f := upd (A 27) (20 * nI m + A 20 (nI m).toNatClampNeg).toNatClampNeg q.2.2.1)
  refine eG.i h3.obj rfl ?_
  refine eS.i (i := 20 * nI m + A 20 (nI m).toNatClampNeg) h3.a28 hin2 ?_
  have h4 := h3.s28 (f := upd (A 28) (20 * nI m + A 20 (nI m).toNatClampNeg).toNatClampNeg q.2.2.2)
  refine eG.i h4.obj rfl ?_
  refine eL.i (i := nI m) h4.a20 hin ?_
  refine eS.i (i := nI m) h4.a20 hin ?_
  have h5 := h4.s20 (f := upd (A 20) (nI m).toNatClampNeg (A 20 (nI m).toNatClampNeg + 1))
  refine eR.v ⟨rfl, ((((xD_up (by omega)).tr (xD_up (by omega))).tr (xD_up (by omega))).tr (xD_up (by omega))).tr (xD_up (by omega)), ?_⟩
  have ez : rcA A m rn q = va_up (va_up (va_up (va_up (va_up A 25 (upd (A 25) (20 * nI m + A 20 (nI m).toNatClampNeg).toNatClampNeg q.1)) 26 (upd (A 26) (20 * nI m + A 20 (nI m).toNatClampNeg).toNatClampNeg q.2.1)) 27 (upd (A 27) (20 * nI m + A 20 (nI m).toNatClampNeg).toNatClampNeg q.2.2.1)) 28 (upd (A 28) (20 * nI m + A 20 (nI m).toNatClampNeg).toNatClampNeg q.2.2.2)) 20 (upd (A 20) (nI m).toNatClampNeg (A 20 (nI m).toNatClampNeg + 1)) := by
    rw [hcl2, hcl, e, nI_1]
    rfl
  rw [ez]
  exact h5
theorem same5 {a b : List Int32} (ha : 5 ≤ a.length) (hb : 5 ≤ b.length) (h1 : bl a) (h2 : bl b) : same a 0 b 0 5 ↔ (a.getD 0 0 = b.getD 0 0 ∧ ∀ k, k < 4 → a.getD (1 + k) 0 = b.getD (1 + k) 0) := by
  rw [same_iff (by omega) (by omega) h1 h2 (by omega) (by omega)]
  constructor
  · intro h
    refine ⟨h 0 (by omega), fun k hk => ?_⟩
    have := h (1 + k) (by omega)
    rw [Nat.zero_add] at this
    exact this
  · intro h k hk
    rw [Nat.zero_add]
    by_cases e : k = 0
    · rw [e]; exact h.1
    · have := h.2 (k - 1) (by omega)
      rw [show 1 + (k - 1) = k by omega] at this
      exact this
/-- is a fact against a head: the head's bytes stand in array i at s -/
theorem c_M_isAgainst {i s f : Nat} (h : Md G S M A l nl nn nd) (hR : RM1 A m o) (hm : m < 4) (hf : f < o.1.2.1) (hp : 41 ≤ (o.2.2.1 f).length) (bi : mdB i = true) (i6 : 6 < i) (i31 : i ≤ 31) (hi : mdN i ≤ 24000) (hs : s + 45 ≤ mdN i) (hl : row.length = 45) (hr : ∀ x, x < 45 → A i (s + x) = row.getD x 0) :
    mCon G yX8_isAgainst cX8_isAgainst 6 (some .boolean) (rmD 1) [.ref M, .int (nI m), .int (nI f), .ref (M + i), .int (nI s)] S (fun v S' => S' = S ∧ v = some (.int (pI (bel row (o.2.2.1 f))))) := by
  obtain ⟨⟨z1, z2, z3⟩, -, -, h4, -⟩ := hR
  obtain ⟨b1, b2, b3, b4⟩ := h4 f hf
  have bR : bl row := by
    intro j
    by_cases q : j < 45
    · rw [← hr j q]; exact h.isb bi (by omega) _
    · rw [List.getD_eq_getElem?_getD, List.getElem?_eq_none (by omega)]; exact isB_0
  have bP : bl (o.2.2.1 f) := by
    intro j
    by_cases q : j < (o.2.2.1 f).length
    · rw [← b4 j q]; exact h.isb rfl (by decide) _
    · rw [List.getD_eq_getElem?_getD, List.getElem?_eq_none (by omega)]; exact isB_0
  have hA0 : A 17 (4800 * m + 400 * f) = (o.2.2.1 f).getD 0 0 := b4 0 (by omega)
  have hr0 : A i s = row.getD 0 0 := hr 0 (by omega)
  refine mCon.of (I := miX8 false (some .boolean)) (by decide) rfl rfl (fun h => by cases h) (fun _ => rfl) (Nat.le_of_ble_eq_true rfl) ?_
  show Gd _ _ _ _ _ _ _ _ 0 [(0, .ref M), (1, .int (nI m)), (2, .int (nI f)), (3, .ref (M + i)), (4, .int (nI s))] [] (0, 0) _
  refine Gd.of (ckX8 _ _) tX8_isAgainst_ok (cuts := fun _ => none) 60 ?_
  refine ⟨Nat.le_of_ble_eq_true rfl, ?_⟩
  refine eC.z (c_M_factAt) ⟨rfl, rfl⟩ ⟨Nat.le_of_ble_eq_true rfl, Nat.le_of_ble_eq_true rfl⟩ ⟨Nat.zero_le _, Nat.zero_le _⟩ (fun v S1 hk => ?_)
  obtain ⟨rfl, rfl⟩ := hk
  refine eG.i h.obj rfl ?_
  refine eLb.i (i := nI (4800 * m + 400 * f)) h.a17 (vp_in_nI (by omega) (by omega)) ?_
  refine eLb.i (i := nI s) (h.b bi i6 i31) (vp_in_nI (by omega) (by omega)) ?_
  rw [nI_clamp (by omega), nI_clamp (by omega), hA0, hr0]
  refine eB.i (fun q => ?_) (fun q => ?_)
  · refine eG.i h.obj rfl ?_
    have hc := c_M_isSame (i := 17) (j := i) (s := 4800 * m + 400 * f + 1) (u := s + 1) (n := 4) h rfl (by decide) (by decide) (by show 4800 * m + 400 * f + 1 + 4 ≤ 19200; omega) (by decide) bi i6 i31 (by omega) hi
    rw [← nI_1, ← nI_1] at hc
    refine ⟨Nat.le_of_ble_eq_true rfl, ?_⟩
    refine eC.z (hc) ⟨rfl, rfl⟩ ⟨Nat.le_of_ble_eq_true rfl, Nat.le_of_ble_eq_true rfl⟩ ⟨Nat.zero_le _, Nat.zero_le _⟩ (fun v S1 hk => ?_)
    obtain ⟨rfl, rfl⟩ := hk
    have e5 : same row 0 (o.2.2.1 f) 0 5 ↔ ∀ k, k < 4 → A 17 (4800 * m + 400 * f + 1 + k) = A i (s + 1 + k) := by
      rw [same5 (by omega) (by omega) bR bP]
      constructor
      · intro z k hk
        rw [Nat.add_assoc, b4 _ (by omega), Nat.add_assoc, hr _ (by omega)]
        exact (z.2 k hk).symm
      · intro z
        refine ⟨q.symm, fun k hk => ?_⟩
        have := z k hk
        rw [Nat.add_assoc, b4 _ (by omega), Nat.add_assoc, hr _ (by omega)] at this
        exact this.symm
    by_cases q5 : same row 0 (o.2.2.1 f) 0 5
    · rw [pI_t (e5.mp q5)]
      refine eB.f (by decide) ?_
      refine eG.i h.obj rfl ?_
      have hc := c_M_isSame (i := 17) (j := i) (s := 4800 * m + 400 * f + 9) (u := s + 5) (n := 32) h rfl (by decide) (by decide) (by show 4800 * m + 400 * f + 9 + 32 ≤ 19200; omega) (by decide) bi i6 i31 (by omega) hi
      rw [← nI_add _ 9, ← nI_add s 5] at hc
      refine ⟨Nat.le_of_ble_eq_true rfl, ?_⟩
      refine eC.z (hc) ⟨rfl, rfl⟩ ⟨Nat.le_of_ble_eq_true rfl, Nat.le_of_ble_eq_true rfl⟩ ⟨Nat.zero_le _, Nat.zero_le _⟩ (fun v S1 hk => ?_)
      obtain ⟨rfl, rfl⟩ := hk
      have e32 : same row 5 (o.2.2.1 f) 9 32 ↔ ∀ k, k < 32 → A 17 (4800 * m + 400 * f + 9 + k) = A i (s + 5 + k) := by
        rw [same_iff (by omega) (by omega) bR bP (by omega) (by omega)]
        constructor
        · intro z k hk
          rw [Nat.add_assoc, b4 _ (by omega), Nat.add_assoc, hr _ (by omega)]
          exact (z k hk).symm
        · intro z k hk
          have := z k hk
          rw [Nat.add_assoc, b4 _ (by omega), Nat.add_assoc, hr _ (by omega)] at this
          exact this.symm
      by_cases q32 : same row 5 (o.2.2.1 f) 9 32
      · rw [pI_t (e32.mp q32)]
        refine eB.f (by decide) ?_
        exact eR.f ⟨rfl, by rw [pI_f (fun z => z.2 q32)]⟩
      · rw [pI_f (fun z => q32 (e32.mpr z))]
        refine eB.t rfl ?_
        exact eR.t ⟨rfl, by rw [pI_t ⟨q5, q32⟩]⟩
    · rw [pI_f (fun z => q5 (e5.mpr z))]
      refine eB.t rfl ?_
      exact eR.f ⟨rfl, by rw [pI_f (fun z => q5 z.1)]⟩
  · refine eR.f ⟨rfl, ?_⟩
    rw [pI_f (fun z => q (((same5 (by omega) (by omega) bR bP).mp z.1).1).symm)]
end MNM
