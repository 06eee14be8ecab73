/-! what a monitor answers, as one step of its state -/
noncomputable def tkH (o : Mo) (row : List Int32) : Int32 × Mo := match o with
  | ((hn, fn, rn, nr, nc), hF, pF, fH, rF) => @ite _ (∃ i, i < hn ∧ same (hF i) 0 row 0 37) (Classical.propDecidable _) (0, (hn, fn, rn, nr, nc), hF, pF, fH, rF) (if hn = 20 ∨ 20 < rn + (recF hn hF row).length + (recB hn fn pF fH row).length then (-3, (hn, fn, rn, nr, nc), hF, pF, fH, rF) else (1, (hn + 1, fn, rn + (recF hn hF row).length + (recB hn fn pF fH row).length, nr, nc), va_up hF hn row, pF, fH, rputs (rputs rF rn (recF hn hF row)) (rn + (recF hn hF row).length) (recB hn fn pF fH row)))
noncomputable def tkP (o : Mo) (row : List Int32) (x : Option Nat) : Int32 × Mo := match o, x with
  | o, none => (-1, o)
  | ((hn, fn, rn, nr, nc), hF, pF, fH, rF), some j => @ite _ (∃ i, i < fn ∧ lik (pF i) row ∧ fH i = nI j) (Classical.propDecidable _) (0, (hn, fn, rn, nr, nc), hF, pF, fH, rF) (if fn = 12 ∨ 20 < rn + (recA hn fn hF (nI j) row).length then (-3, (hn, fn, rn, nr, nc), hF, pF, fH, rF) else (1, (hn, fn + 1, rn + (recA hn fn hF (nI j) row).length, nr, nc), hF, va_up pF fn row, upd fH fn (nI j), rputs rF rn (recA hn fn hF (nI j) row)))
def ntM (o : Mo) (x : Int32) : Mo := match o with
  | ((hn, fn, rn, nr, nc), hF, pF, fH, rF) => ((hn, fn, rn, nt x (-1) nr, nt x (-3) nc), hF, pF, fH, rF)
noncomputable def accR (o : Mo) (row : List Int32) : Option Nat := (prf row 9 (hcN 1 row) (num4 row 1) (num4 row 5)).bind (fun root => fstN (fun i => accP (o.2.1 i) row root) o.1.1 0)
noncomputable def accC (o : Mo) (row : List Int32) : Nat := match pth row (hcN 2 row) (num4 row 5) (num4 row 1) with
  | none => 0
  | some root => cntN (fun i => accW (o.2.1 i) row root) o.1.1 0
noncomputable def tkS (K : List Int32) (o : Mo) (row : List Int32) : Int32 × Mo := @ite _ (signed K row 0 1) (Classical.propDecidable _) (tkH o row) (-1, o)
noncomputable def oTk (s : Sg) (a b : Int32) : Int32 × Sg := match s with
  | (K, vals, cnt, np, kd, lt, mo, dk) => if inR a 4 ∧ inR b np then (if kd b.toInt.toNat = 0 then ((tkS K (mo a.toInt.toNat) (lt b.toInt.toNat)).1, K, vals, cnt, np, kd, lt, va_up mo a.toInt.toNat (ntM (tkS K (mo a.toInt.toNat) (lt b.toInt.toNat)).2 (tkS K (mo a.toInt.toNat) (lt b.toInt.toNat)).1), dk)
      else if kd b.toInt.toNat = 1 then ((tkP (mo a.toInt.toNat) (lt b.toInt.toNat) (accR (mo a.toInt.toNat) (lt b.toInt.toNat))).1, K, vals, cnt, np, kd, lt, va_up mo a.toInt.toNat (ntM (tkP (mo a.toInt.toNat) (lt b.toInt.toNat) (accR (mo a.toInt.toNat) (lt b.toInt.toNat))).2 (tkP (mo a.toInt.toNat) (lt b.toInt.toNat) (accR (mo a.toInt.toNat) (lt b.toInt.toNat))).1), dk)
      else (nI (accC (mo a.toInt.toNat) (lt b.toInt.toNat)), K, vals, cnt, np, kd, lt, mo, dk)) else (-2, K, vals, cnt, np, kd, lt, mo, dk)
noncomputable def gos (hF : Nat → List Int32) : Nat → Nat → Mo → Nat → Nat × Mo
  | 0, _, o, c => (c, o)
  | d + 1, i, o, c => gos hF d (i + 1) (ntM (tkH o (hF i)).2 (tkH o (hF i)).1) (if (tkH o (hF i)).1 = 1 then c + 1 else c)
noncomputable def oGos (s : Sg) (a b : Int32) : Int32 × Sg := match s with
  | (K, vals, cnt, np, kd, lt, mo, dk) => if inR a 4 ∧ inR b 4 ∧ ¬ a = b then (nI (gos (mo a.toInt.toNat).2.1 (mo a.toInt.toNat).1.1 0 (mo b.toInt.toNat) 0).1, K, vals, cnt, np, kd, lt, va_up mo b.toInt.toNat (gos (mo a.toInt.toNat).2.1 (mo a.toInt.toNat).1.1 0 (mo b.toInt.toNat) 0).2, dk) else (-1, K, vals, cnt, np, kd, lt, mo, dk)
def oHol (s : Sg) (a x : Int32) : Int32 × Sg := match s with
  | (K, vals, cnt, np, kd, lt, mo, dk) => (if inR a 4 then cntOf (mo a.toInt.toNat).1.1 (mo a.toInt.toNat).1.2.1 (mo a.toInt.toNat).1.2.2.1 (mo a.toInt.toNat).1.2.2.2.1 (mo a.toInt.toNat).1.2.2.2.2 x else -1, K, vals, cnt, np, kd, lt, mo, dk)
def oHel (s : Sg) (a i k : Int32) : Int32 × Sg := match s with
  | (K, vals, cnt, np, kd, lt, mo, dk) => (if inR a 4 ∧ inR i (mo a.toInt.toNat).1.1 then rAt ((mo a.toInt.toNat).2.1 i.toInt.toNat) k else -1, K, vals, cnt, np, kd, lt, mo, dk)
def oFac (s : Sg) (a i x : Int32) : Int32 × Sg := match s with
  | (K, vals, cnt, np, kd, lt, mo, dk) => (if inR a 4 then fcV (mo a.toInt.toNat).1.2.1 (mo a.toInt.toNat).2.2.1 (mo a.toInt.toNat).2.2.2.1 i x else -1, K, vals, cnt, np, kd, lt, mo, dk)
def oRec (s : Sg) (a i x : Int32) : Int32 × Sg := match s with
  | (K, vals, cnt, np, kd, lt, mo, dk) => (if inR a 4 then rcV (mo a.toInt.toNat).1.2.2.1 (mo a.toInt.toNat).2.2.2.2 i x else -1, K, vals, cnt, np, kd, lt, mo, dk)
def layB (o : Mo) (i : Nat) : List Int32 := recBy (o.2.2.2.2 i 0) (o.2.1 (o.2.2.2.2 i 1).toInt.toNat) (o.2.1 (o.2.2.2.2 i 2).toInt.toNat) (if o.2.2.2.2 i 0 = 2 then some (o.2.2.1 (o.2.2.2.2 i 3).toInt.toNat) else none)
def oLay (s : Sg) (a i : Int32) : Int32 × Sg := match s with
  | (K, vals, cnt, np, kd, lt, mo, dk) => if inR a 4 ∧ inR i (mo a.toInt.toNat).1.2.2.1 then (nI (layB (mo a.toInt.toNat) i.toInt.toNat).length, K, vals, cnt, np, kd, lt, mo, layB (mo a.toInt.toNat) i.toInt.toNat) else (-1, K, vals, cnt, np, kd, lt, mo, dk)
theorem rput_x {R F : Nat → Nat → Int32} {n : Nat} (h : ∀ i, i < n → ∀ x, x < 4 → R i x = F i x) (q : q4) : ∀ i, i < n + 1 → ∀ x, x < 4 → rput R n q i x = rput F n q i x := by
  intro i hi x hx
  unfold rput
  by_cases e : i = n
  · rw [if_pos e, if_pos e]
    simp only [upd]
    repeat' split
    all_goals first | rfl | (exfalso; omega)
  · rw [if_neg e, if_neg e]
    exact h i (by omega) x hx
theorem rputs_x : ∀ (L : List q4) {R F : Nat → Nat → Int32} {n : Nat}, (∀ i, i < n → ∀ x, x < 4 → R i x = F i x) → ∀ i, i < n + L.length → ∀ x, x < 4 → rputs R n L i x = rputs F n L i x := by
  intro L
  induction L with
  | nil => intro R F n h; exact h
  | cons q L ih =>
    intro R F n h i hi x hx
    exact ih (rput_x h q) i (by rw [List.length_cons] at hi; omega) x hx
section GWO
variable {G : mG} {S S' S0 : mS} {X : Nat → Prop} {B m : Nat} {K : List Int32} {vals : Nat → Nat → Int32} {cnt : Nat → Nat} {np : Nat} {kd : Nat → Int32} {lt : Nat → List Int32} {mo : Nat → Mo} {dk row : List Int32} {k : Int32} {l : List Int32} {o : Mo}
theorem takeHK.to {R : Nat → Nat → Int32} {v : Option Value} (h0 : ∀ i, i < o.1.2.2.1 → ∀ x, x < 4 → R i x = o.2.2.2.2 i x) (h : takeHK G S m o.1.1 o.1.2.1 o.1.2.2.1 o.1.2.2.2.1 o.1.2.2.2.2 o.2.1 o.2.2.1 o.2.2.2.1 R row v S') : v = some (.int (tkH o row).1) ∧ fr S S' (xM m) ∧ MnS G S' m (tkH o row).2 := by
  obtain ⟨⟨hn, fn, rn, nr, nc⟩, hF, pF, fH, rF⟩ := o
  obtain ⟨f, h⟩ := h
  rcases h with ⟨h1, h2, h3⟩ | ⟨h1, h2, h3, R', h4, h5⟩ | ⟨h1, h2, h3, h4, h5⟩
  · have e : tkH ((hn, fn, rn, nr, nc), hF, pF, fH, rF) row = (0, (hn, fn, rn, nr, nc), hF, pF, fH, rF) := if_pos h1
    rw [e]
    exact ⟨h2, f, R, h0, h3⟩
  · have e : tkH ((hn, fn, rn, nr, nc), hF, pF, fH, rF) row = (-3, (hn, fn, rn, nr, nc), hF, pF, fH, rF) := (if_neg h1).trans (if_pos h2)
    rw [e]
    exact ⟨h3, f, R', fun i hi x hx => by rw [h4 i hi]; exact h0 i hi x hx, h5⟩
  · have e : tkH ((hn, fn, rn, nr, nc), hF, pF, fH, rF) row = (1, (hn + 1, fn, rn + (recF hn hF row).length + (recB hn fn pF fH row).length, nr, nc), va_up hF hn row, pF, fH, rputs (rputs rF rn (recF hn hF row)) (rn + (recF hn hF row).length) (recB hn fn pF fH row)) := (if_neg h1).trans (if_neg (fun z => by
      have h2' : hn < 20 := h2
      have h3' : rn + (recF hn hF row).length + (recB hn fn pF fH row).length ≤ 20 := h3
      rcases z with z | z <;> omega))
    rw [e]
    exact ⟨h4, f, _, rputs_x _ (rputs_x _ h0), h5⟩
theorem takePK.to {R : Nat → Nat → Int32} {v : Option Value} {x : Option Nat} (h0 : ∀ i, i < o.1.2.2.1 → ∀ x, x < 4 → R i x = o.2.2.2.2 i x) (h : takePK G S m o.1.1 o.1.2.1 o.1.2.2.1 o.1.2.2.2.1 o.1.2.2.2.2 o.2.1 o.2.2.1 o.2.2.2.1 R row x v S') : v = some (.int (tkP o row x).1) ∧ fr S S' (xM m) ∧ MnS G S' m (tkP o row x).2 := by
  obtain ⟨⟨hn, fn, rn, nr, nc⟩, hF, pF, fH, rF⟩ := o
  obtain ⟨f, h⟩ := h
  rcases h with ⟨rfl, h2, h3⟩ | ⟨j, rfl, h⟩
  · exact ⟨h2, f, R, h0, h3⟩
  · rcases h with ⟨h1, h2, h3⟩ | ⟨h1, h2, h3, R', h4, h5⟩ | ⟨h1, h2, h3, h4, h5⟩
    · have e : tkP ((hn, fn, rn, nr, nc), hF, pF, fH, rF) row (some j) = (0, (hn, fn, rn, nr, nc), hF, pF, fH, rF) := if_pos h1
      rw [e]
      exact ⟨h2, f, R, h0, h3⟩
    · have e : tkP ((hn, fn, rn, nr, nc), hF, pF, fH, rF) row (some j) = (-3, (hn, fn, rn, nr, nc), hF, pF, fH, rF) := (if_neg h1).trans (if_pos h2)
      rw [e]
      exact ⟨h3, f, R', fun i hi x hx => by rw [h4 i hi]; exact h0 i hi x hx, h5⟩
    · have e : tkP ((hn, fn, rn, nr, nc), hF, pF, fH, rF) row (some j) = (1, (hn, fn + 1, rn + (recA hn fn hF (nI j) row).length, nr, nc), hF, va_up pF fn row, upd fH fn (nI j), rputs rF rn (recA hn fn hF (nI j) row)) := (if_neg h1).trans (if_neg (fun z => by
        have h2' : fn < 12 := h2
        have h3' : rn + (recA hn fn hF (nI j) row).length ≤ 20 := h3
        rcases z with z | z <;> omega))
      rw [e]
      exact ⟨h4, f, _, rputs_x _ h0, h5⟩
theorem ntM.to {R : Nat → Nat → Int32} {x : Int32} (h0 : ∀ i, i < o.1.2.2.1 → ∀ x, x < 4 → R i x = o.2.2.2.2 i x) (h : Mn G S' m o.1.1 o.1.2.1 o.1.2.2.1 (nt x (-1) o.1.2.2.2.1) (nt x (-3) o.1.2.2.2.2) o.2.1 o.2.2.1 o.2.2.2.1 R) : MnS G S' m (ntM o x) := ⟨R, h0, h⟩
theorem oI_none {x : Int32} {c : Prop} (h : ¬ inR x 4) (y : Int32) {d : Decidable (inR x 4)} : (@ite _ (inR x 4) d y (-1 : Int32)) = -1 := if_neg h
theorem c_X7_holds {a x : Int32} (h : CS G S B (K, vals, cnt, np, kd, lt, mo, dk)) :
    mCon G yX7_holds cX7_holds 4 (some .int) (rmD 6) [.ref B, .int a, .int x] S (oK G S B (oHol (K, vals, cnt, np, kd, lt, mo, dk) a x)) := by
  have hall := h
  obtain ⟨h1, h2, h3, h4, h5, h6, h7, h8, h9, h10, h11⟩ := h
  refine mCon.of (I := miX7 false (some .int)) (by decide) rfl rfl (fun h => by cases h) (fun _ => rfl) (Nat.le_of_ble_eq_true rfl) ?_
  show Gd _ _ _ _ _ _ _ _ 0 [(0, .ref B), (1, .int a), (2, .int x)] [] (0, 0) _
  refine Gd.of (ckX7 _ _) tX7_holds_ok (cuts := fun _ => none) 60 ?_
  by_cases hv : inR a 4
  · obtain ⟨R, r0, hm⟩ := h10 a.toInt.toNat (by omega)
    refine ⟨rfl, Nat.le_of_ble_eq_true rfl, ?_⟩
    refine eV.i h1 ?_
    refine eC.z (c_monitorOf hall hv) ⟨rfl, rfl⟩ ⟨Nat.le_of_ble_eq_true rfl, Nat.le_of_ble_eq_true rfl⟩ ⟨Nat.zero_le _, Nat.zero_le _⟩ (fun v S1 hk => ?_)
    obtain ⟨rfl, rfl⟩ := hk
    refine ⟨rfl, Nat.le_of_ble_eq_true rfl, ?_⟩
    refine eV.i hm.1 ?_
    refine eC.z (c_Mon_countOf hm) ⟨rfl, rfl⟩ ⟨Nat.le_of_ble_eq_true rfl, Nat.le_of_ble_eq_true rfl⟩ ⟨Nat.zero_le _, Nat.zero_le _⟩ (fun v S1 hk => ?_)
    obtain ⟨rfl, rfl⟩ := hk
    refine eR.int (oK.no hall ?_ rfl)
    show (if _ then _ else _, _) = _
    rw [if_pos hv]
  · refine ⟨rfl, Nat.le_of_ble_eq_true rfl, ?_⟩
    refine eV.i h1 ?_
    refine eC.z (c_monitorOf_no hv) ⟨rfl, rfl⟩ ⟨Nat.le_of_ble_eq_true rfl, Nat.le_of_ble_eq_true rfl⟩ ⟨Nat.zero_le _, Nat.zero_le _⟩ (fun v S1 hk => ?_)
    obtain ⟨rfl, rfl⟩ := hk
    refine eR.int (oK.no hall ?_ rfl)
    show (if _ then _ else _, _) = _
    rw [if_neg hv]
theorem c_X7_held {a i x : Int32} (h : CS G S B (K, vals, cnt, np, kd, lt, mo, dk)) :
    mCon G yX7_held cX7_held 5 (some .int) (rmD 6) [.ref B, .int a, .int i, .int x] S (oK G S B (oHel (K, vals, cnt, np, kd, lt, mo, dk) a i x)) := by
  have hall := h
  obtain ⟨h1, h2, h3, h4, h5, h6, h7, h8, h9, h10, h11⟩ := h
  refine mCon.of (I := miX7 false (some .int)) (by decide) rfl rfl (fun h => by cases h) (fun _ => rfl) (Nat.le_of_ble_eq_true rfl) ?_
  show Gd _ _ _ _ _ _ _ _ 0 [(0, .ref B), (1, .int a), (2, .int i), (3, .int x)] [] (0, 0) _
  refine Gd.of (ckX7 _ _) tX7_held_ok (cuts := fun _ => none) 60 ?_
  by_cases hv : inR a 4
  · obtain ⟨R, r0, hm⟩ := h10 a.toInt.toNat (by omega)
    refine ⟨rfl, Nat.le_of_ble_eq_true rfl, ?_⟩
    refine eV.i h1 ?_
    refine eC.z (c_monitorOf hall hv) ⟨rfl, rfl⟩ ⟨Nat.le_of_ble_eq_true rfl, Nat.le_of_ble_eq_true rfl⟩ ⟨Nat.zero_le _, Nat.zero_le _⟩ (fun v S1 hk => ?_)
    obtain ⟨rfl, rfl⟩ := hk
    refine ⟨rfl, Nat.le_of_ble_eq_true rfl, ?_⟩
    refine eV.i hm.1 ?_
    refine eC.z (c_Mon_hasHead hm) ⟨rfl, rfl⟩ ⟨Nat.le_of_ble_eq_true rfl, Nat.le_of_ble_eq_true rfl⟩ ⟨Nat.zero_le _, Nat.zero_le _⟩ (fun v S1 hk => ?_)
    obtain ⟨rfl, rfl⟩ := hk
    have hb := hm.2.2.2.2.2.2.2.2
    by_cases hi : inR i (mo a.toInt.toNat).1.1
    · rw [if_pos hi]
      refine eB.f (by decide) ?_
      refine eG.i hm.1 rfl ?_
      obtain ⟨u, g1, g2⟩ := hm.2.1
      refine eLq.r (i := i) (b := B + 335 + 89 * a.toInt.toNat + 25 + 2 * i.toInt.toNat) g1 (by decide) (vp_in_iff.mpr (by omega)) (g2 i.toInt.toNat (by omega)) ?_
      have hr := hm.2.2.2.2.2.2.1 i.toInt.toNat (by omega)
      refine ⟨rfl, Nat.le_of_ble_eq_true rfl, ?_⟩
      refine eV.i hr.obj ?_
      refine eC.z (c_Row_at hr) ⟨rfl, rfl⟩ ⟨Nat.le_of_ble_eq_true rfl, Nat.le_of_ble_eq_true rfl⟩ ⟨Nat.zero_le _, Nat.zero_le _⟩ (fun v S1 hk => ?_)
      obtain ⟨rfl, rfl⟩ := hk
      refine eR.int (oK.no hall ?_ rfl)
      show (if _ then _ else _, _) = _
      rw [if_pos ⟨hv, hi⟩]
    · rw [if_neg hi]
      refine eB.t rfl ?_
      refine eR.int (oK.no hall ?_ rfl)
      show (if _ then _ else _, _) = _
      rw [if_neg (fun z => hi z.2)]
  · refine ⟨rfl, Nat.le_of_ble_eq_true rfl, ?_⟩
    refine eV.i h1 ?_
    refine eC.z (c_monitorOf_no hv) ⟨rfl, rfl⟩ ⟨Nat.le_of_ble_eq_true rfl, Nat.le_of_ble_eq_true rfl⟩ ⟨Nat.zero_le _, Nat.zero_le _⟩ (fun v S1 hk => ?_)
    obtain ⟨rfl, rfl⟩ := hk
    refine eR.int (oK.no hall ?_ rfl)
    show (if _ then _ else _, _) = _
    rw [if_neg (fun z => hv z.1)]
theorem c_X7_fact {a i x : Int32} (h : CS G S B (K, vals, cnt, np, kd, lt, mo, dk)) :
    mCon G yX7_fact cX7_fact 5 (some .int) (rmD 6) [.ref B, .int a, .int i, .int x] S (oK G S B (oFac (K, vals, cnt, np, kd, lt, mo, dk) a i x)) := by
  have hall := h
  obtain ⟨h1, h2, h3, h4, h5, h6, h7, h8, h9, h10, h11⟩ := h
  refine mCon.of (I := miX7 false (some .int)) (by decide) rfl rfl (fun h => by cases h) (fun _ => rfl) (Nat.le_of_ble_eq_true rfl) ?_
  show Gd _ _ _ _ _ _ _ _ 0 [(0, .ref B), (1, .int a), (2, .int i), (3, .int x)] [] (0, 0) _
  refine Gd.of (ckX7 _ _) tX7_fact_ok (cuts := fun _ => none) 60 ?_
  by_cases hv : inR a 4
  · obtain ⟨R, r0, hm⟩ := h10 a.toInt.toNat (by omega)
    refine ⟨rfl, Nat.le_of_ble_eq_true rfl, ?_⟩
    refine eV.i h1 ?_
    refine eC.z (c_monitorOf hall hv) ⟨rfl, rfl⟩ ⟨Nat.le_of_ble_eq_true rfl, Nat.le_of_ble_eq_true rfl⟩ ⟨Nat.zero_le _, Nat.zero_le _⟩ (fun v S1 hk => ?_)
    obtain ⟨rfl, rfl⟩ := hk
    refine ⟨rfl, Nat.le_of_ble_eq_true rfl, ?_⟩
    refine eV.i hm.1 ?_
    refine eC.z (c_Mon_ofFact hm) ⟨rfl, rfl⟩ ⟨Nat.le_of_ble_eq_true rfl, Nat.le_of_ble_eq_true rfl⟩ ⟨Nat.zero_le _, Nat.zero_le _⟩ (fun v S1 hk => ?_)
    obtain ⟨rfl, rfl⟩ := hk
    refine eR.int (oK.no hall ?_ rfl)
    show (if _ then _ else _, _) = _
    rw [if_pos hv]
  · refine ⟨rfl, Nat.le_of_ble_eq_true rfl, ?_⟩
    refine eV.i h1 ?_
    refine eC.z (c_monitorOf_no hv) ⟨rfl, rfl⟩ ⟨Nat.le_of_ble_eq_true rfl, Nat.le_of_ble_eq_true rfl⟩ ⟨Nat.zero_le _, Nat.zero_le _⟩ (fun v S1 hk => ?_)
    obtain ⟨rfl, rfl⟩ := hk
    refine eR.int (oK.no hall ?_ rfl)
    show (if _ then _ else _, _) = _
    rw [if_neg hv]
theorem c_X7_record {a i x : Int32} (h : CS G S B (K, vals, cnt, np, kd, lt, mo, dk)) :
    mCon G yX7_record cX7_record 5 (some .int) (rmD 6) [.ref B, .int a, .int i, .int x] S (oK G S B (oRec (K, vals, cnt, np, kd, lt, mo, dk) a i x)) := by
  have hall := h
  obtain ⟨h1, h2, h3, h4, h5, h6, h7, h8, h9, h10, h11⟩ := h
  refine mCon.of (I := miX7 false (some .int)) (by decide) rfl rfl (fun h => by cases h) (fun _ => rfl) (Nat.le_of_ble_eq_true rfl) ?_
  show Gd _ _ _ _ _ _ _ _ 0 [(0, .ref B), (1, .int a), (2, .int i), (3, .int x)] [] (0, 0) _
  refine Gd.of (ckX7 _ _) tX7_record_ok (cuts := fun _ => none) 60 ?_
  by_cases hv : inR a 4
  · obtain ⟨R, r0, hm⟩ := h10 a.toInt.toNat (by omega)
    refine ⟨rfl, Nat.le_of_ble_eq_true rfl, ?_⟩
    refine eV.i h1 ?_
    refine eC.z (c_monitorOf hall hv) ⟨rfl, rfl⟩ ⟨Nat.le_of_ble_eq_true rfl, Nat.le_of_ble_eq_true rfl⟩ ⟨Nat.zero_le _, Nat.zero_le _⟩ (fun v S1 hk => ?_)
    obtain ⟨rfl, rfl⟩ := hk
    refine ⟨rfl, Nat.le_of_ble_eq_true rfl, ?_⟩
    refine eV.i hm.1 ?_
    refine eC.z (c_Mon_ofRecord hm) ⟨rfl, rfl⟩ ⟨Nat.le_of_ble_eq_true rfl, Nat.le_of_ble_eq_true rfl⟩ ⟨Nat.zero_le _, Nat.zero_le _⟩ (fun v S1 hk => ?_)
    obtain ⟨rfl, rfl⟩ := hk
    refine eR.int (oK.no hall ?_ rfl)
    show (if _ then _ else _, _) = _
    rw [if_pos hv]
    congr 1
    unfold rcV
    by_cases z : inR i (mo a.toInt.toNat).1.2.2.1 ∧ inR x 4
    · rw [if_pos z, if_pos z]
      exact (r0 i.toInt.toNat (by omega) x.toInt.toNat (by omega)).symm
    · rw [if_neg z, if_neg z]
  · refine ⟨rfl, Nat.le_of_ble_eq_true rfl, ?_⟩
    refine eV.i h1 ?_
    refine eC.z (c_monitorOf_no hv) ⟨rfl, rfl⟩ ⟨Nat.le_of_ble_eq_true rfl, Nat.le_of_ble_eq_true rfl⟩ ⟨Nat.zero_le _, Nat.zero_le _⟩ (fun v S1 hk => ?_)
    obtain ⟨rfl, rfl⟩ := hk
    refine eR.int (oK.no hall ?_ rfl)
    show (if _ then _ else _, _) = _
    rw [if_neg hv]
theorem c_X7_lay {a i : Int32} (hI : Inv (K, vals, cnt, np, kd, lt, mo, dk)) (h : CS G S B (K, vals, cnt, np, kd, lt, mo, dk)) :
    mCon G yX7_lay cX7_lay 4 (some .int) (rmD 6) [.ref B, .int a, .int i] S (oK G S B (oLay (K, vals, cnt, np, kd, lt, mo, dk) a i)) := by
  have hall := h
  obtain ⟨h1, h2, h3, h4, h5, h6, h7, h8, h9, h10, h11⟩ := h
  refine mCon.of (I := miX7 false (some .int)) (by decide) rfl rfl (fun h => by cases h) (fun _ => rfl) (Nat.le_of_ble_eq_true rfl) ?_
  show Gd _ _ _ _ _ _ _ _ 0 [(0, .ref B), (1, .int a), (2, .int i)] [] (0, 0) _
  refine Gd.of (ckX7 _ _) tX7_lay_ok (cuts := fun _ => none) 60 ?_
  by_cases hv : inR a 4
  · obtain ⟨R, r0, hm⟩ := h10 a.toInt.toNat (by omega)
    obtain ⟨i1, i2, i3⟩ := hI.2 a.toInt.toNat (by omega)
    refine ⟨rfl, Nat.le_of_ble_eq_true rfl, ?_⟩
    refine eV.i h1 ?_
    refine eC.z (c_monitorOf hall hv) ⟨rfl, rfl⟩ ⟨Nat.le_of_ble_eq_true rfl, Nat.le_of_ble_eq_true rfl⟩ ⟨Nat.zero_le _, Nat.zero_le _⟩ (fun v S1 hk => ?_)
    obtain ⟨rfl, rfl⟩ := hk
    refine ⟨rfl, Nat.le_of_ble_eq_true rfl, ?_⟩
    refine eV.i hm.1 ?_
    refine eC.z (c_Mon_hasRecord hm) ⟨rfl, rfl⟩ ⟨Nat.le_of_ble_eq_true rfl, Nat.le_of_ble_eq_true rfl⟩ ⟨Nat.zero_le _, Nat.zero_le _⟩ (fun v S1 hk => ?_)
    obtain ⟨rfl, rfl⟩ := hk
    have hb := hm.2.2.2.2.2.2.2.2
    by_cases hi : inR i (mo a.toInt.toNat).1.2.2.1
    · rw [if_pos hi]
      refine eB.f (by decide) ?_
      refine eG.i h1 rfl ?_
      have hi3 : i = nI i.toInt.toNat := i_of (by omega)
      have hr0 := r0 i.toInt.toNat (by omega)
      obtain ⟨f, u, hf, hu, e1, e2, e3⟩ := i3 i.toInt.toNat (by omega)
      have hx : ∃ x : Option Nat, (mo a.toInt.toNat).2.2.2.2 i.toInt.toNat 3 = oI x ∧ (∀ y, x = some y → y < (mo a.toInt.toNat).1.2.1 ∧ 41 ≤ ((mo a.toInt.toNat).2.2.1 y).length ∧ ((mo a.toInt.toNat).2.2.1 y).length ≤ 297) ∧ (if (mo a.toInt.toNat).2.2.2.2 i.toInt.toNat 0 = 2 then some ((mo a.toInt.toNat).2.2.1 ((mo a.toInt.toNat).2.2.2.2 i.toInt.toNat 3).toInt.toNat) else none) = x.map (mo a.toInt.toNat).2.2.1 := by
        rcases e3 with ⟨k1, k3⟩ | ⟨k1, y, hy, k3⟩
        · refine ⟨none, k3, fun y z => (by cases z), ?_⟩
          rw [if_neg (by rw [k1]; decide)]
          rfl
        · refine ⟨some y, k3, fun z hz => ?_, ?_⟩
          · have hz' : y = z := Option.some.inj hz
            subst hz'
            refine ⟨hy, ?_⟩
            rcases (i2 y hy).1 with ⟨c, -⟩ | ⟨-, c, hc, hl⟩ | ⟨c, -⟩
            · exact absurd c (by decide)
            · omega
            · exact absurd c (by decide)
          · rw [if_pos k1, k3, nI_toInt (by omega)]
            rfl
      obtain ⟨x, x1, x2, x3⟩ := hx
      have hc := c_Mon_writeRecord (j := i.toInt.toNat) (f := f) (o := u) (x := x) hm h11 (by omega) (by omega) hf hu ((hr0 1 (by decide)).trans e1) ((hr0 2 (by decide)).trans e2) ((hr0 3 (by decide)).trans x1) x2 (i1 f hf).1 (i1 u hu).1
      rw [← hi3] at hc
      refine ⟨rfl, Nat.le_of_ble_eq_true rfl, ?_⟩
      refine eV.i hm.1 ?_
      refine eC.z (hc) ⟨rfl, rfl⟩ ⟨Nat.le_of_ble_eq_true rfl, Nat.le_of_ble_eq_true rfl⟩ ⟨Nat.zero_le _, Nat.zero_le _⟩ (fun v S1 hk => ?_)
      obtain ⟨rfl, f1, d1⟩ := hk
      refine eG.i (h1.fr f1 (by omega)) rfl ?_
      refine eG.i d1.obj rfl ?_
      have ed : recBy (R i.toInt.toNat 0) ((mo a.toInt.toNat).2.1 f) ((mo a.toInt.toNat).2.1 u) (x.map (mo a.toInt.toNat).2.2.1) = layB (mo a.toInt.toNat) i.toInt.toNat := by
        unfold layB
        rw [x3, e1, e2, nI_toInt (by omega), nI_toInt (by omega), hr0 0 (by decide)]
        rfl
      rw [ed] at d1 ⊢
      have e : oLay (K, vals, cnt, np, kd, lt, mo, dk) a i = (nI (layB (mo a.toInt.toNat) i.toInt.toNat).length, K, vals, cnt, np, kd, lt, mo, layB (mo a.toInt.toNat) i.toInt.toNat) := if_pos ⟨hv, hi⟩
      refine eR.int ?_
      rw [e]
      exact ⟨rfl, f1.mono (fun q z => by omega), hall.dsk f1 d1⟩
    · rw [if_neg hi]
      refine eB.t rfl ?_
      refine eR.int (oK.no hall ?_ rfl)
      show (if _ then _ else _) = _
      rw [if_neg (fun z => hi z.2)]
  · refine ⟨rfl, Nat.le_of_ble_eq_true rfl, ?_⟩
    refine eV.i h1 ?_
    refine eC.z (c_monitorOf_no hv) ⟨rfl, rfl⟩ ⟨Nat.le_of_ble_eq_true rfl, Nat.le_of_ble_eq_true rfl⟩ ⟨Nat.zero_le _, Nat.zero_le _⟩ (fun v S1 hk => ?_)
    obtain ⟨rfl, rfl⟩ := hk
    refine eR.int (oK.no hall ?_ rfl)
    show (if _ then _ else _) = _
    rw [if_neg (fun z => hv z.1)]
end GWO
