section MONE
variable {G : mG} {S : mS} {m hn fn rn r capr : Nat} {nr nc : Int32} {hF pF : Nat → List Int32} {fH : Nat → Int32} {rF : Nat → Nat → Int32} {row : List Int32}
theorem va_up_s {α : Type} {f : Nat → α} {k : Nat} {v : α} : va_up f k v k = v := if_pos rfl
theorem va_up_n {α : Type} {f : Nat → α} {k j : Nat} {v : α} (h : j ≠ k) : va_up f k v j = f j := if_neg h
theorem Mn.setH {S' : mS} {l : List Int32} {k : Nat} (h : Mn G S m hn fn rn nr nc hF pF fH rF) (hk : k < 20) (f : fr S S' (xR (m + 25 + 2 * k))) (hr : Rl G S' (m + 25 + 2 * k) 45 l) : Mn G S' m hn fn rn nr nc (va_up hF k l) pF fH rF := by
  obtain ⟨h1, ⟨a, h2, h2'⟩, ⟨b, h3, h3'⟩, h4, ⟨d, h5, h5'⟩, h6, h7, h8, h9⟩ := h
  refine ⟨h1.fr f (by omega), ⟨a, h2.fr f (by omega), h2'⟩, ⟨b, h3.fr f (by omega), h3'⟩, h4.fr f (by omega), ⟨d, h5.fr f (by omega), h5'⟩, fun i hi => (h6 i hi).fr f (by omega), fun i hi => ?_, fun i hi => (h8 i hi).fr f (by omega) (by omega), h9⟩
  by_cases hq : i = k
  · subst hq; rw [va_up_s]; exact hr
  · rw [va_up_n hq]; exact (h7 i hi).fr f (by omega) (by omega)
theorem Mn.setP {S' : mS} {l : List Int32} {k : Nat} (h : Mn G S m hn fn rn nr nc hF pF fH rF) (hk : k < 12) (f : fr S S' (xR (m + 65 + 2 * k))) (hr : Rl G S' (m + 65 + 2 * k) 297 l) : Mn G S' m hn fn rn nr nc hF (va_up pF k l) fH rF := by
  obtain ⟨h1, ⟨a, h2, h2'⟩, ⟨b, h3, h3'⟩, h4, ⟨d, h5, h5'⟩, h6, h7, h8, h9⟩ := h
  refine ⟨h1.fr f (by omega), ⟨a, h2.fr f (by omega), h2'⟩, ⟨b, h3.fr f (by omega), h3'⟩, h4.fr f (by omega), ⟨d, h5.fr f (by omega), h5'⟩, fun i hi => (h6 i hi).fr f (by omega), fun i hi => (h7 i hi).fr f (by omega) (by omega), fun i hi => ?_, h9⟩
  by_cases hq : i = k
  · subst hq; rw [va_up_s]; exact hr
  · rw [va_up_n hq]; exact (h8 i hi).fr f (by omega) (by omega)
theorem Mn.setF {S' : mS} {fH' : Nat → Int32} (h : Mn G S m hn fn rn nr nc hF pF fH rF) (f : fr S S' (fun q => q = m + 3)) (hf : mAt G S' (m + 3) (eIn G 12 fH')) : Mn G S' m hn fn rn nr nc hF pF fH' rF := by
  obtain ⟨h1, ⟨a, h2, h2'⟩, ⟨b, h3, h3'⟩, h4, ⟨d, h5, h5'⟩, h6, h7, h8, h9⟩ := h
  exact ⟨h1.fr f (by omega), ⟨a, h2.fr f (by omega), h2'⟩, ⟨b, h3.fr f (by omega), h3'⟩, hf, ⟨d, h5.fr f (by omega), h5'⟩, fun i hi => (h6 i hi).fr f (by omega), fun i hi => (h7 i hi).fr f (by omega) (by omega), fun i hi => (h8 i hi).fr f (by omega) (by omega), h9⟩
noncomputable abbrev recF (hn : Nat) (hF : Nat → List Int32) (row : List Int32) : List q4 := recL (fun i => same (hF i) 0 row 0 5) (fun i => ((1 : Int32), nI i, nI hn, (-1 : Int32))) hn 0
noncomputable abbrev recB (hn fn : Nat) (pF : Nat → List Int32) (fH : Nat → Int32) (row : List Int32) : List q4 := recL (fun i => bel row (pF i)) (fun i => ((2 : Int32), nI hn, fH i, nI i)) fn 0
noncomputable abbrev recA (hn fn : Nat) (hF : Nat → List Int32) (hd9 : Int32) (row : List Int32) : List q4 := recL (fun i => bel (hF i) row) (fun i => ((2 : Int32), nI i, hd9, nI fn)) hn 0
def takeHK (G : mG) (S : mS) (m hn fn rn : Nat) (nr nc : Int32) (hF pF : Nat → List Int32) (fH : Nat → Int32) (rF : Nat → Nat → Int32) (row : List Int32) : Option Value → mS → Prop := fun v S' => fr S S' (xM m) ∧
  (((∃ i, i < hn ∧ same (hF i) 0 row 0 37) ∧ v = some (.int 0) ∧ Mn G S' m hn fn rn nr nc hF pF fH rF) ∨
   ((¬ ∃ i, i < hn ∧ same (hF i) 0 row 0 37) ∧ (hn = 20 ∨ 20 < rn + (recF hn hF row).length + (recB hn fn pF fH row).length) ∧ v = some (.int (-3)) ∧ ∃ rF', (∀ i, i < rn → rF' i = rF i) ∧ Mn G S' m hn fn rn nr nc hF pF fH rF') ∨
   ((¬ ∃ i, i < hn ∧ same (hF i) 0 row 0 37) ∧ hn < 20 ∧ rn + (recF hn hF row).length + (recB hn fn pF fH row).length ≤ 20 ∧ v = some (.int 1) ∧ Mn G S' m (hn + 1) fn (rn + (recF hn hF row).length + (recB hn fn pF fH row).length) nr nc (va_up hF hn row) pF fH (rputs (rputs rF rn (recF hn hF row)) (rn + (recF hn hF row).length) (recB hn fn pF fH row))))
theorem c_Mon_takeHead (h : Mn G S m hn fn rn nr nc hF pF fH rF) (hr : Rl G S r capr row) (hd : r + 1 < m ∨ m + 88 < r) (hl : row.length ≤ 45) :
    mCon G yX3_takeHead cX3_takeHead 3 (some .int) (rmD 4) [.ref m, .ref r] S (takeHK G S m hn fn rn nr nc hF pF fH rF row) := by
  have hb := h.2.2.2.2.2.2.2.2
  refine mCon.of (I := miX3 false (some .int)) (by decide) rfl rfl (fun h => by cases h) (fun _ => rfl) (Nat.le_of_ble_eq_true rfl) ?_
  show Gd _ _ _ _ _ _ _ _ 0 [(0, .ref m), (1, .ref r)] [] (0, 0) _
  -- no room: the records are taken back
  have full : ∀ (S1 : mS) (rn1 : Nat) (rF1 : Nat → Nat → Int32), fr S S1 (xM m) → (¬ ∃ i, i < hn ∧ same (hF i) 0 row 0 37) → (hn = 20 ∨ 20 < rn + (recF hn hF row).length + (recB hn fn pF fH row).length) → (∀ i, i < rn → rF1 i = rF i) → Mn G S1 m hn fn rn1 nr nc hF pF fH rF1 → Gd G (miX3 false (some .int)) cX3_takeHead 3 (rmD 4) 0 0 (takeHK G S m hn fn rn nr nc hF pF fH rF row) 40 [(0, .ref m), (1, .ref r), (2, .int (nI rn))] [] (0, 0) S1 := by
    intro S1 rn1 rF1 f1 hA hB hC h1
    refine Gd.of (ckX3 _ _) tX3_takeHead_ok (cuts := fun _ => none) 40 ?_
    refine ⟨Or.inl rfl, ?_⟩
    refine eP.i h1.1 (Nat.le_of_ble_eq_true rfl) rfl rfl ?_
    refine eR.int ⟨f1.tr (fr.up1.mono (fun q z => by rw [z]; constructor <;> omega)), Or.inr (Or.inl ⟨hA, hB, rfl, rF1, hC, h1.setO fr.up1 h1.1.up hb⟩)⟩
  refine Gd.of (ckX3 _ _) tX3_takeHead_ok (cuts := lf 40 3) 80 ?_
  refine ⟨rfl, Nat.le_of_ble_eq_true rfl, ?_⟩
  refine eV.i h.1 ?_
  refine eC.z (c_Mon_holdsLike h hr) ⟨rfl, rfl⟩ ⟨Nat.le_of_ble_eq_true rfl, Nat.le_of_ble_eq_true rfl⟩ ⟨Nat.zero_le _, Nat.zero_le _⟩ (fun v S9 hk => ?_)
  obtain ⟨rfl, rfl⟩ := hk
  by_cases hA : ∃ i, i < hn ∧ same (hF i) 0 row 0 37
  · rw [pI_t hA]
    refine eB.f (by decide) ?_
    exact eR.int ⟨fr.rf, Or.inl ⟨hA, rfl, h⟩⟩
  · rw [pI_f hA]
    refine eB.t rfl ?_
    refine eG.i h.1 rfl ?_
    refine eG.i h.1 rfl ?_
    refine eB.i (fun q => ?_) (fun q => ?_)
    · rw [show (20 : Int32) = nI 20 from rfl, nI_leI (by omega) (by omega)] at q
      exact full S9 rn rF fr.rf hA (Or.inl (by omega)) (fun _ _ => rfl) h
    · rw [show (20 : Int32) = nI 20 from rfl, nI_leI (by omega) (by omega)] at q
      refine ⟨rfl, Nat.le_of_ble_eq_true rfl, ?_⟩
      refine eV.i h.1 ?_
      refine eC.z (c_Mon_raiseForks h hr hd) ⟨rfl, rfl⟩ ⟨Nat.le_of_ble_eq_true rfl, Nat.le_of_ble_eq_true rfl⟩ ⟨Nat.zero_le _, Nat.zero_le _⟩ (fun v S1 hk => ?_)
      obtain ⟨f1, hk⟩ := hk
      rcases hk with ⟨g1, rfl, g3⟩ | ⟨g1, rfl, rn', rF', g3, g4⟩
      · refine eB.f (by decide) ?_
        have hr1 := hr.fr f1 (by omega) (by omega)
        refine ⟨rfl, Nat.le_of_ble_eq_true rfl, ?_⟩
        refine eV.i g3.1 ?_
        refine eC.z (c_Mon_raiseBreachesOfHead g3 hr1 hd) ⟨rfl, rfl⟩ ⟨Nat.le_of_ble_eq_true rfl, Nat.le_of_ble_eq_true rfl⟩ ⟨Nat.zero_le _, Nat.zero_le _⟩ (fun v S2 hk => ?_)
        obtain ⟨f2, hk⟩ := hk
        rcases hk with ⟨k1, rfl, k3⟩ | ⟨k1, rfl, rn', rF', k3, k4⟩
        · refine eB.f (by decide) ?_
          have hr2 := hr1.fr f2 (by omega) (by omega)
          obtain ⟨u, h2, h2'⟩ := k3.2.1
          have h7 := k3.2.2.2.2.2.2.1 hn (by omega)
          refine eG.i k3.1 rfl ?_
          refine eG.i k3.1 rfl ?_
          refine eLq.r (i := nI hn) (b := m + 25 + 2 * hn) h2 (by decide) (vp_in_nI (by omega) (by omega)) (by rw [nI_clamp (by omega)]; exact h2' hn (by omega)) ?_
          refine ⟨rfl, Nat.le_of_ble_eq_true rfl, ?_⟩
          refine eV.i h7.obj ?_
          refine eC.z (c_Row_become h7 hr2 (by omega) hl) ⟨rfl, rfl⟩ ⟨Nat.le_of_ble_eq_true rfl, Nat.le_of_ble_eq_true rfl⟩ ⟨Nat.zero_le _, Nat.zero_le _⟩ (fun v S3 hk => ?_)
          obtain ⟨rfl, f3, h73⟩ := hk
          have M3 := k3.setH (by omega) f3 h73
          refine eG.i M3.1 rfl ?_
          refine ⟨Or.inl rfl, ?_⟩
          refine eP.i M3.1 (Nat.le_of_ble_eq_true rfl) rfl rfl ?_
          have ho : mAt G (mUp S3 m (.inr (3, [.ref (m + 1), .ref (m + 2), .ref (m + 3), .ref (m + 4), .int (nI hn + 1), .int (nI fn), .int (nI (rn + (recF hn hF row).length + (recB hn fn pF fH row).length)), .int nr, .int nc]))) m (moL m (hn + 1) fn (rn + (recF hn hF row).length + (recB hn fn pF fH row).length) nr nc) := by
            rw [nI_1]
            exact M3.1.up
          refine eR.int ⟨?_, Or.inr (Or.inr ⟨hA, by omega, k1, rfl, M3.setO fr.up1 ho ⟨by omega, by omega, k1⟩⟩)⟩
          exact (f1.tr f2).tr ((f3.mono (fun z hz => by rcases hz with hz | hz <;> (constructor <;> omega))).tr (fr.up1.mono (fun z hz => by rw [hz]; constructor <;> omega)))
        · refine eB.t rfl ?_
          exact full S2 rn' rF' (f1.tr f2) hA (Or.inr k1) (fun i hi => by rw [k3 i (by omega)]; exact rputs_lt _ _ _ _ hi) k4
      · refine eB.t rfl ?_
        have g1' : 20 < rn + (recF hn hF row).length := g1
        exact full S1 rn' rF' f1 hA (Or.inr (by omega)) g3 g4
def takePK (G : mG) (S : mS) (m hn fn rn : Nat) (nr nc : Int32) (hF pF : Nat → List Int32) (fH : Nat → Int32) (rF : Nat → Nat → Int32) (row : List Int32) (x : Option Nat) : Option Value → mS → Prop := fun v S' => fr S S' (xM m) ∧
  ((x = none ∧ v = some (.int (-1)) ∧ Mn G S' m hn fn rn nr nc hF pF fH rF) ∨
   ∃ j, x = some j ∧
    (((∃ i, i < fn ∧ lik (pF i) row ∧ fH i = nI j) ∧ v = some (.int 0) ∧ Mn G S' m hn fn rn nr nc hF pF fH rF) ∨
     ((¬ ∃ i, i < fn ∧ lik (pF i) row ∧ fH i = nI j) ∧ (fn = 12 ∨ 20 < rn + (recA hn fn hF (nI j) row).length) ∧ v = some (.int (-3)) ∧ ∃ rF', (∀ i, i < rn → rF' i = rF i) ∧ Mn G S' m hn fn rn nr nc hF pF fH rF') ∨
     ((¬ ∃ i, i < fn ∧ lik (pF i) row ∧ fH i = nI j) ∧ fn < 12 ∧ rn + (recA hn fn hF (nI j) row).length ≤ 20 ∧ v = some (.int 1) ∧ Mn G S' m hn (fn + 1) (rn + (recA hn fn hF (nI j) row).length) nr nc hF (va_up pF fn row) (upd fH fn (nI j)) (rputs rF rn (recA hn fn hF (nI j) row)))))
theorem fstN_lt {P : Nat → Prop} : ∀ (d i j : Nat), fstN P d i = some j → i ≤ j ∧ j < i + d ∧ P j := by
  intro d
  induction d with
  | zero => intro i j h; cases h
  | succ d ih =>
    intro i j h
    by_cases hp : P i
    · rw [fstN_t hp] at h
      cases h
      exact ⟨Nat.le_refl _, by omega, hp⟩
    · rw [fstN_f hp] at h
      have := ih (i + 1) j h
      exact ⟨by omega, by omega, this.2.2⟩
theorem c_Mon_takeNull (h : Mn G S m hn fn rn nr nc hF pF fH rF) :
    mCon G yX3_takeProof cX3_takeProof 5 (some .int) (rmD 4) [.ref m, .ref r, .null] S (fun v S' => S' = S ∧ v = some (.int (-1))) := by
  refine mCon.of (I := miX3 false (some .int)) (by decide) rfl rfl (fun h => by cases h) (fun _ => rfl) (Nat.le_of_ble_eq_true rfl) ?_
  show Gd _ _ _ _ _ _ _ _ 0 [(0, .ref m), (1, .ref r), (2, .null)] [] (0, 0) _
  refine Gd.of (ckX3 _ _) tX3_takeProof_ok (cuts := fun _ => none) 40 ?_
  refine eB.t rfl ?_
  exact eR.int ⟨rfl, rfl⟩
theorem c_Mon_takeProof {b cb : Nat} {root : List Int32} (h : Mn G S m hn fn rn nr nc hF pF fH rF) (hr : Rl G S r capr row) (ho : Rl G S b cb root) (hd : r + 1 < m ∨ m + 88 < r) (hl : row.length ≤ 297) :
    mCon G yX3_takeProof cX3_takeProof 5 (some .int) (rmD 4) [.ref m, .ref r, .ref b] S (takePK G S m hn fn rn nr nc hF pF fH rF row (fstN (fun i => accP (hF i) row root) hn 0)) := by
  have hb := h.2.2.2.2.2.2.2.2
  refine mCon.of (I := miX3 false (some .int)) (by decide) rfl rfl (fun h => by cases h) (fun _ => rfl) (Nat.le_of_ble_eq_true rfl) ?_
  show Gd _ _ _ _ _ _ _ _ 0 [(0, .ref m), (1, .ref r), (2, .ref b)] [] (0, 0) _
  refine Gd.of (ckX3 _ _) tX3_takeProof_ok (cuts := lf 57 5) 80 ?_
  refine ⟨rfl, Nat.le_of_ble_eq_true rfl, ?_⟩
  refine eV.i h.1 ?_
  refine eC.z (c_Mon_headAccepting h hr ho) ⟨rfl, rfl⟩ ⟨Nat.le_of_ble_eq_true rfl, Nat.le_of_ble_eq_true rfl⟩ ⟨Nat.zero_le _, Nat.zero_le _⟩ (fun v S9 hk => ?_)
  obtain ⟨rfl, rfl⟩ := hk
  cases hx : fstN (fun i => accP (hF i) row root) hn 0 with
  | none =>
    refine eB.t rfl ?_
    exact eR.int ⟨fr.rf, Or.inl ⟨rfl, rfl, h⟩⟩
  | some j =>
    have hj := fstN_lt _ _ _ hx
    have hjn : ¬ nI j = -1 := fun z => by
      have := congrArg Int32.toInt z
      rw [nI_toInt (by omega)] at this
      have e : (-1 : Int32).toInt = -1 := rfl
      omega
    have full : ∀ (S1 : mS) (rn1 : Nat) (rF1 : Nat → Nat → Int32), fr S9 S1 (xM m) → (¬ ∃ i, i < fn ∧ lik (pF i) row ∧ fH i = nI j) → (fn = 12 ∨ 20 < rn + (recA hn fn hF (nI j) row).length) → (∀ i, i < rn → rF1 i = rF i) → Mn G S1 m hn fn rn1 nr nc hF pF fH rF1 → Gd G (miX3 false (some .int)) cX3_takeProof 5 (rmD 4) 0 0 (takePK G S9 m hn fn rn nr nc hF pF fH rF row (some j)) 57 [(0, .ref m), (1, .ref r), (2, .ref b), (3, .int (nI j)), (4, .int (nI rn))] [] (0, 0) S1 := by
      intro S1 rn1 rF1 f1 hA hB hC h1
      refine Gd.of (ckX3 _ _) tX3_takeProof_ok (cuts := fun _ => none) 40 ?_
      refine ⟨Or.inl rfl, ?_⟩
      refine eP.i h1.1 (Nat.le_of_ble_eq_true rfl) rfl rfl ?_
      refine eR.int ⟨f1.tr (fr.up1.mono (fun q z => by rw [z]; constructor <;> omega)), Or.inr ⟨j, rfl, Or.inr (Or.inl ⟨hA, hB, rfl, rF1, hC, h1.setO fr.up1 h1.1.up hb⟩)⟩⟩
    refine eB.f hjn ?_
    refine ⟨rfl, Nat.le_of_ble_eq_true rfl, ?_⟩
    refine eV.i h.1 ?_
    refine eC.z (c_Mon_hasFactLike (hd := nI j) h hr) ⟨rfl, rfl⟩ ⟨Nat.le_of_ble_eq_true rfl, Nat.le_of_ble_eq_true rfl⟩ ⟨Nat.zero_le _, Nat.zero_le _⟩ (fun v S8 hk => ?_)
    obtain ⟨rfl, rfl⟩ := hk
    by_cases hA : ∃ i, i < fn ∧ lik (pF i) row ∧ fH i = nI j
    · rw [pI_t hA]
      refine eB.f (by decide) ?_
      exact eR.int ⟨fr.rf, Or.inr ⟨j, rfl, Or.inl ⟨hA, rfl, h⟩⟩⟩
    · rw [pI_f hA]
      refine eB.t rfl ?_
      refine eG.i h.1 rfl ?_
      refine eG.i h.1 rfl ?_
      refine eB.i (fun q => ?_) (fun q => ?_)
      · rw [show (12 : Int32) = nI 12 from rfl, nI_leI (by omega) (by omega)] at q
        exact full _ rn rF fr.rf hA (Or.inl (by omega)) (fun _ _ => rfl) h
      · rw [show (12 : Int32) = nI 12 from rfl, nI_leI (by omega) (by omega)] at q
        refine ⟨rfl, Nat.le_of_ble_eq_true rfl, ?_⟩
        refine eV.i h.1 ?_
        refine eC.z (c_Mon_raiseBreachesOfFact (hd9 := nI j) h hr hd) ⟨rfl, rfl⟩ ⟨Nat.le_of_ble_eq_true rfl, Nat.le_of_ble_eq_true rfl⟩ ⟨Nat.zero_le _, Nat.zero_le _⟩ (fun v S1 hk => ?_)
        obtain ⟨f1, hk⟩ := hk
        rcases hk with ⟨k1, rfl, k3⟩ | ⟨k1, rfl, rn', rF', k3, k4⟩
        · refine eB.f (by decide) ?_
          have hr2 := hr.fr f1 (by omega) (by omega)
          obtain ⟨u, h2, h2'⟩ := k3.2.2.1
          have h7 := k3.2.2.2.2.2.2.2.1 fn (by omega)
          refine eG.i k3.1 rfl ?_
          refine eG.i k3.1 rfl ?_
          refine eLq.r (i := nI fn) (b := m + 65 + 2 * fn) h2 (by decide) (vp_in_nI (by omega) (by omega)) (by rw [nI_clamp (by omega)]; exact h2' fn (by omega)) ?_
          refine ⟨rfl, Nat.le_of_ble_eq_true rfl, ?_⟩
          refine eV.i h7.obj ?_
          refine eC.z (c_Row_become h7 hr2 (by omega) hl) ⟨rfl, rfl⟩ ⟨Nat.le_of_ble_eq_true rfl, Nat.le_of_ble_eq_true rfl⟩ ⟨Nat.zero_le _, Nat.zero_le _⟩ (fun v S3 hk => ?_)
          obtain ⟨rfl, f3, h73⟩ := hk
          have M3 := k3.setP (by omega) f3 h73
          refine eG.i M3.1 rfl ?_
          refine eG.i M3.1 rfl ?_
          have h43 := M3.2.2.2.1
          refine eS.i (i := nI fn) h43 (vp_in_nI (by omega) (by omega)) ?_
          have M4 : Mn G (mUp S3 (m + 3) (eIn G 12 (upd fH (nI fn).toNatClampNeg (nI j)))) m hn fn (rn + (recA hn fn hF (nI j) row).length) nr nc hF (va_up pF fn row) (upd fH fn (nI j)) (rputs rF rn (recA hn fn hF (nI j) row)) := M3.setF fr.up1 (by rw [nI_clamp (by omega)]; exact h43.up)
          refine eG.i M4.1 rfl ?_
          refine ⟨Or.inl rfl, ?_⟩
          refine eP.i M4.1 (Nat.le_of_ble_eq_true rfl) rfl rfl ?_
          have ho : mAt G (mUp (mUp S3 (m + 3) (eIn G 12 (upd fH (nI fn).toNatClampNeg (nI j)))) m (.inr (3, [.ref (m + 1), .ref (m + 2), .ref (m + 3), .ref (m + 4), .int (nI hn), .int (nI fn + 1), .int (nI (rn + (recA hn fn hF (nI j) row).length)), .int nr, .int nc]))) m (moL m hn (fn + 1) (rn + (recA hn fn hF (nI j) row).length) nr nc) := by
            rw [nI_1]
            exact M4.1.up
          refine eR.int ⟨?_, Or.inr ⟨j, rfl, Or.inr (Or.inr ⟨hA, by omega, k1, rfl, M4.setO fr.up1 ho ⟨by omega, by omega, k1⟩⟩)⟩⟩
          exact f1.tr ((f3.mono (fun z hz => by rcases hz with hz | hz <;> (constructor <;> omega))).tr ((fr.up1.mono (fun z hz => by rw [hz]; constructor <;> omega)).tr (fr.up1.mono (fun z hz => by rw [hz]; constructor <;> omega))))
        · refine eB.t rfl ?_
          exact full S1 rn' rF' f1 hA (Or.inr k1) k3 k4
end MONE
