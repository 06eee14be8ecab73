/-! a monitor: its object at m, then the arrays, the records' rows, the rows of HEADS and of proofs -/
section MON
variable {G : mG} {S : mS} {m hn fn rn : Nat} {nr nc : Int32} {hF pF : Nat → List Int32} {fH : Nat → Int32} {rF : Nat → Nat → Int32}
abbrev moL (m hn fn rn : Nat) (nr nc : Int32) : va_E := .inr (3, [.ref (m + 1), .ref (m + 2), .ref (m + 3), .ref (m + 4), .int (nI hn), .int (nI fn), .int (nI rn), .int nr, .int nc])
def Mn (G : mG) (S : mS) (m hn fn rn : Nat) (nr nc : Int32) (hF pF : Nat → List Int32) (fH : Nat → Int32) (rF : Nat → Nat → Int32) : Prop :=
  mAt G S m (moL m hn fn rn nr nc) ∧ (∃ f : Nat → Option Nat, mAt G S (m + 1) (eRf G 2 20 f) ∧ ∀ i, i < 20 → f i = some (m + 25 + 2 * i)) ∧ (∃ f : Nat → Option Nat, mAt G S (m + 2) (eRf G 2 12 f) ∧ ∀ i, i < 12 → f i = some (m + 65 + 2 * i)) ∧ mAt G S (m + 3) (eIn G 12 fH) ∧ (∃ f : Nat → Option Nat, mAt G S (m + 4) (eRf G 6 20 f) ∧ ∀ i, i < 20 → f i = some (m + 5 + i)) ∧ (∀ i, i < 20 → mAt G S (m + 5 + i) (eIn G 4 (rF i))) ∧ (∀ i, i < 20 → Rl G S (m + 25 + 2 * i) 45 (hF i)) ∧ (∀ i, i < 12 → Rl G S (m + 65 + 2 * i) 297 (pF i)) ∧ hn ≤ 20 ∧ fn ≤ 12 ∧ rn ≤ 20
abbrev xM (m : Nat) : Nat → Prop := fun q => m ≤ q ∧ q ≤ m + 88
theorem Mn.keep {S' : mS} {X : Nat → Prop} (h : Mn G S m hn fn rn nr nc hF pF fH rF) (f : fr S S' X) (hx : ∀ q, m ≤ q → q ≤ m + 88 → ¬ X q) : Mn G S' m hn fn rn nr nc hF pF fH rF := by
  obtain ⟨h1, ⟨a, h2, h2'⟩, ⟨b, h3, h3'⟩, h4, ⟨d, h5, h5'⟩, h6, h7, h8, h9⟩ := h
  exact ⟨h1.fr f (hx _ (by omega) (by omega)), ⟨a, h2.fr f (hx _ (by omega) (by omega)), h2'⟩, ⟨b, h3.fr f (hx _ (by omega) (by omega)), h3'⟩, h4.fr f (hx _ (by omega) (by omega)), ⟨d, h5.fr f (hx _ (by omega) (by omega)), h5'⟩, fun i hi => (h6 i hi).fr f (hx _ (by omega) (by omega)), fun i hi => (h7 i hi).fr f (hx _ (by omega) (by omega)) (hx _ (by omega) (by omega)), fun i hi => (h8 i hi).fr f (hx _ (by omega) (by omega)) (hx _ (by omega) (by omega)), h9⟩
/-- the object alone has changed -/
theorem Mn.setO {S' : mS} {hn' fn' rn' : Nat} {nr' nc' : Int32} (h : Mn G S m hn fn rn nr nc hF pF fH rF) (f : fr S S' (fun q => q = m)) (ho : mAt G S' m (moL m hn' fn' rn' nr' nc')) (hb : hn' ≤ 20 ∧ fn' ≤ 12 ∧ rn' ≤ 20) : Mn G S' m hn' fn' rn' nr' nc' hF pF fH rF := by
  obtain ⟨h1, ⟨a, h2, h2'⟩, ⟨b, h3, h3'⟩, h4, ⟨d, h5, h5'⟩, h6, h7, h8, h9⟩ := h
  exact ⟨ho, ⟨a, h2.fr f (by omega), h2'⟩, ⟨b, h3.fr f (by omega), h3'⟩, h4.fr f (by omega), ⟨d, h5.fr f (by omega), h5'⟩, fun i hi => (h6 i hi).fr f (by omega), fun i hi => (h7 i hi).fr f (by omega) (by omega), fun i hi => (h8 i hi).fr f (by omega) (by omega), hb⟩
def nt (x c y : Int32) : Int32 := if x = c then y + 1 else y
theorem c_Mon_noted {x : Int32} (h : Mn G S m hn fn rn nr nc hF pF fH rF) :
    mCon G yX3_noted cX3_noted 2 (some .int) (rmD 0) [.ref m, .int x] S (fun v S' => v = some (.int x) ∧ fr S S' (fun q => q = m) ∧ Mn G S' m hn fn rn (nt x (-1) nr) (nt x (-3) nc) hF pF fH rF) := by
  have hb := h.2.2.2.2.2.2.2.2
  refine mCon.of (I := miX3 false (some .int)) (by decide) rfl rfl (fun h => by cases h) (fun _ => rfl) (Nat.le_of_ble_eq_true rfl) ?_
  show Gd _ _ _ _ _ _ _ _ 0 [(0, .ref m), (1, .int x)] [] (0, 0) _
  refine Gd.of (ckX3 _ _) tX3_noted_ok (cuts := fun _ => none) 40 ?_
  refine eB.i (fun q => ?_) (fun q => ?_)
  · refine eG.i h.1 rfl ?_
    refine ⟨Or.inl rfl, ?_⟩
    refine eP.i h.1 (Nat.le_of_ble_eq_true rfl) rfl rfl ?_
    refine eB.f (by rw [q]; decide) ?_
    refine eR.int ⟨rfl, fr.up rfl, ?_⟩
    rw [nt, nt, if_pos q, if_neg (by rw [q]; decide)]
    exact h.setO (fr.up rfl) h.1.up hb
  · refine eB.i (fun q2 => ?_) (fun q2 => ?_)
    · refine eG.i h.1 rfl ?_
      refine ⟨Or.inl rfl, ?_⟩
      refine eP.i h.1 (Nat.le_of_ble_eq_true rfl) rfl rfl ?_
      refine eR.int ⟨rfl, fr.up rfl, ?_⟩
      rw [nt, nt, if_neg q, if_pos q2]
      exact h.setO (fr.up rfl) h.1.up hb
    · refine eR.int ⟨rfl, fr.rf, ?_⟩
      rw [nt, nt, if_neg q, if_neg q2]
      exact h
def cntOf (hn fn rn : Nat) (nr nc x : Int32) : Int32 := if x = 0 then nI hn else if x = 1 then nI fn else if x = 2 then nI rn else if x = 3 then nr else if x = 4 then nc else -1
theorem i_lit {x : Int32} {j : Nat} (hj : j < 100) (h : x.toInt = 0 + (j : Int)) : x = nI j := by
  apply Int32.toInt_inj.mp
  rw [nI_toInt (by omega)]
  omega
theorem c_Mon_countOf {x : Int32} (h : Mn G S m hn fn rn nr nc hF pF fH rF) :
    mCon G yX3_countOf cX3_countOf 2 (some .int) (rmD 0) [.ref m, .int x] S (fun v S' => S' = S ∧ v = some (.int (cntOf hn fn rn nr nc x))) := by
  refine mCon.of (I := miX3 false (some .int)) (by decide) rfl rfl (fun h => by cases h) (fun _ => rfl) (Nat.le_of_ble_eq_true rfl) ?_
  show Gd _ _ _ _ _ _ _ _ 0 [(0, .ref m), (1, .int x)] [] (0, 0) _
  refine Gd.of (ckX3 _ _) tX3_countOf_ok (cuts := fun _ => none) 20 ?_
  refine eB.i (fun q => ?_) (fun q => ?_)
  · refine eR.int ⟨rfl, ?_⟩
    have h0 : x ≠ 0 := fun z => by rw [z] at q; revert q; decide
    have h1 : x ≠ 1 := fun z => by rw [z] at q; revert q; decide
    have h2 : x ≠ 2 := fun z => by rw [z] at q; revert q; decide
    have h3 : x ≠ 3 := fun z => by rw [z] at q; revert q; decide
    have h4 : x ≠ 4 := fun z => by rw [z] at q; revert q; decide
    rw [cntOf, if_neg h0, if_neg h1, if_neg h2, if_neg h3, if_neg h4]
  · intro j off hj hx
    match j, hj, hx with
    | 0, hj, hx =>
      obtain rfl : (35 : Int) = off := Option.some.inj hj
      have e := i_lit (by omega) hx
      subst e
      refine eG.i h.1 rfl ?_
      exact eR.int ⟨rfl, rfl⟩
    | 1, hj, hx =>
      obtain rfl : (40 : Int) = off := Option.some.inj hj
      have e := i_lit (by omega) hx
      subst e
      refine eG.i h.1 rfl ?_
      exact eR.int ⟨rfl, rfl⟩
    | 2, hj, hx =>
      obtain rfl : (45 : Int) = off := Option.some.inj hj
      have e := i_lit (by omega) hx
      subst e
      refine eG.i h.1 rfl ?_
      exact eR.int ⟨rfl, rfl⟩
    | 3, hj, hx =>
      obtain rfl : (50 : Int) = off := Option.some.inj hj
      have e := i_lit (by omega) hx
      subst e
      refine eG.i h.1 rfl ?_
      exact eR.int ⟨rfl, rfl⟩
    | 4, hj, hx =>
      obtain rfl : (55 : Int) = off := Option.some.inj hj
      have e := i_lit (by omega) hx
      subst e
      refine eG.i h.1 rfl ?_
      exact eR.int ⟨rfl, rfl⟩
    | j + 5, hj, hx => cases hj
abbrev inR (x : Int32) (n : Nat) : Prop := 0 ≤ x.toInt ∧ x.toInt < n
theorem c_Mon_hasHead {x : Int32} (h : Mn G S m hn fn rn nr nc hF pF fH rF) :
    mCon G yX3_hasHead cX3_hasHead 2 (some .boolean) (rmD 0) [.ref m, .int x] S (fun v S' => S' = S ∧ v = some (.int (if inR x hn then 1 else 0))) := by
  have hb := h.2.2.2.2.2.2.2.2
  refine mCon.of (I := miX3 false (some .boolean)) (by decide) rfl rfl (fun h => by cases h) (fun _ => rfl) (Nat.le_of_ble_eq_true rfl) ?_
  show Gd _ _ _ _ _ _ _ _ 0 [(0, .ref m), (1, .int x)] [] (0, 0) _
  refine Gd.of (ckX3 _ _) tX3_hasHead_ok (cuts := fun _ => none) 20 ?_
  refine eB.i (fun q => ?_) (fun q => ?_)
  · rw [i_lt0] at q
    exact eR.f ⟨rfl, by rw [if_neg (by omega)]⟩
  · rw [i_lt0] at q
    refine eG.i h.1 rfl ?_
    refine eB.i (fun q2 => ?_) (fun q2 => ?_)
    · rw [i_nle (by omega)] at q2
      exact eR.f ⟨rfl, by rw [if_neg (by omega)]⟩
    · rw [i_nle (by omega)] at q2
      exact eR.t ⟨rfl, by rw [if_pos (by omega)]⟩
theorem c_Mon_hasFact {x : Int32} (h : Mn G S m hn fn rn nr nc hF pF fH rF) :
    mCon G yX3_hasFact cX3_hasFact 2 (some .boolean) (rmD 0) [.ref m, .int x] S (fun v S' => S' = S ∧ v = some (.int (if inR x fn then 1 else 0))) := by
  have hb := h.2.2.2.2.2.2.2.2
  refine mCon.of (I := miX3 false (some .boolean)) (by decide) rfl rfl (fun h => by cases h) (fun _ => rfl) (Nat.le_of_ble_eq_true rfl) ?_
  show Gd _ _ _ _ _ _ _ _ 0 [(0, .ref m), (1, .int x)] [] (0, 0) _
  refine Gd.of (ckX3 _ _) tX3_hasFact_ok (cuts := fun _ => none) 20 ?_
  refine eB.i (fun q => ?_) (fun q => ?_)
  · rw [i_lt0] at q
    exact eR.f ⟨rfl, by rw [if_neg (by omega)]⟩
  · rw [i_lt0] at q
    refine eG.i h.1 rfl ?_
    refine eB.i (fun q2 => ?_) (fun q2 => ?_)
    · rw [i_nle (by omega)] at q2
      exact eR.f ⟨rfl, by rw [if_neg (by omega)]⟩
    · rw [i_nle (by omega)] at q2
      exact eR.t ⟨rfl, by rw [if_pos (by omega)]⟩
theorem c_Mon_hasRecord {x : Int32} (h : Mn G S m hn fn rn nr nc hF pF fH rF) :
    mCon G yX3_hasRecord cX3_hasRecord 2 (some .boolean) (rmD 0) [.ref m, .int x] S (fun v S' => S' = S ∧ v = some (.int (if inR x rn then 1 else 0))) := by
  have hb := h.2.2.2.2.2.2.2.2
  refine mCon.of (I := miX3 false (some .boolean)) (by decide) rfl rfl (fun h => by cases h) (fun _ => rfl) (Nat.le_of_ble_eq_true rfl) ?_
  show Gd _ _ _ _ _ _ _ _ 0 [(0, .ref m), (1, .int x)] [] (0, 0) _
  refine Gd.of (ckX3 _ _) tX3_hasRecord_ok (cuts := fun _ => none) 20 ?_
  refine eB.i (fun q => ?_) (fun q => ?_)
  · rw [i_lt0] at q
    exact eR.f ⟨rfl, by rw [if_neg (by omega)]⟩
  · rw [i_lt0] at q
    refine eG.i h.1 rfl ?_
    refine eB.i (fun q2 => ?_) (fun q2 => ?_)
    · rw [i_nle (by omega)] at q2
      exact eR.f ⟨rfl, by rw [if_neg (by omega)]⟩
    · rw [i_nle (by omega)] at q2
      exact eR.t ⟨rfl, by rw [if_pos (by omega)]⟩
def rcV (rn : Nat) (rF : Nat → Nat → Int32) (i x : Int32) : Int32 := if inR i rn ∧ inR x 4 then rF i.toInt.toNat x.toInt.toNat else -1
theorem c_Mon_ofRecord {i x : Int32} (h : Mn G S m hn fn rn nr nc hF pF fH rF) :
    mCon G yX3_ofRecord cX3_ofRecord 3 (some .int) (rmD 1) [.ref m, .int i, .int x] S (fun v S' => S' = S ∧ v = some (.int (rcV rn rF i x))) := by
  have hb := h.2.2.2.2.2.2.2.2
  obtain ⟨f, h5, h5'⟩ := h.2.2.2.2.1
  have h6 := h.2.2.2.2.2.1
  refine mCon.of (I := miX3 false (some .int)) (by decide) rfl rfl (fun h => by cases h) (fun _ => rfl) (Nat.le_of_ble_eq_true rfl) ?_
  show Gd _ _ _ _ _ _ _ _ 0 [(0, .ref m), (1, .int i), (2, .int x)] [] (0, 0) _
  refine Gd.of (ckX3 _ _) tX3_ofRecord_ok (cuts := fun _ => none) 40 ?_
  refine ⟨rfl, Nat.le_of_ble_eq_true rfl, ?_⟩
  refine eV.i h.1 ?_
  refine eC.z (c_Mon_hasRecord h) ⟨rfl, rfl⟩ ⟨Nat.le_of_ble_eq_true rfl, Nat.le_of_ble_eq_true rfl⟩ ⟨Nat.zero_le _, Nat.zero_le _⟩ (fun v S1 hk => ?_)
  obtain ⟨rfl, rfl⟩ := hk
  by_cases hi : inR i rn
  · rw [if_pos hi]
    refine eB.f (by decide) ?_
    refine eB.i (fun q => ?_) (fun q => ?_)
    · rw [i_lt0] at q
      exact eR.int ⟨rfl, by rw [rcV, if_neg (by omega)]⟩
    · rw [i_lt0] at q
      refine eB.i (fun q2 => ?_) (fun q2 => ?_)
      · rw [show (4 : Int32) = nI 4 from rfl, i_ltn (by omega)] at q2
        refine eG.i h.1 rfl ?_
        refine eLq.r (i := i) (b := m + 5 + i.toInt.toNat) h5 (by decide) (vp_in_iff.mpr (by omega)) (h5' _ (by rw [i_cl]; omega)) ?_
        refine eL.i (i := x) (h6 i.toInt.toNat (by omega)) (vp_in_iff.mpr (by omega)) ?_
        exact eR.int ⟨rfl, by rw [rcV, if_pos (by omega)]; rfl⟩
      · rw [show (4 : Int32) = nI 4 from rfl, i_ltn (by omega)] at q2
        exact eR.int ⟨rfl, by rw [rcV, if_neg (by omega)]⟩
  · rw [if_neg hi]
    refine eB.t rfl ?_
    exact eR.int ⟨rfl, by rw [rcV, if_neg (fun z => hi z.1)]⟩
def fcV (fn : Nat) (pF : Nat → List Int32) (fH : Nat → Int32) (i x : Int32) : Int32 := if inR i fn ∧ inR x 36 then (if x = 0 then rAt (pF i.toInt.toNat) 0 else if x = 1 then rNum (pF i.toInt.toNat) 1 else if x = 2 then fH i.toInt.toNat else if x = 3 then (nI (pF i.toInt.toNat).length - 41) / 32 else rAt (pF i.toInt.toNat) (9 + x - 4)) else -1
theorem c_Mon_ofFact {i x : Int32} (h : Mn G S m hn fn rn nr nc hF pF fH rF) :
    mCon G yX3_ofFact cX3_ofFact 3 (some .int) (rmD 1) [.ref m, .int i, .int x] S (fun v S' => S' = S ∧ v = some (.int (fcV fn pF fH i x))) := by
  have hb := h.2.2.2.2.2.2.2.2
  obtain ⟨f, h3, h3'⟩ := h.2.2.1
  have h4 := h.2.2.2.1
  have h8 := h.2.2.2.2.2.2.2.1
  refine mCon.of (I := miX3 false (some .int)) (by decide) rfl rfl (fun h => by cases h) (fun _ => rfl) (Nat.le_of_ble_eq_true rfl) ?_
  show Gd _ _ _ _ _ _ _ _ 0 [(0, .ref m), (1, .int i), (2, .int x)] [] (0, 0) _
  refine Gd.of (ckX3 _ _) tX3_ofFact_ok (cuts := fun _ => none) 40 ?_
  refine ⟨rfl, Nat.le_of_ble_eq_true rfl, ?_⟩
  refine eV.i h.1 ?_
  refine eC.z (c_Mon_hasFact h) ⟨rfl, rfl⟩ ⟨Nat.le_of_ble_eq_true rfl, Nat.le_of_ble_eq_true rfl⟩ ⟨Nat.zero_le _, Nat.zero_le _⟩ (fun v S1 hk => ?_)
  obtain ⟨rfl, rfl⟩ := hk
  by_cases hi : inR i fn
  · rw [if_pos hi]
    have hin : vp_in i 12 := vp_in_iff.mpr (by omega)
    have hf : f i.toNatClampNeg = some (m + 65 + 2 * i.toInt.toNat) := h3' _ (by rw [i_cl]; omega)
    have hr := h8 i.toInt.toNat (by omega)
    refine eB.f (by decide) ?_
    refine eB.i (fun q => ?_) (fun q => ?_)
    · rw [i_lt0] at q
      exact eR.int ⟨rfl, by rw [fcV, if_neg (by omega)]⟩
    · rw [i_lt0] at q
      refine eB.i (fun q2 => ?_) (fun q2 => ?_)
      · rw [show (36 : Int32) = nI 36 from rfl, i_ltn (by omega)] at q2
        have hx36 : inR i fn ∧ inR x 36 := by omega
        refine eB.i (fun q3 => ?_) (fun q3 => ?_)
        · have h0 : x ≠ 0 := fun z => by rw [z] at q3; revert q3; decide
          have h1 : x ≠ 1 := fun z => by rw [z] at q3; revert q3; decide
          have h2 : x ≠ 2 := fun z => by rw [z] at q3; revert q3; decide
          have h33 : x ≠ 3 := fun z => by rw [z] at q3; revert q3; decide
          refine eG.i h.1 rfl ?_
          refine eLq.r (i := i) (by assumption) (by decide) hin hf ?_
          refine ⟨rfl, Nat.le_of_ble_eq_true rfl, ?_⟩
          refine eV.i hr.obj ?_
          refine eC.z (c_Row_at hr) ⟨rfl, rfl⟩ ⟨Nat.le_of_ble_eq_true rfl, Nat.le_of_ble_eq_true rfl⟩ ⟨Nat.zero_le _, Nat.zero_le _⟩ (fun v S2 hk => ?_)
          obtain ⟨rfl, rfl⟩ := hk
          refine eR.int ⟨rfl, ?_⟩
          rw [fcV, if_pos hx36, if_neg h0, if_neg h1, if_neg h2, if_neg h33]
        · intro j off hj hx
          match j, hj, hx with
          | 0, hj, hx =>
            obtain rfl : (31 : Int) = off := Option.some.inj hj
            have e : x = 0 := i_lit (j := 0) (by omega) hx
            refine eG.i h.1 rfl ?_
            refine eLq.r (i := i) (by assumption) (by decide) hin hf ?_
            refine ⟨rfl, Nat.le_of_ble_eq_true rfl, ?_⟩
            refine eV.i hr.obj ?_
            refine eC.z (c_Row_at hr) ⟨rfl, rfl⟩ ⟨Nat.le_of_ble_eq_true rfl, Nat.le_of_ble_eq_true rfl⟩ ⟨Nat.zero_le _, Nat.zero_le _⟩ (fun v S2 hk => ?_)
            obtain ⟨rfl, rfl⟩ := hk
            exact eR.int ⟨rfl, by rw [fcV, if_pos hx36, if_pos e]⟩
          | 1, hj, hx =>
            obtain rfl : (42 : Int) = off := Option.some.inj hj
            have e := i_lit (by omega) hx
            subst e
            refine eG.i h.1 rfl ?_
            refine eLq.r (i := i) (by assumption) (by decide) hin hf ?_
            refine ⟨rfl, Nat.le_of_ble_eq_true rfl, ?_⟩
            refine eV.i hr.obj ?_
            refine eC.z (c_Row_number hr) ⟨rfl, rfl⟩ ⟨Nat.le_of_ble_eq_true rfl, Nat.le_of_ble_eq_true rfl⟩ ⟨Nat.zero_le _, Nat.zero_le _⟩ (fun v S2 hk => ?_)
            obtain ⟨rfl, rfl⟩ := hk
            exact eR.int ⟨rfl, by rw [fcV, if_pos hx36, if_neg (by decide), if_pos (by decide)]⟩
          | 2, hj, hx =>
            obtain rfl : (53 : Int) = off := Option.some.inj hj
            have e := i_lit (by omega) hx
            subst e
            refine eG.i h.1 rfl ?_
            refine eL.i (i := i) h4 hin ?_
            exact eR.int ⟨rfl, by rw [fcV, if_pos hx36, if_neg (by decide), if_neg (by decide), if_pos (by decide)]; rfl⟩
          | 3, hj, hx =>
            obtain rfl : (60 : Int) = off := Option.some.inj hj
            have e := i_lit (by omega) hx
            subst e
            refine eG.i h.1 rfl ?_
            refine eLq.r (i := i) (by assumption) (by decide) hin hf ?_
            refine eG.i hr.obj rfl ?_
            refine eZ.i (by decide) ?_
            exact eR.int ⟨rfl, by rw [fcV, if_pos hx36, if_neg (by decide), if_neg (by decide), if_neg (by decide), if_pos (by decide)]⟩
          | j + 4, hj, hx => cases hj
      · rw [show (36 : Int32) = nI 36 from rfl, i_ltn (by omega)] at q2
        exact eR.int ⟨rfl, by rw [fcV, if_neg (by omega)]⟩
  · rw [if_neg hi]
    refine eB.t rfl ?_
    exact eR.int ⟨rfl, by rw [fcV, if_neg (fun z => hi z.1)]⟩
end MON
