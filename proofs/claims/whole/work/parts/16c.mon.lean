/-! searches -/
noncomputable def fstN (P : Nat → Prop) : Nat → Nat → Option Nat
  | 0, _ => none
  | d + 1, i => @ite _ (P i) (Classical.propDecidable _) (some i) (fstN P d (i + 1))
noncomputable def cntN (P : Nat → Prop) : Nat → Nat → Nat
  | 0, _ => 0
  | d + 1, i => @ite _ (P i) (Classical.propDecidable _) 1 0 + cntN P d (i + 1)
theorem fstN_t {P : Nat → Prop} {d i : Nat} (h : P i) : fstN P (d + 1) i = some i := by rw [fstN, if_pos h]
theorem fstN_f {P : Nat → Prop} {d i : Nat} (h : ¬ P i) : fstN P (d + 1) i = fstN P d (i + 1) := by rw [fstN, if_neg h]
theorem cntN_t {P : Nat → Prop} {d i : Nat} (h : P i) : cntN P (d + 1) i = 1 + cntN P d (i + 1) := by rw [cntN, if_pos h]
theorem cntN_f {P : Nat → Prop} {d i : Nat} (h : ¬ P i) : cntN P (d + 1) i = cntN P d (i + 1) := by rw [cntN, if_neg h, Nat.zero_add]
theorem cntN_le {P : Nat → Prop} : ∀ (d i : Nat), cntN P d i ≤ d := by
  intro d
  induction d with
  | zero => intro i; exact Nat.le_refl 0
  | succ d ih =>
    intro i
    have := ih (i + 1)
    rw [cntN]
    split <;> omega
def oI (x : Option Nat) : Int32 := match x with
  | some i => nI i
  | none => -1
def accP (h p root : List Int32) : Prop := (rAt h 0 = rAt p 0 ∧ same h 1 p 5 4) ∧ same h 5 root 0 32
def accW (h p root : List Int32) : Prop := same h 0 p 0 5 ∧ same h 5 root 0 32
def lik (q p : List Int32) : Prop := same q 0 p 0 5 ∧ same q 9 p 9 32
section MONC
variable {G : mG} {S : mS} {m hn fn rn r capr : Nat} {nr nc : Int32} {hF pF : Nat → List Int32} {fH : Nat → Int32} {rF : Nat → Nat → Int32} {row : List Int32}
theorem c_Mon_holdsLike (h : Mn G S m hn fn rn nr nc hF pF fH rF) (hr : Rl G S r capr row) :
    mCon G yX3_holdsLike cX3_holdsLike 3 (some .boolean) (rmD 2) [.ref m, .ref r] S (fun v S' => S' = S ∧ v = some (.int (pI (∃ i, i < hn ∧ same (hF i) 0 row 0 37)))) := by
  have hb := h.2.2.2.2.2.2.2.2
  obtain ⟨u, h2, h2'⟩ := h.2.1
  have h7 := h.2.2.2.2.2.2.1
  refine mCon.of (I := miX3 false (some .boolean)) (by decide) rfl rfl (fun h => by cases h) (fun _ => rfl) (Nat.le_of_ble_eq_true rfl) ?_
  show Gd _ _ _ _ _ _ _ _ 0 [(0, .ref m), (1, .ref r)] [] (0, 0) _
  have key : ∀ (d i : Nat), i + d = hn → (∀ j, j < i → ¬ same (hF j) 0 row 0 37) → Gd G (miX3 false (some .boolean)) cX3_holdsLike 3 (rmD 2) 0 0 (fun v S' => S' = S ∧ v = some (.int (pI (∃ i, i < hn ∧ same (hF i) 0 row 0 37)))) 2 [(0, .ref m), (1, .ref r), (2, .int (nI i))] [] (0, 0) S := by
    intro d
    induction d with
    | zero =>
      intro i hi hj
      refine Gd.of (ckX3 _ _) tX3_holdsLike_ok (cuts := lf 2 3) 40 ?_
      refine eG.i h.1 rfl ?_
      refine eB.t (by rw [nI_leI (by omega) (by omega)]; omega) ?_
      refine eR.f ⟨rfl, ?_⟩
      rw [pI_f]
      rintro ⟨j, q1, q2⟩
      exact hj j (by omega) q2
    | succ d ih =>
      intro i hi hj
      refine Gd.of (ckX3 _ _) tX3_holdsLike_ok (cuts := lf 2 3) 40 ?_
      refine eG.i h.1 rfl ?_
      refine eB.f (by rw [nI_leI (by omega) (by omega)]; omega) ?_
      refine eG.i h.1 rfl ?_
      refine eLq.r (i := nI i) (b := m + 25 + 2 * i) h2 (by decide) (vp_in_nI (by omega) (by omega)) (by rw [nI_clamp (by omega)]; exact h2' i (by omega)) ?_
      refine ⟨rfl, Nat.le_of_ble_eq_true rfl, ?_⟩
      refine eV.i (h7 i (by omega)).obj ?_
      refine eC.z (c_Row_sameAs (i := 0) (j := 0) (n := 37) (h7 i (by omega)) hr (by omega) (by omega)) ⟨rfl, rfl⟩ ⟨Nat.le_of_ble_eq_true rfl, Nat.le_of_ble_eq_true rfl⟩ ⟨Nat.zero_le _, Nat.zero_le _⟩ (fun v S1 hk => ?_)
      obtain ⟨rfl, rfl⟩ := hk
      rw [sameI_eq]
      by_cases q : same (hF i) 0 row 0 37
      · rw [pI_t q]
        refine eB.f (by decide) ?_
        exact eR.t ⟨rfl, by rw [pI_t ⟨i, by omega, q⟩]⟩
      · rw [pI_f q]
        refine eB.t rfl ?_
        have e1 : nI i + 1 = nI (i + 1) := nI_1 i
        have h9 := ih (i + 1) (by omega) (fun j hjl => by
          by_cases hq : j = i
          · rw [hq]; exact q
          · exact hj j (by omega))
        rw [← e1] at h9
        exact h9
  refine Gd.of (ckX3 _ _) tX3_holdsLike_ok (cuts := lf 2 3) 40 ?_
  exact key hn 0 (by omega) (fun j hj => absurd hj (Nat.not_lt_zero j))
theorem c_Mon_headAccepting {b cb : Nat} {root : List Int32} (h : Mn G S m hn fn rn nr nc hF pF fH rF) (hr : Rl G S r capr row) (ho : Rl G S b cb root) :
    mCon G yX3_headAccepting cX3_headAccepting 5 (some .int) (rmD 2) [.ref m, .ref r, .ref b] S (fun v S' => S' = S ∧ v = some (.int (oI (fstN (fun i => accP (hF i) row root) hn 0)))) := by
  have hb := h.2.2.2.2.2.2.2.2
  obtain ⟨u, h2, h2'⟩ := h.2.1
  have h7 := h.2.2.2.2.2.2.1
  refine mCon.of (I := miX3 false (some .int)) (by decide) rfl rfl (fun h => by cases h) (fun _ => rfl) (Nat.le_of_ble_eq_true rfl) ?_
  show Gd _ _ _ _ _ _ _ _ 0 [(0, .ref m), (1, .ref r), (2, .ref b)] [] (0, 0) _
  have key : ∀ (d i : Nat), i + d = hn → fstN (fun i => accP (hF i) row root) d i = fstN (fun i => accP (hF i) row root) hn 0 → Gd G (miX3 false (some .int)) cX3_headAccepting 5 (rmD 2) 0 0 (fun v S' => S' = S ∧ v = some (.int (oI (fstN (fun i => accP (hF i) row root) hn 0)))) 2 [(0, .ref m), (1, .ref r), (2, .ref b), (3, .int (nI i))] [] (0, 0) S := by
    intro d
    induction d with
    | zero =>
      intro i hi he
      refine Gd.of (ckX3 _ _) tX3_headAccepting_ok (cuts := lf 2 4) 60 ?_
      refine eG.i h.1 rfl ?_
      refine eB.t (by rw [nI_leI (by omega) (by omega)]; omega) ?_
      refine eR.int ⟨rfl, ?_⟩
      rw [← he]
      rfl
    | succ d ih =>
      intro i hi he
      have hin : vp_in (nI i) 20 := vp_in_nI (by omega) (by omega)
      have hu : u (nI i).toNatClampNeg = some (m + 25 + 2 * i) := by rw [nI_clamp (by omega)]; exact h2' i (by omega)
      have hi7 := h7 i (by omega)
      have e1 : nI i + 1 = nI (i + 1) := nI_1 i
      have next : ¬ accP (hF i) row root → Gd G (miX3 false (some .int)) cX3_headAccepting 5 (rmD 2) 0 0 (fun v S' => S' = S ∧ v = some (.int (oI (fstN (fun i => accP (hF i) row root) hn 0)))) 75 [(0, .ref m), (1, .ref r), (2, .ref b), (3, .int (nI i))] [] (0, 0) S := by
        intro hna
        refine Gd.of (ckX3 _ _) tX3_headAccepting_ok (cuts := lf 2 4) 60 ?_
        have h9 := ih (i + 1) (by omega) (by rw [← he, fstN_f hna])
        rw [← e1] at h9
        exact h9
      refine Gd.of (ckX3 _ _) tX3_headAccepting_ok (cuts := nd 75 (lf 2 4) (lf 75 4)) 60 ?_
      refine eG.i h.1 rfl ?_
      refine eB.f (by rw [nI_leI (by omega) (by omega)]; omega) ?_
      refine eG.i h.1 rfl ?_
      refine eLq.r (i := nI i) h2 (by decide) hin hu ?_
      refine ⟨rfl, Nat.le_of_ble_eq_true rfl, ?_⟩
      refine eV.i hi7.obj ?_
      refine eC.z (c_Row_at hi7) ⟨rfl, rfl⟩ ⟨Nat.le_of_ble_eq_true rfl, Nat.le_of_ble_eq_true rfl⟩ ⟨Nat.zero_le _, Nat.zero_le _⟩ (fun v S1 hk => ?_)
      obtain ⟨rfl, rfl⟩ := hk
      refine ⟨rfl, Nat.le_of_ble_eq_true rfl, ?_⟩
      refine eV.i hr.obj ?_
      refine eC.z (c_Row_at hr) ⟨rfl, rfl⟩ ⟨Nat.le_of_ble_eq_true rfl, Nat.le_of_ble_eq_true rfl⟩ ⟨Nat.zero_le _, Nat.zero_le _⟩ (fun v S1 hk => ?_)
      obtain ⟨rfl, rfl⟩ := hk
      refine eB.i (fun q1 => ?_) (fun q1 => ?_)
      · refine eG.i h.1 rfl ?_
        refine eLq.r (i := nI i) h2 (by decide) hin hu ?_
        refine ⟨rfl, Nat.le_of_ble_eq_true rfl, ?_⟩
        refine eV.i hi7.obj ?_
        refine eC.z (c_Row_sameAs (i := 1) (j := 5) (n := 4) hi7 hr (by omega) (by omega)) ⟨rfl, rfl⟩ ⟨Nat.le_of_ble_eq_true rfl, Nat.le_of_ble_eq_true rfl⟩ ⟨Nat.zero_le _, Nat.zero_le _⟩ (fun v S1 hk => ?_)
        obtain ⟨rfl, rfl⟩ := hk
        rw [sameI_eq]
        by_cases q2 : same (hF i) 1 row 5 4
        · rw [pI_t q2]
          refine eB.f (by decide) ?_
          refine eB.f (by decide) ?_
          refine eG.i h.1 rfl ?_
          refine eLq.r (i := nI i) h2 (by decide) hin hu ?_
          refine ⟨rfl, Nat.le_of_ble_eq_true rfl, ?_⟩
          refine eV.i hi7.obj ?_
          refine eC.z (c_Row_sameAs (i := 5) (j := 0) (n := 32) hi7 ho (by omega) (by omega)) ⟨rfl, rfl⟩ ⟨Nat.le_of_ble_eq_true rfl, Nat.le_of_ble_eq_true rfl⟩ ⟨Nat.zero_le _, Nat.zero_le _⟩ (fun v S1 hk => ?_)
          obtain ⟨rfl, rfl⟩ := hk
          rw [sameI_eq]
          by_cases q3 : same (hF i) 5 root 0 32
          · rw [pI_t q3]
            refine eB.f (by decide) ?_
            refine eR.int ⟨rfl, ?_⟩
            rw [← he, fstN_t (show accP (hF i) row root from ⟨⟨q1, q2⟩, q3⟩)]
            rfl
          · rw [pI_f q3]
            refine eB.t rfl ?_
            exact next (fun z => q3 z.2)
        · rw [pI_f q2]
          refine eB.t rfl ?_
          refine eB.t rfl ?_
          exact next (fun z => q2 z.1.2)
      · refine eB.t rfl ?_
        exact next (fun z => q1 z.1.1)
  refine Gd.of (ckX3 _ _) tX3_headAccepting_ok (cuts := lf 2 4) 60 ?_
  exact key hn 0 (by omega) rfl
theorem c_Mon_hasFactLike {hd : Int32} (h : Mn G S m hn fn rn nr nc hF pF fH rF) (hr : Rl G S r capr row) :
    mCon G yX3_hasFactLike cX3_hasFactLike 5 (some .boolean) (rmD 2) [.ref m, .ref r, .int hd] S (fun v S' => S' = S ∧ v = some (.int (pI (∃ i, i < fn ∧ lik (pF i) row ∧ fH i = hd)))) := by
  have hb := h.2.2.2.2.2.2.2.2
  obtain ⟨u, h2, h2'⟩ := h.2.2.1
  have h4 := h.2.2.2.1
  have h7 := h.2.2.2.2.2.2.2.1
  refine mCon.of (I := miX3 false (some .boolean)) (by decide) rfl rfl (fun h => by cases h) (fun _ => rfl) (Nat.le_of_ble_eq_true rfl) ?_
  show Gd _ _ _ _ _ _ _ _ 0 [(0, .ref m), (1, .ref r), (2, .int hd)] [] (0, 0) _
  have key : ∀ (d i : Nat), i + d = fn → (∀ j, j < i → ¬ (lik (pF j) row ∧ fH j = hd)) → Gd G (miX3 false (some .boolean)) cX3_hasFactLike 5 (rmD 2) 0 0 (fun v S' => S' = S ∧ v = some (.int (pI (∃ i, i < fn ∧ lik (pF i) row ∧ fH i = hd)))) 2 [(0, .ref m), (1, .ref r), (2, .int hd), (3, .int (nI i))] [] (0, 0) S := by
    intro d
    induction d with
    | zero =>
      intro i hi hj
      refine Gd.of (ckX3 _ _) tX3_hasFactLike_ok (cuts := lf 2 4) 60 ?_
      refine eG.i h.1 rfl ?_
      refine eB.t (by rw [nI_leI (by omega) (by omega)]; omega) ?_
      refine eR.f ⟨rfl, ?_⟩
      rw [pI_f]
      rintro ⟨j, q1, q2⟩
      exact hj j (by omega) q2
    | succ d ih =>
      intro i hi hj
      have hin : vp_in (nI i) 12 := vp_in_nI (by omega) (by omega)
      have hu : u (nI i).toNatClampNeg = some (m + 65 + 2 * i) := by rw [nI_clamp (by omega)]; exact h2' i (by omega)
      have hi7 := h7 i (by omega)
      have e1 : nI i + 1 = nI (i + 1) := nI_1 i
      have next : ¬ (lik (pF i) row ∧ fH i = hd) → Gd G (miX3 false (some .boolean)) cX3_hasFactLike 5 (rmD 2) 0 0 (fun v S' => S' = S ∧ v = some (.int (pI (∃ i, i < fn ∧ lik (pF i) row ∧ fH i = hd)))) 69 [(0, .ref m), (1, .ref r), (2, .int hd), (3, .int (nI i))] [] (0, 0) S := by
        intro hna
        refine Gd.of (ckX3 _ _) tX3_hasFactLike_ok (cuts := lf 2 4) 60 ?_
        have h9 := ih (i + 1) (by omega) (fun j hjl => by
          by_cases hq : j = i
          · rw [hq]; exact hna
          · exact hj j (by omega))
        rw [← e1] at h9
        exact h9
      refine Gd.of (ckX3 _ _) tX3_hasFactLike_ok (cuts := nd 69 (lf 2 4) (lf 69 4)) 60 ?_
      refine eG.i h.1 rfl ?_
      refine eB.f (by rw [nI_leI (by omega) (by omega)]; omega) ?_
      refine eG.i h.1 rfl ?_
      refine eLq.r (i := nI i) h2 (by decide) hin hu ?_
      refine ⟨rfl, Nat.le_of_ble_eq_true rfl, ?_⟩
      refine eV.i hi7.obj ?_
      refine eC.z (c_Row_sameAs (i := 0) (j := 0) (n := 5) hi7 hr (by omega) (by omega)) ⟨rfl, rfl⟩ ⟨Nat.le_of_ble_eq_true rfl, Nat.le_of_ble_eq_true rfl⟩ ⟨Nat.zero_le _, Nat.zero_le _⟩ (fun v S1 hk => ?_)
      obtain ⟨rfl, rfl⟩ := hk
      rw [sameI_eq]
      by_cases q1 : same (pF i) 0 row 0 5
      · rw [pI_t q1]
        refine eB.f (by decide) ?_
        refine eG.i h.1 rfl ?_
        refine eLq.r (i := nI i) h2 (by decide) hin hu ?_
        refine ⟨rfl, Nat.le_of_ble_eq_true rfl, ?_⟩
        refine eV.i hi7.obj ?_
        refine eC.z (c_Row_sameAs (i := 9) (j := 9) (n := 32) hi7 hr (by omega) (by omega)) ⟨rfl, rfl⟩ ⟨Nat.le_of_ble_eq_true rfl, Nat.le_of_ble_eq_true rfl⟩ ⟨Nat.zero_le _, Nat.zero_le _⟩ (fun v S1 hk => ?_)
        obtain ⟨rfl, rfl⟩ := hk
        rw [sameI_eq]
        by_cases q2 : same (pF i) 9 row 9 32
        · rw [pI_t q2]
          refine eB.f (by decide) ?_
          refine eB.f (by decide) ?_
          refine eG.i h.1 rfl ?_
          refine eL.i (i := nI i) h4 hin ?_
          have ef : fH (nI i).toNatClampNeg = fH i := by rw [nI_clamp (by omega)]
          refine eB.i (fun q3 => ?_) (fun q3 => ?_)
          · rw [ef] at q3
            exact eR.t ⟨rfl, by rw [pI_t ⟨i, by omega, ⟨q1, q2⟩, q3⟩]⟩
          · rw [ef] at q3
            exact next (fun z => q3 z.2)
        · rw [pI_f q2]
          refine eB.t rfl ?_
          refine eB.t rfl ?_
          exact next (fun z => q2 z.1.2)
      · rw [pI_f q1]
        refine eB.t rfl ?_
        refine eB.t rfl ?_
        exact next (fun z => q1 z.1.1)
  refine Gd.of (ckX3 _ _) tX3_hasFactLike_ok (cuts := lf 2 4) 60 ?_
  exact key fn 0 (by omega) (fun j hj => absurd hj (Nat.not_lt_zero j))
theorem c_Mon_countNull (h : Mn G S m hn fn rn nr nc hF pF fH rF) :
    mCon G yX3_countAccepting cX3_countAccepting 5 (some .int) (rmD 2) [.ref m, .ref r, .null] S (fun v S' => S' = S ∧ v = some (.int 0)) := by
  refine mCon.of (I := miX3 false (some .int)) (by decide) rfl rfl (fun h => by cases h) (fun _ => rfl) (Nat.le_of_ble_eq_true rfl) ?_
  show Gd _ _ _ _ _ _ _ _ 0 [(0, .ref m), (1, .ref r), (2, .null)] [] (0, 0) _
  refine Gd.of (ckX3 _ _) tX3_countAccepting_ok (cuts := fun _ => none) 60 ?_
  exact eR.int ⟨rfl, rfl⟩
theorem c_Mon_countAccepting {b cb : Nat} {root : List Int32} (h : Mn G S m hn fn rn nr nc hF pF fH rF) (hr : Rl G S r capr row) (ho : Rl G S b cb root) :
    mCon G yX3_countAccepting cX3_countAccepting 5 (some .int) (rmD 2) [.ref m, .ref r, .ref b] S (fun v S' => S' = S ∧ v = some (.int (nI (cntN (fun i => accW (hF i) row root) hn 0)))) := by
  have hb := h.2.2.2.2.2.2.2.2
  obtain ⟨u, h2, h2'⟩ := h.2.1
  have h7 := h.2.2.2.2.2.2.1
  refine mCon.of (I := miX3 false (some .int)) (by decide) rfl rfl (fun h => by cases h) (fun _ => rfl) (Nat.le_of_ble_eq_true rfl) ?_
  show Gd _ _ _ _ _ _ _ _ 0 [(0, .ref m), (1, .ref r), (2, .ref b)] [] (0, 0) _
  have key : ∀ (d i c : Nat), i + d = hn → c + cntN (fun i => accW (hF i) row root) d i = cntN (fun i => accW (hF i) row root) hn 0 → Gd G (miX3 false (some .int)) cX3_countAccepting 5 (rmD 2) 0 0 (fun v S' => S' = S ∧ v = some (.int (nI (cntN (fun i => accW (hF i) row root) hn 0)))) 5 [(0, .ref m), (1, .ref r), (2, .ref b), (3, .int (nI c)), (4, .int (nI i))] [] (0, 0) S := by
    intro d
    induction d with
    | zero =>
      intro i c hi he
      refine Gd.of (ckX3 _ _) tX3_countAccepting_ok (cuts := lf 5 5) 60 ?_
      refine eG.i h.1 rfl ?_
      refine eB.t (by rw [nI_leI (by omega) (by omega)]; omega) ?_
      refine eR.int ⟨rfl, ?_⟩
      rw [← he]
      rfl
    | succ d ih =>
      intro i c hi he
      have hin : vp_in (nI i) 20 := vp_in_nI (by omega) (by omega)
      have hu : u (nI i).toNatClampNeg = some (m + 25 + 2 * i) := by rw [nI_clamp (by omega)]; exact h2' i (by omega)
      have hi7 := h7 i (by omega)
      have e1 : nI i + 1 = nI (i + 1) := nI_1 i
      have e2 : nI c + 1 = nI (c + 1) := nI_1 c
      refine Gd.of (ckX3 _ _) tX3_countAccepting_ok (cuts := lf 5 5) 60 ?_
      refine eG.i h.1 rfl ?_
      refine eB.f (by rw [nI_leI (by omega) (by omega)]; omega) ?_
      refine eG.i h.1 rfl ?_
      refine eLq.r (i := nI i) h2 (by decide) hin hu ?_
      refine ⟨rfl, Nat.le_of_ble_eq_true rfl, ?_⟩
      refine eV.i hi7.obj ?_
      refine eC.z (c_Row_sameAs (i := 0) (j := 0) (n := 5) hi7 hr (by omega) (by omega)) ⟨rfl, rfl⟩ ⟨Nat.le_of_ble_eq_true rfl, Nat.le_of_ble_eq_true rfl⟩ ⟨Nat.zero_le _, Nat.zero_le _⟩ (fun v S1 hk => ?_)
      obtain ⟨rfl, rfl⟩ := hk
      rw [sameI_eq]
      by_cases q1 : same (hF i) 0 row 0 5
      · rw [pI_t q1]
        refine eB.f (by decide) ?_
        refine eG.i h.1 rfl ?_
        refine eLq.r (i := nI i) h2 (by decide) hin hu ?_
        refine ⟨rfl, Nat.le_of_ble_eq_true rfl, ?_⟩
        refine eV.i hi7.obj ?_
        refine eC.z (c_Row_sameAs (i := 5) (j := 0) (n := 32) hi7 ho (by omega) (by omega)) ⟨rfl, rfl⟩ ⟨Nat.le_of_ble_eq_true rfl, Nat.le_of_ble_eq_true rfl⟩ ⟨Nat.zero_le _, Nat.zero_le _⟩ (fun v S1 hk => ?_)
        obtain ⟨rfl, rfl⟩ := hk
        rw [sameI_eq]
        by_cases q2 : same (hF i) 5 root 0 32
        · rw [pI_t q2]
          refine eB.f (by decide) ?_
          have h9 := ih (i + 1) (c + 1) (by omega) (by rw [← he, cntN_t (show accW (hF i) row root from ⟨q1, q2⟩)]; omega)
          rw [← e1, ← e2] at h9
          exact h9
        · rw [pI_f q2]
          refine eB.t rfl ?_
          have h9 := ih (i + 1) c (by omega) (by rw [← he, cntN_f (fun z => q2 z.2)])
          rw [← e1] at h9
          exact h9
      · rw [pI_f q1]
        refine eB.t rfl ?_
        have h9 := ih (i + 1) c (by omega) (by rw [← he, cntN_f (fun z => q1 z.1)])
        rw [← e1] at h9
        exact h9
  refine Gd.of (ckX3 _ _) tX3_countAccepting_ok (cuts := lf 5 5) 60 ?_
  exact key hn 0 0 (by omega) (by omega)
end MONC
