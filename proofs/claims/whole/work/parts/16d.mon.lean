/-! the records that a HEAD or a FACT raises -/
section MOND
variable {G : mG} {S : mS} {m hn fn rn r capr : Nat} {nr nc : Int32} {hF pF : Nat → List Int32} {fH : Nat → Int32} {rF : Nat → Nat → Int32} {row : List Int32}
theorem c_Mon_raiseForks (h : Mn G S m hn fn rn nr nc hF pF fH rF) (hr : Rl G S r capr row) (hd : r + 1 < m ∨ m + 88 < r) :
    mCon G yX3_raiseForks cX3_raiseForks 3 (some .boolean) (rmD 3) [.ref m, .ref r] S (mRaise G S m hn fn rn nr nc hF pF fH rF (recL (fun i => same (hF i) 0 row 0 5) (fun i => ((1 : Int32), nI i, nI hn, (-1 : Int32))) hn 0)) := by
  have hb := h.2.2.2.2.2.2.2.2
  refine mCon.of (I := miX3 false (some .boolean)) (by decide) rfl rfl (fun h => by cases h) (fun _ => rfl) (Nat.le_of_ble_eq_true rfl) ?_
  show Gd _ _ _ _ _ _ _ _ 0 [(0, .ref m), (1, .ref r)] [] (0, 0) _
  have key : ∀ (d i : Nat) (L : List q4) (S1 : mS), i + d = hn → L ++ recL (fun i => same (hF i) 0 row 0 5) (fun i => ((1 : Int32), nI i, nI hn, (-1 : Int32))) d i = recL (fun i => same (hF i) 0 row 0 5) (fun i => ((1 : Int32), nI i, nI hn, (-1 : Int32))) hn 0 → rn + L.length ≤ 20 → fr S S1 (xM m) → Mn G S1 m hn fn (rn + L.length) nr nc hF pF fH (rputs rF rn L) → Gd G (miX3 false (some .boolean)) cX3_raiseForks 3 (rmD 3) 0 0 (mRaise G S m hn fn rn nr nc hF pF fH rF (recL (fun i => same (hF i) 0 row 0 5) (fun i => ((1 : Int32), nI i, nI hn, (-1 : Int32))) hn 0)) 2 [(0, .ref m), (1, .ref r), (2, .int (nI i))] [] (0, 0) S1 := by
    intro d
    induction d with
    | zero =>
      intro i L S1 hi he hl f1 h1
      refine Gd.of (ckX3 _ _) tX3_raiseForks_ok (cuts := lf 2 3) 60 ?_
      refine eG.i h1.1 rfl ?_
      refine eB.t (by rw [nI_leI (by omega) (by omega)]; omega) ?_
      rw [recL, List.append_nil] at he
      rw [← he]
      exact eR.t ⟨f1, Or.inl ⟨hl, rfl, h1⟩⟩
    | succ d ih =>
      intro i L S1 hi he hl f1 h1
      have e1 : nI i + 1 = nI (i + 1) := nI_1 i
      have hr1 := hr.fr f1 (by omega) (by omega)
      obtain ⟨u, h2, h2'⟩ := h1.2.1
      have h7 := h1.2.2.2.2.2.2.1 i (by omega)
      refine Gd.of (ckX3 _ _) tX3_raiseForks_ok (cuts := lf 2 3) 60 ?_
      refine eG.i h1.1 rfl ?_
      refine eB.f (by rw [nI_leI (by omega) (by omega)]; omega) ?_
      refine eG.i h1.1 rfl ?_
      refine eLq.r (i := nI i) (b := m + 25 + 2 * i) h2 (by decide) (vp_in_nI (by omega) (by omega)) (by rw [nI_clamp (by omega)]; exact h2' i (by omega)) ?_
      refine ⟨rfl, Nat.le_of_ble_eq_true rfl, ?_⟩
      refine eV.i h7.obj ?_
      refine eC.z (c_Row_sameAs (i := 0) (j := 0) (n := 5) h7 hr1 (by omega) (by omega)) ⟨rfl, rfl⟩ ⟨Nat.le_of_ble_eq_true rfl, Nat.le_of_ble_eq_true rfl⟩ ⟨Nat.zero_le _, Nat.zero_le _⟩ (fun v S9 hk => ?_)
      obtain ⟨rfl, rfl⟩ := hk
      rw [sameI_eq]
      by_cases q : same (hF i) 0 row 0 5
      · rw [pI_t q]
        refine eB.f (by decide) ?_
        refine eG.i h1.1 rfl ?_
        refine ⟨rfl, Nat.le_of_ble_eq_true rfl, ?_⟩
        refine eV.i h1.1 ?_
        refine eC.z (c_Mon_raise h1) ⟨rfl, rfl⟩ ⟨Nat.le_of_ble_eq_true rfl, Nat.le_of_ble_eq_true rfl⟩ ⟨Nat.zero_le _, Nat.zero_le _⟩ (fun v S2 hk => ?_)
        obtain ⟨f2, hk⟩ := hk
        rcases hk with ⟨g1, rfl, g3⟩ | ⟨g1, rfl, rn', rF', g3, g4⟩
        · refine eB.f (by decide) ?_
          have h9 := ih (i + 1) (L ++ [((1 : Int32), nI i, nI hn, (-1 : Int32))]) S2 (by omega) (by rw [← he, recL_t (P := (fun i => same (hF i) 0 row 0 5)) q, List.append_assoc]) (by rw [List.length_append]; exact g1) (f1.tr f2) (by rw [List.length_append, rputs_app]; exact g3)
          rw [← e1] at h9
          exact h9
        · refine eB.t rfl ?_
          refine eR.f ⟨f1.tr f2, Or.inr ⟨?_, rfl, rn', rF', fun j hj => ?_, g4⟩⟩
          · rw [← he, recL_t (P := (fun i => same (hF i) 0 row 0 5)) q, List.length_append, List.length_append]
            have g1' : 20 < rn + L.length + 1 := g1
            show 20 < rn + (L.length + (1 + _))
            omega
          · rw [g3 j (by omega)]
            exact rputs_lt _ _ _ _ hj
      · rw [pI_f q]
        refine eB.t rfl ?_
        have h9 := ih (i + 1) L _ (by omega) (by rw [← he, recL_f (P := (fun i => same (hF i) 0 row 0 5)) q]) hl f1 h1
        rw [← e1] at h9
        exact h9
  refine Gd.of (ckX3 _ _) tX3_raiseForks_ok (cuts := lf 2 3) 60 ?_
  exact key hn 0 [] S (by omega) rfl (by show rn + 0 ≤ 20; omega) fr.rf h

theorem c_Mon_raiseBreachesOfHead (h : Mn G S m hn fn rn nr nc hF pF fH rF) (hr : Rl G S r capr row) (hd : r + 1 < m ∨ m + 88 < r) :
    mCon G yX3_raiseBreachesOfHead cX3_raiseBreachesOfHead 3 (some .boolean) (rmD 3) [.ref m, .ref r] S (mRaise G S m hn fn rn nr nc hF pF fH rF (recL (fun i => bel row (pF i)) (fun i => ((2 : Int32), nI hn, fH i, nI i)) fn 0)) := by
  have hb := h.2.2.2.2.2.2.2.2
  refine mCon.of (I := miX3 false (some .boolean)) (by decide) rfl rfl (fun h => by cases h) (fun _ => rfl) (Nat.le_of_ble_eq_true rfl) ?_
  show Gd _ _ _ _ _ _ _ _ 0 [(0, .ref m), (1, .ref r)] [] (0, 0) _
  have key : ∀ (d i : Nat) (L : List q4) (S1 : mS), i + d = fn → L ++ recL (fun i => bel row (pF i)) (fun i => ((2 : Int32), nI hn, fH i, nI i)) d i = recL (fun i => bel row (pF i)) (fun i => ((2 : Int32), nI hn, fH i, nI i)) fn 0 → rn + L.length ≤ 20 → fr S S1 (xM m) → Mn G S1 m hn fn (rn + L.length) nr nc hF pF fH (rputs rF rn L) → Gd G (miX3 false (some .boolean)) cX3_raiseBreachesOfHead 3 (rmD 3) 0 0 (mRaise G S m hn fn rn nr nc hF pF fH rF (recL (fun i => bel row (pF i)) (fun i => ((2 : Int32), nI hn, fH i, nI i)) fn 0)) 2 [(0, .ref m), (1, .ref r), (2, .int (nI i))] [] (0, 0) S1 := by
    intro d
    induction d with
    | zero =>
      intro i L S1 hi he hl f1 h1
      refine Gd.of (ckX3 _ _) tX3_raiseBreachesOfHead_ok (cuts := lf 2 3) 60 ?_
      refine eG.i h1.1 rfl ?_
      refine eB.t (by rw [nI_leI (by omega) (by omega)]; omega) ?_
      rw [recL, List.append_nil] at he
      rw [← he]
      exact eR.t ⟨f1, Or.inl ⟨hl, rfl, h1⟩⟩
    | succ d ih =>
      intro i L S1 hi he hl f1 h1
      have e1 : nI i + 1 = nI (i + 1) := nI_1 i
      have hr1 := hr.fr f1 (by omega) (by omega)
      obtain ⟨u, h2, h2'⟩ := h1.2.2.1
      have h4 := h1.2.2.2.1
      have h7 := h1.2.2.2.2.2.2.2.1 i (by omega)
      refine Gd.of (ckX3 _ _) tX3_raiseBreachesOfHead_ok (cuts := lf 2 3) 60 ?_
      refine eG.i h1.1 rfl ?_
      refine eB.f (by rw [nI_leI (by omega) (by omega)]; omega) ?_
      refine eG.i h1.1 rfl ?_
      refine eLq.r (i := nI i) (b := m + 65 + 2 * i) h2 (by decide) (vp_in_nI (by omega) (by omega)) (by rw [nI_clamp (by omega)]; exact h2' i (by omega)) ?_
      refine ⟨Nat.le_of_ble_eq_true rfl, ?_⟩
      refine eC.z (c_Mon_belies hr1 h7) ⟨rfl, rfl⟩ ⟨Nat.le_of_ble_eq_true rfl, Nat.le_of_ble_eq_true rfl⟩ ⟨Nat.zero_le _, Nat.zero_le _⟩ (fun v S9 hk => ?_)
      obtain ⟨rfl, rfl⟩ := hk
      by_cases q : bel row (pF i)
      · rw [pI_t q]
        have ef : fH (nI i).toNatClampNeg = fH i := by rw [nI_clamp (by omega)]
        refine eB.f (by decide) ?_
        refine eG.i h1.1 rfl ?_
        refine eG.i h1.1 rfl ?_
        refine eL.i (i := nI i) h4 (vp_in_nI (by omega) (by omega)) ?_
        rw [ef]
        refine ⟨rfl, Nat.le_of_ble_eq_true rfl, ?_⟩
        refine eV.i h1.1 ?_
        refine eC.z (c_Mon_raise h1) ⟨rfl, rfl⟩ ⟨Nat.le_of_ble_eq_true rfl, Nat.le_of_ble_eq_true rfl⟩ ⟨Nat.zero_le _, Nat.zero_le _⟩ (fun v S2 hk => ?_)
        obtain ⟨f2, hk⟩ := hk
        rcases hk with ⟨g1, rfl, g3⟩ | ⟨g1, rfl, rn', rF', g3, g4⟩
        · refine eB.f (by decide) ?_
          have h9 := ih (i + 1) (L ++ [((2 : Int32), nI hn, fH i, nI i)]) S2 (by omega) (by rw [← he, recL_t (P := (fun i => bel row (pF i))) q, List.append_assoc]) (by rw [List.length_append]; exact g1) (f1.tr f2) (by rw [List.length_append, rputs_app]; exact g3)
          rw [← e1] at h9
          exact h9
        · refine eB.t rfl ?_
          refine eR.f ⟨f1.tr f2, Or.inr ⟨?_, rfl, rn', rF', fun j hj => ?_, g4⟩⟩
          · rw [← he, recL_t (P := (fun i => bel row (pF i))) q, List.length_append, List.length_append]
            have g1' : 20 < rn + L.length + 1 := g1
            show 20 < rn + (L.length + (1 + _))
            omega
          · rw [g3 j (by omega)]
            exact rputs_lt _ _ _ _ hj
      · rw [pI_f q]
        refine eB.t rfl ?_
        have h9 := ih (i + 1) L _ (by omega) (by rw [← he, recL_f (P := (fun i => bel row (pF i))) q]) hl f1 h1
        rw [← e1] at h9
        exact h9
  refine Gd.of (ckX3 _ _) tX3_raiseBreachesOfHead_ok (cuts := lf 2 3) 60 ?_
  exact key fn 0 [] S (by omega) rfl (by show rn + 0 ≤ 20; omega) fr.rf h

theorem c_Mon_raiseBreachesOfFact {hd9 : Int32} (h : Mn G S m hn fn rn nr nc hF pF fH rF) (hr : Rl G S r capr row) (hd : r + 1 < m ∨ m + 88 < r) :
    mCon G yX3_raiseBreachesOfFact cX3_raiseBreachesOfFact 4 (some .boolean) (rmD 3) [.ref m, .ref r, .int hd9] S (mRaise G S m hn fn rn nr nc hF pF fH rF (recL (fun i => bel (hF i) row) (fun i => ((2 : Int32), nI i, hd9, nI fn)) hn 0)) := by
  have hb := h.2.2.2.2.2.2.2.2
  refine mCon.of (I := miX3 false (some .boolean)) (by decide) rfl rfl (fun h => by cases h) (fun _ => rfl) (Nat.le_of_ble_eq_true rfl) ?_
  show Gd _ _ _ _ _ _ _ _ 0 [(0, .ref m), (1, .ref r), (2, .int hd9)] [] (0, 0) _
  have key : ∀ (d i : Nat) (L : List q4) (S1 : mS), i + d = hn → L ++ recL (fun i => bel (hF i) row) (fun i => ((2 : Int32), nI i, hd9, nI fn)) d i = recL (fun i => bel (hF i) row) (fun i => ((2 : Int32), nI i, hd9, nI fn)) hn 0 → rn + L.length ≤ 20 → fr S S1 (xM m) → Mn G S1 m hn fn (rn + L.length) nr nc hF pF fH (rputs rF rn L) → Gd G (miX3 false (some .boolean)) cX3_raiseBreachesOfFact 4 (rmD 3) 0 0 (mRaise G S m hn fn rn nr nc hF pF fH rF (recL (fun i => bel (hF i) row) (fun i => ((2 : Int32), nI i, hd9, nI fn)) hn 0)) 2 [(0, .ref m), (1, .ref r), (2, .int hd9), (3, .int (nI i))] [] (0, 0) S1 := by
    intro d
    induction d with
    | zero =>
      intro i L S1 hi he hl f1 h1
      refine Gd.of (ckX3 _ _) tX3_raiseBreachesOfFact_ok (cuts := lf 2 4) 60 ?_
      refine eG.i h1.1 rfl ?_
      refine eB.t (by rw [nI_leI (by omega) (by omega)]; omega) ?_
      rw [recL, List.append_nil] at he
      rw [← he]
      exact eR.t ⟨f1, Or.inl ⟨hl, rfl, h1⟩⟩
    | succ d ih =>
      intro i L S1 hi he hl f1 h1
      have e1 : nI i + 1 = nI (i + 1) := nI_1 i
      have hr1 := hr.fr f1 (by omega) (by omega)
      obtain ⟨u, h2, h2'⟩ := h1.2.1
      have h7 := h1.2.2.2.2.2.2.1 i (by omega)
      refine Gd.of (ckX3 _ _) tX3_raiseBreachesOfFact_ok (cuts := lf 2 4) 60 ?_
      refine eG.i h1.1 rfl ?_
      refine eB.f (by rw [nI_leI (by omega) (by omega)]; omega) ?_
      refine eG.i h1.1 rfl ?_
      refine eLq.r (i := nI i) (b := m + 25 + 2 * i) h2 (by decide) (vp_in_nI (by omega) (by omega)) (by rw [nI_clamp (by omega)]; exact h2' i (by omega)) ?_
      refine ⟨Nat.le_of_ble_eq_true rfl, ?_⟩
      refine eC.z (c_Mon_belies h7 hr1) ⟨rfl, rfl⟩ ⟨Nat.le_of_ble_eq_true rfl, Nat.le_of_ble_eq_true rfl⟩ ⟨Nat.zero_le _, Nat.zero_le _⟩ (fun v S9 hk => ?_)
      obtain ⟨rfl, rfl⟩ := hk
      by_cases q : bel (hF i) row
      · rw [pI_t q]
        refine eB.f (by decide) ?_
        refine eG.i h1.1 rfl ?_
        refine ⟨rfl, Nat.le_of_ble_eq_true rfl, ?_⟩
        refine eV.i h1.1 ?_
        refine eC.z (c_Mon_raise h1) ⟨rfl, rfl⟩ ⟨Nat.le_of_ble_eq_true rfl, Nat.le_of_ble_eq_true rfl⟩ ⟨Nat.zero_le _, Nat.zero_le _⟩ (fun v S2 hk => ?_)
        obtain ⟨f2, hk⟩ := hk
        rcases hk with ⟨g1, rfl, g3⟩ | ⟨g1, rfl, rn', rF', g3, g4⟩
        · refine eB.f (by decide) ?_
          have h9 := ih (i + 1) (L ++ [((2 : Int32), nI i, hd9, nI fn)]) S2 (by omega) (by rw [← he, recL_t (P := (fun i => bel (hF i) row)) q, List.append_assoc]) (by rw [List.length_append]; exact g1) (f1.tr f2) (by rw [List.length_append, rputs_app]; exact g3)
          rw [← e1] at h9
          exact h9
        · refine eB.t rfl ?_
          refine eR.f ⟨f1.tr f2, Or.inr ⟨?_, rfl, rn', rF', fun j hj => ?_, g4⟩⟩
          · rw [← he, recL_t (P := (fun i => bel (hF i) row)) q, List.length_append, List.length_append]
            have g1' : 20 < rn + L.length + 1 := g1
            show 20 < rn + (L.length + (1 + _))
            omega
          · rw [g3 j (by omega)]
            exact rputs_lt _ _ _ _ hj
      · rw [pI_f q]
        refine eB.t rfl ?_
        have h9 := ih (i + 1) L _ (by omega) (by rw [← he, recL_f (P := (fun i => bel (hF i) row)) q]) hl f1 h1
        rw [← e1] at h9
        exact h9
  refine Gd.of (ckX3 _ _) tX3_raiseBreachesOfFact_ok (cuts := lf 2 4) 60 ?_
  exact key hn 0 [] S (by omega) rfl (by show rn + 0 ≤ 20; omega) fr.rf h

end MOND
