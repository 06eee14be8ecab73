/-! a letter: its object at e, the row behind it; a record's bytes -/
theorem and255 {b : Int32} (h : isB b) : (b &&& 255).toInt8.toInt32 = b := by
  have e1 : (b &&& 255).toInt8 = b.toInt8 := by
    apply Int8.toBitVec_inj.mp
    apply BitVec.eq_of_getLsbD_eq
    intro i hi
    simp only [Int32.toBitVec_toInt8, Int32.toBitVec_and]
    rw [BitVec.getLsbD_signExtend, BitVec.getLsbD_signExtend]
    have h255 : ∀ i, i < 8 → (255#32).getLsbD i = true := by decide
    simp [h255 i hi, hi, show i < 32 by omega]
  rw [e1]
  exact h
section LETT
variable {G : mG} {S : mS} {e : Nat} {kd : Int32} {l : List Int32}
def Lt (G : mG) (S : mS) (e : Nat) (kd : Int32) (l : List Int32) : Prop := mAt G S e (.inr (2, [.ref (e + 1), .int kd])) ∧ Rl G S (e + 1) 297 l
def hashN (kd : Int32) (l : List Int32) : Int32 := if kd = 0 then -1 else (nI l.length - (if kd = 1 then 41 else 13)) / 32
theorem c_Lett_hashCount (h : Lt G S e kd l) :
    mCon G yX2_hashCount cX2_hashCount 1 (some .int) (rmD 0) [.ref e] S (fun v S' => S' = S ∧ v = some (.int (hashN kd l))) := by
  refine mCon.of (I := miX2 false (some .int)) (by decide) rfl rfl (fun h => by cases h) (fun _ => rfl) (Nat.le_of_ble_eq_true rfl) ?_
  show Gd _ _ _ _ _ _ _ _ 0 [(0, .ref e)] [] (0, 0) _
  refine Gd.of (ckX2 _ _) tX2_hashCount_ok (cuts := fun _ => none) 40 ?_
  refine eG.i h.1 rfl ?_
  refine eB.i (fun q => ?_) (fun q => ?_)
  · exact eR.int ⟨rfl, by rw [hashN, if_pos q]⟩
  · refine eG.i h.1 rfl ?_
    refine eG.i h.2.obj rfl ?_
    refine eG.i h.1 rfl ?_
    refine eB.i (fun q2 => ?_) (fun q2 => ?_)
    · refine eZ.i (by decide) ?_
      exact eR.int ⟨rfl, by rw [hashN, if_neg q, if_pos q2]⟩
    · refine eZ.i (by decide) ?_
      exact eR.int ⟨rfl, by rw [hashN, if_neg q, if_neg q2]⟩
end LETT
section WREC
variable {G : mG} {S : mS} {m hn fn rn d : Nat} {nr nc : Int32} {hF pF : Nat → List Int32} {fH : Nat → Int32} {rF : Nat → Nat → Int32} {ld : List Int32}
/-- a RECORD's bytes: kind, LOG, two HEADS, of kind 2 r and the hashes -/
def recBy (k : Int32) (h1 h2 : List Int32) (p : Option (List Int32)) : List Int32 := [k.toInt8.toInt32, h1.getD 0 0] ++ part h1 1 44 ++ part h2 1 44 ++ (match p with | some p => part p 9 (p.length - 9) | none => [])
theorem c_Mon_writeRecord {j f o : Nat} {x : Option Nat} (h : Mn G S m hn fn rn nr nc hF pF fH rF) (hd : Rl G S d 634 ld) (hdis : d + 1 < m ∨ m + 88 < d) (hj : j < rn) (hf : f < hn) (ho : o < hn) (e1 : rF j 1 = nI f) (e2 : rF j 2 = nI o) (e3 : rF j 3 = oI x) (hx : ∀ y, x = some y → y < fn ∧ 41 ≤ (pF y).length ∧ (pF y).length ≤ 297) (l1 : (hF f).length = 45) (l2 : (hF o).length = 45) :
    mCon G yX3_writeRecord cX3_writeRecord 6 none (rmD 2) [.ref m, .int (nI j), .ref d] S (fun v S' => v = none ∧ fr S S' (xR d) ∧ Rl G S' d 634 (recBy (rF j 0) (hF f) (hF o) (x.map pF))) := by
  have hb := h.2.2.2.2.2.2.2.2
  obtain ⟨u, h2, h2'⟩ := h.2.1
  obtain ⟨u3, h3, h3'⟩ := h.2.2.1
  obtain ⟨u5, h5, h5'⟩ := h.2.2.2.2.1
  have h6 := h.2.2.2.2.2.1 j (by omega)
  have hf7 := h.2.2.2.2.2.2.1 f (by omega)
  have ho7 := h.2.2.2.2.2.2.1 o (by omega)
  have hjn := nI_toInt (n := j) (by omega)
  have hfn := nI_toInt (n := f) (by omega)
  have hon := nI_toInt (n := o) (by omega)
  refine mCon.of (I := miX3 false none) (by decide) rfl rfl (fun h => by cases h) (fun _ => rfl) (Nat.le_of_ble_eq_true rfl) ?_
  show Gd _ _ _ _ _ _ _ _ 0 [(0, .ref m), (1, .int (nI j)), (2, .ref d)] [] (0, 0) _
  refine Gd.of (ckX3 _ _) tX3_writeRecord_ok (cuts := fun _ => none) 120 ?_
  refine ⟨rfl, Nat.le_of_ble_eq_true rfl, ?_⟩
  refine eV.i h.1 ?_
  refine eC.z (c_Mon_hasRecord h) ⟨rfl, rfl⟩ ⟨Nat.le_of_ble_eq_true rfl, Nat.le_of_ble_eq_true rfl⟩ ⟨Nat.zero_le _, Nat.zero_le _⟩ (fun v S9 hk => ?_)
  obtain ⟨rfl, rfl⟩ := hk
  rw [if_pos (by omega)]
  refine eB.f (by decide) ?_
  refine eG.i h.1 rfl ?_
  refine eLq.r (i := nI j) (b := m + 5 + j) h5 (by decide) (vp_in_nI (by omega) (by omega)) (by rw [nI_clamp (by omega)]; exact h5' j (by omega)) ?_
  refine eL.i (i := 1) h6 (vp_in_iff.mpr (by decide)) ?_
  have e1' : rF j (1 : Int32).toNatClampNeg = nI f := e1
  have e2' : rF j (2 : Int32).toNatClampNeg = nI o := e2
  have e3' : rF j (3 : Int32).toNatClampNeg = oI x := e3
  rw [e1']
  refine ⟨rfl, Nat.le_of_ble_eq_true rfl, ?_⟩
  refine eV.i h.1 ?_
  refine eC.z (c_Mon_hasHead h) ⟨rfl, rfl⟩ ⟨Nat.le_of_ble_eq_true rfl, Nat.le_of_ble_eq_true rfl⟩ ⟨Nat.zero_le _, Nat.zero_le _⟩ (fun v S9 hk => ?_)
  obtain ⟨rfl, rfl⟩ := hk
  rw [if_pos (by omega)]
  refine eB.f (by decide) ?_
  refine eL.i (i := 2) h6 (vp_in_iff.mpr (by decide)) ?_
  rw [e2']
  refine ⟨rfl, Nat.le_of_ble_eq_true rfl, ?_⟩
  refine eV.i h.1 ?_
  refine eC.z (c_Mon_hasHead h) ⟨rfl, rfl⟩ ⟨Nat.le_of_ble_eq_true rfl, Nat.le_of_ble_eq_true rfl⟩ ⟨Nat.zero_le _, Nat.zero_le _⟩ (fun v S9 hk => ?_)
  obtain ⟨rfl, rfl⟩ := hk
  rw [if_pos (by omega)]
  refine eB.f (by decide) ?_
  refine eG.i h.1 rfl ?_
  refine eL.i (i := 1) h6 (vp_in_iff.mpr (by decide)) ?_
  rw [e1']
  refine eLq.r (i := nI f) (b := m + 25 + 2 * f) h2 (by decide) (vp_in_nI (by omega) (by omega)) (by rw [nI_clamp (by omega)]; exact h2' f (by omega)) ?_
  refine ⟨rfl, Nat.le_of_ble_eq_true rfl, ?_⟩
  refine eV.i hd.obj ?_
  refine eC.z (c_Row_empty hd) ⟨rfl, rfl⟩ ⟨Nat.le_of_ble_eq_true rfl, Nat.le_of_ble_eq_true rfl⟩ ⟨Nat.zero_le _, Nat.zero_le _⟩ (fun v S1 hk => ?_)
  obtain ⟨rfl, f1, d1⟩ := hk
  refine eL.i (i := 0) (h6.fr f1 (by omega)) (vp_in_iff.mpr (by decide)) ?_
  refine ⟨rfl, Nat.le_of_ble_eq_true rfl, ?_⟩
  refine eV.i d1.obj ?_
  refine eC.z (c_Row_add d1 (by decide)) ⟨rfl, rfl⟩ ⟨Nat.le_of_ble_eq_true rfl, Nat.le_of_ble_eq_true rfl⟩ ⟨Nat.zero_le _, Nat.zero_le _⟩ (fun v S2 hk => ?_)
  obtain ⟨rfl, f2, d2⟩ := hk
  have f12 := f1.tr f2
  have hf2 := hf7.fr f12 (by omega) (by omega)
  refine ⟨rfl, Nat.le_of_ble_eq_true rfl, ?_⟩
  refine eV.i hf2.obj ?_
  refine eC.z (c_Row_at hf2) ⟨rfl, rfl⟩ ⟨Nat.le_of_ble_eq_true rfl, Nat.le_of_ble_eq_true rfl⟩ ⟨Nat.zero_le _, Nat.zero_le _⟩ (fun v S3 hk => ?_)
  obtain ⟨rfl, rfl⟩ := hk
  refine ⟨rfl, Nat.le_of_ble_eq_true rfl, ?_⟩
  refine eV.i d2.obj ?_
  refine eC.z (c_Row_add d2 (Nat.le_of_ble_eq_true rfl)) ⟨rfl, rfl⟩ ⟨Nat.le_of_ble_eq_true rfl, Nat.le_of_ble_eq_true rfl⟩ ⟨Nat.zero_le _, Nat.zero_le _⟩ (fun v S4 hk => ?_)
  obtain ⟨rfl, f4, d4⟩ := hk
  have f14 := f12.tr f4
  have ea : (rAt (hF f) 0).toInt8.toInt32 = (hF f).getD 0 0 := by
    rw [rAt, if_pos (by rw [l1]; decide)]
    exact and255 (hf7.b 0)
  rw [ea] at d4
  have hf4 := hf7.fr f14 (by omega) (by omega)
  refine ⟨rfl, Nat.le_of_ble_eq_true rfl, ?_⟩
  refine eV.i d4.obj ?_
  refine eC.z (c_Row_addPart (s := 1) (c := 44) d4 hf4 (by omega) (by omega) (by show 2 + 44 ≤ 634; omega)) ⟨rfl, rfl⟩ ⟨Nat.le_of_ble_eq_true rfl, Nat.le_of_ble_eq_true rfl⟩ ⟨Nat.zero_le _, Nat.zero_le _⟩ (fun v S5 hk => ?_)
  obtain ⟨rfl, f5, d5⟩ := hk
  have f15 := f14.tr f5
  have hl5 : ([] ++ [(rF j (0 : Int32).toNatClampNeg).toInt8.toInt32] ++ [(hF f).getD 0 0] ++ part (hF f) 1 44).length = 46 := by
    rw [List.length_append, part_len (by omega)]
    rfl
  refine eG.i (h.1.fr f15 (by omega)) rfl ?_
  refine eL.i (i := 2) (h6.fr f15 (by omega)) (vp_in_iff.mpr (by decide)) ?_
  rw [e2']
  refine eLq.r (i := nI o) (b := m + 25 + 2 * o) (h2.fr f15 (by omega)) (by decide) (vp_in_nI (by omega) (by omega)) (by rw [nI_clamp (by omega)]; exact h2' o (by omega)) ?_
  have ho5 := ho7.fr f15 (by omega) (by omega)
  refine ⟨rfl, Nat.le_of_ble_eq_true rfl, ?_⟩
  refine eV.i d5.obj ?_
  refine eC.z (c_Row_addPart (s := 1) (c := 44) d5 ho5 (by omega) (by omega) (by show ([] ++ [(rF j (0 : Int32).toNatClampNeg).toInt8.toInt32] ++ [(hF f).getD 0 0] ++ part (hF f) 1 44).length + 44 ≤ 634; omega)) ⟨rfl, rfl⟩ ⟨Nat.le_of_ble_eq_true rfl, Nat.le_of_ble_eq_true rfl⟩ ⟨Nat.zero_le _, Nat.zero_le _⟩ (fun v S6 hk => ?_)
  obtain ⟨rfl, f6, d6⟩ := hk
  have f16 := f15.tr f6
  have M6 := h.keep f16 (fun z z1 z2 z3 => by rcases z3 with z3 | z3 <;> omega)
  have h66 := h6.fr f16 (by omega)
  have hl6 : ([] ++ [(rF j (0 : Int32).toNatClampNeg).toInt8.toInt32] ++ [(hF f).getD 0 0] ++ part (hF f) 1 44 ++ part (hF o) 1 44).length = 90 := by
    rw [List.length_append, hl5, part_len (by omega)]
  refine eL.i (i := 3) h66 (vp_in_iff.mpr (by decide)) ?_
  rw [e3']
  refine ⟨rfl, Nat.le_of_ble_eq_true rfl, ?_⟩
  refine eV.i M6.1 ?_
  refine eC.z (c_Mon_hasFact M6) ⟨rfl, rfl⟩ ⟨Nat.le_of_ble_eq_true rfl, Nat.le_of_ble_eq_true rfl⟩ ⟨Nat.zero_le _, Nat.zero_le _⟩ (fun v S7 hk => ?_)
  obtain ⟨rfl, rfl⟩ := hk
  cases hxx : x with
  | none =>
    refine eB.t ?_ ?_
    · rw [if_neg (fun z => absurd (show (0 : Int) ≤ (-1 : Int32).toInt from z.1) (by decide))]
    refine eR.v ⟨rfl, f16, ?_⟩
    have e : recBy (rF j 0) (hF f) (hF o) (Option.map pF none) = [] ++ [(rF j (0 : Int32).toNatClampNeg).toInt8.toInt32] ++ [(hF f).getD 0 0] ++ part (hF f) 1 44 ++ part (hF o) 1 44 := by
      show _ ++ [] = _
      rw [List.append_nil]
      rfl
    rw [e]
    exact d6
  | some y =>
    obtain ⟨y1, y2, y3⟩ := hx y hxx
    have hyn := nI_toInt (n := y) (by omega)
    refine eB.f ?_ ?_
    · rw [if_pos (show inR (oI (some y)) fn from (by show inR (nI y) fn; omega))]; decide
    refine eG.i M6.1 rfl ?_
    refine eL.i (i := 3) h66 (vp_in_iff.mpr (by decide)) ?_
    rw [e3', hxx]
    refine eLq.r (i := nI y) (b := m + 65 + 2 * y) (h3.fr f16 (by omega)) (by decide) (vp_in_nI (by omega) (by omega)) (by rw [nI_clamp (by omega)]; exact h3' y (by omega)) ?_
    have hp6 := (h.2.2.2.2.2.2.2.1 y (by omega)).fr f16 (by omega) (by omega)
    refine eG.i hp6.obj rfl ?_
    have e9 : nI (pF y).length - 9 = nI ((pF y).length - 9) := by rw [show (9 : Int32) = nI 9 from rfl, pk_sub (by omega)]
    have hc := c_Row_addPart (s := 9) (c := (pF y).length - 9) d6 hp6 (by omega) (by omega) (by show ([] ++ [(rF j (0 : Int32).toNatClampNeg).toInt8.toInt32] ++ [(hF f).getD 0 0] ++ part (hF f) 1 44 ++ part (hF o) 1 44).length + ((pF y).length - 9) ≤ 634; omega)
    rw [← e9] at hc
    refine ⟨rfl, Nat.le_of_ble_eq_true rfl, ?_⟩
    refine eV.i d6.obj ?_
    refine eC.z (hc) ⟨rfl, rfl⟩ ⟨Nat.le_of_ble_eq_true rfl, Nat.le_of_ble_eq_true rfl⟩ ⟨Nat.zero_le _, Nat.zero_le _⟩ (fun v S8 hk => ?_)
    obtain ⟨rfl, f8, d8⟩ := hk
    exact eR.v ⟨rfl, f16.tr f8, d8⟩
end WREC
