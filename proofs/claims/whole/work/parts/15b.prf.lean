/-! the root that a PROOF's hashes prove, if any; of a PATH likewise -/
abbrev pw (m : Int32) : Prop := m &&& (m - 1) = 0
noncomputable def prf (row : List Int32) (rS h : Nat) (m n : Int32) : Option (List Int32) :=
  if m ≤ 0 ∨ n ≤ m ∨ h = 0 then none
  else match rise row (if pw m then h else h - 1) (if pw m then rS + 32 else rS + 64) (part row (if pw m then rS else rS + 32) 32) (part row (if pw m then rS else rS + 32) 32) (sO 32 (m - 1).toInt.toNat (n - 1).toInt.toNat).1 (sO 32 (m - 1).toInt.toNat (n - 1).toInt.toNat).2 with
    | none => none
    | some (o, w) => @ite _ (same o 0 row rS 32) (Classical.propDecidable _) (some w) none
def pth (row : List Int32) (h : Nat) (i n : Int32) : Option (List Int32) :=
  if i < 0 ∨ n ≤ i then none
  else (rise row h 13 (sha ([0] ++ part row 9 4)) (sha ([0] ++ part row 9 4)) i.toInt.toNat (n - 1).toInt.toNat).map (fun y => y.2)
section PRF
variable {G : mG} {S : mS} {a c r capr : Nat} {lm ld row o w : List Int32}
def climbK (G : mG) (S0 : mS) (a c : Nat) (x : Option (List Int32)) : Option Value → mS → Prop := fun v S' => v = some (if x.isSome then .ref (c + 3) else .null) ∧ fr S0 S' (xSC a c) ∧ (∃ lm ld, Sha G S' a lm ld) ∧ ∃ o w, Cb G S' c o w ∧ ∀ y, x = some y → w = y
abbrev clI : mI := miX0 false (some (.object "GossipWatch$Row"))
def clC : Nat → Option Nat := nd 96 (lf 57 8) (lf 96 11)
theorem c_Climb_ofProof {rS h : Nat} {m n : Int32} (hG : GOK G) (h1 : Sha G S a lm ld) (h2 : Cb G S c o w) (h3 : Rl G S r capr row) (d1 : a + 6 < c ∨ c + 4 < a) (d2 : a + 6 < r ∨ r + 1 < a) (d3 : c + 4 < r ∨ r + 1 < c) (hk : row.length = rS + 32 + 32 * h) :
    mCon G yX0_ofProof cX0_ofProof 11 (some (.object "GossipWatch$Row")) (rmD 4) [.ref c, .ref a, .ref r, .int (nI rS), .int m, .int n] S (climbK G S a c (prf row rS h m n)) := by
  have hrl := h3.le
  refine mCon.of (I := clI) (by decide) rfl rfl (fun h => by cases h) (fun _ => rfl) (Nat.le_of_ble_eq_true rfl) ?_
  show Gd _ _ _ _ _ _ _ _ 0 [(0, .ref c), (1, .ref a), (2, .ref r), (3, .int (nI rS)), (4, .int m), (5, .int n)] [] (0, 0) _
  have nul : prf row rS h m n = none → climbK G S a c (prf row rS h m n) (some .null) S := fun z => by
    rw [z]
    exact ⟨rfl, fr.rf, ⟨lm, ld, h1⟩, o, w, h2, fun y hy => by cases hy⟩
  by_cases hm : m ≤ 0
  · refine Gd.of (ckX0 _ _) tX0_ofProof_ok (cuts := clC) 60 ?_
    refine eB.t hm ?_
    exact eR.n (nul (by rw [prf, if_pos (Or.inl hm)]))
  by_cases hn : n ≤ m
  · refine Gd.of (ckX0 _ _) tX0_ofProof_ok (cuts := clC) 60 ?_
    refine eB.f hm ?_
    refine eB.t hn ?_
    exact eR.n (nul (by rw [prf, if_pos (Or.inr (Or.inl hn))]))
  by_cases hh : h = 0
  · refine Gd.of (ckX0 _ _) tX0_ofProof_ok (cuts := clC) 60 ?_
    refine eB.f hm ?_
    refine eB.f hn ?_
    refine eG.i h3.obj rfl ?_
    refine eB.f (by rw [show (64 : Int32) = nI 64 from rfl, nI_add, nI_leI (by omega) (by omega)]; omega) ?_
    exact eR.n (nul (by rw [prf, if_pos (Or.inr (Or.inr hh))]))
  have hm' : 0 < m.toInt := by
    rw [Int32.le_iff_toInt_le] at hm
    have : (0 : Int32).toInt = 0 := rfl
    omega
  have hn' : m.toInt < n.toInt := by
    rw [Int32.le_iff_toInt_le] at hn
    omega
  have em := i_of (k := m) (by omega)
  have en := i_of (k := n) (by omega)
  have rm := i_range m
  have rn := i_range n
  generalize hmm : m.toInt.toNat = mm at em
  generalize hnn : n.toInt.toNat = nn at en
  have hmm0 : 0 < mm := by omega
  have hmn : mm < nn := by omega
  have hnb : nn < 2 ^ 31 := by omega
  have em1 : m - 1 = nI (mm - 1) := by rw [em, show (1 : Int32) = nI 1 from rfl, pk_sub (by omega)]
  have en1 : n - 1 = nI (nn - 1) := by rw [en, show (1 : Int32) = nI 1 from rfl, pk_sub (by omega)]
  have em2 : (m - 1).toInt.toNat = mm - 1 := by rw [em1, nI_toInt (by omega)]; omega
  have en2 : (n - 1).toInt.toNat = nn - 1 := by rw [en1, nI_toInt (by omega)]; omega
  -- from the two starts on
  have k57 : ∀ (pv : Int32) (st k : Nat), st = (if pw m then rS else rS + 32) → st + 32 + 32 * k = row.length → k = (if pw m then h else h - 1) → Gd G clI cX0_ofProof 11 (rmD 4) 0 0 (climbK G S a c (prf row rS h m n)) 57 [(0, .ref c), (1, .ref a), (2, .ref r), (3, .int (nI rS)), (4, .int m), (5, .int n), (6, .int pv), (7, .int (nI st))] [] (0, 0) S := by
    intro pv st k hst hlen hkk
    have eprf : prf row rS h m n = match rise row k (st + 32) (part row st 32) (part row st 32) (sO 32 (mm - 1) (nn - 1)).1 (sO 32 (mm - 1) (nn - 1)).2 with
        | none => none
        | some (o, w) => @ite _ (same o 0 row rS 32) (Classical.propDecidable _) (some w) none := by
      rw [prf, if_neg (by rintro (z | z | z) <;> contradiction), em2, en2, ← hst, ← hkk]
      have : (if pw m then rS + 32 else rS + 64) = st + 32 := by
        rw [hst]
        split <;> omega
      rw [this]
    obtain ⟨c0, c1, c2⟩ := h2
    -- behind the odd ones
    have fin : ∀ (f2 s2 : Nat) (z10 : Int32) (S2 : mS), f2 < 2 ^ 31 → s2 < 2 ^ 31 → (f2, s2) = sO 32 (mm - 1) (nn - 1) → fr S S2 (xSC a c) → Sha G S2 a lm ld → Cb G S2 c (part row st 32) (part row st 32) → Gd G clI cX0_ofProof 11 (rmD 4) 0 0 (climbK G S a c (prf row rS h m n)) 129 [(0, .ref c), (1, .ref a), (2, .ref r), (3, .int (nI rS)), (4, .int m), (5, .int n), (6, .int pv), (7, .int (nI st)), (8, .int (nI f2)), (9, .int (nI s2)), (10, .int z10)] [] (0, 0) S2 := by
      intro f2 s2 z10 S2 hf2 hs2 hfs fr2 H2 C2
      obtain ⟨rfl, rfl⟩ : f2 = (sO 32 (mm - 1) (nn - 1)).1 ∧ s2 = (sO 32 (mm - 1) (nn - 1)).2 := ⟨congrArg Prod.fst hfs, congrArg Prod.snd hfs⟩
      have g3 := h3.fr fr2 (by omega) (by omega)
      have e32 : nI st + 32 = nI (st + 32) := by rw [show (32 : Int32) = nI 32 from rfl, nI_add]
      have hc := c_Climb_rises (k := k) (hs := st + 32) hG H2 C2 g3 d1 d2 d3 (part_len (by omega)) (part_len (by omega)) hf2 hs2 (by omega)
      rw [← e32] at hc
      refine Gd.of (ckX0 _ _) tX0_ofProof_ok (cuts := fun _ => none) 60 ?_
      refine ⟨rfl, Nat.le_of_ble_eq_true rfl, ?_⟩
      refine eV.i C2.1 ?_
      refine eC.z (hc) ⟨rfl, rfl⟩ ⟨Nat.le_of_ble_eq_true rfl, Nat.le_of_ble_eq_true rfl⟩ ⟨Nat.zero_le _, Nat.zero_le _⟩ (fun v S3 hk => ?_)
      obtain ⟨rfl, f3, ⟨lm3, ld3, H3⟩, o3, w3, C3, lo3, lw3, hy3⟩ := hk
      have fr3 := fr2.tr f3
      cases hx : rise row k (st + 32) (part row st 32) (part row st 32) (sO 32 (mm - 1) (nn - 1)).1 (sO 32 (mm - 1) (nn - 1)).2 with
      | none =>
        have hp : prf row rS h m n = none := by rw [eprf, hx]
        refine eB.t rfl ?_
        exact eR.n (by rw [hp]; exact ⟨rfl, fr3, ⟨lm3, ld3, H3⟩, o3, w3, C3, fun y hy => by cases hy⟩)
      | some y =>
        have hyy := hy3 y hx
        subst hyy
        refine eB.f (by show ¬ (1 : Int32) = 0; decide) ?_
        refine eG.i C3.1 rfl ?_
        refine ⟨rfl, Nat.le_of_ble_eq_true rfl, ?_⟩
        refine eV.i C3.2.1.obj ?_
        refine eC.z (c_Row_sameAs (i := 0) (j := rS) (n := 32) C3.2.1 (h3.fr fr3 (by omega) (by omega)) (by omega) (by omega)) ⟨rfl, rfl⟩ ⟨Nat.le_of_ble_eq_true rfl, Nat.le_of_ble_eq_true rfl⟩ ⟨Nat.zero_le _, Nat.zero_le _⟩ (fun v S4 hk => ?_)
        obtain ⟨rfl, rfl⟩ := hk
        rw [sameI_eq]
        by_cases hsame : same o3 0 row rS 32
        · have hp : prf row rS h m n = some w3 := by
            rw [eprf, hx]
            exact if_pos hsame
          rw [pI_t hsame]
          refine eB.f (by decide) ?_
          refine eG.i C3.1 rfl ?_
          exact eR.o (v := c + 3) (by rw [hp]; exact ⟨rfl, fr3, ⟨lm3, ld3, H3⟩, o3, w3, C3, fun y hy => Option.some.inj hy⟩)
        · have hp : prf row rS h m n = none := by
            rw [eprf, hx]
            exact if_neg hsame
          rw [pI_f hsame]
          refine eB.t rfl ?_
          exact eR.n (by rw [hp]; exact ⟨rfl, fr3, ⟨lm3, ld3, H3⟩, o3, w3, C3, fun y hy => by cases hy⟩)
    have odd : ∀ (n9 i f2 s2 : Nat) (S2 : mS), i + n9 = 32 → f2 < 2 ^ 31 → s2 < 2 ^ 31 → sO n9 f2 s2 = sO 32 (mm - 1) (nn - 1) → fr S S2 (xSC a c) → Sha G S2 a lm ld → Cb G S2 c (part row st 32) (part row st 32) → Gd G clI cX0_ofProof 11 (rmD 4) 0 0 (climbK G S a c (prf row rS h m n)) 96 [(0, .ref c), (1, .ref a), (2, .ref r), (3, .int (nI rS)), (4, .int m), (5, .int n), (6, .int pv), (7, .int (nI st)), (8, .int (nI f2)), (9, .int (nI s2)), (10, .int (nI i))] [] (0, 0) S2 := by
      intro n9
      induction n9 with
      | zero =>
        intro i f2 s2 S2 hi hf2 hs2 hfs fr2 H2 C2
        refine Gd.of (ckX0 _ _) tX0_ofProof_ok (cuts := nd 129 (lf 96 11) (lf 129 11)) 60 ?_
        refine eB.t (by rw [show (32 : Int32) = nI 32 from rfl, nI_leI (by omega) (by omega)]; omega) ?_
        exact fin f2 s2 _ S2 hf2 hs2 hfs fr2 H2 C2
      | succ n9 ih =>
        intro i f2 s2 S2 hi hf2 hs2 hfs fr2 H2 C2
        refine Gd.of (ckX0 _ _) tX0_ofProof_ok (cuts := nd 129 (lf 96 11) (lf 129 11)) 60 ?_
        refine eB.f (by rw [show (32 : Int32) = nI 32 from rfl, nI_leI (by omega) (by omega)]; omega) ?_
        refine eB.i (fun q => ?_) (fun q => ?_)
        · rw [and1 hf2, show (1 : Int32) = nI 1 from rfl, nI_eq (by omega) (by omega)] at q
          rw [sO, if_pos q] at hfs
          have e1 : nI i + 1 = nI (i + 1) := nI_1 i
          have h9 := ih (i + 1) (f2 / 2) (s2 / 2) S2 (by omega) (by omega) (by omega) hfs fr2 H2 C2
          rw [← e1, ← shr1 hf2, ← shr1 hs2] at h9
          exact h9
        · rw [and1 hf2, show (1 : Int32) = nI 1 from rfl, nI_eq (by omega) (by omega)] at q
          rw [sO, if_neg q] at hfs
          exact fin f2 s2 _ S2 hf2 hs2 hfs fr2 H2 C2
    refine Gd.of (ckX0 _ _) tX0_ofProof_ok (cuts := clC) 60 ?_
    refine eG.i c0 rfl ?_
    refine ⟨rfl, Nat.le_of_ble_eq_true rfl, ?_⟩
    refine eV.i c1.obj ?_
    refine eC.z (c_Row_becomePart (s := st) (c := 32) c1 h3 (by omega) (by omega) (by omega)) ⟨rfl, rfl⟩ ⟨Nat.le_of_ble_eq_true rfl, Nat.le_of_ble_eq_true rfl⟩ ⟨Nat.zero_le _, Nat.zero_le _⟩ (fun v S1 hk => ?_)
    obtain ⟨rfl, f1, c11⟩ := hk
    have c01 := c0.fr f1 (by omega)
    have c21 := c2.fr f1 (by omega) (by omega)
    refine eG.i c01 rfl ?_
    refine ⟨rfl, Nat.le_of_ble_eq_true rfl, ?_⟩
    refine eV.i c21.obj ?_
    refine eC.z (c_Row_becomePart (s := st) (c := 32) c21 (h3.fr f1 (by omega) (by omega)) (by omega) (by omega) (by omega)) ⟨rfl, rfl⟩ ⟨Nat.le_of_ble_eq_true rfl, Nat.le_of_ble_eq_true rfl⟩ ⟨Nat.zero_le _, Nat.zero_le _⟩ (fun v S2 hk => ?_)
    obtain ⟨rfl, f2, c22⟩ := hk
    have f12 : fr S S2 (xSC a c) := (f1.mono (fun q z => Or.inr (by rcases z with z | z <;> (constructor <;> omega)))).tr (f2.mono (fun q z => Or.inr (by rcases z with z | z <;> (constructor <;> omega))))
    have H2 := (h1.keep f1 (fun z z1 z2 z3 => by rcases z3 with z3 | z3 <;> omega)).keep f2 (fun z z1 z2 z3 => by rcases z3 with z3 | z3 <;> omega)
    have h9 := odd 32 0 (mm - 1) (nn - 1) S2 (by omega) (by omega) (by omega) rfl f12 H2 ⟨c01.fr f2 (by omega), c11.fr f2 (by omega) (by omega), c22⟩
    rw [← em1, ← en1] at h9
    exact h9
  refine Gd.of (ckX0 _ _) tX0_ofProof_ok (cuts := clC) 60 ?_
  refine eB.f hm ?_
  refine eB.f hn ?_
  refine eG.i h3.obj rfl ?_
  refine eB.t (by rw [show (64 : Int32) = nI 64 from rfl, nI_add, nI_leI (by omega) (by omega)]; omega) ?_
  refine eB.i (fun q => ?_) (fun q => ?_)
  · refine eB.f (by decide) ?_
    exact k57 1 rS h (by rw [if_pos q]) (by omega) (by rw [if_pos q])
  · refine eB.t rfl ?_
    have e32 : nI rS + 32 = nI (rS + 32) := by rw [show (32 : Int32) = nI 32 from rfl, nI_add]
    have h9 := k57 0 (rS + 32) (h - 1) (by rw [if_neg q]) (by omega) (by rw [if_neg q])
    rw [← e32] at h9
    exact h9
theorem c_Climb_ofPath {h : Nat} (hG : GOK G) (h1 : Sha G S a lm ld) (h2 : Cb G S c o w) (h3 : Rl G S r capr row) (d1 : a + 6 < c ∨ c + 4 < a) (d2 : a + 6 < r ∨ r + 1 < a) (d3 : c + 4 < r ∨ r + 1 < c) (hk : row.length = 13 + 32 * h) :
    mCon G yX0_ofPath cX0_ofPath 5 (some (.object "GossipWatch$Row")) (rmD 4) [.ref c, .ref a, .ref r] S (climbK G S a c (pth row h (num4 row 5) (num4 row 1))) := by
  have hrl := h3.le
  have e5 : rNum row 5 = num4 row 5 := by
    rw [rNum, if_pos (by constructor <;> simp <;> omega)]
    rfl
  have e1 : rNum row 1 = num4 row 1 := by
    rw [rNum, if_pos (by constructor <;> simp <;> omega)]
    rfl
  refine mCon.of (I := clI) (by decide) rfl rfl (fun h => by cases h) (fun _ => rfl) (Nat.le_of_ble_eq_true rfl) ?_
  show Gd _ _ _ _ _ _ _ _ 0 [(0, .ref c), (1, .ref a), (2, .ref r)] [] (0, 0) _
  refine Gd.of (ckX0 _ _) tX0_ofPath_ok (cuts := fun _ => none) 80 ?_
  refine ⟨rfl, Nat.le_of_ble_eq_true rfl, ?_⟩
  refine eV.i h3.obj ?_
  refine eC.z (c_Row_number h3) ⟨rfl, rfl⟩ ⟨Nat.le_of_ble_eq_true rfl, Nat.le_of_ble_eq_true rfl⟩ ⟨Nat.zero_le _, Nat.zero_le _⟩ (fun v S1 hk => ?_)
  obtain ⟨rfl, rfl⟩ := hk
  refine ⟨rfl, Nat.le_of_ble_eq_true rfl, ?_⟩
  refine eV.i h3.obj ?_
  refine eC.z (c_Row_number h3) ⟨rfl, rfl⟩ ⟨Nat.le_of_ble_eq_true rfl, Nat.le_of_ble_eq_true rfl⟩ ⟨Nat.zero_le _, Nat.zero_le _⟩ (fun v S1 hk => ?_)
  obtain ⟨rfl, rfl⟩ := hk
  rw [e5, e1]
  generalize hi9 : num4 row 5 = i
  generalize hn9 : num4 row 1 = n
  have nul : pth row h i n = none → climbK G S1 a c (pth row h i n) (some .null) S1 := fun z => by
    rw [z]
    exact ⟨rfl, fr.rf, ⟨lm, ld, h1⟩, o, w, h2, fun y hy => by cases hy⟩
  refine eB.i (fun q => ?_) (fun q => ?_)
  · exact eR.n (nul (by rw [pth, if_pos (Or.inl q)]))
  refine eB.i (fun q2 => ?_) (fun q2 => ?_)
  · have hi' : 0 ≤ i.toInt := by rw [i_lt0] at q; omega
    have hn' : i.toInt < n.toInt := Int32.lt_iff_toInt_lt.mp q2
    have ei := i_of (k := i) hi'
    have en := i_of (k := n) (by omega)
    have ri := i_range i
    have rn := i_range n
    generalize hii : i.toInt.toNat = ii at ei
    generalize hnn : n.toInt.toNat = nn at en
    have en1 : n - 1 = nI (nn - 1) := by rw [en, show (1 : Int32) = nI 1 from rfl, pk_sub (by omega)]
    have en2 : (n - 1).toInt.toNat = nn - 1 := by rw [en1, nI_toInt (by omega)]; omega
    have ep : pth row h i n = (rise row h 13 (sha ([0] ++ part row 9 4)) (sha ([0] ++ part row 9 4)) ii (nn - 1)).map (fun y => y.2) := by
      rw [pth, if_neg (by rintro (z | z); exact q z; exact Int32.not_le.mpr q2 z), en2, hii]
    rw [ep]
    refine eG.i h1.o rfl ?_
    refine ⟨rfl, Nat.le_of_ble_eq_true rfl, ?_⟩
    refine eV.i h1.m.obj ?_
    refine eC.z (c_Row_empty h1.m) ⟨rfl, rfl⟩ ⟨Nat.le_of_ble_eq_true rfl, Nat.le_of_ble_eq_true rfl⟩ ⟨Nat.zero_le _, Nat.zero_le _⟩ (fun v S2 hk => ?_)
    obtain ⟨rfl, f2, m2⟩ := hk
    have H2 := h1.msg f2 m2
    refine eG.i H2.o rfl ?_
    refine ⟨rfl, Nat.le_of_ble_eq_true rfl, ?_⟩
    refine eV.i m2.obj ?_
    refine eC.z (c_Row_add m2 (by decide)) ⟨rfl, rfl⟩ ⟨Nat.le_of_ble_eq_true rfl, Nat.le_of_ble_eq_true rfl⟩ ⟨Nat.zero_le _, Nat.zero_le _⟩ (fun v S3 hk => ?_)
    obtain ⟨rfl, f3, m3⟩ := hk
    have H3 := H2.msg f3 m3
    have f23 := f2.tr f3
    refine eG.i H3.o rfl ?_
    refine ⟨rfl, Nat.le_of_ble_eq_true rfl, ?_⟩
    refine eV.i m3.obj ?_
    refine eC.z (c_Row_addPart (s := 9) (c := 4) m3 (h3.fr f23 (by omega) (by omega)) (by omega) (by omega) (by show 1 + 4 ≤ 704; omega)) ⟨rfl, rfl⟩ ⟨Nat.le_of_ble_eq_true rfl, Nat.le_of_ble_eq_true rfl⟩ ⟨Nat.zero_le _, Nat.zero_le _⟩ (fun v S4 hk => ?_)
    obtain ⟨rfl, f4, m4⟩ := hk
    have H4 := H3.msg f4 m4
    have f24 := fr_xm (f23.tr f4)
    obtain ⟨c0, c1, c2⟩ := h2
    refine eG.i (c0.fr f24 (by omega)) rfl ?_
    have hpl : (part row 9 4).length = 4 := part_len (by omega)
    have hl4 : ([] ++ [(0 : Int32).toInt8.toInt32] ++ part row 9 4).length ≤ 634 := by
      rw [List.length_append, hpl]
      decide
    refine ⟨rfl, Nat.le_of_ble_eq_true rfl, ?_⟩
    refine eV.i H4.o ?_
    refine eC.z (c_Sha_finish hG H4 hl4) ⟨rfl, rfl⟩ ⟨Nat.le_of_ble_eq_true rfl, Nat.le_of_ble_eq_true rfl⟩ ⟨Nat.zero_le _, Nat.zero_le _⟩ (fun v S5 hk => ?_)
    obtain ⟨rfl, f5, lm5, H5⟩ := hk
    have f25 := f24.tr f5
    have c25 := c2.fr f25 (by omega) (by omega)
    refine ⟨rfl, Nat.le_of_ble_eq_true rfl, ?_⟩
    refine eV.i c25.obj ?_
    refine eC.z (c_Row_become c25 H5.d (by omega) (by rw [sha_len]; omega)) ⟨rfl, rfl⟩ ⟨Nat.le_of_ble_eq_true rfl, Nat.le_of_ble_eq_true rfl⟩ ⟨Nat.zero_le _, Nat.zero_le _⟩ (fun v S6 hk => ?_)
    obtain ⟨rfl, f6, c26⟩ := hk
    have f26 : fr S1 S6 (xSC a c) := (f25.mono (fun q z => Or.inl z)).tr (f6.mono (fun q z => Or.inr (by rcases z with z | z <;> (constructor <;> omega))))
    have c06 := (c0.fr f25 (by omega)).fr f6 (by omega)
    have c16 := (c1.fr f25 (by omega) (by omega)).fr f6 (by omega) (by omega)
    have H6 := H5.keep f6 (fun z z1 z2 z3 => by rcases z3 with z3 | z3 <;> omega)
    refine eG.i c06 rfl ?_
    refine eG.i c06 rfl ?_
    refine ⟨rfl, Nat.le_of_ble_eq_true rfl, ?_⟩
    refine eV.i c16.obj ?_
    refine eC.z (c_Row_become c16 c26 (by omega) (by rw [sha_len]; omega)) ⟨rfl, rfl⟩ ⟨Nat.le_of_ble_eq_true rfl, Nat.le_of_ble_eq_true rfl⟩ ⟨Nat.zero_le _, Nat.zero_le _⟩ (fun v S7 hk => ?_)
    obtain ⟨rfl, f7, c17⟩ := hk
    have f27 : fr S1 S7 (xSC a c) := f26.tr (f7.mono (fun q z => Or.inr (by rcases z with z | z <;> (constructor <;> omega))))
    have C7 : Cb G S7 c (sha ([0] ++ part row 9 4)) (sha ([0] ++ part row 9 4)) := ⟨c06.fr f7 (by omega), c17, c26.fr f7 (by omega) (by omega)⟩
    have H7 := H6.keep f7 (fun z z1 z2 z3 => by rcases z3 with z3 | z3 <;> omega)
    have hc := c_Climb_rises (k := h) (hs := 13) (f := ii) (s := nn - 1) hG H7 C7 (h3.fr f27 (by omega) (by omega)) d1 d2 d3 (sha_len _) (sha_len _) (by omega) (by omega) hk
    rw [← ei, ← en1] at hc
    refine ⟨rfl, Nat.le_of_ble_eq_true rfl, ?_⟩
    refine eV.i C7.1 ?_
    refine eC.z (hc) ⟨rfl, rfl⟩ ⟨Nat.le_of_ble_eq_true rfl, Nat.le_of_ble_eq_true rfl⟩ ⟨Nat.zero_le _, Nat.zero_le _⟩ (fun v S8 hk => ?_)
    obtain ⟨rfl, f8, ⟨lm8, ld8, H8⟩, o8, w8, C8, lo8, lw8, hy8⟩ := hk
    have f28 := f27.tr f8
    cases hx : rise row h 13 (sha ([0] ++ part row 9 4)) (sha ([0] ++ part row 9 4)) ii (nn - 1) with
    | none =>
      refine eB.t rfl ?_
      exact eR.n ⟨rfl, f28, ⟨lm8, ld8, H8⟩, o8, w8, C8, fun y hy => by cases hy⟩
    | some y =>
      have hyy := hy8 y hx
      subst hyy
      refine eB.f (by show ¬ (1 : Int32) = 0; decide) ?_
      refine eG.i C8.1 rfl ?_
      exact eR.o (v := c + 3) ⟨rfl, f28, ⟨lm8, ld8, H8⟩, o8, w8, C8, fun y hy => Option.some.inj hy⟩
  · exact eR.n (nul (by rw [pth, if_pos (Or.inr (Int32.not_lt.mp q2))]))
end PRF
