/-! Keys -/
noncomputable def pI (p : Prop) : Int32 := @ite _ p (Classical.propDecidable p) 1 0
theorem pI_t {p : Prop} (h : p) : pI p = 1 := by unfold pI; exact if_pos h
theorem pI_f {p : Prop} (h : ¬ p) : pI p = 0 := by unfold pI; exact if_neg h
theorem pI_or (p : Prop) : pI p = 0 ∨ pI p = 1 := by
  rcases Classical.em p with h | h
  · exact Or.inr (pI_t h)
  · exact Or.inl (pI_f h)
theorem sameI_eq (l1 : List Int32) (i : Nat) (l2 : List Int32) (j n : Nat) : sameI l1 i l2 j n = pI (same l1 i l2 j n) := by
  unfold sameI pI
  congr
theorem eR.z {x : Int32} {mc ms : Nat} {A : Prop} (hx : x = 0 ∨ x = 1) (h : A) : eR (some .boolean) (some (.int x)) mc ms (0, 0) A := by
  rcases hx with rfl | rfl
  · exact eR.f h
  · exact eR.t h
theorem byte_small {g : Nat} (hg : g < 128) : (nI g).toInt8.toInt32 = nI g := lg_i2b_small (by rw [nI_toInt (by omega)]; omega) (by rw [nI_toInt (by omega)]; omega)
/-- the SIGN's digest -/
def sgn (K : List Int32) (g : Nat) (body : List Int32) : List Int32 := sha ([2] ++ part K (8 * g) 8 ++ [nI g] ++ body)
def signed (K row : List Int32) (ls ss : Nat) : Prop := ∃ g, g < 4 ∧ rAt row (nI ls) = nI g ∧ 0 ≤ (rNum row (nI ss)).toInt ∧ same (sgn K g (part row ss 36)) 0 row (ss + 36) 8
section KEYS
variable {G : mG} {S : mS} {a k r capr : Nat} {K row lm ld : List Int32}
def Ky (G : mG) (S : mS) (k : Nat) (K : List Int32) : Prop := mAt G S k (.inr (1, [.ref (k + 1)])) ∧ Rl G S (k + 1) 32 K ∧ K.length = 32
theorem c_Keys_signFor {ls ss g : Nat} (hG : GOK G) (h : Sha G S a lm ld) (hk : Ky G S k K) (hr : Rl G S r capr row) (ha : a + 6 < k ∨ k + 2 < a) (hd : a + 6 < r ∨ r + 1 < a) (hg : g < 4) (hat : rAt row (nI ls) = nI g) (hs : ss + 36 ≤ row.length) :
    mCon G yX1_signFor cX1_signFor 6 (some (.object "GossipWatch$Row")) (rmD 2) [.ref k, .ref a, .ref r, .int (nI ls), .int (nI ss)] S (finK G S a (sgn K g (part row ss 36))) := by
  obtain ⟨k1, k2, k3⟩ := hk
  have hrl := hr.le
  refine mCon.of (I := miX1 false (some (.object "GossipWatch$Row"))) (by decide) rfl rfl (fun h => by cases h) (fun _ => rfl) (Nat.le_of_ble_eq_true rfl) ?_
  show Gd _ _ _ _ _ _ _ _ 0 [(0, .ref k), (1, .ref a), (2, .ref r), (3, .int (nI ls)), (4, .int (nI ss))] [] (0, 0) _
  refine Gd.of (ckX1 _ _) tX1_signFor_ok (cuts := fun _ => none) 60 ?_
  refine ⟨rfl, Nat.le_of_ble_eq_true rfl, ?_⟩
  refine eV.i hr.obj ?_
  refine eC.z (c_Row_at hr) ⟨rfl, rfl⟩ ⟨Nat.le_of_ble_eq_true rfl, Nat.le_of_ble_eq_true rfl⟩ ⟨Nat.zero_le _, Nat.zero_le _⟩ (fun v S0 hk => ?_)
  obtain ⟨rfl, rfl⟩ := hk
  rw [hat]
  refine eG.i h.o rfl ?_
  refine ⟨rfl, Nat.le_of_ble_eq_true rfl, ?_⟩
  refine eV.i h.m.obj ?_
  refine eC.z (c_Row_empty h.m) ⟨rfl, rfl⟩ ⟨Nat.le_of_ble_eq_true rfl, Nat.le_of_ble_eq_true rfl⟩ ⟨Nat.zero_le _, Nat.zero_le _⟩ (fun v S1 hk => ?_)
  obtain ⟨rfl, f1, m1⟩ := hk
  have H1 := h.msg f1 m1
  refine eG.i H1.o rfl ?_
  refine ⟨rfl, Nat.le_of_ble_eq_true rfl, ?_⟩
  refine eV.i m1.obj ?_
  refine eC.z (c_Row_add m1 (by decide)) ⟨rfl, rfl⟩ ⟨Nat.le_of_ble_eq_true rfl, Nat.le_of_ble_eq_true rfl⟩ ⟨Nat.zero_le _, Nat.zero_le _⟩ (fun v S2 hk => ?_)
  obtain ⟨rfl, f2, m2⟩ := hk
  have H2 := H1.msg f2 m2
  have f12 := f1.tr f2
  refine eG.i H2.o rfl ?_
  refine eG.i (k1.fr f12 (by omega)) rfl ?_
  have e8 : nI g * 8 = nI (8 * g) := by rw [show (8 : Int32) = nI 8 from rfl, pk_mul, Nat.mul_comm]
  have hc := c_Row_addPart (s := 8 * g) (c := 8) m2 (k2.fr f12 (by omega) (by omega)) (by omega) (by omega) (by show 1 + 8 ≤ 704; omega)
  rw [← e8] at hc
  refine ⟨rfl, Nat.le_of_ble_eq_true rfl, ?_⟩
  refine eV.i m2.obj ?_
  refine eC.z (hc) ⟨rfl, rfl⟩ ⟨Nat.le_of_ble_eq_true rfl, Nat.le_of_ble_eq_true rfl⟩ ⟨Nat.zero_le _, Nat.zero_le _⟩ (fun v S3 hk => ?_)
  obtain ⟨rfl, f3, m3⟩ := hk
  have H3 := H2.msg f3 m3
  have f13 := f12.tr f3
  have hl3 : ([] ++ [(2 : Int32).toInt8.toInt32] ++ part K (8 * g) 8).length = 9 := by
    rw [List.length_append, part_len (by omega)]
    rfl
  refine eG.i H3.o rfl ?_
  refine ⟨rfl, Nat.le_of_ble_eq_true rfl, ?_⟩
  refine eV.i m3.obj ?_
  refine eC.z (c_Row_add m3 (by show ([] ++ [(2 : Int32).toInt8.toInt32] ++ part K (8 * g) 8).length < 704; omega)) ⟨rfl, rfl⟩ ⟨Nat.le_of_ble_eq_true rfl, Nat.le_of_ble_eq_true rfl⟩ ⟨Nat.zero_le _, Nat.zero_le _⟩ (fun v S4 hk => ?_)
  obtain ⟨rfl, f4, m4⟩ := hk
  have H4 := H3.msg f4 m4
  have f14 := f13.tr f4
  have hl4 : ([] ++ [(2 : Int32).toInt8.toInt32] ++ part K (8 * g) 8 ++ [(nI g).toInt8.toInt32]).length = 10 := by
    rw [List.length_append, hl3]
    rfl
  refine eG.i H4.o rfl ?_
  refine ⟨rfl, Nat.le_of_ble_eq_true rfl, ?_⟩
  refine eV.i m4.obj ?_
  refine eC.z (c_Row_addPart (s := ss) (c := 36) m4 (hr.fr f14 (by omega) (by omega)) (by omega) hs (by show ([] ++ [(2 : Int32).toInt8.toInt32] ++ part K (8 * g) 8 ++ [(nI g).toInt8.toInt32]).length + 36 ≤ 704; omega)) ⟨rfl, rfl⟩ ⟨Nat.le_of_ble_eq_true rfl, Nat.le_of_ble_eq_true rfl⟩ ⟨Nat.zero_le _, Nat.zero_le _⟩ (fun v S5 hk => ?_)
  obtain ⟨rfl, f5, m5⟩ := hk
  have H5 := H4.msg f5 m5
  have f15 := f14.tr f5
  refine ⟨rfl, Nat.le_of_ble_eq_true rfl, ?_⟩
  refine eV.i H5.o ?_
  refine eC.z (c_Sha_finish hG H5 (by show ([] ++ [(2 : Int32).toInt8.toInt32] ++ part K (8 * g) 8 ++ [(nI g).toInt8.toInt32] ++ part row ss 36).length ≤ 634; rw [List.length_append, hl4, part_len hs]; omega)) ⟨rfl, rfl⟩ ⟨Nat.le_of_ble_eq_true rfl, Nat.le_of_ble_eq_true rfl⟩ ⟨Nat.zero_le _, Nat.zero_le _⟩ (fun v S6 hk => ?_)
  obtain ⟨rfl, f6, lm6, H6⟩ := hk
  refine eR.o (v := a + 3) ⟨rfl, (fr_xm f15).tr f6, lm6, ?_⟩
  have e : sgn K g (part row ss 36) = sha ([] ++ [(2 : Int32).toInt8.toInt32] ++ part K (8 * g) 8 ++ [(nI g).toInt8.toInt32] ++ part row ss 36) := by
    rw [byte_small (by omega)]
    rfl
  rw [e]
  exact H6
theorem c_Keys_haveSigned {ls ss : Nat} (hG : GOK G) (h : Sha G S a lm ld) (hk : Ky G S k K) (hr : Rl G S r capr row) (ha : a + 6 < k ∨ k + 2 < a) (hd : a + 6 < r ∨ r + 1 < a) (hl : ls < row.length) (hs : ss + 44 ≤ row.length) :
    mCon G yX1_haveSigned cX1_haveSigned 7 (some .boolean) (rmD 3) [.ref k, .ref a, .ref r, .int (nI ls), .int (nI ss)] S (fun v S' => v = some (.int (pI (signed K row ls ss))) ∧ fr S S' (xS a) ∧ ∃ lm' ld', Sha G S' a lm' ld') := by
  have hrl := hr.le
  refine mCon.of (I := miX1 false (some .boolean)) (by decide) rfl rfl (fun h => by cases h) (fun _ => rfl) (Nat.le_of_ble_eq_true rfl) ?_
  show Gd _ _ _ _ _ _ _ _ 0 [(0, .ref k), (1, .ref a), (2, .ref r), (3, .int (nI ls)), (4, .int (nI ss))] [] (0, 0) _
  refine Gd.of (ckX1 _ _) tX1_haveSigned_ok (cuts := fun _ => none) 60 ?_
  refine ⟨rfl, Nat.le_of_ble_eq_true rfl, ?_⟩
  refine eV.i hr.obj ?_
  refine eC.z (c_Row_at hr) ⟨rfl, rfl⟩ ⟨Nat.le_of_ble_eq_true rfl, Nat.le_of_ble_eq_true rfl⟩ ⟨Nat.zero_le _, Nat.zero_le _⟩ (fun v S0 hq => ?_)
  obtain ⟨rfl, rfl⟩ := hq
  have hat : ∃ g, g < 256 ∧ rAt row (nI ls) = nI g := by
    rw [rAt, nI_toInt (by omega), if_pos (by omega)]
    exact pk_andE _ 8 rfl
  obtain ⟨g, hg, hat⟩ := hat
  rw [hat]
  refine eB.f (nI_pos (by omega)) ?_
  refine eB.i (fun h1 => ?_) (fun h1 => ?_)
  · rw [show (4 : Int32) = nI 4 from rfl, nI_leI (by omega) (by omega)] at h1
    refine eR.f ⟨?_, fr.rf, lm, ld, h⟩
    rw [pI_f]
    rintro ⟨g2, q1, q2, -⟩
    rw [hat, nI_eq (by omega) (by omega)] at q2
    omega
  · rw [show (4 : Int32) = nI 4 from rfl, nI_leI (by omega) (by omega)] at h1
    refine ⟨rfl, Nat.le_of_ble_eq_true rfl, ?_⟩
    refine eV.i hr.obj ?_
    refine eC.z (c_Row_number hr) ⟨rfl, rfl⟩ ⟨Nat.le_of_ble_eq_true rfl, Nat.le_of_ble_eq_true rfl⟩ ⟨Nat.zero_le _, Nat.zero_le _⟩ (fun v S0 hq => ?_)
    obtain ⟨rfl, rfl⟩ := hq
    refine eB.i (fun h2 => ?_) (fun h2 => ?_)
    · rw [i_ge0] at h2
      refine ⟨rfl, Nat.le_of_ble_eq_true rfl, ?_⟩
      refine eV.i hk.1 ?_
      refine eC.z (c_Keys_signFor (g := g) hG h hk hr ha hd (by omega) hat (by omega)) ⟨rfl, rfl⟩ ⟨Nat.le_of_ble_eq_true rfl, Nat.le_of_ble_eq_true rfl⟩ ⟨Nat.zero_le _, Nat.zero_le _⟩ (fun v S1 hq => ?_)
      obtain ⟨rfl, f1, lm1, H1⟩ := hq
      have e36 : nI ss + 36 = nI (ss + 36) := by rw [show (36 : Int32) = nI 36 from rfl, nI_add]
      have hr1 := hr.fr f1 (by omega) (by omega)
      have hc := c_Row_sameAs (i := 0) (j := ss + 36) (n := 8) H1.d hr1 (by omega) (by omega)
      rw [← e36] at hc
      refine ⟨rfl, Nat.le_of_ble_eq_true rfl, ?_⟩
      refine eV.i H1.d.obj ?_
      refine eC.z (hc) ⟨rfl, rfl⟩ ⟨Nat.le_of_ble_eq_true rfl, Nat.le_of_ble_eq_true rfl⟩ ⟨Nat.zero_le _, Nat.zero_le _⟩ (fun v S2 hq => ?_)
      obtain ⟨rfl, rfl⟩ := hq
      rw [sameI_eq]
      have e : pI (same (sgn K g (part row ss 36)) 0 row (ss + 36) 8) = pI (signed K row ls ss) := by
        congr 1
        apply propext
        constructor
        · intro q
          exact ⟨g, by omega, hat, h2, q⟩
        · rintro ⟨g2, q1, q2, q3, q4⟩
          rw [hat, nI_eq (by omega) (by omega)] at q2
          rw [q2]
          exact q4
      rw [e]
      exact eR.z (pI_or _) ⟨rfl, f1, lm1, _, H1⟩
    · rw [i_ge0] at h2
      refine eR.f ⟨?_, fr.rf, lm, ld, h⟩
      rw [pI_f]
      rintro ⟨g2, q1, q2, q3, -⟩
      exact h2 q3
end KEYS
