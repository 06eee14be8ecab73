/-! the keys out of a seed; what stays while more is made -/
def hiI (n : Int64) : Int32 := ((n.toUInt64 >>> ((32 : Int32).toInt64.toUInt64 &&& Int64.toUInt64 63)).toInt64).toInt32
theorem hi_bit (n : Int64) (j : Nat) (hj : j < 32) : (hiI n).toBitVec.getLsbD j = n.toBitVec.getLsbD (32 + j) := by
  unfold hiI
  have e : ((n.toUInt64 >>> ((32 : Int32).toInt64.toUInt64 &&& Int64.toUInt64 63)).toInt64).toBitVec = n.toBitVec >>> 32 := by
    rw [show (32 : Int32).toInt64.toUInt64 &&& Int64.toUInt64 63 = (32 : UInt64) from by decide]
    show (n.toUInt64 >>> (32 : UInt64)).toBitVec = _
    rw [UInt64.toBitVec_shiftRight]
    rfl
  rw [Int64.toBitVec_toInt32, BitVec.getLsbD_signExtend, e, BitVec.getLsbD_ushiftRight]
  simp [hj, show j < 64 by omega]
theorem lo_bit (n : Int64) (j : Nat) (hj : j < 32) : n.toInt32.toBitVec.getLsbD j = n.toBitVec.getLsbD j := by
  rw [Int64.toBitVec_toInt32, BitVec.getLsbD_signExtend]
  simp [hj, show j < 64 by omega]
theorem ibyte (x : Int32) (s : Nat) (hs : s ≤ 24) (i : Nat) (hi : i < 8) : (x >>> (nI s &&& 31)).toInt8.toBitVec.getLsbD i = x.toBitVec.getLsbD (s + i) := by
  have e1 : ∀ s, s ≤ 24 → ((nI s &&& 31).toBitVec.smod 32).toNat = s := by decide
  have g1 : (x >>> (nI s &&& 31)).toBitVec = x.toBitVec.sshiftRight s := by
    rw [Int32.toBitVec_shiftRight, BitVec.sshiftRight_eq', e1 s hs]
  simp only [Int32.toBitVec_toInt8]
  rw [BitVec.getLsbD_signExtend, g1, BitVec.getLsbD_sshiftRight]
  simp [hi, show ¬ 32 ≤ i by omega, show s + i < 32 by omega]
theorem nbyte8 (n : Int64) (x : Int32) (s t : Nat) (hs : s ≤ 56) (ht : t ≤ 24) (h : ∀ i, i < 8 → x.toBitVec.getLsbD (t + i) = n.toBitVec.getLsbD (s + i)) : ((n >>> ((nI s).toInt64 &&& 63)).toInt32).toInt8.toInt32 = (x >>> (nI t &&& 31)).toInt8.toInt32 := by
  congr 1
  apply Int8.toBitVec_inj.mp
  apply BitVec.eq_of_getLsbD_eq
  intro i hi
  rw [nbyte _ s hs i hi, ibyte x t ht i hi, h i hi]
theorem nb8 (n : Int64) : nbL n 8 = be4 (hiI n) ++ be4 n.toInt32 := by
  have hh : ∀ t, t ≤ 24 → ((n >>> ((nI (32 + t)).toInt64 &&& 63)).toInt32).toInt8.toInt32 = ((hiI n) >>> (nI t &&& 31)).toInt8.toInt32 := fun t ht => nbyte8 n (hiI n) (32 + t) t (by omega) ht (fun i hi => by rw [hi_bit n _ (by omega), Nat.add_assoc])
  have hl : ∀ t, t ≤ 24 → ((n >>> ((nI t).toInt64 &&& 63)).toInt32).toInt8.toInt32 = (n.toInt32 >>> (nI t &&& 31)).toInt8.toInt32 := fun t ht => nbyte8 n n.toInt32 t t (by omega) ht (fun i hi => lo_bit n _ (by omega))
  have e : ∀ r, r < 8 → (nbL n 8).getD r 0 = (be4 (hiI n) ++ be4 n.toInt32).getD r 0 := by
    intro r hr
    by_cases q : r < 4
    · rw [getD_app_l (by rw [be4_len]; exact q), be4_getD _ r q]
      match r, q with
      | 0, _ => exact hh 24 (by omega)
      | 1, _ => exact hh 16 (by omega)
      | 2, _ => exact hh 8 (by omega)
      | 3, _ => exact hh 0 (by omega)
    · rw [getD_app_r (by rw [be4_len]; omega), be4_len, be4_getD _ (r - 4) (by omega)]
      have : r = 4 ∨ r = 5 ∨ r = 6 ∨ r = 7 := by omega
      rcases this with h | h | h | h <;> subst h
      · exact hl 24 (by omega)
      · exact hl 16 (by omega)
      · exact hl 8 (by omega)
      · exact hl 0 (by omega)
  exact getD_ext (by rw [nbL_len, List.length_append, be4_len, be4_len]) (fun j hj => by rw [nbL_len] at hj; exact e j hj)
def kyM (n : Int64) (g : Nat) : List Int32 := [3] ++ be4 (hiI n) ++ be4 n.toInt32 ++ [nI g]
def kyL (n : Int64) : Nat → List Int32
  | 0 => []
  | g + 1 => kyL n g ++ part (sha (kyM n g)) 0 8
theorem kyL_len (n : Int64) : ∀ g, (kyL n g).length = 8 * g
  | 0 => rfl
  | g + 1 => by rw [kyL, List.length_append, kyL_len n g, part_len (by rw [sha_len]; omega)]; omega
section KMF
variable {G : mG} {S S' S1 S2 : mS} {a b q n cap k : Nat} {e e' : va_E} {l lm ld : List Int32} {X Y : Nat → Prop}
theorem c_Keys_makeFrom {n : Int64} (hG : GOK G) (h : Sha G S a lm ld) (k1 : mAt G S k (.inr (1, [.ref (k + 1)]))) (kr : Rl G S (k + 1) 32 l) (ha : a + 6 < k ∨ k + 2 < a) :
    mCon G yX1_makeFrom cX1_makeFrom 5 none (rmD 2) [.ref k, .ref a, .long n] S (fun v S' => v = none ∧ fr S S' (fun q => xS a q ∨ xR (k + 1) q) ∧ (∃ lm ld, Sha G S' a lm ld) ∧ Ky G S' k (kyL n 4)) := by
  have key : ∀ (d g : Nat) (x : Int32) (lm ld : List Int32) (S4 : mS), g + d = 4 → x = nI g → fr S S4 (fun q => xS a q ∨ xR (k + 1) q) → Sha G S4 a lm ld → Rl G S4 (k + 1) 32 (kyL n g) →
      Gd G (miX1 false none) cX1_makeFrom 5 (rmD 2) 0 0 (fun v S' => v = none ∧ fr S S' (fun q => xS a q ∨ xR (k + 1) q) ∧ (∃ lm ld, Sha G S' a lm ld) ∧ Ky G S' k (kyL n 4)) 10 [(0, .ref k), (1, .ref a), (2, .long n), (4, .int x)] [] (0, 0) S4 := by
    intro d
    induction d with
    | zero =>
      intro g x lm ld S4 hg hx f4 h4 r4
      subst hx
      have eg : g = 4 := by omega
      subst eg
      refine Gd.of (ckX1 _ _) tX1_makeFrom_ok (cuts := lf 10 5) 60 ?_
      refine eB.t (by decide) ?_
      exact eR.v ⟨rfl, f4, ⟨_, _, h4⟩, k1.fr f4 (by omega), r4, kyL_len n 4⟩
    | succ d ih =>
      intro g x lm ld S4 hg hx f4 h4 r4
      subst hx
      refine Gd.of (ckX1 _ _) tX1_makeFrom_ok (cuts := lf 10 5) 60 ?_
      refine eB.f (by rw [show (4 : Int32) = nI 4 from rfl, nI_leI (by omega) (by omega)]; omega) ?_
      refine eG.i h4.o rfl ?_
      refine ⟨rfl, Nat.le_of_ble_eq_true rfl, ?_⟩
      refine eV.i h4.m.obj ?_
      refine eC.z (c_Row_empty h4.m) ⟨rfl, rfl⟩ ⟨Nat.le_of_ble_eq_true rfl, Nat.le_of_ble_eq_true rfl⟩ ⟨Nat.zero_le _, Nat.zero_le _⟩ (fun v S5 hk => ?_)
      obtain ⟨rfl, f5, m5⟩ := hk
      have H5 := h4.msg f5 m5
      refine eG.i H5.o rfl ?_
      refine ⟨rfl, Nat.le_of_ble_eq_true rfl, ?_⟩
      refine eV.i m5.obj ?_
      refine eC.z (c_Row_add m5 (by decide)) ⟨rfl, rfl⟩ ⟨Nat.le_of_ble_eq_true rfl, Nat.le_of_ble_eq_true rfl⟩ ⟨Nat.zero_le _, Nat.zero_le _⟩ (fun v S6 hk => ?_)
      obtain ⟨rfl, f6, m6⟩ := hk
      have H6 := H5.msg f6 m6
      refine eG.i H6.o rfl ?_
      refine ⟨rfl, Nat.le_of_ble_eq_true rfl, ?_⟩
      refine eV.i m6.obj ?_
      refine eC.z (c_Row_addNumber m6 (by decide)) ⟨rfl, rfl⟩ ⟨Nat.le_of_ble_eq_true rfl, Nat.le_of_ble_eq_true rfl⟩ ⟨Nat.zero_le _, Nat.zero_le _⟩ (fun v S7 hk => ?_)
      obtain ⟨rfl, f7, m7⟩ := hk
      rw [be4_eq] at m7
      have H7 := H6.msg f7 m7
      refine eG.i H7.o rfl ?_
      refine ⟨rfl, Nat.le_of_ble_eq_true rfl, ?_⟩
      refine eV.i m7.obj ?_
      refine eC.z (c_Row_addNumber m7 (by rw [List.length_append, be4_len]; decide)) ⟨rfl, rfl⟩ ⟨Nat.le_of_ble_eq_true rfl, Nat.le_of_ble_eq_true rfl⟩ ⟨Nat.zero_le _, Nat.zero_le _⟩ (fun v S8 hk => ?_)
      obtain ⟨rfl, f8, m8⟩ := hk
      rw [be4_eq] at m8
      have H8 := H7.msg f8 m8
      refine eG.i H8.o rfl ?_
      refine ⟨rfl, Nat.le_of_ble_eq_true rfl, ?_⟩
      refine eV.i m8.obj ?_
      refine eC.z (c_Row_add m8 (by rw [List.length_append, List.length_append, be4_len, be4_len]; decide)) ⟨rfl, rfl⟩ ⟨Nat.le_of_ble_eq_true rfl, Nat.le_of_ble_eq_true rfl⟩ ⟨Nat.zero_le _, Nat.zero_le _⟩ (fun v S9 hk => ?_)
      obtain ⟨rfl, f9, m9⟩ := hk
      have H9 := H8.msg f9 m9
      have f59 := (((f5.tr f6).tr f7).tr f8).tr f9
      have f49 : fr S S9 (fun q => xS a q ∨ xR (k + 1) q) := f4.tr (f59.mono (fun q z => by omega))
      refine eG.i (k1.fr f49 (by omega)) rfl ?_
      have em : [] ++ [(3 : Int32).toInt8.toInt32] ++ be4 (hiI n) ++ be4 n.toInt32 ++ [(nI g).toInt8.toInt32] = kyM n g := by
        rw [byte_small (by omega)]
        rfl
      have H9' : Sha G S9 a (kyM n g) ld := by rw [← em]; exact H9
      refine ⟨rfl, Nat.le_of_ble_eq_true rfl, ?_⟩
      refine eV.i H9'.o ?_
      refine eC.z (c_Sha_finish hG H9' (by show (kyM n g).length ≤ 634; rw [← em, List.length_append, List.length_append, List.length_append, be4_len, be4_len]; exact Nat.le_of_ble_eq_true rfl)) ⟨rfl, rfl⟩ ⟨Nat.le_of_ble_eq_true rfl, Nat.le_of_ble_eq_true rfl⟩ ⟨Nat.zero_le _, Nat.zero_le _⟩ (fun v S10 hk => ?_)
      obtain ⟨rfl, f10, lm10, H10⟩ := hk
      have r10 := (r4.fr f59 (by omega) (by omega)).fr f10 (by omega) (by omega)
      refine ⟨rfl, Nat.le_of_ble_eq_true rfl, ?_⟩
      refine eV.i r10.obj ?_
      refine eC.z (c_Row_addPart (s := 0) (c := 8) r10 H10.d (by omega) (by rw [sha_len]; omega) (by rw [kyL_len]; omega)) ⟨rfl, rfl⟩ ⟨Nat.le_of_ble_eq_true rfl, Nat.le_of_ble_eq_true rfl⟩ ⟨Nat.zero_le _, Nat.zero_le _⟩ (fun v S11 hk => ?_)
      obtain ⟨rfl, f11, r11⟩ := hk
      refine ih (g + 1) _ lm10 _ S11 (by omega) (nI_1 g) ((f49.tr (f10.mono (fun q z => Or.inl z))).tr (f11.mono (fun q z => Or.inr z))) (H10.keep f11 (fun q z1 z2 => by omega)) r11
  refine mCon.of (I := miX1 false none) (by decide) rfl rfl (fun h => by cases h) (fun _ => rfl) (Nat.le_of_ble_eq_true rfl) ?_
  show Gd _ _ _ _ _ _ _ _ 0 [(0, .ref k), (1, .ref a), (2, .long n)] [] (0, 0) _
  refine Gd.of (ckX1 _ _) tX1_makeFrom_ok (cuts := lf 10 5) 60 ?_
  refine eG.i k1 rfl ?_
  refine ⟨rfl, Nat.le_of_ble_eq_true rfl, ?_⟩
  refine eV.i kr.obj ?_
  refine eC.z (c_Row_empty kr) ⟨rfl, rfl⟩ ⟨Nat.le_of_ble_eq_true rfl, Nat.le_of_ble_eq_true rfl⟩ ⟨Nat.zero_le _, Nat.zero_le _⟩ (fun v S1 hk => ?_)
  obtain ⟨rfl, f1, r1⟩ := hk
  exact key 4 0 _ lm ld S1 (by omega) rfl (f1.mono (fun q z => Or.inr z)) (h.keep f1 (fun q z1 z2 => by omega)) r1
/-- from one state to a larger one, changed in X -/
def tf (S S' : mS) (X : Nat → Prop) : Prop := S.1 ≤ S'.1 ∧ ∀ q, q < S.1 → ¬ X q → S'.2 q = S.2 q
theorem tf.rf : tf S S X := ⟨Nat.le_refl _, fun _ _ _ => rfl⟩
theorem tf.tr (h : tf S S1 X) (g : tf S1 S2 Y) (hY : ∀ q, q < S.1 → Y q → X q) : tf S S2 X := ⟨Nat.le_trans h.1 g.1, fun q hq hx => (g.2 q (Nat.lt_of_lt_of_le hq h.1) (fun z => hx (hY q hq z))).trans (h.2 q hq hx)⟩
theorem tf.push : tf S (mPush S e) X := ⟨Nat.le_succ _, fun q hq _ => up_n (Nat.ne_of_lt hq)⟩
theorem tf.up (hx : X a) : tf S (mUp S a e) X := ⟨Nat.le_refl _, fun q _ hq => up_n (fun z => hq (by rw [z]; exact hx))⟩
theorem tf.nw {m : Nat} (h : nw S S' a m) (hs : S.1 ≤ a + m) : tf S S' (fun q => a ≤ q) := ⟨by rw [h.1]; exact hs, fun q _ hx => h.2 q (by omega)⟩
theorem tf.fr (f : fr S S' X) : tf S S' X := ⟨Nat.le_of_eq f.1.symm, fun q _ hx => f.2 q hx⟩
theorem tf.mono (h : tf S S' X) (m : ∀ q, q < S.1 → X q → Y q) : tf S S' Y := ⟨h.1, fun q hq hy => h.2 q hq (fun z => hy (m q hq z))⟩
theorem mAt.tf (h : mAt G S q e) (f : tf S S' X) (hx : ¬ X q) : mAt G S' q e := ⟨h.1, Nat.lt_of_lt_of_le h.2.1 f.1, (f.2 q h.2.1 hx).trans h.2.2⟩
theorem Rl.tf (h : Rl G S a cap l) (f : tf S S' X) (h0 : ¬ X a) (h1 : ¬ X (a + 1)) : Rl G S' a cap l := by
  obtain ⟨g, g1, g2, g3⟩ := h
  exact ⟨g, g1.tf f h0, g2.tf f h1, g3⟩
theorem Sha.tf (h : Sha G S a lm ld) (f : tf S S' X) (hx : ∀ q, a ≤ q → q ≤ a + 6 → ¬ X q) : Sha G S' a lm ld := by
  obtain ⟨g0, gm, gd, ⟨w, gw⟩, t, gt⟩ := h
  exact ⟨mAt.tf g0 f (hx _ (by omega) (by omega)), gm.tf f (hx _ (by omega) (by omega)) (hx _ (by omega) (by omega)), gd.tf f (hx _ (by omega) (by omega)) (hx _ (by omega) (by omega)), ⟨w, gw.tf f (hx _ (by omega) (by omega))⟩, t, gt.tf f (hx _ (by omega) (by omega))⟩
theorem Ky.tf (h : Ky G S k l) (f : tf S S' X) (hx : ∀ q, k ≤ q → q ≤ k + 2 → ¬ X q) : Ky G S' k l := ⟨h.1.tf f (hx _ (by omega) (by omega)), h.2.1.tf f (hx _ (by omega) (by omega)) (hx _ (by omega) (by omega)), h.2.2⟩
theorem Cb.tf (h : Cb G S k lm ld) (f : tf S S' X) (hx : ∀ q, k ≤ q → q ≤ k + 4 → ¬ X q) : Cb G S' k lm ld := ⟨h.1.tf f (hx _ (by omega) (by omega)), h.2.1.tf f (hx _ (by omega) (by omega)) (hx _ (by omega) (by omega)), h.2.2.tf f (hx _ (by omega) (by omega)) (hx _ (by omega) (by omega))⟩
theorem Lt.tf {x : Int32} (h : Lt G S k x l) (f : tf S S' X) (hx : ∀ q, k ≤ q → q ≤ k + 2 → ¬ X q) : Lt G S' k x l := ⟨h.1.tf f (hx _ (by omega) (by omega)), h.2.tf f (hx _ (by omega) (by omega)) (hx _ (by omega) (by omega))⟩
theorem Vw.tf {vals : Nat → Int32} {cnt : Nat} (h : Vw G S k vals cnt) (f : tf S S' X) (hx : ∀ q, k ≤ q → q ≤ k + 16 → ¬ X q) : Vw G S' k vals cnt := by
  obtain ⟨h1, ⟨g, h2, h3⟩, ⟨u, h4, h5⟩, h6, h7⟩ := h
  exact ⟨h1.tf f (hx _ (by omega) (by omega)), ⟨g, h2.tf f (hx _ (by omega) (by omega)), h3⟩, ⟨u, h4.tf f (hx _ (by omega) (by omega)), h5⟩, h6, fun l hl => (h7 l hl).tf f (hx _ (by omega) (by omega)) (hx _ (by omega) (by omega))⟩
theorem MnS.tf {m : Nat} {o : Mo} (h : MnS G S m o) (f : tf S S' X) (hx : ∀ q, m ≤ q → q ≤ m + 88 → ¬ X q) : MnS G S' m o := by
  obtain ⟨R, r0, h1, ⟨a, h2, h2'⟩, ⟨b, h3, h3'⟩, h4, ⟨d, h5, h5'⟩, h6, h7, h8, h9⟩ := h
  exact ⟨R, r0, h1.tf f (hx _ (by omega) (by omega)), ⟨a, h2.tf f (hx _ (by omega) (by omega)), h2'⟩, ⟨b, h3.tf f (hx _ (by omega) (by omega)), h3'⟩, h4.tf f (hx _ (by omega) (by omega)), ⟨d, h5.tf f (hx _ (by omega) (by omega)), h5'⟩, fun i hi => (h6 i hi).tf f (hx _ (by omega) (by omega)), fun i hi => (h7 i hi).tf f (hx _ (by omega) (by omega)) (hx _ (by omega) (by omega)), fun i hi => (h8 i hi).tf f (hx _ (by omega) (by omega)) (hx _ (by omega) (by omega)), h9⟩
end KMF
