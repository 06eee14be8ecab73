/-! the reference's take and gossip -/
theorem in_n {x : Int32} {k : Nat} (hk : k ≤ 1000) : ((0 : Int32).toInt ≤ x.toInt ∧ x.toInt ≤ (nI k - 1).toInt) ↔ inR x k := by
  have e0 : (0 : Int32).toInt = 0 := rfl
  have e1 : (1 : Int32).toInt = 1 := rfl
  have e2 := nI_toInt (n := k) (by omega)
  have e3 : (nI k - 1).toInt = (k : Int) - 1 := by rw [i_sub (by omega) (by omega), e1, e2]
  rw [e0, e3]
  constructor <;> intro h <;> (constructor <;> omega)
theorem in_3 {x : Int32} : ((0 : Int32).toInt ≤ x.toInt ∧ x.toInt ≤ (3 : Int32).toInt) ↔ inR x 4 := in_n (k := 4) (by decide)
theorem cntN_no {P : Nat → Prop} (h : ∀ i, ¬ P i) : ∀ d i, cntN P d i = 0 := by
  intro d
  induction d with
  | zero => intro i; rfl
  | succ d ih => intro i; rw [cntN_f (h i)]; exact ih (i + 1)
theorem accC_eq {o : Mo} {t : List Int32} : accC o t = cntN (fun i => ∃ root, pth t (hcN 2 t) (num4 t 5) (num4 t 1) = some root ∧ accW (o.2.1 i) t root) o.1.1 0 := by
  unfold accC
  cases e : pth t (hcN 2 t) (num4 t 5) (num4 t 1) with
  | none =>
    rw [cntN_no (fun i z => by obtain ⟨r, z, -⟩ := z; cases z)]
  | some root =>
    have : (fun i => ∃ r, some root = some r ∧ accW (o.2.1 i) t r) = fun i => accW (o.2.1 i) t root := by
      funext i
      apply propext
      constructor
      · intro z
        obtain ⟨r, z1, z2⟩ := z
        rw [Option.some.inj z1]
        exact z2
      · intro z
        exact ⟨root, rfl, z⟩
    rw [this]
section TAK
variable {G : mG} {S S' : mS} {M nl nn nd : Nat} {A A' : AA} {l t : List Int32} {K : List Int32} {vals : Nat → Nat → Int32} {cnt : Nat → Nat} {np : Nat} {kd : Nat → Int32} {lt : Nat → List Int32} {mo : Nat → Mo} {dk : List Int32}
theorem Rel.mon {m : Nat} {o' : Mo} (h : Rel A (K, vals, cnt, np, kd, lt, mo, dk)) (g : Am A A' m) (r : RM1 A' m o') : Rel A' (K, vals, cnt, np, kd, lt, va_up mo m o', dk) := by
  obtain ⟨h1, h2, h3, h4, h5⟩ := h
  refine ⟨h1.cong (g.1 10 (by decide) (by decide)), h2.cong (g.1 8 (by decide) (by decide)) (g.1 9 (by decide) (by decide)), ⟨h3.1, fun i hi => (h3.2 i hi).am g⟩, fun j hj => ?_, h5.cong (g.1 29 (by decide) (by decide))⟩
  by_cases e : j = m
  · subst e; rw [up_s]; exact r
  · rw [up_n e]; exact (h4 j hj).other g e
theorem md_blK (h : Md G S M A l nl nn nd) (hK : RK A K) : bl K := h.bl (q := 10) (a := 0) rfl (by decide) (fun x hx => by rw [Nat.zero_add]; exact hK.2 x (by rw [hK.1] at hx; exact hx))
theorem c_X8_take {a b : Int32} (hI : Inv (K, vals, cnt, np, kd, lt, mo, dk)) (h : MS G S M (K, vals, cnt, np, kd, lt, mo, dk)) :
    mCon G yX8_take cX8_take 5 (some .int) (rmD 14) [.ref M, .int a, .int b] S (oM G S M (oTk (K, vals, cnt, np, kd, lt, mo, dk) a b)) := by
  have hall := h
  obtain ⟨A, l, nn, m0, hR⟩ := h
  have hR' := hR
  obtain ⟨h1, h2, h3, h4, h5⟩ := hR
  have np60 := h3.1
  by_cases hv : inR a 4
  · by_cases hb : inR b np
    · obtain ⟨m, hm, hma⟩ : ∃ m, m < 4 ∧ a = nI m := ⟨a.toInt.toNat, by omega, i_of hv.1⟩
      obtain ⟨q, hq, hqb⟩ : ∃ q, q < np ∧ b = nI q := ⟨b.toInt.toNat, by omega, i_of hb.1⟩
      subst hma hqb
      have em : (nI m).toInt.toNat = m := by rw [nI_toInt (by omega)]; rfl
      have eq : (nI q).toInt.toNat = q := by rw [nI_toInt (by omega)]; rfl
      have w := h3.2 q hq
      have hmo := h4 m hm
      have hok := hI.1 q hq
      have hoM := hI.2 m hm
      have bK := md_blK m0 h1
      have hin : vp_in (nI m) 4 := vp_in_nI (by omega) (by omega)
      have hcl : (nI m).toNatClampNeg = m := nI_clamp (by omega)
      have hinq : vp_in (nI q) 60 := vp_in_nI (by omega) (by omega)
      have hclq : (nI q).toNatClampNeg = q := nI_clamp (by omega)
      have e4 : 400 * nI q = nI (400 * q) := by rw [show (400 : Int32) = nI 400 from rfl, pk_mul]
      have v12 : A 12 (nI q).toNatClampNeg = kd q := by rw [hclq, w.1]
      refine mCon.of (I := miX8 false (some .int)) (by decide) rfl rfl (fun h => by cases h) (fun _ => rfl) (Nat.le_of_ble_eq_true rfl) ?_
      show Gd _ _ _ _ _ _ _ _ 0 [(0, .ref M), (1, .int (nI m)), (2, .int (nI q))] [] (0, 0) _
      rcases hok with ⟨k0, hl⟩ | ⟨k0, hok⟩ | ⟨k0, hok⟩
      · have e : oTk (K, vals, cnt, np, kd, lt, mo, dk) (nI m) (nI q) = ((tkS K (mo m) (lt q)).1, K, vals, cnt, np, kd, lt, va_up mo m (ntM (tkS K (mo m) (lt q)).2 (tkS K (mo m) (lt q)).1), dk) := by
          show (if _ then _ else _) = _
          rw [if_pos ⟨hv, hb⟩, em, eq, if_pos k0]
        rw [e]
        have hc := c_M_takesHead (hn := (mo m).1.1) (fn := (mo m).1.2.1) (rn := (mo m).1.2.2.1) (nr := (mo m).1.2.2.2.1) (nc := (mo m).1.2.2.2.2) (hF := (mo m).2.1) (pF := (mo m).2.2.1) (fH := (mo m).2.2.2.1) (rF := (mo m).2.2.2.2) (i := 11) (s := 400 * q) (row := lt q) m0 h1 bK hmo hoM hm rfl (by decide) (by decide) (by decide) (by show 400 * q + 45 ≤ 24000; omega) hl (fun x hx => w.2.2.2 x (by omega)) (fun z => absurd z (by decide))
        rw [← e4] at hc
        refine Gd.of (ckX8 _ _) tX8_take_ok (cuts := lf 76 5) 60 ?_
        refine ⟨Nat.le_of_ble_eq_true rfl, ?_⟩
        refine eC.z (c_M_in) ⟨rfl, rfl⟩ ⟨Nat.le_of_ble_eq_true rfl, Nat.le_of_ble_eq_true rfl⟩ ⟨Nat.zero_le _, Nat.zero_le _⟩ (fun v S1 hk => ?_)
        obtain ⟨rfl, rfl⟩ := hk
        rw [pI_t (in_3.mpr hv)]
        refine eB.f (by decide) ?_
        refine ⟨rfl, Nat.le_of_ble_eq_true rfl, ?_⟩
        refine eV.i m0.obj ?_
        refine eC.z (c_M_isLetter m0 np60) ⟨rfl, rfl⟩ ⟨Nat.le_of_ble_eq_true rfl, Nat.le_of_ble_eq_true rfl⟩ ⟨Nat.zero_le _, Nat.zero_le _⟩ (fun v S1 hk => ?_)
        obtain ⟨rfl, rfl⟩ := hk
        rw [pI_t hb]
        refine eB.f (by decide) ?_
        refine eG.i m0.obj rfl ?_
        refine eL.i (i := nI q) m0.a12 hinq ?_
        rw [v12]
        refine eB.t k0 ?_
        refine eG.i m0.obj rfl ?_
        refine ⟨rfl, Nat.le_of_ble_eq_true rfl, ?_⟩
        refine eV.i m0.obj ?_
        refine eC.z (hc) ⟨rfl, rfl⟩ ⟨Nat.le_of_ble_eq_true rfl, Nat.le_of_ble_eq_true rfl⟩ ⟨Nat.zero_le _, Nat.zero_le _⟩ (fun v S2 hk => ?_)
        obtain ⟨rfl, f2, A2, l2, m2, g2, r2⟩ := hk
        refine ⟨rfl, Nat.le_of_ble_eq_true rfl, ?_⟩
        refine eV.i m2.obj ?_
        refine eC.z (c_M_answered m2 r2 hm) ⟨rfl, rfl⟩ ⟨Nat.le_of_ble_eq_true rfl, Nat.le_of_ble_eq_true rfl⟩ ⟨Nat.zero_le _, Nat.zero_le _⟩ (fun v S3 hk => ?_)
        obtain ⟨rfl, f3, A3, m3, g3, r3⟩ := hk
        exact eR.int ⟨rfl, f2.tr f3, A3, l2, nn, m3, hR'.mon (g2.tr g3) r3⟩
      · have e : oTk (K, vals, cnt, np, kd, lt, mo, dk) (nI m) (nI q) = ((tkP (mo m) (lt q) (accR (mo m) (lt q))).1, K, vals, cnt, np, kd, lt, va_up mo m (ntM (tkP (mo m) (lt q) (accR (mo m) (lt q))).2 (tkP (mo m) (lt q) (accR (mo m) (lt q))).1), dk) := by
          show (if _ then _ else _) = _
          rw [if_pos ⟨hv, hb⟩, em, eq, if_neg (by rw [k0]; decide), if_pos k0]
        rw [e]
        have hc := c_M_takesProof (K := K) (hn := (mo m).1.1) (fn := (mo m).1.2.1) (rn := (mo m).1.2.2.1) (nr := (mo m).1.2.2.2.1) (nc := (mo m).1.2.2.2.2) (hF := (mo m).2.1) (pF := (mo m).2.2.1) (fH := (mo m).2.2.2.1) (rF := (mo m).2.2.2.2) (q := q) (t := lt q) m0 hmo hoM hm (by omega) (by rw [← k0]; exact w) (Or.inr (Or.inl ⟨rfl, hok⟩))
        refine Gd.of (ckX8 _ _) tX8_take_ok (cuts := lf 76 5) 60 ?_
        refine ⟨Nat.le_of_ble_eq_true rfl, ?_⟩
        refine eC.z (c_M_in) ⟨rfl, rfl⟩ ⟨Nat.le_of_ble_eq_true rfl, Nat.le_of_ble_eq_true rfl⟩ ⟨Nat.zero_le _, Nat.zero_le _⟩ (fun v S1 hk => ?_)
        obtain ⟨rfl, rfl⟩ := hk
        rw [pI_t (in_3.mpr hv)]
        refine eB.f (by decide) ?_
        refine ⟨rfl, Nat.le_of_ble_eq_true rfl, ?_⟩
        refine eV.i m0.obj ?_
        refine eC.z (c_M_isLetter m0 np60) ⟨rfl, rfl⟩ ⟨Nat.le_of_ble_eq_true rfl, Nat.le_of_ble_eq_true rfl⟩ ⟨Nat.zero_le _, Nat.zero_le _⟩ (fun v S1 hk => ?_)
        obtain ⟨rfl, rfl⟩ := hk
        rw [pI_t hb]
        refine eB.f (by decide) ?_
        refine eG.i m0.obj rfl ?_
        refine eL.i (i := nI q) m0.a12 hinq ?_
        rw [v12]
        refine eB.f (by rw [k0]; decide) ?_
        refine eG.i m0.obj rfl ?_
        refine eL.i (i := nI q) m0.a12 hinq ?_
        rw [v12]
        refine eB.t k0 ?_
        refine ⟨rfl, Nat.le_of_ble_eq_true rfl, ?_⟩
        refine eV.i m0.obj ?_
        refine eC.z (hc) ⟨rfl, rfl⟩ ⟨Nat.le_of_ble_eq_true rfl, Nat.le_of_ble_eq_true rfl⟩ ⟨Nat.zero_le _, Nat.zero_le _⟩ (fun v S2 hk => ?_)
        obtain ⟨rfl, f2, A2, l2, m2, g2, r2⟩ := hk
        refine ⟨rfl, Nat.le_of_ble_eq_true rfl, ?_⟩
        refine eV.i m2.obj ?_
        refine eC.z (c_M_answered m2 r2 hm) ⟨rfl, rfl⟩ ⟨Nat.le_of_ble_eq_true rfl, Nat.le_of_ble_eq_true rfl⟩ ⟨Nat.zero_le _, Nat.zero_le _⟩ (fun v S3 hk => ?_)
        obtain ⟨rfl, f3, A3, m3, g3, r3⟩ := hk
        exact eR.int ⟨rfl, f2.tr f3, A3, l2, nn, m3, hR'.mon (g2.tr g3) r3⟩
      · have e : oTk (K, vals, cnt, np, kd, lt, mo, dk) (nI m) (nI q) = (nI (accC (mo m) (lt q)), K, vals, cnt, np, kd, lt, mo, dk) := by
          show (if _ then _ else _) = _
          rw [if_pos ⟨hv, hb⟩, em, eq, if_neg (by rw [k0]; decide), if_neg (by rw [k0]; decide)]
        rw [e]
        have w2 : Wr A q 2 (lt q) := by rw [← k0]; exact w
        have ok2 : okL 2 (lt q) := Or.inr (Or.inr ⟨rfl, hok⟩)
        have hz1 := hmo.1.1
        have key : ∀ (d i c : Nat) (x x3 : Int32) (S4 : mS) (H : Nat → Int32) (l4 : List Int32), i + d = (mo m).1.1 → x = nI i → x3 = nI c → c + cntN (fun i => ∃ root, pth (lt q) (hcN 2 (lt q)) (num4 (lt q) 5) (num4 (lt q) 1) = some root ∧ accW ((mo m).2.1 i) (lt q) root) d i = accC (mo m) (lt q) → c ≤ i → fr S S4 (xD M) → Md G S4 M (va_up A 7 H) l4 np nn dk.length →
            Gd G (miX8 false (some .int)) cX8_take 5 (rmD 14) 0 0 (oM G S M (nI (accC (mo m) (lt q)), K, vals, cnt, np, kd, lt, mo, dk)) 76 [(0, .ref M), (1, .int (nI m)), (2, .int (nI q)), (3, .int x3), (4, .int x)] [] (0, 0) S4 := by
          intro d
          induction d with
          | zero =>
            intro i c x x3 S4 H l4 hi hx hx3 hc hci f4 m4
            subst hx hx3
            rw [show cntN (fun i => ∃ root, pth (lt q) (hcN 2 (lt q)) (num4 (lt q) 5) (num4 (lt q) 1) = some root ∧ accW ((mo m).2.1 i) (lt q) root) 0 i = 0 from rfl, Nat.add_zero] at hc
            have e18 : va_up A 7 H 18 (nI m).toNatClampNeg = nI (mo m).1.1 := by rw [hcl]; exact hmo.h7.2.1.1
            refine Gd.of (ckX8 _ _) tX8_take_ok (cuts := lf 76 5) 60 ?_
            refine eG.i m4.obj rfl ?_
            refine eL.i (i := nI m) m4.a18 hin ?_
            rw [e18]
            refine eB.t (by rw [nI_leI (by omega) (by omega)]; omega) ?_
            refine eR.int ⟨by rw [hc], f4, _, l4, nn, m4, hR'.cong (fun i a b _ _ => up_n (by omega))⟩
          | succ d ih =>
            intro i c x x3 S4 H l4 hi hx hx3 hc hci f4 m4
            subst hx hx3
            have e18 : va_up A 7 H 18 (nI m).toNatClampNeg = nI (mo m).1.1 := by rw [hcl]; exact hmo.h7.2.1.1
            refine Gd.of (ckX8 _ _) tX8_take_ok (cuts := lf 76 5) 60 ?_
            refine eG.i m4.obj rfl ?_
            refine eL.i (i := nI m) m4.a18 hin ?_
            rw [e18]
            refine eB.f (by rw [nI_leI (by omega) (by omega)]; omega) ?_
            refine eG.i m4.obj rfl ?_
            refine ⟨Nat.le_of_ble_eq_true rfl, ?_⟩
            refine eC.z (c_M_headAt) ⟨rfl, rfl⟩ ⟨Nat.le_of_ble_eq_true rfl, Nat.le_of_ble_eq_true rfl⟩ ⟨Nat.zero_le _, Nat.zero_le _⟩ (fun v S5 hk => ?_)
            obtain ⟨rfl, rfl⟩ := hk
            refine ⟨rfl, Nat.le_of_ble_eq_true rfl, ?_⟩
            refine eV.i m4.obj ?_
            refine eC.z (c_M_acc2 (u := 900 * m + 45 * i) (hd := (mo m).2.1 i) m4 (by omega) w2.h7 ok2 (by omega) (hoM.1 i (by omega)).1 (fun x hx => hmo.h7.2.2.1 i (by omega) x hx)) ⟨rfl, rfl⟩ ⟨Nat.le_of_ble_eq_true rfl, Nat.le_of_ble_eq_true rfl⟩ ⟨Nat.zero_le _, Nat.zero_le _⟩ (fun v S6 hk6 => ?_)
            obtain ⟨rfl, f6, l6, H6, m6⟩ := hk6
            rw [up_up] at m6
            by_cases z : ∃ root, pth (lt q) (hcN 2 (lt q)) (num4 (lt q) 5) (num4 (lt q) 1) = some root ∧ accW ((mo m).2.1 i) (lt q) root
            · rw [cntN_t (P := fun i => ∃ root, pth (lt q) (hcN 2 (lt q)) (num4 (lt q) 5) (num4 (lt q) 1) = some root ∧ accW ((mo m).2.1 i) (lt q) root) (i := i) z] at hc
              rw [pI_t z]
              refine eB.f (by decide) ?_
              exact ih (i + 1) (c + 1) _ _ S6 H6 l6 (by omega) (nI_1 i) (nI_1 c) (by omega) (by omega) (f4.tr f6) m6
            · rw [cntN_f (P := fun i => ∃ root, pth (lt q) (hcN 2 (lt q)) (num4 (lt q) 5) (num4 (lt q) 1) = some root ∧ accW ((mo m).2.1 i) (lt q) root) (i := i) z] at hc
              rw [pI_f z]
              refine eB.t rfl ?_
              exact ih (i + 1) c _ _ S6 H6 l6 (by omega) (nI_1 i) (Int32.add_zero _) hc (by omega) (f4.tr f6) m6
        refine Gd.of (ckX8 _ _) tX8_take_ok (cuts := lf 76 5) 60 ?_
        refine ⟨Nat.le_of_ble_eq_true rfl, ?_⟩
        refine eC.z (c_M_in) ⟨rfl, rfl⟩ ⟨Nat.le_of_ble_eq_true rfl, Nat.le_of_ble_eq_true rfl⟩ ⟨Nat.zero_le _, Nat.zero_le _⟩ (fun v S1 hk => ?_)
        obtain ⟨rfl, rfl⟩ := hk
        rw [pI_t (in_3.mpr hv)]
        refine eB.f (by decide) ?_
        refine ⟨rfl, Nat.le_of_ble_eq_true rfl, ?_⟩
        refine eV.i m0.obj ?_
        refine eC.z (c_M_isLetter m0 np60) ⟨rfl, rfl⟩ ⟨Nat.le_of_ble_eq_true rfl, Nat.le_of_ble_eq_true rfl⟩ ⟨Nat.zero_le _, Nat.zero_le _⟩ (fun v S1 hk => ?_)
        obtain ⟨rfl, rfl⟩ := hk
        rw [pI_t hb]
        refine eB.f (by decide) ?_
        refine eG.i m0.obj rfl ?_
        refine eL.i (i := nI q) m0.a12 hinq ?_
        rw [v12]
        refine eB.f (by rw [k0]; decide) ?_
        refine eG.i m0.obj rfl ?_
        refine eL.i (i := nI q) m0.a12 hinq ?_
        rw [v12]
        refine eB.f (by rw [k0]; decide) ?_
        refine key (mo m).1.1 0 0 _ _ _ (A 7) l (by omega) rfl rfl (by rw [accC_eq, Nat.zero_add]) (by omega) fr.rf ?_
        rw [up_same]
        exact m0
    · refine mCon.of (I := miX8 false (some .int)) (by decide) rfl rfl (fun h => by cases h) (fun _ => rfl) (Nat.le_of_ble_eq_true rfl) ?_
      show Gd _ _ _ _ _ _ _ _ 0 [(0, .ref M), (1, .int a), (2, .int b)] [] (0, 0) _
      refine Gd.of (ckX8 _ _) tX8_take_ok (cuts := lf 76 5) 60 ?_
      refine ⟨Nat.le_of_ble_eq_true rfl, ?_⟩
      refine eC.z (c_M_in) ⟨rfl, rfl⟩ ⟨Nat.le_of_ble_eq_true rfl, Nat.le_of_ble_eq_true rfl⟩ ⟨Nat.zero_le _, Nat.zero_le _⟩ (fun v S1 hk => ?_)
      obtain ⟨rfl, rfl⟩ := hk
      rw [pI_t (in_3.mpr hv)]
      refine eB.f (by decide) ?_
      refine ⟨rfl, Nat.le_of_ble_eq_true rfl, ?_⟩
      refine eV.i m0.obj ?_
      refine eC.z (c_M_isLetter m0 np60) ⟨rfl, rfl⟩ ⟨Nat.le_of_ble_eq_true rfl, Nat.le_of_ble_eq_true rfl⟩ ⟨Nat.zero_le _, Nat.zero_le _⟩ (fun v S1 hk => ?_)
      obtain ⟨rfl, rfl⟩ := hk
      rw [pI_f hb]
      refine eB.t rfl ?_
      exact eR.int (oM.no hall (if_neg (fun z => hb z.2)) rfl)
  · refine mCon.of (I := miX8 false (some .int)) (by decide) rfl rfl (fun h => by cases h) (fun _ => rfl) (Nat.le_of_ble_eq_true rfl) ?_
    show Gd _ _ _ _ _ _ _ _ 0 [(0, .ref M), (1, .int a), (2, .int b)] [] (0, 0) _
    refine Gd.of (ckX8 _ _) tX8_take_ok (cuts := lf 76 5) 60 ?_
    refine ⟨Nat.le_of_ble_eq_true rfl, ?_⟩
    refine eC.z (c_M_in) ⟨rfl, rfl⟩ ⟨Nat.le_of_ble_eq_true rfl, Nat.le_of_ble_eq_true rfl⟩ ⟨Nat.zero_le _, Nat.zero_le _⟩ (fun v S1 hk => ?_)
    obtain ⟨rfl, rfl⟩ := hk
    rw [pI_f (fun z => hv (in_3.mp z))]
    refine eB.t rfl ?_
    exact eR.int (oM.no hall (if_neg (fun z => hv z.1)) rfl)
theorem c_X8_gossip {a b : Int32} (hI : Inv (K, vals, cnt, np, kd, lt, mo, dk)) (h : MS G S M (K, vals, cnt, np, kd, lt, mo, dk)) :
    mCon G yX8_gossip cX8_gossip 5 (some .int) (rmD 14) [.ref M, .int a, .int b] S (oM G S M (oGos (K, vals, cnt, np, kd, lt, mo, dk) a b)) := by
  have hall := h
  obtain ⟨A, l, nn, m0, hR⟩ := h
  have hR' := hR
  obtain ⟨h1, h2, h3, h4, h5⟩ := hR
  have bK := md_blK m0 h1
  by_cases hv : inR a 4
  · by_cases hb : inR b 4
    · by_cases hab : a = b
      · refine mCon.of (I := miX8 false (some .int)) (by decide) rfl rfl (fun h => by cases h) (fun _ => rfl) (Nat.le_of_ble_eq_true rfl) ?_
        show Gd _ _ _ _ _ _ _ _ 0 [(0, .ref M), (1, .int a), (2, .int b)] [] (0, 0) _
        refine Gd.of (ckX8 _ _) tX8_gossip_ok (cuts := lf 30 5) 60 ?_
        refine ⟨Nat.le_of_ble_eq_true rfl, ?_⟩
        refine eC.z (c_M_in) ⟨rfl, rfl⟩ ⟨Nat.le_of_ble_eq_true rfl, Nat.le_of_ble_eq_true rfl⟩ ⟨Nat.zero_le _, Nat.zero_le _⟩ (fun v S1 hk => ?_)
        obtain ⟨rfl, rfl⟩ := hk
        rw [pI_t (in_3.mpr hv)]
        refine eB.f (by decide) ?_
        refine ⟨Nat.le_of_ble_eq_true rfl, ?_⟩
        refine eC.z (c_M_in) ⟨rfl, rfl⟩ ⟨Nat.le_of_ble_eq_true rfl, Nat.le_of_ble_eq_true rfl⟩ ⟨Nat.zero_le _, Nat.zero_le _⟩ (fun v S1 hk => ?_)
        obtain ⟨rfl, rfl⟩ := hk
        rw [pI_t (in_3.mpr hb)]
        refine eB.f (by decide) ?_
        refine eB.t hab ?_
        exact eR.int (oM.no hall (if_neg (fun z => z.2.2 hab)) rfl)
      · obtain ⟨m, hm, hma⟩ : ∃ m, m < 4 ∧ a = nI m := ⟨a.toInt.toNat, by omega, i_of hv.1⟩
        obtain ⟨q, hq, hqb⟩ : ∃ q, q < 4 ∧ b = nI q := ⟨b.toInt.toNat, by omega, i_of hb.1⟩
        subst hma hqb
        have em : (nI m).toInt.toNat = m := by rw [nI_toInt (by omega)]; rfl
        have eq : (nI q).toInt.toNat = q := by rw [nI_toInt (by omega)]; rfl
        have hne : m ≠ q := fun z => hab (by rw [z])
        have hmo := h4 m hm
        have hmq := h4 q hq
        have hoM := hI.2 m hm
        have hoQ := hI.2 q hq
        have hz1 := hmo.1.1
        have hin : vp_in (nI m) 4 := vp_in_nI (by omega) (by omega)
        have hcl : (nI m).toNatClampNeg = m := nI_clamp (by omega)
        have e : oGos (K, vals, cnt, np, kd, lt, mo, dk) (nI m) (nI q) = (nI (gos (mo m).2.1 (mo m).1.1 0 (mo q) 0).1, K, vals, cnt, np, kd, lt, va_up mo q (gos (mo m).2.1 (mo m).1.1 0 (mo q) 0).2, dk) := by
          show (if _ then _ else _) = _
          rw [if_pos ⟨hv, hb, hab⟩, em, eq]
        rw [e]
        have key : ∀ (d i c : Nat) (x x3 : Int32) (S4 : mS) (A4 : AA) (l4 : List Int32) (o : Mo), i + d = (mo m).1.1 → x = nI i → x3 = nI c → gos (mo m).2.1 d i o c = gos (mo m).2.1 (mo m).1.1 0 (mo q) 0 → fr S S4 (xD M) → Md G S4 M A4 l4 np nn dk.length → Am A A4 q → RM1 A4 q o → okM K o →
            Gd G (miX8 false (some .int)) cX8_gossip 5 (rmD 14) 0 0 (oM G S M (nI (gos (mo m).2.1 (mo m).1.1 0 (mo q) 0).1, K, vals, cnt, np, kd, lt, va_up mo q (gos (mo m).2.1 (mo m).1.1 0 (mo q) 0).2, dk)) 30 [(0, .ref M), (1, .int (nI m)), (2, .int (nI q)), (3, .int x3), (4, .int x)] [] (0, 0) S4 := by
          intro d
          induction d with
          | zero =>
            intro i c x x3 S4 A4 l4 o hi hx hx3 he f4 m4 g4 r4 ok4
            subst hx hx3
            have e18 : A4 18 (nI m).toNatClampNeg = nI (mo m).1.1 := by rw [hcl]; exact (hmo.other g4 hne).2.1.1
            refine Gd.of (ckX8 _ _) tX8_gossip_ok (cuts := lf 30 5) 60 ?_
            refine eG.i m4.obj rfl ?_
            refine eL.i (i := nI m) m4.a18 hin ?_
            rw [e18]
            refine eB.t (by rw [nI_leI (by omega) (by omega)]; omega) ?_
            rw [← he]
            exact eR.int ⟨rfl, f4, A4, l4, nn, m4, hR'.mon g4 r4⟩
          | succ d ih =>
            intro i c x x3 S4 A4 l4 o hi hx hx3 he f4 m4 g4 r4 ok4
            subst hx hx3
            have rm := hmo.other g4 hne
            have e18 : A4 18 (nI m).toNatClampNeg = nI (mo m).1.1 := by rw [hcl]; exact rm.2.1.1
            obtain ⟨hl, hs⟩ := hoM.1 i (by omega)
            have hc := c_M_takesHead (hn := o.1.1) (fn := o.1.2.1) (rn := o.1.2.2.1) (nr := o.1.2.2.2.1) (nc := o.1.2.2.2.2) (hF := o.2.1) (pF := o.2.2.1) (fH := o.2.2.2.1) (rF := o.2.2.2.2) (i := 16) (s := 900 * m + 45 * i) (row := (mo m).2.1 i) m4 (h1.cong (g4.1 10 (by decide) (by decide))) bK r4 ok4 hq rfl (by decide) (by decide) (by decide) (by show 900 * m + 45 * i + 45 ≤ 3600; omega) hl (fun x hx => rm.2.2.1 i (by omega) x hx) (fun _ => by omega)
            rw [show tkS K ((o.1.1, o.1.2.1, o.1.2.2.1, o.1.2.2.2.1, o.1.2.2.2.2), o.2.1, o.2.2.1, o.2.2.2.1, o.2.2.2.2) ((mo m).2.1 i) = tkH o ((mo m).2.1 i) from if_pos hs] at hc
            refine Gd.of (ckX8 _ _) tX8_gossip_ok (cuts := lf 30 5) 60 ?_
            refine eG.i m4.obj rfl ?_
            refine eL.i (i := nI m) m4.a18 hin ?_
            rw [e18]
            refine eB.f (by rw [nI_leI (by omega) (by omega)]; omega) ?_
            refine eG.i m4.obj rfl ?_
            refine ⟨Nat.le_of_ble_eq_true rfl, ?_⟩
            refine eC.z (c_M_headAt) ⟨rfl, rfl⟩ ⟨Nat.le_of_ble_eq_true rfl, Nat.le_of_ble_eq_true rfl⟩ ⟨Nat.zero_le _, Nat.zero_le _⟩ (fun v S5 hk => ?_)
            obtain ⟨rfl, rfl⟩ := hk
            refine ⟨rfl, Nat.le_of_ble_eq_true rfl, ?_⟩
            refine eV.i m4.obj ?_
            refine eC.z (hc) ⟨rfl, rfl⟩ ⟨Nat.le_of_ble_eq_true rfl, Nat.le_of_ble_eq_true rfl⟩ ⟨Nat.zero_le _, Nat.zero_le _⟩ (fun v S6 hk => ?_)
            obtain ⟨rfl, f6, A6, l6, m6, g6, r6⟩ := hk
            refine ⟨rfl, Nat.le_of_ble_eq_true rfl, ?_⟩
            refine eV.i m6.obj ?_
            refine eC.z (c_M_answered m6 r6 hq) ⟨rfl, rfl⟩ ⟨Nat.le_of_ble_eq_true rfl, Nat.le_of_ble_eq_true rfl⟩ ⟨Nat.zero_le _, Nat.zero_le _⟩ (fun v S7 hk => ?_)
            obtain ⟨rfl, f7, A7, m7, g7, r7⟩ := hk
            refine eB.i (fun z => ?_) (fun z => ?_)
            · exact ih (i + 1) (c + 1) _ _ S7 A7 l6 _ (by omega) (nI_1 i) (nI_1 c) (by rw [← he, gos, if_pos z]) (f4.tr (f6.tr f7)) m7 (g4.tr (g6.tr g7)) r7 (okM_nt (okM_tkH ok4 hl hs))
            · exact ih (i + 1) c _ _ S7 A7 l6 _ (by omega) (nI_1 i) (Int32.add_zero _) (by rw [← he, gos, if_neg z]) (f4.tr (f6.tr f7)) m7 (g4.tr (g6.tr g7)) r7 (okM_nt (okM_tkH ok4 hl hs))
        refine mCon.of (I := miX8 false (some .int)) (by decide) rfl rfl (fun h => by cases h) (fun _ => rfl) (Nat.le_of_ble_eq_true rfl) ?_
        show Gd _ _ _ _ _ _ _ _ 0 [(0, .ref M), (1, .int (nI m)), (2, .int (nI q))] [] (0, 0) _
        refine Gd.of (ckX8 _ _) tX8_gossip_ok (cuts := lf 30 5) 60 ?_
        refine ⟨Nat.le_of_ble_eq_true rfl, ?_⟩
        refine eC.z (c_M_in) ⟨rfl, rfl⟩ ⟨Nat.le_of_ble_eq_true rfl, Nat.le_of_ble_eq_true rfl⟩ ⟨Nat.zero_le _, Nat.zero_le _⟩ (fun v S1 hk => ?_)
        obtain ⟨rfl, rfl⟩ := hk
        rw [pI_t (in_3.mpr hv)]
        refine eB.f (by decide) ?_
        refine ⟨Nat.le_of_ble_eq_true rfl, ?_⟩
        refine eC.z (c_M_in) ⟨rfl, rfl⟩ ⟨Nat.le_of_ble_eq_true rfl, Nat.le_of_ble_eq_true rfl⟩ ⟨Nat.zero_le _, Nat.zero_le _⟩ (fun v S1 hk => ?_)
        obtain ⟨rfl, rfl⟩ := hk
        rw [pI_t (in_3.mpr hb)]
        refine eB.f (by decide) ?_
        refine eB.f hab ?_
        exact key (mo m).1.1 0 0 _ _ _ A l (mo q) (by omega) rfl rfl rfl fr.rf m0 Am.rf hmq hoQ
    · refine mCon.of (I := miX8 false (some .int)) (by decide) rfl rfl (fun h => by cases h) (fun _ => rfl) (Nat.le_of_ble_eq_true rfl) ?_
      show Gd _ _ _ _ _ _ _ _ 0 [(0, .ref M), (1, .int a), (2, .int b)] [] (0, 0) _
      refine Gd.of (ckX8 _ _) tX8_gossip_ok (cuts := lf 30 5) 60 ?_
      refine ⟨Nat.le_of_ble_eq_true rfl, ?_⟩
      refine eC.z (c_M_in) ⟨rfl, rfl⟩ ⟨Nat.le_of_ble_eq_true rfl, Nat.le_of_ble_eq_true rfl⟩ ⟨Nat.zero_le _, Nat.zero_le _⟩ (fun v S1 hk => ?_)
      obtain ⟨rfl, rfl⟩ := hk
      rw [pI_t (in_3.mpr hv)]
      refine eB.f (by decide) ?_
      refine ⟨Nat.le_of_ble_eq_true rfl, ?_⟩
      refine eC.z (c_M_in) ⟨rfl, rfl⟩ ⟨Nat.le_of_ble_eq_true rfl, Nat.le_of_ble_eq_true rfl⟩ ⟨Nat.zero_le _, Nat.zero_le _⟩ (fun v S1 hk => ?_)
      obtain ⟨rfl, rfl⟩ := hk
      rw [pI_f (fun z => hb (in_3.mp z))]
      refine eB.t rfl ?_
      exact eR.int (oM.no hall (if_neg (fun z => hb z.2.1)) rfl)
  · refine mCon.of (I := miX8 false (some .int)) (by decide) rfl rfl (fun h => by cases h) (fun _ => rfl) (Nat.le_of_ble_eq_true rfl) ?_
    show Gd _ _ _ _ _ _ _ _ 0 [(0, .ref M), (1, .int a), (2, .int b)] [] (0, 0) _
    refine Gd.of (ckX8 _ _) tX8_gossip_ok (cuts := lf 30 5) 60 ?_
    refine ⟨Nat.le_of_ble_eq_true rfl, ?_⟩
    refine eC.z (c_M_in) ⟨rfl, rfl⟩ ⟨Nat.le_of_ble_eq_true rfl, Nat.le_of_ble_eq_true rfl⟩ ⟨Nat.zero_le _, Nat.zero_le _⟩ (fun v S1 hk => ?_)
    obtain ⟨rfl, rfl⟩ := hk
    rw [pI_f (fun z => hv (in_3.mp z))]
    refine eB.t rfl ?_
    exact eR.int (oM.no hall (if_neg (fun z => hv z.1)) rfl)
end TAK
