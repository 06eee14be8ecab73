section GWP
variable {G : mG} {S S' S0 : mS} {X : Nat → Prop} {B m : Nat} {K : List Int32} {vals : Nat → Nat → Int32} {cnt : Nat → Nat} {np : Nat} {kd : Nat → Int32} {lt : Nat → List Int32} {mo : Nat → Mo} {dk row : List Int32} {k : Int32} {l : List Int32} {o : Mo}
theorem rNum_n {l : List Int32} {j : Nat} (h : j + 4 ≤ l.length) (hj : j < 100) : rNum l (nI j) = num4 l j := by
  have e := nI_toInt (n := j) (by omega)
  rw [rNum, if_pos (by omega), e]
  rfl
theorem c_X7_take {a b : Int32} (hG : GOK G) (hI : Inv (K, vals, cnt, np, kd, lt, mo, dk)) (h : CS G S B (K, vals, cnt, np, kd, lt, mo, dk)) :
    mCon G yX7_take cX7_take 7 (some .int) (rmD 6) [.ref B, .int a, .int b] S (oK G S B (oTk (K, vals, cnt, np, kd, lt, mo, dk) a b)) := by
  have hall := h
  obtain ⟨h1, ⟨⟨lm, ld, hs⟩, ⟨co, cw, hc⟩, st, hst⟩, h3, h4, h5, h6, h7, h8, h9, h10, h11⟩ := h
  refine mCon.of (I := miX7 false (some .int)) (by decide) rfl rfl (fun h => by cases h) (fun _ => rfl) (Nat.le_of_ble_eq_true rfl) ?_
  show Gd _ _ _ _ _ _ _ _ 0 [(0, .ref B), (1, .int a), (2, .int b)] [] (0, 0) _
  refine Gd.of (ckX7 _ _) tX7_take_ok (cuts := fun _ => none) 100 ?_
  have hno : ∀ (x : Option Value), x = some (.int (-2)) → ¬ (inR a 4 ∧ inR b np) → oK G S B (oTk (K, vals, cnt, np, kd, lt, mo, dk) a b) x S := by
    intro x hx hc
    refine oK.no hall ?_ hx
    exact if_neg hc
  by_cases hv : inR a 4
  · obtain ⟨R, r0, hm⟩ := h10 a.toInt.toNat (by omega)
    refine ⟨rfl, Nat.le_of_ble_eq_true rfl, ?_⟩
    refine eV.i h1 ?_
    refine eC.z (c_monitorOf hall hv) ⟨rfl, rfl⟩ ⟨Nat.le_of_ble_eq_true rfl, Nat.le_of_ble_eq_true rfl⟩ ⟨Nat.zero_le _, Nat.zero_le _⟩ (fun v S1 hk => ?_)
    obtain ⟨rfl, rfl⟩ := hk
    by_cases hb : inR b np
    · refine ⟨rfl, Nat.le_of_ble_eq_true rfl, ?_⟩
      refine eV.i h1 ?_
      refine eC.z (c_letterOf hall hb) ⟨rfl, rfl⟩ ⟨Nat.le_of_ble_eq_true rfl, Nat.le_of_ble_eq_true rfl⟩ ⟨Nat.zero_le _, Nat.zero_le _⟩ (fun v S1 hk => ?_)
      obtain ⟨rfl, rfl⟩ := hk
      have hl := h7 b.toInt.toNat (by omega)
      have ho := hI.1 b.toInt.toNat (by omega)
      have ha4 : a.toInt.toNat < 4 := by omega
      have hbn : b.toInt.toNat < 60 := by omega
      have eT : oTk (K, vals, cnt, np, kd, lt, mo, dk) a b = (if kd b.toInt.toNat = 0 then ((tkS K (mo a.toInt.toNat) (lt b.toInt.toNat)).1, K, vals, cnt, np, kd, lt, va_up mo a.toInt.toNat (ntM (tkS K (mo a.toInt.toNat) (lt b.toInt.toNat)).2 (tkS K (mo a.toInt.toNat) (lt b.toInt.toNat)).1), dk)
        else if kd b.toInt.toNat = 1 then ((tkP (mo a.toInt.toNat) (lt b.toInt.toNat) (accR (mo a.toInt.toNat) (lt b.toInt.toNat))).1, K, vals, cnt, np, kd, lt, va_up mo a.toInt.toNat (ntM (tkP (mo a.toInt.toNat) (lt b.toInt.toNat) (accR (mo a.toInt.toNat) (lt b.toInt.toNat))).2 (tkP (mo a.toInt.toNat) (lt b.toInt.toNat) (accR (mo a.toInt.toNat) (lt b.toInt.toNat))).1), dk)
        else (nI (accC (mo a.toInt.toNat) (lt b.toInt.toNat)), K, vals, cnt, np, kd, lt, mo, dk)) := if_pos ⟨hv, hb⟩
      rw [eT]
      generalize hp : b.toInt.toNat = p at *
      generalize hj : a.toInt.toNat = j at *
      refine eG.i hl.1 rfl ?_
      refine eG.i hl.1 rfl ?_
      refine eB.i (fun q => ?_) (fun q => ?_)
      · have hlen : (lt p).length = 45 := by
          rcases ho with ⟨-, e⟩ | ⟨e, -⟩ | ⟨e, -⟩
          · exact e
          · rw [e] at q; exact absurd q (by decide)
          · rw [e] at q; exact absurd q (by decide)
        rw [if_pos q]
        refine eG.i h1 rfl ?_
        refine eG.i h1 rfl ?_
        refine ⟨rfl, Nat.le_of_ble_eq_true rfl, ?_⟩
        refine eV.i h3.1 ?_
        refine eC.z (c_Keys_haveSigned (ls := 0) (ss := 1) hG hs h3 hl.2 (by omega) (by omega) (by omega) (by omega)) ⟨rfl, rfl⟩ ⟨Nat.le_of_ble_eq_true rfl, Nat.le_of_ble_eq_true rfl⟩ ⟨Nat.zero_le _, Nat.zero_le _⟩ (fun v S1 hk => ?_)
        obtain ⟨rfl, f1, lm1, ld1, s1⟩ := hk
        have m1 := hm.keep f1 (fun q a b => by omega)
        have l1 := hl.keep f1 (fun q a b => by omega)
        have c1 := hc.keep f1 (fun q a b => by omega)
        have t1 := hst.fr f1 (by omega) (by omega)
        by_cases sg : signed K (lt p) 0 1
        · have eS : tkS K (mo j) (lt p) = tkH (mo j) (lt p) := if_pos sg
          rw [pI_t sg, eS]
          refine eB.f (by decide) ?_
          refine ⟨rfl, Nat.le_of_ble_eq_true rfl, ?_⟩
          refine eV.i m1.1 ?_
          refine eC.z (c_Mon_takeHead m1 l1.2 (by omega) (by omega)) ⟨rfl, rfl⟩ ⟨Nat.le_of_ble_eq_true rfl, Nat.le_of_ble_eq_true rfl⟩ ⟨Nat.zero_le _, Nat.zero_le _⟩ (fun v S2 hk => ?_)
          obtain ⟨rfl, f2, R2, r2, m2⟩ := takeHK.to r0 hk
          refine ⟨rfl, Nat.le_of_ble_eq_true rfl, ?_⟩
          refine eV.i m2.1 ?_
          refine eC.z (c_Mon_noted m2) ⟨rfl, rfl⟩ ⟨Nat.le_of_ble_eq_true rfl, Nat.le_of_ble_eq_true rfl⟩ ⟨Nat.zero_le _, Nat.zero_le _⟩ (fun v S3 hk => ?_)
          obtain ⟨rfl, f3, m3⟩ := hk
          have m3' := ntM.to r2 m3
          have f23 : fr S1 S3 (xM (B + 335 + 89 * j)) := f2.tr (f3.mono (fun q z => by omega))
          have f13 : fr _ S3 (fun q => xT B q ∨ xM (B + 335 + 89 * j) q) := (f1.mono (fun q z => by omega)).tr (f23.mono (fun q z => Or.inr z))
          refine eR.int ⟨rfl, f13.mono (fun q z => by omega), hall.mon ha4 f13 ⟨⟨_, _, s1.keep f23 (fun q a b => by omega)⟩, ⟨_, _, c1.keep f23 (fun q a b => by omega)⟩, _, t1.fr f23 (by omega) (by omega)⟩ m3'⟩
        · have eS : tkS K (mo j) (lt p) = (-1, mo j) := if_neg sg
          rw [pI_f sg, eS]
          refine eB.t rfl ?_
          refine ⟨rfl, Nat.le_of_ble_eq_true rfl, ?_⟩
          refine eV.i m1.1 ?_
          refine eC.z (c_Mon_noted m1) ⟨rfl, rfl⟩ ⟨Nat.le_of_ble_eq_true rfl, Nat.le_of_ble_eq_true rfl⟩ ⟨Nat.zero_le _, Nat.zero_le _⟩ (fun v S3 hk => ?_)
          obtain ⟨rfl, f3, m3⟩ := hk
          have m3' := ntM.to r0 m3
          have f23 : fr S1 S3 (xM (B + 335 + 89 * j)) := f3.mono (fun q z => by omega)
          have f13 : fr _ S3 (fun q => xT B q ∨ xM (B + 335 + 89 * j) q) := (f1.mono (fun q z => by omega)).tr (f23.mono (fun q z => Or.inr z))
          refine eR.int ⟨rfl, f13.mono (fun q z => by omega), hall.mon ha4 f13 ⟨⟨_, _, s1.keep f23 (fun q a b => by omega)⟩, ⟨_, _, c1.keep f23 (fun q a b => by omega)⟩, _, t1.fr f23 (by omega) (by omega)⟩ m3'⟩
      · rw [if_neg q]
        refine eG.i hl.1 rfl ?_
        refine eB.i (fun q1 => ?_) (fun q1 => ?_)
        · rw [if_pos q1]
          have hlen : (lt p).length = 9 + 32 + 32 * hcN 1 (lt p) ∧ hcN 1 (lt p) ≤ 8 := by
            have e := hashN_ok ho
            rw [q1] at e
            rcases e with ⟨e, -⟩ | ⟨-, -, e, e2⟩
            · exact absurd e (by decide)
            · exact ⟨e, e2⟩
          refine eG.i h1 rfl ?_
          refine eG.i h1 rfl ?_
          refine ⟨rfl, Nat.le_of_ble_eq_true rfl, ?_⟩
          refine eV.i hl.2.obj ?_
          refine eC.z (c_Row_number (k := 1) hl.2) ⟨rfl, rfl⟩ ⟨Nat.le_of_ble_eq_true rfl, Nat.le_of_ble_eq_true rfl⟩ ⟨Nat.zero_le _, Nat.zero_le _⟩ (fun v S1 hk => ?_)
          obtain ⟨rfl, rfl⟩ := hk
          refine ⟨rfl, Nat.le_of_ble_eq_true rfl, ?_⟩
          refine eV.i hl.2.obj ?_
          refine eC.z (c_Row_number (k := 5) hl.2) ⟨rfl, rfl⟩ ⟨Nat.le_of_ble_eq_true rfl, Nat.le_of_ble_eq_true rfl⟩ ⟨Nat.zero_le _, Nat.zero_le _⟩ (fun v S1 hk => ?_)
          obtain ⟨rfl, rfl⟩ := hk
          have e1 : rNum (lt p) 1 = num4 (lt p) 1 := rNum_n (j := 1) (by omega) (by omega)
          have e5 : rNum (lt p) 5 = num4 (lt p) 5 := rNum_n (j := 5) (by omega) (by omega)
          rw [e1, e5]
          refine ⟨rfl, Nat.le_of_ble_eq_true rfl, ?_⟩
          refine eV.i hc.1 ?_
          refine eC.z (c_Climb_ofProof (rS := 9) (h := hcN 1 (lt p)) hG hs hc hl.2 (by omega) (by omega) (by omega) hlen.1) ⟨rfl, rfl⟩ ⟨Nat.le_of_ble_eq_true rfl, Nat.le_of_ble_eq_true rfl⟩ ⟨Nat.zero_le _, Nat.zero_le _⟩ (fun v S1 hk => ?_)
          obtain ⟨rfl, f1, ⟨lm1, ld1, s1⟩, co1, cw1, c1, hy⟩ := hk
          have m1 := hm.keep f1 (fun q a b => by omega)
          have l1 := hl.keep f1 (fun q a b => by omega)
          have t1 := hst.fr f1 (by omega) (by omega)
          cases hx : prf (lt p) 9 (hcN 1 (lt p)) (num4 (lt p) 1) (num4 (lt p) 5) with
          | none =>
            have eA : accR (mo j) (lt p) = none := by rw [accR, hx]; rfl
            rw [eA]
            refine ⟨rfl, Nat.le_of_ble_eq_true rfl, ?_⟩
            refine eV.i m1.1 ?_
            refine eC.z (c_Mon_takeNull (r := B + 154 + 3 * p + 1) m1) ⟨rfl, rfl⟩ ⟨Nat.le_of_ble_eq_true rfl, Nat.le_of_ble_eq_true rfl⟩ ⟨Nat.zero_le _, Nat.zero_le _⟩ (fun v S2 hk => ?_)
            obtain ⟨rfl, rfl⟩ := hk
            refine ⟨rfl, Nat.le_of_ble_eq_true rfl, ?_⟩
            refine eV.i m1.1 ?_
            refine eC.z (c_Mon_noted m1) ⟨rfl, rfl⟩ ⟨Nat.le_of_ble_eq_true rfl, Nat.le_of_ble_eq_true rfl⟩ ⟨Nat.zero_le _, Nat.zero_le _⟩ (fun v S3 hk => ?_)
            obtain ⟨rfl, f3, m3⟩ := hk
            have m3' := ntM.to r0 m3
            have f23 : fr S2 S3 (xM (B + 335 + 89 * j)) := f3.mono (fun q z => by omega)
            have f13 : fr _ S3 (fun q => xT B q ∨ xM (B + 335 + 89 * j) q) := (f1.mono (fun q z => by omega)).tr (f23.mono (fun q z => Or.inr z))
            exact eR.int ⟨rfl, f13.mono (fun q z => by omega), hall.mon ha4 f13 ⟨⟨_, _, s1.keep f23 (fun q a b => by omega)⟩, ⟨_, _, c1.keep f23 (fun q a b => by omega)⟩, _, t1.fr f23 (by omega) (by omega)⟩ m3'⟩
          | some root =>
            have hw := hy root hx
            subst hw
            have eA : accR (mo j) (lt p) = fstN (fun i => accP ((mo j).2.1 i) (lt p) cw1) (mo j).1.1 0 := by rw [accR, hx]; rfl
            rw [eA]
            refine ⟨rfl, Nat.le_of_ble_eq_true rfl, ?_⟩
            refine eV.i m1.1 ?_
            refine eC.z (c_Mon_takeProof m1 l1.2 c1.2.2 (by omega) (by omega)) ⟨rfl, rfl⟩ ⟨Nat.le_of_ble_eq_true rfl, Nat.le_of_ble_eq_true rfl⟩ ⟨Nat.zero_le _, Nat.zero_le _⟩ (fun v S2 hk => ?_)
            obtain ⟨rfl, f2, R2, r2, m2⟩ := takePK.to r0 hk
            refine ⟨rfl, Nat.le_of_ble_eq_true rfl, ?_⟩
            refine eV.i m2.1 ?_
            refine eC.z (c_Mon_noted m2) ⟨rfl, rfl⟩ ⟨Nat.le_of_ble_eq_true rfl, Nat.le_of_ble_eq_true rfl⟩ ⟨Nat.zero_le _, Nat.zero_le _⟩ (fun v S3 hk => ?_)
            obtain ⟨rfl, f3, m3⟩ := hk
            have m3' := ntM.to r2 m3
            have f23 : fr S1 S3 (xM (B + 335 + 89 * j)) := f2.tr (f3.mono (fun q z => by omega))
            have f13 : fr _ S3 (fun q => xT B q ∨ xM (B + 335 + 89 * j) q) := (f1.mono (fun q z => by omega)).tr (f23.mono (fun q z => Or.inr z))
            exact eR.int ⟨rfl, f13.mono (fun q z => by omega), hall.mon ha4 f13 ⟨⟨_, _, s1.keep f23 (fun q a b => by omega)⟩, ⟨_, _, c1.keep f23 (fun q a b => by omega)⟩, _, t1.fr f23 (by omega) (by omega)⟩ m3'⟩
        · rw [if_neg q1]
          have hk2 : kd p = 2 := by
            rcases ho with ⟨e, -⟩ | ⟨e, -⟩ | ⟨e, -⟩
            · exact absurd e q
            · exact absurd e q1
            · exact e
          have hlen : (lt p).length = 13 + 32 * hcN 2 (lt p) ∧ hcN 2 (lt p) ≤ 8 := by
            have e := hashN_ok ho
            rw [hk2] at e
            rcases e with ⟨e, -⟩ | ⟨-, -, e, e2⟩
            · exact absurd e (by decide)
            · exact ⟨e, e2⟩
          refine eG.i h1 rfl ?_
          refine eG.i h1 rfl ?_
          refine ⟨rfl, Nat.le_of_ble_eq_true rfl, ?_⟩
          refine eV.i hc.1 ?_
          refine eC.z (c_Climb_ofPath (h := hcN 2 (lt p)) hG hs hc hl.2 (by omega) (by omega) (by omega) hlen.1) ⟨rfl, rfl⟩ ⟨Nat.le_of_ble_eq_true rfl, Nat.le_of_ble_eq_true rfl⟩ ⟨Nat.zero_le _, Nat.zero_le _⟩ (fun v S1 hk => ?_)
          obtain ⟨rfl, f1, ⟨lm1, ld1, s1⟩, co1, cw1, c1, hy⟩ := hk
          have m1 := hm.keep f1 (fun q a b => by omega)
          have l1 := hl.keep f1 (fun q a b => by omega)
          have t1 := hst.fr f1 (by omega) (by omega)
          have z := hall.scr (f1.mono (fun q z => by omega)) ⟨⟨_, _, s1⟩, ⟨_, _, c1⟩, _, t1⟩
          cases hx : pth (lt p) (hcN 2 (lt p)) (num4 (lt p) 5) (num4 (lt p) 1) with
          | none =>
            have eA : accC (mo j) (lt p) = 0 := by rw [accC, hx]
            rw [eA]
            refine ⟨rfl, Nat.le_of_ble_eq_true rfl, ?_⟩
            refine eV.i m1.1 ?_
            refine eC.z (c_Mon_countNull (r := B + 154 + 3 * p + 1) m1) ⟨rfl, rfl⟩ ⟨Nat.le_of_ble_eq_true rfl, Nat.le_of_ble_eq_true rfl⟩ ⟨Nat.zero_le _, Nat.zero_le _⟩ (fun v S2 hk => ?_)
            obtain ⟨rfl, rfl⟩ := hk
            exact eR.int ⟨rfl, f1.mono (fun q z => by omega), z⟩
          | some root =>
            have hw := hy root hx
            subst hw
            have eA : accC (mo j) (lt p) = cntN (fun i => accW ((mo j).2.1 i) (lt p) cw1) (mo j).1.1 0 := by rw [accC, hx]
            rw [eA]
            refine ⟨rfl, Nat.le_of_ble_eq_true rfl, ?_⟩
            refine eV.i m1.1 ?_
            refine eC.z (c_Mon_countAccepting m1 l1.2 c1.2.2) ⟨rfl, rfl⟩ ⟨Nat.le_of_ble_eq_true rfl, Nat.le_of_ble_eq_true rfl⟩ ⟨Nat.zero_le _, Nat.zero_le _⟩ (fun v S2 hk => ?_)
            obtain ⟨rfl, rfl⟩ := hk
            exact eR.int ⟨rfl, f1.mono (fun q z => by omega), z⟩
    · refine ⟨rfl, Nat.le_of_ble_eq_true rfl, ?_⟩
      refine eV.i h1 ?_
      refine eC.z (c_letterOf_no hall hb) ⟨rfl, rfl⟩ ⟨Nat.le_of_ble_eq_true rfl, Nat.le_of_ble_eq_true rfl⟩ ⟨Nat.zero_le _, Nat.zero_le _⟩ (fun v S1 hk => ?_)
      obtain ⟨rfl, rfl⟩ := hk
      exact eR.int (hno _ rfl (fun z => hb z.2))
  · refine ⟨rfl, Nat.le_of_ble_eq_true rfl, ?_⟩
    refine eV.i h1 ?_
    refine eC.z (c_monitorOf_no hv) ⟨rfl, rfl⟩ ⟨Nat.le_of_ble_eq_true rfl, Nat.le_of_ble_eq_true rfl⟩ ⟨Nat.zero_le _, Nat.zero_le _⟩ (fun v S1 hk => ?_)
    obtain ⟨rfl, rfl⟩ := hk
    by_cases hb : inR b np
    · refine ⟨rfl, Nat.le_of_ble_eq_true rfl, ?_⟩
      refine eV.i h1 ?_
      refine eC.z (c_letterOf hall hb) ⟨rfl, rfl⟩ ⟨Nat.le_of_ble_eq_true rfl, Nat.le_of_ble_eq_true rfl⟩ ⟨Nat.zero_le _, Nat.zero_le _⟩ (fun v S1 hk => ?_)
      obtain ⟨rfl, rfl⟩ := hk
      exact eR.int (hno _ rfl (fun z => hv z.1))
    · refine ⟨rfl, Nat.le_of_ble_eq_true rfl, ?_⟩
      refine eV.i h1 ?_
      refine eC.z (c_letterOf_no hall hb) ⟨rfl, rfl⟩ ⟨Nat.le_of_ble_eq_true rfl, Nat.le_of_ble_eq_true rfl⟩ ⟨Nat.zero_le _, Nat.zero_le _⟩ (fun v S1 hk => ?_)
      obtain ⟨rfl, rfl⟩ := hk
      exact eR.int (hno _ rfl (fun z => hv z.1))
theorem c_X7_gossip {a b : Int32} (h : CS G S B (K, vals, cnt, np, kd, lt, mo, dk)) :
    mCon G yX7_gossip cX7_gossip 7 (some .int) (rmD 6) [.ref B, .int a, .int b] S (oK G S B (oGos (K, vals, cnt, np, kd, lt, mo, dk) a b)) := by
  have hall := h
  obtain ⟨h1, h2, h3, h4, h5, h6, h7, h8, h9, h10, h11⟩ := h
  refine mCon.of (I := miX7 false (some .int)) (by decide) rfl rfl (fun h => by cases h) (fun _ => rfl) (Nat.le_of_ble_eq_true rfl) ?_
  show Gd _ _ _ _ _ _ _ _ 0 [(0, .ref B), (1, .int a), (2, .int b)] [] (0, 0) _
  have hno : ∀ (x : Option Value), x = some (.int (-1)) → ¬ (inR a 4 ∧ inR b 4 ∧ ¬ a = b) → oK G S B (oGos (K, vals, cnt, np, kd, lt, mo, dk) a b) x S := by
    intro x hx hc
    exact oK.no hall (if_neg hc) hx
  by_cases hv : inR a 4
  · by_cases hb : inR b 4
    · by_cases hab : a = b
      · refine Gd.of (ckX7 _ _) tX7_gossip_ok (cuts := lf 35 7) 100 ?_
        refine ⟨rfl, Nat.le_of_ble_eq_true rfl, ?_⟩
        refine eV.i h1 ?_
        refine eC.z (c_monitorOf hall hv) ⟨rfl, rfl⟩ ⟨Nat.le_of_ble_eq_true rfl, Nat.le_of_ble_eq_true rfl⟩ ⟨Nat.zero_le _, Nat.zero_le _⟩ (fun v S1 hk => ?_)
        obtain ⟨rfl, rfl⟩ := hk
        refine ⟨rfl, Nat.le_of_ble_eq_true rfl, ?_⟩
        refine eV.i h1 ?_
        refine eC.z (c_monitorOf hall hb) ⟨rfl, rfl⟩ ⟨Nat.le_of_ble_eq_true rfl, Nat.le_of_ble_eq_true rfl⟩ ⟨Nat.zero_le _, Nat.zero_le _⟩ (fun v S1 hk => ?_)
        obtain ⟨rfl, rfl⟩ := hk
        refine eB.t hab ?_
        exact eR.int (hno _ rfl (fun z => z.2.2 hab))
      · have eT : oGos (K, vals, cnt, np, kd, lt, mo, dk) a b = (nI (gos (mo a.toInt.toNat).2.1 (mo a.toInt.toNat).1.1 0 (mo b.toInt.toNat) 0).1, K, vals, cnt, np, kd, lt, va_up mo b.toInt.toNat (gos (mo a.toInt.toNat).2.1 (mo a.toInt.toNat).1.1 0 (mo b.toInt.toNat) 0).2, dk) := if_pos ⟨hv, hb, hab⟩
        have hne : a.toInt.toNat ≠ b.toInt.toNat := by
          intro z
          apply hab
          rw [i_of hv.1, i_of hb.1, z]
        have ha4 : a.toInt.toNat < 4 := by omega
        have hb4 : b.toInt.toNat < 4 := by omega
        obtain ⟨R, r0, hm⟩ := h10 a.toInt.toNat ha4
        have hbm := h10 b.toInt.toNat hb4
        rw [eT]
        have cma := c_monitorOf hall hv
        have cmb := c_monitorOf hall hb
        generalize hj : a.toInt.toNat = i0 at *
        generalize hp : b.toInt.toNat = j0 at *
        have h20 := hm.2.2.2.2.2.2.2.2.1
        obtain ⟨u, u1, u2⟩ := hm.2.1
        have key : ∀ (d i c : Nat) (o : Mo) (S1 : mS), i + d = (mo i0).1.1 → c ≤ i → gos (mo i0).2.1 d i o c = gos (mo i0).2.1 (mo i0).1.1 0 (mo j0) 0 → fr S S1 (xM (B + 335 + 89 * j0)) → MnS G S1 (B + 335 + 89 * j0) o → Gd G (miX7 false (some .int)) cX7_gossip 7 (rmD 6) 0 0 (oK G S B (nI (gos (mo i0).2.1 (mo i0).1.1 0 (mo j0) 0).1, K, vals, cnt, np, kd, lt, va_up mo j0 (gos (mo i0).2.1 (mo i0).1.1 0 (mo j0) 0).2, dk)) 35 [(0, .ref B), (1, .int a), (2, .int b), (3, .ref (B + 335 + 89 * i0)), (4, .ref (B + 335 + 89 * j0)), (5, .int (nI c)), (6, .int (nI i))] [] (0, 0) S1 := by
          intro d
          induction d with
          | zero =>
            intro i c o S1 hi hc he f1 m1
            have hm1 := hm.keep f1 (fun q a b => by omega)
            refine Gd.of (ckX7 _ _) tX7_gossip_ok (cuts := lf 35 7) 100 ?_
            refine eG.i hm1.1 rfl ?_
            refine eB.t (by rw [nI_leI (by omega) (by omega)]; omega) ?_
            rw [← he]
            have f13 : fr S S1 (fun q => xT B q ∨ xM (B + 335 + 89 * j0) q) := f1.mono (fun q z => Or.inr z)
            exact eR.int ⟨rfl, f1.mono (fun q z => by omega), hall.mon hb4 f13 (h2.keep f1 (fun q z => by omega)) m1⟩
          | succ d ih =>
            intro i c o S1 hi hc he f1 m1
            have hm1 := hm.keep f1 (fun q a b => by omega)
            have hin : vp_in (nI i) 20 := vp_in_nI (by omega) (by omega)
            have hu : u (nI i).toNatClampNeg = some (B + 335 + 89 * i0 + 25 + 2 * i) := by rw [nI_clamp (by omega)]; exact u2 i (by omega)
            have hr := hm1.2.2.2.2.2.2.1 i (by omega)
            have e1 : nI i + 1 = nI (i + 1) := nI_1 i
            have e2 : nI c + 1 = nI (c + 1) := nI_1 c
            obtain ⟨R1, q1, m1'⟩ := m1
            refine Gd.of (ckX7 _ _) tX7_gossip_ok (cuts := lf 35 7) 100 ?_
            refine eG.i hm1.1 rfl ?_
            refine eB.f (by rw [nI_leI (by omega) (by omega)]; omega) ?_
            refine eG.i hm1.1 rfl ?_
            refine eLq.r (i := nI i) (u1.fr f1 (by omega)) (by decide) hin hu ?_
            refine ⟨rfl, Nat.le_of_ble_eq_true rfl, ?_⟩
            refine eV.i m1'.1 ?_
            refine eC.z (c_Mon_takeHead m1' hr (by omega) hr.le.1) ⟨rfl, rfl⟩ ⟨Nat.le_of_ble_eq_true rfl, Nat.le_of_ble_eq_true rfl⟩ ⟨Nat.zero_le _, Nat.zero_le _⟩ (fun v S2 hk => ?_)
            obtain ⟨rfl, f2, R2, q2, m2⟩ := takeHK.to q1 hk
            refine ⟨rfl, Nat.le_of_ble_eq_true rfl, ?_⟩
            refine eV.i m2.1 ?_
            refine eC.z (c_Mon_noted m2) ⟨rfl, rfl⟩ ⟨Nat.le_of_ble_eq_true rfl, Nat.le_of_ble_eq_true rfl⟩ ⟨Nat.zero_le _, Nat.zero_le _⟩ (fun v S3 hk => ?_)
            obtain ⟨rfl, f3, m3⟩ := hk
            have m3' := ntM.to q2 m3
            have f13 : fr S S3 (xM (B + 335 + 89 * j0)) := f1.tr (f2.tr (f3.mono (fun q z => by omega)))
            refine eB.i (fun z => ?_) (fun z => ?_)
            · have h9 := ih (i + 1) (c + 1) _ S3 (by omega) (by omega) (by rw [← he, gos, if_pos z]) f13 m3'
              rw [← e1, ← e2] at h9
              exact h9
            · have h9 := ih (i + 1) c _ S3 (by omega) (by omega) (by rw [← he, gos, if_neg z]) f13 m3'
              rw [← e1] at h9
              exact h9
        refine Gd.of (ckX7 _ _) tX7_gossip_ok (cuts := lf 35 7) 100 ?_
        refine ⟨rfl, Nat.le_of_ble_eq_true rfl, ?_⟩
        refine eV.i h1 ?_
        refine eC.z (cma) ⟨rfl, rfl⟩ ⟨Nat.le_of_ble_eq_true rfl, Nat.le_of_ble_eq_true rfl⟩ ⟨Nat.zero_le _, Nat.zero_le _⟩ (fun v S1 hk => ?_)
        obtain ⟨rfl, rfl⟩ := hk
        refine ⟨rfl, Nat.le_of_ble_eq_true rfl, ?_⟩
        refine eV.i h1 ?_
        refine eC.z (cmb) ⟨rfl, rfl⟩ ⟨Nat.le_of_ble_eq_true rfl, Nat.le_of_ble_eq_true rfl⟩ ⟨Nat.zero_le _, Nat.zero_le _⟩ (fun v S1 hk => ?_)
        obtain ⟨rfl, rfl⟩ := hk
        refine eB.f hab ?_
        exact key (mo i0).1.1 0 0 (mo j0) S1 (by omega) (by omega) rfl fr.rf hbm
    · refine Gd.of (ckX7 _ _) tX7_gossip_ok (cuts := lf 35 7) 100 ?_
      refine ⟨rfl, Nat.le_of_ble_eq_true rfl, ?_⟩
      refine eV.i h1 ?_
      refine eC.z (c_monitorOf hall hv) ⟨rfl, rfl⟩ ⟨Nat.le_of_ble_eq_true rfl, Nat.le_of_ble_eq_true rfl⟩ ⟨Nat.zero_le _, Nat.zero_le _⟩ (fun v S1 hk => ?_)
      obtain ⟨rfl, rfl⟩ := hk
      refine ⟨rfl, Nat.le_of_ble_eq_true rfl, ?_⟩
      refine eV.i h1 ?_
      refine eC.z (c_monitorOf_no hb) ⟨rfl, rfl⟩ ⟨Nat.le_of_ble_eq_true rfl, Nat.le_of_ble_eq_true rfl⟩ ⟨Nat.zero_le _, Nat.zero_le _⟩ (fun v S1 hk => ?_)
      obtain ⟨rfl, rfl⟩ := hk
      exact eR.int (hno _ rfl (fun z => hb z.2.1))
  · refine Gd.of (ckX7 _ _) tX7_gossip_ok (cuts := lf 35 7) 100 ?_
    refine ⟨rfl, Nat.le_of_ble_eq_true rfl, ?_⟩
    refine eV.i h1 ?_
    refine eC.z (c_monitorOf_no hv) ⟨rfl, rfl⟩ ⟨Nat.le_of_ble_eq_true rfl, Nat.le_of_ble_eq_true rfl⟩ ⟨Nat.zero_le _, Nat.zero_le _⟩ (fun v S1 hk => ?_)
    obtain ⟨rfl, rfl⟩ := hk
    by_cases hb : inR b 4
    · refine ⟨rfl, Nat.le_of_ble_eq_true rfl, ?_⟩
      refine eV.i h1 ?_
      refine eC.z (c_monitorOf hall hb) ⟨rfl, rfl⟩ ⟨Nat.le_of_ble_eq_true rfl, Nat.le_of_ble_eq_true rfl⟩ ⟨Nat.zero_le _, Nat.zero_le _⟩ (fun v S1 hk => ?_)
      obtain ⟨rfl, rfl⟩ := hk
      exact eR.int (hno _ rfl (fun z => hv z.1))
    · refine ⟨rfl, Nat.le_of_ble_eq_true rfl, ?_⟩
      refine eV.i h1 ?_
      refine eC.z (c_monitorOf_no hb) ⟨rfl, rfl⟩ ⟨Nat.le_of_ble_eq_true rfl, Nat.le_of_ble_eq_true rfl⟩ ⟨Nat.zero_le _, Nat.zero_le _⟩ (fun v S1 hk => ?_)
      obtain ⟨rfl, rfl⟩ := hk
      exact eR.int (hno _ rfl (fun z => hv z.1))
end GWP
