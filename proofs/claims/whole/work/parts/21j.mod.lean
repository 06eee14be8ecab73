/-! the reference lays a record out -/
theorem lay_rd1 {D g : Nat → Int32} {k b : Int32} {h1 h2 : List Int32} {u v : Nat} (z : ∀ j, j < 640 → D j = 0) (e1 : ∀ j, j < 44 → g (u + 1 + j) = h1.getD (1 + j) 0) (e2 : ∀ j, j < 44 → g (v + 1 + j) = h2.getD (1 + j) 0) (l1 : h1.length = 45) (l2 : h2.length = 45) :
    (∀ j, j < 90 → va_cpy g (va_cpy g (upd (upd D 0 k) 1 b) (u + 1) 2 44) (v + 1) 46 44 j = ([k, b] ++ part h1 1 44 ++ part h2 1 44).getD j 0) ∧ ∀ j, 90 ≤ j → j < 640 → va_cpy g (va_cpy g (upd (upd D 0 k) 1 b) (u + 1) 2 44) (v + 1) 46 44 j = 0 := by
  have p1 : (part h1 1 44).length = 44 := part_len (by omega)
  have p2 : (part h2 1 44).length = 44 := part_len (by omega)
  have p3 : ([k, b] ++ part h1 1 44).length = 46 := by rw [List.length_append, p1]; rfl
  constructor
  · intro j hj
    by_cases q : j < 46
    · rw [pk_cpy_out (by omega), getD_app_l (by omega)]
      by_cases q2 : j < 2
      · rw [pk_cpy_out (by omega), getD_app_l (by show j < 2; exact q2)]
        have : j = 0 ∨ j = 1 := by omega
        rcases this with e | e <;> subst e
        · rw [pk_un (by decide), pk_us]; rfl
        · rw [pk_us]; rfl
      · rw [pk_cpy_in (by omega) (by omega), e1 _ (by omega), getD_app_r (by show 2 ≤ j; omega), part_getD (by show j - 2 < 44; omega)]
        rfl
    · rw [pk_cpy_in (by omega) (by omega), e2 _ (by omega), getD_app_r (by omega), p3, part_getD (by omega)]
  · intro j hj hj2
    rw [pk_cpy_out (by omega), pk_cpy_out (by omega), pk_un (by omega), pk_un (by omega)]
    exact z j hj2
theorem lay_rd2 {D f : Nat → Int32} {L p : List Int32} {w : Nat} (hL : L.length = 90) (h1 : ∀ j, j < 90 → D j = L.getD j 0) (z : ∀ j, 90 ≤ j → j < 640 → D j = 0) (hp : 9 ≤ p.length) (e : ∀ j, j < p.length → f (w + j) = p.getD j 0) :
    (∀ j, j < 90 + (p.length - 9) → va_cpy f D (w + 9) 90 (p.length - 9) j = (L ++ part p 9 (p.length - 9)).getD j 0) ∧ ∀ j, 90 + (p.length - 9) ≤ j → j < 640 → va_cpy f D (w + 9) 90 (p.length - 9) j = 0 := by
  constructor
  · intro j hj
    by_cases q : j < 90
    · rw [pk_cpy_out (by omega), getD_app_l (by omega)]; exact h1 j q
    · rw [pk_cpy_in (by omega) (by omega), getD_app_r (by omega), hL, part_getD (by omega), Nat.add_assoc]
      exact e _ (by omega)
  · intro j hj hj2
    rw [pk_cpy_out (by omega)]
    exact z j (by omega) hj2
section LAY
variable {G : mG} {S S' : mS} {M nl nn nd : Nat} {A A' : AA} {l t : List Int32} {K : List Int32} {vals : Nat → Nat → Int32} {cnt : Nat → Nat} {np : Nat} {kd : Nat → Int32} {lt : Nat → List Int32} {mo : Nat → Mo} {dk : List Int32}
set_option maxHeartbeats 1000000 in
theorem c_X8_lay {a i : Int32} (hI : Inv (K, vals, cnt, np, kd, lt, mo, dk)) (h : MS G S M (K, vals, cnt, np, kd, lt, mo, dk)) :
    mCon G yX8_lay cX8_lay 7 (some .int) (rmD 14) [.ref M, .int a, .int i] S (oM G S M (oLay (K, vals, cnt, np, kd, lt, mo, dk) a i)) := by
  have hall := h
  obtain ⟨A, l, nn, m0, hR⟩ := h
  have hR' := hR
  obtain ⟨h1, h2, h3, h4, h5⟩ := hR
  have hd := h5.1
  by_cases hv : inR a 4 ∧ inR i (mo a.toInt.toNat).1.2.2.1
  · obtain ⟨m, hm, hma⟩ : ∃ m, m < 4 ∧ a = nI m := ⟨a.toInt.toNat, by omega, i_of hv.1.1⟩
    subst hma
    have em : (nI m).toInt.toNat = m := by rw [nI_toInt (by omega)]; rfl
    have hmo := h4 m hm
    have hz := hmo.1.2.2
    have hz1 := hmo.1.1
    have hz2 := hmo.1.2.1
    have hv' := hv
    rw [em] at hv'
    obtain ⟨j, hj, hji⟩ : ∃ j, j < (mo m).1.2.2.1 ∧ i = nI j := ⟨i.toInt.toNat, by omega, i_of hv'.2.1⟩
    subst hji
    have ej : (nI j).toInt.toNat = j := by rw [nI_toInt (by omega)]; rfl
    obtain ⟨b0, b1, b2, b3⟩ := hmo.2.2.2.2 j hj
    have oM1 := hI.2 m hm
    obtain ⟨f, g, hf, hg, r1, r2, r3⟩ := oM1.2.2 j hj
    obtain ⟨lf45, -⟩ := oM1.1 f hf
    obtain ⟨lg45, -⟩ := oM1.1 g hg
    have e20 : 20 * nI m + nI j = nI (20 * m + j) := by rw [show (20 : Int32) = nI 20 from rfl, pk_mul, nI_add]
    have hin2 : vp_in (20 * nI m + nI j) 80 := by rw [e20]; exact vp_in_nI (by omega) (by omega)
    have hcl2 : (20 * nI m + nI j).toNatClampNeg = 20 * m + j := by rw [e20, nI_clamp (by omega)]
    have c0 : A 25 (20 * nI m + nI j).toNatClampNeg = (mo m).2.2.2.2 j 0 := by rw [hcl2, b0]
    have c1 : A 26 (20 * nI m + nI j).toNatClampNeg = nI f := by rw [hcl2, b1, r1]
    have c2 : A 27 (20 * nI m + nI j).toNatClampNeg = nI g := by rw [hcl2, b2, r2]
    have ef : (nI f).toInt.toNat = f := by rw [nI_toInt (by omega)]; rfl
    have eg : (nI g).toInt.toNat = g := by rw [nI_toInt (by omega)]; rfl
    have hF := hmo.2.2.1
    have e : oLay (K, vals, cnt, np, kd, lt, mo, dk) (nI m) (nI j) = (nI (layB (mo m) j).length, K, vals, cnt, np, kd, lt, mo, layB (mo m) j) := by
      show (if _ then _ else _) = _
      rw [if_pos hv, em, ej]
    rw [e]
    have hb0 : A 16 (900 * m + 45 * f) = ((mo m).2.1 f).getD 0 0 := hF f hf 0 (by omega)
    have r12 : part ((mo m).2.1 f) 1 44 = part ((mo m).2.1 f) 1 44 := rfl
    have pl1 : (part ((mo m).2.1 f) 1 44).length = 44 := part_len (by omega)
    have pl2 : (part ((mo m).2.1 g) 1 44).length = 44 := part_len (by omega)
    have L90 : ([((mo m).2.2.2.2 j 0).toInt8.toInt32, ((mo m).2.1 f).getD 0 0] ++ part ((mo m).2.1 f) 1 44 ++ part ((mo m).2.1 g) 1 44).length = 90 := by
      rw [List.length_append, List.length_append, pl1, pl2]; rfl
    have key : ∀ (d k : Nat) (x x3 : Int32) (S4 : mS), k + d = 640 → x = nI k → x3 = 20 * nI m + nI j → fr S S4 (xD M) → Md G S4 M (va_up A 29 (va_cpy (fun _ => 0) (A 29) 0 0 k)) l np nn dk.length →
        Gd G (miX8 false (some .int)) cX8_lay 7 (rmD 14) 0 0 (oM G S M (nI (layB (mo m) j).length, K, vals, cnt, np, kd, lt, mo, layB (mo m) j)) 45 [(0, .ref M), (1, .int (nI m)), (2, .int (nI j)), (3, .int x3), (4, .int (nI (900 * m + 45 * f))), (5, .int (nI (900 * m + 45 * g))), (6, .int x)] [] (0, 0) S4 := by
      intro d
      induction d with
      | zero =>
        intro k x x3 S4 hk hx hx3 f4 m4
        subst hx hx3
        have ek : k = 640 := by omega
        subst ek
        refine Gd.of (ckX8 _ _) tX8_lay_ok (cuts := lf 45 7) 100 ?_
        refine eB.t (by decide) ?_
        refine eG.i m4.obj rfl ?_
        refine eG.i m4.obj rfl ?_
        refine eL.i (i := 20 * nI m + nI j) m4.a25 hin2 ?_
        refine eSb.i (i := 0) m4.a29 (show vp_in (nI 0) _ from vp_in_nI (by omega) (by omega)) ?_
        rw [up_n (show 25 ≠ 29 by decide), c0, isB_nar _, up_s]
        have m5 := m4.s29 (f := upd (va_cpy (fun _ => 0) (A 29) 0 0 640) 0 ((mo m).2.2.2.2 j 0).toInt8.toInt32) (fun y => by
          unfold upd va_cpy
          split
          · exact isB_nar _
          · split
            · exact isB_0
            · exact m0.isb rfl (by decide) y)
        rw [up_up] at m5
        refine eG.i m5.obj rfl ?_
        refine eG.i m5.obj rfl ?_
        refine eLb.i (i := nI (900 * m + 45 * f)) m5.a16 (vp_in_nI (by omega) (by omega)) ?_
        refine eSb.i (i := 1) m5.a29 (show vp_in (nI 1) _ from vp_in_nI (by omega) (by omega)) ?_
        rw [up_n (show 16 ≠ 29 by decide), nI_clamp (by omega), show (A 16 (900 * m + 45 * f)).toInt8.toInt32 = A 16 (900 * m + 45 * f) from m0.isb rfl (by decide) _, hb0, up_s]
        have m6 := m5.s29 (f := upd (upd (va_cpy (fun _ => 0) (A 29) 0 0 640) 0 ((mo m).2.2.2.2 j 0).toInt8.toInt32) 1 (((mo m).2.1 f).getD 0 0)) (fun y => by
          unfold upd va_cpy
          split
          · rw [← hb0]; exact m0.isb rfl (by decide) _
          · split
            · exact isB_nar _
            · split
              · exact isB_0
              · exact m0.isb rfl (by decide) y)
        rw [up_up] at m6
        refine ⟨Or.inl rfl, ?_⟩
        refine eP.i m6.obj (Nat.le_of_ble_eq_true rfl) rfl rfl ?_
        have m7 := m6.nums (nl' := np) (nn' := nn) (nd' := 2)
        refine eG.i m7.obj rfl ?_
        have hc := c_M_lays (i := 16) (s := 900 * m + 45 * f + 1) (n := 44) m7 rfl (by decide) (by decide) (by decide) (by show 900 * m + 45 * f + 1 + 44 ≤ 3600; omega) (by decide)
        rw [← nI_1 (900 * m + 45 * f), up_up, up_s, up_n (show 16 ≠ 29 by decide)] at hc
        refine ⟨rfl, Nat.le_of_ble_eq_true rfl, ?_⟩
        refine eV.i m7.obj ?_
        refine eC.z (hc) ⟨rfl, rfl⟩ ⟨Nat.le_of_ble_eq_true rfl, Nat.le_of_ble_eq_true rfl⟩ ⟨Nat.zero_le _, Nat.zero_le _⟩ (fun v S8 hk => ?_)
        obtain ⟨rfl, f8, m8⟩ := hk
        refine eG.i m8.obj rfl ?_
        have hc := c_M_lays (i := 16) (s := 900 * m + 45 * g + 1) (n := 44) m8 rfl (by decide) (by decide) (by decide) (by show 900 * m + 45 * g + 1 + 44 ≤ 3600; omega) (by decide)
        rw [← nI_1 (900 * m + 45 * g), up_up, up_s, up_n (show 16 ≠ 29 by decide)] at hc
        refine ⟨rfl, Nat.le_of_ble_eq_true rfl, ?_⟩
        refine eV.i m8.obj ?_
        refine eC.z (hc) ⟨rfl, rfl⟩ ⟨Nat.le_of_ble_eq_true rfl, Nat.le_of_ble_eq_true rfl⟩ ⟨Nat.zero_le _, Nat.zero_le _⟩ (fun v S9 hk => ?_)
        obtain ⟨rfl, f9, m9⟩ := hk
        have f49 : fr S S9 (xD M) := ((((f4.tr (xD_up (by omega))).tr (xD_up (by omega))).tr xD_o).tr f8).tr f9
        obtain ⟨d1, d2⟩ := lay_rd1 (D := va_cpy (fun _ => 0) (A 29) 0 0 640) (g := A 16) (k := ((mo m).2.2.2.2 j 0).toInt8.toInt32) (b := ((mo m).2.1 f).getD 0 0) (u := 900 * m + 45 * f) (v := 900 * m + 45 * g) (fun y hy => pk_cpy_in (by omega) (by omega)) (fun y hy => by rw [Nat.add_assoc]; exact hF f hf _ (by omega)) (fun y hy => by rw [Nat.add_assoc]; exact hF g hg _ (by omega)) lf45 lg45
        generalize hD : va_cpy (A 16) (va_cpy (A 16) (upd (upd (va_cpy (fun _ => 0) (A 29) 0 0 640) 0 ((mo m).2.2.2.2 j 0).toInt8.toInt32) 1 (((mo m).2.1 f).getD 0 0)) (900 * m + 45 * f + 1) 2 44) (900 * m + 45 * g + 1) 46 44 = D at d1 d2 m9
        refine eG.i m9.obj rfl ?_
        refine eL.i (i := 20 * nI m + nI j) m9.a25 hin2 ?_
        rw [up_n (show 25 ≠ 29 by decide), c0]
        rcases r3 with ⟨k1, k2⟩ | ⟨k1, y, hy, k2⟩
        · rw [k1]
          refine eB.f (by decide) ?_
          refine eG.i m9.obj rfl ?_
          have eL : layB (mo m) j = [((mo m).2.2.2.2 j 0).toInt8.toInt32, ((mo m).2.1 f).getD 0 0] ++ part ((mo m).2.1 f) 1 44 ++ part ((mo m).2.1 g) 1 44 := by
            unfold layB recBy
            rw [r1, r2, ef, eg, if_neg (by rw [k1]; decide)]
            exact List.append_nil _
          rw [eL] 
          refine eR.int ⟨by rw [L90], f49, va_up A 29 D, l, nn, (show Md G S9 M _ l np nn _ from by rw [L90]; exact m9), hR'.desk (fun k _ _ => up_n (by omega)) ⟨by rw [L90]; omega, fun y hy => ?_, fun y hy hy2 => ?_⟩⟩
          · rw [L90] at hy
            rw [up_s]; exact d1 y hy
          · rw [L90] at hy
            rw [up_s]; exact d2 y hy hy2
        · rw [k1]
          refine eB.t rfl ?_
          obtain ⟨p1, p2, p3, p4⟩ := hmo.2.2.2.1 y hy
          have ok1 := (oM1.2.1 y hy).1
          have hl : 41 ≤ ((mo m).2.2.1 y).length ∧ ((mo m).2.2.1 y).length ≤ 297 := by
            rcases ok1 with ⟨e, -⟩ | ⟨-, c, c8, e⟩ | ⟨e, -⟩
            · exact absurd e (by decide)
            · omega
            · exact absurd e (by decide)
          have c3 : A 28 (20 * nI m + nI j).toNatClampNeg = nI y := by rw [hcl2, b3, k2]
          have ey : (nI y).toInt.toNat = y := by rw [nI_toInt (by omega)]; rfl
          have e12 : 12 * nI m + nI y = nI (12 * m + y) := by rw [show (12 : Int32) = nI 12 from rfl, pk_mul, nI_add]
          have hin3 : vp_in (12 * nI m + nI y) 48 := by rw [e12]; exact vp_in_nI (by omega) (by omega)
          have c4 : A 23 (12 * nI m + nI y).toNatClampNeg = nI ((mo m).2.2.1 y).length := by rw [e12, nI_clamp (by omega), p1]
          refine eG.i m9.obj rfl ?_
          refine eL.i (i := 20 * nI m + nI j) m9.a28 hin2 ?_
          rw [up_n (show 28 ≠ 29 by decide), c3]
          refine ⟨Nat.le_of_ble_eq_true rfl, ?_⟩
          refine eC.z (c_M_factAt) ⟨rfl, rfl⟩ ⟨Nat.le_of_ble_eq_true rfl, Nat.le_of_ble_eq_true rfl⟩ ⟨Nat.zero_le _, Nat.zero_le _⟩ (fun v S10 hk => ?_)
          obtain ⟨rfl, rfl⟩ := hk
          refine eG.i m9.obj rfl ?_
          refine eG.i m9.obj rfl ?_
          refine eG.i m9.obj rfl ?_
          refine eL.i (i := 20 * nI m + nI j) m9.a28 hin2 ?_
          rw [up_n (show 28 ≠ 29 by decide), c3]
          refine eL.i (i := 12 * nI m + nI y) m9.a23 hin3 ?_
          rw [up_n (show 23 ≠ 29 by decide), c4]
          have hc := c_M_lays (i := 17) (s := 4800 * m + 400 * y + 9) (n := ((mo m).2.2.1 y).length - 9) m9 rfl (by decide) (by decide) (by decide) (by show 4800 * m + 400 * y + 9 + (((mo m).2.2.1 y).length - 9) ≤ 19200; omega) (by omega)
          rw [← nI_add (4800 * m + 400 * y) 9, ← pk_sub (by omega), up_up, up_s, up_n (show 17 ≠ 29 by decide)] at hc
          refine ⟨rfl, Nat.le_of_ble_eq_true rfl, ?_⟩
          refine eV.i m9.obj ?_
          refine eC.z (hc) ⟨rfl, rfl⟩ ⟨Nat.le_of_ble_eq_true rfl, Nat.le_of_ble_eq_true rfl⟩ ⟨Nat.zero_le _, Nat.zero_le _⟩ (fun v S11 hk => ?_)
          obtain ⟨rfl, f11, m11⟩ := hk
          refine eG.i m11.obj rfl ?_
          have eL : layB (mo m) j = [((mo m).2.2.2.2 j 0).toInt8.toInt32, ((mo m).2.1 f).getD 0 0] ++ part ((mo m).2.1 f) 1 44 ++ part ((mo m).2.1 g) 1 44 ++ part ((mo m).2.2.1 y) 9 (((mo m).2.2.1 y).length - 9) := by
            unfold layB recBy
            rw [r1, r2, ef, eg, if_pos k1, k2, ey]
          have eN : (layB (mo m) j).length = 2 + 44 + 44 + (((mo m).2.2.1 y).length - 9) := by
            rw [eL, List.length_append, L90, part_len (by omega)]
          obtain ⟨d3, d4⟩ := lay_rd2 (D := D) (f := A 17) (p := (mo m).2.2.1 y) (w := 4800 * m + 400 * y) L90 d1 d2 (by omega) p4
          refine eR.int ⟨by rw [eN], f49.tr f11, va_up A 29 (va_cpy (A 17) D (4800 * m + 400 * y + 9) 90 (((mo m).2.2.1 y).length - 9)), l, nn, (show Md G S11 M _ l np nn _ from by rw [eN]; exact m11), hR'.desk (fun k _ _ => up_n (by omega)) ⟨by rw [eN]; omega, fun y hy => ?_, fun y hy hy2 => ?_⟩⟩
          · rw [eN] at hy
            rw [up_s, eL]; exact d3 y (by omega)
          · rw [eN] at hy
            rw [up_s]; exact d4 y (by omega) hy2
      | succ d ih =>
        intro k x x3 S4 hk hx hx3 f4 m4
        subst hx
        refine Gd.of (ckX8 _ _) tX8_lay_ok (cuts := lf 45 7) 100 ?_
        refine eB.f (by rw [show (640 : Int32) = nI 640 from rfl, nI_leI (by omega) (by omega)]; omega) ?_
        refine eG.i m4.obj rfl ?_
        refine eSb.i (i := nI k) m4.a29 (vp_in_nI (by omega) (by omega)) ?_
        have eu : upd (va_cpy (fun _ => 0) (A 29) 0 0 k) k (0 : Int32).toInt8.toInt32 = va_cpy (fun _ => 0) (A 29) 0 0 (k + 1) := by
          have := cpy_succ (f := fun _ => 0) (g := A 29) (sp := 0) (dp := 0) (n := k)
          rw [Nat.zero_add] at this
          exact this
        rw [nI_clamp (by omega), up_s, eu]
        have m5 := m4.s29 (f := va_cpy (fun _ => 0) (A 29) 0 0 (k + 1)) (fun y => by
          unfold va_cpy
          split
          · exact isB_0
          · exact m0.isb rfl (by decide) y)
        rw [up_up] at m5
        exact ih (k + 1) _ _ _ (by omega) (nI_1 k) hx3 (f4.tr (xD_up (by omega))) m5
    refine mCon.of (I := miX8 false (some .int)) (by decide) rfl rfl (fun h => by cases h) (fun _ => rfl) (Nat.le_of_ble_eq_true rfl) ?_
    show Gd _ _ _ _ _ _ _ _ 0 [(0, .ref M), (1, .int (nI m)), (2, .int (nI j))] [] (0, 0) _
    refine Gd.of (ckX8 _ _) tX8_lay_ok (cuts := lf 45 7) 100 ?_
    refine ⟨rfl, Nat.le_of_ble_eq_true rfl, ?_⟩
    refine eV.i m0.obj ?_
    refine eC.z (c_M_isRecord m0 h4) ⟨rfl, rfl⟩ ⟨Nat.le_of_ble_eq_true rfl, Nat.le_of_ble_eq_true rfl⟩ ⟨Nat.zero_le _, Nat.zero_le _⟩ (fun v S1 hk => ?_)
    obtain ⟨rfl, rfl⟩ := hk
    rw [pI_t hv]
    refine eB.f (by decide) ?_
    refine eG.i m0.obj rfl ?_
    refine eL.i (i := 20 * nI m + nI j) m0.a26 hin2 ?_
    rw [c1]
    refine ⟨Nat.le_of_ble_eq_true rfl, ?_⟩
    refine eC.z (c_M_headAt) ⟨rfl, rfl⟩ ⟨Nat.le_of_ble_eq_true rfl, Nat.le_of_ble_eq_true rfl⟩ ⟨Nat.zero_le _, Nat.zero_le _⟩ (fun v S1 hk => ?_)
    obtain ⟨rfl, rfl⟩ := hk
    refine eG.i m0.obj rfl ?_
    refine eL.i (i := 20 * nI m + nI j) m0.a27 hin2 ?_
    rw [c2]
    refine ⟨Nat.le_of_ble_eq_true rfl, ?_⟩
    refine eC.z (c_M_headAt) ⟨rfl, rfl⟩ ⟨Nat.le_of_ble_eq_true rfl, Nat.le_of_ble_eq_true rfl⟩ ⟨Nat.zero_le _, Nat.zero_le _⟩ (fun v S1 hk => ?_)
    obtain ⟨rfl, rfl⟩ := hk
    refine key 640 0 _ _ _ (by omega) rfl rfl fr.rf ?_
    rw [cpy_0, up_same]
    exact m0
  · refine mCon.of (I := miX8 false (some .int)) (by decide) rfl rfl (fun h => by cases h) (fun _ => rfl) (Nat.le_of_ble_eq_true rfl) ?_
    show Gd _ _ _ _ _ _ _ _ 0 [(0, .ref M), (1, .int a), (2, .int i)] [] (0, 0) _
    refine Gd.of (ckX8 _ _) tX8_lay_ok (cuts := lf 45 7) 100 ?_
    refine ⟨rfl, Nat.le_of_ble_eq_true rfl, ?_⟩
    refine eV.i m0.obj ?_
    refine eC.z (c_M_isRecord m0 h4) ⟨rfl, rfl⟩ ⟨Nat.le_of_ble_eq_true rfl, Nat.le_of_ble_eq_true rfl⟩ ⟨Nat.zero_le _, Nat.zero_le _⟩ (fun v S1 hk => ?_)
    obtain ⟨rfl, rfl⟩ := hk
    rw [pI_f hv]
    refine eB.t rfl ?_
    exact eR.int (oM.no hall (if_neg hv) rfl)
end LAY
