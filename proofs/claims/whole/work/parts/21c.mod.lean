/-! whom a letter is accepted by, in the reference -/
theorem sha_bl (l : List Int32) : bl (sha l) := by
  intro j
  by_cases q : j < 32
  · rw [sha, outB_getD _ 8 j (by omega)]; exact isB_nar _
  · rw [List.getD_eq_getElem?_getD, List.getElem?_eq_none (by rw [sha_len]; omega)]; exact isB_0
theorem part_bl {row : List Int32} {a n : Nat} (h : bl row) : bl (part row a n) := by
  intro j
  by_cases q : j < n
  · rw [part_getD q]; exact h _
  · rw [List.getD_eq_getElem?_getD, List.getElem?_eq_none (by rw [part, List.length_take]; omega)]; exact isB_0
theorem rise_ok {row : List Int32} : ∀ (k st : Nat) (o w : List Int32) (f s : Nat) (y : List Int32 × List Int32), o.length = 32 → w.length = 32 → bl o → bl w → rise row k st o w f s = some y → (y.1.length = 32 ∧ bl y.1) ∧ y.2.length = 32 ∧ bl y.2 := by
  intro k
  induction k with
  | zero =>
    intro st o w f s y h1 h2 h3 h4 h
    unfold rise at h
    split at h
    · have e := Option.some.inj h
      rw [← e]
      exact ⟨⟨h1, h3⟩, h2, h4⟩
    · cases h
  | succ k ih =>
    intro st o w f s y h1 h2 h3 h4 h
    unfold rise at h
    split at h
    · cases h
    · split at h
      · exact ih _ _ _ _ _ y (nh_len _ _) (nh_len _ _) (sha_bl _) (sha_bl _) h
      · exact ih _ _ _ _ _ y h1 (nh_len _ _) h3 (sha_bl _) h
theorem prf_ok {row root : List Int32} {rS h : Nat} {m n : Int32} (hl : row.length = rS + 32 + 32 * h) (hb : bl row) (e : prf row rS h m n = some root) : root.length = 32 ∧ bl root := by
  unfold prf at e
  split at e
  · cases e
  · rename_i hc
    split at e
    · cases e
    · rename_i o w hr
      have hlp : (part row (if pw m then rS else rS + 32) 32).length = 32 := by
        by_cases q : pw m
        · rw [if_pos q]; exact part_len (by omega)
        · rw [if_neg q]; exact part_len (by omega)
      have := rise_ok _ _ _ _ _ _ (o, w) hlp hlp (part_bl hb) (part_bl hb) hr
      by_cases q : same o 0 row rS 32
      · rw [if_pos q] at e
        rw [← Option.some.inj e]
        exact this.2
      · rw [if_neg q] at e; cases e
theorem pth_ok {row root : List Int32} {h : Nat} {m n : Int32} (e : pth row h m n = some root) : root.length = 32 ∧ bl root := by
  unfold pth at e
  split at e
  · cases e
  · cases hr : rise row h 13 (sha ([0] ++ part row 9 4)) (sha ([0] ++ part row 9 4)) m.toInt.toNat (n - 1).toInt.toNat with
    | none => rw [hr] at e; cases e
    | some y =>
      rw [hr] at e
      have := rise_ok _ _ _ _ _ _ y (sha_len _) (sha_len _) (sha_bl _) (sha_bl _) hr
      have e2 : y.2 = root := Option.some.inj e
      rw [← e2]
      exact this.2
section ACC
variable {G : mG} {S S' : mS} {M nl nn nd q u : Nat} {A : AA} {l t hd : List Int32}
/-- the root stands behind the head's first five bytes -/
theorem root_iff {root : List Int32} (hl : hd.length = 45) (bh : bl hd) (hr : ∀ x, x < 45 → A 16 (u + x) = hd.getD x 0) (h1 : root.length = 32) (h2 : bl root) : (∀ k, k < 32 → root.getD k 0 = A 16 (u + 5 + k)) ↔ same hd 5 root 0 32 := by
  rw [same_iff (by omega) (by omega) bh h2 (by omega) (by omega)]
  constructor
  · intro z k hk
    have := z k hk
    rw [Nat.add_assoc, hr _ (by omega)] at this
    rw [Nat.zero_add]
    exact this.symm
  · intro z k hk
    have := z k hk
    rw [Nat.zero_add] at this
    rw [Nat.add_assoc, hr _ (by omega)]
    exact this.symm
theorem r0_iff {a b : List Int32} (ha : 0 < a.length) (hb : 0 < b.length) (h1 : bl a) (h2 : bl b) : rAt a 0 = rAt b 0 ↔ a.getD 0 0 = b.getD 0 0 := by
  rw [rAt_0n ha, rAt_0n hb]
  exact and255_inj (h1 0) (h2 0)
theorem c_M_acc1 (h : Md G S M A l nl nn nd) (hq : q < 60) (hw : Wr A q 1 t) (hk : okL 1 t) (hu : u + 45 ≤ 3600) (hl : hd.length = 45) (hr : ∀ x, x < 45 → A 16 (u + x) = hd.getD x 0) :
    mCon G yX8_accepts cX8_accepts 6 (some .boolean) (rmD 5) [.ref M, .int (nI q), .ref (M + 16), .int (nI u)] S (ldK G S M A l nl nn nd (∃ root, prf t 9 (hcN 1 t) (num4 t 1) (num4 t 5) = some root ∧ accP hd t root)) := by
  obtain ⟨w1, w2, w3, w4⟩ := hw
  have ho := hashN_ok hk
  have e0 : hashN 1 t = nI (hcN 1 t) := by
    rcases ho with ⟨e, -⟩ | ⟨-, e, -⟩
    · exact absurd e (by decide)
    · exact e
  have e1 : t.length = 9 + 32 + 32 * hcN 1 t := by
    rcases ho with ⟨e, -⟩ | ⟨-, -, e, -⟩
    · exact absurd e (by decide)
    · exact e
  have bt : bl t := h.bl (q := 11) (a := 400 * q) rfl (by decide) w4
  have bh : bl hd := h.bl (q := 16) (a := u) rfl (by decide) (fun x hx => hr x (by omega))
  have hin : vp_in (nI q) 60 := vp_in_nI (by omega) (by omega)
  have hcl : (nI q).toNatClampNeg = q := nI_clamp (by omega)
  have e4 : 400 * nI q = nI (400 * q) := by rw [show (400 : Int32) = nI 400 from rfl, pk_mul]
  have t0 : A 11 (400 * q) = t.getD 0 0 := w4 0 (by omega)
  have h0 : A 16 u = hd.getD 0 0 := hr 0 (by omega)
  have hkeep : Md G S M (va_up A 7 (A 7)) l nl nn nd := by rw [up_same]; exact h
  have n1 : nu4 (A 11) (400 * q + 1) = num4 t 1 := nu4_eq (fun k hk => by rw [Nat.add_assoc]; exact w4 _ (by omega))
  have n5 : nu4 (A 11) (400 * q + 5) = num4 t 5 := nu4_eq (fun k hk => by rw [Nat.add_assoc]; exact w4 _ (by omega))
  have s4 : (∀ k, k < 4 → A 11 (400 * q + 5 + k) = A 16 (u + 1 + k)) ↔ same hd 1 t 5 4 := by
    rw [same_iff (by omega) (by omega) bh bt (by omega) (by omega)]
    constructor
    · intro z k hk
      have := z k hk
      rw [Nat.add_assoc, w4 _ (by omega), Nat.add_assoc, hr _ (by omega)] at this
      exact this.symm
    · intro z k hk
      rw [Nat.add_assoc, w4 _ (by omega), Nat.add_assoc, hr _ (by omega)]
      exact (z k hk).symm
  have hno : ¬ (∃ root, prf t 9 (hcN 1 t) (num4 t 1) (num4 t 5) = some root ∧ accP hd t root) → ldK G S M A l nl nn nd (∃ root, prf t 9 (hcN 1 t) (num4 t 1) (num4 t 5) = some root ∧ accP hd t root) (some (.int 0)) S := fun z => ⟨by rw [pI_f z], fr.rf, l, _, hkeep⟩
  refine mCon.of (I := miX8 false (some .boolean)) (by decide) rfl rfl (fun h => by cases h) (fun _ => rfl) (Nat.le_of_ble_eq_true rfl) ?_
  show Gd _ _ _ _ _ _ _ _ 0 [(0, .ref M), (1, .int (nI q)), (2, .ref (M + 16)), (3, .int (nI u))] [] (0, 0) _
  refine Gd.of (ckX8 _ _) tX8_accepts_ok (cuts := fun _ => none) 100 ?_
  refine eG.i h.obj rfl ?_
  refine eLb.i (i := 400 * nI q) h.a11 (by rw [e4]; exact vp_in_nI (by omega) (by omega)) ?_
  refine eLb.i (i := nI u) h.a16 (vp_in_nI (by omega) (by omega)) ?_
  rw [show A 11 (400 * nI q).toNatClampNeg = t.getD 0 0 from by rw [e4, nI_clamp (by omega), t0], show A 16 (nI u).toNatClampNeg = hd.getD 0 0 from by rw [nI_clamp (by omega), h0]]
  refine eB.i (fun z0 => ?_) (fun z0 => ?_)
  · refine eG.i h.obj rfl ?_
    refine eL.i (i := nI q) h.a13 hin ?_
    refine eG.i h.obj rfl ?_
    refine eL.i (i := nI q) h.a12 hin ?_
    rw [hcl, w1, w2]
    refine ⟨Nat.le_of_ble_eq_true rfl, ?_⟩
    refine eC.z (c_M_headOf) ⟨rfl, rfl⟩ ⟨Nat.le_of_ble_eq_true rfl, Nat.le_of_ble_eq_true rfl⟩ ⟨Nat.zero_le _, Nat.zero_le _⟩ (fun v S1 hk => ?_)
    obtain ⟨rfl, rfl⟩ := hk
    refine eZ.i (by decide) ?_
    rw [show (nI t.length - (if (1 : Int32) = 1 then 41 else 13)) / 32 = nI (hcN 1 t) from e0]
    refine eG.i h.obj rfl ?_
    refine eL.i (i := nI q) h.a12 hin ?_
    rw [hcl, w1]
    refine eB.t rfl ?_
    refine eG.i h.obj rfl ?_
    have hc := c_M_isSame (i := 11) (j := 16) (s := 400 * q + 5) (u := u + 1) (n := 4) h rfl (by decide) (by decide) (by show 400 * q + 5 + 4 ≤ 24000; omega) (by decide) rfl (by decide) (by decide) (by show u + 1 + 4 ≤ 3600; omega) (by decide)
    rw [← nI_1 u, ← nI_add (400 * q) 5, ← e4] at hc
    refine ⟨Nat.le_of_ble_eq_true rfl, ?_⟩
    refine eC.z (hc) ⟨rfl, rfl⟩ ⟨Nat.le_of_ble_eq_true rfl, Nat.le_of_ble_eq_true rfl⟩ ⟨Nat.zero_le _, Nat.zero_le _⟩ (fun v S1 hk => ?_)
    obtain ⟨rfl, rfl⟩ := hk
    by_cases z1 : same hd 1 t 5 4
    · rw [pI_t (s4.mpr z1)]
      refine eB.f (by decide) ?_
      refine eG.i h.obj rfl ?_
      have hc1 := c_M_number (i := 11) (s := 400 * q + 1) h rfl (by decide) (by decide) (by show 400 * q + 1 + 4 ≤ 24000; omega) (by decide)
      rw [← nI_1, ← e4] at hc1
      refine ⟨Nat.le_of_ble_eq_true rfl, ?_⟩
      refine eC.z (hc1) ⟨rfl, rfl⟩ ⟨Nat.le_of_ble_eq_true rfl, Nat.le_of_ble_eq_true rfl⟩ ⟨Nat.zero_le _, Nat.zero_le _⟩ (fun v S1 hk => ?_)
      obtain ⟨rfl, rfl⟩ := hk
      refine eG.i h.obj rfl ?_
      have hc5 := c_M_number (i := 11) (s := 400 * q + 5) h rfl (by decide) (by decide) (by show 400 * q + 5 + 4 ≤ 24000; omega) (by decide)
      rw [← nI_add _ 5, ← e4] at hc5
      refine ⟨Nat.le_of_ble_eq_true rfl, ?_⟩
      refine eC.z (hc5) ⟨rfl, rfl⟩ ⟨Nat.le_of_ble_eq_true rfl, Nat.le_of_ble_eq_true rfl⟩ ⟨Nat.zero_le _, Nat.zero_le _⟩ (fun v S1 hk => ?_)
      obtain ⟨rfl, rfl⟩ := hk
      rw [n1, n5]
      refine eG.i h.obj rfl ?_
      have hcl := c_M_leads (i := 11) (j := 16) (s := 400 * q) (u := u + 5) (rS := 9) (h := hcN 1 t) (row := t) (m := num4 t 1) (n := num4 t 5) h rfl (by decide) (by decide) (by decide) rfl (by decide) (by decide) (by decide) (by show u + 5 + 32 ≤ 3600; omega) (by show 400 * q + t.length ≤ 24000; omega) e1 bt w4
      rw [Nat.add_assoc (400 * q) 9 32, ← nI_add (400 * q) 9, ← nI_add (400 * q) (9 + 32), ← nI_add u 5, ← e4] at hcl
      refine ⟨rfl, Nat.le_of_ble_eq_true rfl, ?_⟩
      refine eV.i h.obj ?_
      refine eC.z (hcl) ⟨rfl, rfl⟩ ⟨Nat.le_of_ble_eq_true rfl, Nat.le_of_ble_eq_true rfl⟩ ⟨Nat.zero_le _, Nat.zero_le _⟩ (fun v S2 hk => ?_)
      obtain ⟨rfl, f2, l2, H2, m2⟩ := hk
      have eP : (∃ root, prf t 9 (hcN 1 t) (num4 t 1) (num4 t 5) = some root ∧ ∀ k, k < 32 → root.getD k 0 = A 16 (u + 5 + k)) ↔ ∃ root, prf t 9 (hcN 1 t) (num4 t 1) (num4 t 5) = some root ∧ accP hd t root := by
        constructor
        · intro z
          obtain ⟨root, r1, r2⟩ := z
          obtain ⟨r3, r4⟩ := prf_ok e1 bt r1
          exact ⟨root, r1, ⟨(r0_iff (by omega) (by omega) bh bt).mpr z0.symm, z1⟩, (root_iff hl bh hr r3 r4).mp r2⟩
        · intro z
          obtain ⟨root, r1, r2⟩ := z
          obtain ⟨r3, r4⟩ := prf_ok e1 bt r1
          exact ⟨root, r1, (root_iff hl bh hr r3 r4).mpr r2.2⟩
      by_cases z2 : ∃ root, prf t 9 (hcN 1 t) (num4 t 1) (num4 t 5) = some root ∧ accP hd t root
      · rw [pI_t (eP.mpr z2)]
        refine eB.f (by decide) ?_
        exact eR.t ⟨by rw [pI_t z2], f2, l2, H2, m2⟩
      · rw [pI_f (fun w => z2 (eP.mp w))]
        refine eB.t rfl ?_
        exact eR.f ⟨by rw [pI_f z2], f2, l2, H2, m2⟩
    · rw [pI_f (fun w => z1 (s4.mp w))]
      refine eB.t rfl ?_
      refine eR.f (hno (fun w => ?_))
      obtain ⟨root, r1, r2⟩ := w
      exact z1 r2.1.2
  · refine eR.f (hno (fun w => ?_))
    obtain ⟨root, r1, r2⟩ := w
    exact z0 ((r0_iff (by omega) (by omega) bh bt).mp r2.1.1).symm
theorem c_M_acc2 (h : Md G S M A l nl nn nd) (hq : q < 60) (hw : Wr A q 2 t) (hk : okL 2 t) (hu : u + 45 ≤ 3600) (hl : hd.length = 45) (hr : ∀ x, x < 45 → A 16 (u + x) = hd.getD x 0) :
    mCon G yX8_accepts cX8_accepts 6 (some .boolean) (rmD 5) [.ref M, .int (nI q), .ref (M + 16), .int (nI u)] S (ldK G S M A l nl nn nd (∃ root, pth t (hcN 2 t) (num4 t 5) (num4 t 1) = some root ∧ accW hd t root)) := by
  obtain ⟨w1, w2, w3, w4⟩ := hw
  have ho := hashN_ok hk
  have e0 : hashN 2 t = nI (hcN 2 t) := by
    rcases ho with ⟨e, -⟩ | ⟨-, e, -⟩
    · exact absurd e (by decide)
    · exact e
  have e1 : t.length = 13 + 32 * hcN 2 t := by
    rcases ho with ⟨e, -⟩ | ⟨-, -, e, -⟩
    · exact absurd e (by decide)
    · exact e
  have bt : bl t := h.bl (q := 11) (a := 400 * q) rfl (by decide) w4
  have bh : bl hd := h.bl (q := 16) (a := u) rfl (by decide) (fun x hx => hr x (by omega))
  have hin : vp_in (nI q) 60 := vp_in_nI (by omega) (by omega)
  have hcl : (nI q).toNatClampNeg = q := nI_clamp (by omega)
  have e4 : 400 * nI q = nI (400 * q) := by rw [show (400 : Int32) = nI 400 from rfl, pk_mul]
  have t0 : A 11 (400 * q) = t.getD 0 0 := w4 0 (by omega)
  have h0 : A 16 u = hd.getD 0 0 := hr 0 (by omega)
  have hkeep : Md G S M (va_up A 7 (A 7)) l nl nn nd := by rw [up_same]; exact h
  have n1 : nu4 (A 11) (400 * q + 1) = num4 t 1 := nu4_eq (fun k hk => by rw [Nat.add_assoc]; exact w4 _ (by omega))
  have n5 : nu4 (A 11) (400 * q + 5) = num4 t 5 := nu4_eq (fun k hk => by rw [Nat.add_assoc]; exact w4 _ (by omega))
  have hno : ¬ (∃ root, pth t (hcN 2 t) (num4 t 5) (num4 t 1) = some root ∧ accW hd t root) → ldK G S M A l nl nn nd (∃ root, pth t (hcN 2 t) (num4 t 5) (num4 t 1) = some root ∧ accW hd t root) (some (.int 0)) S := fun z => ⟨by rw [pI_f z], fr.rf, l, _, hkeep⟩
  refine mCon.of (I := miX8 false (some .boolean)) (by decide) rfl rfl (fun h => by cases h) (fun _ => rfl) (Nat.le_of_ble_eq_true rfl) ?_
  show Gd _ _ _ _ _ _ _ _ 0 [(0, .ref M), (1, .int (nI q)), (2, .ref (M + 16)), (3, .int (nI u))] [] (0, 0) _
  refine Gd.of (ckX8 _ _) tX8_accepts_ok (cuts := fun _ => none) 100 ?_
  refine eG.i h.obj rfl ?_
  refine eLb.i (i := 400 * nI q) h.a11 (by rw [e4]; exact vp_in_nI (by omega) (by omega)) ?_
  refine eLb.i (i := nI u) h.a16 (vp_in_nI (by omega) (by omega)) ?_
  rw [show A 11 (400 * nI q).toNatClampNeg = t.getD 0 0 from by rw [e4, nI_clamp (by omega), t0], show A 16 (nI u).toNatClampNeg = hd.getD 0 0 from by rw [nI_clamp (by omega), h0]]
  refine eB.i (fun z0 => ?_) (fun z0 => ?_)
  · have s4 : (∀ k, k < 4 → A 11 (400 * q + 1 + k) = A 16 (u + 1 + k)) ↔ same hd 0 t 0 5 := by
      rw [same5 (by omega) (by omega) bh bt]
      constructor
      · intro z
        refine ⟨z0.symm, fun k hk => ?_⟩
        have := z k hk
        rw [Nat.add_assoc, w4 _ (by omega), Nat.add_assoc, hr _ (by omega)] at this
        exact this.symm
      · intro z k hk
        rw [Nat.add_assoc, w4 _ (by omega), Nat.add_assoc, hr _ (by omega)]
        exact (z.2 k hk).symm
    refine eG.i h.obj rfl ?_
    refine eL.i (i := nI q) h.a13 hin ?_
    refine eG.i h.obj rfl ?_
    refine eL.i (i := nI q) h.a12 hin ?_
    rw [hcl, w1, w2]
    refine ⟨Nat.le_of_ble_eq_true rfl, ?_⟩
    refine eC.z (c_M_headOf) ⟨rfl, rfl⟩ ⟨Nat.le_of_ble_eq_true rfl, Nat.le_of_ble_eq_true rfl⟩ ⟨Nat.zero_le _, Nat.zero_le _⟩ (fun v S1 hk => ?_)
    obtain ⟨rfl, rfl⟩ := hk
    refine eZ.i (by decide) ?_
    rw [show (nI t.length - (if (2 : Int32) = 1 then 41 else 13)) / 32 = nI (hcN 2 t) from e0]
    refine eG.i h.obj rfl ?_
    refine eL.i (i := nI q) h.a12 hin ?_
    rw [hcl, w1]
    refine eB.f (by decide) ?_
    refine eG.i h.obj rfl ?_
    have hc := c_M_isSame (i := 11) (j := 16) (s := 400 * q + 1) (u := u + 1) (n := 4) h rfl (by decide) (by decide) (by show 400 * q + 1 + 4 ≤ 24000; omega) (by decide) rfl (by decide) (by decide) (by show u + 1 + 4 ≤ 3600; omega) (by decide)
    rw [← nI_1, ← nI_1, ← e4] at hc
    refine ⟨Nat.le_of_ble_eq_true rfl, ?_⟩
    refine eC.z (hc) ⟨rfl, rfl⟩ ⟨Nat.le_of_ble_eq_true rfl, Nat.le_of_ble_eq_true rfl⟩ ⟨Nat.zero_le _, Nat.zero_le _⟩ (fun v S1 hk => ?_)
    obtain ⟨rfl, rfl⟩ := hk
    by_cases z1 : same hd 0 t 0 5
    · rw [pI_t (s4.mpr z1)]
      refine eB.f (by decide) ?_
      refine eG.i h.obj rfl ?_
      have hc5 := c_M_number (i := 11) (s := 400 * q + 5) h rfl (by decide) (by decide) (by show 400 * q + 5 + 4 ≤ 24000; omega) (by decide)
      rw [← nI_add _ 5, ← e4] at hc5
      refine ⟨Nat.le_of_ble_eq_true rfl, ?_⟩
      refine eC.z (hc5) ⟨rfl, rfl⟩ ⟨Nat.le_of_ble_eq_true rfl, Nat.le_of_ble_eq_true rfl⟩ ⟨Nat.zero_le _, Nat.zero_le _⟩ (fun v S1 hk => ?_)
      obtain ⟨rfl, rfl⟩ := hk
      refine eG.i h.obj rfl ?_
      have hc1 := c_M_number (i := 11) (s := 400 * q + 1) h rfl (by decide) (by decide) (by show 400 * q + 1 + 4 ≤ 24000; omega) (by decide)
      rw [← nI_1, ← e4] at hc1
      refine ⟨Nat.le_of_ble_eq_true rfl, ?_⟩
      refine eC.z (hc1) ⟨rfl, rfl⟩ ⟨Nat.le_of_ble_eq_true rfl, Nat.le_of_ble_eq_true rfl⟩ ⟨Nat.zero_le _, Nat.zero_le _⟩ (fun v S1 hk => ?_)
      obtain ⟨rfl, rfl⟩ := hk
      rw [n1, n5]
      refine eG.i h.obj rfl ?_
      have hcl := c_M_isWay (i := 11) (j := 16) (s := 400 * q) (u := u + 5) (h := hcN 2 t) (row := t) (m := num4 t 5) (n := num4 t 1) h rfl (by decide) (by decide) (by decide) rfl (by decide) (by decide) (by decide) (by show u + 5 + 32 ≤ 3600; omega) (by show 400 * q + t.length ≤ 24000; omega) e1 w4
      rw [← nI_add (400 * q) 9, ← nI_add (400 * q) 13, ← nI_add u 5, ← e4] at hcl
      refine ⟨rfl, Nat.le_of_ble_eq_true rfl, ?_⟩
      refine eV.i h.obj ?_
      refine eC.z (hcl) ⟨rfl, rfl⟩ ⟨Nat.le_of_ble_eq_true rfl, Nat.le_of_ble_eq_true rfl⟩ ⟨Nat.zero_le _, Nat.zero_le _⟩ (fun v S2 hk => ?_)
      obtain ⟨rfl, f2, l2, H2, m2⟩ := hk
      have eP : (∃ root, pth t (hcN 2 t) (num4 t 5) (num4 t 1) = some root ∧ ∀ k, k < 32 → root.getD k 0 = A 16 (u + 5 + k)) ↔ ∃ root, pth t (hcN 2 t) (num4 t 5) (num4 t 1) = some root ∧ accW hd t root := by
        constructor
        · intro z
          obtain ⟨root, r1, r2⟩ := z
          obtain ⟨r3, r4⟩ := pth_ok r1
          exact ⟨root, r1, z1, (root_iff hl bh hr r3 r4).mp r2⟩
        · intro z
          obtain ⟨root, r1, r2⟩ := z
          obtain ⟨r3, r4⟩ := pth_ok r1
          exact ⟨root, r1, (root_iff hl bh hr r3 r4).mpr r2.2⟩
      by_cases z2 : ∃ root, pth t (hcN 2 t) (num4 t 5) (num4 t 1) = some root ∧ accW hd t root
      · rw [pI_t (eP.mpr z2)]
        refine eB.f (by decide) ?_
        exact eR.t ⟨by rw [pI_t z2], f2, l2, H2, m2⟩
      · rw [pI_f (fun w => z2 (eP.mp w))]
        refine eB.t rfl ?_
        exact eR.f ⟨by rw [pI_f z2], f2, l2, H2, m2⟩
    · rw [pI_f (fun w => z1 (s4.mp w))]
      refine eB.t rfl ?_
      refine eR.f (hno (fun w => ?_))
      obtain ⟨root, r1, r2⟩ := w
      exact z1 r2.1
  · refine eR.f (hno (fun w => ?_))
    obtain ⟨root, r1, r2⟩ := w
    exact z0 ((same5 (by omega) (by omega) bh bt).mp r2.1).1.symm
end ACC
