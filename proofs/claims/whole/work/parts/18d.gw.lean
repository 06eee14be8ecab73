/-! what holds of every state, and the calls that change letters -/
def okL (k : Int32) (l : List Int32) : Prop := (k = 0 ∧ l.length = 45) ∨ (k = 1 ∧ ∃ h, h ≤ 8 ∧ l.length = 41 + 32 * h) ∨ (k = 2 ∧ ∃ h, h ≤ 8 ∧ l.length = 13 + 32 * h)
def okR (hn fn : Nat) (r : Nat → Int32) : Prop := ∃ f o, f < hn ∧ o < hn ∧ r 1 = nI f ∧ r 2 = nI o ∧ ((r 0 = 1 ∧ r 3 = -1) ∨ (r 0 = 2 ∧ ∃ y, y < fn ∧ r 3 = nI y))
def okM (K : List Int32) (o : Mo) : Prop := (∀ i, i < o.1.1 → (o.2.1 i).length = 45 ∧ signed K (o.2.1 i) 0 1) ∧ (∀ i, i < o.1.2.1 → okL 1 (o.2.2.1 i) ∧ (∃ g, g < 4 ∧ rAt (o.2.2.1 i) 0 = nI g) ∧ ∃ j, j < o.1.1 ∧ o.2.2.2.1 i = nI j) ∧ ∀ i, i < o.1.2.2.1 → okR o.1.1 o.1.2.1 (o.2.2.2.2 i)
def Inv (s : Sg) : Prop := match s with
  | (K, _, _, np, kd, lt, mo, _) => (∀ i, i < np → okL (kd i) (lt i)) ∧ ∀ j, j < 4 → okM K (mo j)
def hcB (k : Int32) : Nat := if k = 1 then 41 else 13
def hcN (k : Int32) (l : List Int32) : Nat := (l.length - hcB k) / 32
def oAlt (s : Sg) (l k x : Int32) : Int32 × Sg := match s with
  | (K, vals, cnt, np, kd, lt, mo, dk) => if inR l np ∧ inR k (lt l.toInt.toNat).length then ((rAt (lt l.toInt.toNat) k ^^^ x).toInt8.toInt32 &&& 255, K, vals, cnt, np, kd, va_up lt l.toInt.toNat ((lt l.toInt.toNat).set k.toInt.toNat (rAt (lt l.toInt.toNat) k ^^^ x).toInt8.toInt32), mo, dk) else (-1, K, vals, cnt, np, kd, lt, mo, dk)
def oCut (s : Sg) (l n : Int32) : Int32 × Sg := match s with
  | (K, vals, cnt, np, kd, lt, mo, dk) => if inR l np ∧ ¬ kd l.toInt.toNat = 0 ∧ inR n (hcN (kd l.toInt.toNat) (lt l.toInt.toNat) + 1) then (nI (hcN (kd l.toInt.toNat) (lt l.toInt.toNat) - n.toInt.toNat), K, vals, cnt, np, kd, va_up lt l.toInt.toNat ((lt l.toInt.toNat).take (hcB (kd l.toInt.toNat) + 32 * n.toInt.toNat)), mo, dk) else (-1, K, vals, cnt, np, kd, lt, mo, dk)
def oSig (s : Sg) (l : Int32) : Int32 × Sg := match s with
  | (K, vals, cnt, np, kd, lt, mo, dk) => if inR l np ∧ kd l.toInt.toNat = 0 ∧ (rAt (lt l.toInt.toNat) 0).toInt < 4 then (1, K, vals, cnt, np, kd, va_up lt l.toInt.toNat ((lt l.toInt.toNat).take 37 ++ part (sgn K (rAt (lt l.toInt.toNat) 0).toInt.toNat (part (lt l.toInt.toNat) 1 36)) 0 8), mo, dk) else (0, K, vals, cnt, np, kd, lt, mo, dk)
def oClr (s : Sg) : Int32 × Sg := match s with
  | (K, vals, cnt, np, kd, lt, mo, dk) => (nI np, K, vals, cnt, 0, kd, lt, mo, dk)
def oLts (s : Sg) : Int32 × Sg := match s with
  | (K, vals, cnt, np, kd, lt, mo, dk) => (nI np, K, vals, cnt, np, kd, lt, mo, dk)
def oLet (s : Sg) (l k : Int32) : Int32 × Sg := match s with
  | (K, vals, cnt, np, kd, lt, mo, dk) => (if ¬ inR l np then -1 else if k = -1 then kd l.toInt.toNat else if k = -2 then nI (lt l.toInt.toNat).length else rAt (lt l.toInt.toNat) k, K, vals, cnt, np, kd, lt, mo, dk)
theorem rAt_0n {l : List Int32} (hl : 0 < l.length) : rAt l 0 = l.getD 0 0 &&& 255 := by
  rw [rAt, if_pos ⟨by decide, by show (0 : Int) < _; omega⟩]
  rfl
theorem and_pos (b : Int32) : 0 ≤ (b &&& 255).toInt ∧ (b &&& 255).toInt < 256 := by
  have h1 := Int32.toBitVec_and b 255
  have h2 : (b &&& 255).toBitVec.toNat ≤ 255 := by
    rw [h1, BitVec.toNat_and]
    exact Nat.and_le_right
  have h3 : (b &&& 255).toInt = (b &&& 255).toBitVec.toInt := rfl
  rw [h3, BitVec.toInt_eq_toNat_of_lt (by omega)]
  omega
section GWN
variable {G : mG} {S S' S0 : mS} {X : Nat → Prop} {B : Nat} {K : List Int32} {vals : Nat → Nat → Int32} {cnt : Nat → Nat} {np : Nat} {kd : Nat → Int32} {lt : Nat → List Int32} {mo : Nat → Mo} {dk : List Int32} {k : Int32} {l : List Int32}
theorem up_same {α : Type} (f : Nat → α) (k : Nat) : va_up f k (f k) = f := by
  funext q
  by_cases h : q = k
  · rw [h, up_s]
  · rw [up_n h]
/-- the row of one letter has changed -/
theorem CS.lrow {p : Nat} {l2 : List Int32} (h : CS G S B (K, vals, cnt, np, kd, lt, mo, dk)) (hp : p < 60) (f : fr S S' (fun q => xS (B + 1) q ∨ xR (B + 154 + 3 * p + 1) q)) (hs : ∃ lm ld, Sha G S' (B + 1) lm ld) (hn : Rl G S' (B + 154 + 3 * p + 1) 297 l2) : fr S S' (xW B) ∧ CS G S' B (K, vals, cnt, np, kd, va_up lt p l2, mo, dk) := by
  have e := h.let (S' := S') (p := p) (n2 := np) (k := kd p) (l := l2) hp h.2.2.2.2.2.2.2.1 (f.mono (fun q z => by omega)) (h.1.fr f (by omega)) ⟨hs, by
    obtain ⟨o, w, h5⟩ := h.2.1.2.1
    exact ⟨o, w, h5.keep f (fun q a b => by omega)⟩, by
    obtain ⟨t, h6⟩ := h.2.1.2.2
    exact ⟨t, h6.fr f (by omega) (by omega)⟩⟩ ⟨(h.2.2.2.2.2.2.1 p hp).1.fr f (by omega), hn⟩
  rw [up_same] at e
  exact ⟨f.mono (fun q z => by omega), e⟩
theorem c_X7_alter {a i x : Int32} (h : CS G S B (K, vals, cnt, np, kd, lt, mo, dk)) :
    mCon G yX7_alter cX7_alter 5 (some .int) (rmD 6) [.ref B, .int a, .int i, .int x] S (oK G S B (oAlt (K, vals, cnt, np, kd, lt, mo, dk) a i x)) := by
  have hall := h
  obtain ⟨h1, ⟨hsh, h2⟩, h3, h4, h5, h6, h7, h8, h9⟩ := h
  refine mCon.of (I := miX7 false (some .int)) (by decide) rfl rfl (fun h => by cases h) (fun _ => rfl) (Nat.le_of_ble_eq_true rfl) ?_
  show Gd _ _ _ _ _ _ _ _ 0 [(0, .ref B), (1, .int a), (2, .int i), (3, .int x)] [] (0, 0) _
  refine Gd.of (ckX7 _ _) tX7_alter_ok (cuts := fun _ => none) 100 ?_
  by_cases hv : inR a np
  · have hl := h7 a.toInt.toNat (by omega)
    generalize hp : a.toInt.toNat = p at *
    refine ⟨rfl, Nat.le_of_ble_eq_true rfl, ?_⟩
    refine eV.i h1 ?_
    refine eC.z (c_letterOf hall hv) ⟨rfl, rfl⟩ ⟨Nat.le_of_ble_eq_true rfl, Nat.le_of_ble_eq_true rfl⟩ ⟨Nat.zero_le _, Nat.zero_le _⟩ (fun v S1 hk => ?_)
    obtain ⟨rfl, rfl⟩ := hk
    rw [hp]
    refine eG.i hl.1 rfl ?_
    refine ⟨rfl, Nat.le_of_ble_eq_true rfl, ?_⟩
    refine eV.i hl.2.obj ?_
    refine eC.z (c_Row_has hl.2) ⟨rfl, rfl⟩ ⟨Nat.le_of_ble_eq_true rfl, Nat.le_of_ble_eq_true rfl⟩ ⟨Nat.zero_le _, Nat.zero_le _⟩ (fun v S1 hk => ?_)
    obtain ⟨rfl, rfl⟩ := hk
    refine eB.i (fun q => ?_) (fun q => ?_)
    · refine eR.int (oK.no hall ?_ rfl)
      show (if _ then _ else _) = _
      rw [hp, if_neg]
      intro z
      rw [if_pos z.2] at q
      exact absurd q (by decide)
    · have hi : inR i (lt p).length := by
        by_cases z : inR i (lt p).length
        · exact z
        · rw [if_neg z] at q; exact absurd rfl q
      refine eG.i hl.1 rfl ?_
      refine eG.i hl.1 rfl ?_
      refine ⟨rfl, Nat.le_of_ble_eq_true rfl, ?_⟩
      refine eV.i hl.2.obj ?_
      refine eC.z (c_Row_at hl.2) ⟨rfl, rfl⟩ ⟨Nat.le_of_ble_eq_true rfl, Nat.le_of_ble_eq_true rfl⟩ ⟨Nat.zero_le _, Nat.zero_le _⟩ (fun v S1 hk => ?_)
      obtain ⟨rfl, rfl⟩ := hk
      refine ⟨rfl, Nat.le_of_ble_eq_true rfl, ?_⟩
      refine eV.i hl.2.obj ?_
      refine eC.z (c_Row_put hl.2) ⟨rfl, rfl⟩ ⟨Nat.le_of_ble_eq_true rfl, Nat.le_of_ble_eq_true rfl⟩ ⟨Nat.zero_le _, Nat.zero_le _⟩ (fun v S1 hk => ?_)
      obtain ⟨rfl, f1, r1⟩ := hk
      rw [if_pos hi] at r1
      refine eG.i (hl.1.fr f1 (by omega)) rfl ?_
      refine ⟨rfl, Nat.le_of_ble_eq_true rfl, ?_⟩
      refine eV.i r1.obj ?_
      refine eC.z (c_Row_at r1) ⟨rfl, rfl⟩ ⟨Nat.le_of_ble_eq_true rfl, Nat.le_of_ble_eq_true rfl⟩ ⟨Nat.zero_le _, Nat.zero_le _⟩ (fun v S2 hk => ?_)
      obtain ⟨rfl, rfl⟩ := hk
      obtain ⟨lm, ld, s0⟩ := hsh
      obtain ⟨z1, z2⟩ := hall.lrow (by omega) (f1.mono (fun q z => Or.inr z)) ⟨lm, ld, s0.keep f1 (fun q a b => by omega)⟩ r1
      refine eR.int ?_
      have e : oAlt (K, vals, cnt, np, kd, lt, mo, dk) a i x = ((rAt (lt p) i ^^^ x).toInt8.toInt32 &&& 255, K, vals, cnt, np, kd, va_up lt p ((lt p).set i.toInt.toNat (rAt (lt p) i ^^^ x).toInt8.toInt32), mo, dk) := by
        show (if _ then _ else _) = _
        rw [hp, if_pos ⟨hv, hi⟩]
      rw [e]
      refine ⟨?_, z1, z2⟩
      rw [rAt, if_pos (by rw [List.length_set]; exact hi), List.getD_eq_getElem?_getD, List.getElem?_set_self (by omega)]
      rfl
  · refine ⟨rfl, Nat.le_of_ble_eq_true rfl, ?_⟩
    refine eV.i h1 ?_
    refine eC.z (c_letterOf_no hall hv) ⟨rfl, rfl⟩ ⟨Nat.le_of_ble_eq_true rfl, Nat.le_of_ble_eq_true rfl⟩ ⟨Nat.zero_le _, Nat.zero_le _⟩ (fun v S1 hk => ?_)
    obtain ⟨rfl, rfl⟩ := hk
    refine eR.int (oK.no hall ?_ rfl)
    show (if _ then _ else _) = _
    rw [if_neg (fun z => hv z.1)]
theorem hashN_ok {k : Int32} {l : List Int32} (h : okL k l) : (k = 0 ∧ hashN k l = -1) ∨ (¬ k = 0 ∧ hashN k l = nI (hcN k l) ∧ l.length = hcB k + 32 * hcN k l ∧ hcN k l ≤ 8) := by
  rcases h with ⟨rfl, h⟩ | ⟨rfl, c, hc, h⟩ | ⟨rfl, c, hc, h⟩
  · exact Or.inl ⟨rfl, rfl⟩
  · right
    have e : hcN 1 l = c := by show (l.length - 41) / 32 = c; omega
    rw [e]
    refine ⟨by decide, ?_, h, hc⟩
    show (nI l.length - 41) / 32 = nI c
    rw [show (41 : Int32) = nI 41 from rfl, pk_sub (by omega), h, show 41 + 32 * c - 41 = 32 * c by omega]
    have : ∀ c, c < 9 → nI (32 * c) / 32 = nI c := by decide
    exact this c (by omega)
  · right
    have e : hcN 2 l = c := by show (l.length - 13) / 32 = c; omega
    rw [e]
    refine ⟨by decide, ?_, h, hc⟩
    show (nI l.length - 13) / 32 = nI c
    rw [show (13 : Int32) = nI 13 from rfl, pk_sub (by omega), h, show 13 + 32 * c - 13 = 32 * c by omega]
    have : ∀ c, c < 9 → nI (32 * c) / 32 = nI c := by decide
    exact this c (by omega)
theorem rsz_take {l : List Int32} {n : Nat} (h : n ≤ l.length) : rsz l n = l.take n := by
  rw [rsz, show n - l.length = 0 by omega]
  exact List.append_nil _
theorem c_X7_cut {a n : Int32} (hi : Inv (K, vals, cnt, np, kd, lt, mo, dk)) (h : CS G S B (K, vals, cnt, np, kd, lt, mo, dk)) :
    mCon G yX7_cut cX7_cut 5 (some .int) (rmD 6) [.ref B, .int a, .int n] S (oK G S B (oCut (K, vals, cnt, np, kd, lt, mo, dk) a n)) := by
  have hall := h
  obtain ⟨h1, ⟨hsh, h2⟩, h3, h4, h5, h6, h7, h8, h9⟩ := h
  refine mCon.of (I := miX7 false (some .int)) (by decide) rfl rfl (fun h => by cases h) (fun _ => rfl) (Nat.le_of_ble_eq_true rfl) ?_
  show Gd _ _ _ _ _ _ _ _ 0 [(0, .ref B), (1, .int a), (2, .int n)] [] (0, 0) _
  refine Gd.of (ckX7 _ _) tX7_cut_ok (cuts := fun _ => none) 100 ?_
  by_cases hv : inR a np
  · have hl := h7 a.toInt.toNat (by omega)
    have ho := hashN_ok (hi.1 a.toInt.toNat (by omega))
    generalize hp : a.toInt.toNat = p at *
    have hno : ∀ (x : Option Value), x = some (.int (-1)) → ¬ (¬ kd p = 0 ∧ inR n (hcN (kd p) (lt p) + 1)) → oK G S B (oCut (K, vals, cnt, np, kd, lt, mo, dk) a n) x S := by
      intro x hx hc
      refine oK.no hall ?_ hx
      show (if _ then _ else _) = _
      rw [hp, if_neg (fun z => hc z.2)]
    refine ⟨rfl, Nat.le_of_ble_eq_true rfl, ?_⟩
    refine eV.i h1 ?_
    refine eC.z (c_letterOf hall hv) ⟨rfl, rfl⟩ ⟨Nat.le_of_ble_eq_true rfl, Nat.le_of_ble_eq_true rfl⟩ ⟨Nat.zero_le _, Nat.zero_le _⟩ (fun v S1 hk => ?_)
    obtain ⟨rfl, rfl⟩ := hk
    rw [hp]
    refine eB.i (fun q => ?_) (fun q => ?_)
    · rw [i_lt0] at q
      exact eR.int (hno _ rfl (by omega))
    · rw [i_lt0] at q
      refine ⟨rfl, Nat.le_of_ble_eq_true rfl, ?_⟩
      refine eV.i hl.1 ?_
      refine eC.z (c_Lett_hashCount hl) ⟨rfl, rfl⟩ ⟨Nat.le_of_ble_eq_true rfl, Nat.le_of_ble_eq_true rfl⟩ ⟨Nat.zero_le _, Nat.zero_le _⟩ (fun v S1 hk => ?_)
      obtain ⟨rfl, rfl⟩ := hk
      rcases ho with ⟨k0, e0⟩ | ⟨k0, e0, e1, e2⟩
      · rw [e0]
        refine eB.f ?_ ?_
        · rw [Int32.le_iff_toInt_le, show (-1 : Int32).toInt = -1 from rfl]; omega
        · exact eR.int (hno _ rfl (fun z => z.1 k0))
      · rw [e0]
        refine eB.i (fun q2 => ?_) (fun q2 => ?_)
        · rw [i_len (by omega)] at q2
          have hn3 : n = nI n.toInt.toNat := i_of (by omega)
          generalize hn : n.toInt.toNat = u at *
          refine ⟨rfl, Nat.le_of_ble_eq_true rfl, ?_⟩
          refine eV.i hl.1 ?_
          refine eC.z (c_Lett_hashCount hl) ⟨rfl, rfl⟩ ⟨Nat.le_of_ble_eq_true rfl, Nat.le_of_ble_eq_true rfl⟩ ⟨Nat.zero_le _, Nat.zero_le _⟩ (fun v S1 hk => ?_)
          obtain ⟨rfl, rfl⟩ := hk
          rw [e0]
          refine eG.i hl.1 rfl ?_
          refine eG.i hl.1 rfl ?_
          refine eG.i hl.2.obj rfl ?_
          have es : nI (hcN (kd p) (lt p)) - n = nI (hcN (kd p) (lt p) - u) := by rw [hn3, pk_sub (by omega)]
          have hcb : hcB (kd p) ≤ 41 := by unfold hcB; split <;> omega
          have et : nI (lt p).length - (nI (hcN (kd p) (lt p)) - n) * 32 = nI (hcB (kd p) + 32 * u) := by
            rw [es, show (32 : Int32) = nI 32 from rfl, pk_mul, pk_sub (by omega)]
            congr 1
            omega
          have hc := c_Row_resize (n := hcB (kd p) + 32 * u) hl.2 (by omega)
          rw [← et] at hc
          refine ⟨rfl, Nat.le_of_ble_eq_true rfl, ?_⟩
          refine eV.i hl.2.obj ?_
          refine eC.z (hc) ⟨rfl, rfl⟩ ⟨Nat.le_of_ble_eq_true rfl, Nat.le_of_ble_eq_true rfl⟩ ⟨Nat.zero_le _, Nat.zero_le _⟩ (fun v S1 hk => ?_)
          obtain ⟨rfl, f1, r1⟩ := hk
          rw [rsz_take (by omega)] at r1
          obtain ⟨lm, ld, s0⟩ := hsh
          obtain ⟨z1, z2⟩ := hall.lrow (by omega) (f1.mono (fun q z => Or.inr z)) ⟨lm, ld, s0.keep f1 (fun q a b => by omega)⟩ r1
          refine eR.int ?_
          have e : oCut (K, vals, cnt, np, kd, lt, mo, dk) a n = (nI (hcN (kd p) (lt p) - u), K, vals, cnt, np, kd, va_up lt p ((lt p).take (hcB (kd p) + 32 * u)), mo, dk) := by
            show (if _ then _ else _) = _
            rw [hp, hn, if_pos ⟨hv, k0, by omega⟩]
          rw [e, es]
          exact ⟨rfl, z1, z2⟩
        · rw [i_len (by omega)] at q2
          exact eR.int (hno _ rfl (by omega))
  · refine ⟨rfl, Nat.le_of_ble_eq_true rfl, ?_⟩
    refine eV.i h1 ?_
    refine eC.z (c_letterOf_no hall hv) ⟨rfl, rfl⟩ ⟨Nat.le_of_ble_eq_true rfl, Nat.le_of_ble_eq_true rfl⟩ ⟨Nat.zero_le _, Nat.zero_le _⟩ (fun v S1 hk => ?_)
    obtain ⟨rfl, rfl⟩ := hk
    refine eR.int (oK.no hall ?_ rfl)
    show (if _ then _ else _) = _
    rw [if_neg (fun z => hv z.1)]
theorem c_X7_sign {a : Int32} (hG : GOK G) (hi : Inv (K, vals, cnt, np, kd, lt, mo, dk)) (h : CS G S B (K, vals, cnt, np, kd, lt, mo, dk)) :
    mCon G yX7_sign cX7_sign 4 (some .boolean) (rmD 6) [.ref B, .int a] S (oK G S B (oSig (K, vals, cnt, np, kd, lt, mo, dk) a)) := by
  have hall := h
  obtain ⟨h1, ⟨⟨lm, ld, hsh⟩, h2⟩, h3, h4, h5, h6, h7, h8, h9⟩ := h
  refine mCon.of (I := miX7 false (some .boolean)) (by decide) rfl rfl (fun h => by cases h) (fun _ => rfl) (Nat.le_of_ble_eq_true rfl) ?_
  show Gd _ _ _ _ _ _ _ _ 0 [(0, .ref B), (1, .int a)] [] (0, 0) _
  refine Gd.of (ckX7 _ _) tX7_sign_ok (cuts := fun _ => none) 100 ?_
  by_cases hv : inR a np
  · have hl := h7 a.toInt.toNat (by omega)
    have ho := hi.1 a.toInt.toNat (by omega)
    generalize hp : a.toInt.toNat = p at *
    have hno : ∀ (x : Option Value), x = some (.int 0) → ¬ (kd p = 0 ∧ (rAt (lt p) 0).toInt < 4) → oK G S B (oSig (K, vals, cnt, np, kd, lt, mo, dk) a) x S := by
      intro x hx hc
      refine oK.no hall ?_ hx
      show (if _ then _ else _) = _
      rw [hp, if_neg (fun z => hc z.2)]
    refine ⟨rfl, Nat.le_of_ble_eq_true rfl, ?_⟩
    refine eV.i h1 ?_
    refine eC.z (c_letterOf hall hv) ⟨rfl, rfl⟩ ⟨Nat.le_of_ble_eq_true rfl, Nat.le_of_ble_eq_true rfl⟩ ⟨Nat.zero_le _, Nat.zero_le _⟩ (fun v S1 hk => ?_)
    obtain ⟨rfl, rfl⟩ := hk
    rw [hp]
    refine eG.i hl.1 rfl ?_
    refine eB.i (fun q => ?_) (fun q => ?_)
    · have hlen : (lt p).length = 45 := by
        rcases ho with ⟨-, e⟩ | ⟨e, -⟩ | ⟨e, -⟩
        · exact e
        · rw [e] at q; exact absurd q (by decide)
        · rw [e] at q; exact absurd q (by decide)
      refine eG.i hl.1 rfl ?_
      refine ⟨rfl, Nat.le_of_ble_eq_true rfl, ?_⟩
      refine eV.i hl.2.obj ?_
      refine eC.z (c_Row_at hl.2) ⟨rfl, rfl⟩ ⟨Nat.le_of_ble_eq_true rfl, Nat.le_of_ble_eq_true rfl⟩ ⟨Nat.zero_le _, Nat.zero_le _⟩ (fun v S1 hk => ?_)
      obtain ⟨rfl, rfl⟩ := hk
      have ea := rAt_0n (l := lt p) (by omega)
      have ep := and_pos ((lt p).getD 0 0)
      rw [← ea] at ep
      refine eB.i (fun q2 => ?_) (fun q2 => ?_)
      · have q3 : (rAt (lt p) 0).toInt < 4 := (i_ltn (n := 4) (by decide)).mp q2
        refine eG.i h1 rfl ?_
        refine eG.i h1 rfl ?_
        refine eG.i hl.1 rfl ?_
        refine ⟨rfl, Nat.le_of_ble_eq_true rfl, ?_⟩
        refine eV.i h3.1 ?_
        refine eC.z (c_Keys_signFor (ls := 0) (ss := 1) (g := (rAt (lt p) 0).toInt.toNat) hG hsh h3 hl.2 (by omega) (by omega) (by omega) (i_of ep.1) (by omega)) ⟨rfl, rfl⟩ ⟨Nat.le_of_ble_eq_true rfl, Nat.le_of_ble_eq_true rfl⟩ ⟨Nat.zero_le _, Nat.zero_le _⟩ (fun v S1 hk => ?_)
        obtain ⟨rfl, f1, lm1, s1⟩ := hk
        have hl1 := hl.keep f1 (fun q a b => by omega)
        refine eG.i hl1.1 rfl ?_
        refine ⟨rfl, Nat.le_of_ble_eq_true rfl, ?_⟩
        refine eV.i hl1.2.obj ?_
        refine eC.z (c_Row_resize (n := 37) hl1.2 (by omega)) ⟨rfl, rfl⟩ ⟨Nat.le_of_ble_eq_true rfl, Nat.le_of_ble_eq_true rfl⟩ ⟨Nat.zero_le _, Nat.zero_le _⟩ (fun v S2 hk => ?_)
        obtain ⟨rfl, f2, r2⟩ := hk
        rw [rsz_take (by omega)] at r2
        have s2 := s1.keep f2 (fun q a b => by omega)
        refine eG.i (hl1.1.fr f2 (by omega)) rfl ?_
        refine ⟨rfl, Nat.le_of_ble_eq_true rfl, ?_⟩
        refine eV.i r2.obj ?_
        refine eC.z (c_Row_addPart (s := 0) (c := 8) r2 s2.d (by omega) (by rw [sgn, sha_len]; omega) (by rw [List.length_take]; omega)) ⟨rfl, rfl⟩ ⟨Nat.le_of_ble_eq_true rfl, Nat.le_of_ble_eq_true rfl⟩ ⟨Nat.zero_le _, Nat.zero_le _⟩ (fun v S3 hk => ?_)
        obtain ⟨rfl, f3, r3⟩ := hk
        obtain ⟨z1, z2⟩ := hall.lrow (by omega) ((f1.mono (fun q z => Or.inl z)).tr ((f2.tr f3).mono (fun q z => Or.inr z))) ⟨_, _, s2.keep f3 (fun q a b => by omega)⟩ r3
        have e : oSig (K, vals, cnt, np, kd, lt, mo, dk) a = (1, K, vals, cnt, np, kd, va_up lt p ((lt p).take 37 ++ part (sgn K (rAt (lt p) 0).toInt.toNat (part (lt p) 1 36)) 0 8), mo, dk) := by
          show (if _ then _ else _) = _
          rw [hp, if_pos ⟨hv, q, q3⟩]
        refine eR.t ?_
        rw [e]
        exact ⟨rfl, z1, z2⟩
      · exact eR.f (hno _ rfl (fun z => q2 ((i_ltn (n := 4) (by decide)).mpr z.2)))
    · exact eR.f (hno _ rfl (fun z => q z.1))
  · refine ⟨rfl, Nat.le_of_ble_eq_true rfl, ?_⟩
    refine eV.i h1 ?_
    refine eC.z (c_letterOf_no hall hv) ⟨rfl, rfl⟩ ⟨Nat.le_of_ble_eq_true rfl, Nat.le_of_ble_eq_true rfl⟩ ⟨Nat.zero_le _, Nat.zero_le _⟩ (fun v S1 hk => ?_)
    obtain ⟨rfl, rfl⟩ := hk
    refine eR.f (oK.no hall ?_ rfl)
    show (if _ then _ else _) = _
    rw [if_neg (fun z => hv z.1)]
theorem c_X7_clear (h : CS G S B (K, vals, cnt, np, kd, lt, mo, dk)) :
    mCon G yX7_clear cX7_clear 2 (some .int) (rmD 6) [.ref B] S (oK G S B (oClr (K, vals, cnt, np, kd, lt, mo, dk))) := by
  refine mCon.of (I := miX7 false (some .int)) (by decide) rfl rfl (fun h => by cases h) (fun _ => rfl) (Nat.le_of_ble_eq_true rfl) ?_
  show Gd _ _ _ _ _ _ _ _ 0 [(0, .ref B)] [] (0, 0) _
  refine Gd.of (ckX7 _ _) tX7_clear_ok (cuts := fun _ => none) 40 ?_
  refine eG.i h.1 rfl ?_
  refine ⟨Or.inl rfl, ?_⟩
  refine eP.i h.1 (Nat.le_of_ble_eq_true rfl) rfl rfl ?_
  exact eR.int ⟨rfl, fr.up (by show _ ∧ _; omega), h.num (by omega) (fr.up rfl) h.1.up⟩
theorem c_X7_letters (h : CS G S B (K, vals, cnt, np, kd, lt, mo, dk)) :
    mCon G yX7_letters cX7_letters 1 (some .int) (rmD 6) [.ref B] S (oK G S B (oLts (K, vals, cnt, np, kd, lt, mo, dk))) := by
  refine mCon.of (I := miX7 false (some .int)) (by decide) rfl rfl (fun h => by cases h) (fun _ => rfl) (Nat.le_of_ble_eq_true rfl) ?_
  show Gd _ _ _ _ _ _ _ _ 0 [(0, .ref B)] [] (0, 0) _
  refine Gd.of (ckX7 _ _) tX7_letters_ok (cuts := fun _ => none) 40 ?_
  refine eG.i h.1 rfl ?_
  exact eR.int ⟨rfl, fr.rf, h⟩
theorem c_X7_letter {a i : Int32} (h : CS G S B (K, vals, cnt, np, kd, lt, mo, dk)) :
    mCon G yX7_letter cX7_letter 4 (some .int) (rmD 6) [.ref B, .int a, .int i] S (oK G S B (oLet (K, vals, cnt, np, kd, lt, mo, dk) a i)) := by
  have hall := h
  obtain ⟨h1, ⟨hsh, h2⟩, h3, h4, h5, h6, h7, h8, h9⟩ := h
  refine mCon.of (I := miX7 false (some .int)) (by decide) rfl rfl (fun h => by cases h) (fun _ => rfl) (Nat.le_of_ble_eq_true rfl) ?_
  show Gd _ _ _ _ _ _ _ _ 0 [(0, .ref B), (1, .int a), (2, .int i)] [] (0, 0) _
  refine Gd.of (ckX7 _ _) tX7_letter_ok (cuts := fun _ => none) 100 ?_
  by_cases hv : inR a np
  · have hl := h7 a.toInt.toNat (by omega)
    generalize hp : a.toInt.toNat = p at *
    refine ⟨rfl, Nat.le_of_ble_eq_true rfl, ?_⟩
    refine eV.i h1 ?_
    refine eC.z (c_letterOf hall hv) ⟨rfl, rfl⟩ ⟨Nat.le_of_ble_eq_true rfl, Nat.le_of_ble_eq_true rfl⟩ ⟨Nat.zero_le _, Nat.zero_le _⟩ (fun v S1 hk => ?_)
    obtain ⟨rfl, rfl⟩ := hk
    rw [hp]
    refine eB.i (fun q => ?_) (fun q => ?_)
    · refine eG.i hl.1 rfl ?_
      refine eR.int (oK.no hall ?_ rfl)
      show (if _ then _ else _, _) = _
      rw [hp, if_neg (fun z => z hv), if_pos q]
    · refine eB.i (fun q2 => ?_) (fun q2 => ?_)
      · refine eG.i hl.1 rfl ?_
        refine eG.i hl.2.obj rfl ?_
        refine eR.int (oK.no hall ?_ rfl)
        show (if _ then _ else _, _) = _
        rw [hp, if_neg (fun z => z hv), if_neg q, if_pos q2]
      · refine eG.i hl.1 rfl ?_
        refine ⟨rfl, Nat.le_of_ble_eq_true rfl, ?_⟩
        refine eV.i hl.2.obj ?_
        refine eC.z (c_Row_at hl.2) ⟨rfl, rfl⟩ ⟨Nat.le_of_ble_eq_true rfl, Nat.le_of_ble_eq_true rfl⟩ ⟨Nat.zero_le _, Nat.zero_le _⟩ (fun v S1 hk => ?_)
        obtain ⟨rfl, rfl⟩ := hk
        refine eR.int (oK.no hall ?_ rfl)
        show (if _ then _ else _, _) = _
        rw [hp, if_neg (fun z => z hv), if_neg q, if_neg q2]
  · refine ⟨rfl, Nat.le_of_ble_eq_true rfl, ?_⟩
    refine eV.i h1 ?_
    refine eC.z (c_letterOf_no hall hv) ⟨rfl, rfl⟩ ⟨Nat.le_of_ble_eq_true rfl, Nat.le_of_ble_eq_true rfl⟩ ⟨Nat.zero_le _, Nat.zero_le _⟩ (fun v S1 hk => ?_)
    obtain ⟨rfl, rfl⟩ := hk
    refine eR.int (oK.no hall ?_ rfl)
    show (if _ then _ else _, _) = _
    rw [if_pos hv]
end GWN
