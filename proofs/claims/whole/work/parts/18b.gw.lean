/-! calls that make letters, and what they answer -/
abbrev xN (B p : Nat) : Nat → Prop := fun q => q = B ∨ xT B q ∨ (B + 154 + 3 * p ≤ q ∧ q ≤ B + 156 + 3 * p)
def oK (G : mG) (S : mS) (B : Nat) (r : Int32 × Sg) : Option Value → mS → Prop := fun v S' => v = some (.int r.1) ∧ fr S S' (xW B) ∧ CS G S' B r.2
def oApp (s : Sg) (g w x : Int32) : Int32 × Sg := match s with
  | (K, vals, cnt, np, kd, lt, mo, dk) => if inV g w ∧ cnt (vN g w) < 80 then (nI (cnt (vN g w) + 1), K, va_up vals (vN g w) (upd (vals (vN g w)) (cnt (vN g w)) x), va_up cnt (vN g w) (cnt (vN g w) + 1), np, kd, lt, mo, dk) else (-1, K, vals, cnt, np, kd, lt, mo, dk)
def oLvs (s : Sg) (g w : Int32) : Int32 × Sg := match s with
  | (K, vals, cnt, np, kd, lt, mo, dk) => (if inV g w then nI (cnt (vN g w)) else -1, K, vals, cnt, np, kd, lt, mo, dk)
def hdB (K : List Int32) (g : Int32) (vs : Nat → Int32) (n : Int32) : List Int32 := ([g] ++ be4 n ++ mth vs 0 n.toInt.toNat) ++ part (sgn K g.toInt.toNat (be4 n ++ mth vs 0 n.toInt.toNat)) 0 8
def pfB (g : Int32) (vs : Nat → Int32) (m n : Int32) : List Int32 := (([g] ++ be4 m) ++ be4 n) ++ mth vs 0 m.toInt.toNat ++ cat vs (prfN 7 0 n.toInt.toNat m.toInt.toNat).reverse
def ptB (g : Int32) (vs : Nat → Int32) (n i : Int32) : List Int32 := (([g] ++ be4 n) ++ be4 i) ++ be4 (vs i.toInt.toNat) ++ cat vs (pathN 7 0 n.toInt.toNat i.toInt.toNat).reverse
def oHd (s : Sg) (g w n : Int32) : Int32 × Sg := match s with
  | (K, vals, cnt, np, kd, lt, mo, dk) => if inV g w ∧ (0 ≤ n.toInt ∧ n.toInt ≤ cnt (vN g w)) ∧ np < 60 then (nI np, K, vals, cnt, np + 1, va_up kd np 0, va_up lt np (hdB K g (vals (vN g w)) n), mo, dk) else (-1, K, vals, cnt, np, kd, lt, mo, dk)
def oPf (s : Sg) (g w m n : Int32) : Int32 × Sg := match s with
  | (K, vals, cnt, np, kd, lt, mo, dk) => if inV g w ∧ (0 < m.toInt ∧ m.toInt < n.toInt ∧ n.toInt ≤ cnt (vN g w)) ∧ np < 60 then (nI np, K, vals, cnt, np + 1, va_up kd np 1, va_up lt np (pfB g (vals (vN g w)) m n), mo, dk) else (-1, K, vals, cnt, np, kd, lt, mo, dk)
def oPt (s : Sg) (g w n i : Int32) : Int32 × Sg := match s with
  | (K, vals, cnt, np, kd, lt, mo, dk) => if inV g w ∧ (0 ≤ i.toInt ∧ i.toInt < n.toInt ∧ n.toInt ≤ cnt (vN g w)) ∧ np < 60 then (nI np, K, vals, cnt, np + 1, va_up kd np 2, va_up lt np (ptB g (vals (vN g w)) n i), mo, dk) else (-1, K, vals, cnt, np, kd, lt, mo, dk)
section GWL
variable {G : mG} {S S' S0 : mS} {X : Nat → Prop} {B : Nat} {K : List Int32} {vals : Nat → Nat → Int32} {cnt : Nat → Nat} {np : Nat} {kd : Nat → Int32} {lt : Nat → List Int32} {mo : Nat → Mo} {dk : List Int32} {k : Int32} {l : List Int32}
theorem oK.no {x : Int32} {s : Sg} {r : Int32 × Sg} {v : Option Value} (h : CS G S B s) (hr : r = (x, s)) (hv : v = some (.int x)) : oK G S B r v S := by
  rw [hr]
  exact ⟨hv, fr.rf, h⟩
/-- a letter that is being written -/
def PL (G : mG) (S0 S : mS) (B np : Nat) (k : Int32) (l : List Int32) : Prop := fr S0 S (xN B np) ∧ mAt G S B (cwO B (np + 1)) ∧ Lt G S (B + 154 + 3 * np) k l ∧ Scr G S B
theorem PL.done (h : CS G S0 B (K, vals, cnt, np, kd, lt, mo, dk)) (hn : np < 60) (p : PL G S0 S B np k l) : fr S0 S (xW B) ∧ CS G S B (K, vals, cnt, np + 1, va_up kd np k, va_up lt np l, mo, dk) :=
  ⟨p.1.mono (fun q z => by omega), h.let hn (by omega) p.1 p.2.1 p.2.2.2 p.2.2.1⟩
theorem PL.row {l2 : List Int32} (hn : np < 60) (p : PL G S0 S B np k l) (f : fr S S' (xR (B + 154 + 3 * np + 1))) (h : Rl G S' (B + 154 + 3 * np + 1) 297 l2) : PL G S0 S' B np k l2 := by
  obtain ⟨p1, p2, p3, p4⟩ := p
  exact ⟨p1.tr (f.mono (fun q z => by omega)), p2.fr f (by omega), ⟨p3.1.fr f (by omega), h⟩, p4.keep f (fun q z => by omega)⟩
theorem PL.sha (hn : np < 60) (p : PL G S0 S B np k l) (f : fr S S' (xS (B + 1))) (h : ∃ lm ld, Sha G S' (B + 1) lm ld) : PL G S0 S' B np k l := by
  obtain ⟨p1, p2, p3, p4, ⟨o, w, p5⟩, t, p6⟩ := p
  exact ⟨p1.tr (f.mono (fun q z => by omega)), p2.fr f (by omega), p3.keep f (fun q a b => by omega), h, ⟨o, w, p5.keep f (fun q a b => by omega)⟩, t, p6.fr f (by omega) (by omega)⟩
theorem PL.stk {t : List Int32} (hn : np < 60) (p : PL G S0 S B np k l) (f : fr S S' (fun q => xS (B + 1) q ∨ xR (B + 693) q)) (h : ∃ lm ld, Sha G S' (B + 1) lm ld) (ht : Rl G S' (B + 693) 256 t) : PL G S0 S' B np k l := by
  obtain ⟨p1, p2, p3, p4, ⟨o, w, p5⟩, -⟩ := p
  exact ⟨p1.tr (f.mono (fun q z => by omega)), p2.fr f (by omega), p3.keep f (fun q a b => by omega), h, ⟨o, w, p5.keep f (fun q a b => by omega)⟩, t, ht⟩
theorem PL.beg {S1 : mS} {g : Int32} (h : CS G S B (K, vals, cnt, np, kd, lt, mo, dk)) (hn : np < 60) (f : fr S S1 (xL B np)) (h0 : mAt G S1 B (cwO B (np + 1))) (hl : Lt G S1 (B + 154 + 3 * np) k [g]) : PL G S S1 B np k [g] :=
  ⟨f.mono (fun q z => by omega), h0, hl, h.2.1.keep f (fun q z => by omega)⟩
theorem c_X7_append {g w x : Int32} (hG : GOK G) (h : CS G S B (K, vals, cnt, np, kd, lt, mo, dk)) :
    mCon G yX7_append cX7_append 5 (some .int) (rmD 6) [.ref B, .int g, .int w, .int x] S (oK G S B (oApp (K, vals, cnt, np, kd, lt, mo, dk) g w x)) := by
  have hall := h
  obtain ⟨h1, ⟨⟨lm, ld, h2⟩, h2'⟩, h3, h4, h5, h6⟩ := h
  refine mCon.of (I := miX7 false (some .int)) (by decide) rfl rfl (fun h => by cases h) (fun _ => rfl) (Nat.le_of_ble_eq_true rfl) ?_
  show Gd _ _ _ _ _ _ _ _ 0 [(0, .ref B), (1, .int g), (2, .int w), (3, .int x)] [] (0, 0) _
  refine Gd.of (ckX7 _ _) tX7_append_ok (cuts := fun _ => none) 60 ?_
  by_cases hv : inV g w
  · have hv8 := (vN_ok hv).1
    have hw := h5 _ hv8
    refine ⟨rfl, Nat.le_of_ble_eq_true rfl, ?_⟩
    refine eV.i h1 ?_
    refine eC.z (c_viewOf hall hv) ⟨rfl, rfl⟩ ⟨Nat.le_of_ble_eq_true rfl, Nat.le_of_ble_eq_true rfl⟩ ⟨Nat.zero_le _, Nat.zero_le _⟩ (fun v S1 hk => ?_)
    obtain ⟨rfl, rfl⟩ := hk
    refine ⟨rfl, Nat.le_of_ble_eq_true rfl, ?_⟩
    refine eV.i hw.1 ?_
    refine eC.z (c_View_isFull hw) ⟨rfl, rfl⟩ ⟨Nat.le_of_ble_eq_true rfl, Nat.le_of_ble_eq_true rfl⟩ ⟨Nat.zero_le _, Nat.zero_le _⟩ (fun v S1 hk => ?_)
    obtain ⟨rfl, rfl⟩ := hk
    have h80 := hw.2.2.2.1
    refine eB.i (fun q => ?_) (fun q => ?_)
    · have hc : cnt (vN g w) < 80 := by
        by_cases e : cnt (vN g w) = 80
        · rw [if_pos e] at q; exact absurd q (by decide)
        · omega
      refine eG.i h1 rfl ?_
      refine ⟨rfl, Nat.le_of_ble_eq_true rfl, ?_⟩
      refine eV.i hw.1 ?_
      refine eC.z (c_View_addLeaf hG hw h2 (by omega) hc) ⟨rfl, rfl⟩ ⟨Nat.le_of_ble_eq_true rfl, Nat.le_of_ble_eq_true rfl⟩ ⟨Nat.zero_le _, Nat.zero_le _⟩ (fun v S1 hk => ?_)
      obtain ⟨rfl, f1, s1, w1⟩ := hk
      refine eG.i w1.1 rfl ?_
      have e : oApp (K, vals, cnt, np, kd, lt, mo, dk) g w x = (nI (cnt (vN g w) + 1), K, va_up vals (vN g w) (upd (vals (vN g w)) (cnt (vN g w)) x), va_up cnt (vN g w) (cnt (vN g w) + 1), np, kd, lt, mo, dk) := by
        show (if _ then _ else _) = _
        rw [if_pos ⟨hv, hc⟩]
      refine eR.int ?_
      rw [e]
      exact ⟨rfl, f1.mono (fun q z => by omega), hall.vie hv8 f1 s1 w1⟩
    · have hc : cnt (vN g w) = 80 := by
        by_cases e : cnt (vN g w) = 80
        · exact e
        · rw [if_neg e] at q; exact absurd rfl q
      refine eR.int (oK.no hall ?_ rfl)
      show (if _ then _ else _) = _
      rw [if_neg (by omega)]
  · refine ⟨rfl, Nat.le_of_ble_eq_true rfl, ?_⟩
    refine eV.i h1 ?_
    refine eC.z (c_viewOf_no hv) ⟨rfl, rfl⟩ ⟨Nat.le_of_ble_eq_true rfl, Nat.le_of_ble_eq_true rfl⟩ ⟨Nat.zero_le _, Nat.zero_le _⟩ (fun v S1 hk => ?_)
    obtain ⟨rfl, rfl⟩ := hk
    refine eR.int (oK.no hall ?_ rfl)
    show (if _ then _ else _) = _
    rw [if_neg (fun z => hv z.1)]
theorem c_X7_leaves {g w : Int32} (h : CS G S B (K, vals, cnt, np, kd, lt, mo, dk)) :
    mCon G yX7_leaves cX7_leaves 4 (some .int) (rmD 6) [.ref B, .int g, .int w] S (oK G S B (oLvs (K, vals, cnt, np, kd, lt, mo, dk) g w)) := by
  have hall := h
  obtain ⟨h1, h2, h3, h4, h5, h6⟩ := h
  refine mCon.of (I := miX7 false (some .int)) (by decide) rfl rfl (fun h => by cases h) (fun _ => rfl) (Nat.le_of_ble_eq_true rfl) ?_
  show Gd _ _ _ _ _ _ _ _ 0 [(0, .ref B), (1, .int g), (2, .int w)] [] (0, 0) _
  refine Gd.of (ckX7 _ _) tX7_leaves_ok (cuts := fun _ => none) 60 ?_
  by_cases hv : inV g w
  · have hw := h5 _ (vN_ok hv).1
    refine ⟨rfl, Nat.le_of_ble_eq_true rfl, ?_⟩
    refine eV.i h1 ?_
    refine eC.z (c_viewOf hall hv) ⟨rfl, rfl⟩ ⟨Nat.le_of_ble_eq_true rfl, Nat.le_of_ble_eq_true rfl⟩ ⟨Nat.zero_le _, Nat.zero_le _⟩ (fun v S1 hk => ?_)
    obtain ⟨rfl, rfl⟩ := hk
    refine eG.i hw.1 rfl ?_
    refine eR.int (oK.no hall ?_ rfl)
    show (if _ then _ else _, _) = _
    rw [if_pos hv]
  · refine ⟨rfl, Nat.le_of_ble_eq_true rfl, ?_⟩
    refine eV.i h1 ?_
    refine eC.z (c_viewOf_no hv) ⟨rfl, rfl⟩ ⟨Nat.le_of_ble_eq_true rfl, Nat.le_of_ble_eq_true rfl⟩ ⟨Nat.zero_le _, Nat.zero_le _⟩ (fun v S1 hk => ?_)
    obtain ⟨rfl, rfl⟩ := hk
    refine eR.int (oK.no hall ?_ rfl)
    show (if _ then _ else _, _) = _
    rw [if_neg hv]
theorem g_byte {g : Int32} (h : inR g 4) : g.toInt8.toInt32 = g := by
  rw [i_of h.1]
  exact byte_small (by omega)
theorem rAt_0 {g : Int32} {l : List Int32} (h : inR g 4) : rAt ([g] ++ l) (nI 0) = nI g.toInt.toNat := by
  rw [rAt, if_pos (by rw [nI_toInt (by decide)]; simp)]
  show g &&& 255 = _
  obtain ⟨h1, h2⟩ := h
  have e := i_of h1
  have h4 : g.toInt.toNat < 4 := by omega
  generalize g.toInt.toNat = a at *
  rw [e]
  have : ∀ a, a < 4 → nI a &&& 255 = nI a := by decide
  exact this a h4
end GWL
