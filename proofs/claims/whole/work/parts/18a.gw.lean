/-! the whole object of the class: one state for the class and for the reference -/
abbrev Mo : Type := (Nat × Nat × Nat × Int32 × Int32) × (Nat → List Int32) × (Nat → List Int32) × (Nat → Int32) × (Nat → Nat → Int32)
/-- keys, leaves, their counts, how many letters, their kinds, their bytes, monitors, the desk -/
abbrev Sg : Type := List Int32 × (Nat → Nat → Int32) × (Nat → Nat) × Nat × (Nat → Int32) × (Nat → List Int32) × (Nat → Mo) × List Int32
def MnS (G : mG) (S : mS) (m : Nat) (o : Mo) : Prop := ∃ R : Nat → Nat → Int32, (∀ i, i < o.1.2.2.1 → ∀ x, x < 4 → R i x = o.2.2.2.2 i x) ∧ Mn G S m o.1.1 o.1.2.1 o.1.2.2.1 o.1.2.2.2.1 o.1.2.2.2.2 o.2.1 o.2.2.1 o.2.2.2.1 R
abbrev cwO (B np : Nat) : va_E := .inr (7, [.ref (B + 1), .ref (B + 8), .ref (B + 11), .ref (B + 16), .ref (B + 153), .ref (B + 334), .ref (B + 691), .ref (B + 693), .int (nI np)])
def Scr (G : mG) (S : mS) (B : Nat) : Prop := (∃ lm ld, Sha G S (B + 1) lm ld) ∧ (∃ o w, Cb G S (B + 11) o w) ∧ ∃ l, Rl G S (B + 693) 256 l
abbrev xT (B : Nat) : Nat → Prop := fun q => (B + 2 ≤ q ∧ q ≤ B + 7) ∨ (B + 12 ≤ q ∧ q ≤ B + 15) ∨ (B + 693 ≤ q ∧ q ≤ B + 694)
abbrev xW (B : Nat) : Nat → Prop := fun q => B ≤ q ∧ q ≤ B + 694
def CS (G : mG) (S : mS) (B : Nat) (s : Sg) : Prop := match s with
  | (K, vals, cnt, np, kd, lt, mo, dk) => mAt G S B (cwO B np) ∧ Scr G S B ∧ Ky G S (B + 8) K ∧
    (∃ f : Nat → Option Nat, mAt G S (B + 16) (eRf G 3 8 f) ∧ ∀ v, v < 8 → f v = some (B + 17 + 17 * v)) ∧ (∀ v, v < 8 → Vw G S (B + 17 + 17 * v) (vals v) (cnt v)) ∧
    (∃ f : Nat → Option Nat, mAt G S (B + 153) (eRf G 4 60 f) ∧ ∀ i, i < 60 → f i = some (B + 154 + 3 * i)) ∧ (∀ i, i < 60 → Lt G S (B + 154 + 3 * i) (kd i) (lt i)) ∧ np ≤ 60 ∧
    (∃ f : Nat → Option Nat, mAt G S (B + 334) (eRf G 5 4 f) ∧ ∀ j, j < 4 → f j = some (B + 335 + 89 * j)) ∧ (∀ j, j < 4 → MnS G S (B + 335 + 89 * j) (mo j)) ∧ Rl G S (B + 691) 634 dk
section GW
variable {G : mG} {S S' : mS} {X : Nat → Prop} {B : Nat} {K : List Int32} {vals : Nat → Nat → Int32} {cnt : Nat → Nat} {np : Nat} {kd : Nat → Int32} {lt : Nat → List Int32} {mo : Nat → Mo} {dk : List Int32}
theorem Ky.keep {k : Nat} (h : Ky G S k K) (f : fr S S' X) (hx : ∀ q, k ≤ q → q ≤ k + 2 → ¬ X q) : Ky G S' k K := ⟨h.1.fr f (hx _ (by omega) (by omega)), h.2.1.fr f (hx _ (by omega) (by omega)) (hx _ (by omega) (by omega)), h.2.2⟩
theorem Lt.keep {e : Nat} {k : Int32} {l : List Int32} (h : Lt G S e k l) (f : fr S S' X) (hx : ∀ q, e ≤ q → q ≤ e + 2 → ¬ X q) : Lt G S' e k l := ⟨h.1.fr f (hx _ (by omega) (by omega)), h.2.fr f (hx _ (by omega) (by omega)) (hx _ (by omega) (by omega))⟩
theorem MnS.keep {m : Nat} {o : Mo} (h : MnS G S m o) (f : fr S S' X) (hx : ∀ q, m ≤ q → q ≤ m + 88 → ¬ X q) : MnS G S' m o := by
  obtain ⟨R, h1, h2⟩ := h
  exact ⟨R, h1, h2.keep f hx⟩
theorem Scr.keep (h : Scr G S B) (f : fr S S' X) (hx : ∀ q, (B + 1 ≤ q ∧ q ≤ B + 7) ∨ (B + 11 ≤ q ∧ q ≤ B + 15) ∨ (B + 693 ≤ q ∧ q ≤ B + 694) → ¬ X q) : Scr G S' B := by
  obtain ⟨⟨lm, ld, h1⟩, ⟨o, w, h2⟩, l, h3⟩ := h
  exact ⟨⟨lm, ld, h1.keep f (fun q a b => hx q (by omega))⟩, ⟨o, w, h2.keep f (fun q a b => hx q (by omega))⟩, l, h3.fr f (hx _ (by omega)) (hx _ (by omega))⟩
/-- the scratch rows have changed -/
theorem CS.scr (h : CS G S B (K, vals, cnt, np, kd, lt, mo, dk)) (f : fr S S' (xT B)) (hs : Scr G S' B) : CS G S' B (K, vals, cnt, np, kd, lt, mo, dk) := by
  obtain ⟨h1, h2, h3, ⟨u4, h4, h4'⟩, h5, ⟨u6, h6, h6'⟩, h7, h8, ⟨u9, h9, h9'⟩, h10, h11⟩ := h
  exact ⟨h1.fr f (by omega), hs, h3.keep f (fun q a b => by omega), ⟨u4, h4.fr f (by omega), h4'⟩, fun v hv => (h5 v hv).keep f (fun q a b => by omega), ⟨u6, h6.fr f (by omega), h6'⟩, fun i hi => (h7 i hi).keep f (fun q a b => by omega), h8, ⟨u9, h9.fr f (by omega), h9'⟩, fun j hj => (h10 j hj).keep f (fun q a b => by omega), h11.fr f (by omega) (by omega)⟩
theorem up_s {α : Type} (f : Nat → α) (k : Nat) (x : α) : va_up f k x k = x := by simp [va_up]
theorem up_n {α : Type} {f : Nat → α} {k q : Nat} {x : α} (h : q ≠ k) : va_up f k x q = f q := by simp [va_up, h]
theorem CS.vie {w c : Nat} {vs : Nat → Int32} (h : CS G S B (K, vals, cnt, np, kd, lt, mo, dk)) (hw : w < 8) (f : fr S S' (fun q => xS (B + 1) q ∨ xV (B + 17 + 17 * w) q)) (hs : ∃ lm ld, Sha G S' (B + 1) lm ld) (hn : Vw G S' (B + 17 + 17 * w) vs c) : CS G S' B (K, va_up vals w vs, va_up cnt w c, np, kd, lt, mo, dk) := by
  obtain ⟨h1, ⟨-, ⟨o9, w9, h2⟩, l9, h2'⟩, h3, ⟨u4, h4, h4'⟩, h5, ⟨u6, h6, h6'⟩, h7, h8, ⟨u9, h9, h9'⟩, h10, h11⟩ := h
  refine ⟨h1.fr f (by omega), ⟨hs, ⟨o9, w9, h2.keep f (fun q a b => by omega)⟩, l9, h2'.fr f (by omega) (by omega)⟩, h3.keep f (fun q a b => by omega), ⟨u4, h4.fr f (by omega), h4'⟩, fun v hv => ?_, ⟨u6, h6.fr f (by omega), h6'⟩, fun i hi => (h7 i hi).keep f (fun q a b => by omega), h8, ⟨u9, h9.fr f (by omega), h9'⟩, fun j hj => (h10 j hj).keep f (fun q a b => by omega), h11.fr f (by omega) (by omega)⟩
  by_cases e : v = w
  · subst e; rw [up_s, up_s]; exact hn
  · rw [up_n e, up_n e]; exact (h5 v hv).keep f (fun q a b => by omega)
theorem CS.let {p n2 : Nat} {k : Int32} {l : List Int32} (h : CS G S B (K, vals, cnt, np, kd, lt, mo, dk)) (hp : p < 60) (hn2 : n2 ≤ 60) (f : fr S S' (fun q => q = B ∨ xT B q ∨ (B + 154 + 3 * p ≤ q ∧ q ≤ B + 156 + 3 * p))) (h0 : mAt G S' B (cwO B n2)) (hs : Scr G S' B) (hn : Lt G S' (B + 154 + 3 * p) k l) : CS G S' B (K, vals, cnt, n2, va_up kd p k, va_up lt p l, mo, dk) := by
  obtain ⟨h1, h2, h3, ⟨u4, h4, h4'⟩, h5, ⟨u6, h6, h6'⟩, h7, h8, ⟨u9, h9, h9'⟩, h10, h11⟩ := h
  refine ⟨h0, hs, h3.keep f (fun q a b => by omega), ⟨u4, h4.fr f (by omega), h4'⟩, fun v hv => (h5 v hv).keep f (fun q a b => by omega), ⟨u6, h6.fr f (by omega), h6'⟩, fun i hi => ?_, hn2, ⟨u9, h9.fr f (by omega), h9'⟩, fun j hj => (h10 j hj).keep f (fun q a b => by omega), h11.fr f (by omega) (by omega)⟩
  by_cases e : i = p
  · subst e; rw [up_s, up_s]; exact hn
  · rw [up_n e, up_n e]; exact (h7 i hi).keep f (fun q a b => by omega)
theorem CS.mon {m : Nat} {o : Mo} (h : CS G S B (K, vals, cnt, np, kd, lt, mo, dk)) (hm : m < 4) (f : fr S S' (fun q => xT B q ∨ xM (B + 335 + 89 * m) q)) (hs : Scr G S' B) (hn : MnS G S' (B + 335 + 89 * m) o) : CS G S' B (K, vals, cnt, np, kd, lt, va_up mo m o, dk) := by
  obtain ⟨h1, h2, h3, ⟨u4, h4, h4'⟩, h5, ⟨u6, h6, h6'⟩, h7, h8, ⟨u9, h9, h9'⟩, h10, h11⟩ := h
  refine ⟨h1.fr f (by omega), hs, h3.keep f (fun q a b => by omega), ⟨u4, h4.fr f (by omega), h4'⟩, fun v hv => (h5 v hv).keep f (fun q a b => by omega), ⟨u6, h6.fr f (by omega), h6'⟩, fun i hi => (h7 i hi).keep f (fun q a b => by omega), h8, ⟨u9, h9.fr f (by omega), h9'⟩, fun j hj => ?_, h11.fr f (by omega) (by omega)⟩
  by_cases e : j = m
  · subst e; rw [up_s]; exact hn
  · rw [up_n e]; exact (h10 j hj).keep f (fun q a b => by omega)
theorem CS.dsk {l : List Int32} (h : CS G S B (K, vals, cnt, np, kd, lt, mo, dk)) (f : fr S S' (xR (B + 691))) (hn : Rl G S' (B + 691) 634 l) : CS G S' B (K, vals, cnt, np, kd, lt, mo, l) := by
  obtain ⟨h1, h2, h3, ⟨u4, h4, h4'⟩, h5, ⟨u6, h6, h6'⟩, h7, h8, ⟨u9, h9, h9'⟩, h10, h11⟩ := h
  exact ⟨h1.fr f (by omega), h2.keep f (fun q a => by omega), h3.keep f (fun q a b => by omega), ⟨u4, h4.fr f (by omega), h4'⟩, fun v hv => (h5 v hv).keep f (fun q a b => by omega), ⟨u6, h6.fr f (by omega), h6'⟩, fun i hi => (h7 i hi).keep f (fun q a b => by omega), h8, ⟨u9, h9.fr f (by omega), h9'⟩, fun j hj => (h10 j hj).keep f (fun q a b => by omega), hn⟩
theorem CS.num {n2 : Nat} (h : CS G S B (K, vals, cnt, np, kd, lt, mo, dk)) (hn2 : n2 ≤ 60) (f : fr S S' (fun q => q = B)) (h0 : mAt G S' B (cwO B n2)) : CS G S' B (K, vals, cnt, n2, kd, lt, mo, dk) := by
  obtain ⟨h1, h2, h3, ⟨u4, h4, h4'⟩, h5, ⟨u6, h6, h6'⟩, h7, h8, ⟨u9, h9, h9'⟩, h10, h11⟩ := h
  exact ⟨h0, h2.keep f (fun q a => by omega), h3.keep f (fun q a b => by omega), ⟨u4, h4.fr f (by omega), h4'⟩, fun v hv => (h5 v hv).keep f (fun q a b => by omega), ⟨u6, h6.fr f (by omega), h6'⟩, fun i hi => (h7 i hi).keep f (fun q a b => by omega), hn2, ⟨u9, h9.fr f (by omega), h9'⟩, fun j hj => (h10 j hj).keep f (fun q a b => by omega), h11.fr f (by omega) (by omega)⟩
abbrev inV (g v : Int32) : Prop := inR g 4 ∧ inR v 2
abbrev vN (g v : Int32) : Nat := 2 * g.toInt.toNat + v.toInt.toNat
theorem vN_ok {g v : Int32} (h : inV g v) : vN g v < 8 ∧ g * 2 + v = nI (vN g v) := by
  obtain ⟨⟨h1, h2⟩, h3, h4⟩ := h
  have e1 := i_of h1
  have e2 := i_of h3
  refine ⟨by show 2 * _ + _ < 8; omega, ?_⟩
  show g * 2 + v = nI (2 * g.toInt.toNat + v.toInt.toNat)
  generalize g.toInt.toNat = a at *
  generalize v.toInt.toNat = b at *
  rw [e1, e2, show (2 : Int32) = nI 2 from rfl, pk_mul, nI_add, Nat.mul_comm]
abbrev cX7V : Option FieldType := some (.object "GossipWatch$View")
theorem c_viewOf_no {g w : Int32} (hn : ¬ inV g w) :
    mCon G yX7_viewOf cX7_viewOf 3 (some (.object "GossipWatch$View")) (rmD 0) [.ref B, .int g, .int w] S (fun v S' => S' = S ∧ v = some .null) := by
  refine mCon.of (I := miX7 false (some (.object "GossipWatch$View"))) (by decide) rfl rfl (fun h => by cases h) (fun _ => rfl) (Nat.le_of_ble_eq_true rfl) ?_
  show Gd _ _ _ _ _ _ _ _ 0 [(0, .ref B), (1, .int g), (2, .int w)] [] (0, 0) _
  refine Gd.of (ckX7 _ _) tX7_viewOf_ok (cuts := fun _ => none) 40 ?_
  refine eB.i (fun q => ?_) (fun q => ?_)
  · exact eR.n ⟨rfl, rfl⟩
  · refine eB.i (fun q2 => ?_) (fun q2 => ?_)
    · exact eR.n ⟨rfl, rfl⟩
    · refine eB.i (fun q3 => ?_) (fun q3 => ?_)
      · exact eR.n ⟨rfl, rfl⟩
      · refine eB.f ?_ ?_
        · intro q4
          rw [i_lt0] at q q3
          have q2' := mt (i_nle (k := g) (n := 4) (by decide)).mpr q2
          have q4' := (i_ltn (k := w) (n := 2) (by decide)).mp q4
          apply hn
          constructor <;> constructor <;> omega
        · exact eR.n ⟨rfl, rfl⟩
theorem c_viewOf {g w : Int32} (h : CS G S B (K, vals, cnt, np, kd, lt, mo, dk)) (hn : inV g w) :
    mCon G yX7_viewOf cX7_viewOf 3 (some (.object "GossipWatch$View")) (rmD 0) [.ref B, .int g, .int w] S (fun v S' => S' = S ∧ v = some (.ref (B + 17 + 17 * vN g w))) := by
  obtain ⟨h1, h2, h3, ⟨u4, h4, h4'⟩, h5⟩ := h
  obtain ⟨hv, hv2⟩ := vN_ok hn
  refine mCon.of (I := miX7 false (some (.object "GossipWatch$View"))) (by decide) rfl rfl (fun h => by cases h) (fun _ => rfl) (Nat.le_of_ble_eq_true rfl) ?_
  show Gd _ _ _ _ _ _ _ _ 0 [(0, .ref B), (1, .int g), (2, .int w)] [] (0, 0) _
  refine Gd.of (ckX7 _ _) tX7_viewOf_ok (cuts := fun _ => none) 40 ?_
  refine eB.f (by rw [i_lt0]; omega) ?_
  refine eB.f (mt (i_nle (k := g) (n := 4) (by decide)).mp (by omega)) ?_
  refine eB.f (by rw [i_lt0]; omega) ?_
  refine eB.t ((i_ltn (k := w) (n := 2) (by decide)).mpr (by omega)) ?_
  refine eG.i h1 rfl ?_
  refine eLq.r (i := g * 2 + w) (b := B + 17 + 17 * vN g w) h4 (by decide) (by rw [hv2]; exact vp_in_nI (by omega) (by omega)) (by rw [hv2, nI_clamp (by omega)]; exact h4' _ hv) ?_
  exact eR.o (v := B + 17 + 17 * vN g w) ⟨rfl, rfl⟩
theorem c_letterOf_no {l : Int32} (h : CS G S B (K, vals, cnt, np, kd, lt, mo, dk)) (hn : ¬ inR l np) :
    mCon G yX7_letterOf cX7_letterOf 2 (some (.object "GossipWatch$Letter")) (rmD 0) [.ref B, .int l] S (fun v S' => S' = S ∧ v = some .null) := by
  obtain ⟨h1, h2, h3, h4, h5, h6, h7, h8, h9⟩ := h
  refine mCon.of (I := miX7 false (some (.object "GossipWatch$Letter"))) (by decide) rfl rfl (fun h => by cases h) (fun _ => rfl) (Nat.le_of_ble_eq_true rfl) ?_
  show Gd _ _ _ _ _ _ _ _ 0 [(0, .ref B), (1, .int l)] [] (0, 0) _
  refine Gd.of (ckX7 _ _) tX7_letterOf_ok (cuts := fun _ => none) 40 ?_
  refine eB.i (fun q => ?_) (fun q => ?_)
  · exact eR.n ⟨rfl, rfl⟩
  · refine eG.i h1 rfl ?_
    refine eB.f ?_ ?_
    · rw [i_ltn (by omega)]; rw [i_lt0] at q; omega
    · exact eR.n ⟨rfl, rfl⟩
theorem c_letterOf {l : Int32} (h : CS G S B (K, vals, cnt, np, kd, lt, mo, dk)) (hn : inR l np) :
    mCon G yX7_letterOf cX7_letterOf 2 (some (.object "GossipWatch$Letter")) (rmD 0) [.ref B, .int l] S (fun v S' => S' = S ∧ v = some (.ref (B + 154 + 3 * l.toInt.toNat))) := by
  obtain ⟨h1, h2, h3, h4, h5, ⟨u6, h6, h6'⟩, h7, h8, h9⟩ := h
  refine mCon.of (I := miX7 false (some (.object "GossipWatch$Letter"))) (by decide) rfl rfl (fun h => by cases h) (fun _ => rfl) (Nat.le_of_ble_eq_true rfl) ?_
  show Gd _ _ _ _ _ _ _ _ 0 [(0, .ref B), (1, .int l)] [] (0, 0) _
  refine Gd.of (ckX7 _ _) tX7_letterOf_ok (cuts := fun _ => none) 40 ?_
  refine eB.f (by rw [i_lt0]; omega) ?_
  refine eG.i h1 rfl ?_
  refine eB.t (by rw [i_ltn (by omega)]; omega) ?_
  refine eG.i h1 rfl ?_
  refine eLq.r (i := l) (b := B + 154 + 3 * l.toInt.toNat) h6 (by decide) (vp_in_iff.mpr (by omega)) (h6' l.toInt.toNat (by omega)) ?_
  exact eR.o (v := B + 154 + 3 * l.toInt.toNat) ⟨rfl, rfl⟩
theorem c_monitorOf_no {l : Int32} (hn : ¬ inR l 4) :
    mCon G yX7_monitorOf cX7_monitorOf 2 (some (.object "GossipWatch$Monitor")) (rmD 0) [.ref B, .int l] S (fun v S' => S' = S ∧ v = some .null) := by
  refine mCon.of (I := miX7 false (some (.object "GossipWatch$Monitor"))) (by decide) rfl rfl (fun h => by cases h) (fun _ => rfl) (Nat.le_of_ble_eq_true rfl) ?_
  show Gd _ _ _ _ _ _ _ _ 0 [(0, .ref B), (1, .int l)] [] (0, 0) _
  refine Gd.of (ckX7 _ _) tX7_monitorOf_ok (cuts := fun _ => none) 40 ?_
  refine eB.i (fun q => ?_) (fun q => ?_)
  · exact eR.n ⟨rfl, rfl⟩
  · refine eB.f (mt (i_ltn (k := l) (n := 4) (by decide)).mp (by rw [i_lt0] at q; omega)) ?_
    exact eR.n ⟨rfl, rfl⟩
theorem c_monitorOf {l : Int32} (h : CS G S B (K, vals, cnt, np, kd, lt, mo, dk)) (hn : inR l 4) :
    mCon G yX7_monitorOf cX7_monitorOf 2 (some (.object "GossipWatch$Monitor")) (rmD 0) [.ref B, .int l] S (fun v S' => S' = S ∧ v = some (.ref (B + 335 + 89 * l.toInt.toNat))) := by
  obtain ⟨h1, h2, h3, h4, h5, h6, h7, h8, ⟨u9, h9, h9'⟩, h10⟩ := h
  refine mCon.of (I := miX7 false (some (.object "GossipWatch$Monitor"))) (by decide) rfl rfl (fun h => by cases h) (fun _ => rfl) (Nat.le_of_ble_eq_true rfl) ?_
  show Gd _ _ _ _ _ _ _ _ 0 [(0, .ref B), (1, .int l)] [] (0, 0) _
  refine Gd.of (ckX7 _ _) tX7_monitorOf_ok (cuts := fun _ => none) 40 ?_
  refine eB.f (by rw [i_lt0]; omega) ?_
  refine eB.t ((i_ltn (k := l) (n := 4) (by decide)).mpr (by omega)) ?_
  refine eG.i h1 rfl ?_
  refine eLq.r (i := l) (b := B + 335 + 89 * l.toInt.toNat) h9 (by decide) (vp_in_iff.mpr (by omega)) (h9' l.toInt.toNat (by omega)) ?_
  exact eR.o (v := B + 335 + 89 * l.toInt.toNat) ⟨rfl, rfl⟩
abbrev xL (B p : Nat) : Nat → Prop := fun q => q = B ∨ (B + 154 + 3 * p ≤ q ∧ q ≤ B + 156 + 3 * p)
theorem c_nextLetter {k g : Int32} (h : CS G S B (K, vals, cnt, np, kd, lt, mo, dk)) (hn : np < 60) :
    mCon G yX7_nextLetter cX7_nextLetter 4 (some (.object "GossipWatch$Row")) (rmD 1) [.ref B, .int k, .int g] S (fun v S' => v = some (.ref (B + 154 + 3 * np + 1)) ∧ fr S S' (xL B np) ∧ mAt G S' B (cwO B (np + 1)) ∧ Lt G S' (B + 154 + 3 * np) k [g.toInt8.toInt32]) := by
  obtain ⟨h1, h2, h3, h4, h5, ⟨u6, h6, h6'⟩, h7, h8, h9⟩ := h
  obtain ⟨l1, l2⟩ := h7 np hn
  refine mCon.of (I := miX7 false (some (.object "GossipWatch$Row"))) (by decide) rfl rfl (fun h => by cases h) (fun _ => rfl) (Nat.le_of_ble_eq_true rfl) ?_
  show Gd _ _ _ _ _ _ _ _ 0 [(0, .ref B), (1, .int k), (2, .int g)] [] (0, 0) _
  refine Gd.of (ckX7 _ _) tX7_nextLetter_ok (cuts := fun _ => none) 60 ?_
  refine eG.i h1 rfl ?_
  refine eG.i h1 rfl ?_
  refine eLq.r (i := nI np) (b := B + 154 + 3 * np) h6 (by decide) (vp_in_nI (by omega) (by omega)) (by rw [nI_clamp (by omega)]; exact h6' _ hn) ?_
  refine eG.i h1 rfl ?_
  refine ⟨Or.inl rfl, ?_⟩
  refine eP.i h1 (Nat.le_of_ble_eq_true rfl) rfl rfl ?_
  rw [nI_1]
  have a1 : mAt G (mUp S B (cwO B (np + 1))) B (cwO B (np + 1)) := h1.up
  have a2 := l1.ne (b := B) (e' := cwO B (np + 1)) (by omega)
  refine ⟨Or.inl rfl, ?_⟩
  refine eP.i a2 (Nat.le_of_ble_eq_true rfl) rfl rfl ?_
  have b2 := a2.up (e' := .inr (2, [.ref (B + 154 + 3 * np + 1), .int k]))
  have f1 : fr S (mUp (mUp S B (cwO B (np + 1))) (B + 154 + 3 * np) (.inr (2, [.ref (B + 154 + 3 * np + 1), .int k]))) (xL B np) := (fr.up (Or.inl rfl)).tr (fr.up (by show _ ∨ _; omega))
  have b1 := a1.ne (b := B + 154 + 3 * np) (e' := .inr (2, [.ref (B + 154 + 3 * np + 1), .int k])) (by omega)
  have g0 : fr S (mUp (mUp S B (cwO B (np + 1))) (B + 154 + 3 * np) (.inr (2, [.ref (B + 154 + 3 * np + 1), .int k]))) (fun q => q = B ∨ q = B + 154 + 3 * np) := (fr.up (Or.inl rfl)).tr (fr.up (Or.inr rfl))
  have b3 := l2.fr g0 (by omega) (by omega)
  refine eG.i b2 rfl ?_
  refine ⟨rfl, Nat.le_of_ble_eq_true rfl, ?_⟩
  refine eV.i b3.obj ?_
  refine eC.z (c_Row_empty b3) ⟨rfl, rfl⟩ ⟨Nat.le_of_ble_eq_true rfl, Nat.le_of_ble_eq_true rfl⟩ ⟨Nat.zero_le _, Nat.zero_le _⟩ (fun v S1 hk => ?_)
  obtain ⟨rfl, g1, c3⟩ := hk
  have c2 := b2.fr g1 (by omega)
  refine eG.i c2 rfl ?_
  refine ⟨rfl, Nat.le_of_ble_eq_true rfl, ?_⟩
  refine eV.i c3.obj ?_
  refine eC.z (c_Row_add c3 (by decide)) ⟨rfl, rfl⟩ ⟨Nat.le_of_ble_eq_true rfl, Nat.le_of_ble_eq_true rfl⟩ ⟨Nat.zero_le _, Nat.zero_le _⟩ (fun v S2 hk => ?_)
  obtain ⟨rfl, g2, d3⟩ := hk
  have d2 := c2.fr g2 (by omega)
  refine eG.i d2 rfl ?_
  refine eR.o (v := B + 154 + 3 * np + 1) ⟨rfl, f1.tr ((g1.tr g2).mono (fun q z => by omega)), (b1.fr (g1.tr g2) (by omega)), d2, d3⟩
end GW
