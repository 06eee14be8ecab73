/-! SHA-256, as both sides compute it -/
def ush (x n : Int32) : Int32 := (x.toUInt32 >>> (n.toUInt32 &&& Int32.toUInt32 31)).toInt32
def rot (x n m : Int32) : Int32 := ush x n ||| (x <<< (m &&& 31))
def sg0 (x : Int32) : Int32 := (rot x 7 25 ^^^ rot x 18 14) ^^^ ush x 3
def sg1 (x : Int32) : Int32 := (rot x 17 15 ^^^ rot x 19 13) ^^^ ush x 10
def bs1 (x : Int32) : Int32 := (rot x 6 26 ^^^ rot x 11 21) ^^^ rot x 25 7
def bs0 (x : Int32) : Int32 := (rot x 2 30 ^^^ rot x 13 19) ^^^ rot x 22 10
def chf (e f g : Int32) : Int32 := (e &&& f) ^^^ ((e ^^^ (-1)) &&& g)
def maj (a b c : Int32) : Int32 := ((a &&& b) ^^^ (a &&& c)) ^^^ (b &&& c)
def wSt (W : Nat → Int32) (t : Nat) : Int32 := ((W (t - 16) + sg0 (W (t - 15))) + W (t - 7)) + sg1 (W (t - 2))
def wX : Nat → (Nat → Int32) → Nat → Int32
  | 0, W => W
  | n + 1, W => upd (wX n W) (16 + n) (wSt (wX n W) (16 + n))
abbrev s8 : Type := Int32 × Int32 × Int32 × Int32 × Int32 × Int32 × Int32 × Int32
def rnd (v : s8) (k w : Int32) : s8 := match v with
  | (a, b, c, d, e, f, g, h) => (((((h + bs1 e) + chf e f g) + k) + w) + (bs0 a + maj a b c), a, b, c, d + ((((h + bs1 e) + chf e f g) + k) + w), e, f, g)
def rnds (K W : Nat → Int32) : Nat → s8 → s8
  | 0, v => v
  | n + 1, v => rnd (rnds K W n v) (K n) (W n)
def s8of (f : Nat → Int32) : s8 := (f 0, f 1, f 2, f 3, f 4, f 5, f 6, f 7)
def s8add (f : Nat → Int32) (v : s8) : Nat → Int32 := fun i => match v with
  | (a, b, c, d, e, f1, g, h) => match i with
    | 0 => f 0 + a | 1 => f 1 + b | 2 => f 2 + c | 3 => f 3 + d | 4 => f 4 + e | 5 => f 5 + f1 | 6 => f 6 + g | 7 => f 7 + h | i => f i
section SHA
variable {G : mG} {S : mS} {a : Nat}
def ShO (G : mG) (S : mS) (a : Nat) : Prop := mAt G S a (.inr (5, [.ref (a + 1), .ref (a + 3), .ref (a + 5), .ref (a + 6)]))
set_option maxRecDepth 4000 in
theorem c_Sha_stretch {W : Nat → Int32} (h0 : ShO G S a) (h : mAt G S (a + 5) (eIn G 64 W)) :
    mCon G yX5_stretch cX5_stretch 6 none (rmD 0) [.ref a] S (fun v S' => v = none ∧ fr S S' (fun q => q = a + 5) ∧ mAt G S' (a + 5) (eIn G 64 (wX 48 W))) := by
  refine mCon.of (I := miX5 false none) (by decide) rfl rfl (fun h => by cases h) (fun _ => rfl) (Nat.le_of_ble_eq_true rfl) ?_
  have key : ∀ (d n : Nat) (S1 : mS), n + d = 48 → fr S S1 (fun q => q = a + 5) → mAt G S1 (a + 5) (eIn G 64 (wX n W)) → Gd G (miX5 false none) cX5_stretch 6 (rmD 0) 0 0 (fun v S' => v = none ∧ fr S S' (fun q => q = a + 5) ∧ mAt G S' (a + 5) (eIn G 64 (wX 48 W))) 3 [(0, .ref a), (1, .int (nI (16 + n)))] [] (0, 0) S1 := by
    intro d
    induction d with
    | zero =>
      intro n S1 hn f1 h1
      have g0 : ShO G S1 a := h0.fr f1 (by omega)
      refine Gd.of (ckX5 _ _) tX5_stretch_ok (cuts := lf 3 2) 120 ?_
      refine eG.i g0 rfl ?_
      refine eN.i (t := 0) h1 (by decide) ?_
      refine eB.t (by rw [nI_leI (by omega) (by omega)]; omega) ?_
      refine eR.v ⟨rfl, f1, ?_⟩
      rw [show n = 48 by omega] at h1
      exact h1
    | succ d ih =>
      intro n S1 hn f1 h1
      have g0 : ShO G S1 a := h0.fr f1 (by omega)
      have e15 : nI (16 + n) - 15 = nI (16 + n - 15) := by rw [show (15 : Int32) = nI 15 from rfl, pk_sub (by omega)]
      have e2 : nI (16 + n) - 2 = nI (16 + n - 2) := by rw [show (2 : Int32) = nI 2 from rfl, pk_sub (by omega)]
      have e16 : nI (16 + n) - 16 = nI (16 + n - 16) := by rw [show (16 : Int32) = nI 16 from rfl, pk_sub (by omega)]
      have e7 : nI (16 + n) - 7 = nI (16 + n - 7) := by rw [show (7 : Int32) = nI 7 from rfl, pk_sub (by omega)]
      refine Gd.of (ckX5 _ _) tX5_stretch_ok (cuts := lf 3 2) 120 ?_
      refine eG.i g0 rfl ?_
      refine eN.i (t := 0) h1 (by decide) ?_
      refine eB.f (by rw [nI_leI (by omega) (by omega)]; omega) ?_
      refine eG.i g0 rfl ?_
      refine eL.i (i := nI (16 + n) - 15) h1 (by rw [e15]; exact vp_in_nI (by omega) (by omega)) ?_
      refine eG.i g0 rfl ?_
      refine eL.i (i := nI (16 + n) - 2) h1 (by rw [e2]; exact vp_in_nI (by omega) (by omega)) ?_
      refine eG.i g0 rfl ?_
      refine eG.i g0 rfl ?_
      refine eL.i (i := nI (16 + n) - 16) h1 (by rw [e16]; exact vp_in_nI (by omega) (by omega)) ?_
      refine eG.i g0 rfl ?_
      refine eL.i (i := nI (16 + n) - 7) h1 (by rw [e7]; exact vp_in_nI (by omega) (by omega)) ?_
      refine eS.i (i := nI (16 + n)) h1 (vp_in_nI (by omega) (by omega)) ?_
      have e1 : nI (16 + n) + 1 = nI (16 + (n + 1)) := nI_1 _
      have h9 := ih (n + 1) (mUp S1 (a + 5) (eIn G 64 (upd (wX n W) (nI (16 + n)).toNatClampNeg (((wX n W (nI (16 + n) - 16).toNatClampNeg + sg0 (wX n W (nI (16 + n) - 15).toNatClampNeg)) + wX n W (nI (16 + n) - 7).toNatClampNeg) + sg1 (wX n W (nI (16 + n) - 2).toNatClampNeg))))) (by omega) (f1.tr (fr.up rfl)) (by
        rw [e15, e2, e16, e7, nI_clamp (by omega), nI_clamp (by omega), nI_clamp (by omega), nI_clamp (by omega), nI_clamp (by omega)]
        exact h1.up)
      rw [← e1] at h9
      exact h9
  refine Gd.of (ckX5 _ _) tX5_stretch_ok (cuts := lf 3 2) 120 ?_
  exact key 48 0 S (by omega) fr.rf h
end SHA
