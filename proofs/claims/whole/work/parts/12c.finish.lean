/-! SHA-256 of a list of bytes -/
def be4 (x : Int32) : List Int32 := [(ush x 24).toInt8.toInt32, (ush x 16).toInt8.toInt32, (ush x 8).toInt8.toInt32, x.toInt8.toInt32]
theorem be4_len (x : Int32) : (be4 x).length = 4 := rfl
def zc (n : Nat) : Nat := (119 - n % 64) % 64
def padA (l : List Int32) (i : Nat) : List Int32 := (l ++ [-128]) ++ List.replicate i 0
def pad (l : List Int32) : List Int32 := (padA l (zc l.length) ++ be4 0) ++ be4 (nI (l.length * 8))
def blkW (p : List Int32) (k : Nat) : Nat → Int32 := fun j => if j < 16 then num4 p (64 * k + 4 * j) else 0
def blk (st m : Nat → Int32) : Nat → Int32 := s8add st (rnds KT (wX 48 m) 64 (s8of st))
def stF (p : List Int32) : Nat → Nat → Int32
  | 0 => IVT
  | k + 1 => blk (stF p k) (blkW p k)
def outB (t : Nat → Int32) : Nat → List Int32
  | 0 => []
  | i + 1 => outB t i ++ be4 (t i)
def sha (l : List Int32) : List Int32 := outB (stF (pad l) ((pad l).length / 64)) 8
theorem outB_len (t : Nat → Int32) (i : Nat) : (outB t i).length = 4 * i := by
  induction i with
  | zero => rfl
  | succ i ih => rw [outB, List.length_append, ih, be4_len]; omega
theorem sha_len (l : List Int32) : (sha l).length = 32 := outB_len _ 8
theorem outB_congr {t u : Nat → Int32} {i : Nat} (h : ∀ j, j < i → t j = u j) : outB t i = outB u i := by
  induction i with
  | zero => rfl
  | succ i ih => rw [outB, outB, ih (fun j hj => h j (by omega)), h i (by omega)]
theorem padA_len (l : List Int32) (i : Nat) : (padA l i).length = l.length + 1 + i := by simp [padA]; omega
theorem pad_len (l : List Int32) : (pad l).length = l.length + 1 + zc l.length + 8 := by
  rw [pad, List.length_append, List.length_append, padA_len, be4_len, be4_len]
theorem zc_ok (n : Nat) : (n + 1 + zc n) % 64 = 56 ∧ zc n < 64 ∧ ∀ i, i < zc n → ¬ (n + 1 + i) % 64 = 56 := by
  unfold zc
  refine ⟨by omega, by omega, fun i hi => by omega⟩
theorem wX_congr {W V : Nat → Int32} (h : ∀ j, j < 16 → W j = V j) (n : Nat) : ∀ j, j < 16 + n → wX n W j = wX n V j := by
  induction n with
  | zero => exact h
  | succ n ih =>
    intro j hj
    unfold wX
    have e : wSt (wX n W) (16 + n) = wSt (wX n V) (16 + n) := by
      unfold wSt
      rw [ih _ (by omega), ih _ (by omega), ih _ (by omega), ih _ (by omega)]
    by_cases hq : j = 16 + n
    · subst hq; rw [pk_us, pk_us, e]
    · rw [pk_un hq, pk_un hq, ih j (by omega)]
theorem rnds_congr {K W V : Nat → Int32} {n : Nat} (h : ∀ j, j < n → W j = V j) (v : s8) : rnds K W n v = rnds K V n v := by
  induction n with
  | zero => rfl
  | succ n ih => rw [rnds, rnds, ih (fun j hj => h j (by omega)), h n (by omega)]
theorem s8of_congr {t u : Nat → Int32} (h : ∀ j, j < 8 → t j = u j) : s8of t = s8of u := by
  unfold s8of
  rw [h 0 (by omega), h 1 (by omega), h 2 (by omega), h 3 (by omega), h 4 (by omega), h 5 (by omega), h 6 (by omega), h 7 (by omega)]
theorem s8add_congr {t u : Nat → Int32} (h : ∀ j, j < 8 → t j = u j) (v : s8) : ∀ j, j < 8 → s8add t v j = s8add u v j := by
  intro j hj
  obtain ⟨a, b, c, d, e, f, g, i⟩ := v
  match j, hj with
  | 0, _ => show t 0 + a = u 0 + a; rw [h 0 (by omega)]
  | 1, _ => show t 1 + b = u 1 + b; rw [h 1 (by omega)]
  | 2, _ => show t 2 + c = u 2 + c; rw [h 2 (by omega)]
  | 3, _ => show t 3 + d = u 3 + d; rw [h 3 (by omega)]
  | 4, _ => show t 4 + e = u 4 + e; rw [h 4 (by omega)]
  | 5, _ => show t 5 + f = u 5 + f; rw [h 5 (by omega)]
  | 6, _ => show t 6 + g = u 6 + g; rw [h 6 (by omega)]
  | 7, _ => show t 7 + i = u 7 + i; rw [h 7 (by omega)]
  | j + 8, hj => exact absurd hj (by omega)
/-- a block: only 8 words of the state and 16 of the message matter -/
theorem blk_eq {t u W m : Nat → Int32} (ht : ∀ j, j < 8 → t j = u j) (hW : ∀ j, j < 16 → W j = m j) : ∀ j, j < 8 → s8add t (rnds KT (wX 48 W) 64 (s8of t)) j = blk u m j := by
  intro j hj
  unfold blk
  rw [rnds_congr (wX_congr hW 48), s8of_congr ht]
  exact s8add_congr ht _ j hj
section FIN
variable {G : mG} {S0 S : mS} {a : Nat}
abbrev xS (a : Nat) : Nat → Prop := fun q => a + 1 ≤ q ∧ q ≤ a + 6
def Sha (G : mG) (S : mS) (a : Nat) (lm ld : List Int32) : Prop := ShO G S a ∧ Rl G S (a + 1) 704 lm ∧ Rl G S (a + 3) 32 ld ∧ (∃ w, mAt G S (a + 5) (eIn G 64 w)) ∧ ∃ t, mAt G S (a + 6) (eIn G 8 t)
def finK (G : mG) (S0 : mS) (a : Nat) (D : List Int32) : Option Value → mS → Prop := fun v S' => v = some (.ref (a + 3)) ∧ fr S0 S' (xS a) ∧ ∃ lm, Sha G S' a lm D
abbrev finI : mI := miX5 false (some (.object "GossipWatch$Row"))
def finC : Nat → Option Nat := nd 100 (nd 50 (lf 23 3) (lf 93 3)) (nd 150 (nd 120 (lf 106 4) (lf 136 3)) (lf 159 3))
theorem fin4 {t : Nat → Int32} {D lm : List Int32} {bits : Int32} (hD : D = outB t 8) : ∀ (n i : Nat) (S : mS), i + n = 8 → fr S0 S (xS a) → ShO G S a → Rl G S (a + 1) 704 lm → (∃ w, mAt G S (a + 5) (eIn G 64 w)) → mAt G S (a + 6) (eIn G 8 t) → Rl G S (a + 3) 32 (outB t i) →
    Gd G finI cX5_finish 4 (rmD 1) 0 0 (finK G S0 a D) 159 [(0, .ref a), (1, .int bits), (2, .int (nI i))] [] (0, 0) S := by
  intro n
  induction n with
  | zero =>
    intro i S hi f0 g0 gm gw gt gd
    refine Gd.of (ckX5 _ _) tX5_finish_ok (cuts := finC) 40 ?_
    refine eG.i g0 rfl ?_
    refine eN.i (t := 0) gt (by decide) ?_
    refine eB.t (by rw [nI_leI (by omega) (by omega)]; omega) ?_
    refine eG.i g0 rfl ?_
    rw [show i = 8 by omega, ← hD] at gd
    exact eR.o (v := a + 3) ⟨rfl, f0, lm, g0, gm, gd, gw, t, gt⟩
  | succ n ih =>
    intro i S hi f0 g0 gm gw gt gd
    refine Gd.of (ckX5 _ _) tX5_finish_ok (cuts := finC) 40 ?_
    refine eG.i g0 rfl ?_
    refine eN.i (t := 0) gt (by decide) ?_
    refine eB.f (by rw [nI_leI (by omega) (by omega)]; omega) ?_
    refine eG.i g0 rfl ?_
    refine eG.i g0 rfl ?_
    refine eL.i (i := nI i) gt (vp_in_nI (by omega) (by omega)) ?_
    refine ⟨rfl, Nat.le_of_ble_eq_true rfl, ?_⟩
    refine eV.i gd.obj ?_
    refine eC.i (c_Row_addNumber gd (by rw [outB_len]; omega)) ⟨Nat.le_of_ble_eq_true rfl, Nat.le_of_ble_eq_true rfl⟩ ⟨Nat.zero_le _, Nat.zero_le _⟩ (fun v S' hk => ?_)
    obtain ⟨rfl, f1, gd'⟩ := hk
    rw [nI_clamp (by omega)] at gd'
    have e1 : nI i + 1 = nI (i + 1) := nI_1 i
    obtain ⟨w, gw⟩ := gw
    have h9 := ih (i + 1) S' (by omega) (f0.tr (f1.mono (fun q hq => by rcases hq with h | h <;> (constructor <;> omega)))) (g0.fr f1 (by omega)) (gm.fr f1 (by omega) (by omega)) ⟨w, gw.fr f1 (by omega)⟩ (gt.fr f1 (by omega)) gd'
    rw [← e1] at h9
    exact h9
theorem fin2 {t : Nat → Int32} {D p ld : List Int32} {bits : Int32} {k nb : Nat} (hp : p.length = 64 * nb) (hk : k < nb) (hnb : nb ≤ 11)
    (next : ∀ (S : mS) (W : Nat → Int32), fr S0 S (xS a) → ShO G S a → Rl G S (a + 1) 704 p → Rl G S (a + 3) 32 ld → mAt G S (a + 5) (eIn G 64 W) → mAt G S (a + 6) (eIn G 8 t) → (∀ q, q < 16 → W q = num4 p (64 * k + 4 * q)) → Gd G finI cX5_finish 4 (rmD 1) 0 0 (finK G S0 a D) 136 [(0, .ref a), (1, .int bits), (2, .int (nI (64 * k)))] [] (0, 0) S) :
    ∀ (n j : Nat) (S : mS) (W : Nat → Int32), j + n = 16 → fr S0 S (xS a) → ShO G S a → Rl G S (a + 1) 704 p → Rl G S (a + 3) 32 ld → mAt G S (a + 5) (eIn G 64 W) → mAt G S (a + 6) (eIn G 8 t) → (∀ q, q < j → W q = num4 p (64 * k + 4 * q)) →
    Gd G finI cX5_finish 4 (rmD 1) 0 0 (finK G S0 a D) 106 [(0, .ref a), (1, .int bits), (2, .int (nI (64 * k))), (3, .int (nI j))] [] (0, 0) S := by
  intro n
  induction n with
  | zero =>
    intro j S W hj f0 g0 gm gd gw gt hW
    refine Gd.of (ckX5 _ _) tX5_finish_ok (cuts := finC) 40 ?_
    refine eB.t (by rw [show (16 : Int32) = nI 16 from rfl, nI_leI (by omega) (by omega)]; omega) ?_
    exact next S W f0 g0 gm gd gw gt (fun q hq => hW q (by omega))
  | succ n ih =>
    intro j S W hj f0 g0 gm gd gw gt hW
    refine Gd.of (ckX5 _ _) tX5_finish_ok (cuts := finC) 40 ?_
    refine eB.f (by rw [show (16 : Int32) = nI 16 from rfl, nI_leI (by omega) (by omega)]; omega) ?_
    refine eG.i g0 rfl ?_
    refine eG.i g0 rfl ?_
    refine ⟨rfl, Nat.le_of_ble_eq_true rfl, ?_⟩
    refine eV.i gm.obj ?_
    refine eC.i (c_Row_number gm) ⟨Nat.le_of_ble_eq_true rfl, Nat.le_of_ble_eq_true rfl⟩ ⟨Nat.zero_le _, Nat.zero_le _⟩ (fun v S' hk => ?_)
    obtain ⟨rfl, rfl⟩ := hk
    refine eS.i (i := nI j) gw (vp_in_nI (by omega) (by omega)) ?_
    have e4 : nI (64 * k) + 4 * nI j = nI (64 * k + 4 * j) := by rw [show (4 : Int32) = nI 4 from rfl, pk_mul, nI_add]
    have en : rNum p (nI (64 * k) + 4 * nI j) = num4 p (64 * k + 4 * j) := by
      rw [e4, rNum, nI_toInt (by omega), if_pos (by omega)]
      congr 1
    have e1 : nI j + 1 = nI (j + 1) := nI_1 j
    have f1 : fr S' (mUp S' (a + 5) (eIn G 64 (upd W (nI j).toNatClampNeg (rNum p (nI (64 * k) + 4 * nI j))))) (fun q => q = a + 5) := fr.up rfl
    have h9 := ih (j + 1) (mUp S' (a + 5) (eIn G 64 (upd W (nI j).toNatClampNeg (rNum p (nI (64 * k) + 4 * nI j))))) (upd W j (num4 p (64 * k + 4 * j))) (by omega) (f0.tr (f1.mono (fun q hq => by rw [hq]; constructor <;> omega))) (g0.fr f1 (by omega)) (gm.fr f1 (by omega) (by omega)) (gd.fr f1 (by omega) (by omega)) (by rw [en, nI_clamp (by omega)]; exact gw.up) (gt.fr f1 (by omega)) (fun q hq => by
      by_cases h : q = j
      · subst h; exact pk_us
      · rw [pk_un h]; exact hW q (by omega))
    rw [← e1] at h9
    exact h9
theorem fin3 (hG : GOK G) {D p ld : List Int32} {bits : Int32} {nb : Nat} (hp : p.length = 64 * nb) (hnb : nb ≤ 11) (hD : D = outB (stF p nb) 8) : ∀ (n k : Nat) (S : mS) (W t : Nat → Int32), k + n = nb → fr S0 S (xS a) → ShO G S a → Rl G S (a + 1) 704 p → Rl G S (a + 3) 32 ld → mAt G S (a + 5) (eIn G 64 W) → mAt G S (a + 6) (eIn G 8 t) → (∀ j, j < 8 → t j = stF p k j) →
    Gd G finI cX5_finish 4 (rmD 1) 0 0 (finK G S0 a D) 93 [(0, .ref a), (1, .int bits), (2, .int (nI (64 * k)))] [] (0, 0) S := by
  intro n
  induction n with
  | zero =>
    intro k S W t hk f0 g0 gm gd gw gt ht
    refine Gd.of (ckX5 _ _) tX5_finish_ok (cuts := finC) 40 ?_
    refine eG.i g0 rfl ?_
    refine eG.i gm.obj rfl ?_
    refine eB.t (by rw [hp, nI_leI (by omega) (by omega)]; omega) ?_
    refine eG.i g0 rfl ?_
    refine ⟨rfl, Nat.le_of_ble_eq_true rfl, ?_⟩
    refine eV.i gd.obj ?_
    refine eC.i (c_Row_empty gd) ⟨Nat.le_of_ble_eq_true rfl, Nat.le_of_ble_eq_true rfl⟩ ⟨Nat.zero_le _, Nat.zero_le _⟩ (fun v S' hk => ?_)
    obtain ⟨rfl, f1, gd'⟩ := hk
    exact fin4 (t := t) (by rw [hD, show nb = k by omega]; exact outB_congr (fun j hj => (ht j hj).symm)) 8 0 S' (by omega) (f0.tr (f1.mono (fun q hq => by rcases hq with h | h <;> (constructor <;> omega)))) (g0.fr f1 (by omega)) (gm.fr f1 (by omega) (by omega)) ⟨W, gw.fr f1 (by omega)⟩ (gt.fr f1 (by omega)) gd'
  | succ n ih =>
    intro k S W t hk f0 g0 gm gd gw gt ht
    refine Gd.of (ckX5 _ _) tX5_finish_ok (cuts := finC) 40 ?_
    refine eG.i g0 rfl ?_
    refine eG.i gm.obj rfl ?_
    refine eB.f (by rw [hp, nI_leI (by omega) (by omega)]; omega) ?_
    refine fin2 (t := t) (ld := ld) hp (by omega) hnb (fun S W f0 g0 gm gd gw gt hW => ?_) 16 0 S W (by omega) f0 g0 gm gd gw gt (fun q hq => absurd hq (Nat.not_lt_zero q))
    refine Gd.of (ckX5 _ _) tX5_finish_ok (cuts := finC) 40 ?_
    refine ⟨rfl, Nat.le_of_ble_eq_true rfl, ?_⟩
    refine eV.i g0 ?_
    refine eC.i (c_Sha_stretch g0 gw) ⟨Nat.le_of_ble_eq_true rfl, Nat.le_of_ble_eq_true rfl⟩ ⟨Nat.zero_le _, Nat.zero_le _⟩ (fun v S1 hk1 => ?_)
    obtain ⟨rfl, f1, gw1⟩ := hk1
    have g01 : ShO G S1 a := g0.fr f1 (by omega)
    refine ⟨rfl, Nat.le_of_ble_eq_true rfl, ?_⟩
    refine eV.i g01 ?_
    refine eC.i (c_Sha_mix hG g01 gw1 (gt.fr f1 (by omega))) ⟨Nat.le_of_ble_eq_true rfl, Nat.le_of_ble_eq_true rfl⟩ ⟨Nat.zero_le _, Nat.zero_le _⟩ (fun v S2 hk2 => ?_)
    obtain ⟨rfl, f2, gt2⟩ := hk2
    have e1 : nI (64 * k) + 64 = nI (64 * (k + 1)) := by rw [show (64 : Int32) = nI 64 from rfl, nI_add]; congr 1
    have h9 := ih (k + 1) S2 (wX 48 W) (s8add t (rnds KT (wX 48 W) 64 (s8of t))) (by omega) ((f0.tr (f1.mono (fun q hq => by rw [hq]; constructor <;> omega))).tr (f2.mono (fun q hq => by rw [hq]; constructor <;> omega))) (g01.fr f2 (by omega)) ((gm.fr f1 (by omega) (by omega)).fr f2 (by omega) (by omega)) ((gd.fr f1 (by omega) (by omega)).fr f2 (by omega) (by omega)) (gw1.fr f2 (by omega)) gt2
      (blk_eq ht (fun j hj => by rw [hW j hj, blkW, if_pos hj]))
    rw [← e1] at h9
    exact h9
theorem c_Sha_finish {lm ld : List Int32} (hG : GOK G) (h : Sha G S a lm ld) (hl : lm.length ≤ 634) :
    mCon G yX5_finish cX5_finish 4 (some (.object "GossipWatch$Row")) (rmD 1) [.ref a] S (finK G S a (sha lm)) := by
  obtain ⟨g0, gm, gd, ⟨w, gw⟩, t, gt⟩ := h
  obtain ⟨z1, z2, z3⟩ := zc_ok lm.length
  refine mCon.of (I := finI) (by decide) rfl rfl (fun h => by cases h) (fun _ => rfl) (Nat.le_of_ble_eq_true rfl) ?_
  have key : ∀ (n i : Nat) (S1 : mS), i + n = zc lm.length → fr S S1 (xR (a + 1)) → Rl G S1 (a + 1) 704 (padA lm i) → Gd G finI cX5_finish 4 (rmD 1) 0 0 (finK G S a (sha lm)) 23 [(0, .ref a), (1, .int (nI (lm.length * 8))), (2, .int (nI i))] [] (0, 0) S1 := by
    intro n
    induction n with
    | zero =>
      intro i S1 hi f1 gm1
      have g01 : ShO G S1 a := g0.fr f1 (by omega)
      refine Gd.of (ckX5 _ _) tX5_finish_ok (cuts := finC) 80 ?_
      refine eB.f (by rw [show (64 : Int32) = nI 64 from rfl, nI_leI (by omega) (by omega)]; omega) ?_
      refine eG.i g01 rfl ?_
      refine eG.i gm1.obj rfl ?_
      refine eZ.i (by decide) ?_
      refine eB.t ?_ ?_
      · rw [padA_len, show (64 : Int32) = nI 64 from rfl, pk_rem (by omega) (by omega) (by omega), show (56 : Int32) = nI 56 from rfl, nI_eq (by omega) (by omega), show i = zc lm.length by omega]
        exact z1
      refine eG.i g01 rfl ?_
      refine ⟨rfl, Nat.le_of_ble_eq_true rfl, ?_⟩
      refine eV.i gm1.obj ?_
      refine eC.i (c_Row_addNumber gm1 (by rw [padA_len]; omega)) ⟨Nat.le_of_ble_eq_true rfl, Nat.le_of_ble_eq_true rfl⟩ ⟨Nat.zero_le _, Nat.zero_le _⟩ (fun v S2 hk => ?_)
      obtain ⟨rfl, f2, gm2⟩ := hk
      have g02 : ShO G S2 a := g01.fr f2 (by omega)
      refine eG.i g02 rfl ?_
      refine ⟨rfl, Nat.le_of_ble_eq_true rfl, ?_⟩
      refine eV.i gm2.obj ?_
      refine eC.i (c_Row_addNumber gm2 (by rw [List.length_append, padA_len]; show _ + 4 + 4 ≤ _; omega)) ⟨Nat.le_of_ble_eq_true rfl, Nat.le_of_ble_eq_true rfl⟩ ⟨Nat.zero_le _, Nat.zero_le _⟩ (fun v S3 hk => ?_)
      obtain ⟨rfl, f3, gm3⟩ := hk
      have g03 : ShO G S3 a := g02.fr f3 (by omega)
      have f13 := (f1.tr f2).tr f3
      have gt3 := gt.fr f13 (by omega)
      have gw3 := gw.fr f13 (by omega)
      have gd3 := gd.fr f13 (by omega) (by omega)
      refine eG.i g03 rfl ?_
      refine eG.i g03 rfl ?_
      refine eN.i (t := 0) gt3 (by decide) ?_
      refine ⟨Nat.le_of_ble_eq_true rfl, ?_⟩
      refine eY.x 1 (by decide) ⟨by decide, by decide, by decide⟩ ⟨Nat.le_of_ble_eq_true rfl, Nat.le_of_ble_eq_true rfl⟩ gt3 ?_ ?_
      · rw [hG.1]; exact ⟨by decide, by decide⟩
      have gm3' : Rl G S3 (a + 1) 704 (pad lm) := by
        rw [show i = zc lm.length by omega] at gm3
        exact gm3
      have f4 : fr S3 (mUp S3 (a + 6) (eIn G 8 (va_cpy (G.2.2.2 1).2.2 t (0 : Int32).toNatClampNeg (0 : Int32).toNatClampNeg (nI 8).toNatClampNeg))) (fun q => q = a + 6) := fr.up rfl
      have hpl := pad_len lm
      have h9 := fin3 (S0 := S) (a := a) hG (D := sha lm) (p := pad lm) (ld := ld) (bits := nI (lm.length * 8)) (nb := (pad lm).length / 64) (by omega) (by omega) rfl ((pad lm).length / 64) 0 (mUp S3 (a + 6) (eIn G 8 (va_cpy (G.2.2.2 1).2.2 t (0 : Int32).toNatClampNeg (0 : Int32).toNatClampNeg (nI 8).toNatClampNeg))) w _ (by omega) ((f13.mono (fun q hq => by rcases hq with h | h <;> (constructor <;> omega))).tr (f4.mono (fun q hq => by rw [hq]; constructor <;> omega))) (g03.fr f4 (by omega)) (gm3'.fr f4 (by omega) (by omega)) (gd3.fr f4 (by omega) (by omega)) (gw3.fr f4 (by omega)) gt3.up (fun j hj => by
        show va_cpy (G.2.2.2 1).2.2 t 0 0 8 j = IVT j
        rw [pk_cpy_in (by omega) (by omega), show 0 + (j - 0) = j by omega]
        exact hG.2.2.1 j hj)
      exact h9
    | succ n ih =>
      intro i S1 hi f1 gm1
      have g01 : ShO G S1 a := g0.fr f1 (by omega)
      refine Gd.of (ckX5 _ _) tX5_finish_ok (cuts := finC) 80 ?_
      refine eB.f (by rw [show (64 : Int32) = nI 64 from rfl, nI_leI (by omega) (by omega)]; omega) ?_
      refine eG.i g01 rfl ?_
      refine eG.i gm1.obj rfl ?_
      refine eZ.i (by decide) ?_
      refine eB.f ?_ ?_
      · rw [padA_len, show (64 : Int32) = nI 64 from rfl, pk_rem (by omega) (by omega) (by omega), show (56 : Int32) = nI 56 from rfl, nI_eq (by omega) (by omega)]
        exact z3 i (by omega)
      refine eG.i g01 rfl ?_
      refine ⟨rfl, Nat.le_of_ble_eq_true rfl, ?_⟩
      refine eV.i gm1.obj ?_
      refine eC.i (c_Row_add gm1 (by rw [padA_len]; omega)) ⟨Nat.le_of_ble_eq_true rfl, Nat.le_of_ble_eq_true rfl⟩ ⟨Nat.zero_le _, Nat.zero_le _⟩ (fun v S2 hk => ?_)
      obtain ⟨rfl, f2, gm2⟩ := hk
      have e1 : nI i + 1 = nI (i + 1) := nI_1 i
      have h9 := ih (i + 1) S2 (by omega) (f1.tr f2) (by
        have e2 : padA lm (i + 1) = padA lm i ++ [(0 : Int32).toInt8.toInt32] := by
          unfold padA
          rw [List.replicate_succ', ← List.append_assoc]
          rfl
        rw [e2]
        exact gm2)
      rw [← e1] at h9
      exact h9
  refine Gd.of (ckX5 _ _) tX5_finish_ok (cuts := finC) 80 ?_
  refine eG.i g0 rfl ?_
  refine eG.i gm.obj rfl ?_
  refine eG.i g0 rfl ?_
  refine ⟨rfl, Nat.le_of_ble_eq_true rfl, ?_⟩
  refine eV.i gm.obj ?_
  refine eC.i (c_Row_add gm (by omega)) ⟨Nat.le_of_ble_eq_true rfl, Nat.le_of_ble_eq_true rfl⟩ ⟨Nat.zero_le _, Nat.zero_le _⟩ (fun v S1 hk => ?_)
  obtain ⟨rfl, f1, gm1⟩ := hk
  have e8 : nI lm.length * 8 = nI (lm.length * 8) := by rw [show (8 : Int32) = nI 8 from rfl, pk_mul]
  have h9 := key (zc lm.length) 0 S1 (by omega) f1 (by
    unfold padA
    rw [List.replicate_zero, List.append_nil]
    exact gm1)
  rw [← e8] at h9
  exact h9
end FIN
