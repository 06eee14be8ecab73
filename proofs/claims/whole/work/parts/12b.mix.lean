def KT : Nat → Int32 := fun j => ([1116352408, 1899447441, (-1245643825), (-373957723), 961987163, 1508970993, (-1841331548), (-1424204075), (-670586216), 310598401, 607225278, 1426881987, 1925078388, (-2132889090), (-1680079193), (-1046744716), (-459576895), (-272742522), 264347078, 604807628, 770255983, 1249150122, 1555081692, 1996064986, (-1740746414), (-1473132947), (-1341970488), (-1084653625), (-958395405), (-710438585), 113926993, 338241895, 666307205, 773529912, 1294757372, 1396182291, 1695183700, 1986661051, (-2117940946), (-1838011259), (-1564481375), (-1474664885), (-1035236496), (-949202525), (-778901479), (-694614492), (-200395387), 275423344, 430227734, 506948616, 659060556, 883997877, 958139571, 1322822218, 1537002063, 1747873779, 1955562222, 2024104815, (-2067236844), (-1933114872), (-1866530822), (-1538233109), (-1090935817), (-965641998)] : List Int32).getD j 0
def IVT : Nat → Int32 := fun j => ([1779033703, (-1150833019), 1013904242, (-1521486534), 1359893119, (-1694144372), 528734635, 1541459225] : List Int32).getD j 0
/-- the two tables that are read off the class -/
def GOK (G : mG) : Prop := (G.2.2.2 1).2.1 = 8 ∧ (G.2.2.2 2).2.1 = 64 ∧ (∀ j, j < 8 → (G.2.2.2 1).2.2 j = IVT j) ∧ ∀ j, j < 64 → (G.2.2.2 2).2.2 j = KT j
section SHM
variable {G : mG} {S : mS} {a : Nat}
def cutMix : Nat → Option Nat := (nd 150 (nd 100 (lf 66 10) (nd 130 (lf 113 11) (lf 149 12))) (nd 233 (nd 190 (lf 179 13) (lf 195 14)) (nd 270 (nd 250 (lf 243 10) (nd 260 (lf 253 10) (lf 263 10))) (nd 290 (nd 280 (lf 274 10) (lf 285 10)) (nd 300 (lf 296 10) (nd 315 (lf 308 10) (lf 320 10)))))))
set_option maxRecDepth 8000 in
set_option maxHeartbeats 2000000 in
theorem sha_mix_end {W t : Nat → Int32} {x1 x2 x3 x4 x5 x6 x7 x8 : Int32} {n : Nat} (h0 : ShO G S a) (ht : mAt G S (a + 6) (eIn G 8 t)) (he : rnds KT W 64 (s8of t) = (x1, x2, x3, x4, x5, x6, x7, x8)) :
    Gd G (miX5 false none) cX5_mix 14 (rmD 0) 0 0 (fun v S' => v = none ∧ fr S S' (fun q => q = a + 6) ∧ mAt G S' (a + 6) (eIn G 8 (s8add t (rnds KT W 64 (s8of t))))) 233 [(0, .ref a), (1, .int x1), (2, .int x2), (3, .int x3), (4, .int x4), (5, .int x5), (6, .int x6), (7, .int x7), (8, .int x8), (9, .int (nI n))] [] (0, 0) S := by
  rw [he]
  have k8 : ∀ (S1 : mS) (F : Nat → Int32), fr S S1 (fun q => q = a + 6) → mAt G S1 (a + 6) (eIn G 8 F) → (∀ i, (i < 8 ∨ 8 ≤ i) → F i = s8add t (x1, x2, x3, x4, x5, x6, x7, x8) i) → (∀ i, 8 ≤ i → i < 8 → F i = t i) → Gd G (miX5 false none) cX5_mix 14 (rmD 0) 0 0 (fun v S' => v = none ∧ fr S S' (fun q => q = a + 6) ∧ mAt G S' (a + 6) (eIn G 8 (s8add t (x1, x2, x3, x4, x5, x6, x7, x8)))) 320 [(0, .ref a), (1, .int x1), (2, .int x2), (3, .int x3), (4, .int x4), (5, .int x5), (6, .int x6), (7, .int x7), (8, .int x8), (9, .int (nI n))] [] (0, 0) S1 := by
    intro S1 F f1 h1 q1 q2
    have g0 : ShO G S1 a := h0.fr f1 (by omega)
    refine Gd.of (ckX5 _ _) tX5_mix_ok (cuts := cutMix) 30 ?_
    refine eR.v ⟨rfl, f1, ?_⟩
    have e : F = s8add t (x1, x2, x3, x4, x5, x6, x7, x8) := funext (fun i => q1 i (by omega))
    rw [← e]
    exact h1
  have k7 : ∀ (S1 : mS) (F : Nat → Int32), fr S S1 (fun q => q = a + 6) → mAt G S1 (a + 6) (eIn G 8 F) → (∀ i, (i < 7 ∨ 8 ≤ i) → F i = s8add t (x1, x2, x3, x4, x5, x6, x7, x8) i) → (∀ i, 7 ≤ i → i < 8 → F i = t i) → Gd G (miX5 false none) cX5_mix 14 (rmD 0) 0 0 (fun v S' => v = none ∧ fr S S' (fun q => q = a + 6) ∧ mAt G S' (a + 6) (eIn G 8 (s8add t (x1, x2, x3, x4, x5, x6, x7, x8)))) 308 [(0, .ref a), (1, .int x1), (2, .int x2), (3, .int x3), (4, .int x4), (5, .int x5), (6, .int x6), (7, .int x7), (8, .int x8), (9, .int (nI n))] [] (0, 0) S1 := by
    intro S1 F f1 h1 q1 q2
    have g0 : ShO G S1 a := h0.fr f1 (by omega)
    refine Gd.of (ckX5 _ _) tX5_mix_ok (cuts := cutMix) 30 ?_
    refine eG.i g0 rfl ?_
    refine eL.i (i := 7) h1 (vp_in_iff.mpr (by decide)) ?_
    refine eS.i (i := 7) h1 (vp_in_iff.mpr (by decide)) ?_
    refine k8 _ _ (f1.tr (fr.up rfl)) h1.up (fun i hi => ?_) (fun i hi hi2 => ?_)
    · by_cases hq : i = 7
      · subst hq
        show upd F 7 (F 7 + x8) 7 = _
        rw [pk_us, q2 7 (by omega) (by omega)]
        rfl
      · show upd F 7 (F 7 + x8) i = _
        rw [pk_un hq]
        exact q1 i (by omega)
    · show upd F 7 (F 7 + x8) i = _
      rw [pk_un (by omega)]
      exact q2 i (by omega) hi2
  have k6 : ∀ (S1 : mS) (F : Nat → Int32), fr S S1 (fun q => q = a + 6) → mAt G S1 (a + 6) (eIn G 8 F) → (∀ i, (i < 6 ∨ 8 ≤ i) → F i = s8add t (x1, x2, x3, x4, x5, x6, x7, x8) i) → (∀ i, 6 ≤ i → i < 8 → F i = t i) → Gd G (miX5 false none) cX5_mix 14 (rmD 0) 0 0 (fun v S' => v = none ∧ fr S S' (fun q => q = a + 6) ∧ mAt G S' (a + 6) (eIn G 8 (s8add t (x1, x2, x3, x4, x5, x6, x7, x8)))) 296 [(0, .ref a), (1, .int x1), (2, .int x2), (3, .int x3), (4, .int x4), (5, .int x5), (6, .int x6), (7, .int x7), (8, .int x8), (9, .int (nI n))] [] (0, 0) S1 := by
    intro S1 F f1 h1 q1 q2
    have g0 : ShO G S1 a := h0.fr f1 (by omega)
    refine Gd.of (ckX5 _ _) tX5_mix_ok (cuts := cutMix) 30 ?_
    refine eG.i g0 rfl ?_
    refine eL.i (i := 6) h1 (vp_in_iff.mpr (by decide)) ?_
    refine eS.i (i := 6) h1 (vp_in_iff.mpr (by decide)) ?_
    refine k7 _ _ (f1.tr (fr.up rfl)) h1.up (fun i hi => ?_) (fun i hi hi2 => ?_)
    · by_cases hq : i = 6
      · subst hq
        show upd F 6 (F 6 + x7) 6 = _
        rw [pk_us, q2 6 (by omega) (by omega)]
        rfl
      · show upd F 6 (F 6 + x7) i = _
        rw [pk_un hq]
        exact q1 i (by omega)
    · show upd F 6 (F 6 + x7) i = _
      rw [pk_un (by omega)]
      exact q2 i (by omega) hi2
  have k5 : ∀ (S1 : mS) (F : Nat → Int32), fr S S1 (fun q => q = a + 6) → mAt G S1 (a + 6) (eIn G 8 F) → (∀ i, (i < 5 ∨ 8 ≤ i) → F i = s8add t (x1, x2, x3, x4, x5, x6, x7, x8) i) → (∀ i, 5 ≤ i → i < 8 → F i = t i) → Gd G (miX5 false none) cX5_mix 14 (rmD 0) 0 0 (fun v S' => v = none ∧ fr S S' (fun q => q = a + 6) ∧ mAt G S' (a + 6) (eIn G 8 (s8add t (x1, x2, x3, x4, x5, x6, x7, x8)))) 285 [(0, .ref a), (1, .int x1), (2, .int x2), (3, .int x3), (4, .int x4), (5, .int x5), (6, .int x6), (7, .int x7), (8, .int x8), (9, .int (nI n))] [] (0, 0) S1 := by
    intro S1 F f1 h1 q1 q2
    have g0 : ShO G S1 a := h0.fr f1 (by omega)
    refine Gd.of (ckX5 _ _) tX5_mix_ok (cuts := cutMix) 30 ?_
    refine eG.i g0 rfl ?_
    refine eL.i (i := 5) h1 (vp_in_iff.mpr (by decide)) ?_
    refine eS.i (i := 5) h1 (vp_in_iff.mpr (by decide)) ?_
    refine k6 _ _ (f1.tr (fr.up rfl)) h1.up (fun i hi => ?_) (fun i hi hi2 => ?_)
    · by_cases hq : i = 5
      · subst hq
        show upd F 5 (F 5 + x6) 5 = _
        rw [pk_us, q2 5 (by omega) (by omega)]
        rfl
      · show upd F 5 (F 5 + x6) i = _
        rw [pk_un hq]
        exact q1 i (by omega)
    · show upd F 5 (F 5 + x6) i = _
      rw [pk_un (by omega)]
      exact q2 i (by omega) hi2
  have k4 : ∀ (S1 : mS) (F : Nat → Int32), fr S S1 (fun q => q = a + 6) → mAt G S1 (a + 6) (eIn G 8 F) → (∀ i, (i < 4 ∨ 8 ≤ i) → F i = s8add t (x1, x2, x3, x4, x5, x6, x7, x8) i) → (∀ i, 4 ≤ i → i < 8 → F i = t i) → Gd G (miX5 false none) cX5_mix 14 (rmD 0) 0 0 (fun v S' => v = none ∧ fr S S' (fun q => q = a + 6) ∧ mAt G S' (a + 6) (eIn G 8 (s8add t (x1, x2, x3, x4, x5, x6, x7, x8)))) 274 [(0, .ref a), (1, .int x1), (2, .int x2), (3, .int x3), (4, .int x4), (5, .int x5), (6, .int x6), (7, .int x7), (8, .int x8), (9, .int (nI n))] [] (0, 0) S1 := by
    intro S1 F f1 h1 q1 q2
    have g0 : ShO G S1 a := h0.fr f1 (by omega)
    refine Gd.of (ckX5 _ _) tX5_mix_ok (cuts := cutMix) 30 ?_
    refine eG.i g0 rfl ?_
    refine eL.i (i := 4) h1 (vp_in_iff.mpr (by decide)) ?_
    refine eS.i (i := 4) h1 (vp_in_iff.mpr (by decide)) ?_
    refine k5 _ _ (f1.tr (fr.up rfl)) h1.up (fun i hi => ?_) (fun i hi hi2 => ?_)
    · by_cases hq : i = 4
      · subst hq
        show upd F 4 (F 4 + x5) 4 = _
        rw [pk_us, q2 4 (by omega) (by omega)]
        rfl
      · show upd F 4 (F 4 + x5) i = _
        rw [pk_un hq]
        exact q1 i (by omega)
    · show upd F 4 (F 4 + x5) i = _
      rw [pk_un (by omega)]
      exact q2 i (by omega) hi2
  have k3 : ∀ (S1 : mS) (F : Nat → Int32), fr S S1 (fun q => q = a + 6) → mAt G S1 (a + 6) (eIn G 8 F) → (∀ i, (i < 3 ∨ 8 ≤ i) → F i = s8add t (x1, x2, x3, x4, x5, x6, x7, x8) i) → (∀ i, 3 ≤ i → i < 8 → F i = t i) → Gd G (miX5 false none) cX5_mix 14 (rmD 0) 0 0 (fun v S' => v = none ∧ fr S S' (fun q => q = a + 6) ∧ mAt G S' (a + 6) (eIn G 8 (s8add t (x1, x2, x3, x4, x5, x6, x7, x8)))) 263 [(0, .ref a), (1, .int x1), (2, .int x2), (3, .int x3), (4, .int x4), (5, .int x5), (6, .int x6), (7, .int x7), (8, .int x8), (9, .int (nI n))] [] (0, 0) S1 := by
    intro S1 F f1 h1 q1 q2
    have g0 : ShO G S1 a := h0.fr f1 (by omega)
    refine Gd.of (ckX5 _ _) tX5_mix_ok (cuts := cutMix) 30 ?_
    refine eG.i g0 rfl ?_
    refine eL.i (i := 3) h1 (vp_in_iff.mpr (by decide)) ?_
    refine eS.i (i := 3) h1 (vp_in_iff.mpr (by decide)) ?_
    refine k4 _ _ (f1.tr (fr.up rfl)) h1.up (fun i hi => ?_) (fun i hi hi2 => ?_)
    · by_cases hq : i = 3
      · subst hq
        show upd F 3 (F 3 + x4) 3 = _
        rw [pk_us, q2 3 (by omega) (by omega)]
        rfl
      · show upd F 3 (F 3 + x4) i = _
        rw [pk_un hq]
        exact q1 i (by omega)
    · show upd F 3 (F 3 + x4) i = _
      rw [pk_un (by omega)]
      exact q2 i (by omega) hi2
  have k2 : ∀ (S1 : mS) (F : Nat → Int32), fr S S1 (fun q => q = a + 6) → mAt G S1 (a + 6) (eIn G 8 F) → (∀ i, (i < 2 ∨ 8 ≤ i) → F i = s8add t (x1, x2, x3, x4, x5, x6, x7, x8) i) → (∀ i, 2 ≤ i → i < 8 → F i = t i) → Gd G (miX5 false none) cX5_mix 14 (rmD 0) 0 0 (fun v S' => v = none ∧ fr S S' (fun q => q = a + 6) ∧ mAt G S' (a + 6) (eIn G 8 (s8add t (x1, x2, x3, x4, x5, x6, x7, x8)))) 253 [(0, .ref a), (1, .int x1), (2, .int x2), (3, .int x3), (4, .int x4), (5, .int x5), (6, .int x6), (7, .int x7), (8, .int x8), (9, .int (nI n))] [] (0, 0) S1 := by
    intro S1 F f1 h1 q1 q2
    have g0 : ShO G S1 a := h0.fr f1 (by omega)
    refine Gd.of (ckX5 _ _) tX5_mix_ok (cuts := cutMix) 30 ?_
    refine eG.i g0 rfl ?_
    refine eL.i (i := 2) h1 (vp_in_iff.mpr (by decide)) ?_
    refine eS.i (i := 2) h1 (vp_in_iff.mpr (by decide)) ?_
    refine k3 _ _ (f1.tr (fr.up rfl)) h1.up (fun i hi => ?_) (fun i hi hi2 => ?_)
    · by_cases hq : i = 2
      · subst hq
        show upd F 2 (F 2 + x3) 2 = _
        rw [pk_us, q2 2 (by omega) (by omega)]
        rfl
      · show upd F 2 (F 2 + x3) i = _
        rw [pk_un hq]
        exact q1 i (by omega)
    · show upd F 2 (F 2 + x3) i = _
      rw [pk_un (by omega)]
      exact q2 i (by omega) hi2
  have k1 : ∀ (S1 : mS) (F : Nat → Int32), fr S S1 (fun q => q = a + 6) → mAt G S1 (a + 6) (eIn G 8 F) → (∀ i, (i < 1 ∨ 8 ≤ i) → F i = s8add t (x1, x2, x3, x4, x5, x6, x7, x8) i) → (∀ i, 1 ≤ i → i < 8 → F i = t i) → Gd G (miX5 false none) cX5_mix 14 (rmD 0) 0 0 (fun v S' => v = none ∧ fr S S' (fun q => q = a + 6) ∧ mAt G S' (a + 6) (eIn G 8 (s8add t (x1, x2, x3, x4, x5, x6, x7, x8)))) 243 [(0, .ref a), (1, .int x1), (2, .int x2), (3, .int x3), (4, .int x4), (5, .int x5), (6, .int x6), (7, .int x7), (8, .int x8), (9, .int (nI n))] [] (0, 0) S1 := by
    intro S1 F f1 h1 q1 q2
    have g0 : ShO G S1 a := h0.fr f1 (by omega)
    refine Gd.of (ckX5 _ _) tX5_mix_ok (cuts := cutMix) 30 ?_
    refine eG.i g0 rfl ?_
    refine eL.i (i := 1) h1 (vp_in_iff.mpr (by decide)) ?_
    refine eS.i (i := 1) h1 (vp_in_iff.mpr (by decide)) ?_
    refine k2 _ _ (f1.tr (fr.up rfl)) h1.up (fun i hi => ?_) (fun i hi hi2 => ?_)
    · by_cases hq : i = 1
      · subst hq
        show upd F 1 (F 1 + x2) 1 = _
        rw [pk_us, q2 1 (by omega) (by omega)]
        rfl
      · show upd F 1 (F 1 + x2) i = _
        rw [pk_un hq]
        exact q1 i (by omega)
    · show upd F 1 (F 1 + x2) i = _
      rw [pk_un (by omega)]
      exact q2 i (by omega) hi2
  have k0 : ∀ (S1 : mS) (F : Nat → Int32), fr S S1 (fun q => q = a + 6) → mAt G S1 (a + 6) (eIn G 8 F) → (∀ i, (i < 0 ∨ 8 ≤ i) → F i = s8add t (x1, x2, x3, x4, x5, x6, x7, x8) i) → (∀ i, 0 ≤ i → i < 8 → F i = t i) → Gd G (miX5 false none) cX5_mix 14 (rmD 0) 0 0 (fun v S' => v = none ∧ fr S S' (fun q => q = a + 6) ∧ mAt G S' (a + 6) (eIn G 8 (s8add t (x1, x2, x3, x4, x5, x6, x7, x8)))) 233 [(0, .ref a), (1, .int x1), (2, .int x2), (3, .int x3), (4, .int x4), (5, .int x5), (6, .int x6), (7, .int x7), (8, .int x8), (9, .int (nI n))] [] (0, 0) S1 := by
    intro S1 F f1 h1 q1 q2
    have g0 : ShO G S1 a := h0.fr f1 (by omega)
    refine Gd.of (ckX5 _ _) tX5_mix_ok (cuts := cutMix) 30 ?_
    refine eG.i g0 rfl ?_
    refine eL.i (i := 0) h1 (vp_in_iff.mpr (by decide)) ?_
    refine eS.i (i := 0) h1 (vp_in_iff.mpr (by decide)) ?_
    refine k1 _ _ (f1.tr (fr.up rfl)) h1.up (fun i hi => ?_) (fun i hi hi2 => ?_)
    · by_cases hq : i = 0
      · subst hq
        show upd F 0 (F 0 + x1) 0 = _
        rw [pk_us, q2 0 (by omega) (by omega)]
        rfl
      · show upd F 0 (F 0 + x1) i = _
        rw [pk_un hq]
        exact q1 i (by omega)
    · show upd F 0 (F 0 + x1) i = _
      rw [pk_un (by omega)]
      exact q2 i (by omega) hi2
  exact k0 S t fr.rf ht (fun i hi => by
    obtain ⟨j, rfl⟩ : ∃ j, i = j + 8 := ⟨i - 8, by omega⟩
    rfl) (fun i _ _ => rfl)
set_option maxRecDepth 8000 in
set_option maxHeartbeats 2000000 in
theorem c_Sha_mix {W t : Nat → Int32} (hG : GOK G) (h0 : ShO G S a) (hw : mAt G S (a + 5) (eIn G 64 W)) (ht : mAt G S (a + 6) (eIn G 8 t)) :
    mCon G yX5_mix cX5_mix 14 none (rmD 0) [.ref a] S (fun v S' => v = none ∧ fr S S' (fun q => q = a + 6) ∧ mAt G S' (a + 6) (eIn G 8 (s8add t (rnds KT W 64 (s8of t))))) := by
  refine mCon.of (I := miX5 false none) (by decide) rfl rfl (fun h => by cases h) (fun _ => rfl) (Nat.le_of_ble_eq_true rfl) ?_
  have key : ∀ (n9 n : Nat) (x1 x2 x3 x4 x5 x6 x7 x8 : Int32), n + n9 = 64 → rnds KT W n (s8of t) = (x1, x2, x3, x4, x5, x6, x7, x8) → Gd G (miX5 false none) cX5_mix 14 (rmD 0) 0 0 (fun v S' => v = none ∧ fr S S' (fun q => q = a + 6) ∧ mAt G S' (a + 6) (eIn G 8 (s8add t (rnds KT W 64 (s8of t))))) 66 [(0, .ref a), (1, .int x1), (2, .int x2), (3, .int x3), (4, .int x4), (5, .int x5), (6, .int x6), (7, .int x7), (8, .int x8), (9, .int (nI n))] [] (0, 0) S := by
    intro n9
    induction n9 with
    | zero =>
      intro n x1 x2 x3 x4 x5 x6 x7 x8 hn he
      rw [show n = 64 by omega] at he
      refine Gd.of (ckX5 _ _) tX5_mix_ok (cuts := nd 233 (lf 66 10) (lf 233 10)) 30 ?_
      refine eG.i h0 rfl ?_
      refine eN.i (t := 0) hw (by decide) ?_
      refine eB.t (by rw [nI_leI (by omega) (by omega)]; omega) ?_
      exact sha_mix_end h0 ht he
    | succ n9 ih =>
      intro n x1 x2 x3 x4 x5 x6 x7 x8 hn he
      have e1 : nI n + 1 = nI (n + 1) := nI_1 n
      have ek : (G.2.2.2 2).2.2 (nI n).toNatClampNeg = KT n := by rw [nI_clamp (by omega)]; exact hG.2.2.2 n (by omega)
      have ew : W (nI n).toNatClampNeg = W n := by rw [nI_clamp (by omega)]
      have k195 : ∀ y10 y11 y12 y13 : Int32, y11 = ((((x8 + bs1 x5) + chf x5 x6 x7) + KT n) + W n) → y13 = bs0 x1 + maj x1 x2 x3 → Gd G (miX5 false none) cX5_mix 14 (rmD 0) 0 0 (fun v S' => v = none ∧ fr S S' (fun q => q = a + 6) ∧ mAt G S' (a + 6) (eIn G 8 (s8add t (rnds KT W 64 (s8of t))))) 195 [(0, .ref a), (1, .int x1), (2, .int x2), (3, .int x3), (4, .int x4), (5, .int x5), (6, .int x6), (7, .int x7), (8, .int x8), (9, .int (nI n)), (10, .int y10), (11, .int y11), (12, .int y12), (13, .int y13)] [] (0, 0) S := by
        intro y10 y11 y12 y13 q1 q2
        refine Gd.of (ckX5 _ _) tX5_mix_ok (cuts := cutMix) 40 ?_
        have h9 := ih (n + 1) (y11 + y13) x1 x2 x3 (x4 + y11) x5 x6 x7 (by omega) (by rw [rnds, he, q1, q2]; rfl)
        rw [← e1] at h9
        exact h9
      have k179 : ∀ y10 y11 y12 : Int32, y11 = ((((x8 + bs1 x5) + chf x5 x6 x7) + KT n) + W n) → y12 = bs0 x1 → Gd G (miX5 false none) cX5_mix 14 (rmD 0) 0 0 (fun v S' => v = none ∧ fr S S' (fun q => q = a + 6) ∧ mAt G S' (a + 6) (eIn G 8 (s8add t (rnds KT W 64 (s8of t))))) 179 [(0, .ref a), (1, .int x1), (2, .int x2), (3, .int x3), (4, .int x4), (5, .int x5), (6, .int x6), (7, .int x7), (8, .int x8), (9, .int (nI n)), (10, .int y10), (11, .int y11), (12, .int y12)] [] (0, 0) S := by
        intro y10 y11 y12 q1 q2
        refine Gd.of (ckX5 _ _) tX5_mix_ok (cuts := cutMix) 40 ?_
        exact k195 y10 y11 y12 (y12 + maj x1 x2 x3) q1 (by rw [q2])
      have k149 : ∀ y10 y11 : Int32, y11 = ((((x8 + bs1 x5) + chf x5 x6 x7) + KT n) + W n) → Gd G (miX5 false none) cX5_mix 14 (rmD 0) 0 0 (fun v S' => v = none ∧ fr S S' (fun q => q = a + 6) ∧ mAt G S' (a + 6) (eIn G 8 (s8add t (rnds KT W 64 (s8of t))))) 149 [(0, .ref a), (1, .int x1), (2, .int x2), (3, .int x3), (4, .int x4), (5, .int x5), (6, .int x6), (7, .int x7), (8, .int x8), (9, .int (nI n)), (10, .int y10), (11, .int y11)] [] (0, 0) S := by
        intro y10 y11 q1
        refine Gd.of (ckX5 _ _) tX5_mix_ok (cuts := cutMix) 60 ?_
        exact k179 y10 y11 (bs0 x1) q1 rfl
      have k113 : ∀ y10 : Int32, y10 = bs1 x5 → Gd G (miX5 false none) cX5_mix 14 (rmD 0) 0 0 (fun v S' => v = none ∧ fr S S' (fun q => q = a + 6) ∧ mAt G S' (a + 6) (eIn G 8 (s8add t (rnds KT W 64 (s8of t))))) 113 [(0, .ref a), (1, .int x1), (2, .int x2), (3, .int x3), (4, .int x4), (5, .int x5), (6, .int x6), (7, .int x7), (8, .int x8), (9, .int (nI n)), (10, .int y10)] [] (0, 0) S := by
        intro y10 q1
        refine Gd.of (ckX5 _ _) tX5_mix_ok (cuts := cutMix) 60 ?_
        refine eL.x (i := nI n) 2 (by decide) (by rw [hG.2.1]; exact vp_in_nI (by omega) (by omega)) ?_
        refine eG.i h0 rfl ?_
        refine eL.i (i := nI n) hw (vp_in_nI (by omega) (by omega)) ?_
        exact k149 y10 ((((x8 + y10) + chf x5 x6 x7) + (G.2.2.2 2).2.2 (nI n).toNatClampNeg) + W (nI n).toNatClampNeg) (by rw [q1, ek, ew])
      refine Gd.of (ckX5 _ _) tX5_mix_ok (cuts := cutMix) 60 ?_
      refine eG.i h0 rfl ?_
      refine eN.i (t := 0) hw (by decide) ?_
      refine eB.f (by rw [nI_leI (by omega) (by omega)]; omega) ?_
      exact k113 (bs1 x5) rfl
  refine Gd.of (ckX5 _ _) tX5_mix_ok (cuts := lf 66 10) 200 ?_
  refine eG.i h0 rfl ?_
  refine eL.i (i := 0) ht (vp_in_iff.mpr (by decide)) ?_
  refine eG.i h0 rfl ?_
  refine eL.i (i := 1) ht (vp_in_iff.mpr (by decide)) ?_
  refine eG.i h0 rfl ?_
  refine eL.i (i := 2) ht (vp_in_iff.mpr (by decide)) ?_
  refine eG.i h0 rfl ?_
  refine eL.i (i := 3) ht (vp_in_iff.mpr (by decide)) ?_
  refine eG.i h0 rfl ?_
  refine eL.i (i := 4) ht (vp_in_iff.mpr (by decide)) ?_
  refine eG.i h0 rfl ?_
  refine eL.i (i := 5) ht (vp_in_iff.mpr (by decide)) ?_
  refine eG.i h0 rfl ?_
  refine eL.i (i := 6) ht (vp_in_iff.mpr (by decide)) ?_
  refine eG.i h0 rfl ?_
  refine eL.i (i := 7) ht (vp_in_iff.mpr (by decide)) ?_
  exact key 64 0 _ _ _ _ _ _ _ _ (by omega) rfl
end SHM
