/-! the law's calls, one by one -/
def lwC : Nat → Option Nat := nd 568 (nd 377 (nd 228 (nd 152 (lf 30 4) (nd 195 (lf 152 4) (lf 195 4))) (nd 271 (lf 228 4) (nd 324 (lf 271 4) (lf 324 4)))) (nd 476 (nd 420 (lf 377 4) (nd 453 (lf 420 4) (lf 453 4))) (nd 502 (nd 489 (lf 476 4) (lf 489 4)) (nd 535 (lf 502 4) (lf 535 4))))) (nd 796 (nd 677 (nd 601 (lf 568 4) (nd 634 (lf 601 4) (lf 634 4))) (nd 720 (lf 677 4) (nd 763 (lf 720 4) (lf 763 4)))) (nd 875 (nd 819 (lf 796 4) (nd 852 (lf 819 4) (lf 852 4))) (nd 911 (nd 888 (lf 875 4) (lf 888 4)) (nd 917 (lf 911 4) (lf 917 4)))))
section LWO
variable {G : mG} {S : mS} {B i : Nat} {K : List Int32} {vals : Nat → Nat → Int32} {cnt : Nat → Nat} {np : Nat} {kd : Nat → Int32} {lt : Nat → List Int32} {mo : Nat → Mo} {dk : List Int32}
theorem lo_append (hG : GOK G) (v1 : vp_in (nI i + 1) (G.2.2.2 0).2.1) (v2 : vp_in (nI i + 2) (G.2.2.2 0).2.1) (v3 : vp_in (nI i + 3) (G.2.2.2 0).2.1) (v4 : vp_in (nI i + 4) (G.2.2.2 0).2.1) (hI : Inv (K, vals, cnt, np, kd, lt, mo, dk)) (hc : CS G S B (K, vals, cnt, np, kd, lt, mo, dk)) (hm : MS G S (B + 695) (K, vals, cnt, np, kd, lt, mo, dk)) (kk : ∀ (S' : mS) (s' : Sg), Inv s' → CS G S' B s' → MS G S' (B + 695) s' → Ld G 911 [(0, .ref (G.2.2.2 0).1), (1, .ref B), (2, .ref (B + 695)), (3, .int (nI i))] [] (727, 130513) S') : Ld G 152 [(0, .ref (G.2.2.2 0).1), (1, .ref B), (2, .ref (B + 695)), (3, .int (nI i))] [] (727, 130513) S := by
  refine Ld.of (cuts := lwC) 60 ?_
  refine eL.x (i := nI i + 1) 0 (by decide) v1 ?_
  refine eL.x (i := nI i + 2) 0 (by decide) v2 ?_
  refine eL.x (i := nI i + 3) 0 (by decide) v3 ?_
  refine ⟨rfl, Nat.le_of_ble_eq_true rfl, ?_⟩
  refine eV.i hc.ob ?_
  refine eC.z (c_X7_append hG hc) ⟨rfl, rfl⟩ ⟨Nat.le_of_ble_eq_true rfl, Nat.le_of_ble_eq_true rfl⟩ ⟨Nat.le_of_ble_eq_true rfl, Nat.le_of_ble_eq_true rfl⟩ (fun v S1 hk => ?_)
  obtain ⟨rfl, f1, c1⟩ := hk
  have m1 := hm.keep f1 (fun q a b => by show ¬ (B ≤ q ∧ q ≤ B + 694); omega)
  obtain ⟨A1, l1, nn1, mm, -⟩ := id m1
  refine eL.x (i := nI i + 1) 0 (by decide) v1 ?_
  refine eL.x (i := nI i + 2) 0 (by decide) v2 ?_
  refine eL.x (i := nI i + 3) 0 (by decide) v3 ?_
  refine ⟨rfl, Nat.le_of_ble_eq_true rfl, ?_⟩
  refine eV.i mm.obj ?_
  refine eC.z (c_X8_append m1) ⟨rfl, rfl⟩ ⟨Nat.le_of_ble_eq_true rfl, Nat.le_of_ble_eq_true rfl⟩ ⟨Nat.le_of_ble_eq_true rfl, Nat.le_of_ble_eq_true rfl⟩ (fun v S2 hk => ?_)
  obtain ⟨rfl, f2, m2⟩ := hk
  refine eB.t rfl ?_
  exact kk S2 _ (inv_app hI) (c1.tf (tf.fr f2) (fun q a b => by show ¬ (B + 695 ≤ q ∧ q ≤ B + 695 + 31); omega)) m2
theorem lo_leaves (hG : GOK G) (v1 : vp_in (nI i + 1) (G.2.2.2 0).2.1) (v2 : vp_in (nI i + 2) (G.2.2.2 0).2.1) (v3 : vp_in (nI i + 3) (G.2.2.2 0).2.1) (v4 : vp_in (nI i + 4) (G.2.2.2 0).2.1) (hI : Inv (K, vals, cnt, np, kd, lt, mo, dk)) (hc : CS G S B (K, vals, cnt, np, kd, lt, mo, dk)) (hm : MS G S (B + 695) (K, vals, cnt, np, kd, lt, mo, dk)) (kk : ∀ (S' : mS) (s' : Sg), Inv s' → CS G S' B s' → MS G S' (B + 695) s' → Ld G 911 [(0, .ref (G.2.2.2 0).1), (1, .ref B), (2, .ref (B + 695)), (3, .int (nI i))] [] (727, 130513) S') : Ld G 195 [(0, .ref (G.2.2.2 0).1), (1, .ref B), (2, .ref (B + 695)), (3, .int (nI i))] [] (727, 130513) S := by
  refine Ld.of (cuts := lwC) 60 ?_
  refine eL.x (i := nI i + 1) 0 (by decide) v1 ?_
  refine eL.x (i := nI i + 2) 0 (by decide) v2 ?_
  refine ⟨rfl, Nat.le_of_ble_eq_true rfl, ?_⟩
  refine eV.i hc.ob ?_
  refine eC.z (c_X7_leaves hc) ⟨rfl, rfl⟩ ⟨Nat.le_of_ble_eq_true rfl, Nat.le_of_ble_eq_true rfl⟩ ⟨Nat.le_of_ble_eq_true rfl, Nat.le_of_ble_eq_true rfl⟩ (fun v S1 hk => ?_)
  obtain ⟨rfl, f1, c1⟩ := hk
  have m1 := hm.keep f1 (fun q a b => by show ¬ (B ≤ q ∧ q ≤ B + 694); omega)
  obtain ⟨A1, l1, nn1, mm, -⟩ := id m1
  refine eL.x (i := nI i + 1) 0 (by decide) v1 ?_
  refine eL.x (i := nI i + 2) 0 (by decide) v2 ?_
  refine ⟨rfl, Nat.le_of_ble_eq_true rfl, ?_⟩
  refine eV.i mm.obj ?_
  refine eC.z (c_X8_leaves m1) ⟨rfl, rfl⟩ ⟨Nat.le_of_ble_eq_true rfl, Nat.le_of_ble_eq_true rfl⟩ ⟨Nat.le_of_ble_eq_true rfl, Nat.le_of_ble_eq_true rfl⟩ (fun v S2 hk => ?_)
  obtain ⟨rfl, f2, m2⟩ := hk
  refine eB.t rfl ?_
  exact kk S2 _ (hI) (c1.tf (tf.fr f2) (fun q a b => by show ¬ (B + 695 ≤ q ∧ q ≤ B + 695 + 31); omega)) m2
theorem lo_head (hG : GOK G) (v1 : vp_in (nI i + 1) (G.2.2.2 0).2.1) (v2 : vp_in (nI i + 2) (G.2.2.2 0).2.1) (v3 : vp_in (nI i + 3) (G.2.2.2 0).2.1) (v4 : vp_in (nI i + 4) (G.2.2.2 0).2.1) (hI : Inv (K, vals, cnt, np, kd, lt, mo, dk)) (hc : CS G S B (K, vals, cnt, np, kd, lt, mo, dk)) (hm : MS G S (B + 695) (K, vals, cnt, np, kd, lt, mo, dk)) (kk : ∀ (S' : mS) (s' : Sg), Inv s' → CS G S' B s' → MS G S' (B + 695) s' → Ld G 911 [(0, .ref (G.2.2.2 0).1), (1, .ref B), (2, .ref (B + 695)), (3, .int (nI i))] [] (727, 130513) S') : Ld G 228 [(0, .ref (G.2.2.2 0).1), (1, .ref B), (2, .ref (B + 695)), (3, .int (nI i))] [] (727, 130513) S := by
  refine Ld.of (cuts := lwC) 60 ?_
  refine eL.x (i := nI i + 1) 0 (by decide) v1 ?_
  refine eL.x (i := nI i + 2) 0 (by decide) v2 ?_
  refine eL.x (i := nI i + 3) 0 (by decide) v3 ?_
  refine ⟨rfl, Nat.le_of_ble_eq_true rfl, ?_⟩
  refine eV.i hc.ob ?_
  refine eC.z (c_X7_head hG hc) ⟨rfl, rfl⟩ ⟨Nat.le_of_ble_eq_true rfl, Nat.le_of_ble_eq_true rfl⟩ ⟨Nat.le_of_ble_eq_true rfl, Nat.le_of_ble_eq_true rfl⟩ (fun v S1 hk => ?_)
  obtain ⟨rfl, f1, c1⟩ := hk
  have m1 := hm.keep f1 (fun q a b => by show ¬ (B ≤ q ∧ q ≤ B + 694); omega)
  obtain ⟨A1, l1, nn1, mm, -⟩ := id m1
  refine eL.x (i := nI i + 1) 0 (by decide) v1 ?_
  refine eL.x (i := nI i + 2) 0 (by decide) v2 ?_
  refine eL.x (i := nI i + 3) 0 (by decide) v3 ?_
  refine ⟨rfl, Nat.le_of_ble_eq_true rfl, ?_⟩
  refine eV.i mm.obj ?_
  refine eC.z (c_X8_head m1) ⟨rfl, rfl⟩ ⟨Nat.le_of_ble_eq_true rfl, Nat.le_of_ble_eq_true rfl⟩ ⟨Nat.le_of_ble_eq_true rfl, Nat.le_of_ble_eq_true rfl⟩ (fun v S2 hk => ?_)
  obtain ⟨rfl, f2, m2⟩ := hk
  refine eB.t rfl ?_
  exact kk S2 _ (inv_hd hI) (c1.tf (tf.fr f2) (fun q a b => by show ¬ (B + 695 ≤ q ∧ q ≤ B + 695 + 31); omega)) m2
theorem lo_proof (hG : GOK G) (v1 : vp_in (nI i + 1) (G.2.2.2 0).2.1) (v2 : vp_in (nI i + 2) (G.2.2.2 0).2.1) (v3 : vp_in (nI i + 3) (G.2.2.2 0).2.1) (v4 : vp_in (nI i + 4) (G.2.2.2 0).2.1) (hI : Inv (K, vals, cnt, np, kd, lt, mo, dk)) (hc : CS G S B (K, vals, cnt, np, kd, lt, mo, dk)) (hm : MS G S (B + 695) (K, vals, cnt, np, kd, lt, mo, dk)) (kk : ∀ (S' : mS) (s' : Sg), Inv s' → CS G S' B s' → MS G S' (B + 695) s' → Ld G 911 [(0, .ref (G.2.2.2 0).1), (1, .ref B), (2, .ref (B + 695)), (3, .int (nI i))] [] (727, 130513) S') : Ld G 271 [(0, .ref (G.2.2.2 0).1), (1, .ref B), (2, .ref (B + 695)), (3, .int (nI i))] [] (727, 130513) S := by
  refine Ld.of (cuts := lwC) 60 ?_
  refine eL.x (i := nI i + 1) 0 (by decide) v1 ?_
  refine eL.x (i := nI i + 2) 0 (by decide) v2 ?_
  refine eL.x (i := nI i + 3) 0 (by decide) v3 ?_
  refine eL.x (i := nI i + 4) 0 (by decide) v4 ?_
  refine ⟨rfl, Nat.le_of_ble_eq_true rfl, ?_⟩
  refine eV.i hc.ob ?_
  refine eC.z (c_X7_proof hG hc) ⟨rfl, rfl⟩ ⟨Nat.le_of_ble_eq_true rfl, Nat.le_of_ble_eq_true rfl⟩ ⟨Nat.le_of_ble_eq_true rfl, Nat.le_of_ble_eq_true rfl⟩ (fun v S1 hk => ?_)
  obtain ⟨rfl, f1, c1⟩ := hk
  have m1 := hm.keep f1 (fun q a b => by show ¬ (B ≤ q ∧ q ≤ B + 694); omega)
  obtain ⟨A1, l1, nn1, mm, -⟩ := id m1
  refine eL.x (i := nI i + 1) 0 (by decide) v1 ?_
  refine eL.x (i := nI i + 2) 0 (by decide) v2 ?_
  refine eL.x (i := nI i + 3) 0 (by decide) v3 ?_
  refine eL.x (i := nI i + 4) 0 (by decide) v4 ?_
  refine ⟨rfl, Nat.le_of_ble_eq_true rfl, ?_⟩
  refine eV.i mm.obj ?_
  refine eC.z (c_X8_proof m1) ⟨rfl, rfl⟩ ⟨Nat.le_of_ble_eq_true rfl, Nat.le_of_ble_eq_true rfl⟩ ⟨Nat.le_of_ble_eq_true rfl, Nat.le_of_ble_eq_true rfl⟩ (fun v S2 hk => ?_)
  obtain ⟨rfl, f2, m2⟩ := hk
  refine eB.t rfl ?_
  exact kk S2 _ (inv_pf hI) (c1.tf (tf.fr f2) (fun q a b => by show ¬ (B + 695 ≤ q ∧ q ≤ B + 695 + 31); omega)) m2
theorem lo_path (hG : GOK G) (v1 : vp_in (nI i + 1) (G.2.2.2 0).2.1) (v2 : vp_in (nI i + 2) (G.2.2.2 0).2.1) (v3 : vp_in (nI i + 3) (G.2.2.2 0).2.1) (v4 : vp_in (nI i + 4) (G.2.2.2 0).2.1) (hI : Inv (K, vals, cnt, np, kd, lt, mo, dk)) (hc : CS G S B (K, vals, cnt, np, kd, lt, mo, dk)) (hm : MS G S (B + 695) (K, vals, cnt, np, kd, lt, mo, dk)) (kk : ∀ (S' : mS) (s' : Sg), Inv s' → CS G S' B s' → MS G S' (B + 695) s' → Ld G 911 [(0, .ref (G.2.2.2 0).1), (1, .ref B), (2, .ref (B + 695)), (3, .int (nI i))] [] (727, 130513) S') : Ld G 324 [(0, .ref (G.2.2.2 0).1), (1, .ref B), (2, .ref (B + 695)), (3, .int (nI i))] [] (727, 130513) S := by
  refine Ld.of (cuts := lwC) 60 ?_
  refine eL.x (i := nI i + 1) 0 (by decide) v1 ?_
  refine eL.x (i := nI i + 2) 0 (by decide) v2 ?_
  refine eL.x (i := nI i + 3) 0 (by decide) v3 ?_
  refine eL.x (i := nI i + 4) 0 (by decide) v4 ?_
  refine ⟨rfl, Nat.le_of_ble_eq_true rfl, ?_⟩
  refine eV.i hc.ob ?_
  refine eC.z (c_X7_path hG hc) ⟨rfl, rfl⟩ ⟨Nat.le_of_ble_eq_true rfl, Nat.le_of_ble_eq_true rfl⟩ ⟨Nat.le_of_ble_eq_true rfl, Nat.le_of_ble_eq_true rfl⟩ (fun v S1 hk => ?_)
  obtain ⟨rfl, f1, c1⟩ := hk
  have m1 := hm.keep f1 (fun q a b => by show ¬ (B ≤ q ∧ q ≤ B + 694); omega)
  obtain ⟨A1, l1, nn1, mm, -⟩ := id m1
  refine eL.x (i := nI i + 1) 0 (by decide) v1 ?_
  refine eL.x (i := nI i + 2) 0 (by decide) v2 ?_
  refine eL.x (i := nI i + 3) 0 (by decide) v3 ?_
  refine eL.x (i := nI i + 4) 0 (by decide) v4 ?_
  refine ⟨rfl, Nat.le_of_ble_eq_true rfl, ?_⟩
  refine eV.i mm.obj ?_
  refine eC.z (c_X8_path m1) ⟨rfl, rfl⟩ ⟨Nat.le_of_ble_eq_true rfl, Nat.le_of_ble_eq_true rfl⟩ ⟨Nat.le_of_ble_eq_true rfl, Nat.le_of_ble_eq_true rfl⟩ (fun v S2 hk => ?_)
  obtain ⟨rfl, f2, m2⟩ := hk
  refine eB.t rfl ?_
  exact kk S2 _ (inv_pt hI) (c1.tf (tf.fr f2) (fun q a b => by show ¬ (B + 695 ≤ q ∧ q ≤ B + 695 + 31); omega)) m2
theorem lo_alter (hG : GOK G) (v1 : vp_in (nI i + 1) (G.2.2.2 0).2.1) (v2 : vp_in (nI i + 2) (G.2.2.2 0).2.1) (v3 : vp_in (nI i + 3) (G.2.2.2 0).2.1) (v4 : vp_in (nI i + 4) (G.2.2.2 0).2.1) (hI : Inv (K, vals, cnt, np, kd, lt, mo, dk)) (hc : CS G S B (K, vals, cnt, np, kd, lt, mo, dk)) (hm : MS G S (B + 695) (K, vals, cnt, np, kd, lt, mo, dk)) (kk : ∀ (S' : mS) (s' : Sg), Inv s' → CS G S' B s' → MS G S' (B + 695) s' → Ld G 911 [(0, .ref (G.2.2.2 0).1), (1, .ref B), (2, .ref (B + 695)), (3, .int (nI i))] [] (727, 130513) S') : Ld G 377 [(0, .ref (G.2.2.2 0).1), (1, .ref B), (2, .ref (B + 695)), (3, .int (nI i))] [] (727, 130513) S := by
  refine Ld.of (cuts := lwC) 60 ?_
  refine eL.x (i := nI i + 1) 0 (by decide) v1 ?_
  refine eL.x (i := nI i + 2) 0 (by decide) v2 ?_
  refine eL.x (i := nI i + 3) 0 (by decide) v3 ?_
  refine ⟨rfl, Nat.le_of_ble_eq_true rfl, ?_⟩
  refine eV.i hc.ob ?_
  refine eC.z (c_X7_alter hc) ⟨rfl, rfl⟩ ⟨Nat.le_of_ble_eq_true rfl, Nat.le_of_ble_eq_true rfl⟩ ⟨Nat.le_of_ble_eq_true rfl, Nat.le_of_ble_eq_true rfl⟩ (fun v S1 hk => ?_)
  obtain ⟨rfl, f1, c1⟩ := hk
  have m1 := hm.keep f1 (fun q a b => by show ¬ (B ≤ q ∧ q ≤ B + 694); omega)
  obtain ⟨A1, l1, nn1, mm, -⟩ := id m1
  refine eL.x (i := nI i + 1) 0 (by decide) v1 ?_
  refine eL.x (i := nI i + 2) 0 (by decide) v2 ?_
  refine eL.x (i := nI i + 3) 0 (by decide) v3 ?_
  refine ⟨rfl, Nat.le_of_ble_eq_true rfl, ?_⟩
  refine eV.i mm.obj ?_
  refine eC.z (c_X8_alter m1) ⟨rfl, rfl⟩ ⟨Nat.le_of_ble_eq_true rfl, Nat.le_of_ble_eq_true rfl⟩ ⟨Nat.le_of_ble_eq_true rfl, Nat.le_of_ble_eq_true rfl⟩ (fun v S2 hk => ?_)
  obtain ⟨rfl, f2, m2⟩ := hk
  refine eB.t rfl ?_
  exact kk S2 _ (inv_alt hI) (c1.tf (tf.fr f2) (fun q a b => by show ¬ (B + 695 ≤ q ∧ q ≤ B + 695 + 31); omega)) m2
theorem lo_cut (hG : GOK G) (v1 : vp_in (nI i + 1) (G.2.2.2 0).2.1) (v2 : vp_in (nI i + 2) (G.2.2.2 0).2.1) (v3 : vp_in (nI i + 3) (G.2.2.2 0).2.1) (v4 : vp_in (nI i + 4) (G.2.2.2 0).2.1) (hI : Inv (K, vals, cnt, np, kd, lt, mo, dk)) (hc : CS G S B (K, vals, cnt, np, kd, lt, mo, dk)) (hm : MS G S (B + 695) (K, vals, cnt, np, kd, lt, mo, dk)) (kk : ∀ (S' : mS) (s' : Sg), Inv s' → CS G S' B s' → MS G S' (B + 695) s' → Ld G 911 [(0, .ref (G.2.2.2 0).1), (1, .ref B), (2, .ref (B + 695)), (3, .int (nI i))] [] (727, 130513) S') : Ld G 420 [(0, .ref (G.2.2.2 0).1), (1, .ref B), (2, .ref (B + 695)), (3, .int (nI i))] [] (727, 130513) S := by
  refine Ld.of (cuts := lwC) 60 ?_
  refine eL.x (i := nI i + 1) 0 (by decide) v1 ?_
  refine eL.x (i := nI i + 2) 0 (by decide) v2 ?_
  refine ⟨rfl, Nat.le_of_ble_eq_true rfl, ?_⟩
  refine eV.i hc.ob ?_
  refine eC.z (c_X7_cut hI hc) ⟨rfl, rfl⟩ ⟨Nat.le_of_ble_eq_true rfl, Nat.le_of_ble_eq_true rfl⟩ ⟨Nat.le_of_ble_eq_true rfl, Nat.le_of_ble_eq_true rfl⟩ (fun v S1 hk => ?_)
  obtain ⟨rfl, f1, c1⟩ := hk
  have m1 := hm.keep f1 (fun q a b => by show ¬ (B ≤ q ∧ q ≤ B + 694); omega)
  obtain ⟨A1, l1, nn1, mm, -⟩ := id m1
  refine eL.x (i := nI i + 1) 0 (by decide) v1 ?_
  refine eL.x (i := nI i + 2) 0 (by decide) v2 ?_
  refine ⟨rfl, Nat.le_of_ble_eq_true rfl, ?_⟩
  refine eV.i mm.obj ?_
  refine eC.z (c_X8_cut hI m1) ⟨rfl, rfl⟩ ⟨Nat.le_of_ble_eq_true rfl, Nat.le_of_ble_eq_true rfl⟩ ⟨Nat.le_of_ble_eq_true rfl, Nat.le_of_ble_eq_true rfl⟩ (fun v S2 hk => ?_)
  obtain ⟨rfl, f2, m2⟩ := hk
  refine eB.t rfl ?_
  exact kk S2 _ (inv_cut hI) (c1.tf (tf.fr f2) (fun q a b => by show ¬ (B + 695 ≤ q ∧ q ≤ B + 695 + 31); omega)) m2
theorem lo_sign (hG : GOK G) (v1 : vp_in (nI i + 1) (G.2.2.2 0).2.1) (v2 : vp_in (nI i + 2) (G.2.2.2 0).2.1) (v3 : vp_in (nI i + 3) (G.2.2.2 0).2.1) (v4 : vp_in (nI i + 4) (G.2.2.2 0).2.1) (hI : Inv (K, vals, cnt, np, kd, lt, mo, dk)) (hc : CS G S B (K, vals, cnt, np, kd, lt, mo, dk)) (hm : MS G S (B + 695) (K, vals, cnt, np, kd, lt, mo, dk)) (kk : ∀ (S' : mS) (s' : Sg), Inv s' → CS G S' B s' → MS G S' (B + 695) s' → Ld G 911 [(0, .ref (G.2.2.2 0).1), (1, .ref B), (2, .ref (B + 695)), (3, .int (nI i))] [] (727, 130513) S') : Ld G 453 [(0, .ref (G.2.2.2 0).1), (1, .ref B), (2, .ref (B + 695)), (3, .int (nI i))] [] (727, 130513) S := by
  refine Ld.of (cuts := lwC) 60 ?_
  refine eL.x (i := nI i + 1) 0 (by decide) v1 ?_
  refine ⟨rfl, Nat.le_of_ble_eq_true rfl, ?_⟩
  refine eV.i hc.ob ?_
  refine eC.z (c_X7_sign hG hI hc) ⟨rfl, rfl⟩ ⟨Nat.le_of_ble_eq_true rfl, Nat.le_of_ble_eq_true rfl⟩ ⟨Nat.le_of_ble_eq_true rfl, Nat.le_of_ble_eq_true rfl⟩ (fun v S1 hk => ?_)
  obtain ⟨rfl, f1, c1⟩ := hk
  have m1 := hm.keep f1 (fun q a b => by show ¬ (B ≤ q ∧ q ≤ B + 694); omega)
  obtain ⟨A1, l1, nn1, mm, -⟩ := id m1
  refine eL.x (i := nI i + 1) 0 (by decide) v1 ?_
  refine ⟨rfl, Nat.le_of_ble_eq_true rfl, ?_⟩
  refine eV.i mm.obj ?_
  refine eC.z (c_X8_sign hI m1) ⟨rfl, rfl⟩ ⟨Nat.le_of_ble_eq_true rfl, Nat.le_of_ble_eq_true rfl⟩ ⟨Nat.le_of_ble_eq_true rfl, Nat.le_of_ble_eq_true rfl⟩ (fun v S2 hk => ?_)
  obtain ⟨rfl, f2, m2⟩ := hk
  refine eB.t rfl ?_
  exact kk S2 _ (inv_sig hI) (c1.tf (tf.fr f2) (fun q a b => by show ¬ (B + 695 ≤ q ∧ q ≤ B + 695 + 31); omega)) m2
theorem lo_clear (hG : GOK G) (v1 : vp_in (nI i + 1) (G.2.2.2 0).2.1) (v2 : vp_in (nI i + 2) (G.2.2.2 0).2.1) (v3 : vp_in (nI i + 3) (G.2.2.2 0).2.1) (v4 : vp_in (nI i + 4) (G.2.2.2 0).2.1) (hI : Inv (K, vals, cnt, np, kd, lt, mo, dk)) (hc : CS G S B (K, vals, cnt, np, kd, lt, mo, dk)) (hm : MS G S (B + 695) (K, vals, cnt, np, kd, lt, mo, dk)) (kk : ∀ (S' : mS) (s' : Sg), Inv s' → CS G S' B s' → MS G S' (B + 695) s' → Ld G 911 [(0, .ref (G.2.2.2 0).1), (1, .ref B), (2, .ref (B + 695)), (3, .int (nI i))] [] (727, 130513) S') : Ld G 476 [(0, .ref (G.2.2.2 0).1), (1, .ref B), (2, .ref (B + 695)), (3, .int (nI i))] [] (727, 130513) S := by
  refine Ld.of (cuts := lwC) 60 ?_
  refine ⟨rfl, Nat.le_of_ble_eq_true rfl, ?_⟩
  refine eV.i hc.ob ?_
  refine eC.z (c_X7_clear hc) ⟨rfl, rfl⟩ ⟨Nat.le_of_ble_eq_true rfl, Nat.le_of_ble_eq_true rfl⟩ ⟨Nat.le_of_ble_eq_true rfl, Nat.le_of_ble_eq_true rfl⟩ (fun v S1 hk => ?_)
  obtain ⟨rfl, f1, c1⟩ := hk
  have m1 := hm.keep f1 (fun q a b => by show ¬ (B ≤ q ∧ q ≤ B + 694); omega)
  obtain ⟨A1, l1, nn1, mm, -⟩ := id m1
  refine ⟨rfl, Nat.le_of_ble_eq_true rfl, ?_⟩
  refine eV.i mm.obj ?_
  refine eC.z (c_X8_clear m1) ⟨rfl, rfl⟩ ⟨Nat.le_of_ble_eq_true rfl, Nat.le_of_ble_eq_true rfl⟩ ⟨Nat.le_of_ble_eq_true rfl, Nat.le_of_ble_eq_true rfl⟩ (fun v S2 hk => ?_)
  obtain ⟨rfl, f2, m2⟩ := hk
  refine eB.t rfl ?_
  exact kk S2 _ (inv_clr hI) (c1.tf (tf.fr f2) (fun q a b => by show ¬ (B + 695 ≤ q ∧ q ≤ B + 695 + 31); omega)) m2
theorem lo_letters (hG : GOK G) (v1 : vp_in (nI i + 1) (G.2.2.2 0).2.1) (v2 : vp_in (nI i + 2) (G.2.2.2 0).2.1) (v3 : vp_in (nI i + 3) (G.2.2.2 0).2.1) (v4 : vp_in (nI i + 4) (G.2.2.2 0).2.1) (hI : Inv (K, vals, cnt, np, kd, lt, mo, dk)) (hc : CS G S B (K, vals, cnt, np, kd, lt, mo, dk)) (hm : MS G S (B + 695) (K, vals, cnt, np, kd, lt, mo, dk)) (kk : ∀ (S' : mS) (s' : Sg), Inv s' → CS G S' B s' → MS G S' (B + 695) s' → Ld G 911 [(0, .ref (G.2.2.2 0).1), (1, .ref B), (2, .ref (B + 695)), (3, .int (nI i))] [] (727, 130513) S') : Ld G 489 [(0, .ref (G.2.2.2 0).1), (1, .ref B), (2, .ref (B + 695)), (3, .int (nI i))] [] (727, 130513) S := by
  refine Ld.of (cuts := lwC) 60 ?_
  refine ⟨rfl, Nat.le_of_ble_eq_true rfl, ?_⟩
  refine eV.i hc.ob ?_
  refine eC.z (c_X7_letters hc) ⟨rfl, rfl⟩ ⟨Nat.le_of_ble_eq_true rfl, Nat.le_of_ble_eq_true rfl⟩ ⟨Nat.le_of_ble_eq_true rfl, Nat.le_of_ble_eq_true rfl⟩ (fun v S1 hk => ?_)
  obtain ⟨rfl, f1, c1⟩ := hk
  have m1 := hm.keep f1 (fun q a b => by show ¬ (B ≤ q ∧ q ≤ B + 694); omega)
  obtain ⟨A1, l1, nn1, mm, -⟩ := id m1
  refine ⟨rfl, Nat.le_of_ble_eq_true rfl, ?_⟩
  refine eV.i mm.obj ?_
  refine eC.z (c_X8_letters m1) ⟨rfl, rfl⟩ ⟨Nat.le_of_ble_eq_true rfl, Nat.le_of_ble_eq_true rfl⟩ ⟨Nat.le_of_ble_eq_true rfl, Nat.le_of_ble_eq_true rfl⟩ (fun v S2 hk => ?_)
  obtain ⟨rfl, f2, m2⟩ := hk
  refine eB.t rfl ?_
  exact kk S2 _ (hI) (c1.tf (tf.fr f2) (fun q a b => by show ¬ (B + 695 ≤ q ∧ q ≤ B + 695 + 31); omega)) m2
theorem lo_letter (hG : GOK G) (v1 : vp_in (nI i + 1) (G.2.2.2 0).2.1) (v2 : vp_in (nI i + 2) (G.2.2.2 0).2.1) (v3 : vp_in (nI i + 3) (G.2.2.2 0).2.1) (v4 : vp_in (nI i + 4) (G.2.2.2 0).2.1) (hI : Inv (K, vals, cnt, np, kd, lt, mo, dk)) (hc : CS G S B (K, vals, cnt, np, kd, lt, mo, dk)) (hm : MS G S (B + 695) (K, vals, cnt, np, kd, lt, mo, dk)) (kk : ∀ (S' : mS) (s' : Sg), Inv s' → CS G S' B s' → MS G S' (B + 695) s' → Ld G 911 [(0, .ref (G.2.2.2 0).1), (1, .ref B), (2, .ref (B + 695)), (3, .int (nI i))] [] (727, 130513) S') : Ld G 502 [(0, .ref (G.2.2.2 0).1), (1, .ref B), (2, .ref (B + 695)), (3, .int (nI i))] [] (727, 130513) S := by
  refine Ld.of (cuts := lwC) 60 ?_
  refine eL.x (i := nI i + 1) 0 (by decide) v1 ?_
  refine eL.x (i := nI i + 2) 0 (by decide) v2 ?_
  refine ⟨rfl, Nat.le_of_ble_eq_true rfl, ?_⟩
  refine eV.i hc.ob ?_
  refine eC.z (c_X7_letter hc) ⟨rfl, rfl⟩ ⟨Nat.le_of_ble_eq_true rfl, Nat.le_of_ble_eq_true rfl⟩ ⟨Nat.le_of_ble_eq_true rfl, Nat.le_of_ble_eq_true rfl⟩ (fun v S1 hk => ?_)
  obtain ⟨rfl, f1, c1⟩ := hk
  have m1 := hm.keep f1 (fun q a b => by show ¬ (B ≤ q ∧ q ≤ B + 694); omega)
  obtain ⟨A1, l1, nn1, mm, -⟩ := id m1
  refine eL.x (i := nI i + 1) 0 (by decide) v1 ?_
  refine eL.x (i := nI i + 2) 0 (by decide) v2 ?_
  refine ⟨rfl, Nat.le_of_ble_eq_true rfl, ?_⟩
  refine eV.i mm.obj ?_
  refine eC.z (c_X8_letter m1) ⟨rfl, rfl⟩ ⟨Nat.le_of_ble_eq_true rfl, Nat.le_of_ble_eq_true rfl⟩ ⟨Nat.le_of_ble_eq_true rfl, Nat.le_of_ble_eq_true rfl⟩ (fun v S2 hk => ?_)
  obtain ⟨rfl, f2, m2⟩ := hk
  refine eB.t rfl ?_
  exact kk S2 _ (hI) (c1.tf (tf.fr f2) (fun q a b => by show ¬ (B + 695 ≤ q ∧ q ≤ B + 695 + 31); omega)) m2
theorem lo_take (hG : GOK G) (v1 : vp_in (nI i + 1) (G.2.2.2 0).2.1) (v2 : vp_in (nI i + 2) (G.2.2.2 0).2.1) (v3 : vp_in (nI i + 3) (G.2.2.2 0).2.1) (v4 : vp_in (nI i + 4) (G.2.2.2 0).2.1) (hI : Inv (K, vals, cnt, np, kd, lt, mo, dk)) (hc : CS G S B (K, vals, cnt, np, kd, lt, mo, dk)) (hm : MS G S (B + 695) (K, vals, cnt, np, kd, lt, mo, dk)) (kk : ∀ (S' : mS) (s' : Sg), Inv s' → CS G S' B s' → MS G S' (B + 695) s' → Ld G 911 [(0, .ref (G.2.2.2 0).1), (1, .ref B), (2, .ref (B + 695)), (3, .int (nI i))] [] (727, 130513) S') : Ld G 535 [(0, .ref (G.2.2.2 0).1), (1, .ref B), (2, .ref (B + 695)), (3, .int (nI i))] [] (727, 130513) S := by
  refine Ld.of (cuts := lwC) 60 ?_
  refine eL.x (i := nI i + 1) 0 (by decide) v1 ?_
  refine eL.x (i := nI i + 2) 0 (by decide) v2 ?_
  refine ⟨rfl, Nat.le_of_ble_eq_true rfl, ?_⟩
  refine eV.i hc.ob ?_
  refine eC.z (c_X7_take hG hI hc) ⟨rfl, rfl⟩ ⟨Nat.le_of_ble_eq_true rfl, Nat.le_of_ble_eq_true rfl⟩ ⟨Nat.le_of_ble_eq_true rfl, Nat.le_of_ble_eq_true rfl⟩ (fun v S1 hk => ?_)
  obtain ⟨rfl, f1, c1⟩ := hk
  have m1 := hm.keep f1 (fun q a b => by show ¬ (B ≤ q ∧ q ≤ B + 694); omega)
  obtain ⟨A1, l1, nn1, mm, -⟩ := id m1
  refine eL.x (i := nI i + 1) 0 (by decide) v1 ?_
  refine eL.x (i := nI i + 2) 0 (by decide) v2 ?_
  refine ⟨rfl, Nat.le_of_ble_eq_true rfl, ?_⟩
  refine eV.i mm.obj ?_
  refine eC.z (c_X8_take hI m1) ⟨rfl, rfl⟩ ⟨Nat.le_of_ble_eq_true rfl, Nat.le_of_ble_eq_true rfl⟩ ⟨Nat.le_of_ble_eq_true rfl, Nat.le_of_ble_eq_true rfl⟩ (fun v S2 hk => ?_)
  obtain ⟨rfl, f2, m2⟩ := hk
  refine eB.t rfl ?_
  exact kk S2 _ (inv_tk hI) (c1.tf (tf.fr f2) (fun q a b => by show ¬ (B + 695 ≤ q ∧ q ≤ B + 695 + 31); omega)) m2
theorem lo_gossip (hG : GOK G) (v1 : vp_in (nI i + 1) (G.2.2.2 0).2.1) (v2 : vp_in (nI i + 2) (G.2.2.2 0).2.1) (v3 : vp_in (nI i + 3) (G.2.2.2 0).2.1) (v4 : vp_in (nI i + 4) (G.2.2.2 0).2.1) (hI : Inv (K, vals, cnt, np, kd, lt, mo, dk)) (hc : CS G S B (K, vals, cnt, np, kd, lt, mo, dk)) (hm : MS G S (B + 695) (K, vals, cnt, np, kd, lt, mo, dk)) (kk : ∀ (S' : mS) (s' : Sg), Inv s' → CS G S' B s' → MS G S' (B + 695) s' → Ld G 911 [(0, .ref (G.2.2.2 0).1), (1, .ref B), (2, .ref (B + 695)), (3, .int (nI i))] [] (727, 130513) S') : Ld G 568 [(0, .ref (G.2.2.2 0).1), (1, .ref B), (2, .ref (B + 695)), (3, .int (nI i))] [] (727, 130513) S := by
  refine Ld.of (cuts := lwC) 60 ?_
  refine eL.x (i := nI i + 1) 0 (by decide) v1 ?_
  refine eL.x (i := nI i + 2) 0 (by decide) v2 ?_
  refine ⟨rfl, Nat.le_of_ble_eq_true rfl, ?_⟩
  refine eV.i hc.ob ?_
  refine eC.z (c_X7_gossip hc) ⟨rfl, rfl⟩ ⟨Nat.le_of_ble_eq_true rfl, Nat.le_of_ble_eq_true rfl⟩ ⟨Nat.le_of_ble_eq_true rfl, Nat.le_of_ble_eq_true rfl⟩ (fun v S1 hk => ?_)
  obtain ⟨rfl, f1, c1⟩ := hk
  have m1 := hm.keep f1 (fun q a b => by show ¬ (B ≤ q ∧ q ≤ B + 694); omega)
  obtain ⟨A1, l1, nn1, mm, -⟩ := id m1
  refine eL.x (i := nI i + 1) 0 (by decide) v1 ?_
  refine eL.x (i := nI i + 2) 0 (by decide) v2 ?_
  refine ⟨rfl, Nat.le_of_ble_eq_true rfl, ?_⟩
  refine eV.i mm.obj ?_
  refine eC.z (c_X8_gossip hI m1) ⟨rfl, rfl⟩ ⟨Nat.le_of_ble_eq_true rfl, Nat.le_of_ble_eq_true rfl⟩ ⟨Nat.le_of_ble_eq_true rfl, Nat.le_of_ble_eq_true rfl⟩ (fun v S2 hk => ?_)
  obtain ⟨rfl, f2, m2⟩ := hk
  refine eB.t rfl ?_
  exact kk S2 _ (inv_gos hI) (c1.tf (tf.fr f2) (fun q a b => by show ¬ (B + 695 ≤ q ∧ q ≤ B + 695 + 31); omega)) m2
theorem lo_holds (hG : GOK G) (v1 : vp_in (nI i + 1) (G.2.2.2 0).2.1) (v2 : vp_in (nI i + 2) (G.2.2.2 0).2.1) (v3 : vp_in (nI i + 3) (G.2.2.2 0).2.1) (v4 : vp_in (nI i + 4) (G.2.2.2 0).2.1) (hI : Inv (K, vals, cnt, np, kd, lt, mo, dk)) (hc : CS G S B (K, vals, cnt, np, kd, lt, mo, dk)) (hm : MS G S (B + 695) (K, vals, cnt, np, kd, lt, mo, dk)) (kk : ∀ (S' : mS) (s' : Sg), Inv s' → CS G S' B s' → MS G S' (B + 695) s' → Ld G 911 [(0, .ref (G.2.2.2 0).1), (1, .ref B), (2, .ref (B + 695)), (3, .int (nI i))] [] (727, 130513) S') : Ld G 601 [(0, .ref (G.2.2.2 0).1), (1, .ref B), (2, .ref (B + 695)), (3, .int (nI i))] [] (727, 130513) S := by
  refine Ld.of (cuts := lwC) 60 ?_
  refine eL.x (i := nI i + 1) 0 (by decide) v1 ?_
  refine eL.x (i := nI i + 2) 0 (by decide) v2 ?_
  refine ⟨rfl, Nat.le_of_ble_eq_true rfl, ?_⟩
  refine eV.i hc.ob ?_
  refine eC.z (c_X7_holds hc) ⟨rfl, rfl⟩ ⟨Nat.le_of_ble_eq_true rfl, Nat.le_of_ble_eq_true rfl⟩ ⟨Nat.le_of_ble_eq_true rfl, Nat.le_of_ble_eq_true rfl⟩ (fun v S1 hk => ?_)
  obtain ⟨rfl, f1, c1⟩ := hk
  have m1 := hm.keep f1 (fun q a b => by show ¬ (B ≤ q ∧ q ≤ B + 694); omega)
  obtain ⟨A1, l1, nn1, mm, -⟩ := id m1
  refine eL.x (i := nI i + 1) 0 (by decide) v1 ?_
  refine eL.x (i := nI i + 2) 0 (by decide) v2 ?_
  refine ⟨rfl, Nat.le_of_ble_eq_true rfl, ?_⟩
  refine eV.i mm.obj ?_
  refine eC.z (c_X8_holds m1) ⟨rfl, rfl⟩ ⟨Nat.le_of_ble_eq_true rfl, Nat.le_of_ble_eq_true rfl⟩ ⟨Nat.le_of_ble_eq_true rfl, Nat.le_of_ble_eq_true rfl⟩ (fun v S2 hk => ?_)
  obtain ⟨rfl, f2, m2⟩ := hk
  refine eB.t rfl ?_
  exact kk S2 _ (hI) (c1.tf (tf.fr f2) (fun q a b => by show ¬ (B + 695 ≤ q ∧ q ≤ B + 695 + 31); omega)) m2
theorem lo_held (hG : GOK G) (v1 : vp_in (nI i + 1) (G.2.2.2 0).2.1) (v2 : vp_in (nI i + 2) (G.2.2.2 0).2.1) (v3 : vp_in (nI i + 3) (G.2.2.2 0).2.1) (v4 : vp_in (nI i + 4) (G.2.2.2 0).2.1) (hI : Inv (K, vals, cnt, np, kd, lt, mo, dk)) (hc : CS G S B (K, vals, cnt, np, kd, lt, mo, dk)) (hm : MS G S (B + 695) (K, vals, cnt, np, kd, lt, mo, dk)) (kk : ∀ (S' : mS) (s' : Sg), Inv s' → CS G S' B s' → MS G S' (B + 695) s' → Ld G 911 [(0, .ref (G.2.2.2 0).1), (1, .ref B), (2, .ref (B + 695)), (3, .int (nI i))] [] (727, 130513) S') : Ld G 634 [(0, .ref (G.2.2.2 0).1), (1, .ref B), (2, .ref (B + 695)), (3, .int (nI i))] [] (727, 130513) S := by
  refine Ld.of (cuts := lwC) 60 ?_
  refine eL.x (i := nI i + 1) 0 (by decide) v1 ?_
  refine eL.x (i := nI i + 2) 0 (by decide) v2 ?_
  refine eL.x (i := nI i + 3) 0 (by decide) v3 ?_
  refine ⟨rfl, Nat.le_of_ble_eq_true rfl, ?_⟩
  refine eV.i hc.ob ?_
  refine eC.z (c_X7_held hc) ⟨rfl, rfl⟩ ⟨Nat.le_of_ble_eq_true rfl, Nat.le_of_ble_eq_true rfl⟩ ⟨Nat.le_of_ble_eq_true rfl, Nat.le_of_ble_eq_true rfl⟩ (fun v S1 hk => ?_)
  obtain ⟨rfl, f1, c1⟩ := hk
  have m1 := hm.keep f1 (fun q a b => by show ¬ (B ≤ q ∧ q ≤ B + 694); omega)
  obtain ⟨A1, l1, nn1, mm, -⟩ := id m1
  refine eL.x (i := nI i + 1) 0 (by decide) v1 ?_
  refine eL.x (i := nI i + 2) 0 (by decide) v2 ?_
  refine eL.x (i := nI i + 3) 0 (by decide) v3 ?_
  refine ⟨rfl, Nat.le_of_ble_eq_true rfl, ?_⟩
  refine eV.i mm.obj ?_
  refine eC.z (c_X8_held hI m1) ⟨rfl, rfl⟩ ⟨Nat.le_of_ble_eq_true rfl, Nat.le_of_ble_eq_true rfl⟩ ⟨Nat.le_of_ble_eq_true rfl, Nat.le_of_ble_eq_true rfl⟩ (fun v S2 hk => ?_)
  obtain ⟨rfl, f2, m2⟩ := hk
  refine eB.t rfl ?_
  exact kk S2 _ (hI) (c1.tf (tf.fr f2) (fun q a b => by show ¬ (B + 695 ≤ q ∧ q ≤ B + 695 + 31); omega)) m2
theorem lo_fact (hG : GOK G) (v1 : vp_in (nI i + 1) (G.2.2.2 0).2.1) (v2 : vp_in (nI i + 2) (G.2.2.2 0).2.1) (v3 : vp_in (nI i + 3) (G.2.2.2 0).2.1) (v4 : vp_in (nI i + 4) (G.2.2.2 0).2.1) (hI : Inv (K, vals, cnt, np, kd, lt, mo, dk)) (hc : CS G S B (K, vals, cnt, np, kd, lt, mo, dk)) (hm : MS G S (B + 695) (K, vals, cnt, np, kd, lt, mo, dk)) (kk : ∀ (S' : mS) (s' : Sg), Inv s' → CS G S' B s' → MS G S' (B + 695) s' → Ld G 911 [(0, .ref (G.2.2.2 0).1), (1, .ref B), (2, .ref (B + 695)), (3, .int (nI i))] [] (727, 130513) S') : Ld G 677 [(0, .ref (G.2.2.2 0).1), (1, .ref B), (2, .ref (B + 695)), (3, .int (nI i))] [] (727, 130513) S := by
  refine Ld.of (cuts := lwC) 60 ?_
  refine eL.x (i := nI i + 1) 0 (by decide) v1 ?_
  refine eL.x (i := nI i + 2) 0 (by decide) v2 ?_
  refine eL.x (i := nI i + 3) 0 (by decide) v3 ?_
  refine ⟨rfl, Nat.le_of_ble_eq_true rfl, ?_⟩
  refine eV.i hc.ob ?_
  refine eC.z (c_X7_fact hc) ⟨rfl, rfl⟩ ⟨Nat.le_of_ble_eq_true rfl, Nat.le_of_ble_eq_true rfl⟩ ⟨Nat.le_of_ble_eq_true rfl, Nat.le_of_ble_eq_true rfl⟩ (fun v S1 hk => ?_)
  obtain ⟨rfl, f1, c1⟩ := hk
  have m1 := hm.keep f1 (fun q a b => by show ¬ (B ≤ q ∧ q ≤ B + 694); omega)
  obtain ⟨A1, l1, nn1, mm, -⟩ := id m1
  refine eL.x (i := nI i + 1) 0 (by decide) v1 ?_
  refine eL.x (i := nI i + 2) 0 (by decide) v2 ?_
  refine eL.x (i := nI i + 3) 0 (by decide) v3 ?_
  refine ⟨rfl, Nat.le_of_ble_eq_true rfl, ?_⟩
  refine eV.i mm.obj ?_
  refine eC.z (c_X8_fact hI m1) ⟨rfl, rfl⟩ ⟨Nat.le_of_ble_eq_true rfl, Nat.le_of_ble_eq_true rfl⟩ ⟨Nat.le_of_ble_eq_true rfl, Nat.le_of_ble_eq_true rfl⟩ (fun v S2 hk => ?_)
  obtain ⟨rfl, f2, m2⟩ := hk
  refine eB.t rfl ?_
  exact kk S2 _ (hI) (c1.tf (tf.fr f2) (fun q a b => by show ¬ (B + 695 ≤ q ∧ q ≤ B + 695 + 31); omega)) m2
theorem lo_record (hG : GOK G) (v1 : vp_in (nI i + 1) (G.2.2.2 0).2.1) (v2 : vp_in (nI i + 2) (G.2.2.2 0).2.1) (v3 : vp_in (nI i + 3) (G.2.2.2 0).2.1) (v4 : vp_in (nI i + 4) (G.2.2.2 0).2.1) (hI : Inv (K, vals, cnt, np, kd, lt, mo, dk)) (hc : CS G S B (K, vals, cnt, np, kd, lt, mo, dk)) (hm : MS G S (B + 695) (K, vals, cnt, np, kd, lt, mo, dk)) (kk : ∀ (S' : mS) (s' : Sg), Inv s' → CS G S' B s' → MS G S' (B + 695) s' → Ld G 911 [(0, .ref (G.2.2.2 0).1), (1, .ref B), (2, .ref (B + 695)), (3, .int (nI i))] [] (727, 130513) S') : Ld G 720 [(0, .ref (G.2.2.2 0).1), (1, .ref B), (2, .ref (B + 695)), (3, .int (nI i))] [] (727, 130513) S := by
  refine Ld.of (cuts := lwC) 60 ?_
  refine eL.x (i := nI i + 1) 0 (by decide) v1 ?_
  refine eL.x (i := nI i + 2) 0 (by decide) v2 ?_
  refine eL.x (i := nI i + 3) 0 (by decide) v3 ?_
  refine ⟨rfl, Nat.le_of_ble_eq_true rfl, ?_⟩
  refine eV.i hc.ob ?_
  refine eC.z (c_X7_record hc) ⟨rfl, rfl⟩ ⟨Nat.le_of_ble_eq_true rfl, Nat.le_of_ble_eq_true rfl⟩ ⟨Nat.le_of_ble_eq_true rfl, Nat.le_of_ble_eq_true rfl⟩ (fun v S1 hk => ?_)
  obtain ⟨rfl, f1, c1⟩ := hk
  have m1 := hm.keep f1 (fun q a b => by show ¬ (B ≤ q ∧ q ≤ B + 694); omega)
  obtain ⟨A1, l1, nn1, mm, -⟩ := id m1
  refine eL.x (i := nI i + 1) 0 (by decide) v1 ?_
  refine eL.x (i := nI i + 2) 0 (by decide) v2 ?_
  refine eL.x (i := nI i + 3) 0 (by decide) v3 ?_
  refine ⟨rfl, Nat.le_of_ble_eq_true rfl, ?_⟩
  refine eV.i mm.obj ?_
  refine eC.z (c_X8_record m1) ⟨rfl, rfl⟩ ⟨Nat.le_of_ble_eq_true rfl, Nat.le_of_ble_eq_true rfl⟩ ⟨Nat.le_of_ble_eq_true rfl, Nat.le_of_ble_eq_true rfl⟩ (fun v S2 hk => ?_)
  obtain ⟨rfl, f2, m2⟩ := hk
  refine eB.t rfl ?_
  exact kk S2 _ (hI) (c1.tf (tf.fr f2) (fun q a b => by show ¬ (B + 695 ≤ q ∧ q ≤ B + 695 + 31); omega)) m2
theorem lo_lay (hG : GOK G) (v1 : vp_in (nI i + 1) (G.2.2.2 0).2.1) (v2 : vp_in (nI i + 2) (G.2.2.2 0).2.1) (v3 : vp_in (nI i + 3) (G.2.2.2 0).2.1) (v4 : vp_in (nI i + 4) (G.2.2.2 0).2.1) (hI : Inv (K, vals, cnt, np, kd, lt, mo, dk)) (hc : CS G S B (K, vals, cnt, np, kd, lt, mo, dk)) (hm : MS G S (B + 695) (K, vals, cnt, np, kd, lt, mo, dk)) (kk : ∀ (S' : mS) (s' : Sg), Inv s' → CS G S' B s' → MS G S' (B + 695) s' → Ld G 911 [(0, .ref (G.2.2.2 0).1), (1, .ref B), (2, .ref (B + 695)), (3, .int (nI i))] [] (727, 130513) S') : Ld G 763 [(0, .ref (G.2.2.2 0).1), (1, .ref B), (2, .ref (B + 695)), (3, .int (nI i))] [] (727, 130513) S := by
  refine Ld.of (cuts := lwC) 60 ?_
  refine eL.x (i := nI i + 1) 0 (by decide) v1 ?_
  refine eL.x (i := nI i + 2) 0 (by decide) v2 ?_
  refine ⟨rfl, Nat.le_of_ble_eq_true rfl, ?_⟩
  refine eV.i hc.ob ?_
  refine eC.z (c_X7_lay hI hc) ⟨rfl, rfl⟩ ⟨Nat.le_of_ble_eq_true rfl, Nat.le_of_ble_eq_true rfl⟩ ⟨Nat.le_of_ble_eq_true rfl, Nat.le_of_ble_eq_true rfl⟩ (fun v S1 hk => ?_)
  obtain ⟨rfl, f1, c1⟩ := hk
  have m1 := hm.keep f1 (fun q a b => by show ¬ (B ≤ q ∧ q ≤ B + 694); omega)
  obtain ⟨A1, l1, nn1, mm, -⟩ := id m1
  refine eL.x (i := nI i + 1) 0 (by decide) v1 ?_
  refine eL.x (i := nI i + 2) 0 (by decide) v2 ?_
  refine ⟨rfl, Nat.le_of_ble_eq_true rfl, ?_⟩
  refine eV.i mm.obj ?_
  refine eC.z (c_X8_lay hI m1) ⟨rfl, rfl⟩ ⟨Nat.le_of_ble_eq_true rfl, Nat.le_of_ble_eq_true rfl⟩ ⟨Nat.le_of_ble_eq_true rfl, Nat.le_of_ble_eq_true rfl⟩ (fun v S2 hk => ?_)
  obtain ⟨rfl, f2, m2⟩ := hk
  refine eB.t rfl ?_
  exact kk S2 _ (inv_lay hI) (c1.tf (tf.fr f2) (fun q a b => by show ¬ (B + 695 ≤ q ∧ q ≤ B + 695 + 31); omega)) m2
theorem lo_desk (hG : GOK G) (v1 : vp_in (nI i + 1) (G.2.2.2 0).2.1) (v2 : vp_in (nI i + 2) (G.2.2.2 0).2.1) (v3 : vp_in (nI i + 3) (G.2.2.2 0).2.1) (v4 : vp_in (nI i + 4) (G.2.2.2 0).2.1) (hI : Inv (K, vals, cnt, np, kd, lt, mo, dk)) (hc : CS G S B (K, vals, cnt, np, kd, lt, mo, dk)) (hm : MS G S (B + 695) (K, vals, cnt, np, kd, lt, mo, dk)) (kk : ∀ (S' : mS) (s' : Sg), Inv s' → CS G S' B s' → MS G S' (B + 695) s' → Ld G 911 [(0, .ref (G.2.2.2 0).1), (1, .ref B), (2, .ref (B + 695)), (3, .int (nI i))] [] (727, 130513) S') : Ld G 796 [(0, .ref (G.2.2.2 0).1), (1, .ref B), (2, .ref (B + 695)), (3, .int (nI i))] [] (727, 130513) S := by
  refine Ld.of (cuts := lwC) 60 ?_
  refine eL.x (i := nI i + 1) 0 (by decide) v1 ?_
  refine ⟨rfl, Nat.le_of_ble_eq_true rfl, ?_⟩
  refine eV.i hc.ob ?_
  refine eC.z (c_X7_desk hc) ⟨rfl, rfl⟩ ⟨Nat.le_of_ble_eq_true rfl, Nat.le_of_ble_eq_true rfl⟩ ⟨Nat.le_of_ble_eq_true rfl, Nat.le_of_ble_eq_true rfl⟩ (fun v S1 hk => ?_)
  obtain ⟨rfl, f1, c1⟩ := hk
  have m1 := hm.keep f1 (fun q a b => by show ¬ (B ≤ q ∧ q ≤ B + 694); omega)
  obtain ⟨A1, l1, nn1, mm, -⟩ := id m1
  refine eL.x (i := nI i + 1) 0 (by decide) v1 ?_
  refine ⟨rfl, Nat.le_of_ble_eq_true rfl, ?_⟩
  refine eV.i mm.obj ?_
  refine eC.z (c_X8_desk m1) ⟨rfl, rfl⟩ ⟨Nat.le_of_ble_eq_true rfl, Nat.le_of_ble_eq_true rfl⟩ ⟨Nat.le_of_ble_eq_true rfl, Nat.le_of_ble_eq_true rfl⟩ (fun v S2 hk => ?_)
  obtain ⟨rfl, f2, m2⟩ := hk
  refine eB.t rfl ?_
  exact kk S2 _ (hI) (c1.tf (tf.fr f2) (fun q a b => by show ¬ (B + 695 ≤ q ∧ q ≤ B + 695 + 31); omega)) m2
theorem lo_patch (hG : GOK G) (v1 : vp_in (nI i + 1) (G.2.2.2 0).2.1) (v2 : vp_in (nI i + 2) (G.2.2.2 0).2.1) (v3 : vp_in (nI i + 3) (G.2.2.2 0).2.1) (v4 : vp_in (nI i + 4) (G.2.2.2 0).2.1) (hI : Inv (K, vals, cnt, np, kd, lt, mo, dk)) (hc : CS G S B (K, vals, cnt, np, kd, lt, mo, dk)) (hm : MS G S (B + 695) (K, vals, cnt, np, kd, lt, mo, dk)) (kk : ∀ (S' : mS) (s' : Sg), Inv s' → CS G S' B s' → MS G S' (B + 695) s' → Ld G 911 [(0, .ref (G.2.2.2 0).1), (1, .ref B), (2, .ref (B + 695)), (3, .int (nI i))] [] (727, 130513) S') : Ld G 819 [(0, .ref (G.2.2.2 0).1), (1, .ref B), (2, .ref (B + 695)), (3, .int (nI i))] [] (727, 130513) S := by
  refine Ld.of (cuts := lwC) 60 ?_
  refine eL.x (i := nI i + 1) 0 (by decide) v1 ?_
  refine eL.x (i := nI i + 2) 0 (by decide) v2 ?_
  refine ⟨rfl, Nat.le_of_ble_eq_true rfl, ?_⟩
  refine eV.i hc.ob ?_
  refine eC.z (c_X7_patch hc) ⟨rfl, rfl⟩ ⟨Nat.le_of_ble_eq_true rfl, Nat.le_of_ble_eq_true rfl⟩ ⟨Nat.le_of_ble_eq_true rfl, Nat.le_of_ble_eq_true rfl⟩ (fun v S1 hk => ?_)
  obtain ⟨rfl, f1, c1⟩ := hk
  have m1 := hm.keep f1 (fun q a b => by show ¬ (B ≤ q ∧ q ≤ B + 694); omega)
  obtain ⟨A1, l1, nn1, mm, -⟩ := id m1
  refine eL.x (i := nI i + 1) 0 (by decide) v1 ?_
  refine eL.x (i := nI i + 2) 0 (by decide) v2 ?_
  refine ⟨rfl, Nat.le_of_ble_eq_true rfl, ?_⟩
  refine eV.i mm.obj ?_
  refine eC.z (c_X8_patch m1) ⟨rfl, rfl⟩ ⟨Nat.le_of_ble_eq_true rfl, Nat.le_of_ble_eq_true rfl⟩ ⟨Nat.le_of_ble_eq_true rfl, Nat.le_of_ble_eq_true rfl⟩ (fun v S2 hk => ?_)
  obtain ⟨rfl, f2, m2⟩ := hk
  refine eB.t rfl ?_
  exact kk S2 _ (inv_pat hI) (c1.tf (tf.fr f2) (fun q a b => by show ¬ (B + 695 ≤ q ∧ q ≤ B + 695 + 31); omega)) m2
theorem lo_trim (hG : GOK G) (v1 : vp_in (nI i + 1) (G.2.2.2 0).2.1) (v2 : vp_in (nI i + 2) (G.2.2.2 0).2.1) (v3 : vp_in (nI i + 3) (G.2.2.2 0).2.1) (v4 : vp_in (nI i + 4) (G.2.2.2 0).2.1) (hI : Inv (K, vals, cnt, np, kd, lt, mo, dk)) (hc : CS G S B (K, vals, cnt, np, kd, lt, mo, dk)) (hm : MS G S (B + 695) (K, vals, cnt, np, kd, lt, mo, dk)) (kk : ∀ (S' : mS) (s' : Sg), Inv s' → CS G S' B s' → MS G S' (B + 695) s' → Ld G 911 [(0, .ref (G.2.2.2 0).1), (1, .ref B), (2, .ref (B + 695)), (3, .int (nI i))] [] (727, 130513) S') : Ld G 852 [(0, .ref (G.2.2.2 0).1), (1, .ref B), (2, .ref (B + 695)), (3, .int (nI i))] [] (727, 130513) S := by
  refine Ld.of (cuts := lwC) 60 ?_
  refine eL.x (i := nI i + 1) 0 (by decide) v1 ?_
  refine ⟨rfl, Nat.le_of_ble_eq_true rfl, ?_⟩
  refine eV.i hc.ob ?_
  refine eC.z (c_X7_trim hc) ⟨rfl, rfl⟩ ⟨Nat.le_of_ble_eq_true rfl, Nat.le_of_ble_eq_true rfl⟩ ⟨Nat.le_of_ble_eq_true rfl, Nat.le_of_ble_eq_true rfl⟩ (fun v S1 hk => ?_)
  obtain ⟨rfl, f1, c1⟩ := hk
  have m1 := hm.keep f1 (fun q a b => by show ¬ (B ≤ q ∧ q ≤ B + 694); omega)
  obtain ⟨A1, l1, nn1, mm, -⟩ := id m1
  refine eL.x (i := nI i + 1) 0 (by decide) v1 ?_
  refine ⟨rfl, Nat.le_of_ble_eq_true rfl, ?_⟩
  refine eV.i mm.obj ?_
  refine eC.z (c_X8_trim m1) ⟨rfl, rfl⟩ ⟨Nat.le_of_ble_eq_true rfl, Nat.le_of_ble_eq_true rfl⟩ ⟨Nat.le_of_ble_eq_true rfl, Nat.le_of_ble_eq_true rfl⟩ (fun v S2 hk => ?_)
  obtain ⟨rfl, f2, m2⟩ := hk
  refine eB.t rfl ?_
  exact kk S2 _ (inv_tri hI) (c1.tf (tf.fr f2) (fun q a b => by show ¬ (B + 695 ≤ q ∧ q ≤ B + 695 + 31); omega)) m2
theorem lo_audit (hG : GOK G) (v1 : vp_in (nI i + 1) (G.2.2.2 0).2.1) (v2 : vp_in (nI i + 2) (G.2.2.2 0).2.1) (v3 : vp_in (nI i + 3) (G.2.2.2 0).2.1) (v4 : vp_in (nI i + 4) (G.2.2.2 0).2.1) (hI : Inv (K, vals, cnt, np, kd, lt, mo, dk)) (hc : CS G S B (K, vals, cnt, np, kd, lt, mo, dk)) (hm : MS G S (B + 695) (K, vals, cnt, np, kd, lt, mo, dk)) (kk : ∀ (S' : mS) (s' : Sg), Inv s' → CS G S' B s' → MS G S' (B + 695) s' → Ld G 911 [(0, .ref (G.2.2.2 0).1), (1, .ref B), (2, .ref (B + 695)), (3, .int (nI i))] [] (727, 130513) S') : Ld G 875 [(0, .ref (G.2.2.2 0).1), (1, .ref B), (2, .ref (B + 695)), (3, .int (nI i))] [] (727, 130513) S := by
  refine Ld.of (cuts := lwC) 60 ?_
  refine ⟨rfl, Nat.le_of_ble_eq_true rfl, ?_⟩
  refine eV.i hc.ob ?_
  refine eC.z (c_X7_audit hG hc) ⟨rfl, rfl⟩ ⟨Nat.le_of_ble_eq_true rfl, Nat.le_of_ble_eq_true rfl⟩ ⟨Nat.le_of_ble_eq_true rfl, Nat.le_of_ble_eq_true rfl⟩ (fun v S1 hk => ?_)
  obtain ⟨rfl, f1, c1⟩ := hk
  have m1 := hm.keep f1 (fun q a b => by show ¬ (B ≤ q ∧ q ≤ B + 694); omega)
  obtain ⟨A1, l1, nn1, mm, -⟩ := id m1
  refine ⟨rfl, Nat.le_of_ble_eq_true rfl, ?_⟩
  refine eV.i mm.obj ?_
  refine eC.z (c_X8_audit m1) ⟨rfl, rfl⟩ ⟨Nat.le_of_ble_eq_true rfl, Nat.le_of_ble_eq_true rfl⟩ ⟨Nat.le_of_ble_eq_true rfl, Nat.le_of_ble_eq_true rfl⟩ (fun v S2 hk => ?_)
  obtain ⟨rfl, f2, m2⟩ := hk
  refine eB.t rfl ?_
  exact kk S2 _ (hI) (c1.tf (tf.fr f2) (fun q a b => by show ¬ (B + 695 ≤ q ∧ q ≤ B + 695 + 31); omega)) m2
theorem lo_hash (hG : GOK G) (v1 : vp_in (nI i + 1) (G.2.2.2 0).2.1) (v2 : vp_in (nI i + 2) (G.2.2.2 0).2.1) (v3 : vp_in (nI i + 3) (G.2.2.2 0).2.1) (v4 : vp_in (nI i + 4) (G.2.2.2 0).2.1) (hI : Inv (K, vals, cnt, np, kd, lt, mo, dk)) (hc : CS G S B (K, vals, cnt, np, kd, lt, mo, dk)) (hm : MS G S (B + 695) (K, vals, cnt, np, kd, lt, mo, dk)) (kk : ∀ (S' : mS) (s' : Sg), Inv s' → CS G S' B s' → MS G S' (B + 695) s' → Ld G 911 [(0, .ref (G.2.2.2 0).1), (1, .ref B), (2, .ref (B + 695)), (3, .int (nI i))] [] (727, 130513) S') : Ld G 888 [(0, .ref (G.2.2.2 0).1), (1, .ref B), (2, .ref (B + 695)), (3, .int (nI i))] [] (727, 130513) S := by
  refine Ld.of (cuts := lwC) 60 ?_
  refine eL.x (i := nI i + 1) 0 (by decide) v1 ?_
  refine ⟨rfl, Nat.le_of_ble_eq_true rfl, ?_⟩
  refine eV.i hc.ob ?_
  refine eC.z (c_X7_hash hG hc) ⟨rfl, rfl⟩ ⟨Nat.le_of_ble_eq_true rfl, Nat.le_of_ble_eq_true rfl⟩ ⟨Nat.le_of_ble_eq_true rfl, Nat.le_of_ble_eq_true rfl⟩ (fun v S1 hk => ?_)
  obtain ⟨rfl, f1, c1⟩ := hk
  have m1 := hm.keep f1 (fun q a b => by show ¬ (B ≤ q ∧ q ≤ B + 694); omega)
  obtain ⟨A1, l1, nn1, mm, -⟩ := id m1
  refine eL.x (i := nI i + 1) 0 (by decide) v1 ?_
  refine ⟨rfl, Nat.le_of_ble_eq_true rfl, ?_⟩
  refine eV.i mm.obj ?_
  refine eC.z (c_X8_hash m1) ⟨rfl, rfl⟩ ⟨Nat.le_of_ble_eq_true rfl, Nat.le_of_ble_eq_true rfl⟩ ⟨Nat.le_of_ble_eq_true rfl, Nat.le_of_ble_eq_true rfl⟩ (fun v S2 hk => ?_)
  obtain ⟨rfl, f2, m2⟩ := hk
  refine eB.t rfl ?_
  exact kk S2 _ (hI) (c1.tf (tf.fr f2) (fun q a b => by show ¬ (B + 695 ≤ q ∧ q ≤ B + 695 + 31); omega)) m2
end LWO
section LWP
variable {G : mG} {B : Nat}
theorem law_loop (hG : GOK G) (hL : (G.2.2.2 0).2.1 ≤ 2561) : ∀ (n i : Nat) (x : Int32) (S : mS) (s : Sg), (G.2.2.2 0).2.1 < i + n → i ≤ 3000 → x = nI i → Inv s → CS G S B s → MS G S (B + 695) s → Ld G 30 [(0, .ref (G.2.2.2 0).1), (1, .ref B), (2, .ref (B + 695)), (3, .int x)] [] (727, 130513) S := by
  intro n
  induction n with
  | zero =>
    intro i x S s hn hi hx hI hc hm
    subst hx
    have e5 : (nI (G.2.2.2 0).2.1 - 5).toInt = ((G.2.2.2 0).2.1 : Int) - 5 := by
      have e1 := nI_toInt (n := (G.2.2.2 0).2.1) (by omega)
      have e2 : (5 : Int32).toInt = 5 := rfl
      rw [i_sub (by omega) (by omega), e1, e2]
    have ei := nI_toInt (n := i) (by omega)
    refine Ld.of (cuts := lwC) 60 ?_
    refine eN.x 0 (by decide) ?_
    refine eB.t (by rw [Int32.lt_iff_toInt_lt, e5, ei]; omega) ?_
    exact law_end
  | succ n ih =>
    intro i x S s hn hi hx hI hc hm
    subst hx
    have e5 : (nI (G.2.2.2 0).2.1 - 5).toInt = ((G.2.2.2 0).2.1 : Int) - 5 := by
      have e1 := nI_toInt (n := (G.2.2.2 0).2.1) (by omega)
      have e2 : (5 : Int32).toInt = 5 := rfl
      rw [i_sub (by omega) (by omega), e1, e2]
    have ei := nI_toInt (n := i) (by omega)
    refine Ld.of (cuts := lwC) 60 ?_
    refine eN.x 0 (by decide) ?_
    by_cases q : (G.2.2.2 0).2.1 < i + 5
    · refine eB.t (by rw [Int32.lt_iff_toInt_lt, e5, ei]; omega) ?_
      exact law_end
    · refine eB.f (by rw [Int32.lt_iff_toInt_lt, e5, ei]; omega) ?_
      have v0 : vp_in (nI i) (G.2.2.2 0).2.1 := vp_in_nI (by omega) (by omega)
      have v1 : vp_in (nI i + 1) (G.2.2.2 0).2.1 := by rw [nI_1]; exact vp_in_nI (by omega) (by omega)
      have v2 : vp_in (nI i + 2) (G.2.2.2 0).2.1 := by rw [show nI i + 2 = nI (i + 2) from nI_add i 2]; exact vp_in_nI (by omega) (by omega)
      have v3 : vp_in (nI i + 3) (G.2.2.2 0).2.1 := by rw [show nI i + 3 = nI (i + 3) from nI_add i 3]; exact vp_in_nI (by omega) (by omega)
      have v4 : vp_in (nI i + 4) (G.2.2.2 0).2.1 := by rw [show nI i + 4 = nI (i + 4) from nI_add i 4]; exact vp_in_nI (by omega) (by omega)
      have k911 : ∀ (S' : mS) (s' : Sg), Inv s' → CS G S' B s' → MS G S' (B + 695) s' → Ld G 911 [(0, .ref (G.2.2.2 0).1), (1, .ref B), (2, .ref (B + 695)), (3, .int (nI i))] [] (727, 130513) S' := by
        intro S' s' hI' hc' hm'
        refine Ld.of (cuts := lwC) 60 ?_
        exact ih (i + 5) _ S' s' (by omega) (by omega) (nI_add i 5) hI' hc' hm'
      obtain ⟨K, vals, cnt, np, kd, lt, mo, dk⟩ := s
      refine eL.x (i := nI i) 0 (by decide) v0 ?_
      refine eB.i (fun q => ?_) (fun q => ?_)
      · exact k911 S _ hI hc hm
      · intro j off hj hx
        match j, hj, hx with
        | 0, hj, hx =>
          obtain rfl : (108 : Int) = off := Option.some.inj hj
          exact lo_append hG v1 v2 v3 v4 hI hc hm k911
        | 1, hj, hx =>
          obtain rfl : (151 : Int) = off := Option.some.inj hj
          exact lo_leaves hG v1 v2 v3 v4 hI hc hm k911
        | 2, hj, hx =>
          obtain rfl : (184 : Int) = off := Option.some.inj hj
          exact lo_head hG v1 v2 v3 v4 hI hc hm k911
        | 3, hj, hx =>
          obtain rfl : (227 : Int) = off := Option.some.inj hj
          exact lo_proof hG v1 v2 v3 v4 hI hc hm k911
        | 4, hj, hx =>
          obtain rfl : (280 : Int) = off := Option.some.inj hj
          exact lo_path hG v1 v2 v3 v4 hI hc hm k911
        | 5, hj, hx =>
          obtain rfl : (333 : Int) = off := Option.some.inj hj
          exact lo_alter hG v1 v2 v3 v4 hI hc hm k911
        | 6, hj, hx =>
          obtain rfl : (376 : Int) = off := Option.some.inj hj
          exact lo_cut hG v1 v2 v3 v4 hI hc hm k911
        | 7, hj, hx =>
          obtain rfl : (409 : Int) = off := Option.some.inj hj
          exact lo_sign hG v1 v2 v3 v4 hI hc hm k911
        | 8, hj, hx =>
          obtain rfl : (432 : Int) = off := Option.some.inj hj
          exact lo_clear hG v1 v2 v3 v4 hI hc hm k911
        | 9, hj, hx =>
          obtain rfl : (445 : Int) = off := Option.some.inj hj
          exact lo_letters hG v1 v2 v3 v4 hI hc hm k911
        | 10, hj, hx =>
          obtain rfl : (458 : Int) = off := Option.some.inj hj
          exact lo_letter hG v1 v2 v3 v4 hI hc hm k911
        | 11, hj, hx =>
          obtain rfl : (491 : Int) = off := Option.some.inj hj
          exact lo_take hG v1 v2 v3 v4 hI hc hm k911
        | 12, hj, hx =>
          obtain rfl : (524 : Int) = off := Option.some.inj hj
          exact lo_gossip hG v1 v2 v3 v4 hI hc hm k911
        | 13, hj, hx =>
          obtain rfl : (557 : Int) = off := Option.some.inj hj
          exact lo_holds hG v1 v2 v3 v4 hI hc hm k911
        | 14, hj, hx =>
          obtain rfl : (590 : Int) = off := Option.some.inj hj
          exact lo_held hG v1 v2 v3 v4 hI hc hm k911
        | 15, hj, hx =>
          obtain rfl : (633 : Int) = off := Option.some.inj hj
          exact lo_fact hG v1 v2 v3 v4 hI hc hm k911
        | 16, hj, hx =>
          obtain rfl : (676 : Int) = off := Option.some.inj hj
          exact lo_record hG v1 v2 v3 v4 hI hc hm k911
        | 17, hj, hx =>
          obtain rfl : (719 : Int) = off := Option.some.inj hj
          exact lo_lay hG v1 v2 v3 v4 hI hc hm k911
        | 18, hj, hx =>
          obtain rfl : (752 : Int) = off := Option.some.inj hj
          exact lo_desk hG v1 v2 v3 v4 hI hc hm k911
        | 19, hj, hx =>
          obtain rfl : (775 : Int) = off := Option.some.inj hj
          exact lo_patch hG v1 v2 v3 v4 hI hc hm k911
        | 20, hj, hx =>
          obtain rfl : (808 : Int) = off := Option.some.inj hj
          exact lo_trim hG v1 v2 v3 v4 hI hc hm k911
        | 21, hj, hx =>
          obtain rfl : (831 : Int) = off := Option.some.inj hj
          exact lo_audit hG v1 v2 v3 v4 hI hc hm k911
        | 22, hj, hx =>
          obtain rfl : (844 : Int) = off := Option.some.inj hj
          exact lo_hash hG v1 v2 v3 v4 hI hc hm k911
        | j + 23, hj, hx => cases hj
end LWP
