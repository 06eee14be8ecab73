/-! the law from its entry -/
theorem inv_Z {K : List Int32} : Inv (sgZ K) := ⟨fun i hi => absurd hi (Nat.not_lt_zero i), fun j _ => ⟨fun i hi => absurd hi (Nat.not_lt_zero i), fun i hi => absurd hi (Nat.not_lt_zero i), fun i hi => absurd hi (Nat.not_lt_zero i)⟩⟩
section LWE
variable {G : mG} {S : mS} {B : Nat}
theorem law_14 (hG : GOK G) (hL : (G.2.2.2 0).2.1 ≤ 2561) (hB : mb G ≤ B) (hs : S.1 = B + 695) (hc : CS G S B (sgZ (kyL (sc0 G).toInt64 4))) :
    Ld G 14 [(0, .ref (G.2.2.2 0).1), (1, .ref B)] [] (695, 79960) S := by
  refine Ld.of (cuts := lf 30 4) 60 ?_
  refine ⟨by decide, ⟨Nat.le_of_ble_eq_true rfl, Nat.le_of_ble_eq_true rfl⟩, ?_⟩
  rw [hs]
  refine ⟨Nat.le_of_ble_eq_true rfl, ?_⟩
  refine eC.z (c_L_cell hL) ⟨rfl, rfl⟩ ⟨Nat.le_of_ble_eq_true rfl, Nat.le_of_ble_eq_true rfl⟩ ⟨Nat.le_of_ble_eq_true rfl, Nat.le_of_ble_eq_true rfl⟩ (fun v S1 hk => ?_)
  obtain ⟨rfl, rfl⟩ := hk
  refine ⟨Nat.le_of_ble_eq_true rfl, ?_⟩
  refine eC.i (c_X8_init (M := B + 695) (n := (sc0 G).toInt64) (mAt.new hs (by omega)) (by show S.1 + 1 = _; omega)) ⟨Nat.le_of_ble_eq_true rfl, Nat.le_of_ble_eq_true rfl⟩ ⟨Nat.le_of_ble_eq_true rfl, Nat.le_of_ble_eq_true rfl⟩ (fun v S2 hk => ?_)
  obtain ⟨rfl, n2, m2⟩ := hk
  have t2 : tf S S2 (fun _ => False) := tf.push.tr (tf.nw n2 (by show S.1 + 1 ≤ _; omega)) (fun q hq z => by omega)
  exact law_loop hG hL ((G.2.2.2 0).2.1 + 1) 1 _ S2 _ (by omega) (by omega) rfl inv_Z (hc.tf t2 (fun q _ _ z => z)) m2
theorem law_0 (hG : GOK G) (hL : (G.2.2.2 0).2.1 ≤ 2561) (hs : S.1 = mb G) :
    Ld G 0 [(0, .ref (G.2.2.2 0).1)] [] (0, 0) S := by
  refine Ld.of (cuts := lf 14 2) 60 ?_
  refine ⟨by decide, ⟨Nat.le_of_ble_eq_true rfl, Nat.le_of_ble_eq_true rfl⟩, ?_⟩
  rw [hs]
  refine ⟨Nat.le_of_ble_eq_true rfl, ?_⟩
  refine eC.z (c_L_cell hL) ⟨rfl, rfl⟩ ⟨Nat.le_of_ble_eq_true rfl, Nat.le_of_ble_eq_true rfl⟩ ⟨Nat.le_of_ble_eq_true rfl, Nat.le_of_ble_eq_true rfl⟩ (fun v S1 hk => ?_)
  obtain ⟨rfl, rfl⟩ := hk
  refine ⟨Nat.le_of_ble_eq_true rfl, ?_⟩
  refine eC.i (c_X7_init (B := mb G) (n := (sc0 G).toInt64) hG (mAt.new hs (Nat.le_refl _)) (by show S.1 + 1 = _; omega)) ⟨Nat.le_of_ble_eq_true rfl, Nat.le_of_ble_eq_true rfl⟩ ⟨Nat.le_of_ble_eq_true rfl, Nat.le_of_ble_eq_true rfl⟩ (fun v S2 hk => ?_)
  obtain ⟨rfl, n2, c2⟩ := hk
  exact law_14 hG hL (Nat.le_refl _) n2.1 c2
end LWE
/-- a row of ints that the tables give -/
theorem rowOf {args : Array Value} {s : State} {tm : Term} {N : Nat} {f : Nat → Int32} (hN : N < 2 ^ 31) (harr : (Cond.arrayOf tm .int).before args s = true) (hlen : (Cond.eq (.length tm) (.int (Int32.ofNat N))).before args s = true) (hel : ∀ j : Nat, j < N → (Cond.eq (.elem tm (.int (Int32.ofNat j))) (.int (f j))).before args s = true) : ∃ t : Nat, tm.eval args s none [] s = some (.ref t) ∧ t < s.heap.size ∧ va_X t N f s s.heap := by
  have hv := va_eqt hlen
  obtain ⟨t, ht, cell, hcell, hof, hkn, hle, hsz, hall, -⟩ := va_Tof (f := fun j => .int (f j)) (A := fun _ => False) hN harr hv (fun j hj => va_eqt (hel j hj)) (fun _ _ z => z)
  refine ⟨t, ht, (Array.getElem?_eq_some_iff.mp hcell).1, cell, hcell, hof, hkn, ?_, hall⟩
  have hlt : cell.slots.size < 2 ^ 31 := by
    obtain ⟨t2, cell2, ht2, harr2, -⟩ := Term.length_spec hv
    cases ht.symm.trans ht2
    obtain ⟨hcell2, -, -, -⟩ := State.arrayAt?_spec harr2
    cases hcell.symm.trans hcell2
    simp only [Term.eval, ht, harr2, Option.bind_eq_bind, Option.bind_some] at hv
    by_cases hlt : cell.slots.size < 2147483648
    · exact hlt
    · simp [hlt] at hv
  have e : Int32.ofNat cell.slots.size = Int32.ofNat N := hsz
  have h1 := nI_toInt hlt
  have h2 := nI_toInt hN
  have e' : nI cell.slots.size = nI N := e
  rw [e', h2] at h1
  omega
