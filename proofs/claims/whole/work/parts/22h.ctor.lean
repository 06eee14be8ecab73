/-! the reference's constructor: its keys -/
def miC : Nat → Option Nat := nd 600 (lf 4 3) (nd 700 (lf 676 4) (lf 710 5))
section MKY
variable {G : mG} {S S4 : mS} {M : Nat} {n : Int64}
theorem kyM_nb {g : Nat} (hg : g < 4) : [] ++ [(3 : Int32).toInt8.toInt32] ++ nbL n 8 ++ [(nI g).toInt8.toInt32] = kyM n g := by
  rw [byte_small (by omega), nb8]
  show [3] ++ (be4 (hiI n) ++ be4 n.toInt32) ++ [nI g] = [3] ++ be4 (hiI n) ++ be4 n.toInt32 ++ [nI g]
  simp only [List.append_assoc]
theorem kyM_len {g : Nat} : (kyM n g).length = 10 := rfl
theorem c_X8_init (h : mAt G S M (.inr (8, mDef 8))) (hs : S.1 = M + 1) :
    mCon G yX8_init cX8_init 5 none (rmN 3 31 50518) [.ref M, .long n] S (fun v S' => v = none ∧ nw S S' M 32 ∧ MS G S' M (sgZ (kyL n 4))) := by
  have h : mAt G S M (.inr (8, obK M 0)) := h
  have key : ∀ S2 : mS, MI G S M 31 S2 → Gd G (miX8 true none) cX8_init 5 (rmN 3 31 50518) 31 50518 (fun v S' => v = none ∧ nw S S' M 32 ∧ MS G S' M (sgZ (kyL n 4))) 674 [(0, .ref M), (1, .long n)] [] (31, 50518) S2 := by
    intro S2 h2
    obtain ⟨z1, z2, z3, z4⟩ := h2
    have hm : mb G ≤ M := z3.1
    obtain ⟨f1, y1, p1, -, -⟩ := z4 1 (by decide) (by decide)
    obtain ⟨f2, y2, -, p2, -⟩ := z4 2 (by decide) (by decide)
    have hMH : MH G S2 M (va_up (va_up (fun _ _ => 0) 1 f1) 2 f2) 0 0 0 0 := by
      refine ⟨z3, fun i a b => ?_, fun i hb j => ?_⟩
      · by_cases e2 : i = 2
        · subst e2; rw [up_s]; exact y2
        · rw [up_n e2]
          by_cases e1 : i = 1
          · subst e1; rw [up_s]; exact y1
          · rw [up_n e1]
            obtain ⟨f, y, -, -, p3⟩ := z4 i a b
            rw [p3 (by omega)] at y
            exact y
      · have e2 : i ≠ 2 := fun z => by subst z; exact absurd hb (by decide)
        have e1 : i ≠ 1 := fun z => by subst z; exact absurd hb (by decide)
        rw [up_n e2, up_n e1]
        exact isB_0
    have hMd : Md G S2 M (va_up (va_up (fun _ _ => 0) 1 f1) 2 f2) [] 0 0 0 := ⟨_, hMH, fun _ _ => rfl, fun j hj => absurd hj (Nat.not_lt_zero j), fun j hj => by rw [up_n (by decide), up_s]; exact p1 rfl j hj, fun j hj => by rw [up_s]; exact p2 rfl j hj⟩
    generalize hA : va_up (va_up (fun _ _ => 0) 1 f1) 2 f2 = A at hMd
    have hA0 : ∀ i, 3 ≤ i → A i = fun _ => 0 := fun i hi => by rw [← hA, up_n (by omega), up_n (by omega)]
    have k676 : ∀ (d g : Nat) (x : Int32) (S4 : mS) (l : List Int32) (H F : Nat → Int32), g + d = 4 → x = nI g → (∀ j, j < 8 * g → F j = (kyL n g).getD j 0) → fr S2 S4 (xD M) → Md G S4 M (va_up (va_up A 7 H) 10 F) l 0 0 0 →
        Gd G (miX8 true none) cX8_init 5 (rmN 3 31 50518) 31 50518 (fun v S' => v = none ∧ nw S S' M 32 ∧ MS G S' M (sgZ (kyL n 4))) 676 [(0, .ref M), (1, .long n), (3, .int x)] [] (31, 50518) S4 := by
      intro d
      induction d with
      | zero =>
        intro g x S4 l H F hg hx hF f4 m4
        subst hx
        have eg : g = 4 := by omega
        subst eg
        have un : ∀ i, i ≠ 7 → i ≠ 10 → 3 ≤ i → va_up (va_up A 7 H) 10 F i = fun _ => 0 := fun i a b c => by rw [up_n b, up_n a, hA0 i c]
        refine Gd.of (ckX8 _ _) tX8_init_ok (cuts := miC) 40 ?_
        refine eB.t (by decide) ?_
        refine ⟨⟨Nat.le_of_ble_eq_true rfl, Nat.le_of_ble_eq_true rfl⟩, rfl, rfl, ⟨by rw [f4.1]; exact z1, z2.tr (kb.fr f4 (fun q hq => by show ¬ (M ≤ q ∧ q ≤ M + 31); omega))⟩, _, l, 0, m4, ⟨kyL_len n 4, fun j hj => ?_⟩, fun v hv => ⟨by rw [un 9 (by decide) (by decide) (by decide)]; rfl, Nat.zero_le _, fun j hj => absurd hj (Nat.not_lt_zero j)⟩, ⟨Nat.zero_le _, fun i hi => absurd hi (Nat.not_lt_zero i)⟩, fun m hm => ⟨⟨Nat.zero_le _, Nat.zero_le _, Nat.zero_le _⟩, ⟨by rw [un 18 (by decide) (by decide) (by decide)]; rfl, by rw [un 19 (by decide) (by decide) (by decide)]; rfl, by rw [un 20 (by decide) (by decide) (by decide)]; rfl, by rw [un 21 (by decide) (by decide) (by decide)]; rfl, by rw [un 22 (by decide) (by decide) (by decide)]; rfl⟩, fun i hi => absurd hi (Nat.not_lt_zero i), fun i hi => absurd hi (Nat.not_lt_zero i), fun i hi => absurd hi (Nat.not_lt_zero i)⟩, ⟨Nat.zero_le _, fun j hj => absurd hj (Nat.not_lt_zero j), fun j _ hj => by rw [un 29 (by decide) (by decide) (by decide)]⟩⟩
        rw [up_s]
        exact hF j hj
      | succ d ih =>
        intro g x S4 l H F hg hx hF f4 m4
        subst hx
        have k710 : ∀ (d k : Nat) (x : Int32) (S5 : mS) (l : List Int32) (H F : Nat → Int32), k + d = 8 → x = nI k → (∀ j, j < 8 → H j = (sha (kyM n g)).getD j 0) → (∀ j, j < 8 * g + k → F j = (kyL n (g + 1)).getD j 0) → fr S2 S5 (xD M) → Md G S5 M (va_up (va_up A 7 H) 10 F) l 0 0 0 →
            Gd G (miX8 true none) cX8_init 5 (rmN 3 31 50518) 31 50518 (fun v S' => v = none ∧ nw S S' M 32 ∧ MS G S' M (sgZ (kyL n 4))) 710 [(0, .ref M), (1, .long n), (3, .int (nI g)), (4, .int x)] [] (31, 50518) S5 := by
          intro d2
          induction d2 with
          | zero =>
            intro k x S5 l H F hk hx hH hF f5 m5
            subst hx
            have ek : k = 8 := by omega
            subst ek
            refine Gd.of (ckX8 _ _) tX8_init_ok (cuts := miC) 40 ?_
            refine eB.t (by decide) ?_
            exact ih (g + 1) _ S5 l H F (by omega) (nI_1 g) (fun j hj => hF j (by omega)) f5 m5
          | succ d2 ih2 =>
            intro k x S5 l H F hk hx hH hF f5 m5
            subst hx
            have e8 : 8 * nI g + nI k = nI (8 * g + k) := by rw [show (8 : Int32) = nI 8 from rfl, pk_mul, nI_add]
            have bH : ∀ j, isB (H j) := fun j => by
              have := m5.isb (i := 7) rfl (by decide) j
              rw [up_n (by decide), up_s] at this
              exact this
            have bF : ∀ j, isB (F j) := fun j => by
              have := m5.isb (i := 10) rfl (by decide) j
              rw [up_s] at this
              exact this
            refine Gd.of (ckX8 _ _) tX8_init_ok (cuts := miC) 40 ?_
            refine eB.f (by rw [show (8 : Int32) = nI 8 from rfl, nI_leI (by omega) (by omega)]; omega) ?_
            refine eG.i m5.obj rfl ?_
            refine eG.i m5.obj rfl ?_
            refine eLb.i (i := nI k) m5.a7 (vp_in_nI (by omega) (by omega)) ?_
            refine eSb.i (i := 8 * nI g + nI k) m5.a10 (by rw [e8]; exact vp_in_nI (by omega) (by omega)) ?_
            rw [e8, nI_clamp (by omega), nI_clamp (by omega), show va_up (va_up A 7 H) 10 F 7 = H from by rw [up_n (by decide), up_s], show (H k).toInt8.toInt32 = H k from bH k, up_s]
            have m6 := m5.s10 (f := upd F (8 * g + k) (H k)) (fun j => by
              unfold upd
              split
              · exact bH k
              · exact bF j)
            rw [up_up] at m6
            refine ih2 (k + 1) _ _ l H _ (by omega) (nI_1 k) hH (fun j hj => ?_) (f5.tr (xD_up (by omega))) m6
            by_cases e : j = 8 * g + k
            · rw [e, pk_us, hH k (by omega), kyL, getD_app_r (by rw [kyL_len]; omega), kyL_len, show 8 * g + k - 8 * g = k by omega, part_getD (by omega), Nat.zero_add]
            · rw [pk_un e]; exact hF j (by omega)
        refine Gd.of (ckX8 _ _) tX8_init_ok (cuts := miC) 40 ?_
        refine eB.f (by rw [show (4 : Int32) = nI 4 from rfl, nI_leI (by omega) (by omega)]; omega) ?_
        refine ⟨rfl, Nat.le_of_ble_eq_true rfl, ?_⟩
        refine eV.i m4.obj ?_
        refine eC.z (c_M_start m4) ⟨rfl, rfl⟩ ⟨Nat.le_of_ble_eq_true rfl, Nat.le_of_ble_eq_true rfl⟩ ⟨Nat.le_of_ble_eq_true rfl, Nat.le_of_ble_eq_true rfl⟩ (fun v S5 hk => ?_)
        obtain ⟨rfl, f5, m5⟩ := hk
        refine ⟨rfl, Nat.le_of_ble_eq_true rfl, ?_⟩
        refine eV.i m5.obj ?_
        refine eC.z (c_M_put m5 (by decide)) ⟨rfl, rfl⟩ ⟨Nat.le_of_ble_eq_true rfl, Nat.le_of_ble_eq_true rfl⟩ ⟨Nat.le_of_ble_eq_true rfl, Nat.le_of_ble_eq_true rfl⟩ (fun v S6 hk => ?_)
        obtain ⟨rfl, f6, m6⟩ := hk
        refine ⟨rfl, Nat.le_of_ble_eq_true rfl, ?_⟩
        refine eV.i m6.obj ?_
        refine eC.z (c_M_putNumber (n := n) (b := 8) m6 (by decide) (by decide)) ⟨rfl, rfl⟩ ⟨Nat.le_of_ble_eq_true rfl, Nat.le_of_ble_eq_true rfl⟩ ⟨Nat.le_of_ble_eq_true rfl, Nat.le_of_ble_eq_true rfl⟩ (fun v S7 hk => ?_)
        obtain ⟨rfl, f7, m7⟩ := hk
        refine ⟨rfl, Nat.le_of_ble_eq_true rfl, ?_⟩
        refine eV.i m7.obj ?_
        refine eC.z (c_M_put m7 (by rw [List.length_append, nbL_len]; decide)) ⟨rfl, rfl⟩ ⟨Nat.le_of_ble_eq_true rfl, Nat.le_of_ble_eq_true rfl⟩ ⟨Nat.le_of_ble_eq_true rfl, Nat.le_of_ble_eq_true rfl⟩ (fun v S8 hk => ?_)
        obtain ⟨rfl, f8, m8⟩ := hk
        rw [kyM_nb (by omega)] at m8
        refine ⟨rfl, Nat.le_of_ble_eq_true rfl, ?_⟩
        refine eV.i m8.obj ?_
        refine eC.z (c_M_sum (p := 0) m8 (by omega) (by rw [kyM_len]; omega)) ⟨rfl, rfl⟩ ⟨Nat.le_of_ble_eq_true rfl, Nat.le_of_ble_eq_true rfl⟩ ⟨Nat.le_of_ble_eq_true rfl, Nat.le_of_ble_eq_true rfl⟩ (fun v S9 hk => ?_)
        obtain ⟨rfl, f9, l9, m9⟩ := hk
        have e9 : va_up (va_up (va_up A 7 H) 10 F) 7 (hset (va_up (va_up A 7 H) 10 F 7) 0 (sha (kyM n g))) = va_up (va_up A 7 (hset (va_up (va_up A 7 H) 10 F 7) 0 (sha (kyM n g)))) 10 F := by
          rw [up_comm (i := 10) (j := 7) (by decide), up_up]
        rw [e9] at m9
        refine k710 8 0 _ S9 l9 _ F (by omega) rfl (fun j hj => ?_) (fun j hj => ?_) (f4.tr ((((f5.tr f6).tr f7).tr f8).tr f9)) m9
        · rw [hset, if_pos (by omega), show j - 32 * 0 = j by omega]
        · rw [hF j (by omega), kyL, getD_app_l (by rw [kyL_len]; omega)]
    refine Gd.of (ckX8 _ _) tX8_init_ok (cuts := miC) 40 ?_
    refine k676 4 0 _ S2 [] (A 7) (A 10) (by omega) rfl (fun j hj => absurd hj (by omega)) fr.rf ?_
    rw [up_same, up_same]
    exact hMd
  refine mCon.of (I := miX8 true none) (by decide) rfl rfl (fun _ => rfl) (fun _ => rfl) (Nat.le_of_ble_eq_true rfl) ?_
  show Gd _ _ _ _ _ _ _ _ 0 [(0, .ref M), (1, .long n)] [] (0, 0) _
  refine Gd.of (ckX8 _ _) tX8_init_ok (cuts := miC) 40 ?_
  refine ⟨Nat.le_of_ble_eq_true rfl, ⟨Nat.le_of_ble_eq_true rfl, Nat.le_of_ble_eq_true rfl⟩, ?_⟩
  exact mk_all ⟨hs, kb.rf, h, fun i a b => by omega⟩ key
end MKY
