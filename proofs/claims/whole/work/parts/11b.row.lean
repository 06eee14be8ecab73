section ROWB
variable {G : mG} {S : mS} {a cap : Nat} {l : List Int32}
theorem c_Row_become {b cap2 : Nat} {l2 : List Int32} (h : Rl G S a cap l) (h2 : Rl G S b cap2 l2) (hd : b ≠ a ∧ b ≠ a + 1 ∧ a ≠ b + 1) (hc : l2.length ≤ cap) :
    mCon G yX4_become cX4_become 2 none (rmD 2) [.ref a, .ref b] S (fun v S' => v = none ∧ fr S S' (xR a) ∧ Rl G S' a cap l2) := by
  obtain ⟨f, g1, g2, g3, g4, g5, g6⟩ := h
  refine mCon.of (I := miX4 false none) (by decide) rfl rfl (fun h => by cases h) (fun _ => rfl) (Nat.le_of_ble_eq_true rfl) ?_
  refine Gd.of (ckX4 _ _) tX4_become_ok (cuts := fun _ => none) 60 ?_
  refine ⟨Or.inl rfl, ?_⟩
  refine eP.i g1 (Nat.le_of_ble_eq_true rfl) rfl rfl ?_
  have f1 : fr S (mUp S a (.inr (4, List.set [.ref (a + 1), .int (nI l.length)] 1 (.int 0)))) (xR a) := fr.up (Or.inl rfl)
  have h1 : Rl G (mUp S a (.inr (4, List.set [.ref (a + 1), .int (nI l.length)] 1 (.int 0)))) a cap [] := ⟨f, g1.up, g2.ne (by omega), Nat.zero_le _, g4, g5, fun j hj => absurd hj (Nat.not_lt_zero j)⟩
  have h2' := h2.fr f1 (by omega) (by omega)
  refine eG.i h2'.obj rfl ?_
  refine ⟨rfl, Nat.le_of_ble_eq_true rfl, ?_⟩
  refine eV.i h1.obj ?_
  refine eC.i (c_Row_addPart (s := 0) (c := l2.length) h1 h2' hd (by omega) (by simpa using hc)) ⟨Nat.le_of_ble_eq_true rfl, Nat.le_of_ble_eq_true rfl⟩ ⟨Nat.zero_le _, Nat.zero_le _⟩ (fun v S' hk => ?_)
  obtain ⟨rfl, f2, hr⟩ := hk
  refine eR.v ⟨rfl, f1.tr f2, ?_⟩
  simpa using hr
theorem c_Row_becomePart {b cap2 s c : Nat} {l2 : List Int32} (h : Rl G S a cap l) (h2 : Rl G S b cap2 l2) (hd : b ≠ a ∧ b ≠ a + 1 ∧ a ≠ b + 1) (hs : s + c ≤ l2.length) (hc : c ≤ cap) :
    mCon G yX4_becomePart cX4_becomePart 4 none (rmD 2) [.ref a, .ref b, .int (nI s), .int (nI c)] S (fun v S' => v = none ∧ fr S S' (xR a) ∧ Rl G S' a cap ((l2.drop s).take c)) := by
  obtain ⟨f, g1, g2, g3, g4, g5, g6⟩ := h
  refine mCon.of (I := miX4 false none) (by decide) rfl rfl (fun h => by cases h) (fun _ => rfl) (Nat.le_of_ble_eq_true rfl) ?_
  refine Gd.of (ckX4 _ _) tX4_becomePart_ok (cuts := fun _ => none) 60 ?_
  refine ⟨Or.inl rfl, ?_⟩
  refine eP.i g1 (Nat.le_of_ble_eq_true rfl) rfl rfl ?_
  have f1 : fr S (mUp S a (.inr (4, List.set [.ref (a + 1), .int (nI l.length)] 1 (.int 0)))) (xR a) := fr.up (Or.inl rfl)
  have h1 : Rl G (mUp S a (.inr (4, List.set [.ref (a + 1), .int (nI l.length)] 1 (.int 0)))) a cap [] := ⟨f, g1.up, g2.ne (by omega), Nat.zero_le _, g4, g5, fun j hj => absurd hj (Nat.not_lt_zero j)⟩
  have h2' := h2.fr f1 (by omega) (by omega)
  refine ⟨rfl, Nat.le_of_ble_eq_true rfl, ?_⟩
  refine eV.i h1.obj ?_
  refine eC.i (c_Row_addPart (s := s) (c := c) h1 h2' hd hs (by simpa using hc)) ⟨Nat.le_of_ble_eq_true rfl, Nat.le_of_ble_eq_true rfl⟩ ⟨Nat.zero_le _, Nat.zero_le _⟩ (fun v S' hk => ?_)
  obtain ⟨rfl, f2, hr⟩ := hk
  refine eR.v ⟨rfl, f1.tr f2, ?_⟩
  simpa using hr
/-- hashes of 32, the last first -/
def revH : Nat → List Int32 → List Int32
  | 0, _ => []
  | n + 1, l => (l.drop (32 * n)).take 32 ++ revH n l
theorem c_Row_addHashesReversed {b cap2 n : Nat} {l2 : List Int32} (h : Rl G S a cap l) (h2 : Rl G S b cap2 l2) (hd : b ≠ a ∧ b ≠ a + 1 ∧ a ≠ b + 1) (hn : l2.length = 32 * n) (hc : l.length + 32 * n ≤ cap) :
    mCon G yX4_addHashesReversed cX4_addHashesReversed 3 none (rmD 2) [.ref a, .ref b] S (fun v S' => v = none ∧ fr S S' (xR a) ∧ Rl G S' a cap (l ++ revH n l2)) := by
  refine mCon.of (I := miX4 false none) (by decide) rfl rfl (fun h => by cases h) (fun _ => rfl) (Nat.le_of_ble_eq_true rfl) ?_
  have hb := h2.le
  have key : ∀ (k : Nat) (S1 : mS) (l1 : List Int32), k ≤ n → fr S S1 (xR a) → Rl G S1 a cap l1 → l1 ++ revH k l2 = l ++ revH n l2 → l1.length + 32 * k ≤ cap → Gd G (miX4 false none) cX4_addHashesReversed 3 (rmD 2) 0 0 (fun v S' => v = none ∧ fr S S' (xR a) ∧ Rl G S' a cap (l ++ revH n l2)) 8 [(0, .ref a), (1, .ref b), (2, .int (nI (32 * k) - 32))] [] (0, 0) S1 := by
    intro k
    induction k with
    | zero =>
      intro S1 l1 hk f1 hr he hl
      refine Gd.of (ckX4 _ _) tX4_addHashesReversed_ok (cuts := lf 8 3) 60 ?_
      refine eB.t (by decide) ?_
      refine eR.v ⟨rfl, f1, ?_⟩
      rw [← he]
      simpa [revH] using hr
    | succ k ih =>
      intro S1 l1 hk f1 hr he hl
      refine Gd.of (ckX4 _ _) tX4_addHashesReversed_ok (cuts := lf 8 3) 60 ?_
      have e1 : nI (32 * (k + 1)) - 32 = nI (32 * k) := by
        rw [show (32 : Int32) = nI 32 from rfl, pk_sub (by omega)]
        congr 1
      rw [e1]
      refine eB.f (nI_pos (by omega)) ?_
      have h2' := h2.fr f1 (by omega) (by omega)
      refine ⟨rfl, Nat.le_of_ble_eq_true rfl, ?_⟩
      refine eV.i hr.obj ?_
      refine eC.i (c_Row_addPart (s := 32 * k) (c := 32) hr h2' hd (by omega) (by omega)) ⟨Nat.le_of_ble_eq_true rfl, Nat.le_of_ble_eq_true rfl⟩ ⟨Nat.zero_le _, Nat.zero_le _⟩ (fun v S' hk => ?_)
      obtain ⟨rfl, f2, hr'⟩ := hk
      have h9 := ih S' _ (by omega) (f1.tr f2) hr' (by rw [← he]; simp [revH]) (by simp; omega)
      rw [Int32.sub_eq_add_neg] at h9
      exact h9
  refine Gd.of (ckX4 _ _) tX4_addHashesReversed_ok (cuts := lf 8 3) 60 ?_
  refine eG.i h2.obj rfl ?_
  have := key n S l (Nat.le_refl n) fr.rf h rfl hc
  rw [hn]
  exact this
def rsz (l : List Int32) (n : Nat) : List Int32 := l.take n ++ List.replicate (n - l.length) 0
theorem c_Row_resize {n : Nat} (h : Rl G S a cap l) (hn : n ≤ cap) :
    mCon G yX4_resize cX4_resize 3 none (rmD 0) [.ref a, .int (nI n)] S (fun v S' => v = none ∧ fr S S' (xR a) ∧ Rl G S' a cap (rsz l n)) := by
  obtain ⟨f, g1, g2, g3, g4, g5, g6⟩ := h
  refine mCon.of (I := miX4 false none) (by decide) rfl rfl (fun h => by cases h) (fun _ => rfl) (Nat.le_of_ble_eq_true rfl) ?_
  have key : ∀ (d k : Nat) (S1 : mS) (f1 : Nat → Int32), k + d = max n l.length → l.length ≤ k → fr S S1 (xR a) → mAt G S1 a (.inr (4, [.ref (a + 1), .int (nI l.length)])) → mAt G S1 (a + 1) (eBy G cap f1) → (∀ j, isB (f1 j)) → (∀ j, j < l.length → f1 j = l.getD j 0) → (∀ j, l.length ≤ j → j < k → f1 j = 0) → Gd G (miX4 false none) cX4_resize 3 (rmD 0) 0 0 (fun v S' => v = none ∧ fr S S' (xR a) ∧ Rl G S' a cap (rsz l n)) 19 [(0, .ref a), (1, .int (nI n)), (2, .int (nI k))] [] (0, 0) S1 := by
    intro d
    induction d with
    | zero =>
      intro k S1 f1 hk hlk fr1 q1 q2 q3 q4 q5
      refine Gd.of (ckX4 _ _) tX4_resize_ok (cuts := lf 19 3) 60 ?_
      refine eB.t (by rw [nI_leI (by omega) (by omega)]; omega) ?_
      refine ⟨Or.inl rfl, ?_⟩
      refine eP.i q1 (Nat.le_of_ble_eq_true rfl) rfl rfl ?_
      refine eR.v ⟨rfl, fr1.tr (fr.up (Or.inl rfl)), ?_⟩
      have e1 : (rsz l n).length = n := by simp [rsz]; omega
      refine ⟨f1, by rw [e1]; exact q1.up, q2.ne (by omega), by omega, g4, q3, fun j hj => ?_⟩
      rw [e1] at hj
      by_cases hq : j < l.length
      · rw [q4 j hq, rsz, List.getD_eq_getElem?_getD, List.getD_eq_getElem?_getD, List.getElem?_append_left (by simp; omega), List.getElem?_take_of_lt hj]
      · rw [q5 j (by omega) (by omega), rsz, List.getD_eq_getElem?_getD, List.getElem?_append_right (by simp; omega)]
        rw [List.getElem?_replicate]
        split <;> rfl
    | succ d ih =>
      intro k S1 f1 hk hlk fr1 q1 q2 q3 q4 q5
      refine Gd.of (ckX4 _ _) tX4_resize_ok (cuts := lf 19 3) 60 ?_
      refine eB.f (by rw [nI_leI (by omega) (by omega)]; omega) ?_
      refine eG.i q1 rfl ?_
      refine eSb.i (i := nI k) q2 (vp_in_nI (by omega) (by omega)) ?_
      have e1 : nI k + 1 = nI (k + 1) := nI_1 k
      have := ih (k + 1) (mUp S1 (a + 1) (eBy G cap (upd f1 (nI k).toNatClampNeg (0 : Int32).toInt8.toInt32))) (upd f1 k 0) (by omega) (by omega) (fr1.tr (fr.up (Or.inr rfl))) (q1.ne (by omega)) ?_ ?_ ?_ ?_
      · rw [← e1] at this
        exact this
      · rw [nI_clamp (by omega)]; exact q2.up
      · intro j
        unfold upd
        split
        · exact isB_0
        · exact q3 j
      · intro j hj
        rw [pk_un (by omega)]
        exact q4 j hj
      · intro j h1 h2
        by_cases hq : j = k
        · subst hq; exact pk_us
        · rw [pk_un hq]; exact q5 j h1 (by omega)
  refine Gd.of (ckX4 _ _) tX4_resize_ok (cuts := lf 19 3) 60 ?_
  refine eB.f (nI_pos (by omega)) ?_
  refine eG.i g1 rfl ?_
  refine eN.i (t := 1) g2 (by decide) ?_
  refine eB.t (by rw [nI_leI (by omega) (by omega)]; omega) ?_
  refine eG.i g1 rfl ?_
  exact key (max n l.length - l.length) l.length S f (by omega) (Nat.le_refl _) fr.rf g1 g2 g5 g6 (fun j h1 h2 => by omega)
/-- the bytes from places on, as numbers 0 to 255, or -1 -/
def same (l1 : List Int32) (i : Nat) (l2 : List Int32) (j n : Nat) : Prop := ∀ k, k < n → rAt l1 (nI (i + k)) = rAt l2 (nI (j + k))
noncomputable def sameI (l1 : List Int32) (i : Nat) (l2 : List Int32) (j n : Nat) : Int32 := by
  classical
  exact if same l1 i l2 j n then 1 else 0
theorem c_Row_sameAs {b cap2 i j n : Nat} {l2 : List Int32} (h : Rl G S a cap l) (h2 : Rl G S b cap2 l2) (hi : i + n < 100000) (hj : j + n < 100000) :
    mCon G yX4_sameAs cX4_sameAs 6 (some .boolean) (rmD 1) [.ref a, .int (nI i), .ref b, .int (nI j), .int (nI n)] S (fun v S' => S' = S ∧ v = some (.int (sameI l i l2 j n))) := by
  refine mCon.of (I := miX4 false (some .boolean)) (by decide) rfl rfl (fun h => by cases h) (fun _ => rfl) (Nat.le_of_ble_eq_true rfl) ?_
  have key : ∀ (d k : Nat), k + d = n → (∀ q, q < k → rAt l (nI (i + q)) = rAt l2 (nI (j + q))) → Gd G (miX4 false (some .boolean)) cX4_sameAs 6 (rmD 1) 0 0 (fun v S' => S' = S ∧ v = some (.int (sameI l i l2 j n))) 3 [(0, .ref a), (1, .int (nI i)), (2, .ref b), (3, .int (nI j)), (4, .int (nI n)), (5, .int (nI k))] [] (0, 0) S := by
    intro d
    induction d with
    | zero =>
      intro k hk hs
      refine Gd.of (ckX4 _ _) tX4_sameAs_ok (cuts := lf 3 6) 60 ?_
      refine eB.t (by rw [nI_leI (by omega) (by omega)]; omega) ?_
      refine eR.t ⟨rfl, ?_⟩
      rw [sameI, if_pos]
      intro q hq
      exact hs q (by omega)
    | succ d ih =>
      intro k hk hs
      refine Gd.of (ckX4 _ _) tX4_sameAs_ok (cuts := lf 3 6) 60 ?_
      refine eB.f (by rw [nI_leI (by omega) (by omega)]; omega) ?_
      refine ⟨rfl, Nat.le_of_ble_eq_true rfl, ?_⟩
      refine eV.i h.obj ?_
      refine eC.i (c_Row_at h) ⟨Nat.le_of_ble_eq_true rfl, Nat.le_of_ble_eq_true rfl⟩ ⟨Nat.zero_le _, Nat.zero_le _⟩ (fun v S' hk => ?_)
      obtain ⟨rfl, rfl⟩ := hk
      refine ⟨rfl, Nat.le_of_ble_eq_true rfl, ?_⟩
      refine eV.i h2.obj ?_
      refine eC.i (c_Row_at h2) ⟨Nat.le_of_ble_eq_true rfl, Nat.le_of_ble_eq_true rfl⟩ ⟨Nat.zero_le _, Nat.zero_le _⟩ (fun v S' hk => ?_)
      obtain ⟨rfl, rfl⟩ := hk
      refine eB.i (fun hq => ?_) (fun hq => ?_)
      · have e1 : nI k + 1 = nI (k + 1) := nI_1 k
        have := ih (k + 1) (by omega) (fun q hq2 => by
          by_cases h9 : q = k
          · subst h9; rw [← nI_add, ← nI_add]; exact hq
          · exact hs q (by omega))
        rw [← e1] at this
        exact this
      · refine eR.f ⟨rfl, ?_⟩
        rw [sameI, if_neg]
        intro hc
        apply hq
        rw [nI_add, nI_add]
        exact hc k (by omega)
  refine Gd.of (ckX4 _ _) tX4_sameAs_ok (cuts := lf 3 6) 60 ?_
  exact key n 0 (by omega) (fun q hq => absurd hq (Nat.not_lt_zero q))
end ROWB
