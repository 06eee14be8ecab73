/-! the hashes of RFC 6962, 2.1.1 and 2.1.2: the parts (first leaf, how many) from the root down -/
def pathN : Nat → Nat → Nat → Nat → List (Nat × Nat)
  | 0, _, _, _ => []
  | f + 1, a, n, i => if n ≤ 1 then [] else if i < half n then (a + half n, n - half n) :: pathN f a (half n) i else (a, half n) :: pathN f (a + half n) (n - half n) (i - half n)
def prfN : Nat → Nat → Nat → Nat → List (Nat × Nat)
  | 0, a, n, _ => if a = 0 then [] else [(a, n)]
  | f + 1, a, n, m => if m = n then (if a = 0 then [] else [(a, n)]) else if m ≤ half n then (a + half n, n - half n) :: prfN f a (half n) m else (a, half n) :: prfN f (a + half n) (n - half n) (m - half n)
def cat (vals : Nat → Int32) : List (Nat × Nat) → List Int32
  | [] => []
  | q :: r => mth vals q.1 q.2 ++ cat vals r
theorem cat_len (vals : Nat → Int32) (l : List (Nat × Nat)) : (cat vals l).length = 32 * l.length := by
  induction l with
  | nil => rfl
  | cons q r ih => rw [cat, List.length_append, mth_len, ih, List.length_cons]; omega
theorem cat_app (vals : Nat → Int32) (l r : List (Nat × Nat)) : cat vals (l ++ r) = cat vals l ++ cat vals r := by
  induction l with
  | nil => rfl
  | cons q l ih => rw [List.cons_append, cat, cat, ih, List.append_assoc]
theorem revH_app : ∀ (n : Nat) (l x : List Int32), l.length = 32 * n → revH n (l ++ x) = revH n l := by
  intro n
  induction n with
  | zero => intro l x _; rfl
  | succ n ih =>
    intro l x hl
    have e1 : revH n (l ++ x) = revH n l := by
      have h1 : l ++ x = l.take (32 * n) ++ (l.drop (32 * n) ++ x) := by rw [← List.append_assoc, List.take_append_drop]
      have h2 : revH n (l ++ x) = revH n (l.take (32 * n)) := by rw [h1]; exact ih _ _ (by rw [List.length_take]; omega)
      have h3 : revH n l = revH n (l.take (32 * n)) := by
        have h4 : l = l.take (32 * n) ++ l.drop (32 * n) := (List.take_append_drop _ _).symm
        conv => lhs; rw [h4]
        exact ih _ _ (by rw [List.length_take]; omega)
      rw [h2, h3]
    rw [revH, revH, e1, List.drop_append_of_le_length (by omega), List.take_append_of_le_length (by rw [List.length_drop]; omega)]
theorem revH_cat (vals : Nat → Int32) : ∀ (l : List (Nat × Nat)), revH l.length (cat vals l) = cat vals l.reverse := by
  intro l
  generalize hn : l.length = n
  induction n generalizing l with
  | zero => rw [List.eq_nil_of_length_eq_zero hn]; rfl
  | succ n ih =>
    obtain ⟨r, q, rfl⟩ : ∃ r q, l = r ++ [q] := ⟨l.dropLast, l.getLast (by intro z; rw [z] at hn; cases hn), (List.dropLast_concat_getLast _).symm⟩
    have hr : r.length = n := by simpa using hn
    have hlr := cat_len vals r
    rw [cat_app, revH, revH_app n _ _ (by rw [hlr, hr]), ih r hr, List.reverse_append, List.drop_append_of_le_length (by rw [hlr, hr]; exact Nat.le_refl _), List.drop_eq_nil_of_le (by rw [hlr, hr]; exact Nat.le_refl _), List.nil_append, cat, cat, List.append_nil, List.take_of_length_le (by rw [mth_len]; exact Nat.le_refl _)]
    rfl
theorem pathN_len : ∀ (f a n i : Nat), (pathN f a n i).length ≤ f := by
  intro f
  induction f with
  | zero => intro a n i; exact Nat.le_refl 0
  | succ f ih =>
    intro a n i
    unfold pathN
    split
    · exact Nat.zero_le _
    · split
      · exact Nat.succ_le_succ (ih _ _ _)
      · exact Nat.succ_le_succ (ih _ _ _)
theorem prfN_len : ∀ (f a n m : Nat), (prfN f a n m).length ≤ f + 1 := by
  intro f
  induction f with
  | zero => intro a n m; unfold prfN; split <;> simp
  | succ f ih =>
    intro a n m
    unfold prfN
    split
    · split <;> simp
    · split
      · exact Nat.succ_le_succ (ih _ _ _)
      · exact Nat.succ_le_succ (ih _ _ _)
section PUSH
variable {G : mG} {S : mS} {a w cnt s caps : Nat} {vals : Nat → Int32} {lm ld : List Int32}
/-- a part's root comes on the stack -/
theorem push_fr {S1 S2 S3 : mS} (f1 : fr S S1 (fun q => xS a q ∨ xR s q)) (f2 : fr S1 S2 (xS a)) (f3 : fr S2 S3 (xR s)) : fr S S3 (fun q => xS a q ∨ xR s q) := f1.tr ((f2.mono (fun q h => Or.inl h)).tr (f3.mono (fun q h => Or.inr h)))
theorem c_View_pushPath {n i : Nat} {l0 : List Int32} (hG : GOK G) (h : Vw G S w vals cnt) (hs : Sha G S a lm ld) (ht : Rl G S s 256 l0) (ha : a + 6 < w ∨ w + 16 < a) (hd1 : a + 6 < s ∨ s + 1 < a) (hd2 : w + 16 < s ∨ s + 1 < w) (hi : i < n) (hn : n ≤ cnt) (hl0 : l0.length = 0) :
    mCon G yX6_pushPath cX6_pushPath 9 none (rmD 4) [.ref w, .ref a, .int (nI n), .int (nI i), .ref s] S (fun v S' => v = none ∧ fr S S' (fun q => xS a q ∨ xR s q) ∧ (∃ lm' ld', Sha G S' a lm' ld') ∧ Rl G S' s 256 (cat vals (pathN 7 0 n i))) := by
  have h6 := h.2.2.2.1
  refine mCon.of (I := miX6 false none) (by decide) rfl rfl (fun h => by cases h) (fun _ => rfl) (Nat.le_of_ble_eq_true rfl) ?_
  show Gd _ _ _ _ _ _ _ _ 0 [(0, .ref w), (1, .ref a), (2, .int (nI n)), (3, .int (nI i)), (4, .ref s)] [] (0, 0) _
  have key : ∀ (f b m p : Nat) (S1 : mS) (l1 : List Int32), f ≤ 7 → (∃ κ, κ ≤ f ∧ 2 ^ κ ∣ b ∧ m ≤ 2 ^ κ) → b + p = i → p < m → b + m ≤ n → fr S S1 (fun q => xS a q ∨ xR s q) → (∃ lm' ld', Sha G S1 a lm' ld') → Rl G S1 s 256 l1 → l1.length + 32 * f ≤ 256 → l1 ++ cat vals (pathN f b m p) = cat vals (pathN 7 0 n i) →
      Gd G (miX6 false none) cX6_pushPath 9 (rmD 4) 0 0 (fun v S' => v = none ∧ fr S S' (fun q => xS a q ∨ xR s q) ∧ (∃ lm' ld', Sha G S' a lm' ld') ∧ Rl G S' s 256 (cat vals (pathN 7 0 n i))) 9 [(0, .ref w), (1, .ref a), (2, .int (nI n)), (3, .int (nI i)), (4, .ref s), (5, .int (nI b)), (6, .int (nI (b + m))), (7, .int (nI (7 - f)))] [] (0, 0) S1 := by
    intro f
    induction f with
    | zero =>
      intro b m p S1 l1 hf hκ hbp hpm hbm f1 gs gt hl he
      refine Gd.of (ckX6 _ _) tX6_pushPath_ok (cuts := lf 9 8) 80 ?_
      refine eB.t (by decide) ?_
      refine eR.v ⟨rfl, f1, gs, ?_⟩
      rw [← he]
      simpa [pathN, cat] using gt
    | succ f ih =>
      intro b m p S1 l1 hf hκ hbp hpm hbm f1 gs gt hl he
      obtain ⟨κ, k1, k2, k3⟩ := hκ
      have esub : nI (b + m) - nI b = nI m := by rw [pk_sub (by omega)]; congr 1; omega
      refine Gd.of (ckX6 _ _) tX6_pushPath_ok (cuts := lf 9 8) 80 ?_
      refine eB.f (by rw [show (7 : Int32) = nI 7 from rfl, nI_leI (by omega) (by omega)]; omega) ?_
      refine eB.i (fun q => ?_) (fun q => ?_)
      · rw [esub, show (1 : Int32) = nI 1 from rfl, nI_leI (by omega) (by omega)] at q
        refine eR.v ⟨rfl, f1, gs, ?_⟩
        rw [← he, pathN, if_pos q]
        simpa [cat] using gt
      · rw [esub, show (1 : Int32) = nI 1 from rfl, nI_leI (by omega) (by omega)] at q
        obtain ⟨j, j1, j2, j3⟩ := half_ok (n := m) (by omega)
        have hh := half_lt (n := m) (by omega)
        have hjκ : j < κ := by
          rcases Nat.lt_or_ge j κ with z | z
          · exact z
          · have := Nat.pow_le_pow_right (n := 2) (by omega) z
            omega
        have hdb : 2 ^ j ∣ b := Nat.dvd_trans (Nat.pow_dvd_pow 2 (by omega)) k2
        have hdm : 2 ^ j ∣ b + half m := by rw [j1]; exact (Nat.dvd_add_right hdb).mpr (Nat.dvd_refl _)
        have hcs := c_View_splitOf (G := G) (S := S1) (n := m) (by omega) (by omega)
        rw [← esub] at hcs
        refine ⟨Nat.le_of_ble_eq_true rfl, ?_⟩
        refine eC.z (hcs) ⟨rfl, rfl⟩ ⟨Nat.le_of_ble_eq_true rfl, Nat.le_of_ble_eq_true rfl⟩ ⟨Nat.zero_le _, Nat.zero_le _⟩ (fun v S0 hk => ?_)
        obtain ⟨rfl, rfl⟩ := hk
        have emid : nI b + nI (half m) = nI (b + half m) := nI_add _ _
        obtain ⟨lm1, ld1, H1⟩ := gs
        have hV := h.keep f1 (fun z z1 z2 z3 => by rcases z3 with z3 | z3 | z3 <;> omega)
        have e7 : nI (7 - (f + 1)) + 1 = nI (7 - f) := by rw [nI_1]; congr 1; omega
        refine eB.i (fun q2 => ?_) (fun q2 => ?_)
        · rw [emid, nI_leI (by omega) (by omega)] at q2
          have hcr := c_View_rootOf (b := b) (e := b + half m) (k := j) hG hV H1 ha (by omega) (by omega) hdb (by rw [j1]; omega)
          rw [show b + half m - b = half m by omega, ← emid] at hcr
          refine ⟨rfl, Nat.le_of_ble_eq_true rfl, ?_⟩
          refine eV.i hV.1 ?_
          refine eC.z (hcr) ⟨rfl, rfl⟩ ⟨Nat.le_of_ble_eq_true rfl, Nat.le_of_ble_eq_true rfl⟩ ⟨Nat.zero_le _, Nat.zero_le _⟩ (fun v S2 hk => ?_)
          obtain ⟨rfl, f2, lm2, H2⟩ := hk
          have gt2 := gt.fr f2 (by omega) (by omega)
          refine ⟨rfl, Nat.le_of_ble_eq_true rfl, ?_⟩
          refine eV.i gt2.obj ?_
          refine eC.z (c_Row_addPart (s := 0) (c := 32) gt2 H2.d (by omega) (by rw [mth_len]; omega) (by omega)) ⟨rfl, rfl⟩ ⟨Nat.le_of_ble_eq_true rfl, Nat.le_of_ble_eq_true rfl⟩ ⟨Nat.zero_le _, Nat.zero_le _⟩ (fun v S3 hk => ?_)
          obtain ⟨rfl, f3, gt3⟩ := hk
          rw [List.drop_zero, List.take_of_length_le (by rw [mth_len]; exact Nat.le_refl _)] at gt3
          have h9 := ih (b + half m) (m - half m) (p - half m) S3 _ (by omega) ⟨j, by omega, hdm, by omega⟩ (by omega) (by omega) (by omega) (push_fr f1 f2 f3) ⟨lm2, _, H2.keep f3 (fun z z1 z2 z3 => by rcases z3 with z3 | z3 <;> omega)⟩ gt3 (by rw [List.length_append, mth_len]; omega) (by
            rw [← he, pathN, if_neg (by omega), if_neg (by omega), cat, List.append_assoc])
          rw [show b + half m + (m - half m) = b + m by omega, ← e7, ← emid] at h9
          exact h9
        · rw [emid, nI_leI (by omega) (by omega)] at q2
          have hcr := c_View_rootOf (b := b + half m) (e := b + m) (k := j) hG hV H1 ha (by omega) (by omega) hdm (by omega)
          rw [show b + m - (b + half m) = m - half m by omega, ← emid] at hcr
          refine ⟨rfl, Nat.le_of_ble_eq_true rfl, ?_⟩
          refine eV.i hV.1 ?_
          refine eC.z (hcr) ⟨rfl, rfl⟩ ⟨Nat.le_of_ble_eq_true rfl, Nat.le_of_ble_eq_true rfl⟩ ⟨Nat.zero_le _, Nat.zero_le _⟩ (fun v S2 hk => ?_)
          obtain ⟨rfl, f2, lm2, H2⟩ := hk
          have gt2 := gt.fr f2 (by omega) (by omega)
          refine ⟨rfl, Nat.le_of_ble_eq_true rfl, ?_⟩
          refine eV.i gt2.obj ?_
          refine eC.z (c_Row_addPart (s := 0) (c := 32) gt2 H2.d (by omega) (by rw [mth_len]; omega) (by omega)) ⟨rfl, rfl⟩ ⟨Nat.le_of_ble_eq_true rfl, Nat.le_of_ble_eq_true rfl⟩ ⟨Nat.zero_le _, Nat.zero_le _⟩ (fun v S3 hk => ?_)
          obtain ⟨rfl, f3, gt3⟩ := hk
          rw [List.drop_zero, List.take_of_length_le (by rw [mth_len]; exact Nat.le_refl _)] at gt3
          have h9 := ih b (half m) p S3 _ (by omega) ⟨j, by omega, hdb, by omega⟩ (by omega) (by omega) (by omega) (push_fr f1 f2 f3) ⟨lm2, _, H2.keep f3 (fun z z1 z2 z3 => by rcases z3 with z3 | z3 <;> omega)⟩ gt3 (by rw [List.length_append, mth_len]; omega) (by
            rw [← he, pathN, if_neg (by omega), if_pos (by omega), cat, List.append_assoc])
          rw [← e7, ← emid] at h9
          exact h9
  refine Gd.of (ckX6 _ _) tX6_pushPath_ok (cuts := lf 9 8) 80 ?_
  have h9 := key 7 0 n i S l0 (by omega) ⟨7, by omega, Nat.dvd_zero _, by omega⟩ (by omega) hi (by omega) fr.rf ⟨lm, ld, hs⟩ ht (by omega) (by rw [List.eq_nil_of_length_eq_zero hl0]; rfl)
  rw [Nat.zero_add] at h9
  exact h9
theorem c_View_pushProof {n t : Nat} {l0 : List Int32} (hG : GOK G) (h : Vw G S w vals cnt) (hs : Sha G S a lm ld) (ht : Rl G S s 256 l0) (ha : a + 6 < w ∨ w + 16 < a) (hd1 : a + 6 < s ∨ s + 1 < a) (hd2 : w + 16 < s ∨ s + 1 < w) (h0 : 0 < t) (hi : t < n) (hn : n ≤ cnt) (hl0 : l0.length = 0) :
    mCon G yX6_pushProof cX6_pushProof 9 none (rmD 4) [.ref w, .ref a, .int (nI t), .int (nI n), .ref s] S (fun v S' => v = none ∧ fr S S' (fun q => xS a q ∨ xR s q) ∧ (∃ lm' ld', Sha G S' a lm' ld') ∧ Rl G S' s 256 (cat vals (prfN 7 0 n t))) := by
  have h6 := h.2.2.2.1
  refine mCon.of (I := miX6 false none) (by decide) rfl rfl (fun h => by cases h) (fun _ => rfl) (Nat.le_of_ble_eq_true rfl) ?_
  show Gd _ _ _ _ _ _ _ _ 0 [(0, .ref w), (1, .ref a), (2, .int (nI t)), (3, .int (nI n)), (4, .ref s)] [] (0, 0) _
  -- behind the loop
  have fin : ∀ (b m c : Nat) (S1 : mS) (l1 : List Int32), (∃ κ, 2 ^ κ ∣ b ∧ m ≤ 2 ^ κ) → b + m ≤ n → 0 < m → fr S S1 (fun q => xS a q ∨ xR s q) → (∃ lm' ld', Sha G S1 a lm' ld') → Rl G S1 s 256 l1 → l1.length + 32 ≤ 256 → l1 ++ cat vals (if b = 0 then [] else [(b, m)]) = cat vals (prfN 7 0 n t) →
      Gd G (miX6 false none) cX6_pushProof 9 (rmD 4) 0 0 (fun v S' => v = none ∧ fr S S' (fun q => xS a q ∨ xR s q) ∧ (∃ lm' ld', Sha G S' a lm' ld') ∧ Rl G S' s 256 (cat vals (prfN 7 0 n t))) 92 [(0, .ref w), (1, .ref a), (2, .int (nI t)), (3, .int (nI n)), (4, .ref s), (5, .int (nI b)), (6, .int (nI (b + m)))] [] (0, 0) S1 := by
    intro b m c S1 l1 hκ hbm h0m f1 gs gt hl he
    obtain ⟨κ, k2, k3⟩ := hκ
    refine Gd.of (ckX6 _ _) tX6_pushProof_ok (cuts := fun _ => none) 40 ?_
    refine eB.i (fun q => ?_) (fun q => ?_)
    · rw [show (0 : Int32) = nI 0 from rfl, nI_leI (by omega) (by omega)] at q
      refine eR.v ⟨rfl, f1, gs, ?_⟩
      rw [← he, if_pos (by omega)]
      simpa [cat] using gt
    · rw [show (0 : Int32) = nI 0 from rfl, nI_leI (by omega) (by omega)] at q
      obtain ⟨lm1, ld1, H1⟩ := gs
      have hV := h.keep f1 (fun z z1 z2 z3 => by rcases z3 with z3 | z3 | z3 <;> omega)
      have hcr := c_View_rootOf (b := b) (e := b + m) (k := κ) hG hV H1 ha (by omega) (by omega) k2 (by omega)
      rw [show b + m - b = m by omega] at hcr
      refine ⟨rfl, Nat.le_of_ble_eq_true rfl, ?_⟩
      refine eV.i hV.1 ?_
      refine eC.z (hcr) ⟨rfl, rfl⟩ ⟨Nat.le_of_ble_eq_true rfl, Nat.le_of_ble_eq_true rfl⟩ ⟨Nat.zero_le _, Nat.zero_le _⟩ (fun v S2 hk => ?_)
      obtain ⟨rfl, f2, lm2, H2⟩ := hk
      have gt2 := gt.fr f2 (by omega) (by omega)
      refine ⟨rfl, Nat.le_of_ble_eq_true rfl, ?_⟩
      refine eV.i gt2.obj ?_
      refine eC.z (c_Row_addPart (s := 0) (c := 32) gt2 H2.d (by omega) (by rw [mth_len]; omega) (by omega)) ⟨rfl, rfl⟩ ⟨Nat.le_of_ble_eq_true rfl, Nat.le_of_ble_eq_true rfl⟩ ⟨Nat.zero_le _, Nat.zero_le _⟩ (fun v S3 hk => ?_)
      obtain ⟨rfl, f3, gt3⟩ := hk
      rw [List.drop_zero, List.take_of_length_le (by rw [mth_len]; exact Nat.le_refl _)] at gt3
      refine eR.v ⟨rfl, push_fr f1 f2 f3, ⟨lm2, _, H2.keep f3 (fun z z1 z2 z3 => by rcases z3 with z3 | z3 <;> omega)⟩, ?_⟩
      rw [← he, if_neg (by omega)]
      simpa [cat] using gt3
  have key : ∀ (f b m p : Nat) (S1 : mS) (l1 : List Int32), f ≤ 7 → (∃ κ, κ ≤ f ∧ 2 ^ κ ∣ b ∧ m ≤ 2 ^ κ) → b + p = t → 0 < p → p ≤ m → b + m ≤ n → fr S S1 (fun q => xS a q ∨ xR s q) → (∃ lm' ld', Sha G S1 a lm' ld') → Rl G S1 s 256 l1 → l1.length + 32 * f + 32 ≤ 256 → l1 ++ cat vals (prfN f b m p) = cat vals (prfN 7 0 n t) →
      Gd G (miX6 false none) cX6_pushProof 9 (rmD 4) 0 0 (fun v S' => v = none ∧ fr S S' (fun q => xS a q ∨ xR s q) ∧ (∃ lm' ld', Sha G S' a lm' ld') ∧ Rl G S' s 256 (cat vals (prfN 7 0 n t))) 9 [(0, .ref w), (1, .ref a), (2, .int (nI t)), (3, .int (nI n)), (4, .ref s), (5, .int (nI b)), (6, .int (nI (b + m))), (7, .int (nI (7 - f)))] [] (0, 0) S1 := by
    intro f
    induction f with
    | zero =>
      intro b m p S1 l1 hf hκ hbp hp0 hpm hbm f1 gs gt hl he
      obtain ⟨κ, k1, k2, k3⟩ := hκ
      refine Gd.of (ckX6 _ _) tX6_pushProof_ok (cuts := nd 92 (lf 9 8) (lf 92 7)) 80 ?_
      refine eB.t (by decide) ?_
      exact fin b m 0 S1 l1 ⟨κ, k2, k3⟩ hbm (by omega) f1 gs gt (by omega) (by rw [← he]; rfl)
    | succ f ih =>
      intro b m p S1 l1 hf hκ hbp hp0 hpm hbm f1 gs gt hl he
      obtain ⟨κ, k1, k2, k3⟩ := hκ
      have esub : nI (b + m) - nI b = nI m := by rw [pk_sub (by omega)]; congr 1; omega
      refine Gd.of (ckX6 _ _) tX6_pushProof_ok (cuts := nd 92 (lf 9 8) (lf 92 7)) 80 ?_
      refine eB.f (by rw [show (7 : Int32) = nI 7 from rfl, nI_leI (by omega) (by omega)]; omega) ?_
      refine eB.i (fun q => ?_) (fun q => ?_)
      · rw [nI_eq (by omega) (by omega)] at q
        exact fin b m 0 S1 l1 ⟨κ, k2, k3⟩ hbm (by omega) f1 gs gt (by omega) (by rw [← he, prfN, if_pos (show p = m by omega)])
      · rw [nI_eq (by omega) (by omega)] at q
        obtain ⟨j, j1, j2, j3⟩ := half_ok (n := m) (by omega)
        have hh := half_lt (n := m) (by omega)
        have hjκ : j < κ := by
          rcases Nat.lt_or_ge j κ with z | z
          · exact z
          · have := Nat.pow_le_pow_right (n := 2) (by omega) z
            omega
        have hdb : 2 ^ j ∣ b := Nat.dvd_trans (Nat.pow_dvd_pow 2 (by omega)) k2
        have hdm : 2 ^ j ∣ b + half m := by rw [j1]; exact (Nat.dvd_add_right hdb).mpr (Nat.dvd_refl _)
        have hcs := c_View_splitOf (G := G) (S := S1) (n := m) (by omega) (by omega)
        rw [← esub] at hcs
        refine ⟨Nat.le_of_ble_eq_true rfl, ?_⟩
        refine eC.z (hcs) ⟨rfl, rfl⟩ ⟨Nat.le_of_ble_eq_true rfl, Nat.le_of_ble_eq_true rfl⟩ ⟨Nat.zero_le _, Nat.zero_le _⟩ (fun v S0 hk => ?_)
        obtain ⟨rfl, rfl⟩ := hk
        have emid : nI b + nI (half m) = nI (b + half m) := nI_add _ _
        obtain ⟨lm1, ld1, H1⟩ := gs
        have hV := h.keep f1 (fun z z1 z2 z3 => by rcases z3 with z3 | z3 | z3 <;> omega)
        have e7 : nI (7 - (f + 1)) + 1 = nI (7 - f) := by rw [nI_1]; congr 1; omega
        refine eB.i (fun q2 => ?_) (fun q2 => ?_)
        · rw [emid, nI_ltI (by omega) (by omega)] at q2
          have hcr := c_View_rootOf (b := b) (e := b + half m) (k := j) hG hV H1 ha (by omega) (by omega) hdb (by rw [j1]; omega)
          rw [show b + half m - b = half m by omega, ← emid] at hcr
          refine ⟨rfl, Nat.le_of_ble_eq_true rfl, ?_⟩
          refine eV.i hV.1 ?_
          refine eC.z (hcr) ⟨rfl, rfl⟩ ⟨Nat.le_of_ble_eq_true rfl, Nat.le_of_ble_eq_true rfl⟩ ⟨Nat.zero_le _, Nat.zero_le _⟩ (fun v S2 hk => ?_)
          obtain ⟨rfl, f2, lm2, H2⟩ := hk
          have gt2 := gt.fr f2 (by omega) (by omega)
          refine ⟨rfl, Nat.le_of_ble_eq_true rfl, ?_⟩
          refine eV.i gt2.obj ?_
          refine eC.z (c_Row_addPart (s := 0) (c := 32) gt2 H2.d (by omega) (by rw [mth_len]; omega) (by omega)) ⟨rfl, rfl⟩ ⟨Nat.le_of_ble_eq_true rfl, Nat.le_of_ble_eq_true rfl⟩ ⟨Nat.zero_le _, Nat.zero_le _⟩ (fun v S3 hk => ?_)
          obtain ⟨rfl, f3, gt3⟩ := hk
          rw [List.drop_zero, List.take_of_length_le (by rw [mth_len]; exact Nat.le_refl _)] at gt3
          have h9 := ih (b + half m) (m - half m) (p - half m) S3 _ (by omega) ⟨j, by omega, hdm, by omega⟩ (by omega) (by omega) (by omega) (by omega) (push_fr f1 f2 f3) ⟨lm2, _, H2.keep f3 (fun z z1 z2 z3 => by rcases z3 with z3 | z3 <;> omega)⟩ gt3 (by rw [List.length_append, mth_len]; omega) (by
            rw [← he, prfN, if_neg (by omega), if_neg (by omega), cat, List.append_assoc])
          rw [show b + half m + (m - half m) = b + m by omega, ← e7, ← emid] at h9
          exact h9
        · rw [emid, nI_ltI (by omega) (by omega)] at q2
          have hcr := c_View_rootOf (b := b + half m) (e := b + m) (k := j) hG hV H1 ha (by omega) (by omega) hdm (by omega)
          rw [show b + m - (b + half m) = m - half m by omega, ← emid] at hcr
          refine ⟨rfl, Nat.le_of_ble_eq_true rfl, ?_⟩
          refine eV.i hV.1 ?_
          refine eC.z (hcr) ⟨rfl, rfl⟩ ⟨Nat.le_of_ble_eq_true rfl, Nat.le_of_ble_eq_true rfl⟩ ⟨Nat.zero_le _, Nat.zero_le _⟩ (fun v S2 hk => ?_)
          obtain ⟨rfl, f2, lm2, H2⟩ := hk
          have gt2 := gt.fr f2 (by omega) (by omega)
          refine ⟨rfl, Nat.le_of_ble_eq_true rfl, ?_⟩
          refine eV.i gt2.obj ?_
          refine eC.z (c_Row_addPart (s := 0) (c := 32) gt2 H2.d (by omega) (by rw [mth_len]; omega) (by omega)) ⟨rfl, rfl⟩ ⟨Nat.le_of_ble_eq_true rfl, Nat.le_of_ble_eq_true rfl⟩ ⟨Nat.zero_le _, Nat.zero_le _⟩ (fun v S3 hk => ?_)
          obtain ⟨rfl, f3, gt3⟩ := hk
          rw [List.drop_zero, List.take_of_length_le (by rw [mth_len]; exact Nat.le_refl _)] at gt3
          have h9 := ih b (half m) p S3 _ (by omega) ⟨j, by omega, hdb, by omega⟩ (by omega) (by omega) (by omega) (by omega) (push_fr f1 f2 f3) ⟨lm2, _, H2.keep f3 (fun z z1 z2 z3 => by rcases z3 with z3 | z3 <;> omega)⟩ gt3 (by rw [List.length_append, mth_len]; omega) (by
            rw [← he, prfN, if_neg (by omega), if_pos (by omega), cat, List.append_assoc])
          rw [← e7, ← emid] at h9
          exact h9
  refine Gd.of (ckX6 _ _) tX6_pushProof_ok (cuts := nd 92 (lf 9 8) (lf 92 7)) 80 ?_
  have h9 := key 7 0 n t S l0 (by omega) ⟨7, by omega, Nat.dvd_zero _, by omega⟩ (by omega) h0 (by omega) (by omega) fr.rf ⟨lm, ld, hs⟩ ht (by omega) (by rw [List.eq_nil_of_length_eq_zero hl0]; rfl)
  rw [Nat.zero_add] at h9
  exact h9
end PUSH
