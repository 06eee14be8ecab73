/-! where hashes lead to (RFC 9162, 2.1.3.2 and 2.1.4.2) -/
def sO : Nat → Nat → Nat → Nat × Nat
  | 0, f, s => (f, s)
  | k + 1, f, s => if f % 2 = 1 then sO k (f / 2) (s / 2) else (f, s)
def sE : Nat → Nat → Nat → Nat × Nat
  | 0, f, s => (f, s)
  | k + 1, f, s => if f % 2 = 0 ∧ f ≠ 0 then sE k (f / 2) (s / 2) else (f, s)
def rise (row : List Int32) : Nat → Nat → List Int32 → List Int32 → Nat → Nat → Option (List Int32 × List Int32)
  | 0, _, o, w, _, s => if s = 0 then some (o, w) else none
  | k + 1, st, o, w, f, s => if s = 0 then none else if f % 2 = 1 ∨ f = s then rise row k (st + 32) (nh (part row st 32) o) (nh (part row st 32) w) ((sE 32 f s).1 / 2) ((sE 32 f s).2 / 2) else rise row k (st + 32) o (nh w (part row st 32)) (f / 2) (s / 2)
theorem sO_lt {k : Nat} : ∀ {f s N : Nat}, f < N → s < N → (sO k f s).1 < N ∧ (sO k f s).2 < N := by
  induction k with
  | zero => intro f s N h1 h2; exact ⟨h1, h2⟩
  | succ k ih =>
    intro f s N h1 h2
    unfold sO
    split
    · exact ih (by omega) (by omega)
    · exact ⟨h1, h2⟩
theorem sE_lt {k : Nat} : ∀ {f s N : Nat}, f < N → s < N → (sE k f s).1 < N ∧ (sE k f s).2 < N := by
  induction k with
  | zero => intro f s N h1 h2; exact ⟨h1, h2⟩
  | succ k ih =>
    intro f s N h1 h2
    unfold sE
    split
    · exact ih (by omega) (by omega)
    · exact ⟨h1, h2⟩
theorem part_all {l : List Int32} (h : l.length = 32) : part l 0 32 = l := by
  unfold part
  rw [List.drop_zero, List.take_of_length_le (by omega)]
theorem shr1 {n : Nat} (h : n < 2 ^ 31) : nI n >>> ((1 : Int32) &&& 31) = nI (n / 2) := by
  have := shrN (l := 1) h (by omega)
  rw [Nat.pow_one] at this
  exact this
theorem nh_len (l r : List Int32) : (nh l r).length = 32 := sha_len _
section CLIMB
variable {G : mG} {S : mS} {a c r capr : Nat} {lm ld row : List Int32}
abbrev xC (c : Nat) : Nat → Prop := fun q => c + 1 ≤ q ∧ q ≤ c + 4
abbrev xSC (a c : Nat) : Nat → Prop := fun q => xS a q ∨ xC c q
def Cb (G : mG) (S : mS) (c : Nat) (o w : List Int32) : Prop := mAt G S c (.inr (0, [.ref (c + 1), .ref (c + 3)])) ∧ Rl G S (c + 1) 32 o ∧ Rl G S (c + 3) 32 w
theorem Cb.keep {S' : mS} {X : Nat → Prop} {o w : List Int32} (h : Cb G S c o w) (f : fr S S' X) (hx : ∀ q, c ≤ q → q ≤ c + 4 → ¬ X q) : Cb G S' c o w :=
  ⟨h.1.fr f (hx _ (by omega) (by omega)), h.2.1.fr f (hx _ (by omega) (by omega)) (hx _ (by omega) (by omega)), h.2.2.fr f (hx _ (by omega) (by omega)) (hx _ (by omega) (by omega))⟩
/-- what is left in both rows: the two roots, if the hashes lead somewhere -/
def riseK (G : mG) (S0 : mS) (a c : Nat) (x : Option (List Int32 × List Int32)) : Option Value → mS → Prop := fun v S' => v = some (.int (if x.isSome then 1 else 0)) ∧ fr S0 S' (xSC a c) ∧ (∃ lm ld, Sha G S' a lm ld) ∧ ∃ o w, Cb G S' c o w ∧ o.length = 32 ∧ w.length = 32 ∧ ∀ y, x = some y → y = (o, w)
abbrev rsI : mI := miX0 false (some .boolean)
def rsC : Nat → Option Nat := nd 85 (lf 10 9) (nd 145 (lf 85 10) (lf 145 9))
theorem c_Climb_rises {k hs f s : Nat} {o w : List Int32} (hG : GOK G) (h1 : Sha G S a lm ld) (h2 : Cb G S c o w) (h3 : Rl G S r capr row) (d1 : a + 6 < c ∨ c + 4 < a) (d2 : a + 6 < r ∨ r + 1 < a) (d3 : c + 4 < r ∨ r + 1 < c) (ho : o.length = 32) (hw : w.length = 32) (hf : f < 2 ^ 31) (hs2 : s < 2 ^ 31) (hk : row.length = hs + 32 * k) :
    mCon G yX0_rises cX0_rises 10 (some .boolean) (rmD 3) [.ref c, .ref a, .int (nI f), .int (nI s), .ref r, .int (nI hs)] S (riseK G S a c (rise row k hs o w f s)) := by
  have hrl := h3.le
  refine mCon.of (I := rsI) (by decide) rfl rfl (fun h => by cases h) (fun _ => rfl) (Nat.le_of_ble_eq_true rfl) ?_
  show Gd _ _ _ _ _ _ _ _ 0 [(0, .ref c), (1, .ref a), (2, .int (nI f)), (3, .int (nI s)), (4, .ref r), (5, .int (nI hs))] [] (0, 0) _
  have key : ∀ (j st f1 s1 : Nat) (o1 w1 : List Int32) (S1 : mS), st + 32 * j = row.length → f1 < 2 ^ 31 → s1 < 2 ^ 31 → fr S S1 (xSC a c) → (∃ lm ld, Sha G S1 a lm ld) → Cb G S1 c o1 w1 → o1.length = 32 → w1.length = 32 → rise row j st o1 w1 f1 s1 = rise row k hs o w f s →
      Gd G rsI cX0_rises 10 (rmD 3) 0 0 (riseK G S a c (rise row k hs o w f s)) 10 [(0, .ref c), (1, .ref a), (2, .int (nI f)), (3, .int (nI s)), (4, .ref r), (5, .int (nI hs)), (6, .int (nI f1)), (7, .int (nI s1)), (8, .int (nI st))] [] (0, 0) S1 := by
    intro j
    induction j with
    | zero =>
      intro st f1 s1 o1 w1 S1 hst hf1 hs1 fr1 gs gc lo lw he
      have g3 := h3.fr fr1 (by omega) (by omega)
      refine Gd.of (ckX0 _ _) tX0_rises_ok (cuts := rsC) 60 ?_
      refine eG.i g3.obj rfl ?_
      refine eB.t (by rw [nI_leI (by omega) (by omega)]; omega) ?_
      rw [← he, rise]
      refine eB.i (fun q => ?_) (fun q => ?_)
      · rw [show (0 : Int32) = nI 0 from rfl, nI_eq hs1 (by omega)] at q
        rw [if_pos q]
        exact eR.t ⟨rfl, fr1, gs, o1, w1, gc, lo, lw, fun y hy => (Option.some.inj hy).symm⟩
      · rw [show (0 : Int32) = nI 0 from rfl, nI_eq hs1 (by omega)] at q
        rw [if_neg q]
        exact eR.f ⟨rfl, fr1, gs, o1, w1, gc, lo, lw, fun y hy => by cases hy⟩
    | succ j ih =>
      intro st f1 s1 o1 w1 S1 hst hf1 hs1 fr1 gs gc lo lw he
      have g3 := h3.fr fr1 (by omega) (by omega)
      obtain ⟨lm1, ld1, H1⟩ := gs
      -- behind both ways
      have tail : ∀ (f2 s2 : Nat) (o2 w2 : List Int32) (S2 : mS), f2 < 2 ^ 31 → s2 < 2 ^ 31 → fr S S2 (xSC a c) → (∃ lm ld, Sha G S2 a lm ld) → Cb G S2 c o2 w2 → o2.length = 32 → w2.length = 32 → rise row j (st + 32) o2 w2 (f2 / 2) (s2 / 2) = rise row k hs o w f s →
          Gd G rsI cX0_rises 10 (rmD 3) 0 0 (riseK G S a c (rise row k hs o w f s)) 145 [(0, .ref c), (1, .ref a), (2, .int (nI f)), (3, .int (nI s)), (4, .ref r), (5, .int (nI hs)), (6, .int (nI f2)), (7, .int (nI s2)), (8, .int (nI st))] [] (0, 0) S2 := by
        intro f2 s2 o2 w2 S2 hf2 hs2 fr2 gs2 gc2 lo2 lw2 he2
        refine Gd.of (ckX0 _ _) tX0_rises_ok (cuts := rsC) 60 ?_
        have h9 := ih (st + 32) (f2 / 2) (s2 / 2) o2 w2 S2 (by omega) (by omega) (by omega) fr2 gs2 gc2 lo2 lw2 he2
        rw [← nI_add, ← shr1 hf2, ← shr1 hs2] at h9
        exact h9
      -- the shifts
      have shifts : ∀ (n i f2 s2 : Nat) (o2 w2 : List Int32) (S2 : mS), i + n = 32 → f2 < 2 ^ 31 → s2 < 2 ^ 31 → fr S S2 (xSC a c) → (∃ lm ld, Sha G S2 a lm ld) → Cb G S2 c o2 w2 → o2.length = 32 → w2.length = 32 → rise row j (st + 32) o2 w2 ((sE n f2 s2).1 / 2) ((sE n f2 s2).2 / 2) = rise row k hs o w f s →
          Gd G rsI cX0_rises 10 (rmD 3) 0 0 (riseK G S a c (rise row k hs o w f s)) 85 [(0, .ref c), (1, .ref a), (2, .int (nI f)), (3, .int (nI s)), (4, .ref r), (5, .int (nI hs)), (6, .int (nI f2)), (7, .int (nI s2)), (8, .int (nI st)), (9, .int (nI i))] [] (0, 0) S2 := by
        intro n
        induction n with
        | zero =>
          intro i f2 s2 o2 w2 S2 hi hf2 hs2 fr2 gs2 gc2 lo2 lw2 he2
          refine Gd.of (ckX0 _ _) tX0_rises_ok (cuts := rsC) 60 ?_
          refine eB.t (by rw [show (32 : Int32) = nI 32 from rfl, nI_leI (by omega) (by omega)]; omega) ?_
          exact tail f2 s2 o2 w2 S2 hf2 hs2 fr2 gs2 gc2 lo2 lw2 he2
        | succ n ih2 =>
          intro i f2 s2 o2 w2 S2 hi hf2 hs2 fr2 gs2 gc2 lo2 lw2 he2
          refine Gd.of (ckX0 _ _) tX0_rises_ok (cuts := rsC) 60 ?_
          refine eB.f (by rw [show (32 : Int32) = nI 32 from rfl, nI_leI (by omega) (by omega)]; omega) ?_
          refine eB.i (fun q => ?_) (fun q => ?_)
          · rw [and1 hf2, show (0 : Int32) = nI 0 from rfl, nI_eq (by omega) (by omega)] at q
            refine eB.i (fun q2 => ?_) (fun q2 => ?_)
            · rw [show (0 : Int32) = nI 0 from rfl, nI_eq hf2 (by omega)] at q2
              rw [sE, if_neg (by omega)] at he2
              exact tail f2 s2 o2 w2 S2 hf2 hs2 fr2 gs2 gc2 lo2 lw2 he2
            · rw [show (0 : Int32) = nI 0 from rfl, nI_eq hf2 (by omega)] at q2
              rw [sE, if_pos ⟨q, q2⟩] at he2
              have e1 : nI i + 1 = nI (i + 1) := nI_1 i
              have h9 := ih2 (i + 1) (f2 / 2) (s2 / 2) o2 w2 S2 (by omega) (by omega) (by omega) fr2 gs2 gc2 lo2 lw2 he2
              rw [← e1, ← shr1 hf2, ← shr1 hs2] at h9
              exact h9
          · rw [and1 hf2, show (0 : Int32) = nI 0 from rfl, nI_eq (by omega) (by omega)] at q
            rw [sE, if_neg (by omega)] at he2
            exact tail f2 s2 o2 w2 S2 hf2 hs2 fr2 gs2 gc2 lo2 lw2 he2
      -- both rows go up over the hash
      have both : s1 ≠ 0 → (f1 % 2 = 1 ∨ f1 = s1) → Gd G rsI cX0_rises 10 (rmD 3) 0 0 (riseK G S a c (rise row k hs o w f s)) 42 [(0, .ref c), (1, .ref a), (2, .int (nI f)), (3, .int (nI s)), (4, .ref r), (5, .int (nI hs)), (6, .int (nI f1)), (7, .int (nI s1)), (8, .int (nI st))] [] (0, 0) S1 := by
        intro q0 q1
        obtain ⟨c0, c1, c2⟩ := gc
        refine Gd.of (ckX0 _ _) tX0_rises_ok (cuts := rsC) 60 ?_
        refine eG.i c0 rfl ?_
        refine eG.i c0 rfl ?_
        refine ⟨rfl, Nat.le_of_ble_eq_true rfl, ?_⟩
        refine eV.i H1.o ?_
        refine eC.z (c_Sha_join (i := st) (j := 0) hG H1 g3 c1 (by omega) (by omega) (by omega) (by omega)) ⟨rfl, rfl⟩ ⟨Nat.le_of_ble_eq_true rfl, Nat.le_of_ble_eq_true rfl⟩ ⟨Nat.zero_le _, Nat.zero_le _⟩ (fun v S2 hk => ?_)
        obtain ⟨rfl, f2, lm2, H2⟩ := hk
        have c12 := c1.fr f2 (by omega) (by omega)
        refine ⟨rfl, Nat.le_of_ble_eq_true rfl, ?_⟩
        refine eV.i c12.obj ?_
        refine eC.z (c_Row_become c12 H2.d (by omega) (by rw [sha_len]; omega)) ⟨rfl, rfl⟩ ⟨Nat.le_of_ble_eq_true rfl, Nat.le_of_ble_eq_true rfl⟩ ⟨Nat.zero_le _, Nat.zero_le _⟩ (fun v S3 hk => ?_)
        obtain ⟨rfl, f3, c13⟩ := hk
        have H3 := H2.keep f3 (fun z z1 z2 z3 => by rcases z3 with z3 | z3 <;> omega)
        have c03 := (c0.fr f2 (by omega)).fr f3 (by omega)
        have c23 := (c2.fr f2 (by omega) (by omega)).fr f3 (by omega) (by omega)
        have g33 := (g3.fr f2 (by omega) (by omega)).fr f3 (by omega) (by omega)
        refine eG.i c03 rfl ?_
        refine eG.i c03 rfl ?_
        refine ⟨rfl, Nat.le_of_ble_eq_true rfl, ?_⟩
        refine eV.i H3.o ?_
        refine eC.z (c_Sha_join (i := st) (j := 0) hG H3 g33 c23 (by omega) (by omega) (by omega) (by omega)) ⟨rfl, rfl⟩ ⟨Nat.le_of_ble_eq_true rfl, Nat.le_of_ble_eq_true rfl⟩ ⟨Nat.zero_le _, Nat.zero_le _⟩ (fun v S4 hk => ?_)
        obtain ⟨rfl, f4, lm4, H4⟩ := hk
        have c24 := c23.fr f4 (by omega) (by omega)
        refine ⟨rfl, Nat.le_of_ble_eq_true rfl, ?_⟩
        refine eV.i c24.obj ?_
        refine eC.z (c_Row_become c24 H4.d (by omega) (by rw [sha_len]; omega)) ⟨rfl, rfl⟩ ⟨Nat.le_of_ble_eq_true rfl, Nat.le_of_ble_eq_true rfl⟩ ⟨Nat.zero_le _, Nat.zero_le _⟩ (fun v S5 hk => ?_)
        obtain ⟨rfl, f5, c25⟩ := hk
        have H5 := H4.keep f5 (fun z z1 z2 z3 => by rcases z3 with z3 | z3 <;> omega)
        have c05 := (c03.fr f4 (by omega)).fr f5 (by omega)
        have c15 := (c13.fr f4 (by omega) (by omega)).fr f5 (by omega) (by omega)
        rw [part_all lo] at c15
        rw [part_all lw] at c25
        have fr5 : fr S S5 (xSC a c) := fr1.tr ((f2.mono (fun q z => Or.inl z)).tr ((f3.mono (fun q z => Or.inr (by rcases z with z | z <;> (constructor <;> omega)))).tr ((f4.mono (fun q z => Or.inl z)).tr (f5.mono (fun q z => Or.inr (by rcases z with z | z <;> (constructor <;> omega)))))))
        rw [rise, if_neg q0, if_pos q1] at he
        exact shifts 32 0 f1 s1 _ _ S5 (by omega) hf1 hs1 fr5 ⟨lm4, _, H5⟩ ⟨c05, c15, c25⟩ (nh_len _ _) (nh_len _ _) he
      refine Gd.of (ckX0 _ _) tX0_rises_ok (cuts := nd 42 (lf 10 9) (nd 85 (lf 42 9) (nd 145 (lf 85 10) (lf 145 9)))) 60 ?_
      refine eG.i g3.obj rfl ?_
      refine eB.f (by rw [nI_leI (by omega) (by omega)]; omega) ?_
      refine eB.i (fun q => ?_) (fun q => ?_)
      · rw [show (0 : Int32) = nI 0 from rfl, nI_eq hs1 (by omega)] at q
        rw [← he, rise, if_pos q]
        exact eR.f ⟨rfl, fr1, ⟨lm1, ld1, H1⟩, o1, w1, gc, lo, lw, fun y hy => by cases hy⟩
      · rw [show (0 : Int32) = nI 0 from rfl, nI_eq hs1 (by omega)] at q
        refine eB.i (fun q2 => ?_) (fun q2 => ?_)
        · rw [and1 hf1, show (1 : Int32) = nI 1 from rfl, nI_eq (by omega) (by omega)] at q2
          exact both q (Or.inl q2)
        · rw [and1 hf1, show (1 : Int32) = nI 1 from rfl, nI_eq (by omega) (by omega)] at q2
          refine eB.i (fun q3 => ?_) (fun q3 => ?_)
          · rw [nI_eq hf1 hs1] at q3
            exact both q (Or.inr q3)
          · rw [nI_eq hf1 hs1] at q3
            obtain ⟨c0, c1, c2⟩ := gc
            refine eG.i c0 rfl ?_
            refine eG.i c0 rfl ?_
            refine ⟨rfl, Nat.le_of_ble_eq_true rfl, ?_⟩
            refine eV.i H1.o ?_
            refine eC.z (c_Sha_join (i := 0) (j := st) hG H1 c2 g3 (by omega) (by omega) (by omega) (by omega)) ⟨rfl, rfl⟩ ⟨Nat.le_of_ble_eq_true rfl, Nat.le_of_ble_eq_true rfl⟩ ⟨Nat.zero_le _, Nat.zero_le _⟩ (fun v S2 hk => ?_)
            obtain ⟨rfl, f2, lm2, H2⟩ := hk
            have c22 := c2.fr f2 (by omega) (by omega)
            refine ⟨rfl, Nat.le_of_ble_eq_true rfl, ?_⟩
            refine eV.i c22.obj ?_
            refine eC.z (c_Row_become c22 H2.d (by omega) (by rw [sha_len]; omega)) ⟨rfl, rfl⟩ ⟨Nat.le_of_ble_eq_true rfl, Nat.le_of_ble_eq_true rfl⟩ ⟨Nat.zero_le _, Nat.zero_le _⟩ (fun v S3 hk => ?_)
            obtain ⟨rfl, f3, c23⟩ := hk
            have H3 := H2.keep f3 (fun z z1 z2 z3 => by rcases z3 with z3 | z3 <;> omega)
            rw [part_all lw] at c23
            rw [rise, if_neg q, if_neg (by omega)] at he
            exact tail f1 s1 o1 _ S3 hf1 hs1 (fr1.tr ((f2.mono (fun q z => Or.inl z)).tr (f3.mono (fun q z => Or.inr (by rcases z with z | z <;> (constructor <;> omega)))))) ⟨lm2, _, H3⟩ ⟨(c0.fr f2 (by omega)).fr f3 (by omega), (c1.fr f2 (by omega) (by omega)).fr f3 (by omega) (by omega), c23⟩ lo (nh_len _ _) he
  refine Gd.of (ckX0 _ _) tX0_rises_ok (cuts := rsC) 60 ?_
  exact key k hs f s o w S (by omega) hf hs2 fr.rf ⟨lm, ld, h1⟩ h2 ho hw rfl
end CLIMB
