section JOIN
variable {G : mG} {S : mS} {a : Nat}
theorem Sha.keep {lm ld : List Int32} {S' : mS} {X : Nat → Prop} (h : Sha G S a lm ld) (f : fr S S' X) (hx : ∀ q, a ≤ q → q ≤ a + 6 → ¬ X q) : Sha G S' a lm ld := by
  obtain ⟨g0, gm, gd, ⟨w, gw⟩, t, gt⟩ := h
  exact ⟨g0.fr f (hx _ (by omega) (by omega)), gm.fr f (hx _ (by omega) (by omega)) (hx _ (by omega) (by omega)), gd.fr f (hx _ (by omega) (by omega)) (hx _ (by omega) (by omega)), ⟨w, gw.fr f (hx _ (by omega) (by omega))⟩, t, gt.fr f (hx _ (by omega) (by omega))⟩
/-- a change of the message row alone -/
theorem Sha.msg {lm lm' ld : List Int32} {S' : mS} (h : Sha G S a lm ld) (f : fr S S' (xR (a + 1))) (hm : Rl G S' (a + 1) 704 lm') : Sha G S' a lm' ld := by
  obtain ⟨g0, gm, gd, ⟨w, gw⟩, t, gt⟩ := h
  exact ⟨g0.fr f (by omega), hm, gd.fr f (by omega) (by omega), ⟨w, gw.fr f (by omega)⟩, t, gt.fr f (by omega)⟩
theorem Sha.o {lm ld : List Int32} (h : Sha G S a lm ld) : mAt G S a (.inr (5, [.ref (a + 1), .ref (a + 3), .ref (a + 5), .ref (a + 6)])) := h.1
theorem Sha.m {lm ld : List Int32} (h : Sha G S a lm ld) : Rl G S (a + 1) 704 lm := h.2.1
theorem Sha.d {lm ld : List Int32} (h : Sha G S a lm ld) : Rl G S (a + 3) 32 ld := h.2.2.1
def part (l : List Int32) (i n : Nat) : List Int32 := (l.drop i).take n
theorem part_len {l : List Int32} {i n : Nat} (h : i + n ≤ l.length) : (part l i n).length = n := by
  unfold part
  rw [List.length_take, List.length_drop]
  omega
theorem fr_xm {S S' : mS} (f : fr S S' (xR (a + 1))) : fr S S' (xS a) := f.mono (fun q hq => by rcases hq with h | h <;> (constructor <;> omega))
/-- H(01, left, right) -/
theorem c_Sha_join {lm ld l2 l3 : List Int32} {b c cap2 cap3 i j : Nat} (hG : GOK G) (h : Sha G S a lm ld) (h2 : Rl G S b cap2 l2) (h3 : Rl G S c cap3 l3) (hb : b ≠ a + 1 ∧ b ≠ a + 2 ∧ b ≠ a) (hc : c ≠ a + 1 ∧ c ≠ a + 2 ∧ c ≠ a) (hi : i + 32 ≤ l2.length) (hj : j + 32 ≤ l3.length) :
    mCon G yX5_join cX5_join 5 (some (.object "GossipWatch$Row")) (rmD 2) [.ref a, .ref b, .int (nI i), .ref c, .int (nI j)] S (finK G S a (sha ([1] ++ part l2 i 32 ++ part l3 j 32))) := by
  refine mCon.of (I := finI) (by decide) rfl rfl (fun h => by cases h) (fun _ => rfl) (Nat.le_of_ble_eq_true rfl) ?_
  refine Gd.of (ckX5 _ _) tX5_join_ok (cuts := fun _ => none) 60 ?_
  refine eG.i h.o rfl ?_
  refine ⟨rfl, Nat.le_of_ble_eq_true rfl, ?_⟩
  refine eV.i h.m.obj ?_
  refine eC.i (c_Row_empty h.m) ⟨Nat.le_of_ble_eq_true rfl, Nat.le_of_ble_eq_true rfl⟩ ⟨Nat.zero_le _, Nat.zero_le _⟩ (fun v S1 hk => ?_)
  obtain ⟨rfl, f1, m1⟩ := hk
  have H1 := h.msg f1 m1
  refine eG.i H1.o rfl ?_
  refine ⟨rfl, Nat.le_of_ble_eq_true rfl, ?_⟩
  refine eV.i m1.obj ?_
  refine eC.i (c_Row_add m1 (by decide)) ⟨Nat.le_of_ble_eq_true rfl, Nat.le_of_ble_eq_true rfl⟩ ⟨Nat.zero_le _, Nat.zero_le _⟩ (fun v S2 hk => ?_)
  obtain ⟨rfl, f2, m2⟩ := hk
  have H2 := H1.msg f2 m2
  have f12 := f1.tr f2
  refine eG.i H2.o rfl ?_
  refine ⟨rfl, Nat.le_of_ble_eq_true rfl, ?_⟩
  refine eV.i m2.obj ?_
  refine eC.i (c_Row_addPart (s := i) (c := 32) m2 (h2.fr f12 (by omega) (by omega)) (by omega) hi (by show 1 + 32 ≤ 704; omega)) ⟨Nat.le_of_ble_eq_true rfl, Nat.le_of_ble_eq_true rfl⟩ ⟨Nat.zero_le _, Nat.zero_le _⟩ (fun v S3 hk => ?_)
  obtain ⟨rfl, f3, m3⟩ := hk
  have H3 := H2.msg f3 m3
  have f13 := f12.tr f3
  refine eG.i H3.o rfl ?_
  refine ⟨rfl, Nat.le_of_ble_eq_true rfl, ?_⟩
  refine eV.i m3.obj ?_
  have hl := part_len hi
  refine eC.i (c_Row_addPart (s := j) (c := 32) m3 (h3.fr f13 (by omega) (by omega)) (by omega) hj (by rw [List.length_append]; unfold part at hl; rw [hl]; show 1 + 32 + 32 ≤ 704; omega)) ⟨Nat.le_of_ble_eq_true rfl, Nat.le_of_ble_eq_true rfl⟩ ⟨Nat.zero_le _, Nat.zero_le _⟩ (fun v S4 hk => ?_)
  obtain ⟨rfl, f4, m4⟩ := hk
  have H4 := H3.msg f4 m4
  have f14 := f13.tr f4
  refine ⟨rfl, Nat.le_of_ble_eq_true rfl, ?_⟩
  refine eV.i H4.o ?_
  refine eC.i (c_Sha_finish hG H4 ?_) ⟨Nat.le_of_ble_eq_true rfl, Nat.le_of_ble_eq_true rfl⟩ ⟨Nat.zero_le _, Nat.zero_le _⟩ (fun v S5 hk => ?_)
  · have hl3 := part_len hj
    unfold part at hl hl3
    rw [List.length_append, List.length_append, hl, hl3]
    show 1 + 32 + 32 ≤ 634
    omega
  obtain ⟨rfl, f5, lm5, H5⟩ := hk
  exact eR.o (v := a + 3) ⟨rfl, (fr_xm f14).tr f5, lm5, H5⟩
end JOIN
