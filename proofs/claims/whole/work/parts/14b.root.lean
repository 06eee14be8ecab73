/-! RFC 6962: the root of n leaves from a on -/
def half (n : Nat) : Nat := 2 ^ Nat.log2 (n - 1)
theorem half_eq {n j : Nat} (h1 : 2 ^ j < n) (h2 : n ≤ 2 ^ (j + 1)) : half n = 2 ^ j := by
  have hp := Nat.two_pow_pos j
  have h0 : n - 1 ≠ 0 := by omega
  have a1 : j ≤ Nat.log2 (n - 1) := (Nat.le_log2 h0).mpr (by omega)
  have a2 : Nat.log2 (n - 1) < j + 1 := (Nat.log2_lt h0).mpr (by omega)
  unfold half
  rw [show Nat.log2 (n - 1) = j by omega]
theorem half_ok {n : Nat} (h : 2 ≤ n) : ∃ j, half n = 2 ^ j ∧ 2 ^ j < n ∧ n ≤ 2 ^ (j + 1) := by
  have h0 : n - 1 ≠ 0 := by omega
  refine ⟨Nat.log2 (n - 1), rfl, ?_, ?_⟩
  · have := (Nat.le_log2 h0).mp (Nat.le_refl _)
    omega
  · have := (Nat.log2_lt h0).mp (Nat.lt_succ_self _)
    omega
theorem half_lt {n : Nat} (h : 2 ≤ n) : 0 < half n ∧ half n < n ∧ n ≤ 2 * half n := by
  obtain ⟨j, e, h1, h2⟩ := half_ok h
  rw [e]
  have := Nat.two_pow_pos j
  rw [Nat.pow_succ] at h2
  omega
def mth (vals : Nat → Int32) (a n : Nat) : List Int32 :=
  if h : n ≤ 1 then (if n = 1 then lh (vals a) else sha []) else nh (mth vals a (half n)) (mth vals (a + half n) (n - half n))
termination_by n
decreasing_by
  · exact (half_lt (by omega)).2.1
  · have := half_lt (n := n) (by omega)
    omega
theorem mth_0 (vals : Nat → Int32) (a : Nat) : mth vals a 0 = sha [] := by rw [mth]; simp
theorem mth_1 (vals : Nat → Int32) (a : Nat) : mth vals a 1 = lh (vals a) := by rw [mth]; simp
theorem mth_2 (vals : Nat → Int32) (a : Nat) {n : Nat} (h : 2 ≤ n) : mth vals a n = nh (mth vals a (half n)) (mth vals (a + half n) (n - half n)) := by
  rw [mth, dif_neg (by omega)]
theorem mth_len (vals : Nat → Int32) (a n : Nat) : (mth vals a n).length = 32 := by
  rcases (show n = 0 ∨ n = 1 ∨ 2 ≤ n by omega) with rfl | rfl | h
  · rw [mth_0]; exact sha_len _
  · rw [mth_1]; exact sha_len _
  · rw [mth_2 _ _ h]; exact sha_len _
theorem mth_full (vals : Nat → Int32) : ∀ (l m : Nat), mth vals (2 ^ l * m) (2 ^ l) = ft vals l m := by
  intro l
  induction l with
  | zero => intro m; rw [Nat.pow_zero, Nat.one_mul, mth_1]; rfl
  | succ l ih =>
    intro m
    have hp := Nat.two_pow_pos l
    have e : half (2 ^ (l + 1)) = 2 ^ l := half_eq (by rw [Nat.pow_succ]; omega) (Nat.le_refl _)
    rw [mth_2 _ _ (by rw [Nat.pow_succ]; omega), e]
    have e1 : 2 ^ (l + 1) * m = 2 ^ l * (2 * m) := by rw [Nat.pow_succ, Nat.mul_assoc]
    have e2 : 2 ^ l * (2 * m) + 2 ^ l = 2 ^ l * (2 * m + 1) := by rw [Nat.mul_succ]
    have e3 : 2 ^ (l + 1) - 2 ^ l = 2 ^ l := by rw [Nat.pow_succ]; omega
    rw [e1, e2, e3, ih, ih]
    rfl
theorem mth_up (vals : Nat → Int32) (l m r : Nat) (hr : r ≤ 2 ^ l) (h0 : 0 < r) : mth vals (2 ^ l * m) (2 ^ l + r) = nh (ft vals l m) (mth vals (2 ^ l * m + 2 ^ l) r) := by
  have hp := Nat.two_pow_pos l
  have e : half (2 ^ l + r) = 2 ^ l := half_eq (by omega) (by rw [Nat.pow_succ]; omega)
  rw [mth_2 _ _ (by omega), e, mth_full, show 2 ^ l + r - 2 ^ l = r by omega]
theorem mth_congr {u v : Nat → Int32} : ∀ (n a : Nat), (∀ j, a ≤ j → j < a + n → u j = v j) → mth u a n = mth v a n := by
  intro n
  induction n using Nat.strongRecOn with
  | ind n ih =>
    intro a h
    rcases (show n = 0 ∨ n = 1 ∨ 2 ≤ n by omega) with rfl | rfl | h2
    · rw [mth_0, mth_0]
    · rw [mth_1, mth_1, h a (by omega) (by omega)]
    · have hh := half_lt h2
      rw [mth_2 _ _ h2, mth_2 _ _ h2, ih (half n) (by omega) a (fun j q1 q2 => h j q1 (by omega)), ih (n - half n) (by omega) (a + half n) (fun j q1 q2 => h j (by omega) (by omega))]
theorem s_l : ∀ n, n < 32 → ((nI n &&& 31).toBitVec.smod 32).toNat = n := by decide
theorem shrN {n l : Nat} (hn : n < 2 ^ 31) (hl : l < 32) : nI n >>> (nI l &&& 31) = nI (n / 2 ^ l) := pk_shrN hn _ l (s_l l hl)
theorem and1 {n : Nat} (h : n < 2 ^ 31) : nI n &&& 1 = nI (n % 2) := pk_andN (by omega) 1 rfl
section ROOT
variable {G : mG} {S : mS} {a w cnt : Nat} {vals : Nat → Int32} {lm ld : List Int32}
theorem c_View_splitOf {n : Nat} (h2 : 2 ≤ n) (hn : n ≤ 128) :
    mCon G yX6_splitOf cX6_splitOf 3 (some .int) (rmD 0) [.int (nI n)] S (fun v S' => S' = S ∧ v = some (.int (nI (half n)))) := by
  refine mCon.of (I := miX6 false (some .int)) (by decide) rfl rfl (fun h => by cases h) (fun _ => rfl) (Nat.le_of_ble_eq_true rfl) ?_
  show Gd _ _ _ _ _ _ _ _ 0 [(0, .int (nI n))] [] (0, 0) _
  have key : ∀ (d l : Nat), l + d = 6 → 2 ^ l < n → Gd G (miX6 false (some .int)) cX6_splitOf 3 (rmD 0) 0 0 (fun v S' => S' = S ∧ v = some (.int (nI (half n)))) 4 [(0, .int (nI n)), (1, .int (nI (2 ^ l))), (2, .int (nI (l + 1)))] [] (0, 0) S := by
    intro d
    induction d with
    | zero =>
      intro l hl h
      have e6 : l = 6 := by omega
      subst e6
      refine Gd.of (ckX6 _ _) tX6_splitOf_ok (cuts := lf 4 3) 30 ?_
      refine eB.t (by decide) ?_
      exact eR.int ⟨rfl, by rw [half_eq h (by omega)]⟩
    | succ d ih =>
      intro l hl h
      have hp : 2 ^ l ≤ 64 := Nat.pow_le_pow_right (n := 2) (by omega) (show l ≤ 6 by omega)
      refine Gd.of (ckX6 _ _) tX6_splitOf_ok (cuts := lf 4 3) 30 ?_
      have e2 : nI (2 ^ l) * 2 = nI (2 ^ (l + 1)) := by rw [show (2 : Int32) = nI 2 from rfl, pk_mul, Nat.pow_succ]
      have hp2 : 2 ^ (l + 1) ≤ 128 := by rw [Nat.pow_succ]; omega
      refine eB.f (by rw [show (7 : Int32) = nI 7 from rfl, nI_leI (by omega) (by omega)]; omega) ?_
      refine eB.i (fun q => ?_) (fun q => ?_)
      · rw [e2, nI_leI (by omega) (by omega)] at q
        exact eR.int ⟨rfl, by rw [half_eq h q]⟩
      · rw [e2, nI_leI (by omega) (by omega)] at q
        have e1 : nI (l + 1) + 1 = nI (l + 1 + 1) := nI_1 _
        have h9 := ih (l + 1) (by omega) (by omega)
        rw [← e2, ← e1] at h9
        exact h9
  refine Gd.of (ckX6 _ _) tX6_splitOf_ok (cuts := lf 4 3) 30 ?_
  exact key 6 0 (by omega) (by omega)
def rtI : mI := miX6 false (some (.object "GossipWatch$Row"))
theorem c_View_rootOf {b e k : Nat} (hG : GOK G) (h : Vw G S w vals cnt) (hs : Sha G S a lm ld) (ha : a + 6 < w ∨ w + 16 < a) (hbe : b ≤ e) (he : e ≤ cnt) (hk : 2 ^ k ∣ b) (hk2 : e - b ≤ 2 ^ k) :
    mCon G yX6_rootOf cX6_rootOf 9 (some (.object "GossipWatch$Row")) (rmD 3) [.ref w, .ref a, .int (nI b), .int (nI e)] S (finK G S a (mth vals b (e - b))) := by
  have h6 := h.2.2.2.1
  refine mCon.of (I := miX6 false (some (.object "GossipWatch$Row"))) (by decide) rfl rfl (fun h => by cases h) (fun _ => rfl) (Nat.le_of_ble_eq_true rfl) ?_
  show Gd _ _ _ _ _ _ _ _ 0 [(0, .ref w), (1, .ref a), (2, .int (nI b)), (3, .int (nI e))] [] (0, 0) _
  have key : ∀ (d l : Nat) (S1 : mS) (ld1 lm1 : List Int32), l + d = 7 → 0 < e - b → fr S S1 (xS a) → Sha G S1 a lm1 ld1 → ((e - b) % 2 ^ l ≠ 0 → ld1 = mth vals (e - (e - b) % 2 ^ l) ((e - b) % 2 ^ l)) →
      Gd G (miX6 false (some (.object "GossipWatch$Row"))) cX6_rootOf 9 (rmD 3) 0 0 (finK G S a (mth vals b (e - b))) 31 [(0, .ref w), (1, .ref a), (2, .int (nI b)), (3, .int (nI e)), (4, .int (nI (e - b))), (5, .int (nI (e - (e - b) % 2 ^ l))), (6, .int (if (e - b) % 2 ^ l = 0 then 0 else 1)), (7, .int (nI l))] [] (0, 0) S1 := by
    intro d
    induction d with
    | zero =>
      intro l S1 ld1 lm1 hl h0 f1 H1 hd
      have e7 : l = 7 := by omega
      subst e7
      refine Gd.of (ckX6 _ _) tX6_rootOf_ok (cuts := lf 31 8) 80 ?_
      refine eB.t (by decide) ?_
      refine eG.i H1.o rfl ?_
      have em : (e - b) % 2 ^ 7 = e - b := Nat.mod_eq_of_lt (by omega)
      rw [em] at hd
      rw [hd (by omega), show e - (e - b) = b by omega] at H1
      exact eR.o (v := a + 3) ⟨rfl, f1, lm1, H1⟩
    | succ d ih =>
      intro l S1 ld1 lm1 hl h0 f1 H1 hd
      have hp := Nat.two_pow_pos l
      have hp2 : 2 ^ l ≤ 64 := Nat.pow_le_pow_right (n := 2) (by omega) (show l ≤ 6 by omega)
      have hms := Nat.mod_pow_succ (x := e - b) (b := 2) (k := l)
      have hml := Nat.mod_lt (e - b) hp
      have hbit := Nat.mod_lt ((e - b) / 2 ^ l) (show 0 < 2 by omega)
      have hmle := Nat.mod_le (e - b) (2 ^ (l + 1))
      have e1 : nI l + 1 = nI (l + 1) := nI_1 l
      have esh : nI (e - b) >>> (nI l &&& 31) &&& 1 = nI ((e - b) / 2 ^ l % 2) := by
        rw [shrN (by omega) (by omega), and1 (by have := Nat.div_le_self (e - b) (2 ^ l); omega)]
      have hV := h.keep f1 (fun z z1 z2 z3 => by omega)
      obtain ⟨v1, ⟨vf, v2, v3⟩, ⟨u, v4, v5⟩, v6, v7⟩ := hV
      refine Gd.of (ckX6 _ _) tX6_rootOf_ok (cuts := lf 31 8) 80 ?_
      refine eB.f (by rw [show (7 : Int32) = nI 7 from rfl, nI_leI (by omega) (by omega)]; omega) ?_
      refine eB.i (fun q => ?_) (fun q => ?_)
      · rw [esh, show (1 : Int32) = nI 1 from rfl, nI_eq (by omega) (by omega)] at q
        rw [q, Nat.mul_one] at hms
        -- the place of the full subtree
        have hlk : l ≤ k := by
          rcases Nat.lt_or_ge k l with z | z
          · have := Nat.pow_lt_pow_right (a := 2) (by omega) z
            omega
          · exact z
        have hdv : 2 ^ l ∣ b := Nat.dvd_trans (Nat.pow_dvd_pow 2 hlk) hk
        have hdv2 : 2 ^ l ∣ e - (e - b) % 2 ^ (l + 1) := by
          have e9 : e - (e - b) % 2 ^ (l + 1) = b + (e - b - (e - b) % 2 ^ (l + 1)) := by omega
          rw [e9]
          refine (Nat.dvd_add_right hdv).mpr ?_
          exact Nat.dvd_trans (Nat.pow_dvd_pow 2 (Nat.le_succ l)) (Nat.dvd_sub_mod _)
        obtain ⟨m, hm⟩ := hdv2
        have est : nI (e - (e - b) % 2 ^ l) - (1 : Int32) <<< (nI l &&& 31) = nI (e - (e - b) % 2 ^ (l + 1)) := by
          rw [shl1 l (by omega), pk_sub (by omega)]
          congr 1
          omega
        have epl : nI (e - (e - b) % 2 ^ (l + 1)) >>> (nI l &&& 31) * 32 = nI (32 * m) := by
          rw [shrN (by omega) (by omega), hm, Nat.mul_div_cancel_left _ hp, show (32 : Int32) = nI 32 from rfl, pk_mul, Nat.mul_comm]
        have hmc : m < cnt / 2 ^ l := by
          have e8 : 2 ^ l * m + 2 ^ l ≤ cnt := by omega
          have e9 : (m + 1) * 2 ^ l ≤ cnt := by rw [Nat.succ_mul, Nat.mul_comm m]; exact e8
          exact (Nat.le_div_iff_mul_le hp).mpr e9
        have hlev := v7 l (by omega)
        have hin : vp_in (nI l) 7 := vp_in_nI (by omega) (by omega)
        have hul : u (nI l).toNatClampNeg = some (w + 3 + 2 * l) := by rw [nI_clamp (by omega)]; exact v5 l (by omega)
        have hst : 2 ^ l * m + 2 ^ l = e - (e - b) % 2 ^ l := by omega
        have back : ∀ (S2 : mS) (ld2 lm2 : List Int32), fr S S2 (xS a) → Sha G S2 a lm2 ld2 → ld2 = mth vals (e - (e - b) % 2 ^ (l + 1)) ((e - b) % 2 ^ (l + 1)) → Gd G (miX6 false (some (.object "GossipWatch$Row"))) cX6_rootOf 9 (rmD 3) 0 0 (finK G S a (mth vals b (e - b))) 31 [(0, .ref w), (1, .ref a), (2, .int (nI b)), (3, .int (nI e)), (4, .int (nI (e - b))), (5, .int (nI (e - (e - b) % 2 ^ l) - (1 : Int32) <<< (nI l &&& 31))), (6, .int 1), (7, .int (nI l + 1))] [] (0, 0) S2 := by
          intro S2 ld2 lm2 f2 H2 hd2
          have h9 := ih (l + 1) S2 ld2 lm2 (by omega) h0 f2 H2 (fun _ => hd2)
          rw [if_neg (by omega), ← e1, ← est] at h9
          exact h9
        by_cases hz : (e - b) % 2 ^ l = 0
        · have hc := c_Row_becomePart (s := 32 * m) (c := 32) H1.d hlev (by omega) (by rw [lev_len]; omega) (by omega)
          rw [← epl, ← est] at hc
          refine eB.t (by rw [if_pos hz]) ?_
          refine eG.i H1.o rfl ?_
          refine eG.i v1 rfl ?_
          refine eLq.r v4 (by decide) hin hul ?_
          refine ⟨rfl, Nat.le_of_ble_eq_true rfl, ?_⟩
          refine eV.i H1.d.obj ?_
          refine eC.z (hc) ⟨rfl, rfl⟩ ⟨Nat.le_of_ble_eq_true rfl, Nat.le_of_ble_eq_true rfl⟩ ⟨Nat.zero_le _, Nat.zero_le _⟩ (fun v S2 hk => ?_)
          obtain ⟨rfl, f2, d2⟩ := hk
          have H2 : Sha G S2 a lm1 (part (lev vals l (cnt / 2 ^ l)) (32 * m) 32) := by
            obtain ⟨y1, y2, y3, ⟨yw, y4⟩, yt, y5⟩ := H1
            exact ⟨y1.fr f2 (by omega), y2.fr f2 (by omega) (by omega), d2, ⟨yw, y4.fr f2 (by omega)⟩, yt, y5.fr f2 (by omega)⟩
          refine back S2 _ lm1 (f1.tr (f2.mono (fun z hz9 => by rcases hz9 with z9 | z9 <;> (constructor <;> omega)))) H2 ?_
          rw [lev_part _ _ hmc, hm, hms, hz, Nat.zero_add, mth_full]
        · have hdl := hd hz
          have hl32 : ld1.length = 32 := by rw [hdl]; exact mth_len _ _ _
          have hc := c_Sha_join (i := 32 * m) (j := 0) hG H1 hlev H1.d (by omega) (by omega) (by rw [lev_len]; omega) (by omega)
          rw [← epl, ← est] at hc
          refine eB.f (by rw [if_neg hz]; decide) ?_
          refine eG.i v1 rfl ?_
          refine eLq.r v4 (by decide) hin hul ?_
          refine eG.i H1.o rfl ?_
          refine ⟨rfl, Nat.le_of_ble_eq_true rfl, ?_⟩
          refine eV.i H1.o ?_
          refine eC.z (hc) ⟨rfl, rfl⟩ ⟨Nat.le_of_ble_eq_true rfl, Nat.le_of_ble_eq_true rfl⟩ ⟨Nat.zero_le _, Nat.zero_le _⟩ (fun v S2 hk => ?_)
          obtain ⟨rfl, f2, lm2, H2⟩ := hk
          refine back S2 _ lm2 (f1.tr f2) H2 ?_
          rw [lev_part _ _ hmc, hm, hms, Nat.add_comm ((e - b) % 2 ^ l), mth_up _ _ _ _ (by omega) (by omega), hst, ← hdl]
          show sha _ = sha _
          congr 2
          unfold part
          rw [List.drop_zero, List.take_of_length_le (by omega)]
      · rw [esh, show (1 : Int32) = nI 1 from rfl, nI_eq (by omega) (by omega)] at q
        have q0 : (e - b) / 2 ^ l % 2 = 0 := by omega
        rw [q0, Nat.mul_zero, Nat.add_zero] at hms
        have h9 := ih (l + 1) S1 ld1 lm1 (by omega) h0 f1 H1 (by rw [hms]; exact hd)
        rw [hms, ← e1] at h9
        exact h9
  have esub : nI e - nI b = nI (e - b) := pk_sub hbe
  refine Gd.of (ckX6 _ _) tX6_rootOf_ok (cuts := lf 31 8) 80 ?_
  refine eB.i (fun q => ?_) (fun q => ?_)
  · rw [esub, show (0 : Int32) = nI 0 from rfl, nI_ltI (by omega) (by omega)] at q
    have h9 := key 7 0 S ld lm (by omega) q fr.rf hs (fun z => absurd (Nat.mod_one _) z)
    rw [Nat.pow_zero, Nat.mod_one, Nat.sub_zero, if_pos rfl, ← esub] at h9
    exact h9
  · rw [esub, show (0 : Int32) = nI 0 from rfl, nI_ltI (by omega) (by omega)] at q
    have e0 : e - b = 0 := by omega
    refine eG.i hs.o rfl ?_
    refine ⟨rfl, Nat.le_of_ble_eq_true rfl, ?_⟩
    refine eV.i hs.m.obj ?_
    refine eC.z (c_Row_empty hs.m) ⟨rfl, rfl⟩ ⟨Nat.le_of_ble_eq_true rfl, Nat.le_of_ble_eq_true rfl⟩ ⟨Nat.zero_le _, Nat.zero_le _⟩ (fun v S1 hk => ?_)
    obtain ⟨rfl, f1, m1⟩ := hk
    have H1 := hs.msg f1 m1
    refine ⟨rfl, Nat.le_of_ble_eq_true rfl, ?_⟩
    refine eV.i H1.o ?_
    refine eC.z (c_Sha_finish hG H1 (by decide)) ⟨rfl, rfl⟩ ⟨Nat.le_of_ble_eq_true rfl, Nat.le_of_ble_eq_true rfl⟩ ⟨Nat.zero_le _, Nat.zero_le _⟩ (fun v S2 hk => ?_)
    obtain ⟨rfl, f2, lm2, H2⟩ := hk
    refine eR.o (v := a + 3) ⟨rfl, (fr_xm f1).tr f2, lm2, ?_⟩
    rw [e0, mth_0]
    exact H2
end ROOT
