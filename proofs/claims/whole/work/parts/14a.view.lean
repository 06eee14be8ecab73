/-! hash trees -/
def lh (x : Int32) : List Int32 := sha ([0] ++ be4 x)
def nh (l r : List Int32) : List Int32 := sha ([1] ++ l ++ r)
def ft (vals : Nat → Int32) : Nat → Nat → List Int32
  | 0, i => lh (vals i)
  | l + 1, i => nh (ft vals l (2 * i)) (ft vals l (2 * i + 1))
def lev (vals : Nat → Int32) (l : Nat) : Nat → List Int32
  | 0 => []
  | n + 1 => lev vals l n ++ ft vals l n
theorem ft_len (vals : Nat → Int32) (l i : Nat) : (ft vals l i).length = 32 := by
  cases l with
  | zero => exact sha_len _
  | succ l => exact sha_len _
theorem lev_len (vals : Nat → Int32) (l n : Nat) : (lev vals l n).length = 32 * n := by
  induction n with
  | zero => rfl
  | succ n ih => rw [lev, List.length_append, ih, ft_len]; omega
theorem lev_part (vals : Nat → Int32) (l : Nat) {i n : Nat} (h : i < n) : part (lev vals l n) (32 * i) 32 = ft vals l i := by
  induction n with
  | zero => omega
  | succ n ih =>
    rw [lev, part]
    by_cases hi : i = n
    · subst hi
      rw [List.drop_append_of_le_length (by rw [lev_len]; exact Nat.le_refl _), List.drop_eq_nil_of_le (by rw [lev_len]; exact Nat.le_refl _), List.nil_append, List.take_of_length_le (by rw [ft_len]; exact Nat.le_refl _)]
    · rw [List.drop_append_of_le_length (by rw [lev_len]; omega), List.take_append_of_le_length (by rw [List.length_drop, lev_len]; omega)]
      exact ih (by omega)
theorem ft_congr {u v : Nat → Int32} {m : Nat} (h : ∀ j, j < m → u j = v j) : ∀ (l i : Nat), (i + 1) * 2 ^ l ≤ m → ft u l i = ft v l i := by
  intro l
  induction l with
  | zero => intro i hi; unfold ft; rw [h i (by omega)]
  | succ l ih =>
    intro i hi
    have e : (i + 1) * 2 ^ (l + 1) = (2 * i + 2) * 2 ^ l := by rw [Nat.pow_succ, ← Nat.mul_assoc, Nat.mul_right_comm]; congr 1; omega
    have e2 : (2 * i + 1 + 1) * 2 ^ l = (2 * i + 1) * 2 ^ l + 2 ^ l := Nat.succ_mul _ _
    have e3 : (2 * i + 2) * 2 ^ l = (2 * i + 1) * 2 ^ l + 2 ^ l := Nat.succ_mul _ _
    have hp := Nat.two_pow_pos l
    unfold ft
    rw [ih (2 * i) (by omega), ih (2 * i + 1) (by omega)]
theorem lev_congr {u v : Nat → Int32} {m l : Nat} (h : ∀ j, j < m → u j = v j) : ∀ (n : Nat), n * 2 ^ l ≤ m → lev u l n = lev v l n := by
  intro n
  induction n with
  | zero => intro _; rfl
  | succ n ih =>
    intro hn
    have e : (n + 1) * 2 ^ l = n * 2 ^ l + 2 ^ l := Nat.succ_mul _ _
    have hp := Nat.two_pow_pos l
    rw [lev, lev, ih (by omega), ft_congr h l n hn]
theorem dv1 {c p : Nat} (hp : 0 < p) (h : (c + 1) % p = 0) : (c + 1) / p = c / p + 1 := by
  have h1 := Nat.div_add_mod (c + 1) p
  generalize hq : (c + 1) / p = q at h1
  rw [h, Nat.add_zero] at h1
  have hq0 : q ≠ 0 := fun z => by rw [z, Nat.mul_zero] at h1; omega
  obtain ⟨k, rfl⟩ : ∃ k, q = k + 1 := ⟨q - 1, by omega⟩
  have e : p * (k + 1) = k * p + p := by rw [Nat.mul_comm, Nat.succ_mul]
  have e2 : (k + 1) * p = k * p + p := Nat.succ_mul _ _
  rw [Nat.div_eq_of_lt_le (k := k) (by omega) (by omega)]
theorem dv0 {c p : Nat} (hp : 0 < p) (h : ¬ (c + 1) % p = 0) : (c + 1) / p = c / p := by
  have h1 := Nat.div_add_mod (c + 1) p
  have h2 := Nat.mod_lt (c + 1) hp
  generalize hq : (c + 1) / p = q at h1
  have e : p * q = q * p := Nat.mul_comm _ _
  have e2 : (q + 1) * p = q * p + p := Nat.succ_mul _ _
  rw [Nat.div_eq_of_lt_le (k := q) (by omega) (by omega)]
theorem shl1 : ∀ l, l < 8 → (1 : Int32) <<< (nI l &&& 31) = nI (2 ^ l) := by decide
theorem eLq.r {G : mG} {S : mS} {a t n b : Nat} {i : Int32} {K : Value → Prop} {f : Nat → Option Nat} (h : mAt G S a (eRf G t n f)) (ht : 2 ≤ t ∧ t < 7) (hi : vp_in i n) (hv : f i.toNatClampNeg = some b) (kk : K (.ref b)) : eLq G S a i K := ⟨t, n, f, ht, h, hi, fun x e => by rw [e, hv]; exact kk⟩
section VIEW
variable {G : mG} {S : mS} {a w cnt : Nat} {vals : Nat → Int32} {lm ld : List Int32}
abbrev xV (w : Nat) : Nat → Prop := fun q => w ≤ q ∧ q ≤ w + 16
def Vw (G : mG) (S : mS) (w : Nat) (vals : Nat → Int32) (cnt : Nat) : Prop := mAt G S w (.inr (6, [.ref (w + 1), .ref (w + 2), .int (nI cnt)])) ∧ (∃ f : Nat → Int32, mAt G S (w + 1) (eIn G 80 f) ∧ ∀ j, j < cnt → f j = vals j) ∧ (∃ f : Nat → Option Nat, mAt G S (w + 2) (eRf G 2 7 f) ∧ ∀ l, l < 7 → f l = some (w + 3 + 2 * l)) ∧ cnt ≤ 80 ∧ ∀ l, l < 7 → Rl G S (w + 3 + 2 * l) (80 / 2 ^ l * 32) (lev vals l (cnt / 2 ^ l))
theorem Vw.keep {S' : mS} {X : Nat → Prop} (h : Vw G S w vals cnt) (f : fr S S' X) (hx : ∀ q, w ≤ q → q ≤ w + 16 → ¬ X q) : Vw G S' w vals cnt := by
  obtain ⟨h1, ⟨g, h2, h3⟩, ⟨u, h4, h5⟩, h6, h7⟩ := h
  exact ⟨h1.fr f (hx _ (by omega) (by omega)), ⟨g, h2.fr f (hx _ (by omega) (by omega)), h3⟩, ⟨u, h4.fr f (hx _ (by omega) (by omega)), h5⟩, h6, fun l hl => (h7 l hl).fr f (hx _ (by omega) (by omega)) (hx _ (by omega) (by omega))⟩
theorem c_View_isFull (h : Vw G S w vals cnt) :
    mCon G yX6_isFull cX6_isFull 1 (some .boolean) (rmD 0) [.ref w] S (fun v S' => S' = S ∧ v = some (.int (if cnt = 80 then 1 else 0))) := by
  obtain ⟨h1, h2, h3, h4, h5⟩ := h
  refine mCon.of (I := miX6 false (some .boolean)) (by decide) rfl rfl (fun h => by cases h) (fun _ => rfl) (Nat.le_of_ble_eq_true rfl) ?_
  show Gd _ _ _ _ _ _ _ _ 0 [(0, .ref w)] [] (0, 0) _
  refine Gd.of (ckX6 _ _) tX6_isFull_ok (cuts := fun _ => none) 20 ?_
  refine eG.i h1 rfl ?_
  refine eB.i (fun q => ?_) (fun q => ?_)
  · rw [show (80 : Int32) = nI 80 from rfl, nI_ltI (by omega) (by omega)] at q
    exact eR.f ⟨rfl, by rw [if_neg (by omega)]⟩
  · rw [show (80 : Int32) = nI 80 from rfl, nI_ltI (by omega) (by omega)] at q
    exact eR.t ⟨rfl, by rw [if_pos (by omega)]⟩
theorem c_View_leafAt {i : Nat} (h : Vw G S w vals cnt) (hi : i < cnt) :
    mCon G yX6_leafAt cX6_leafAt 2 (some .int) (rmD 0) [.ref w, .int (nI i)] S (fun v S' => S' = S ∧ v = some (.int (vals i))) := by
  obtain ⟨h1, ⟨f, h2, h3⟩, h4, h5, h6⟩ := h
  refine mCon.of (I := miX6 false (some .int)) (by decide) rfl rfl (fun h => by cases h) (fun _ => rfl) (Nat.le_of_ble_eq_true rfl) ?_
  show Gd _ _ _ _ _ _ _ _ 0 [(0, .ref w), (1, .int (nI i))] [] (0, 0) _
  refine Gd.of (ckX6 _ _) tX6_leafAt_ok (cuts := fun _ => none) 30 ?_
  refine eB.f (nI_pos (by omega)) ?_
  refine eG.i h1 rfl ?_
  refine eB.f (by rw [nI_leI (by omega) (by omega)]; omega) ?_
  refine eG.i h1 rfl ?_
  refine eL.i (i := nI i) h2 (vp_in_nI (by omega) (by omega)) ?_
  refine eR.int ⟨rfl, ?_⟩
  rw [nI_clamp (by omega), h3 i hi]
theorem c_View_addLeaf {x : Int32} (hG : GOK G) (h : Vw G S w vals cnt) (hs : Sha G S a lm ld) (ha : a + 6 < w ∨ w + 16 < a) (hc : cnt < 80) :
    mCon G yX6_addLeaf cX6_addLeaf 6 none (rmD 3) [.ref w, .ref a, .int x] S (fun v S' => v = none ∧ fr S S' (fun q => xS a q ∨ xV w q) ∧ (∃ lm' ld', Sha G S' a lm' ld') ∧ Vw G S' w (upd vals cnt x) (cnt + 1)) := by
  obtain ⟨h1, ⟨f, h2, h3⟩, ⟨u, h4, h5⟩, h6, h7⟩ := h
  refine mCon.of (I := miX6 false none) (by decide) rfl rfl (fun h => by cases h) (fun _ => rfl) (Nat.le_of_ble_eq_true rfl) ?_
  show Gd _ _ _ _ _ _ _ _ 0 [(0, .ref w), (1, .ref a), (2, .int x)] [] (0, 0) _
  -- the loop over the levels
  have key : ∀ (d l : Nat) (S1 : mS), l + d = 7 → 1 ≤ l → fr S S1 (fun q => xS a q ∨ xV w q) → (∃ lm' ld', Sha G S1 a lm' ld') → mAt G S1 w (.inr (6, [.ref (w + 1), .ref (w + 2), .int (nI (cnt + 1))])) → (∃ f : Nat → Int32, mAt G S1 (w + 1) (eIn G 80 f) ∧ ∀ j, j < cnt + 1 → f j = upd vals cnt x j) → mAt G S1 (w + 2) (eRf G 2 7 u) → (∀ j, j < 7 → Rl G S1 (w + 3 + 2 * j) (80 / 2 ^ j * 32) (lev (upd vals cnt x) j (if j < l then (cnt + 1) / 2 ^ j else cnt / 2 ^ j))) → (cnt + 1) % 2 ^ (l - 1) = 0 →
      Gd G (miX6 false none) cX6_addLeaf 6 (rmD 3) 0 0 (fun v S' => v = none ∧ fr S S' (fun q => xS a q ∨ xV w q) ∧ (∃ lm' ld', Sha G S' a lm' ld') ∧ Vw G S' w (upd vals cnt x) (cnt + 1)) 71 [(0, .ref w), (1, .ref a), (2, .int x), (3, .int (nI l))] [] (0, 0) S1 := by
    intro d
    induction d with
    | zero =>
      intro l S1 hl hl1 f1 gs g1 g2 g3 g4 gm
      refine Gd.of (ckX6 _ _) tX6_addLeaf_ok (cuts := lf 71 4) 80 ?_
      refine eB.t (by rw [show (7 : Int32) = nI 7 from rfl, nI_leI (by omega) (by omega)]; omega) ?_
      refine eR.v ⟨rfl, f1, gs, g1, g2, ⟨u, g3, h5⟩, by omega, fun j hj => ?_⟩
      have := g4 j hj
      rw [if_pos (by omega)] at this
      exact this
    | succ d ih =>
      intro l S1 hl hl1 f1 gs g1 g2 g3 g4 gm
      have hp : 0 < 2 ^ l := Nat.two_pow_pos l
      have hp2 : 2 ^ l ≤ 64 := by
        have := Nat.pow_le_pow_right (n := 2) (by omega) (show l ≤ 6 by omega)
        omega
      have erem : nI (cnt + 1) - nI (cnt + 1) / ((1 : Int32) <<< (nI l &&& 31)) * ((1 : Int32) <<< (nI l &&& 31)) = nI ((cnt + 1) % 2 ^ l) := by
        rw [shl1 l (by omega), pk_rem (by omega) hp (by omega)]
      refine Gd.of (ckX6 _ _) tX6_addLeaf_ok (cuts := lf 71 4) 80 ?_
      refine eB.f (by rw [show (7 : Int32) = nI 7 from rfl, nI_leI (by omega) (by omega)]; omega) ?_
      refine eG.i g1 rfl ?_
      refine eZ.i (by rw [shl1 l (by omega)]; exact nI_ne0 hp (by omega)) ?_
      refine eB.i (fun q => ?_) (fun q => ?_)
      · rw [erem, show (0 : Int32) = nI 0 from rfl, nI_eq (by have := Nat.mod_lt (cnt + 1) hp; omega) (by omega)] at q
        obtain ⟨lm1, ld1, H1⟩ := gs
        have el1 : nI l - 1 = nI (l - 1) := by rw [show (1 : Int32) = nI 1 from rfl, pk_sub (by omega)]
        have g4b := g4 (l - 1) (by omega)
        rw [if_pos (by omega)] at g4b
        obtain ⟨k, rfl⟩ : ∃ k, l = k + 1 := ⟨l - 1, by omega⟩
        rw [Nat.add_sub_cancel] at g4b el1 gm
        have hm := Nat.div_add_mod (cnt + 1) (2 ^ (k + 1))
        rw [q, Nat.add_zero] at hm
        have d1 := dv1 hp q
        generalize hm2 : cnt / 2 ^ (k + 1) = m at d1
        rw [d1] at hm
        have d2 : (cnt + 1) / 2 ^ k = 2 * (m + 1) := by
          rw [← hm, Nat.pow_succ, Nat.mul_assoc]
          exact Nat.mul_div_cancel_left _ (Nat.two_pow_pos k)
        rw [d2] at g4b
        have hle : 2 * (m + 1) ≤ 80 := by
          rw [← d2]
          exact Nat.le_trans (Nat.div_le_self _ _) (by omega)
        have elen : (lev (upd vals cnt x) k (2 * (m + 1))).length = 64 * m + 64 := by rw [lev_len]; omega
        have e64 : nI (lev (upd vals cnt x) k (2 * (m + 1))).length - 64 = nI (32 * (2 * m)) := by
          rw [elen, show (64 : Int32) = nI 64 from rfl, pk_sub (by omega)]
          congr 1
          omega
        have e32 : nI (lev (upd vals cnt x) k (2 * (m + 1))).length - 32 = nI (32 * (2 * m + 1)) := by
          rw [elen, show (32 : Int32) = nI 32 from rfl, pk_sub (by omega)]
          congr 1
          omega
        refine eG.i g1 rfl ?_
        refine eLq.r (i := nI (k + 1) - 1) (b := w + 3 + 2 * k) g3 (by decide) (by rw [el1]; exact vp_in_nI (by omega) (by omega)) (by rw [el1, nI_clamp (by omega)]; exact h5 k (by omega)) ?_
        refine eG.i g4b.obj rfl ?_
        refine eG.i g4b.obj rfl ?_
        have hcj := c_Sha_join (i := 32 * (2 * m)) (j := 32 * (2 * m + 1)) hG H1 g4b g4b (by omega) (by omega) (by rw [elen]; omega) (by rw [elen]; omega)
        rw [← e64, ← e32] at hcj
        refine ⟨rfl, Nat.le_of_ble_eq_true rfl, ?_⟩
        refine eV.i H1.o ?_
        refine eC.z (hcj) ⟨rfl, rfl⟩ ⟨Nat.le_of_ble_eq_true rfl, Nat.le_of_ble_eq_true rfl⟩ ⟨Nat.zero_le _, Nat.zero_le _⟩ (fun v S2 hk => ?_)
        obtain ⟨rfl, f2, lm2, H2⟩ := hk
        have hx2 : ∀ z, w ≤ z → z ≤ w + 16 → ¬ xS a z := fun z z1 z2 z3 => by omega
        have eft : sha ([1] ++ part (lev (upd vals cnt x) k (2 * (m + 1))) (32 * (2 * m)) 32 ++ part (lev (upd vals cnt x) k (2 * (m + 1))) (32 * (2 * m + 1)) 32) = ft (upd vals cnt x) (k + 1) m := by
          rw [lev_part _ _ (by omega), lev_part _ _ (by omega)]
          rfl
        rw [eft] at H2
        refine eG.i (g1.fr f2 (by omega)) rfl ?_
        refine eLq.r (i := nI (k + 1)) (b := w + 3 + 2 * (k + 1)) (g3.fr f2 (by omega)) (by decide) (vp_in_nI (by omega) (by omega)) (by rw [nI_clamp (by omega)]; exact h5 (k + 1) (by omega)) ?_
        have g4c := g4 (k + 1) (by omega)
        rw [if_neg (by omega), hm2] at g4c
        have g4d := g4c.fr f2 (by omega) (by omega)
        have hcap : m + 1 ≤ 80 / 2 ^ (k + 1) := by
          rw [← d1]
          exact Nat.div_le_div_right (by omega)
        refine ⟨rfl, Nat.le_of_ble_eq_true rfl, ?_⟩
        refine eV.i g4d.obj ?_
        refine eC.z (c_Row_addPart (s := 0) (c := 32) g4d H2.d (by omega) (by rw [ft_len]; omega) (by rw [lev_len]; omega)) ⟨rfl, rfl⟩ ⟨Nat.le_of_ble_eq_true rfl, Nat.le_of_ble_eq_true rfl⟩ ⟨Nat.zero_le _, Nat.zero_le _⟩ (fun v S3 hk => ?_)
        obtain ⟨rfl, f3, g5⟩ := hk
        have epart : lev (upd vals cnt x) (k + 1) m ++ ((ft (upd vals cnt x) (k + 1) m).drop 0).take 32 = lev (upd vals cnt x) (k + 1) (m + 1) := by
          rw [List.drop_zero, List.take_of_length_le (by rw [ft_len]; exact Nat.le_refl _)]
          rfl
        rw [epart] at g5
        have f23 : fr S1 S3 (fun q => xS a q ∨ xR (w + 3 + 2 * (k + 1)) q) := (f2.mono (fun q h => Or.inl h)).tr (f3.mono (fun q h => Or.inr h))
        have e1 : nI (k + 1) + 1 = nI (k + 1 + 1) := nI_1 _
        have h9 := ih (k + 1 + 1) S3 (by omega) (by omega) (f1.tr (f23.mono (fun q h => by
          rcases h with h | h | h
          · exact Or.inl h
          · exact Or.inr ⟨by omega, by omega⟩
          · exact Or.inr ⟨by omega, by omega⟩))) ⟨lm2, _, H2.keep f3 (fun z z1 z2 z3 => by rcases z3 with z3 | z3 <;> omega)⟩ ((g1.fr f2 (by omega)).fr f3 (by omega)) (by
          obtain ⟨f9, g21, g22⟩ := g2
          exact ⟨f9, (g21.fr f2 (by omega)).fr f3 (by omega), g22⟩) ((g3.fr f2 (by omega)).fr f3 (by omega)) (fun j hj => by
          by_cases hjk : j = k + 1
          · subst hjk
            rw [if_pos (by omega), d1]
            exact g5
          · have g6 := (g4 j hj).fr f2 (by omega) (by omega)
            have g7 := g6.fr f3 (by omega) (by omega)
            by_cases hlt : j < k + 1
            · rw [if_pos hlt] at g7
              rw [if_pos (by omega)]
              exact g7
            · rw [if_neg hlt] at g7
              rw [if_neg (by omega)]
              exact g7) (by rw [Nat.add_sub_cancel]; exact q)
        rw [← e1] at h9
        exact h9
      · rw [erem, show (0 : Int32) = nI 0 from rfl, nI_eq (by have := Nat.mod_lt (cnt + 1) hp; omega) (by omega)] at q
        refine eR.v ⟨rfl, f1, gs, g1, g2, ⟨u, g3, h5⟩, by omega, fun j hj => ?_⟩
        have g5 := g4 j hj
        by_cases hlt : j < l
        · rw [if_pos hlt] at g5
          exact g5
        · rw [if_neg hlt] at g5
          rw [dv0 (c := cnt) (Nat.two_pow_pos j) (fun z => q ?_)]
          · exact g5
          · have hd : 2 ^ l ∣ 2 ^ j := Nat.pow_dvd_pow 2 (by omega)
            exact Nat.mod_eq_zero_of_dvd (Nat.dvd_trans hd (Nat.dvd_of_mod_eq_zero z))
  refine Gd.of (ckX6 _ _) tX6_addLeaf_ok (cuts := lf 71 4) 80 ?_
  refine eG.i h1 rfl ?_
  refine eB.t (by rw [show (80 : Int32) = nI 80 from rfl, nI_ltI (by omega) (by omega)]; omega) ?_
  refine eG.i h1 rfl ?_
  refine eG.i h1 rfl ?_
  refine eS.i (i := nI cnt) h2 (vp_in_nI (by omega) (by omega)) ?_
  refine eG.i (h1.ne (by omega)) rfl ?_
  refine ⟨Or.inl rfl, ?_⟩
  refine eP.i (h1.ne (by omega)) (Nat.le_of_ble_eq_true rfl) rfl rfl ?_
  have q1 : mAt G (mUp (mUp S (w + 1) (eIn G 80 (upd f (nI cnt).toNatClampNeg x))) w (.inr (6, List.set [.ref (w + 1), .ref (w + 2), .int (nI cnt)] 2 (.int (nI cnt + 1))))) w (.inr (6, [.ref (w + 1), .ref (w + 2), .int (nI (cnt + 1))])) := by
    rw [← nI_1]
    exact (h1.ne (by omega)).up
  have q2 : mAt G (mUp (mUp S (w + 1) (eIn G 80 (upd f (nI cnt).toNatClampNeg x))) w (.inr (6, List.set [.ref (w + 1), .ref (w + 2), .int (nI cnt)] 2 (.int (nI cnt + 1))))) (w + 1) (eIn G 80 (upd f cnt x)) := by
    have := (h2.up (e' := eIn G 80 (upd f cnt x))).ne (b := w) (e' := .inr (6, List.set [.ref (w + 1), .ref (w + 2), .int (nI cnt)] 2 (.int (nI cnt + 1)))) (by omega)
    rw [nI_clamp (by omega)]
    exact this
  have f0 : fr S (mUp (mUp S (w + 1) (eIn G 80 (upd f (nI cnt).toNatClampNeg x))) w (.inr (6, List.set [.ref (w + 1), .ref (w + 2), .int (nI cnt)] 2 (.int (nI cnt + 1))))) (fun q => q = w ∨ q = w + 1) := (fr.up (Or.inr rfl)).tr (fr.up (Or.inl rfl))
  generalize (mUp (mUp S (w + 1) (eIn G 80 (upd f (nI cnt).toNatClampNeg x))) w (.inr (6, List.set [.ref (w + 1), .ref (w + 2), .int (nI cnt)] 2 (.int (nI cnt + 1))))) = T at q1 q2 f0 ⊢
  have H0 := hs.keep f0 (fun z z1 z2 z3 => by omega)
  have q3 := h4.fr f0 (by omega)
  refine eG.i H0.o rfl ?_
  refine ⟨rfl, Nat.le_of_ble_eq_true rfl, ?_⟩
  refine eV.i H0.m.obj ?_
  refine eC.z (c_Row_empty H0.m) ⟨rfl, rfl⟩ ⟨Nat.le_of_ble_eq_true rfl, Nat.le_of_ble_eq_true rfl⟩ ⟨Nat.zero_le _, Nat.zero_le _⟩ (fun v S1 hk => ?_)
  obtain ⟨rfl, f1, m1⟩ := hk
  have H1 := H0.msg f1 m1
  refine eG.i H1.o rfl ?_
  refine ⟨rfl, Nat.le_of_ble_eq_true rfl, ?_⟩
  refine eV.i m1.obj ?_
  refine eC.z (c_Row_add m1 (by decide)) ⟨rfl, rfl⟩ ⟨Nat.le_of_ble_eq_true rfl, Nat.le_of_ble_eq_true rfl⟩ ⟨Nat.zero_le _, Nat.zero_le _⟩ (fun v S2 hk => ?_)
  obtain ⟨rfl, f2, m2⟩ := hk
  have H2 := H1.msg f2 m2
  refine eG.i H2.o rfl ?_
  refine ⟨rfl, Nat.le_of_ble_eq_true rfl, ?_⟩
  refine eV.i m2.obj ?_
  refine eC.z (c_Row_addNumber m2 (by decide)) ⟨rfl, rfl⟩ ⟨Nat.le_of_ble_eq_true rfl, Nat.le_of_ble_eq_true rfl⟩ ⟨Nat.zero_le _, Nat.zero_le _⟩ (fun v S3 hk => ?_)
  obtain ⟨rfl, f3, m3⟩ := hk
  have H3 := H2.msg f3 m3
  have f13 := fr_xm ((f1.tr f2).tr f3)
  refine eG.i (q1.fr f13 (by omega)) rfl ?_
  refine eLq.r (i := 0) (b := w + 3) (q3.fr f13 (by omega)) (by decide) (vp_in_iff.mpr (by decide)) (h5 0 (by omega)) ?_
  refine ⟨rfl, Nat.le_of_ble_eq_true rfl, ?_⟩
  refine eV.i H3.o ?_
  refine eC.z (c_Sha_finish hG H3 (Nat.le_of_ble_eq_true rfl)) ⟨rfl, rfl⟩ ⟨Nat.le_of_ble_eq_true rfl, Nat.le_of_ble_eq_true rfl⟩ ⟨Nat.zero_le _, Nat.zero_le _⟩ (fun v S4 hk => ?_)
  obtain ⟨rfl, f4, lm4, H4⟩ := hk
  have f14 := f13.tr f4
  have g0 := ((h7 0 (by omega)).fr f0 (by omega) (by omega)).fr f14 (by omega) (by omega)
  rw [show w + 3 + 2 * 0 = w + 3 by omega] at g0
  refine ⟨rfl, Nat.le_of_ble_eq_true rfl, ?_⟩
  refine eV.i g0.obj ?_
  refine eC.z (c_Row_addPart (s := 0) (c := 32) g0 H4.d (by omega) (by rw [sha_len]; omega) (by rw [lev_len]; simp; omega)) ⟨rfl, rfl⟩ ⟨Nat.le_of_ble_eq_true rfl, Nat.le_of_ble_eq_true rfl⟩ ⟨Nat.zero_le _, Nat.zero_le _⟩ (fun v S5 hk => ?_)
  obtain ⟨rfl, f5, g5⟩ := hk
  have e0 : lev vals 0 (cnt / 2 ^ 0) ++ ((sha ([] ++ [(0 : Int32).toInt8.toInt32] ++ be4 x)).drop 0).take 32 = lev (upd vals cnt x) 0 (cnt + 1) := by
    rw [List.drop_zero, List.take_of_length_le (by rw [sha_len]; exact Nat.le_refl _), Nat.pow_zero, Nat.div_one, lev]
    congr 1
    · exact lev_congr (m := cnt) (fun j hj => (pk_un (by omega)).symm) cnt (by simp)
    · show _ = lh (upd vals cnt x cnt)
      rw [pk_us]
      rfl
  have g6 : Rl G S5 (w + 3) (80 / 2 ^ 0 * 32) (lev (upd vals cnt x) 0 (cnt + 1)) := by
    rw [← e0]
    exact g5
  refine key 6 1 S5 (by omega) (by omega) ((f0.mono (fun q h => Or.inr (by rcases h with h | h <;> (constructor <;> omega)))).tr ((f14.mono (fun q h => Or.inl h)).tr (f5.mono (fun q h => Or.inr (by rcases h with h | h <;> (constructor <;> omega)))))) ⟨lm4, _, H4.keep f5 (fun z z1 z2 z3 => by rcases z3 with z3 | z3 <;> omega)⟩ ((q1.fr f14 (by omega)).fr f5 (by omega)) ⟨upd f cnt x, (q2.fr f14 (by omega)).fr f5 (by omega), fun j hj => ?_⟩ ((q3.fr f14 (by omega)).fr f5 (by omega)) (fun j hj => ?_) (Nat.mod_one _)
  · by_cases hq : j = cnt
    · subst hq; rw [pk_us, pk_us]
    · rw [pk_un hq, pk_un hq]; exact h3 j (by omega)
  · by_cases hj0 : j = 0
    · subst hj0
      rw [if_pos (by omega), Nat.pow_zero, Nat.div_one, Nat.div_one]
      exact g6
    · rw [if_neg (by omega), ← lev_congr (u := vals) (m := cnt) (fun j hj => (pk_un (by omega)).symm) (cnt / 2 ^ j) (Nat.div_mul_le_self _ _)]
      exact (((h7 j hj).fr f0 (by omega) (by omega)).fr f14 (by omega) (by omega)).fr f5 (by omega) (by omega)
end VIEW
