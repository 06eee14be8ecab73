/-! records -/
theorem fr.up1 {S : mS} {a : Nat} {e : va_E} : fr S (mUp S a e) (fun q => q = a) := fr.up (X := fun q => q = a) rfl
abbrev q4 : Type := Int32 × Int32 × Int32 × Int32
def rput (rF : Nat → Nat → Int32) (n : Nat) (q : q4) : Nat → Nat → Int32 := fun i => if i = n then upd (upd (upd (upd (rF n) 0 q.1) 1 q.2.1) 2 q.2.2.1) 3 q.2.2.2 else rF i
def rputs : (Nat → Nat → Int32) → Nat → List q4 → Nat → Nat → Int32
  | rF, _, [] => rF
  | rF, n, q :: r => rputs (rput rF n q) (n + 1) r
theorem rputs_app : ∀ (A B : List q4) (rF : Nat → Nat → Int32) (n : Nat), rputs rF n (A ++ B) = rputs (rputs rF n A) (n + A.length) B := by
  intro A
  induction A with
  | nil => intro B rF n; rfl
  | cons q A ih =>
    intro B rF n
    show rputs (rput rF n q) (n + 1) (A ++ B) = rputs (rputs (rput rF n q) (n + 1) A) (n + (A.length + 1)) B
    rw [ih, show n + 1 + A.length = n + (A.length + 1) by omega]
theorem rputs_lt : ∀ (A : List q4) (rF : Nat → Nat → Int32) (n i : Nat), i < n → rputs rF n A i = rF i := by
  intro A
  induction A with
  | nil => intro rF n i _; rfl
  | cons q A ih =>
    intro rF n i hi
    show rputs (rput rF n q) (n + 1) A i = rF i
    rw [ih _ _ _ (by omega), rput, if_neg (by omega)]
noncomputable def recL (P : Nat → Prop) (R : Nat → q4) : Nat → Nat → List q4
  | 0, _ => []
  | d + 1, i => @ite _ (P i) (Classical.propDecidable _) [R i] [] ++ recL P R d (i + 1)
theorem recL_t {P : Nat → Prop} {R : Nat → q4} {d i : Nat} (h : P i) : recL P R (d + 1) i = [R i] ++ recL P R d (i + 1) := by
  rw [recL, if_pos h]
theorem recL_f {P : Nat → Prop} {R : Nat → q4} {d i : Nat} (h : ¬ P i) : recL P R (d + 1) i = recL P R d (i + 1) := by
  rw [recL, if_neg h, List.nil_append]
/-- a HEAD that belies a PROOF: its LOG and m, another ROOT -/
def bel (h p : List Int32) : Prop := same h 0 p 0 5 ∧ ¬ same h 5 p 9 32
section MONB
variable {G : mG} {S : mS} {m hn fn rn r capr : Nat} {nr nc : Int32} {hF pF : Nat → List Int32} {fH : Nat → Int32} {rF : Nat → Nat → Int32} {row : List Int32}
theorem c_Mon_belies {a b ca cb : Nat} {la lb : List Int32} (h1 : Rl G S a ca la) (h2 : Rl G S b cb lb) :
    mCon G yX3_belies cX3_belies 2 (some .boolean) (rmD 2) [.ref a, .ref b] S (fun v S' => S' = S ∧ v = some (.int (pI (bel la lb)))) := by
  refine mCon.of (I := miX3 false (some .boolean)) (by decide) rfl rfl (fun h => by cases h) (fun _ => rfl) (Nat.le_of_ble_eq_true rfl) ?_
  show Gd _ _ _ _ _ _ _ _ 0 [(0, .ref a), (1, .ref b)] [] (0, 0) _
  refine Gd.of (ckX3 _ _) tX3_belies_ok (cuts := fun _ => none) 40 ?_
  refine ⟨rfl, Nat.le_of_ble_eq_true rfl, ?_⟩
  refine eV.i h1.obj ?_
  refine eC.z (c_Row_sameAs (i := 0) (j := 0) (n := 5) h1 h2 (by omega) (by omega)) ⟨rfl, rfl⟩ ⟨Nat.le_of_ble_eq_true rfl, Nat.le_of_ble_eq_true rfl⟩ ⟨Nat.zero_le _, Nat.zero_le _⟩ (fun v S1 hk => ?_)
  obtain ⟨rfl, rfl⟩ := hk
  rw [sameI_eq]
  by_cases q : same la 0 lb 0 5
  · rw [pI_t q]
    refine eB.f (by decide) ?_
    refine ⟨rfl, Nat.le_of_ble_eq_true rfl, ?_⟩
    refine eV.i h1.obj ?_
    refine eC.z (c_Row_sameAs (i := 5) (j := 9) (n := 32) h1 h2 (by omega) (by omega)) ⟨rfl, rfl⟩ ⟨Nat.le_of_ble_eq_true rfl, Nat.le_of_ble_eq_true rfl⟩ ⟨Nat.zero_le _, Nat.zero_le _⟩ (fun v S1 hk => ?_)
    obtain ⟨rfl, rfl⟩ := hk
    rw [sameI_eq]
    by_cases q2 : same la 5 lb 9 32
    · rw [pI_t q2]
      refine eB.f (by decide) ?_
      exact eR.f ⟨rfl, by rw [pI_f (fun z => z.2 q2)]⟩
    · rw [pI_f q2]
      refine eB.t rfl ?_
      exact eR.t ⟨rfl, by rw [pI_t (show bel la lb from ⟨q, q2⟩)]⟩
  · rw [pI_f q]
    refine eB.t rfl ?_
    exact eR.f ⟨rfl, by rw [pI_f (fun z => q z.1)]⟩
def mRaise (G : mG) (S : mS) (m hn fn rn : Nat) (nr nc : Int32) (hF pF : Nat → List Int32) (fH : Nat → Int32) (rF : Nat → Nat → Int32) (L : List q4) : Option Value → mS → Prop := fun v S' => fr S S' (xM m) ∧ ((rn + L.length ≤ 20 ∧ v = some (.int 1) ∧ Mn G S' m hn fn (rn + L.length) nr nc hF pF fH (rputs rF rn L)) ∨ (20 < rn + L.length ∧ v = some (.int 0) ∧ ∃ rn' rF', (∀ i, i < rn → rF' i = rF i) ∧ Mn G S' m hn fn rn' nr nc hF pF fH rF'))
theorem c_Mon_raise {k f o x : Int32} (h : Mn G S m hn fn rn nr nc hF pF fH rF) :
    mCon G yX3_raise cX3_raise 6 (some .boolean) (rmD 0) [.ref m, .int k, .int f, .int o, .int x] S (mRaise G S m hn fn rn nr nc hF pF fH rF [(k, f, o, x)]) := by
  have hb := h.2.2.2.2.2.2.2.2
  obtain ⟨u, h5, h5'⟩ := h.2.2.2.2.1
  have h6 := h.2.2.2.2.2.1
  refine mCon.of (I := miX3 false (some .boolean)) (by decide) rfl rfl (fun h => by cases h) (fun _ => rfl) (Nat.le_of_ble_eq_true rfl) ?_
  show Gd _ _ _ _ _ _ _ _ 0 [(0, .ref m), (1, .int k), (2, .int f), (3, .int o), (4, .int x)] [] (0, 0) _
  refine Gd.of (ckX3 _ _) tX3_raise_ok (cuts := fun _ => none) 60 ?_
  refine eG.i h.1 rfl ?_
  refine eB.i (fun q => ?_) (fun q => ?_)
  · rw [show (20 : Int32) = nI 20 from rfl, nI_ltI (by omega) (by omega)] at q
    refine eG.i h.1 rfl ?_
    refine eG.i h.1 rfl ?_
    refine eLq.r (i := nI rn) (b := m + 5 + rn) h5 (by decide) (vp_in_nI (by omega) (by omega)) (by rw [nI_clamp (by omega)]; exact h5' rn (by omega)) ?_
    have g := h6 rn (by omega)
    refine eS.i (i := 0) g (vp_in_iff.mpr (by decide)) ?_
    refine eS.i (i := 1) g.up (vp_in_iff.mpr (by decide)) ?_
    refine eS.i (i := 2) g.up.up (vp_in_iff.mpr (by decide)) ?_
    refine eS.i (i := 3) g.up.up.up (vp_in_iff.mpr (by decide)) ?_
    have g4 : mAt G (mUp (mUp (mUp (mUp S (m + 5 + rn) (eIn G 4 (upd (rF rn) 0 k))) (m + 5 + rn) (eIn G 4 (upd (upd (rF rn) 0 k) 1 f))) (m + 5 + rn) (eIn G 4 (upd (upd (upd (rF rn) 0 k) 1 f) 2 o))) (m + 5 + rn) (eIn G 4 (upd (upd (upd (upd (rF rn) 0 k) 1 f) 2 o) 3 x))) (m + 5 + rn) (eIn G 4 (upd (upd (upd (upd (rF rn) 0 k) 1 f) 2 o) 3 x)) := g.up.up.up.up
    have f4 : fr S (mUp (mUp (mUp (mUp S (m + 5 + rn) (eIn G 4 (upd (rF rn) 0 k))) (m + 5 + rn) (eIn G 4 (upd (upd (rF rn) 0 k) 1 f))) (m + 5 + rn) (eIn G 4 (upd (upd (upd (rF rn) 0 k) 1 f) 2 o))) (m + 5 + rn) (eIn G 4 (upd (upd (upd (upd (rF rn) 0 k) 1 f) 2 o) 3 x))) (fun q => q = m + 5 + rn) := ((fr.up1.tr fr.up1).tr fr.up1).tr fr.up1
    have h14 := h.1.fr f4 (by omega)
    refine eG.i h14 rfl ?_
    refine ⟨Or.inl rfl, ?_⟩
    refine eP.i h14 (Nat.le_of_ble_eq_true rfl) rfl rfl ?_
    refine eR.t ?_
    have f5 : fr S (mUp (mUp (mUp (mUp (mUp S (m + 5 + rn) (eIn G 4 (upd (rF rn) 0 k))) (m + 5 + rn) (eIn G 4 (upd (upd (rF rn) 0 k) 1 f))) (m + 5 + rn) (eIn G 4 (upd (upd (upd (rF rn) 0 k) 1 f) 2 o))) (m + 5 + rn) (eIn G 4 (upd (upd (upd (upd (rF rn) 0 k) 1 f) 2 o) 3 x))) m (moL m hn fn (rn + 1) nr nc)) (fun q => q = m ∨ q = m + 5 + rn) := (f4.mono (fun q z => Or.inr z)).tr (fr.up (Or.inl rfl))
    have ho : mAt G (mUp (mUp (mUp (mUp (mUp S (m + 5 + rn) (eIn G 4 (upd (rF rn) 0 k))) (m + 5 + rn) (eIn G 4 (upd (upd (rF rn) 0 k) 1 f))) (m + 5 + rn) (eIn G 4 (upd (upd (upd (rF rn) 0 k) 1 f) 2 o))) (m + 5 + rn) (eIn G 4 (upd (upd (upd (upd (rF rn) 0 k) 1 f) 2 o) 3 x))) m (moL m hn fn (rn + 1) nr nc)) m (moL m hn fn (rn + 1) nr nc) := h14.up
    have hg := g4.ne (b := m) (e' := moL m hn fn (rn + 1) nr nc) (by omega)
    have key : mRaise G S m hn fn rn nr nc hF pF fH rF [(k, f, o, x)] (some (.int 1)) (mUp (mUp (mUp (mUp (mUp S (m + 5 + rn) (eIn G 4 (upd (rF rn) 0 k))) (m + 5 + rn) (eIn G 4 (upd (upd (rF rn) 0 k) 1 f))) (m + 5 + rn) (eIn G 4 (upd (upd (upd (rF rn) 0 k) 1 f) 2 o))) (m + 5 + rn) (eIn G 4 (upd (upd (upd (upd (rF rn) 0 k) 1 f) 2 o) 3 x))) m (moL m hn fn (rn + 1) nr nc)) := by
      refine ⟨f5.mono (fun q z => by rcases z with z | z <;> (constructor <;> omega)), Or.inl ⟨by show rn + 1 ≤ 20; omega, rfl, ?_⟩⟩
      obtain ⟨h1, ⟨a, h2, h2'⟩, ⟨b, h3, h3'⟩, h4, ⟨d, q5, q5'⟩, q6, h7, h8, h9⟩ := h
      refine ⟨ho, ⟨a, h2.fr f5 (by omega), h2'⟩, ⟨b, h3.fr f5 (by omega), h3'⟩, h4.fr f5 (by omega), ⟨d, q5.fr f5 (by omega), q5'⟩, fun i hi => ?_, fun i hi => (h7 i hi).fr f5 (by omega) (by omega), fun i hi => (h8 i hi).fr f5 (by omega) (by omega), hb.1, hb.2.1, by show rn + 1 ≤ 20; omega⟩
      show mAt G _ (m + 5 + i) (eIn G 4 (rput rF rn (k, f, o, x) i))
      unfold rput
      by_cases hq : i = rn
      · subst hq
        rw [if_pos rfl]
        exact hg
      · rw [if_neg hq]
        exact (q6 i hi).fr f5 (by omega)
    rw [show moL m hn fn (rn + 1) nr nc = .inr (3, [.ref (m + 1), .ref (m + 2), .ref (m + 3), .ref (m + 4), .int (nI hn), .int (nI fn), .int (nI rn + 1), .int nr, .int nc]) by rw [nI_1]] at key
    exact key
  · rw [show (20 : Int32) = nI 20 from rfl, nI_ltI (by omega) (by omega)] at q
    exact eR.f ⟨fr.rf, Or.inr ⟨by show 20 < rn + 1; omega, rfl, rn, rF, fun _ _ => rfl, h⟩⟩
end MONB
