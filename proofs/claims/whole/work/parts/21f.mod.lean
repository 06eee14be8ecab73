/-! what a monitor takes keeps what holds of it -/
section OKM
variable {K : List Int32} {hn fn : Nat} {o : Mo}
def okQ (hn fn : Nat) (q : q4) : Prop := ∃ f o, f < hn ∧ o < hn ∧ q.2.1 = nI f ∧ q.2.2.1 = nI o ∧ ((q.1 = 1 ∧ q.2.2.2 = -1) ∨ (q.1 = 2 ∧ ∃ y, y < fn ∧ q.2.2.2 = nI y))
theorem rputs_okR : ∀ (L : List q4) (rF : Nat → Nat → Int32) (n : Nat), (∀ i, i < n → okR hn fn (rF i)) → (∀ q, q ∈ L → okQ hn fn q) → ∀ i, i < n + L.length → okR hn fn (rputs rF n L i) := by
  intro L
  induction L with
  | nil => intro rF n h _ i hi; exact h i hi
  | cons q L ih =>
    intro rF n h g i hi
    refine ih (rput rF n q) (n + 1) (fun j hj => ?_) (fun p hp => g p (List.mem_cons_of_mem _ hp)) i (by rw [List.length_cons] at hi; omega)
    by_cases e : j = n
    · rw [e]
      obtain ⟨f, o, h1, h2, h3, h4, h5⟩ := g q List.mem_cons_self
      obtain ⟨r0, r1, r2, r3⟩ := rput_s (rF := rF) (n := n) (q := q)
      exact ⟨f, o, h1, h2, r1.trans h3, r2.trans h4, by rw [r0, r3]; exact h5⟩
    · rw [rput_n e]
      exact h j (by omega)
theorem recL_mem {P : Nat → Prop} {R : Nat → q4} : ∀ (d i : Nat) (q : q4), q ∈ recL P R d i → ∃ k, i ≤ k ∧ k < i + d ∧ P k ∧ q = R k := by
  intro d
  induction d with
  | zero => intro i q h; cases h
  | succ d ih =>
    intro i q h
    by_cases hp : P i
    · rw [recL_t hp] at h
      rcases List.mem_append.mp h with h | h
      · exact ⟨i, Nat.le_refl _, by omega, hp, List.mem_singleton.mp h⟩
      · obtain ⟨k, h1, h2, h3⟩ := ih (i + 1) q h
        exact ⟨k, by omega, by omega, h3⟩
    · rw [recL_f hp] at h
      obtain ⟨k, h1, h2, h3⟩ := ih (i + 1) q h
      exact ⟨k, by omega, by omega, h3⟩
theorem okR.mono {a b c d : Nat} {r : Nat → Int32} (h : okR a b r) (h1 : a ≤ c) (h2 : b ≤ d) : okR c d r := by
  obtain ⟨f, o, e1, e2, e3, e4, e5⟩ := h
  refine ⟨f, o, by omega, by omega, e3, e4, ?_⟩
  rcases e5 with e5 | ⟨e5, y, e6, e7⟩
  · exact Or.inl e5
  · exact Or.inr ⟨e5, y, by omega, e7⟩
theorem okM_nt {x : Int32} (h : okM K o) : okM K (ntM o x) := by
  obtain ⟨⟨hn, fn, rn, nr, nc⟩, hF, pF, fH, rF⟩ := o
  exact h
theorem okM_tkH {row : List Int32} (h : okM K o) (hl : row.length = 45) (hs : signed K row 0 1) : okM K (tkH o row).2 := by
  obtain ⟨⟨hn, fn, rn, nr, nc⟩, hF, pF, fH, rF⟩ := o
  have h0 := h
  obtain ⟨h1, h2, h3⟩ := h
  by_cases c1 : ∃ i, i < hn ∧ same (hF i) 0 row 0 37
  · have e : tkH ((hn, fn, rn, nr, nc), hF, pF, fH, rF) row = (0, (hn, fn, rn, nr, nc), hF, pF, fH, rF) := if_pos c1
    rw [e]; exact h0
  · by_cases c2 : hn = 20 ∨ 20 < rn + (recF hn hF row).length + (recB hn fn pF fH row).length
    · have e : tkH ((hn, fn, rn, nr, nc), hF, pF, fH, rF) row = (-3, (hn, fn, rn, nr, nc), hF, pF, fH, rF) := (if_neg c1).trans (if_pos c2)
      rw [e]; exact h0
    · have e : tkH ((hn, fn, rn, nr, nc), hF, pF, fH, rF) row = (1, (hn + 1, fn, rn + (recF hn hF row).length + (recB hn fn pF fH row).length, nr, nc), va_up hF hn row, pF, fH, rputs (rputs rF rn (recF hn hF row)) (rn + (recF hn hF row).length) (recB hn fn pF fH row)) := (if_neg c1).trans (if_neg c2)
      rw [e]
      refine ⟨fun i hi => ?_, fun i hi => ?_, ?_⟩
      · have hi' : i < hn + 1 := hi
        show (va_up hF hn row i).length = 45 ∧ signed K (va_up hF hn row i) 0 1
        by_cases q : i = hn
        · rw [q, up_s]; exact ⟨hl, hs⟩
        · rw [up_n q]; exact h1 i (show i < hn by omega)
      · obtain ⟨g1, g2, j, g3, g4⟩ := h2 i hi
        exact ⟨g1, g2, j, Nat.lt_succ_of_lt g3, g4⟩
      · refine rputs_okR _ _ _ (rputs_okR _ _ _ (fun i hi => (h3 i hi).mono (Nat.le_succ _) (Nat.le_refl _)) (fun q hq => ?_)) (fun q hq => ?_)
        · obtain ⟨k, k1, k2, k3, rfl⟩ := recL_mem _ _ _ hq
          exact ⟨k, hn, by show k < hn + 1; omega, Nat.lt_succ_self _, rfl, rfl, Or.inl ⟨rfl, rfl⟩⟩
        · obtain ⟨k, k1, k2, k3, rfl⟩ := recL_mem _ _ _ hq
          obtain ⟨g1, g2, j, g3, g4⟩ := h2 k (show k < fn by omega)
          exact ⟨hn, j, Nat.lt_succ_self _, Nat.lt_succ_of_lt g3, rfl, g4, Or.inr ⟨rfl, k, by show k < fn; omega, rfl⟩⟩
theorem okM_tkS {row : List Int32} (h : okM K o) (hl : row.length = 45) : okM K (tkS K o row).2 := by
  by_cases q : signed K row 0 1
  · rw [show tkS K o row = tkH o row from if_pos q]; exact okM_tkH h hl q
  · rw [show tkS K o row = (-1, o) from if_neg q]; exact h
theorem okM_tkP {t : List Int32} (h : okM K o) (hk : okL 1 t) : okM K (tkP o t (accR o t)).2 := by
  cases ea : accR o t with
  | none => exact h
  | some j =>
    rw [accR_eq] at ea
    obtain ⟨-, j2, root, -, ⟨a1, -⟩, -⟩ := fstN_lt _ _ _ ea
    obtain ⟨⟨hn, fn, rn, nr, nc⟩, hF, pF, fH, rF⟩ := o
    have h0 := h
    obtain ⟨h1, h2, h3⟩ := h
    have hj : j < hn := by
      have : j < 0 + hn := j2
      omega
    have hg : ∃ g, g < 4 ∧ rAt t 0 = nI g := by
      obtain ⟨g, g1, g2, -⟩ := (h1 j hj).2
      exact ⟨g, g1, a1.symm.trans g2⟩
    by_cases c1 : ∃ i, i < fn ∧ lik (pF i) t ∧ fH i = nI j
    · have e : tkP ((hn, fn, rn, nr, nc), hF, pF, fH, rF) t (some j) = (0, (hn, fn, rn, nr, nc), hF, pF, fH, rF) := if_pos c1
      rw [e]; exact h0
    · by_cases c2 : fn = 12 ∨ 20 < rn + (recA hn fn hF (nI j) t).length
      · have e : tkP ((hn, fn, rn, nr, nc), hF, pF, fH, rF) t (some j) = (-3, (hn, fn, rn, nr, nc), hF, pF, fH, rF) := (if_neg c1).trans (if_pos c2)
        rw [e]; exact h0
      · have e : tkP ((hn, fn, rn, nr, nc), hF, pF, fH, rF) t (some j) = (1, (hn, fn + 1, rn + (recA hn fn hF (nI j) t).length, nr, nc), hF, va_up pF fn t, upd fH fn (nI j), rputs rF rn (recA hn fn hF (nI j) t)) := (if_neg c1).trans (if_neg c2)
        rw [e]
        refine ⟨h1, fun i hi => ?_, ?_⟩
        · have hi' : i < fn + 1 := hi
          show okL 1 (va_up pF fn t i) ∧ (∃ g, g < 4 ∧ rAt (va_up pF fn t i) 0 = nI g) ∧ ∃ j', j' < hn ∧ upd fH fn (nI j) i = nI j'
          by_cases q : i = fn
          · rw [q, up_s, pk_us]; exact ⟨hk, hg, j, hj, rfl⟩
          · rw [up_n q, pk_un q]; exact h2 i (show i < fn by omega)
        · refine rputs_okR _ _ _ (fun i hi => (h3 i hi).mono (Nat.le_refl _) (Nat.le_succ _)) (fun q hq => ?_)
          obtain ⟨k, k1, k2, k3, rfl⟩ := recL_mem _ _ _ hq
          exact ⟨k, j, by show k < hn; omega, hj, rfl, rfl, Or.inr ⟨rfl, fn, Nat.lt_succ_self _, rfl⟩⟩
theorem okM_gos {hF : Nat → List Int32} {hn : Nat} (hh : ∀ i, i < hn → (hF i).length = 45 ∧ signed K (hF i) 0 1) : ∀ (d i : Nat) (o : Mo) (c : Nat), i + d = hn → okM K o → okM K (gos hF d i o c).2 := by
  intro d
  induction d with
  | zero => intro i o c _ h; exact h
  | succ d ih =>
    intro i o c hi h
    rw [gos]
    exact ih (i + 1) _ _ (by omega) (okM_nt (okM_tkH h (hh i (by omega)).1 (hh i (by omega)).2))
end OKM
