/-! the reference with a message that is being told; w, h, v and what was told before don't matter -/
def seg (f : Nat → Int32) (s n : Nat) : List Int32 := (List.range n).map (fun k => f (s + k))
theorem seg_len (f : Nat → Int32) (s n : Nat) : (seg f s n).length = n := by simp [seg]
theorem seg_succ (f : Nat → Int32) (s n : Nat) : seg f s (n + 1) = seg f s n ++ [f (s + n)] := by simp [seg, List.range_succ]
theorem seg_getD (f : Nat → Int32) (s n j : Nat) (h : j < n) : (seg f s n).getD j 0 = f (s + j) := by
  rw [seg, List.getD_eq_getElem?_getD, List.getElem?_map, List.getElem?_range h]
  rfl
theorem getD_ext {a b : List Int32} (h : a.length = b.length) (hj : ∀ j, j < a.length → a.getD j 0 = b.getD j 0) : a = b := by
  apply List.ext_getElem? 
  intro j
  by_cases q : j < a.length
  · have e := hj j q
    rw [List.getD_eq_getElem?_getD, List.getD_eq_getElem?_getD, List.getElem?_eq_getElem q, List.getElem?_eq_getElem (by omega)] at e
    rw [List.getElem?_eq_getElem q, List.getElem?_eq_getElem (by omega)]
    exact congrArg some e
  · rw [List.getElem?_eq_none (by omega), List.getElem?_eq_none (by omega)]
theorem seg_eq {f : Nat → Int32} {s : Nat} {l : List Int32} (h : ∀ j, j < l.length → f (s + j) = l.getD j 0) : seg f s l.length = l := by
  apply getD_ext (seg_len _ _ _)
  intro j hj
  rw [seg_len] at hj
  rw [seg_getD _ _ _ _ hj, h j hj]
theorem seg_part {f : Nat → Int32} {s a n : Nat} {l : List Int32} (h : ∀ j, j < l.length → f (s + j) = l.getD j 0) (ha : a + n ≤ l.length) : seg f (s + a) n = part l a n := by
  apply getD_ext (by rw [seg_len, part_len ha])
  intro j hj
  rw [seg_len] at hj
  rw [seg_getD _ _ _ _ hj, Nat.add_assoc, h _ (by omega), part, List.getD_eq_getElem?_getD, List.getD_eq_getElem?_getD, List.getElem?_take_of_lt hj, List.getElem?_drop]
theorem getD_app_l {a b : List Int32} {j : Nat} (h : j < a.length) : (a ++ b).getD j 0 = a.getD j 0 := by
  rw [List.getD_eq_getElem?_getD, List.getD_eq_getElem?_getD, List.getElem?_append_left h]
theorem getD_app_r {a b : List Int32} {j : Nat} (h : a.length ≤ j) : (a ++ b).getD j 0 = b.getD (j - a.length) 0 := by
  rw [List.getD_eq_getElem?_getD, List.getD_eq_getElem?_getD, List.getElem?_append_right h]
def Md (G : mG) (S : mS) (M : Nat) (A : AA) (l : List Int32) (nl nn nd : Nat) : Prop := ∃ A' : AA, MH G S M A' l.length nl nn nd ∧ (∀ i, i < 3 ∨ 6 < i → A' i = A i) ∧ (∀ j, j < l.length → A' 6 j = l.getD j 0) ∧ (∀ j, j < 64 → A 1 j = KT j) ∧ ∀ j, j < 8 → A 2 j = IVT j
section MDD
variable {G : mG} {S S' : mS} {M nl nn nd : Nat} {A : AA} {l : List Int32}
theorem Md.obj (h : Md G S M A l nl nn nd) : mAt G S M (mdO M l.length nl nn nd) := by
  obtain ⟨A', h1, -⟩ := h
  exact h1.1
theorem Md.keep {X : Nat → Prop} (h : Md G S M A l nl nn nd) (f : fr S S' X) (hx : ∀ q, M ≤ q → q ≤ M + 31 → ¬ X q) : Md G S' M A l nl nn nd := by
  obtain ⟨A', h1, h2⟩ := h
  exact ⟨A', h1.keep f hx, h2⟩
theorem Md.b {i : Nat} (h : Md G S M A l nl nn nd) (hb : mdB i = true) (h1 : 6 < i) (h2 : i ≤ 31) : mAt G S (M + i) (eBy G (mdN i) (A i)) := by
  obtain ⟨A', g1, g2, -⟩ := h
  rw [← g2 i (Or.inr h1)]
  exact g1.ab hb (by omega) h2
theorem Md.isb {i : Nat} (h : Md G S M A l nl nn nd) (hb : mdB i = true) (h1 : 6 < i) (j : Nat) : isB (A i j) := by
  obtain ⟨A', g1, g2, -⟩ := h
  rw [← g2 i (Or.inr h1)]
  exact g1.2.2 i hb j
theorem Md.set {i : Nat} {f : Nat → Int32} (h : Md G S M A l nl nn nd) (h1 : 6 < i) (h2 : i ≤ 31) (hb : mdB i = true → ∀ j, isB (f j)) : Md G (mUp S (M + i) (mdE G i f)) M (va_up A i f) l nl nn nd := by
  obtain ⟨A', g1, g2, g3, g4, g5⟩ := h
  refine ⟨va_up A' i f, g1.set (by omega) h2 hb, fun k hk => ?_, fun j hj => ?_, fun j hj => ?_, fun j hj => ?_⟩
  · by_cases e : k = i
    · rw [e, up_s, up_s]
    · rw [up_n e, up_n e, g2 k hk]
  · rw [up_n (by omega)]; exact g3 j hj
  · rw [up_n (by omega)]; exact g4 j hj
  · rw [up_n (by omega)]; exact g5 j hj
theorem Md.nums {nl' nn' nd' : Nat} (h : Md G S M A l nl nn nd) : Md G (mUp S M (mdO M l.length nl' nn' nd')) M A l nl' nn' nd' := by
  obtain ⟨A', g1, g2⟩ := h
  exact ⟨A', g1.obj, g2⟩
theorem Md.a7 (h : Md G S M A l nl nn nd) : mAt G S (M + 7) (eBy G 768 (A 7)) := by
  obtain ⟨A', g1, g2, -⟩ := h
  rw [← g2 7 (by decide)]
  exact g1.a7
theorem Md.s7 {f : Nat → Int32} (h : Md G S M A l nl nn nd) (hb : ∀ j, isB (f j)) : Md G (mUp S (M + 7) (eBy G 768 f)) M (va_up A 7 f) l nl nn nd := h.set (i := 7) (by decide) (by decide) (fun _ => hb)
theorem Md.a8 (h : Md G S M A l nl nn nd) : mAt G S (M + 8) (eIn G 640 (A 8)) := by
  obtain ⟨A', g1, g2, -⟩ := h
  rw [← g2 8 (by decide)]
  exact g1.a8
theorem Md.s8 {f : Nat → Int32} (h : Md G S M A l nl nn nd) : Md G (mUp S (M + 8) (eIn G 640 f)) M (va_up A 8 f) l nl nn nd := h.set (i := 8) (by decide) (by decide) (fun z => by cases z)
theorem Md.a9 (h : Md G S M A l nl nn nd) : mAt G S (M + 9) (eIn G 8 (A 9)) := by
  obtain ⟨A', g1, g2, -⟩ := h
  rw [← g2 9 (by decide)]
  exact g1.a9
theorem Md.s9 {f : Nat → Int32} (h : Md G S M A l nl nn nd) : Md G (mUp S (M + 9) (eIn G 8 f)) M (va_up A 9 f) l nl nn nd := h.set (i := 9) (by decide) (by decide) (fun z => by cases z)
theorem Md.a10 (h : Md G S M A l nl nn nd) : mAt G S (M + 10) (eBy G 32 (A 10)) := by
  obtain ⟨A', g1, g2, -⟩ := h
  rw [← g2 10 (by decide)]
  exact g1.a10
theorem Md.s10 {f : Nat → Int32} (h : Md G S M A l nl nn nd) (hb : ∀ j, isB (f j)) : Md G (mUp S (M + 10) (eBy G 32 f)) M (va_up A 10 f) l nl nn nd := h.set (i := 10) (by decide) (by decide) (fun _ => hb)
theorem Md.a11 (h : Md G S M A l nl nn nd) : mAt G S (M + 11) (eBy G 24000 (A 11)) := by
  obtain ⟨A', g1, g2, -⟩ := h
  rw [← g2 11 (by decide)]
  exact g1.a11
theorem Md.s11 {f : Nat → Int32} (h : Md G S M A l nl nn nd) (hb : ∀ j, isB (f j)) : Md G (mUp S (M + 11) (eBy G 24000 f)) M (va_up A 11 f) l nl nn nd := h.set (i := 11) (by decide) (by decide) (fun _ => hb)
theorem Md.a12 (h : Md G S M A l nl nn nd) : mAt G S (M + 12) (eIn G 60 (A 12)) := by
  obtain ⟨A', g1, g2, -⟩ := h
  rw [← g2 12 (by decide)]
  exact g1.a12
theorem Md.s12 {f : Nat → Int32} (h : Md G S M A l nl nn nd) : Md G (mUp S (M + 12) (eIn G 60 f)) M (va_up A 12 f) l nl nn nd := h.set (i := 12) (by decide) (by decide) (fun z => by cases z)
theorem Md.a13 (h : Md G S M A l nl nn nd) : mAt G S (M + 13) (eIn G 60 (A 13)) := by
  obtain ⟨A', g1, g2, -⟩ := h
  rw [← g2 13 (by decide)]
  exact g1.a13
theorem Md.s13 {f : Nat → Int32} (h : Md G S M A l nl nn nd) : Md G (mUp S (M + 13) (eIn G 60 f)) M (va_up A 13 f) l nl nn nd := h.set (i := 13) (by decide) (by decide) (fun z => by cases z)
theorem Md.a14 (h : Md G S M A l nl nn nd) : mAt G S (M + 14) (eIn G 32 (A 14)) := by
  obtain ⟨A', g1, g2, -⟩ := h
  rw [← g2 14 (by decide)]
  exact g1.a14
theorem Md.s14 {f : Nat → Int32} (h : Md G S M A l nl nn nd) : Md G (mUp S (M + 14) (eIn G 32 f)) M (va_up A 14 f) l nl nn nd := h.set (i := 14) (by decide) (by decide) (fun z => by cases z)
theorem Md.a15 (h : Md G S M A l nl nn nd) : mAt G S (M + 15) (eIn G 32 (A 15)) := by
  obtain ⟨A', g1, g2, -⟩ := h
  rw [← g2 15 (by decide)]
  exact g1.a15
theorem Md.s15 {f : Nat → Int32} (h : Md G S M A l nl nn nd) : Md G (mUp S (M + 15) (eIn G 32 f)) M (va_up A 15 f) l nl nn nd := h.set (i := 15) (by decide) (by decide) (fun z => by cases z)
theorem Md.a16 (h : Md G S M A l nl nn nd) : mAt G S (M + 16) (eBy G 3600 (A 16)) := by
  obtain ⟨A', g1, g2, -⟩ := h
  rw [← g2 16 (by decide)]
  exact g1.a16
theorem Md.s16 {f : Nat → Int32} (h : Md G S M A l nl nn nd) (hb : ∀ j, isB (f j)) : Md G (mUp S (M + 16) (eBy G 3600 f)) M (va_up A 16 f) l nl nn nd := h.set (i := 16) (by decide) (by decide) (fun _ => hb)
theorem Md.a17 (h : Md G S M A l nl nn nd) : mAt G S (M + 17) (eBy G 19200 (A 17)) := by
  obtain ⟨A', g1, g2, -⟩ := h
  rw [← g2 17 (by decide)]
  exact g1.a17
theorem Md.s17 {f : Nat → Int32} (h : Md G S M A l nl nn nd) (hb : ∀ j, isB (f j)) : Md G (mUp S (M + 17) (eBy G 19200 f)) M (va_up A 17 f) l nl nn nd := h.set (i := 17) (by decide) (by decide) (fun _ => hb)
theorem Md.a18 (h : Md G S M A l nl nn nd) : mAt G S (M + 18) (eIn G 4 (A 18)) := by
  obtain ⟨A', g1, g2, -⟩ := h
  rw [← g2 18 (by decide)]
  exact g1.a18
theorem Md.s18 {f : Nat → Int32} (h : Md G S M A l nl nn nd) : Md G (mUp S (M + 18) (eIn G 4 f)) M (va_up A 18 f) l nl nn nd := h.set (i := 18) (by decide) (by decide) (fun z => by cases z)
theorem Md.a19 (h : Md G S M A l nl nn nd) : mAt G S (M + 19) (eIn G 4 (A 19)) := by
  obtain ⟨A', g1, g2, -⟩ := h
  rw [← g2 19 (by decide)]
  exact g1.a19
theorem Md.s19 {f : Nat → Int32} (h : Md G S M A l nl nn nd) : Md G (mUp S (M + 19) (eIn G 4 f)) M (va_up A 19 f) l nl nn nd := h.set (i := 19) (by decide) (by decide) (fun z => by cases z)
theorem Md.a20 (h : Md G S M A l nl nn nd) : mAt G S (M + 20) (eIn G 4 (A 20)) := by
  obtain ⟨A', g1, g2, -⟩ := h
  rw [← g2 20 (by decide)]
  exact g1.a20
theorem Md.s20 {f : Nat → Int32} (h : Md G S M A l nl nn nd) : Md G (mUp S (M + 20) (eIn G 4 f)) M (va_up A 20 f) l nl nn nd := h.set (i := 20) (by decide) (by decide) (fun z => by cases z)
theorem Md.a21 (h : Md G S M A l nl nn nd) : mAt G S (M + 21) (eIn G 4 (A 21)) := by
  obtain ⟨A', g1, g2, -⟩ := h
  rw [← g2 21 (by decide)]
  exact g1.a21
theorem Md.s21 {f : Nat → Int32} (h : Md G S M A l nl nn nd) : Md G (mUp S (M + 21) (eIn G 4 f)) M (va_up A 21 f) l nl nn nd := h.set (i := 21) (by decide) (by decide) (fun z => by cases z)
theorem Md.a22 (h : Md G S M A l nl nn nd) : mAt G S (M + 22) (eIn G 4 (A 22)) := by
  obtain ⟨A', g1, g2, -⟩ := h
  rw [← g2 22 (by decide)]
  exact g1.a22
theorem Md.s22 {f : Nat → Int32} (h : Md G S M A l nl nn nd) : Md G (mUp S (M + 22) (eIn G 4 f)) M (va_up A 22 f) l nl nn nd := h.set (i := 22) (by decide) (by decide) (fun z => by cases z)
theorem Md.a23 (h : Md G S M A l nl nn nd) : mAt G S (M + 23) (eIn G 48 (A 23)) := by
  obtain ⟨A', g1, g2, -⟩ := h
  rw [← g2 23 (by decide)]
  exact g1.a23
theorem Md.s23 {f : Nat → Int32} (h : Md G S M A l nl nn nd) : Md G (mUp S (M + 23) (eIn G 48 f)) M (va_up A 23 f) l nl nn nd := h.set (i := 23) (by decide) (by decide) (fun z => by cases z)
theorem Md.a24 (h : Md G S M A l nl nn nd) : mAt G S (M + 24) (eIn G 48 (A 24)) := by
  obtain ⟨A', g1, g2, -⟩ := h
  rw [← g2 24 (by decide)]
  exact g1.a24
theorem Md.s24 {f : Nat → Int32} (h : Md G S M A l nl nn nd) : Md G (mUp S (M + 24) (eIn G 48 f)) M (va_up A 24 f) l nl nn nd := h.set (i := 24) (by decide) (by decide) (fun z => by cases z)
theorem Md.a25 (h : Md G S M A l nl nn nd) : mAt G S (M + 25) (eIn G 80 (A 25)) := by
  obtain ⟨A', g1, g2, -⟩ := h
  rw [← g2 25 (by decide)]
  exact g1.a25
theorem Md.s25 {f : Nat → Int32} (h : Md G S M A l nl nn nd) : Md G (mUp S (M + 25) (eIn G 80 f)) M (va_up A 25 f) l nl nn nd := h.set (i := 25) (by decide) (by decide) (fun z => by cases z)
theorem Md.a26 (h : Md G S M A l nl nn nd) : mAt G S (M + 26) (eIn G 80 (A 26)) := by
  obtain ⟨A', g1, g2, -⟩ := h
  rw [← g2 26 (by decide)]
  exact g1.a26
theorem Md.s26 {f : Nat → Int32} (h : Md G S M A l nl nn nd) : Md G (mUp S (M + 26) (eIn G 80 f)) M (va_up A 26 f) l nl nn nd := h.set (i := 26) (by decide) (by decide) (fun z => by cases z)
theorem Md.a27 (h : Md G S M A l nl nn nd) : mAt G S (M + 27) (eIn G 80 (A 27)) := by
  obtain ⟨A', g1, g2, -⟩ := h
  rw [← g2 27 (by decide)]
  exact g1.a27
theorem Md.s27 {f : Nat → Int32} (h : Md G S M A l nl nn nd) : Md G (mUp S (M + 27) (eIn G 80 f)) M (va_up A 27 f) l nl nn nd := h.set (i := 27) (by decide) (by decide) (fun z => by cases z)
theorem Md.a28 (h : Md G S M A l nl nn nd) : mAt G S (M + 28) (eIn G 80 (A 28)) := by
  obtain ⟨A', g1, g2, -⟩ := h
  rw [← g2 28 (by decide)]
  exact g1.a28
theorem Md.s28 {f : Nat → Int32} (h : Md G S M A l nl nn nd) : Md G (mUp S (M + 28) (eIn G 80 f)) M (va_up A 28 f) l nl nn nd := h.set (i := 28) (by decide) (by decide) (fun z => by cases z)
theorem Md.a29 (h : Md G S M A l nl nn nd) : mAt G S (M + 29) (eBy G 640 (A 29)) := by
  obtain ⟨A', g1, g2, -⟩ := h
  rw [← g2 29 (by decide)]
  exact g1.a29
theorem Md.s29 {f : Nat → Int32} (h : Md G S M A l nl nn nd) (hb : ∀ j, isB (f j)) : Md G (mUp S (M + 29) (eBy G 640 f)) M (va_up A 29 f) l nl nn nd := h.set (i := 29) (by decide) (by decide) (fun _ => hb)
theorem Md.a30 (h : Md G S M A l nl nn nd) : mAt G S (M + 30) (eBy G 45 (A 30)) := by
  obtain ⟨A', g1, g2, -⟩ := h
  rw [← g2 30 (by decide)]
  exact g1.a30
theorem Md.s30 {f : Nat → Int32} (h : Md G S M A l nl nn nd) (hb : ∀ j, isB (f j)) : Md G (mUp S (M + 30) (eBy G 45 f)) M (va_up A 30 f) l nl nn nd := h.set (i := 30) (by decide) (by decide) (fun _ => hb)
theorem Md.a31 (h : Md G S M A l nl nn nd) : mAt G S (M + 31) (eBy G 45 (A 31)) := by
  obtain ⟨A', g1, g2, -⟩ := h
  rw [← g2 31 (by decide)]
  exact g1.a31
theorem Md.s31 {f : Nat → Int32} (h : Md G S M A l nl nn nd) (hb : ∀ j, isB (f j)) : Md G (mUp S (M + 31) (eBy G 45 f)) M (va_up A 31 f) l nl nn nd := h.set (i := 31) (by decide) (by decide) (fun _ => hb)
end MDD
