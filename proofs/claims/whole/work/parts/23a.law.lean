/-! THE CLAIM OUT OF ONE WALK OF THE LAW'S BODY. Your part is whole_start (and what it stands on); all else here is the same for every law, but numbers. -/
def R_law : String := "GossipWatchLaw"
def lw_P (b : Addr) (xs : List Int32) (args : Array Value) (s : State) : Prop := args = #[.ref b] ∧ s.IntsAt b xs ∧ xs.length ≤ 2561 ∧ (Jvm.Cond.and given_1 narrow_1).before args s = true
def lw_Q (_ : Array Value) (s : State) (o : Outcome) (t : State) : Prop := o = .returned (some (.int 1)) ∧ Framed s o t [] 600000 7302250
def lw_Z (below : List Frame) (a : Array Value) (s : State) : State → Prop := fun t => ∃ o, t.status = .running ∧ Ended t below o ∧ lw_Q a s o t
/-- the law's own end, with 1 on the stack, nothing written that was there before, its room as the claim has it -/
theorem lw_ret {p : Program} {l : Launch} {e : Env} {s : State} {m : MethodId} {below : List Frame} {meth : Method} {c : Code} {b : Nat} (hx : p.tables.exec = Jvm.exec) (hb : c.code = code) (hr : meth.sig.returnType = ret) (hlocks : meth.locks = false) {pc : Nat} {H : Heap} {ls : Array Slot} (hdg : decode code pc = .ok (.ireturn, 1)) : W p l e room_1 s m #[Value.ref b] below meth c H [] 600000 7302250 (lw_Z below #[Value.ref b] s) (F0 m pc ls [.int 1]) := by
  intro T hT X
  obtain ⟨fs, hret, hrun, hended, hW, hframe⟩ := X.leave (v := some (.int 1)) (hlocks := hlocks) (fun h => by rw [hr] at h; cases h)
  have hmeth' : T.vm.method? m = some meth := X.method'
  refine ⟨T.setFrames fs, ?_, .returned (some (.int 1)), hrun, hended, rfl, ⟨_, rfl⟩, hW, hframe⟩
  jvm_step X.here [X.here.top, hx, hb, hdg, hmeth', hr, ret, narrow_b1]
  (try refine ⟨rfl, ?_⟩); (try refine ⟨rfl, ?_⟩)
  first | (intro acts; rw [hret _ acts rfl rfl rfl]) | rw [hret _ _ rfl rfl rfl]
  exact Steps.refl _
/-- what holds at the law's entry: the machine, the code, the tables' words (any of lw_tbl by 'hts w (by decide +kernel)'), the script of L ints xs at the cell b, what the Statement gives of the start (any of its parts by flat_of_before) -/
def lw_At (p : Program) (s : State) (m : MethodId) (meth : Method) (c : Code) (b L : Nat) (xs : Nat → Int32) : Prop :=
  p.tables.exec = Jvm.exec ∧ c.code = code ∧ meth.sig.returnType = ret ∧ c.maxLocals = 4 ∧ s.vm.findClass R_law = some m.cls ∧ (∀ w ∈ lw_tbl, w.before #[Value.ref b] s = true) ∧ va_X b L xs s s.heap ∧ b < s.heap.size ∧ meth.locks = false ∧ (Jvm.Cond.and given_1 narrow_1).before #[Value.ref b] s = true
/-! the law's walk over the abstract machine -/
def Ld (G : mG) (pc : Nat) (lv : mL) (st : List Value) (cs : Nat × Nat) (S : mS) : Prop :=
  ∀ (p : Program) (l : Launch) (e : Env) (s : State) (m : MethodId) (below : List Frame) (meth : Method) (c : Code), mCx G (miLw false (some .boolean)) p s m #[Value.ref (G.2.2.2 0).1] meth c cL_law 4 → s.heap = G.2.2.1 → gd p l e room_1 s m #[Value.ref (G.2.2.2 0).1] below meth c G 4 (lw_Z below #[Value.ref (G.2.2.2 0).1] s) pc lv st cs S
theorem Ld.of {G : mG} {cuts : Nat → Option Nat} : ∀ (f : Nat) {pc : Nat} {lv : mL} {st : List Value} {cs : Nat × Nat} {S : mS}, vc G room_1 (miLw false (some .boolean)) 0 0 (fun _ _ => False) tL_law cuts (Ld G) f pc lv st cs S → Ld G pc lv st cs S := by
  intro f
  induction f with
  | zero => intro pc lv st cs S h; exact h.elim
  | succ f ih =>
    intro pc lv st cs S h p l e s m below meth c X hh
    unfold vc at h
    split at h
    · exact h.elim
    · rename_i ins np tg val hE
      obtain ⟨h1, h2⟩ := tL_law_ok pc _ hE
      refine st_ok (Or.inr (fun _ _ z => z)) X (ckL _ _) h1 h2 h (fun pc' lv' st' cs' S' hk => ?_)
      split at hk
      · intro ls H locs hl hr hL
        obtain ⟨lv2, hle, hk⟩ := ltrimK.inv hk
        exact hk p l e s m below meth c X hh ls H locs (lv_le hl hle) hr hL
      · exact ih hk p l e s m below meth c X hh
theorem law_end {G : mG} {lv : mL} {S : mS} : Ld G 917 lv [] (727, 130513) S := by
  intro p l e s m below meth c X hh ls H locs hl hr hL
  obtain ⟨hx, hb, hml, hown, hts, hK, hret, hlk, -⟩ := X
  refine lv_iconst (v := 1) hx hb (show decode cL_law 917 = .ok (.iconst 1, 1) from by decide +kernel) (by decide) ?_
  refine va_forget (fun q hq => by rw [hh]; exact hL q hq) ?_
  refine W.widen (k := 600000) (n := 7302250) (by decide) (by decide) ?_
  exact lw_ret hx hb hret hlk (show decode code 918 = .ok (.ireturn, 1) from by decide +kernel)
section LWA
variable {G : mG} {S S' : mS} {B M : Nat} {X : Nat → Prop} {s : Sg}
theorem CS.tf (h : CS G S B s) (f : tf S S' X) (hx : ∀ q, B ≤ q → q ≤ B + 694 → ¬ X q) : CS G S' B s := by
  obtain ⟨K, vals, cnt, np, kd, lt, mo, dk⟩ := s
  obtain ⟨h1, ⟨⟨lm, ld, g1⟩, ⟨o, w, g2⟩, l, g3⟩, h3, ⟨u4, h4, h4'⟩, h5, ⟨u6, h6, h6'⟩, h7, h8, ⟨u9, h9, h9'⟩, h10, h11⟩ := h
  exact ⟨h1.tf f (hx _ (by omega) (by omega)), ⟨⟨lm, ld, g1.tf f (fun q a b => hx q (by omega) (by omega))⟩, ⟨o, w, g2.tf f (fun q a b => hx q (by omega) (by omega))⟩, l, g3.tf f (hx _ (by omega) (by omega)) (hx _ (by omega) (by omega))⟩, h3.tf f (fun q a b => hx q (by omega) (by omega)), ⟨u4, h4.tf f (hx _ (by omega) (by omega)), h4'⟩, fun v hv => (h5 v hv).tf f (fun q a b => hx q (by omega) (by omega)), ⟨u6, h6.tf f (hx _ (by omega) (by omega)), h6'⟩, fun i hi => (h7 i hi).tf f (fun q a b => hx q (by omega) (by omega)), h8, ⟨u9, h9.tf f (hx _ (by omega) (by omega)), h9'⟩, fun j hj => (h10 j hj).tf f (fun q a b => hx q (by omega) (by omega)), h11.tf f (hx _ (by omega) (by omega)) (hx _ (by omega) (by omega))⟩
theorem MS.keep (h : MS G S M s) (f : fr S S' X) (hx : ∀ q, M ≤ q → q ≤ M + 31 → ¬ X q) : MS G S' M s := by
  obtain ⟨K, vals, cnt, np, kd, lt, mo, dk⟩ := s
  obtain ⟨A, l, nn, m, r⟩ := h
  exact ⟨A, l, nn, m.keep f hx, r⟩
/-- the script's first int, or 0 -/
def sc0 (G : mG) : Int32 := if 0 < (G.2.2.2 0).2.1 then (G.2.2.2 0).2.2 0 else 0
theorem c_L_cell (hL : (G.2.2.2 0).2.1 ≤ 2561) :
    mCon G yL_cell cL_cell 2 (some .int) (rmD 0) [.ref (G.2.2.2 0).1, .int 0] S (fun v S' => S' = S ∧ v = some (.int (sc0 G))) := by
  refine mCon.of (I := miLw false (some .int)) (by decide) rfl rfl (fun h => by cases h) (fun h => by cases h) (Nat.le_of_ble_eq_true rfl) ?_
  show Gd _ _ _ _ _ _ _ _ 0 [(0, .ref (G.2.2.2 0).1), (1, .int 0)] [] (0, 0) _
  refine Gd.of (ckL _ _) tL_cell_ok (cuts := fun _ => none) 40 ?_
  refine eN.x 0 (by decide) ?_
  by_cases q : 0 < (G.2.2.2 0).2.1
  · refine eB.f (by rw [show (0 : Int32) = nI 0 from rfl, nI_leI (by omega) (by omega)]; omega) ?_
    refine eL.x (i := 0) 0 (by decide) (show vp_in (nI 0) _ from vp_in_nI q (by omega)) ?_
    exact eR.int ⟨rfl, by rw [sc0, if_pos q]; rfl⟩
  · refine eB.t (by rw [show (0 : Int32) = nI 0 from rfl, nI_leI (by omega) (by omega)]; omega) ?_
    exact eR.int ⟨rfl, by rw [sc0, if_neg q]⟩
end LWA
