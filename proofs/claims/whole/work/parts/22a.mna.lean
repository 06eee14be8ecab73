/-! an array of twenty arrays of four ints is made by one instruction -/
def muF (b i : Nat) : Nat → Option Nat := fun j => if j < i then some (b + 1 + j) else none
def mMu (G : mG) (S : mS) : Nat → mS
  | 0 => mPush S (eRf G 6 20 (muF S.1 0))
  | i + 1 => mUp (mPush (mMu G S i) (eIn G 4 (fun _ => 0))) S.1 (eRf G 6 20 (muF S.1 (i + 1)))
def muT (T : State) (cA cI : ClassId) : Nat → State
  | 0 => T.pushCell (arrV cA 20 (fun j => va_rf (muF T.heap.size 0 j)))
  | i + 1 => ((muT T cA cI i).pushCell (arrV cI 4 (fun _ => .int 0))).setCell T.heap.size (arrV cA 20 (fun j => va_rf (muF T.heap.size (i + 1) j)))
theorem mMu_1 {G : mG} {S : mS} : ∀ i, (mMu G S i).1 = S.1 + 1 + i
  | 0 => rfl
  | i + 1 => by
    show (mMu G S i).1 + 1 = _
    rw [mMu_1 i]; rfl
theorem mMu_own {G : mG} {S : mS} : ∀ i, (mMu G S i).2 S.1 = eRf G 6 20 (muF S.1 i)
  | 0 => if_pos rfl
  | i + 1 => if_pos rfl
theorem mMu_old {G : mG} {S : mS} : ∀ i q, q < S.1 → (mMu G S i).2 q = S.2 q
  | 0, q, h => if_neg (by omega)
  | i + 1, q, h => by
    show va_up (va_up (mMu G S i).2 (mMu G S i).1 _) S.1 _ q = _
    rw [up_n (by omega), up_n (by rw [mMu_1]; omega)]
    exact mMu_old i q h
theorem mMu_row {G : mG} {S : mS} : ∀ i j, j < i → (mMu G S i).2 (S.1 + 1 + j) = eIn G 4 (fun _ => 0)
  | 0, j, h => absurd h (Nat.not_lt_zero j)
  | i + 1, j, h => by
    show va_up (va_up (mMu G S i).2 (mMu G S i).1 _) S.1 _ (S.1 + 1 + j) = _
    rw [up_n (by omega)]
    by_cases e : j = i
    · subst e
      rw [mMu_1, up_s]
    · rw [up_n (by rw [mMu_1]; omega)]
      exact mMu_row i j (by omega)
theorem muF_up (b i : Nat) : updV (fun j => va_rf (muF b i j)) i (.ref (b + 1 + i)) = fun j => va_rf (muF b (i + 1) j) := by
  funext j
  unfold updV muF
  by_cases e : j = i
  · subst e
    rw [if_pos rfl, if_pos (Nat.lt_succ_self j)]; rfl
  · rw [if_neg e]
    show va_rf (if j < i then some (b + 1 + j) else none) = va_rf (if j < i + 1 then some (b + 1 + j) else none)
    by_cases h : j < i
    · rw [if_pos h, if_pos (by omega)]
    · rw [if_neg h, if_neg (by omega)]
theorem muT_fc (s : State) (cA cI : ClassId) : ∀ i, (muT s cA cI i).heap.size = s.heap.size + 1 + i ∧ (muT s cA cI i).heap[s.heap.size]? = some (arrV cA 20 (fun j => va_rf (muF s.heap.size i j))) ∧ (muT s cA cI i).vm = s.vm ∧ (muT s cA cI i).slotsUsed = s.slotsUsed + 20 + 4 * i
  | 0 => ⟨by simp [muT], by simp [muT], rfl, by simp [muT, arrV_size]⟩
  | i + 1 => by
    obtain ⟨a, b, d, u⟩ := muT_fc s cA cI i
    have hlt : s.heap.size < (muT s cA cI i).heap.size := by omega
    have hb' : ((muT s cA cI i).pushCell (arrV cI 4 (fun _ => .int 0))).heap[s.heap.size]? = some (arrV cA 20 (fun j => va_rf (muF s.heap.size i j))) := by rw [State.heap_pushCell_of_lt (h := hlt)]; exact b
    refine ⟨?_, State.heap_setCell_self hb', by simp [muT, d], ?_⟩
    · simp [muT, State.setCell, a]; omega
    · simp [muT, u, arrV_size]; omega
theorem muT_top (s : State) (f : JFrame) (cA cI : ClassId) : ∀ i, muT (s.setTop f) cA cI i = (muT s cA cI i).setTop f
  | 0 => rfl
  | i + 1 => by simp only [muT, muT_top s f cA cI i, State.heap_setTop, State.pushCell_setTop, State.setCell_setTop]
section MUW
variable {E : CtlPost} {e : Env} {d : Bool} {acts : List Action} {s : State}
theorem wp_mu1 {cI cc : ClassId} {kI : Class} (hkI : s.vm.classes[cI]? = some kI) (hI : kI.kind = .array cc .int) (hl : ¬ 4 > e.platform.arrayLengthLimit) (hh : ¬ 4 * componentBytes .int > e.platform.maxHeapBytes) (hc : s.heap.size < e.platform.maxCells) (hs : s.slotsUsed + 4 ≤ e.platform.maxSlots)
    {Q : Addr → Pre} (hq : ∀ acts', Q s.heap.size d acts' (s.pushCell (arrV cI 4 (fun _ => .int 0)))) : wp (multianewarray.make cI [4]) Q E e d acts s := by
  rw [multianewarray.make]
  simp only [wp_bind', W.ite, show ¬ (4 : Int32) < 0 by decide, if_false, wp_pure', W.theClass, hkI, hI, Option.some.injEq, exists_eq_left']
  refine W.newArray_of hkI hI hl hh hc hs rfl (fun acts' => ?_)
  have := hq acts'
  rw [← arrV_new] at this
  exact this
theorem wp_mu {cA cI cc : ClassId} {kA kI : Class} (hkA : s.vm.classes[cA]? = some kA) (hA : kA.kind = .array cI (.array .int)) (hkI : s.vm.classes[cI]? = some kI) (hI : kI.kind = .array cc .int) (hl : ¬ 20 > e.platform.arrayLengthLimit) (hh : ¬ 20 * 4 > e.platform.maxHeapBytes) (hc : s.heap.size + 21 ≤ e.platform.maxCells) (hs : s.slotsUsed + 100 ≤ e.platform.maxSlots)
    {Q : Addr → Pre} (hq : ∀ d' acts', Q s.heap.size d' acts' (muT s cA cI 20)) : wp (multianewarray.make cA [20, 4]) Q E e d acts s := by
  have hfind : ([(4 : Int32)].find? (· < 0)) = none := by decide
  rw [multianewarray.make]
  simp only [wp_bind', W.ite, show ¬ (20 : Int32) < 0 by decide, if_false, wp_pure', W.theClass, hkA, hA, Option.some.injEq, exists_eq_left']
  refine W.newArray_of hkA hA (by exact hl) (by exact hh) (by omega) (by show _ + 20 ≤ _; omega) rfl (fun acts' => ?_)
  simp only [hfind]
  rw [ite_self, wp_bind', Std.Legacy.Range.forIn_eq_forIn_range']
  have hsz : ([:(20 : Int32).toNatClampNeg] : Std.Legacy.Range).size = 20 := by decide
  rw [hsz]
  refine wp_forIn_inv (fun rest s' => ∃ i, i ≤ 20 ∧ rest = List.range' i (20 - i) ∧ s' = muT s cA cI i) _ _ ⟨0, Nat.zero_le _, rfl, ?_⟩ ?_ ?_
  · show _ = s.pushCell _
    congr 1
  · rintro x rest s' d' acts' Q' ⟨i, hi, hrl, rfl⟩ hnext
    have hlt : i < 20 := by
      rcases Nat.lt_or_ge i 20 with h | h
      · exact h
      · rw [show 20 - i = 0 by omega] at hrl; cases hrl
    obtain ⟨rfl, hrest⟩ : x = i ∧ rest = List.range' (i + 1) (20 - (i + 1)) := by
      rw [show 20 - i = (20 - (i + 1)) + 1 by omega, List.range'_succ] at hrl
      exact ⟨(List.cons.inj hrl).1, (List.cons.inj hrl).2⟩
    obtain ⟨f1, f2, f3, f4⟩ := muT_fc s cA cI x
    simp only [wp_bind']
    refine wp_mu1 (by rw [f3]; exact hkI) hI (by omega) (by show ¬ 4 * 4 > _; omega) (by rw [f1]; omega) (by rw [f4]; omega) (fun acts'' => ?_)
    have hlt0 : s.heap.size < (muT s cA cI x).heap.size := by rw [f1]; omega
    simp only [wp_bind', W.writeLoc, wp_pure']
    refine ⟨_, by rw [State.heap_pushCell_of_lt (h := hlt0)]; exact f2, by simp [arrV], by rw [arrV_size]; exact hlt, ?_, hnext _ _ _ ⟨x + 1, hlt, hrest, ?_⟩⟩
    · simp [arrV, State.fitsSlot, State.slotType?, f3, hkA, hA, fits]
    · rw [f1, arrV_store, muF_up]; rfl
  · rintro s' d' acts' ⟨i, hi, hrl, rfl⟩
    have hi20 : i = 20 := by
      rcases Nat.lt_or_ge i 20 with h | h
      · rw [show 20 - i = (20 - (i + 1)) + 1 by omega, List.range'_succ] at hrl; cases hrl
      · omega
    subst hi20
    simp only [wp_pure']
    exact hq _ _
end MUW
section MUS
variable {p : Program} {l : Launch} {e : Env} {R : Room} {s : State} {m : MethodId} {args : Array Value} {below : List Frame} {meth : Method} {c : Code} {H : Heap} {locs : List Loc} {cells slots : Nat} {Q : State → Prop}
variable {cc : ByteArray} {pc : Nat} {ls : Array Slot} {rest : List Value} {G : mG} {S : mS} {a : Nat}
theorem muT_ok {T : State} (X : Stand p l e R s m args below meth c T locs cells slots) (hr : mr G S T.heap) (hL : ∀ q ∈ locs, mb G ≤ q.base) : ∀ i, i ≤ 20 → ∃ locs1, (∀ q ∈ locs1, mb G ≤ q.base) ∧ Stand p l e R s m args below meth c (muT T (G.2.1 6) (G.2.1 0) i) locs1 (cells + 1 + i) (slots + 20 + 4 * i) ∧ mr G (mMu G S i) (muT T (G.2.1 6) (G.2.1 0) i).heap := by
  have hsz : T.heap.size = S.1 := hr.1
  have hbS := hr.2.1
  intro i
  induction i with
  | zero =>
    intro _
    refine ⟨locs, hL, ?_, hr.push ?_ ?_ ?_⟩
    · have := X.pushed (arrV (G.2.1 6) 20 (fun j => va_rf (muF T.heap.size 0 j)))
      rw [arrV_size] at this
      exact this
    · show (T.pushCell _).heap[S.1]? = some (vp_cell _ _)
      rw [← hsz, State.heap_pushCell_size]
      rfl
    · show (T.pushCell _).heap.size = _
      simp [hsz]
    · intro q hq
      exact State.heap_pushCell_of_lt _ _ (by rw [hsz]; exact hq)
  | succ i ih =>
    intro hi
    obtain ⟨locs1, hL1, X1, r1⟩ := ih (by omega)
    obtain ⟨f1, f2, -, -⟩ := muT_fc T (G.2.1 6) (G.2.1 0) i
    have hlt : T.heap.size < (muT T (G.2.1 6) (G.2.1 0) i).heap.size := by omega
    have hs1 : (mMu G S i).1 = (muT T (G.2.1 6) (G.2.1 0) i).heap.size := r1.1.symm
    have r2 := r1.push (e := eIn G 4 (fun _ => 0)) (H1 := ((muT T (G.2.1 6) (G.2.1 0) i).pushCell (arrV (G.2.1 0) 4 (fun _ => .int 0))).heap) (by
      show (State.pushCell _ _).heap[(mMu G S i).1]? = some (vp_cell _ _)
      rw [hs1, State.heap_pushCell_size]; rfl) (by simp [hs1]) (fun q hq => State.heap_pushCell_of_lt _ _ (by rw [← hs1]; exact hq))
    have hcell : ((muT T (G.2.1 6) (G.2.1 0) i).pushCell (arrV (G.2.1 0) 4 (fun _ => .int 0))).heap[T.heap.size]? = some (arrV (G.2.1 6) 20 (fun j => va_rf (muF T.heap.size i j))) := by rw [State.heap_pushCell_of_lt (h := hlt)]; exact f2
    have X3 := (X1.pushed (arrV (G.2.1 0) 4 (fun _ => .int 0))).stored hcell i (.ref (T.heap.size + 1 + i))
    rw [arrV_store, muF_up, arrV_size] at X3
    have hltH : T.heap.size < ((muT T (G.2.1 6) (G.2.1 0) i).pushCell (arrV (G.2.1 0) 4 (fun _ => .int 0))).heap.size := (Array.getElem?_eq_some_iff.mp hcell).1
    refine ⟨_, m_locs hL1 rfl (by show mb G ≤ T.heap.size; omega), X3, ?_⟩
    refine r2.set (a := S.1) (e0 := eRf G 6 20 (muF S.1 i)) ⟨hbS, ?_, ?_⟩ ?_ ?_ ?_
    · show S.1 < (mMu G S i).1 + 1
      rw [mMu_1]; omega
    · show va_up (mMu G S i).2 (mMu G S i).1 _ S.1 = _
      rw [up_n (by rw [mMu_1]; omega)]
      exact mMu_own i
    · show (State.setCell _ T.heap.size _).heap[S.1]? = some (vp_cell _ _)
      rw [← hsz]
      exact State.heap_setCell_self hcell
    · show (State.setCell _ _ _).heap.size = _
      simp [State.setCell]
    · intro q hq
      exact State.heap_setCell_other (by rw [hsz]; exact Ne.symm hq)
theorem r_mna (hexec : p.tables.exec = Jvm.exec) (hb : c.code = cc) {own : String} {index : Nat} (hown : s.vm.findClass own = some m.cls) (hclink : (Cond.classLink own index ("[" ++ (FieldType.array .int).toString)).before args s = true) (hover : (Cond.arrayOver (.array .int)).before #[] s = true) (harr : (Cond.arrayClass .int).before args s = true) (hK : va_K G.1 vwCl (mTys G) s) (hr : mr G S H) (hL : ∀ q ∈ locs, mb G ≤ q.base)
    (hcells : cells + 21 ≤ R.cells) (hslots : slots + 100 ≤ R.slots) (hdg : decode cc pc = .ok (.multianewarray index 2, 4))
    (kk : ∀ (H1 : Heap) (locs1 : List Loc), (∀ q ∈ locs1, mb G ≤ q.base) → mr G (mMu G S 20) H1 → W p l e R s m args below meth c H1 locs1 (cells + 21) (slots + 100) Q (F0 m (pc + 4) ls (.ref S.1 :: rest))) : W p l e R s m args below meth c H locs cells slots Q (F0 m pc ls (.int 4 :: .int 20 :: rest)) := by
  intro T hT X
  subst hT; subst hb
  have hpl : e.platform.magicAccessors = ({} : Platform).magicAccessors := by rw [X.admits.platform]
  obtain ⟨comp, cA, kA, hcomp, -, hkA, hkindA, hnameA⟩ := arrayOverA_spec hover
  obtain ⟨comp', kC, cx, hcomp', hkC, hkindC⟩ := Cond.arrayClass_spec harr
  have ecomp : comp' = comp := Option.some.inj (hcomp'.symm.trans hcomp)
  subst ecomp
  have eA : cA = G.2.1 6 := Option.some.inj (hnameA.symm.trans (hK.2 6 _ rfl).2)
  have eI : comp' = G.2.1 0 := Option.some.inj (hcomp'.symm.trans (hK.2 0 _ rfl).2)
  subst eA eI
  obtain ⟨c0, hfc0, hcl⟩ := Cond.classLink_spec hown hclink e.platform hpl
  cases hnameA.symm.trans hfc0
  obtain ⟨hg₁, hwarm₁, hready₁⟩ := State.classEntry (e := e) X.warmed hcl
  generalize T.vm.noted m.cls index (.cls (G.2.1 6)) = vm₁ at hg₁ hwarm₁ hready₁
  have hal : s.vm.Alike vm₁ := hwarm₁.alike
  obtain ⟨kA₁, hkA₁, heA⟩ := hal.2.2 _ _ hkA
  obtain ⟨kC₁, hkC₁, heC⟩ := hal.2.2 _ _ hkC
  have hkindA₁ : kA₁.kind = .array (G.2.1 0) (.array .int) := by rw [heA]; exact hkindA
  have hkindC₁ : kC₁.kind = .array cx .int := by rw [heC]; exact hkindC
  have X₁ := X.noted hwarm₁
  obtain ⟨hr1, hr2⟩ := X.roomAbove hcells hslots
  obtain ⟨locs1, hL1, XF, rF⟩ := muT_ok (T := T.setVm vm₁) X₁ hr hL 20 (Nat.le_refl _)
  obtain ⟨t, a1, b1⟩ := kk _ locs1 hL1 rF _ rfl XF
  refine ⟨t, ?_, b1⟩
  have hsz : T.heap.size = S.1 := hr.1
  have hl1 : ¬ 20 > e.platform.arrayLengthLimit := by rw [Launch.admits_arrayLengthLimit X.admits]; omega
  have hh1 : ¬ 20 * 4 > e.platform.maxHeapBytes := by rw [Launch.admits_maxHeapBytes X.admits]; omega
  jvm_step X.here [hexec, hdg]
  simp only [multianewarray.sem, wp_bind', W.resolveClassAt_links (State.method?_setTop (F0 m pc ls (.int 4 :: .int 20 :: rest)) X.here.top) hg₁]
  rw [W.popN, if_neg (by decide)]
  refine ⟨F0 m pc ls (.int 4 :: .int 20 :: rest), State.topJava?_setTop' (s := T.setVm vm₁) (F0 m pc ls (.int 4 :: .int 20 :: rest)) X.here.top, [.int 20, .int 4], rest, rfl, rfl, ?_⟩
  simp only [List.mapM_cons, List.mapM_nil, wp_bind', wp_pure']
  refine wp_mu hkA₁ hkindA₁ hkC₁ hkindC₁ hl1 hh1 (by show T.heap.size + 21 ≤ _; omega) (by show T.slotsUsed + 100 ≤ _; omega) (fun d' acts' => ?_)
  have eS : ((T.setTop (F0 m pc ls (.int 4 :: .int 20 :: rest))).setVm vm₁).setTop (F0 m pc ls rest) = (T.setVm vm₁).setTop (F0 m pc ls rest) := by
    show ((T.setVm vm₁).setTop _).setTop _ = _
    rw [State.setTop_setTop]
  show wp _ _ _ _ _ _ (muT (((T.setTop (F0 m pc ls (.int 4 :: .int 20 :: rest))).setVm vm₁).setTop (F0 m pc ls rest)) _ _ 20)
  rw [eS, muT_top]
  simp only [wp_bind', W.mark, W.pushRef, State.topJava?_setTop' _ XF.here.top, Option.some.injEq, exists_eq_left', State.setTop_setTop, State.heap_setTop]
  intro acts
  simp [jvm, XF.here.top]
  rw [hsz]
  exact a1
end MUS
