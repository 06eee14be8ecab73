section SND
variable {p : Program} {l : Launch} {e : Env} {R : Room} {s : State} {m : MethodId} {args : Array Value} {below : List Frame} {meth : Method} {c : Code}
/-- the facts of a walk -/
def mCx (G : mG) (I : mI) (p : Program) (s : State) (m : MethodId) (args : Array Value) (meth : Method) (c : Code) (cc : ByteArray) (nL : Nat) : Prop :=
  p.tables.exec = Jvm.exec ∧ c.code = cc ∧ c.maxLocals = nL ∧ s.vm.findClass I.1.1 = some m.cls ∧ (∀ w ∈ mT, w.before args s = true) ∧ mK G s ∧ meth.sig.returnType = I.2.2.2 ∧ meth.locks = false ∧ (I.2.2.1 = true → meth.name = "<init>") ∧ (I.2.2.1 = true → mRn I.1.2 = I.1.1)
def mQc (G : mG) (KR : Option Value → mS → Prop) : Array Value → State → Outcome → State → Prop := fun _ _ o t => ∃ (v : Option Value) (S' : mS), o = .returned v ∧ KR v S' ∧ mr G S' t.heap
/-- from here the walk comes to its end -/
def gd (p : Program) (l : Launch) (e : Env) (R : Room) (s : State) (m : MethodId) (args : Array Value) (below : List Frame) (meth : Method) (c : Code) (G : mG) (nL : Nat) (Q : State → Prop) (pc : Nat) (lv : mL) (st : List Value) (cs : Nat × Nat) (S : mS) : Prop :=
  ∀ (ls : Array Slot) (H : Heap) (locs : List Loc), lv_has ls nL lv → mr G S H → (∀ q ∈ locs, mb G ≤ q.base) → W p l e R s m args below meth c H locs cs.1 cs.2 Q (F0 m pc ls st)
variable {G : mG} {I : mI} {cc : ByteArray} {nL mc ms : Nat} {KR : Option Value → mS → Prop} {pc : Nat} {ins : Instr} {np tg : Nat} {val : Int32} {lv : mL} {st : List Value} {cs : Nat × Nat} {S : mS} {K : Nat → mL → List Value → Nat × Nat → mS → Prop}
theorem m_locs {G : mG} {locs : List Loc} {L : Loc} {a : Nat} (h : ∀ q ∈ locs, mb G ≤ q.base) (hL : L.base = a) (ha : mb G ≤ a) : ∀ q ∈ locs ++ [L], mb G ≤ q.base := by
  intro q hq
  rcases List.mem_append.mp hq with h1 | h1
  · exact h q h1
  · rw [List.mem_singleton.mp h1, hL]; exact ha
theorem m_locsL {G : mG} {locs L : List Loc} (h : ∀ q ∈ locs, mb G ≤ q.base) (hL : ∀ q ∈ L, mb G ≤ q.base) : ∀ q ∈ locs ++ L, mb G ≤ q.base := by
  intro q hq
  rcases List.mem_append.mp hq with h1 | h1
  · exact h q h1
  · exact hL q h1
theorem mT_good : GoodIn mT mT := fun w h => ⟨h, good_of_word (List.mem_filter.mp h).2⟩
theorem mWs_good {y : MethodName} {b : ByteArray} {n : Nat} {r : Option FieldType} (h : Cond.code y b n r ∈ mT) : GoodIn mT (mWs y b n r) := fun w hw => by
  rcases List.mem_cons.mp hw with h1 | h1
  · rw [h1]; exact mT_good _ h
  · exact mT_good _ h1
theorem m_blind {G : mG} {av : List Value} {S : mS} : FrameBlind (va_Pc av (fun U => mr G S U.heap ∧ mK G U)) := fun a U g mk q => ⟨q.1, q.2.1, mK.same (s := U) (U := U.calling g mk a) rfl q.2.2⟩
theorem m_after {rest : List Value} {np : Nat} {Q : State → Prop} {ls : Array Slot} {H : Heap} {locs : List Loc} {K0 : Option Value → mS → Prop} {a' : Array Value} {st : List Value} {rm : Room}
    (hr : va_Run p l e R s m args below meth c H locs cs.1 cs.2 rm.cells rm.slots (F0 m pc ls st) rest (mQc G K0 a') (fun q => mb G ≤ q)) (hl : lv_has ls nL lv) (hL : ∀ q ∈ locs, mb G ≤ q.base) (hnp : np = pc + 3)
    (kk : ∀ (v : Option Value) (S' : mS), K0 v S' → gd p l e R s m args below meth c G nL Q np lv (v.toList ++ rest) (cs.1 + rm.cells, cs.2 + rm.slots) S') : W p l e R s m args below meth c H locs cs.1 cs.2 Q (F0 m pc ls st) := by
  subst hnp
  intro T hT X
  obtain ⟨v, st₀, t, T', L, h0, X', hL', e1, e2, ⟨v', S', hv, hk, hr'⟩, stp⟩ := hr T hT X
  cases hv
  rw [← e1] at hr'
  obtain ⟨t2, a1, b1⟩ := kk _ S' hk ls T'.heap (locs ++ L) hl hr' (m_locsL hL hL') T' rfl X'
  exact ⟨t2, stp t2 a1, b1⟩

set_option maxHeartbeats 4000000 in
theorem st_ok {Q : State → Prop} (hQ : Q = MQ below (mQc G KR) args s mc ms (fun q => mb G ≤ q) ∨ ∀ v S9, ¬ KR v S9) (X : mCx G I p s m args meth c cc nL) (hcp : cpOK I) (hE : okE cc pc (ins, np, tg, val) = true) (hlv : ∀ i, iSl ins = some i → i < nL) (hs : step G R I mc ms KR pc ins np tg val lv st cs S K)
    (hK : ∀ (pc' : Nat) (lv' : mL) (st' : List Value) (cs' : Nat × Nat) (S' : mS), K pc' lv' st' cs' S' → gd p l e R s m args below meth c G nL Q pc' lv' st' cs' S') :
    gd p l e R s m args below meth c G nL Q pc lv st cs S := by
  obtain ⟨hx, hb, hml, hown, hts, hKn, hret, hlocks, hini, hrn⟩ := X
  have hI := okE.t hE
  intro ls H locs hl hr hL
  cases ins with
  | iconst n =>
    obtain ⟨d, hnp⟩ := okE.d hE 1 rfl (by decide)
    subst hnp
    have h := hs
    exact lv_iconst hx hb d (of_decide_eq_true hI) (hK _ _ _ _ _ h ls H locs hl hr hL)
  | bipush n =>
    obtain ⟨d, hnp⟩ := okE.d hE 2 rfl (by decide)
    subst hnp
    have h := hs
    exact lv_bipush hx hb d (of_decide_eq_true hI) (hK _ _ _ _ _ h ls H locs hl hr hL)
  | sipush n =>
    obtain ⟨d, hnp⟩ := okE.d hE 3 rfl (by decide)
    subst hnp
    have h := hs
    exact lv_sipush hx hb d (of_decide_eq_true hI) (hK _ _ _ _ _ h ls H locs hl hr hL)
  | ldc i =>
    obtain ⟨d, hnp⟩ := okE.d hE 2 rfl (by decide)
    subst hnp
    simp only [step] at hs
    split at hs
    · rename_i v hv
      have hw := (hcp _ _ hv).1
      exact lv_ldc hx hb hown (hts _ (hw _ List.mem_cons_self)) d (hK _ _ _ _ _ hs ls H locs hl hr hL)
    · exact hs.elim
  | ldc2_w i =>
    obtain ⟨d, hnp⟩ := okE.d hE 3 rfl (by decide)
    subst hnp
    simp only [step] at hs
    split at hs
    · rename_i v hv
      have hw := (hcp _ _ hv).1
      exact lv_ldc2 hx hb hown (hts _ (hw _ List.mem_cons_self)) d (hK _ _ _ _ _ hs ls H locs hl hr hL)
    · exact hs.elim
  | aconst_null =>
    obtain ⟨d, hnp⟩ := okE.d hE 1 rfl (by decide)
    subst hnp
    have h := hs
    exact lv_null hx hb d (hK _ _ _ _ _ h ls H locs hl hr hL)
  | iload_n n =>
    obtain ⟨d, hnp⟩ := okE.d hE 1 rfl (by decide)
    subst hnp
    obtain ⟨x, hg, h⟩ := lI.inv hs
    exact lv_iload_n hx hb d rfl (hl.2.2 _ (lget_mem hg)) (hK _ _ _ _ _ h ls H locs hl hr hL)
  | iload n =>
    obtain ⟨d, hnp⟩ := okE.d hE 2 rfl (by decide)
    subst hnp
    obtain ⟨x, hg, h⟩ := lI.inv hs
    exact lv_iload hx hb d (hl.2.2 _ (lget_mem hg)) (hK _ _ _ _ _ h ls H locs hl hr hL)
  | lload_n n =>
    obtain ⟨d, hnp⟩ := okE.d hE 1 rfl (by decide)
    subst hnp
    obtain ⟨x, hg, h⟩ := lJ.inv hs
    exact lv_lload_n hx hb d rfl (hl.2.2 _ (lget_mem hg)) (hK _ _ _ _ _ h ls H locs hl hr hL)
  | aload_n n =>
    obtain ⟨d, hnp⟩ := okE.d hE 1 rfl (by decide)
    subst hnp
    simp only [step] at hs
    obtain ⟨v, hg, hv, h⟩ := lQ.inv hs
    rcases hv with rfl | ⟨a, rfl⟩
    · exact lv_aload_nN hx hb d rfl (hl.2.2 _ (lget_mem hg)) (hK _ _ _ _ _ h ls H locs hl hr hL)
    · exact lv_aload_n hx hb d rfl (hl.2.2 _ (lget_mem hg)) (hK _ _ _ _ _ h ls H locs hl hr hL)
  | aload n =>
    obtain ⟨d, hnp⟩ := okE.d hE 2 rfl (by decide)
    subst hnp
    simp only [step] at hs
    obtain ⟨v, hg, hv, h⟩ := lQ.inv hs
    rcases hv with rfl | ⟨a, rfl⟩
    · exact lv_aloadN hx hb d (hl.2.2 _ (lget_mem hg)) (hK _ _ _ _ _ h ls H locs hl hr hL)
    · exact lv_aload hx hb d (hl.2.2 _ (lget_mem hg)) (hK _ _ _ _ _ h ls H locs hl hr hL)
  | istore_n n =>
    obtain ⟨d, hnp⟩ := okE.d hE 1 rfl (by decide)
    subst hnp
    obtain ⟨x, r, rfl, h⟩ := sI.inv hs
    obtain ⟨lv1, hle, h⟩ := lsetK.inv h
    exact lv_istore_n hx hb d rfl hl (hlv _ rfl) rfl (fun ls' hl' => hK _ _ _ _ _ h ls' H locs (lv_le hl' hle) hr hL)
  | istore n =>
    obtain ⟨d, hnp⟩ := okE.d hE 2 rfl (by decide)
    subst hnp
    obtain ⟨x, r, rfl, h⟩ := sI.inv hs
    obtain ⟨lv1, hle, h⟩ := lsetK.inv h
    exact lv_istore hx hb d hl (hlv _ rfl) rfl (fun ls' hl' => hK _ _ _ _ _ h ls' H locs (lv_le hl' hle) hr hL)
  | astore_n n =>
    obtain ⟨d, hnp⟩ := okE.d hE 1 rfl (by decide)
    subst hnp
    simp only [step] at hs
    obtain ⟨v, r, rfl, hv, h0⟩ := sQ.inv hs
    obtain ⟨lv1, hle, h⟩ := lsetK.inv h0
    rcases hv with rfl | ⟨a, rfl⟩
    · exact lv_astore_nN hx hb d rfl hl (hlv _ rfl) rfl (fun ls' hl' => hK _ _ _ _ _ h ls' H locs (lv_le hl' hle) hr hL)
    · exact lv_astore_n hx hb d rfl hl (hlv _ rfl) rfl (fun ls' hl' => hK _ _ _ _ _ h ls' H locs (lv_le hl' hle) hr hL)
  | astore n =>
    obtain ⟨d, hnp⟩ := okE.d hE 2 rfl (by decide)
    subst hnp
    simp only [step] at hs
    obtain ⟨v, r, rfl, hv, h0⟩ := sQ.inv hs
    obtain ⟨lv1, hle, h⟩ := lsetK.inv h0
    rcases hv with rfl | ⟨a, rfl⟩
    · exact lv_astoreN hx hb d hl (hlv _ rfl) rfl (fun ls' hl' => hK _ _ _ _ _ h ls' H locs (lv_le hl' hle) hr hL)
    · exact lv_astore hx hb d hl (hlv _ rfl) rfl (fun ls' hl' => hK _ _ _ _ _ h ls' H locs (lv_le hl' hle) hr hL)
  | lstore_n n =>
    obtain ⟨d, hnp⟩ := okE.d hE 1 rfl (by decide)
    subst hnp
    obtain ⟨x, r, rfl, h⟩ := sJ.inv hs
    obtain ⟨lv1, hle, h⟩ := lset2K.inv h
    exact lv_lstore_n hx hb d rfl hl (hlv _ rfl) rfl (fun ls' hl' => hK _ _ _ _ _ h ls' H locs (lv_le hl' hle) hr hL)
  | iinc n k =>
    obtain ⟨d, hnp⟩ := okE.d hE 3 rfl (by decide)
    subst hnp
    obtain ⟨x, hg, h⟩ := lI.inv hs
    obtain ⟨lv1, hle, h⟩ := lsetK.inv h
    obtain ⟨j, hj⟩ := List.getElem?_of_mem (lget_mem hg)
    exact lv_iinc hx hb d hl hj (by rw [of_decide_eq_true hI]) (hlv _ rfl) rfl (fun ls' hl' => hK _ _ _ _ _ h ls' H locs (lv_le hl' hle) hr hL)
  | iadd =>
    obtain ⟨d, hnp⟩ := okE.d hE 1 rfl (by decide)
    subst hnp
    obtain ⟨y, r, rfl, h⟩ := sI.inv hs
    obtain ⟨x, r, rfl, h⟩ := sI.inv h
    exact lv_iadd hx hb d (hK _ _ _ _ _ h ls H locs hl hr hL)
  | isub =>
    obtain ⟨d, hnp⟩ := okE.d hE 1 rfl (by decide)
    subst hnp
    obtain ⟨y, r, rfl, h⟩ := sI.inv hs
    obtain ⟨x, r, rfl, h⟩ := sI.inv h
    exact lv_isub hx hb d (hK _ _ _ _ _ h ls H locs hl hr hL)
  | imul =>
    obtain ⟨d, hnp⟩ := okE.d hE 1 rfl (by decide)
    subst hnp
    obtain ⟨y, r, rfl, h⟩ := sI.inv hs
    obtain ⟨x, r, rfl, h⟩ := sI.inv h
    exact lv_imul hx hb d (hK _ _ _ _ _ h ls H locs hl hr hL)
  | iand =>
    obtain ⟨d, hnp⟩ := okE.d hE 1 rfl (by decide)
    subst hnp
    obtain ⟨y, r, rfl, h⟩ := sI.inv hs
    obtain ⟨x, r, rfl, h⟩ := sI.inv h
    exact lv_iand hx hb d (hK _ _ _ _ _ h ls H locs hl hr hL)
  | ior =>
    obtain ⟨d, hnp⟩ := okE.d hE 1 rfl (by decide)
    subst hnp
    obtain ⟨y, r, rfl, h⟩ := sI.inv hs
    obtain ⟨x, r, rfl, h⟩ := sI.inv h
    exact lv_ior hx hb d (hK _ _ _ _ _ h ls H locs hl hr hL)
  | ixor =>
    obtain ⟨d, hnp⟩ := okE.d hE 1 rfl (by decide)
    subst hnp
    obtain ⟨y, r, rfl, h⟩ := sI.inv hs
    obtain ⟨x, r, rfl, h⟩ := sI.inv h
    exact lv_ixor hx hb d (hK _ _ _ _ _ h ls H locs hl hr hL)
  | ishl =>
    obtain ⟨d, hnp⟩ := okE.d hE 1 rfl (by decide)
    subst hnp
    obtain ⟨y, r, rfl, h⟩ := sI.inv hs
    obtain ⟨x, r, rfl, h⟩ := sI.inv h
    exact lv_ishl hx hb d (hK _ _ _ _ _ h ls H locs hl hr hL)
  | ishr =>
    obtain ⟨d, hnp⟩ := okE.d hE 1 rfl (by decide)
    subst hnp
    obtain ⟨y, r, rfl, h⟩ := sI.inv hs
    obtain ⟨x, r, rfl, h⟩ := sI.inv h
    exact lv_ishr hx hb d (hK _ _ _ _ _ h ls H locs hl hr hL)
  | iushr =>
    obtain ⟨d, hnp⟩ := okE.d hE 1 rfl (by decide)
    subst hnp
    obtain ⟨y, r, rfl, h⟩ := sI.inv hs
    obtain ⟨x, r, rfl, h⟩ := sI.inv h
    exact lv_iushr hx hb d rfl (hK _ _ _ _ _ h ls H locs hl hr hL)
  | idiv =>
    obtain ⟨d, hnp⟩ := okE.d hE 1 rfl (by decide)
    subst hnp
    obtain ⟨y, r, rfl, h⟩ := sI.inv hs
    obtain ⟨x, r, rfl, h⟩ := sI.inv h
    obtain ⟨hz, h⟩ := h
    exact lv_idiv hx hb d hz (hK _ _ _ _ _ h ls H locs hl hr hL)
  | irem =>
    obtain ⟨d, hnp⟩ := okE.d hE 1 rfl (by decide)
    subst hnp
    obtain ⟨y, r, rfl, h⟩ := sI.inv hs
    obtain ⟨x, r, rfl, h⟩ := sI.inv h
    obtain ⟨hz, h⟩ := h
    exact lv_irem hx hb d hz (hK _ _ _ _ _ h ls H locs hl hr hL)
  | i2b =>
    obtain ⟨d, hnp⟩ := okE.d hE 1 rfl (by decide)
    subst hnp
    obtain ⟨x, r, rfl, h⟩ := sI.inv hs
    exact lv_i2b hx hb d rfl (hK _ _ _ _ _ h ls H locs hl hr hL)
  | i2l =>
    obtain ⟨d, hnp⟩ := okE.d hE 1 rfl (by decide)
    subst hnp
    obtain ⟨x, r, rfl, h⟩ := sI.inv hs
    exact lv_i2l hx hb d rfl (hK _ _ _ _ _ h ls H locs hl hr hL)
  | l2i =>
    obtain ⟨d, hnp⟩ := okE.d hE 1 rfl (by decide)
    subst hnp
    obtain ⟨x, r, rfl, h⟩ := sJ.inv hs
    exact lv_l2i hx hb d rfl (hK _ _ _ _ _ h ls H locs hl hr hL)
  | lmul =>
    obtain ⟨d, hnp⟩ := okE.d hE 1 rfl (by decide)
    subst hnp
    obtain ⟨y, r, rfl, h⟩ := sJ.inv hs
    obtain ⟨x, r, rfl, h⟩ := sJ.inv h
    exact lv_lmul hx hb d (hK _ _ _ _ _ h ls H locs hl hr hL)
  | lushr =>
    obtain ⟨d, hnp⟩ := okE.d hE 1 rfl (by decide)
    subst hnp
    obtain ⟨y, r, rfl, h⟩ := sI.inv hs
    obtain ⟨x, r, rfl, h⟩ := sJ.inv h
    exact lv_lushr hx hb d rfl (hK _ _ _ _ _ h ls H locs hl hr hL)
  | lshr =>
    obtain ⟨d, hnp⟩ := okE.d hE 1 rfl (by decide)
    subst hnp
    obtain ⟨y, r, rfl, h⟩ := sI.inv hs
    obtain ⟨x, r, rfl, h⟩ := sJ.inv h
    exact lv_lshr hx hb d rfl (hK _ _ _ _ _ h ls H locs hl hr hL)
  | dup =>
    obtain ⟨d, hnp⟩ := okE.d hE 1 rfl (by decide)
    subst hnp
    simp only [step] at hs
    obtain ⟨v, r, rfl, hc, h⟩ := s1.inv hs
    exact lv_dup hx hb d hc (hK _ _ _ _ _ h ls H locs hl hr hL)
  | pop =>
    obtain ⟨d, hnp⟩ := okE.d hE 1 rfl (by decide)
    subst hnp
    simp only [step] at hs
    obtain ⟨v, r, rfl, hc, h⟩ := s1.inv hs
    exact lv_pop hx hb d hc (hK _ _ _ _ _ h ls H locs hl hr hL)
  | dup2 =>
    obtain ⟨d, hnp⟩ := okE.d hE 1 rfl (by decide)
    subst hnp
    simp only [step] at hs
    obtain ⟨v, r, rfl, hc, h⟩ := s1.inv hs
    obtain ⟨v2, r, rfl, hc2, h⟩ := s1.inv h
    exact lv_dup2_11 hx hb d hc hc2 (hK _ _ _ _ _ h ls H locs hl hr hL)
  | ifCond co off =>
    obtain ⟨d, hnp⟩ := okE.d hE 3 rfl (by decide)
    subst hnp
    cases co with
    | eq =>
      obtain ⟨x, r, rfl, h⟩ := sI.inv hs
      exact lv_if_eq hx hb d (of_decide_eq_true hI) (fun q => hK _ _ _ _ _ (h.1 q) ls H locs hl hr hL) (fun q => hK _ _ _ _ _ (h.2 q) ls H locs hl hr hL)
    | ne =>
      obtain ⟨x, r, rfl, h⟩ := sI.inv hs
      exact lv_if_ne hx hb d (of_decide_eq_true hI) (fun q => hK _ _ _ _ _ (h.2 q) ls H locs hl hr hL) (fun q => hK _ _ _ _ _ (h.1 q) ls H locs hl hr hL)
    | lt =>
      obtain ⟨x, r, rfl, h⟩ := sI.inv hs
      exact lv_if_lt hx hb d (of_decide_eq_true hI) (fun q => hK _ _ _ _ _ (h.1 q) ls H locs hl hr hL) (fun q => hK _ _ _ _ _ (h.2 q) ls H locs hl hr hL)
    | ge =>
      obtain ⟨x, r, rfl, h⟩ := sI.inv hs
      exact lv_if_ge hx hb d (of_decide_eq_true hI) (fun q => hK _ _ _ _ _ (h.1 q) ls H locs hl hr hL) (fun q => hK _ _ _ _ _ (h.2 q) ls H locs hl hr hL)
    | gt =>
      obtain ⟨x, r, rfl, h⟩ := sI.inv hs
      exact lv_if_gt hx hb d (of_decide_eq_true hI) (fun q => hK _ _ _ _ _ (h.1 q) ls H locs hl hr hL) (fun q => hK _ _ _ _ _ (h.2 q) ls H locs hl hr hL)
    | le =>
      obtain ⟨x, r, rfl, h⟩ := sI.inv hs
      exact lv_if_le hx hb d (of_decide_eq_true hI) (fun q => hK _ _ _ _ _ (h.1 q) ls H locs hl hr hL) (fun q => hK _ _ _ _ _ (h.2 q) ls H locs hl hr hL)
  | if_icmp co off =>
    obtain ⟨d, hnp⟩ := okE.d hE 3 rfl (by decide)
    subst hnp
    cases co with
    | eq =>
      obtain ⟨y, r, rfl, h⟩ := sI.inv hs
      obtain ⟨x, r, rfl, h⟩ := sI.inv h
      exact lv_icmp_eq hx hb d (of_decide_eq_true hI) (fun q => hK _ _ _ _ _ (h.1 q) ls H locs hl hr hL) (fun q => hK _ _ _ _ _ (h.2 q) ls H locs hl hr hL)
    | ne =>
      obtain ⟨y, r, rfl, h⟩ := sI.inv hs
      obtain ⟨x, r, rfl, h⟩ := sI.inv h
      exact lv_icmp_ne hx hb d (of_decide_eq_true hI) (fun q => hK _ _ _ _ _ (h.2 q) ls H locs hl hr hL) (fun q => hK _ _ _ _ _ (h.1 q) ls H locs hl hr hL)
    | lt =>
      obtain ⟨y, r, rfl, h⟩ := sI.inv hs
      obtain ⟨x, r, rfl, h⟩ := sI.inv h
      exact lv_icmp_lt hx hb d (of_decide_eq_true hI) (fun q => hK _ _ _ _ _ (h.1 q) ls H locs hl hr hL) (fun q => hK _ _ _ _ _ (h.2 q) ls H locs hl hr hL)
    | ge =>
      obtain ⟨y, r, rfl, h⟩ := sI.inv hs
      obtain ⟨x, r, rfl, h⟩ := sI.inv h
      exact lv_icmp_ge hx hb d (of_decide_eq_true hI) (fun q => hK _ _ _ _ _ (h.1 q) ls H locs hl hr hL) (fun q => hK _ _ _ _ _ (h.2 q) ls H locs hl hr hL)
    | gt =>
      obtain ⟨y, r, rfl, h⟩ := sI.inv hs
      obtain ⟨x, r, rfl, h⟩ := sI.inv h
      exact lv_icmp_gt hx hb d (of_decide_eq_true hI) (fun q => hK _ _ _ _ _ (h.1 q) ls H locs hl hr hL) (fun q => hK _ _ _ _ _ (h.2 q) ls H locs hl hr hL)
    | le =>
      obtain ⟨y, r, rfl, h⟩ := sI.inv hs
      obtain ⟨x, r, rfl, h⟩ := sI.inv h
      exact lv_icmp_le hx hb d (of_decide_eq_true hI) (fun q => hK _ _ _ _ _ (h.1 q) ls H locs hl hr hL) (fun q => hK _ _ _ _ _ (h.2 q) ls H locs hl hr hL)
  | ifnull off =>
    obtain ⟨d, hnp⟩ := okE.d hE 3 rfl (by decide)
    subst hnp
    simp only [step] at hs
    split at hs
    · exact lv_ifnullN hx hb d (of_decide_eq_true hI) (hK _ _ _ _ _ hs ls H locs hl hr hL)
    · exact lv_ifnull hx hb d (hK _ _ _ _ _ hs ls H locs hl hr hL)
    · exact hs.elim
  | ifnonnull off =>
    obtain ⟨d, hnp⟩ := okE.d hE 3 rfl (by decide)
    subst hnp
    simp only [step] at hs
    split at hs
    · exact lv_ifnonnullN hx hb d (hK _ _ _ _ _ hs ls H locs hl hr hL)
    · exact lv_ifnonnull hx hb d (of_decide_eq_true hI) (hK _ _ _ _ _ hs ls H locs hl hr hL)
    · exact hs.elim
  | goto off =>
    obtain ⟨d, hnp⟩ := okE.d hE 3 rfl (by decide)
    subst hnp
    have h := hs
    exact lv_goto hx hb d (of_decide_eq_true hI) (hK _ _ _ _ _ h ls H locs hl hr hL)
  | tableswitch df lo hi offs =>
    have d := okE.w hE
    obtain ⟨x, r, rfl, h⟩ := sI.inv hs
    simp only [okI, Bool.and_eq_true, decide_eq_true_eq, List.all_eq_true] at hI
    obtain ⟨⟨hd, ho⟩, hz⟩ := hI
    by_cases hc : x.toInt < lo ∨ hi < x.toInt
    · exact lv_tableOut hx hb d hc (Int.toNat_of_nonneg hd).symm (hK _ _ _ _ _ (h.1 hc) ls H locs hl hr hL)
    · have h9 := h.2 hc
      have q1 : ¬ x.toInt < lo := fun q => hc (Or.inl q)
      have q2 : ¬ hi < x.toInt := fun q => hc (Or.inr q)
      have q3 : (x.toInt - lo).toNat < offs.size := by omega
      have q4 : offs[(x.toInt - lo).toNat]? = some offs[(x.toInt - lo).toNat] := Array.getElem?_eq_getElem q3
      have q5 := ho _ (Array.getElem_mem_toList q3)
      exact lv_tableIn hx hb d q1 q2 q4 (Int.toNat_of_nonneg q5).symm (hK _ _ _ _ _ (h9 _ _ q4 (by omega)) ls H locs hl hr hL)
  | getfield i =>
    obtain ⟨d, hnp⟩ := okE.d hE 3 rfl (by decide)
    subst hnp
    simp only [step] at hs
    split at hs
    · rename_i ci k hv
      obtain ⟨hw, hq⟩ := hcp _ _ hv
      simp only [rB, Bool.and_eq_true, decide_eq_true_eq] at hq
      obtain ⟨g1, g2, -, -, -⟩ := clOK ci hq.1
      obtain ⟨a, r, rfl, h⟩ := sA.inv hs
      obtain ⟨fs, v, ha, hv2, h⟩ := h
      exact va_get hx hb hts g2 hown hKn.1 (hr.one ha) 0 rfl g1 k hq.2 (hts _ (hw _ List.mem_cons_self)) (fun _ h9 => h9) hv2 d (hK _ _ _ _ _ h ls H locs hl hr hL)
    · exact hs.elim
  | putfield i =>
    obtain ⟨d, hnp⟩ := okE.d hE 3 rfl (by decide)
    subst hnp
    simp only [step] at hs
    split at hs
    · rename_i ci k hv
      obtain ⟨hw, hq⟩ := hcp _ _ hv
      simp only [rB, Bool.and_eq_true, decide_eq_true_eq] at hq
      obtain ⟨g1, g2, g3, g4, g5⟩ := clOK ci hq.1
      obtain ⟨hf, hs⟩ := hs
      obtain ⟨v, r, rfl, hc, h⟩ := s1.inv hs
      obtain ⟨a, r, rfl, h⟩ := sA.inv h
      obtain ⟨fs, ha, hlt, hn, hft, h⟩ := h
      have h := h _ rfl
      refine r_put hx hb hts g2 (mFt ci) g3 g4 hown hKn.1 hr ha g1 k hq.2 (hts _ (hw _ List.mem_cons_self)) ?_ hn hft hlt d (fun H1 L hLb hr1 => hK _ _ _ _ _ h ls H1 _ hl hr1 (m_locs hL hLb ha.1))
      rcases hf with hf | ⟨hf, hi, hci⟩
      · exact Or.inl hf
      · refine Or.inr ⟨hf, hini hi, ?_⟩
        rw [g5 k hq.2, hci]
        exact hrn hi
    · exact hs.elim
  | getstatic i =>
    obtain ⟨d, hnp⟩ := okE.d hE 3 rfl (by decide)
    subst hnp
    simp only [step] at hs
    split at hs
    · rename_i hv
      have hw := (hcp _ _ hv).1
      exact r_gets hx hb hKn.2.2.1 hr hown (hts _ (hw _ List.mem_cons_self)) d (hK _ _ _ _ _ hs ls H locs hl hr hL)
    · rename_i hv
      have hw := (hcp _ _ hv).1
      exact r_gets hx hb hKn.2.2.2.1 hr hown (hts _ (hw _ List.mem_cons_self)) d (hK _ _ _ _ _ hs ls H locs hl hr hL)
    · exact hs.elim
  | iaload =>
    obtain ⟨d, hnp⟩ := okE.d hE 1 rfl (by decide)
    subst hnp
    obtain ⟨i, r, rfl, h⟩ := sI.inv hs
    obtain ⟨a, r, rfl, h⟩ := sA.inv h
    rcases h with ⟨n, f, ha, hi, h⟩ | ⟨j, hj, rfl, hi, h⟩ <;> have h := h _ rfl
    · exact va_iald hx hb hKn.1 (hr.one ha) 0 0 rfl rfl hi d (hK _ _ _ _ _ h ls H locs hl hr hL)
    · exact r_xld hx hb (hKn.2.1 j hj).2 hr (hKn.2.1 j hj).1 hi d (hK _ _ _ _ _ h ls H locs hl hr hL)
  | baload =>
    obtain ⟨d, hnp⟩ := okE.d hE 1 rfl (by decide)
    subst hnp
    obtain ⟨i, r, rfl, h⟩ := sI.inv hs
    obtain ⟨a, r, rfl, h⟩ := sA.inv h
    obtain ⟨n, f, ha, hi, h⟩ := h
    have h := h _ rfl
    exact va_bald hx hb hKn.1 (hr.one ha) 0 1 rfl rfl hi d (hK _ _ _ _ _ h ls H locs hl hr hL)
  | aaload =>
    obtain ⟨d, hnp⟩ := okE.d hE 1 rfl (by decide)
    subst hnp
    obtain ⟨i, r, rfl, h⟩ := sI.inv hs
    obtain ⟨a, r, rfl, h⟩ := sA.inv h
    obtain ⟨t, n, f, ht, ha, hi, h⟩ := h
    have h := h _ rfl
    have ht2 : ∃ ty, (mTys G)[t]? = some (G.2.1 t, ty) ∧ ty.isReference = true := by
      rcases (show t = 2 ∨ t = 3 ∨ t = 4 ∨ t = 5 ∨ t = 6 by omega) with rfl | rfl | rfl | rfl | rfl <;> exact ⟨_, rfl, rfl⟩
    obtain ⟨ty, ht3, ht4⟩ := ht2
    exact r_aald hx hb hKn.1 hr ht3 ht4 ha hi d (hK _ _ _ _ _ h ls H locs hl hr hL)
  | iastore =>
    obtain ⟨d, hnp⟩ := okE.d hE 1 rfl (by decide)
    subst hnp
    obtain ⟨x, r, rfl, h⟩ := sI.inv hs
    obtain ⟨i, r, rfl, h⟩ := sI.inv h
    obtain ⟨a, r, rfl, h⟩ := sA.inv h
    obtain ⟨n, f, ha, hi, h⟩ := h
    have h := h _ rfl
    exact r_iast hx hb hKn.1 hr ha hi d (fun H1 L hLb hr1 => hK _ _ _ _ _ h ls H1 _ hl hr1 (m_locs hL hLb ha.1))
  | bastore =>
    obtain ⟨d, hnp⟩ := okE.d hE 1 rfl (by decide)
    subst hnp
    obtain ⟨x, r, rfl, h⟩ := sI.inv hs
    obtain ⟨i, r, rfl, h⟩ := sI.inv h
    obtain ⟨a, r, rfl, h⟩ := sA.inv h
    obtain ⟨n, f, ha, hi, h⟩ := h
    have h := h _ rfl
    exact r_bast hx hb hKn.1 hr ha hi d (fun H1 L hLb hr1 => hK _ _ _ _ _ h ls H1 _ hl hr1 (m_locs hL hLb ha.1))
  | aastore =>
    obtain ⟨d, hnp⟩ := okE.d hE 1 rfl (by decide)
    subst hnp
    obtain ⟨v, r, rfl, h⟩ := sA.inv hs
    obtain ⟨i, r, rfl, h⟩ := sI.inv h
    obtain ⟨a, r, rfl, h⟩ := sA.inv h
    obtain ⟨t, n, f, ci, r0, vs, ht, ha, hv, hi, h⟩ := h
    have h := h _ rfl
    have ht2 : (mTys G)[t]? = some (G.2.1 t, .object r0.1) ∧ vwCl[ci]? = some r0 := by
      unfold mEl at ht
      split at ht <;> first | (cases ht; exact ⟨rfl, rfl⟩) | cases ht
    exact r_aast hx hb hKn.1 hr ht2.1 ht2.2 ha hv hi d (fun H1 L hLb hr1 => hK _ _ _ _ _ h ls H1 _ hl hr1 (m_locs hL hLb ha.1))
  | arraylength =>
    obtain ⟨d, hnp⟩ := okE.d hE 1 rfl (by decide)
    subst hnp
    obtain ⟨a, r, rfl, h⟩ := sA.inv hs
    rcases h with ⟨t, n, x, ht, ha, h⟩ | ⟨j, hj, rfl, h⟩ <;> have h := h _ rfl
    · have ht2 : ∃ ty, (mTys G)[t]? = some (G.2.1 t, ty) := by
        rcases (show t = 0 ∨ t = 1 ∨ t = 2 ∨ t = 3 ∨ t = 4 ∨ t = 5 ∨ t = 6 by omega) with rfl | rfl | rfl | rfl | rfl | rfl | rfl <;> exact ⟨_, rfl⟩
      obtain ⟨ty, ht3⟩ := ht2
      exact va_alen hx hb hKn.1 (hr.one ha) 0 t rfl ht3 rfl d (hK _ _ _ _ _ h ls H locs hl hr hL)
    · exact r_xlen hx hb (hKn.2.1 j hj).2 hr (hKn.2.1 j hj).1 d (hK _ _ _ _ _ h ls H locs hl hr hL)
  | invokevirtual i =>
    obtain ⟨d, hnp⟩ := okE.d hE 3 rfl (by decide)
    subst hnp
    simp only [step] at hs
    split at hs
    · rename_i q hv
      obtain ⟨hk0, hs⟩ := hs
      obtain ⟨hw, hq⟩ := hcp _ _ hv
      simp only [rB, hk0, qB, Bool.and_eq_true, decide_eq_true_eq] at hq
      simp only [rW, hk0] at hw
      obtain ⟨⟨hq1, hq2⟩, hq3⟩ := hq
      obtain ⟨as, r, hn, rfl, h⟩ := sArgs.inv hs
      obtain ⟨a, r, rfl, hrm, h⟩ := sA.inv h
      obtain ⟨⟨fs, ha⟩, rm, K0, hcon, hR, hC, h⟩ := h
      rw [List.append_nil] at hcon
      have hw1 : ∀ w : Cond, w ∈ _ → w.before args s = true := fun w h9 => hts w (hw w h9)
      refine m_after (va_runV (As := as) (rest := r) (C := q.2.1.cls) ⟨hx, hb, hml, hown, hts⟩ (hcon l) (ws := mWs q.2.1 q.2.2.1 q.2.2.2.1 q.2.2.2.2.1) (n := q.2.2.2.2.2.1) (bytes := q.2.2.1) (maxL := q.2.2.2.1) (ret := q.2.2.2.2.1) ⟨callB_of _ hts (mWs_good (hw _ (List.mem_of_getElem? (i := 4) rfl))) rfl rfl rfl (hw1 _ (List.mem_of_getElem? (i := 3) rfl)) (hw1 _ (List.mem_of_getElem? (i := 0) rfl)) hq1 hR, hw1 _ (List.mem_of_getElem? (i := 1) rfl), hw1 _ (List.mem_of_getElem? (i := 2) rfl)⟩ ⟨m_blind, ?_, fun U hU hW => ⟨rfl, by rw [hU]; exact hr, mK.moved hW hKn⟩⟩ rfl hn hl.1 rfl (lv_room hrm) d hC) hl hL rfl (fun v S9 h9 => hK _ _ _ _ _ (pushv.to (h v _ S9 h9 rfl)))
      have g1 := (clOK q.2.2.2.2.2.2 hq2).1
      have h8 := va_recv hKn.1 (hr.one ha) g1 (q0 := 0) rfl
      rw [show (mRn q.2.2.2.2.2.2, mTb q.2.2.2.2.2.2, mN q.2.2.2.2.2.2).1 = q.2.1.cls from hq3] at h8
      exact h8
    · exact hs.elim
  | invokestatic i =>
    obtain ⟨d, hnp⟩ := okE.d hE 3 rfl (by decide)
    subst hnp
    simp only [step] at hs
    split at hs
    · rename_i q hv
      obtain ⟨hw, hq⟩ := hcp _ _ hv
      split at hs
      · rename_i hk0
        simp only [rB, hk0, qB, decide_eq_true_eq] at hq
        simp only [rW, hk0] at hw
        obtain ⟨as, r, hn, rfl, hrm, h⟩ := sArgs.inv hs
        obtain ⟨rm, K0, hcon, hR, hC, h⟩ := h
        rw [List.append_nil] at hcon
        have hw1 : ∀ w : Cond, w ∈ _ → w.before args s = true := fun w h9 => hts w (hw w h9)
        exact m_after (va_runS (As := as) (rest := r) ⟨hx, hb, hml, hown, hts⟩ (hcon l) (ws := mWs q.2.1 q.2.2.1 q.2.2.2.1 q.2.2.2.2.1) (n := q.2.2.2.2.2.1) (bytes := q.2.2.1) (maxL := q.2.2.2.1) (ret := q.2.2.2.2.1) ⟨callB_of _ hts (mWs_good (hw _ (List.mem_of_getElem? (i := 3) rfl))) rfl rfl rfl (hw1 _ (List.mem_of_getElem? (i := 2) rfl)) (hw1 _ (List.mem_of_getElem? (i := 0) rfl)) hq hR, hw1 _ (List.mem_of_getElem? (i := 1) rfl)⟩ ⟨m_blind, fun U hU hW => ⟨rfl, by rw [hU]; exact hr, mK.moved hW hKn⟩⟩ rfl hn hl.1 rfl (lv_room hrm) d hC) hl hL rfl (fun v S9 h9 => hK _ _ _ _ _ (pushv.to (h v _ S9 h9 rfl)))
      · rename_i hk0
        simp only [rW, hk0] at hw
        have hw1 : ∀ w : Cond, w ∈ _ → w.before args s = true := fun w h9 => hts w (hw w h9)
        obtain ⟨n, r1, rfl, h1⟩ := sI.inv hs
        obtain ⟨dp, r2, rfl, h2⟩ := sI.inv h1
        obtain ⟨a, r3, rfl, h3⟩ := sA.inv h2
        obtain ⟨sp, r4, rfl, h4⟩ := sI.inv h3
        obtain ⟨a0, r, rfl, hrm, h⟩ := sA.inv h4
        obtain ⟨⟨z1, z2, z3⟩, hf, hlo, h⟩ := h
        have hlo2 : (r.map fun v => v.category).sum + (nativeFrameWords "java/lang/System" "arraycopy" 5 + 11) ≤ R.locals := by
          have h8 : nativeFrameWords "java/lang/System" "arraycopy" 5 ≤ 41 := by decide
          omega
        rcases h with ⟨n0, n1, f, g, ha0, ha1, h4, h5, hft, h⟩ | ⟨j, n1, g, hj, rfl, ha1, h4, h5, h⟩ <;> have h := h _ rfl
        · refine r_copy hx hb (hml.trans hl.1.symm) hown (hw1 _ (List.mem_of_getElem? (i := 0) rfl)) (hw1 _ (List.mem_of_getElem? (i := 1) rfl)) (hw1 _ (List.mem_of_getElem? (i := 2) rfl)) (hw1 _ (List.mem_of_getElem? (i := 3) rfl)) hKn.1 hr (t1 := 1) (n0 := n0) (f := f) (ty := .byte) (hr.at ha0) ((hKn.1.2 1 (G.2.1 1, .byte) rfl).1 n0 (fun j => .int (f j))) (fun q => by cases q) (by show (arrV _ _ _).slots.size = _; rw [arrV_size]) (fun j hj => by show (arrV _ _ _).slots[_]? = _; rw [arrV_read _ _ hj]) ha1 rfl rfl z1 z2 z3 h4 h5 hft hf hlo2 d (fun H1 L hLb hr1 => hK _ _ _ _ _ h ls H1 _ hl hr1 (m_locsL hL (fun q hq9 => by rw [hLb q hq9]; exact ha1.1)))
        · obtain ⟨hlt, scr, x1, x2, x3, x4, x5⟩ := hKn.2.1 j hj
          refine r_copy hx hb (hml.trans hl.1.symm) hown (hw1 _ (List.mem_of_getElem? (i := 0) rfl)) (hw1 _ (List.mem_of_getElem? (i := 1) rfl)) (hw1 _ (List.mem_of_getElem? (i := 2) rfl)) (hw1 _ (List.mem_of_getElem? (i := 3) rfl)) hKn.1 hr (t1 := 0) (n0 := (G.2.2.2 j).2.1) (f := (G.2.2.2 j).2.2) (ty := .int) (src := scr) (by rw [hr.2.2.1 _ hlt]; exact x1) x2 x3 x4 x5 ha1 rfl rfl z1 z2 z3 h4 h5 (fun _ _ => rfl) hf hlo2 d (fun H1 L hLb hr1 => hK _ _ _ _ _ h ls H1 _ hl hr1 (m_locsL hL (fun q hq9 => by rw [hLb q hq9]; exact ha1.1)))
      · rename_i hk0
        simp only [rW, hk0] at hw
        have hw1 : ∀ w : Cond, w ∈ _ → w.before args s = true := fun w h9 => hts w (hw w h9)
        obtain ⟨y, r, rfl, h⟩ := sI.inv hs
        obtain ⟨x, r, rfl, hrm, ⟨hf, hlo, hc1, hc2⟩, h⟩ := sI.inv h
        exact va_mmax hx hb (hml.trans hl.1.symm) hown (hw1 _ (List.mem_of_getElem? (i := 0) rfl)) (hw1 _ (List.mem_of_getElem? (i := 1) rfl)) (hw1 _ (List.mem_of_getElem? (i := 2) rfl)) (hw1 _ (List.mem_of_getElem? (i := 3) rfl)) hf (by omega) hc1 hc2 d (hK _ _ _ _ _ h ls H locs hl hr hL)
      · exact hs.elim
    · exact hs.elim
  | invokespecial i =>
    obtain ⟨d, hnp⟩ := okE.d hE 3 rfl (by decide)
    subst hnp
    simp only [step] at hs
    split at hs
    · rename_i q hv
      obtain ⟨hw, hq⟩ := hcp _ _ hv
      split at hs
      · rename_i hk0
        simp only [rB, hk0, qB, Bool.and_eq_true, decide_eq_true_eq] at hq
        simp only [rW, hk0] at hw
        obtain ⟨⟨hq1, hq2⟩, hq3⟩ := hq
        obtain ⟨as, r, hn, rfl, h⟩ := sArgs.inv hs
        obtain ⟨a, r, rfl, hrm, h⟩ := sA.inv h
        obtain ⟨rm, K0, hcon, hR, hC, h⟩ := h
        rw [List.append_nil, hq3] at hcon
        have hw1 : ∀ w : Cond, w ∈ _ → w.before args s = true := fun w h9 => hts w (hw w h9)
        exact m_after (va_runI (As := as) (rest := r) ⟨hx, hb, hml, hown, hts⟩ (hcon l) (ws := mWs q.2.1 q.2.2.1 q.2.2.2.1 none) (n := q.2.2.2.2.2.1) (bytes := q.2.2.1) (maxL := q.2.2.2.1) ⟨callB_of _ hts (mWs_good (hw _ (List.mem_of_getElem? (i := 3) rfl))) rfl rfl rfl (hw1 _ (List.mem_of_getElem? (i := 2) rfl)) (hw1 _ (List.mem_of_getElem? (i := 0) rfl)) hq1 hR, hq2, hw1 _ (List.mem_of_getElem? (i := 1) rfl)⟩ ⟨m_blind, fun U hU hW => ⟨rfl, by rw [hU]; exact hr, mK.moved hW hKn⟩⟩ rfl hn hl.1 rfl (lv_room hrm) d hC) hl hL rfl (fun v S9 h9 => hK _ _ _ _ _ (pushv.to (h v _ S9 h9 rfl)))
      · rename_i hk0
        simp only [rB, hk0, qB, Bool.and_eq_true, decide_eq_true_eq] at hq
        simp only [rW, hk0] at hw
        obtain ⟨⟨⟨⟨hq1, hq2⟩, hq3⟩, hq4⟩, hq5⟩ := hq
        obtain ⟨as, r, hn, rfl, h⟩ := sArgs.inv hs
        obtain ⟨a, r, rfl, hrm, h⟩ := sA.inv h
        obtain ⟨rm, K0, hcon, hR, hC, h⟩ := h
        rw [List.append_nil, hq3] at hcon
        have hw1 : ∀ w : Cond, w ∈ _ → w.before args s = true := fun w h9 => hts w (hw w h9)
        have hnw := hKn.2.2.2.2.1 _ hq4
        rw [hq5] at hown
        exact m_after (va_runIN (As := as) (rest := r) (host := RX7) ⟨hx, hb, hml, hown, hts⟩ (hcon l) (ws := mWs q.2.1 q.2.2.1 q.2.2.2.1 none) (n := q.2.2.2.2.2.1) (bytes := q.2.2.1) (maxL := q.2.2.2.1) ⟨va_cnB _ hts (mWs_good (hw _ (List.mem_of_getElem? (i := 2) rfl))) rfl rfl rfl hnw (hw1 _ (List.mem_of_getElem? (i := 1) rfl)) hq1 hR, hq2, hw1 _ (List.mem_of_getElem? (i := 0) rfl)⟩ ⟨m_blind, fun U hU hW => ⟨rfl, by rw [hU]; exact hr, mK.moved hW hKn⟩⟩ rfl hn hl.1 rfl (lv_room hrm) d hC) hl hL rfl (fun v S9 h9 => hK _ _ _ _ _ (pushv.to (h v _ S9 h9 rfl)))
      · rename_i hk0
        simp only [rW, hk0] at hw
        have hw1 : ∀ w : Cond, w ∈ _ → w.before args s = true := fun w h9 => hts w (hw w h9)
        obtain ⟨a, r, rfl, hrm, ⟨hf, hlo⟩, h⟩ := sA.inv hs
        refine W.objInit hx hb hown (hw1 _ (List.mem_of_getElem? (i := 0) rfl)) (hw1 _ (List.mem_of_getElem? (i := 1) rfl)) (hw1 _ (List.mem_of_getElem? (i := 2) rfl)) rfl (by rw [hml]; exact hl.1) rfl d hf ?_ (W.eq (g2 := F0 m (pc + 3) ls r) rfl (hK _ _ _ _ _ h ls H locs hl hr hL))
        show 2 * 0 + _ + 12 ≤ _
        omega
      · exact hs.elim
    · exact hs.elim
  | new i =>
    obtain ⟨d, hnp⟩ := okE.d hE 3 rfl (by decide)
    subst hnp
    simp only [step] at hs
    split at hs
    · rename_i ci hv
      obtain ⟨hw, hq⟩ := hcp _ _ hv
      obtain ⟨hci, ⟨hc1, hc2⟩, h⟩ := hs
      obtain ⟨g1, g2, g3, g4, g5⟩ := clOK ci hci
      have e1 : rW I i (.inr (.inr (.inr (.inr ci)))) = [.classLink I.1.1 i (mRn ci), .instantiable (mRn ci) (mN ci), .initialized (mRn ci)] := by
        simp only [rW]
        rw [if_neg (by omega), if_neg (by omega)]
      rw [e1] at hw
      have hw1 : ∀ w : Cond, w ∈ _ → w.before args s = true := fun w h9 => hts w (hw w h9)
      exact r_new hx hb hts g2 (mFt ci) g3 hown (hw1 _ (List.mem_of_getElem? (i := 0) rfl)) (hw1 _ (List.mem_of_getElem? (i := 1) rfl)) (hw1 _ (List.mem_of_getElem? (i := 2) rfl)) hKn.1 hr g1 (mDef_ok ci) hc1 hc2 d (fun H1 hr1 => hK _ _ _ _ _ h ls H1 locs hl hr1 hL)
    · exact hs.elim
  | newarray at0 =>
    obtain ⟨d, hnp⟩ := okE.d hE 2 rfl (by decide)
    subst hnp
    cases at0 with
    | int =>
      obtain ⟨n, r, rfl, h⟩ := sI.inv hs
      obtain ⟨hn, hn2, ⟨hc1, hc2⟩, h⟩ := h
      exact r_newa (atype := .int) hx hb (hts _ acI) hKn.1 (t0 := 0) rfl (fun A h9 => h9) hr rfl hn rfl (by show _ * _ ≤ _; simp only [componentBytes, newarray.typeOf]; omega) hc1 hc2 d (fun H1 hr1 => hK _ _ _ _ _ h ls H1 locs hl hr1 hL)
    | byte =>
      obtain ⟨n, r, rfl, h⟩ := sI.inv hs
      obtain ⟨hn, hn2, ⟨hc1, hc2⟩, h⟩ := h
      exact r_newa (atype := .byte) hx hb (hts _ acB) hKn.1 (t0 := 1) rfl (fun A h9 => h9) hr rfl hn rfl (by show _ * _ ≤ _; simp only [componentBytes, newarray.typeOf]; omega) hc1 hc2 d (fun H1 hr1 => hK _ _ _ _ _ h ls H1 locs hl hr1 hL)
    | _ => exact False.elim hs
  | anewarray i =>
    obtain ⟨d, hnp⟩ := okE.d hE 3 rfl (by decide)
    subst hnp
    simp only [step] at hs
    split at hs
    · rename_i ci hv
      obtain ⟨hw, hq⟩ := hcp _ _ hv
      obtain ⟨hci, hs⟩ := hs
      obtain ⟨g1, g2, g3⟩ := mTo_lt hci
      have e1 : rW I i (.inr (.inr (.inr (.inr ci)))) = [.classLink I.1.1 i (mRn ci), .instantiable (mRn ci) (mN ci), .initialized (mRn ci)] := by
        simp only [rW]
        rw [if_neg (by omega), if_neg (by omega)]
      rw [e1] at hw
      have hw1 : ∀ w : Cond, w ∈ _ → w.before args s = true := fun w h9 => hts w (hw w h9)
      obtain ⟨n, r, rfl, h⟩ := sI.inv hs
      obtain ⟨hn, hn2, ⟨hc1, hc2⟩, h⟩ := h
      exact r_newq hx hb hown (hw1 _ (List.mem_of_getElem? (i := 0) rfl)) (hKn.2.2.2.2.2.1 _ g2) hKn.1 (g3 G) hr hn rfl (by omega) hc1 hc2 d (fun H1 hr1 => hK _ _ _ _ _ h ls H1 locs hl hr1 hL)
    · exact hs.elim
  | ireturn =>
    obtain ⟨d, hnp⟩ := okE.d hE 1 rfl (by decide)
    subst hnp
    obtain ⟨x, r, rfl, h⟩ := sI.inv hs
    obtain ⟨rfl, h⟩ := s0.inv h
    obtain ⟨hcs, ⟨ty, ht, hn⟩, h⟩ := h
    rcases hQ with rfl | hQ
    · exact W.widen hcs.1 hcs.2 (W.zret hx hb (hret.trans ht) hn (fun t ht9 hW9 => ⟨_, S, rfl, h, by rw [ht9]; exact hr⟩) hL d hlocks)
    · exact (hQ _ _ h).elim
  | areturn =>
    obtain ⟨d, hnp⟩ := okE.d hE 1 rfl (by decide)
    subst hnp
    simp only [step] at hs
    obtain ⟨v, r, rfl, hv, h⟩ := sQ.inv hs
    obtain ⟨rfl, h⟩ := s0.inv h
    obtain ⟨hcs, hty, h⟩ := h
    have hty2 : ∃ ty, I.2.2.2 = some ty ∧ ((∃ n, ty = .object n) ∨ ∃ t, ty = .array t) := by
      rcases hv with rfl | ⟨a, rfl⟩ <;> exact hty
    obtain ⟨ty, ht, hty3⟩ := hty2
    rcases hQ with rfl | hQ
    · exact W.widen hcs.1 hcs.2 (W.aret hx hb (hret.trans ht) hty3 hv (fun t ht9 hW9 => ⟨_, S, rfl, h, by rw [ht9]; exact hr⟩) hL d hlocks)
    · exact (hQ _ _ h).elim
  | return_ =>
    obtain ⟨d, hnp⟩ := okE.d hE 1 rfl (by decide)
    subst hnp
    obtain ⟨rfl, h⟩ := s0.inv hs
    obtain ⟨hcs, ht, h⟩ := h
    rcases hQ with rfl | hQ
    · exact W.widen hcs.1 hcs.2 (W.vret hx hb (hret.trans ht) (fun t ht9 hW9 => ⟨_, S, rfl, h, by rw [ht9]; exact hr⟩) hL d hlocks)
    · exact (hQ _ _ h).elim
  | _ => exact False.elim hs
end SND
