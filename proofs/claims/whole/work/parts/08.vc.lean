def vc (G : mG) (R : Room) (I : mI) (mc ms : Nat) (KR : Option Value → mS → Prop) (ct : Nat → Option mE) (cuts : Nat → Option Nat) (J : Nat → mL → List Value → Nat × Nat → mS → Prop) : Nat → Nat → mL → List Value → Nat × Nat → mS → Prop
  | 0, _, _, _, _, _ => False
  | f + 1, pc, lv, st, cs, S => match ct pc with
    | none => False
    | some (ins, np, tg, val) => step G R I mc ms KR pc ins np tg val lv st cs S (fun pc' lv' st' cs' S' => match cuts pc' with
      | some k => ltrimK k lv' fun lv2 => J pc' lv2 st' cs' S'
      | none => vc G R I mc ms KR ct cuts J f pc' lv' st' cs' S')
/-- from this point on the method comes to its end, whoever called it -/
def Gd (G : mG) (I : mI) (cc : ByteArray) (nL : Nat) (R : Room) (mc ms : Nat) (KR : Option Value → mS → Prop) (pc : Nat) (lv : mL) (st : List Value) (cs : Nat × Nat) (S : mS) : Prop :=
  ∀ (p : Program) (l : Launch) (e : Env) (s : State) (m : MethodId) (args : Array Value) (below : List Frame) (meth : Method) (c : Code), mCx G I p s m args meth c cc nL → gd p l e R s m args below meth c G nL (MQ below (mQc G KR) args s mc ms (fun q => mb G ≤ q)) pc lv st cs S
theorem Gd.of {G : mG} {I : mI} {cc : ByteArray} {nL : Nat} {R : Room} {mc ms : Nat} {KR : Option Value → mS → Prop} {ct : Nat → Option mE} {cuts : Nat → Option Nat} (hcp : cpOK I) (hct : tAll (okC cc nL) ct) :
    ∀ (f : Nat) {pc : Nat} {lv : mL} {st : List Value} {cs : Nat × Nat} {S : mS}, vc G R I mc ms KR ct cuts (Gd G I cc nL R mc ms KR) f pc lv st cs S → Gd G I cc nL R mc ms KR pc lv st cs S := by
  intro f
  induction f with
  | zero => intro pc lv st cs S h; exact h.elim
  | succ f ih =>
    intro pc lv st cs S h p l e s m args below meth c X
    unfold vc at h
    split at h
    · exact h.elim
    · rename_i ins np tg val hE
      obtain ⟨h1, h2⟩ := hct pc _ hE
      refine st_ok (Or.inl rfl) X hcp h1 h2 h (fun pc' lv' st' cs' S' hk => ?_)
      split at hk
      · intro ls H locs hl hr hL
        obtain ⟨lv2, hle, hk⟩ := ltrimK.inv hk
        exact hk p l e s m args below meth c X ls H locs (lv_le hl hle) hr hL
      · exact ih hk p l e s m args below meth c X
theorem mCon.of {G : mG} {I : mI} {cc : ByteArray} {nL : Nat} {rm : Room} {KR : Option Value → mS → Prop} {av : List Value} {S : mS} {y : MethodName} {ret : Option FieldType} (hy : plainName y.cls = true) (ho : y.cls = I.1.1) (hr : ret = I.2.2.2) (hi : I.2.2.1 = true → y.name = "<init>") (hn : I.2.2.1 = true → mRn I.1.2 = I.1.1) (hl : (lg_sl av).length ≤ nL)
    (h : Gd G I cc nL rm rm.cells rm.slots KR 0 (lv_args 0 av) [] (0, 0) S) : mCon G y cc nL ret rm av S KR := by
  intro l
  refine Met.ofW (cc := cc) (maxL := nL) (ret := ret) hy rfl ?_
  intro p e s m args below meth c s₁ B hml hv
  obtain ⟨rfl, hrp, hK⟩ := hv
  have hts := atoms_spec (ws := mWs y cc nL ret) B.pre
  have hown : s.vm.findClass I.1.1 = some m.cls := by rw [← ho]; exact findClass_of_methodNamed B.named
  rw [lg_entry_eq]
  exact h p l e s m _ below meth c ⟨B.exec, B.bytes, hml, hown, fun w hw => hts w (List.mem_cons_of_mem _ hw), hK, B.returns.trans hr, B.notSynchronized, fun h9 => (name_of_methodNamed B.named B.method).1.trans (hi h9), hn⟩ _ _ [] (lv_entry av hl) hrp (fun q h => by cases h)
def rmD (d : Nat) : Room := { frames := d, cells := 0, slots := 0, locals := 70 * d }
