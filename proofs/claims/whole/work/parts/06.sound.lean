abbrev mI : Type := (String × Nat) × (Nat → Option mRf) × Bool × Option FieldType
def lI (o : Option Value) (k : Int32 → Prop) : Prop := match o with | some (.int x) => k x | _ => False
def lJ (o : Option Value) (k : Int64 → Prop) : Prop := match o with | some (.long x) => k x | _ => False
def lQ (o : Option Value) (k : Value → Prop) : Prop := match o with | some (.ref x) => k (.ref x) | some .null => k .null | _ => False
theorem lI.inv {o : Option Value} {k : Int32 → Prop} (h : lI o k) : ∃ x, o = some (.int x) ∧ k x := by
  unfold lI at h; split at h
  · exact ⟨_, rfl, h⟩
  · exact h.elim
theorem lJ.inv {o : Option Value} {k : Int64 → Prop} (h : lJ o k) : ∃ x, o = some (.long x) ∧ k x := by
  unfold lJ at h; split at h
  · exact ⟨_, rfl, h⟩
  · exact h.elim
theorem lQ.inv {o : Option Value} {k : Value → Prop} (h : lQ o k) : ∃ v, o = some v ∧ (v = .null ∨ ∃ a, v = .ref a) ∧ k v := by
  unfold lQ at h; split at h
  · exact ⟨_, rfl, Or.inr ⟨_, rfl⟩, h⟩
  · exact ⟨_, rfl, Or.inl rfl, h⟩
  · exact h.elim
def eR (ret : Option FieldType) (v : Option Value) (mc ms : Nat) (cs : Nat × Nat) (A : Prop) : Prop := (cs.1 ≤ mc ∧ cs.2 ≤ ms) ∧ (match v with
  | none => ret = none
  | some (.int x) => ∃ ty, ret = some ty ∧ narrow ty (.int x) = .int x
  | some _ => ∃ ty, ret = some ty ∧ ((∃ n, ty = .object n) ∨ ∃ t, ty = .array t)) ∧ A
def eF (I : mI) (ci k : Nat) (A : Prop) : Prop := ((mTb ci k).2.2.2 = false ∨ ((mTb ci k).2.2.2 = true ∧ I.2.2.1 = true ∧ ci = I.1.2)) ∧ A
def mDef (ci : Nat) : List Value := (List.range (mN ci)).map (fun k => defaultValue (mFt ci k))
def mTo (ci : Nat) : Nat := match ci with
  | 4 => 2 | 6 => 3 | 2 => 4 | 3 => 5 | _ => 7
def eM (R : Room) (n : Int32) (cs : Nat × Nat) (A : Prop) : Prop := ¬ n < 0 ∧ n.toNatClampNeg ≤ 100000 ∧ (cs.1 + 1 ≤ R.cells ∧ cs.2 + n.toNatClampNeg ≤ R.slots) ∧ A
def step (G : mG) (R : Room) (I : mI) (mc ms : Nat) (KR : Option Value → mS → Prop) (pc : Nat) (ins : Instr) (np tg : Nat) (val : Int32) (lv : mL) (st : List Value) (cs : Nat × Nat) (S : mS) (K : Nat → mL → List Value → Nat × Nat → mS → Prop) : Prop :=
  match ins with
  | .iconst _ => K np lv (.int val :: st) cs S
  | .bipush _ => K np lv (.int val :: st) cs S
  | .sipush _ => K np lv (.int val :: st) cs S
  | .ldc i => match I.2.1 i with
    | some (.inr (.inl v)) => K np lv (.int v :: st) cs S
    | _ => False
  | .ldc2_w i => match I.2.1 i with
    | some (.inr (.inr (.inl v))) => K np lv (.long v :: st) cs S
    | _ => False
  | .aconst_null => K np lv (.null :: st) cs S
  | .iload_n n => lI (lget lv n.val) fun x => K np lv (.int x :: st) cs S
  | .iload n => lI (lget lv n) fun x => K np lv (.int x :: st) cs S
  | .lload_n n => lJ (lget lv n.val) fun x => K np lv (.long x :: st) cs S
  | .aload_n n => lQ (lget lv n.val) fun v => K np lv (v :: st) cs S
  | .aload n => lQ (lget lv n) fun v => K np lv (v :: st) cs S
  | .istore_n n => sI st fun x r => lsetK lv n.val (.int x) fun lv' => K np lv' r cs S
  | .istore n => sI st fun x r => lsetK lv n (.int x) fun lv' => K np lv' r cs S
  | .astore_n n => sQ st fun v r => lsetK lv n.val v fun lv' => K np lv' r cs S
  | .astore n => sQ st fun v r => lsetK lv n v fun lv' => K np lv' r cs S
  | .lstore_n n => sJ st fun x r => lset2K lv n.val (.long x) fun lv' => K np lv' r cs S
  | .iinc n _ => lI (lget lv n) fun x => lsetK lv n (.int (x + val)) fun lv' => K np lv' st cs S
  | .iadd => sI st fun y r => sI r fun x r => K np lv (.int (x + y) :: r) cs S
  | .isub => sI st fun y r => sI r fun x r => K np lv (.int (x - y) :: r) cs S
  | .imul => sI st fun y r => sI r fun x r => K np lv (.int (x * y) :: r) cs S
  | .idiv => sI st fun y r => sI r fun x r => eZ y (K np lv (.int (x / y) :: r) cs S)
  | .irem => sI st fun y r => sI r fun x r => eZ y (K np lv (.int (x - x / y * y) :: r) cs S)
  | .iand => sI st fun y r => sI r fun x r => K np lv (.int (x &&& y) :: r) cs S
  | .ior => sI st fun y r => sI r fun x r => K np lv (.int (x ||| y) :: r) cs S
  | .ixor => sI st fun y r => sI r fun x r => K np lv (.int (x ^^^ y) :: r) cs S
  | .ishl => sI st fun y r => sI r fun x r => K np lv (.int (x <<< (y &&& 31)) :: r) cs S
  | .ishr => sI st fun y r => sI r fun x r => K np lv (.int (x >>> (y &&& 31)) :: r) cs S
  | .iushr => sI st fun y r => sI r fun x r => K np lv (.int (x.toUInt32 >>> (y.toUInt32 &&& Int32.toUInt32 31)).toInt32 :: r) cs S
  | .i2b => sI st fun x r => K np lv (.int x.toInt8.toInt32 :: r) cs S
  | .i2l => sI st fun x r => K np lv (.long x.toInt64 :: r) cs S
  | .l2i => sJ st fun x r => K np lv (.int x.toInt32 :: r) cs S
  | .lmul => sJ st fun y r => sJ r fun x r => K np lv (.long (x * y) :: r) cs S
  | .lushr => sI st fun y r => sJ r fun x r => K np lv (.long (x.toUInt64 >>> (y.toInt64.toUInt64 &&& Int64.toUInt64 63)).toInt64 :: r) cs S
  | .lshr => sI st fun y r => sJ r fun x r => K np lv (.long (x >>> (y.toInt64 &&& 63)) :: r) cs S
  | .dup => s1 st fun v r => K np lv (v :: v :: r) cs S
  | .pop => s1 st fun _ r => K np lv r cs S
  | .dup2 => s1 st fun v r => s1 r fun w r => K np lv (v :: w :: v :: w :: r) cs S
  | .ifCond .eq _ => sI st fun x r => eB (x = 0) (K tg lv r cs S) (K np lv r cs S)
  | .ifCond .ne _ => sI st fun x r => eB (x = 0) (K np lv r cs S) (K tg lv r cs S)
  | .ifCond .lt _ => sI st fun x r => eB (x < 0) (K tg lv r cs S) (K np lv r cs S)
  | .ifCond .ge _ => sI st fun x r => eB (0 ≤ x) (K tg lv r cs S) (K np lv r cs S)
  | .ifCond .gt _ => sI st fun x r => eB (0 < x) (K tg lv r cs S) (K np lv r cs S)
  | .ifCond .le _ => sI st fun x r => eB (x ≤ 0) (K tg lv r cs S) (K np lv r cs S)
  | .if_icmp .eq _ => sI st fun y r => sI r fun x r => eB (x = y) (K tg lv r cs S) (K np lv r cs S)
  | .if_icmp .ne _ => sI st fun y r => sI r fun x r => eB (x = y) (K np lv r cs S) (K tg lv r cs S)
  | .if_icmp .lt _ => sI st fun y r => sI r fun x r => eB (x < y) (K tg lv r cs S) (K np lv r cs S)
  | .if_icmp .ge _ => sI st fun y r => sI r fun x r => eB (y ≤ x) (K tg lv r cs S) (K np lv r cs S)
  | .if_icmp .gt _ => sI st fun y r => sI r fun x r => eB (y < x) (K tg lv r cs S) (K np lv r cs S)
  | .if_icmp .le _ => sI st fun y r => sI r fun x r => eB (x ≤ y) (K tg lv r cs S) (K np lv r cs S)
  | .ifnull _ => match st with
    | .null :: r => K tg lv r cs S
    | .ref _ :: r => K np lv r cs S
    | _ => False
  | .ifnonnull _ => match st with
    | .null :: r => K np lv r cs S
    | .ref _ :: r => K tg lv r cs S
    | _ => False
  | .goto _ => K tg lv st cs S
  | .tableswitch d lo hi offs => sI st fun x r => eB (x.toInt < lo ∨ hi < x.toInt) (K ((pc : Int) + d).toNat lv r cs S) (∀ (j : Nat) (off : Int), offs[j]? = some off → x.toInt = lo + j → K ((pc : Int) + off).toNat lv r cs S)
  | .getfield i => match I.2.1 i with
    | some (.inl (ci, k)) => sA st fun a r => eG G S a ci k fun v => K np lv (v :: r) cs S
    | _ => False
  | .putfield i => match I.2.1 i with
    | some (.inl (ci, k)) => eF I ci k (s1 st fun v r => sA r fun a r => eP G S a ci k v fun S' => K np lv r cs S')
    | _ => False
  | .getstatic i => match I.2.1 i with
    | some (.inr (.inr (.inr (.inr 100)))) => K np lv (.ref (G.2.2.2 1).1 :: st) cs S
    | some (.inr (.inr (.inr (.inr 101)))) => K np lv (.ref (G.2.2.2 2).1 :: st) cs S
    | _ => False
  | .iaload => sI st fun i r => sA r fun a r => eL G S a i fun x => K np lv (.int x :: r) cs S
  | .baload => sI st fun i r => sA r fun a r => eLb G S a i fun x => K np lv (.int x :: r) cs S
  | .aaload => sI st fun i r => sA r fun a r => eLq G S a i fun v => K np lv (v :: r) cs S
  | .iastore => sI st fun x r => sI r fun i r => sA r fun a r => eS G S a i x fun S' => K np lv r cs S'
  | .bastore => sI st fun x r => sI r fun i r => sA r fun a r => eSb G S a i x fun S' => K np lv r cs S'
  | .aastore => sA st fun v r => sI r fun i r => sA r fun a r => eSq G S a i v fun S' => K np lv r cs S'
  | .arraylength => sA st fun a r => eN G S a fun x => K np lv (.int x :: r) cs S
  | .invokevirtual i => match I.2.1 i with
    | some (.inr (.inr (.inr (.inl q)))) => q.1 = 0 ∧ sArgs q.2.2.2.2.2.1 st [] fun as r => sA r fun a r => (r.map fun v => v.category).sum ≤ 8 ∧ eV G S a q.2.2.2.2.2.2 (eC G R q (.ref a :: as) cs S fun v cs' S' => pushv v r fun st' => K np lv st' cs' S')
    | _ => False
  | .invokestatic i => match I.2.1 i with
    | some (.inr (.inr (.inr (.inl q)))) => match q.1 with
      | 1 => sArgs q.2.2.2.2.2.1 st [] fun as r => (r.map fun v => v.category).sum ≤ 8 ∧ eC G R q as cs S fun v cs' S' => pushv v r fun st' => K np lv st' cs' S'
      | 5 => sI st fun n r => sI r fun dp r => sA r fun a r => sI r fun sp r => sA r fun a0 r => (r.map fun v => v.category).sum ≤ 8 ∧ eY G S R a0 sp a dp n fun S' => K np lv r cs S'
      | 6 => sI st fun y r => sI r fun x r => (r.map fun v => v.category).sum ≤ 8 ∧ (1 ≤ R.frames ∧ 60 ≤ R.locals ∧ cs.1 ≤ R.cells ∧ cs.2 ≤ R.slots) ∧ K np lv (.int (if x < y then y else x) :: r) cs S
      | _ => False
    | _ => False
  | .new i => match I.2.1 i with
    | some (.inr (.inr (.inr (.inr ci)))) => ci < 9 ∧ (cs.1 + 1 ≤ R.cells ∧ cs.2 + mN ci ≤ R.slots) ∧ K np lv (.ref S.1 :: st) (cs.1 + 1, cs.2 + mN ci) (mPush S (.inr (ci, mDef ci)))
    | _ => False
  | .newarray .int => sI st fun n r => eM R n cs (K np lv (.ref S.1 :: r) (cs.1 + 1, cs.2 + n.toNatClampNeg) (mPush S (eIn G n.toNatClampNeg (fun _ => 0))))
  | .newarray .byte => sI st fun n r => eM R n cs (K np lv (.ref S.1 :: r) (cs.1 + 1, cs.2 + n.toNatClampNeg) (mPush S (eBy G n.toNatClampNeg (fun _ => 0))))
  | .anewarray i => match I.2.1 i with
    | some (.inr (.inr (.inr (.inr ci)))) => mTo ci < 7 ∧ sI st fun n r => eM R n cs (K np lv (.ref S.1 :: r) (cs.1 + 1, cs.2 + n.toNatClampNeg) (mPush S (eRf G (mTo ci) n.toNatClampNeg (fun _ => none))))
    | _ => False
  | .invokespecial i => match I.2.1 i with
    | some (.inr (.inr (.inr (.inl q)))) => match q.1 with
      | 2 => sArgs q.2.2.2.2.2.1 st [] fun as r => sA r fun a r => (r.map fun v => v.category).sum ≤ 8 ∧ eC G R q (.ref a :: as) cs S fun v cs' S' => pushv v r fun st' => K np lv st' cs' S'
      | 3 => sArgs q.2.2.2.2.2.1 st [] fun as r => sA r fun a r => (r.map fun v => v.category).sum ≤ 8 ∧ eC G R q (.ref a :: as) cs S fun v cs' S' => pushv v r fun st' => K np lv st' cs' S'
      | 4 => sA st fun a r => (r.map fun v => v.category).sum ≤ 8 ∧ (1 ≤ R.frames ∧ 60 ≤ R.locals) ∧ K np lv r cs S
      | _ => False
    | _ => False
  | .ireturn => sI st fun x r => s0 r (eR I.2.2.2 (some (.int x)) mc ms cs (KR (some (.int x)) S))
  | .areturn => sQ st fun v r => s0 r (eR I.2.2.2 (some v) mc ms cs (KR (some v) S))
  | .return_ => s0 st (eR I.2.2.2 none mc ms cs (KR none S))
  | _ => False
/-! the constants of a class: what they ask of the tables -/
def rW (I : mI) (i : Nat) (r : mRf) : List Cond := match r with
  | .inl (ci, k) => [.fieldLink I.1.1 i (mTb ci k).1 (mTb ci k).2.1 (mTb ci k).2.2.1]
  | .inr (.inl v) => [.constant I.1.1 i v]
  | .inr (.inr (.inl v)) => [.constantLong I.1.1 i v]
  | .inr (.inr (.inr (.inl q))) => match q.1 with
    | 0 => [.methodLink I.1.1 i q.2.1, .instanceMethod q.2.1, .selects q.2.1.cls q.2.1 q.2.1, .initialized q.2.1.cls, .code q.2.1 q.2.2.1 q.2.2.2.1 q.2.2.2.2.1]
    | 1 => [.methodLink I.1.1 i q.2.1, .static q.2.1, .initialized q.2.1.cls, .code q.2.1 q.2.2.1 q.2.2.2.1 q.2.2.2.2.1]
    | 2 => [.methodLink I.1.1 i q.2.1, .instanceMethod q.2.1, .initialized q.2.1.cls, .code q.2.1 q.2.2.1 q.2.2.2.1 none]
    | 3 => [.instanceMethod q.2.1, .initialized q.2.1.cls, .code q.2.1 q.2.2.1 q.2.2.2.1 none]
    | 4 => [.methodLink I.1.1 i objectInit, .instanceMethod objectInit, .code objectInit ⟨#[0xb1]⟩ 1 none]
    | 5 => [.methodLink I.1.1 i arraycopyName, .native arraycopyName, .static arraycopyName, .initialized "java/lang/System"]
    | _ => [.methodLink I.1.1 i Lib.Math.max.name, .static Lib.Math.max.name, .initialized "java/lang/Math", .code Lib.Math.max.name Lib.Math.max.code 2 (some .int)]
  | .inr (.inr (.inr (.inr n))) => if n = 100 then [.fieldLink I.1.1 i RX5 "FIRST" "[I"] else if n = 101 then [.fieldLink I.1.1 i RX5 "ROUND" "[I"] else [.classLink I.1.1 i (mRn n), .instantiable (mRn n) (mN n), .initialized (mRn n)]
def qB (q : mC) : Bool := decide (q.2.1.cls ≠ "java/lang/invoke/MethodHandle" ∧ q.2.1.cls ≠ "java/lang/invoke/VarHandle" ∧ (parseMethodDescriptor q.2.1.desc).map (fun d => d.parameters.length) = some q.2.2.2.2.2.1)
def rB (I : mI) (i : Nat) (r : mRf) : Bool := match r with
  | .inl (ci, k) => decide (ci < 9) && decide (k < mN ci)
  | .inr (.inl _) => true
  | .inr (.inr (.inl _)) => true
  | .inr (.inr (.inr (.inl q))) => match q.1 with
    | 0 => qB q && decide (q.2.2.2.2.2.2 < 9) && decide (mRn q.2.2.2.2.2.2 = q.2.1.cls)
    | 1 => qB q
    | 2 => qB q && decide (q.2.1.name = "<init>") && decide (q.2.2.2.2.1 = none)
    | 3 => qB q && decide (q.2.1.name = "<init>") && decide (q.2.2.2.2.1 = none) && decide ((i, q.2.1) ∈ mNest) && decide (I.1.1 = RX7)
    | _ => true
  | .inr (.inr (.inr (.inr n))) => decide (n < 9) || decide (n = 100) || decide (n = 101)
def cpOK (I : mI) : Prop := ∀ (i : Nat) (r : mRf), I.2.1 i = some r → (∀ w ∈ rW I i r, w ∈ mT) ∧ rB I i r = true
theorem gX0 : ∀ w ∈ wsX00, goodWord w = true := by decide +kernel
theorem gX1 : ∀ w ∈ wsX10, goodWord w = true := by decide +kernel
theorem gX2 : ∀ w ∈ wsX20, goodWord w = true := by decide +kernel
theorem gX3 : ∀ w ∈ wsX30, goodWord w = true := by decide +kernel
theorem gX4 : ∀ w ∈ wsX40, goodWord w = true := by decide +kernel
theorem gX5 : ∀ w ∈ wsX50, goodWord w = true := by decide +kernel
theorem gX6 : ∀ w ∈ wsX60, goodWord w = true := by decide +kernel
theorem gX7 : ∀ w ∈ wsX70, goodWord w = true := by decide +kernel
theorem gX8 : ∀ w ∈ wsX80, goodWord w = true := by decide +kernel
def clGood (ci : Nat) : Prop := vwCl[ci]? = some (mRn ci, mTb ci, mN ci) ∧ (∀ w ∈ u_ws (mRn ci) (mTb ci) (mN ci), w ∈ mT) ∧ (∀ k, k < mN ci → parseFieldDescriptor (mTb ci k).2.2.1 = some (mFt ci k)) ∧ (∀ a, a < mN ci → ∀ b, b < mN ci → a ≠ b → (mTb ci a).2.1 ≠ (mTb ci b).2.1) ∧ ∀ k, k < mN ci → (mTb ci k).1 = mRn ci
theorem clOK : ∀ ci, ci < 9 → clGood ci
  | 0, _ => ⟨rfl, fun w h => mT_in (inX0 w h) (gX0 w h), tyX0_ok, nmX0, by decide +kernel⟩
  | 1, _ => ⟨rfl, fun w h => mT_in (inX1 w h) (gX1 w h), tyX1_ok, nmX1, by decide +kernel⟩
  | 2, _ => ⟨rfl, fun w h => mT_in (inX2 w h) (gX2 w h), tyX2_ok, nmX2, by decide +kernel⟩
  | 3, _ => ⟨rfl, fun w h => mT_in (inX3 w h) (gX3 w h), tyX3_ok, nmX3, by decide +kernel⟩
  | 4, _ => ⟨rfl, fun w h => mT_in (inX4 w h) (gX4 w h), tyX4_ok, nmX4, by decide +kernel⟩
  | 5, _ => ⟨rfl, fun w h => mT_in (inX5 w h) (gX5 w h), tyX5_ok, nmX5, by decide +kernel⟩
  | 6, _ => ⟨rfl, fun w h => mT_in (inX6 w h) (gX6 w h), tyX6_ok, nmX6, by decide +kernel⟩
  | 7, _ => ⟨rfl, fun w h => mT_in (inX7 w h) (gX7 w h), tyX7_ok, nmX7, by decide +kernel⟩
  | 8, _ => ⟨rfl, fun w h => mT_in (inX8 w h) (gX8 w h), tyX8_ok, nmX8, by decide +kernel⟩
  | n + 9, h => absurd h (by omega)
theorem mDef_ok (ci : Nat) : ∀ j, j < mN ci → defaultValue (mFt ci j) = vp_V (mDef ci) j := by
  intro j hj
  simp [vp_V, mDef, hj]
theorem mTo_lt {ci : Nat} (h : mTo ci < 7) : ci < 9 ∧ mRn ci ∈ mOver ∧ ∀ G : mG, (mTys G)[mTo ci]? = some (G.2.1 (mTo ci), .object (mRn ci)) := by
  unfold mTo at h
  split at h
  · exact ⟨by decide, by decide, fun _ => rfl⟩
  · exact ⟨by decide, by decide, fun _ => rfl⟩
  · exact ⟨by decide, by decide, fun _ => rfl⟩
  · exact ⟨by decide, by decide, fun _ => rfl⟩
  · omega
theorem acI : Cond.arrayClass .int ∈ mT := mT_in (by decide +kernel) rfl
theorem acB : Cond.arrayClass .byte ∈ mT := mT_in (by decide +kernel) rfl
