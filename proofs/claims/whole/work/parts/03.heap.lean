/-! the abstract machine: heaps as a size and a function, nothing below the base ever written -/
abbrev mC : Type := Nat × MethodName × ByteArray × Nat × Option FieldType × Nat × Nat
abbrev mE : Type := Instr × Nat × Nat × Int32
abbrev mRf : Type := (Nat × Nat) ⊕ Int32 ⊕ Int64 ⊕ mC ⊕ Nat
abbrev mX : Type := Nat × Nat × (Nat → Int32)
abbrev mG : Type := va_G × (Nat → ClassId) × Heap × (Nat → mX)
abbrev mS : Type := Nat × (Nat → va_E)
abbrev mL : Type := List (Nat × Value)
def mT : List Cond := lw_tbl.filter goodWord
theorem mT_in {w : Cond} (h : w ∈ lw_tbl) (g : goodWord w = true) : w ∈ mT := List.mem_filter.mpr ⟨h, g⟩
def mb (G : mG) : Nat := G.2.2.1.size
def mTys (G : mG) : List (ClassId × FieldType) := [(G.2.1 0, .int), (G.2.1 1, .byte), (G.2.1 2, .object RX4), (G.2.1 3, .object RX6), (G.2.1 4, .object RX2), (G.2.1 5, .object RX3), (G.2.1 6, .array .int)]
/-- words that don't go through calls by themselves: they are carried as facts of the state -/
def mNest : List (Nat × MethodName) := [(11, yX5_init), (18, yX1_init), (29, yX0_init), (47, yX2_init)]
def mOver : List String := [RX6, RX4, RX2, RX3]
def mr (G : mG) (S : mS) (H : Heap) : Prop := H.size = S.1 ∧ mb G ≤ S.1 ∧ (∀ q : Nat, q < mb G → H[q]? = G.2.2.1[q]?) ∧ ∀ a : Nat, mb G ≤ a → a < S.1 → va_at G.1 vwCl (a, S.2 a) H
def mAt (G : mG) (S : mS) (a : Nat) (e : va_E) : Prop := mb G ≤ a ∧ a < S.1 ∧ S.2 a = e
def mUp (S : mS) (a : Nat) (e : va_E) : mS := (S.1, va_up S.2 a e)
def mPush (S : mS) (e : va_E) : mS := (S.1 + 1, va_up S.2 S.1 e)
section MH
variable {G : mG} {S : mS} {H H1 : Heap} {a : Nat} {e e0 : va_E}
theorem mr.at (h : mr G S H) (ha : mAt G S a e) : va_at G.1 vwCl (a, e) H := by
  have h1 := h.2.2.2 a ha.1 ha.2.1
  rw [ha.2.2] at h1
  exact h1
theorem mr.one (h : mr G S H) (ha : mAt G S a e) : va_P G.1 vwCl [(a, e)] H := by
  intro k q hk
  cases k with
  | zero => cases hk; exact h.at ha
  | succ k => simp at hk
theorem mr.set (h : mr G S H) (ha : mAt G S a e0) (he : va_at G.1 vwCl (a, e) H1) (z : H1.size = H.size) (oq : ∀ q : Nat, q ≠ a → H1[q]? = H[q]?) : mr G (mUp S a e) H1 := by
  refine ⟨z.trans h.1, h.2.1, fun q hq => ?_, fun q h1 h2 => ?_⟩
  · rw [oq q (by have := ha.1; omega)]
    exact h.2.2.1 q hq
  · by_cases hq : q = a
    · subst hq
      have e1 : (mUp S q e).2 q = e := by simp [mUp, va_up]
      rw [e1]
      exact he
    · have e1 : (mUp S a e).2 q = S.2 q := by simp [mUp, va_up, hq]
      rw [e1]
      exact (h.2.2.2 q h1 h2).kept (oq q hq)
theorem mr.push (h : mr G S H) (he : va_at G.1 vwCl (S.1, e) H1) (z : H1.size = S.1 + 1) (oq : ∀ q : Nat, q < S.1 → H1[q]? = H[q]?) : mr G (mPush S e) H1 := by
  have hb := h.2.1
  refine ⟨z, Nat.le_succ_of_le hb, fun q hq => ?_, fun q h1 h2 => ?_⟩
  · rw [oq q (by omega)]
    exact h.2.2.1 q hq
  · by_cases hq : q = S.1
    · subst hq
      have e1 : (mPush S e).2 S.1 = e := by simp [mPush, va_up]
      rw [e1]
      exact he
    · have e1 : (mPush S e).2 q = S.2 q := by simp [mPush, va_up, hq]
      have h3 : q < S.1 + 1 := h2
      have h4 : q < S.1 := by omega
      rw [e1]
      exact (h.2.2.2 q h1 h4).kept (oq q h4)
end MH
section MW
variable {p : Program} {l : Launch} {e : Env} {R : Room} {s : State} {m : MethodId} {args : Array Value} {below : List Frame} {meth : Method} {c : Code} {H : Heap} {locs : List Loc} {cells slots : Nat} {Q : State → Prop}
variable {cc : ByteArray} {pc : Nat} {ls : Array Slot} {rest : List Value} {G : mG} {S : mS} {a : Nat}
theorem r_put (hexec : p.tables.exec = Jvm.exec) (hb : c.code = cc) {own C : String} {T : u_T} {N ci index : Nat} {Ts : List Cond} (hts : ∀ w ∈ Ts, w.before args s = true) (hin : ∀ w ∈ u_ws C T N, w ∈ Ts) (ty0 : Nat → FieldType) (hty : ∀ k, k < N → parseFieldDescriptor (T k).2.2.1 = some (ty0 k)) (hnm : ∀ a, a < N → ∀ b, b < N → a ≠ b → (T a).2.1 ≠ (T b).2.1) (hown : s.vm.findClass own = some m.cls) (hK : va_K G.1 vwCl (mTys G) s) (hr : mr G S H) {fs : List Value} (ha : mAt G S a (.inr (ci, fs))) (hc : vwCl[ci]? = some (C, T, N)) (k : Nat) (hk : k < N) (hlink : (Cond.fieldLink own index (T k).1 (T k).2.1 (T k).2.2.1).before args s = true)
    (hfin : (T k).2.2.2 = false ∨ ((T k).2.2.2 = true ∧ meth.name = "<init>" ∧ (T k).1 = own)) {v : Value} (hn : narrow (ty0 k) v = v) (hfit : fits (ty0 k) v = true) (hl : k < fs.length) (hdg : decode cc pc = .ok (.putfield index, 3))
    (kk : ∀ (H1 : Heap) (L : Loc), L.base = a → mr G (mUp S a (.inr (ci, fs.set k v))) H1 → W p l e R s m args below meth c H1 (locs ++ [L]) cells slots Q (F0 m (pc + 3) ls rest)) : W p l e R s m args below meth c H locs cells slots Q (F0 m pc ls (v :: .ref a :: rest)) := by
  have hd := hty k hk
  have hap := va_apart (own := own) hts hin ty0 hty hnm hK hc
  obtain ⟨r, h1, cell, q1, q2, q3, q4⟩ := hr.at ha
  have hrr : r = (C, T, N) := Option.some.inj (h1.symm.trans hc)
  subst hrr
  obtain ⟨hS, hfc, kC, hkC, hkind⟩ := hK.1 ci _ hc
  obtain ⟨cf, kf, fi, f, hi, hsl⟩ := hS k hk
  have hlay := hts _ (hin _ (u_in_lay hk))
  have hst := (u_facts hfc hkC (u_lays hts hin hk) hi).1
  rcases hfin with hfin | ⟨hfin, hin2, hdecl⟩
  · unfold u_lay at hlay
    rw [if_neg (by rw [hfin]; decide)] at hlay
    have h6 := u_store hfc hkC hkind hlay hi hd hn hfit
    refine W.putK hexec hb (f := f) ⟨hown, hlink, ⟨_, _, _, hi⟩, hst⟩ (by rw [q2]; exact h6) q1 q3 (by rw [hsl]; exact k2_hasslot (q4 k hk)) rfl rfl hdg fun H' e1 e2 e3 => ?_
    rw [hsl] at e1
    exact kk H' _ rfl (hr.set ha ⟨_, hc, t_OB.to (V := updV (vp_V fs) k v) ⟨_, e1, q2, q3, t_set q4 hap hk v⟩ (fun j _ => vp_updV_set hl v j)⟩ e2 e3)
  · unfold u_lay at hlay
    rw [if_pos hfin] at hlay
    have hcf : m.cls = cf := by
      obtain ⟨_, _, c', _, _, _, -, -, hf', -, -, -, hown2, -⟩ := Cond.laysFinal_spec hlay
      have e1 : c' = cf := by have := hi.symm.trans hf'; simp at this; exact this.1.symm
      rw [hdecl] at hown2
      rw [← e1]; exact Option.some.inj (hown.symm.trans hown2)
    have h6 := u_fits hfc hkC hkind (Or.inr hlay) hi hd hn hfit
    refine W.putFinK hexec hb hown hlink hi hst hcf hin2 (by rw [q2]; exact h6) q1 q3 (by rw [hsl]; exact k2_hasslot (q4 k hk)) rfl rfl hdg fun H' e1 e2 e3 => ?_
    rw [hsl] at e1
    exact kk H' _ rfl (hr.set ha ⟨_, hc, t_OB.to (V := updV (vp_V fs) k v) ⟨_, e1, q2, q3, t_set q4 hap hk v⟩ (fun j _ => vp_updV_set hl v j)⟩ e2 e3)
theorem r_iast (hexec : p.tables.exec = Jvm.exec) (hb : c.code = cc) (hK : va_K G.1 vwCl (mTys G) s) (hr : mr G S H) {n : Nat} {f : Nat → Int32} (ha : mAt G S a (.inl (G.2.1 0, n, .inl f))) {i x : Int32} (hin : vp_in i n) (hdg : decode cc pc = .ok (.iastore, 1))
    (kk : ∀ (H1 : Heap) (L : Loc), L.base = a → mr G (mUp S a (.inl (G.2.1 0, n, .inl (upd f i.toNatClampNeg x)))) H1 → W p l e R s m args below meth c H1 (locs ++ [L]) cells slots Q (F0 m (pc + 1) ls rest)) : W p l e R s m args below meth c H locs cells slots Q (F0 m pc ls (.int x :: .int i :: .ref a :: rest)) := by
  refine W.iast hexec hb (hr.at ha) ((hK.2 0 (G.2.1 0, .int) rfl).1 n (fun j => .int (f j))) (fun q => by cases q) (by show ¬ (i < 0 ∨ (arrV _ _ _).slots.size ≤ _); rw [arrV_size]; exact hin) rfl rfl hdg fun H1 e z oq => ?_
  refine kk H1 _ rfl (hr.set ha ?_ z oq)
  show H1[a]? = some (vp_cell _ _)
  rw [e]
  rw [vp_cell_i, vp_cell_i, arrV_store]
  congr 2
  funext q
  by_cases hq : q = i.toNatClampNeg
  · subst hq
    simp [updV, upd]
  · simp [updV, upd, hq]
theorem r_bast (hexec : p.tables.exec = Jvm.exec) (hb : c.code = cc) (hK : va_K G.1 vwCl (mTys G) s) (hr : mr G S H) {n : Nat} {f : Nat → Int32} (ha : mAt G S a (.inl (G.2.1 1, n, .inl f))) {i x : Int32} (hin : vp_in i n) (hdg : decode cc pc = .ok (.bastore, 1))
    (kk : ∀ (H1 : Heap) (L : Loc), L.base = a → mr G (mUp S a (.inl (G.2.1 1, n, .inl (upd f i.toNatClampNeg x.toInt8.toInt32)))) H1 → W p l e R s m args below meth c H1 (locs ++ [L]) cells slots Q (F0 m (pc + 1) ls rest)) : W p l e R s m args below meth c H locs cells slots Q (F0 m pc ls (.int x :: .int i :: .ref a :: rest)) := by
  refine W.bast hexec hb (hr.at ha) ((hK.2 1 (G.2.1 1, .byte) rfl).1 n (fun j => .int (f j))) (fun q => by cases q) (by show ¬ (i < 0 ∨ (arrV _ _ _).slots.size ≤ _); rw [arrV_size]; exact hin) rfl rfl hdg fun H1 e z oq => ?_
  refine kk H1 _ rfl (hr.set ha ?_ z oq)
  show H1[a]? = some (vp_cell _ _)
  rw [e]
  rw [vp_cell_i, vp_cell_i, arrV_store]
  congr 2
  funext q
  by_cases hq : q = i.toNatClampNeg
  · subst hq
    simp [updV, upd, narrow]
  · simp [updV, upd, hq]
theorem r_aast (hexec : p.tables.exec = Jvm.exec) (hb : c.code = cc) (hK : va_K G.1 vwCl (mTys G) s) (hr : mr G S H) {t0 ci n v : Nat} {r : vw_C} {cA : ClassId} {vs : List Value} {f : Nat → Option Nat} (ht : (mTys G)[t0]? = some (cA, .object r.1)) (hc : vwCl[ci]? = some r) (ha : mAt G S a (.inl (cA, n, .inr (.inr (.inr (.inr f)))))) (hv : mAt G S v (.inr (ci, vs))) {i : Int32} (hin : vp_in i n) (hdg : decode cc pc = .ok (.aastore, 1))
    (kk : ∀ (H1 : Heap) (L : Loc), L.base = a → mr G (mUp S a (.inl (cA, n, .inr (.inr (.inr (.inr (va_up f i.toNatClampNeg (some v)))))))) H1 → W p l e R s m args below meth c H1 (locs ++ [L]) cells slots Q (F0 m (pc + 1) ls rest)) : W p l e R s m args below meth c H locs cells slots Q (F0 m pc ls (.ref v :: .int i :: .ref a :: rest)) := by
  have hlt : i.toNatClampNeg < n := Nat.not_le.mp fun q => hin (Or.inr q)
  have h0 : ¬ i < 0 := fun q => hin (Or.inl q)
  obtain ⟨r', hr', cellV, g1, g2, g3, -⟩ := hr.at hv
  have hcls := (hK.1 ci r hc).2
  obtain ⟨kA, comp, k1, k2, k3, -⟩ := (hK.2 t0 _ ht).2
  have hcomp : comp = G.1.1 ci := Option.some.inj (k3.symm.trans hcls.1)
  subst hcomp
  obtain ⟨kC, hkC, -⟩ := id hcls.2
  refine W.aast hexec hb (hr.at ha) (fun q h => by cases h) (fun h => by cases h) k1 k2 rfl hkC ⟨h0, by show _ < (arrV _ _ _).slots.size; rw [arrV_size]; exact hlt⟩ g1 (fun q h => by rw [g3] at h; cases h) (by rw [g2]; exact hkC) (by rw [g2]; exact va_assign hcls) rfl rfl hdg fun H1 e z oq => ?_
  refine kk H1 _ rfl (hr.set ha ?_ z oq)
  show H1[a]? = some (vp_cell _ _)
  rw [e]
  rw [vp_cell_q, vp_cell_q, arrV_store]
  congr 2
  funext q
  by_cases hq : q = i.toNatClampNeg
  · subst hq
    simp [updV, va_up, va_rf]
  · simp [updV, va_up, hq]
theorem r_aald (hexec : p.tables.exec = Jvm.exec) (hb : c.code = cc) (hK : va_K G.1 vwCl (mTys G) s) (hr : mr G S H) {t0 n : Nat} {cA : ClassId} {ty : FieldType} {f : Nat → Option Nat} (ht : (mTys G)[t0]? = some (cA, ty)) (hty : ty.isReference = true) (ha : mAt G S a (.inl (cA, n, .inr (.inr (.inr (.inr f)))))) {i : Int32} (hin : vp_in i n) (hdg : decode cc pc = .ok (.aaload, 1))
    (kk : W p l e R s m args below meth c H locs cells slots Q (F0 m (pc + 1) ls (va_rf (f i.toNatClampNeg) :: rest))) : W p l e R s m args below meth c H locs cells slots Q (F0 m pc ls (.int i :: .ref a :: rest)) := by
  have hlt : i.toNatClampNeg < n := Nat.not_le.mp fun q => hin (Or.inr q)
  exact W.aald (v := va_rf (f i.toNatClampNeg)) (ty := ty) hexec hb (hr.at ha) ((hK.2 t0 _ ht).1 n (fun j => va_rf (f j))) hty (fun q => by cases q) (by show ¬ (i < 0 ∨ (arrV _ _ _).slots.size ≤ _); rw [arrV_size]; exact hin) (by show (arrV _ _ _).slots[_]? = _; rw [arrV_read _ _ hlt]) rfl rfl hdg kk
theorem r_new {own C : String} {T : u_T} {N ci index : Nat} {Ts : List Cond} (hexec : p.tables.exec = Jvm.exec) (hb : c.code = cc) (hts : ∀ w ∈ Ts, w.before args s = true) (hin : ∀ w ∈ u_ws C T N, w ∈ Ts) (ty : Nat → FieldType) (hty : ∀ k, k < N → parseFieldDescriptor (T k).2.2.1 = some (ty k)) (hown : s.vm.findClass own = some m.cls) (hcl : (Cond.classLink own index C).before args s = true) (hinst : (Cond.instantiable C N).before args s = true) (hini : (Cond.initialized C).before args s = true)
    (hK : va_K G.1 vwCl (mTys G) s) (hr : mr G S H) (hc : vwCl[ci]? = some (C, T, N)) {fs : List Value} (hfs : ∀ j, j < N → defaultValue (ty j) = vp_V fs j) (hcells : cells + 1 ≤ R.cells) (hslots : slots + N ≤ R.slots) (hdg : decode cc pc = .ok (.new index, 3))
    (kk : ∀ (H1 : Heap), mr G (mPush S (.inr (ci, fs))) H1 → W p l e R s m args below meth c H1 locs (cells + 1) (slots + N) Q (F0 m (pc + 3) ls (.ref S.1 :: rest))) : W p l e R s m args below meth c H locs cells slots Q (F0 m pc ls rest) := by
  have hKn := hK.1 ci _ hc
  refine W.newcK hexec hb hown hcl hinst hini rfl hdg hcells hslots hKn.2.1 hr.1 fun H1 kC hkC e1 z1 o1 => ?_
  exact kk H1 (hr.push ⟨_, hc, (u_born ty hts hin hKn hkC e1 hty).to hfs⟩ z1 o1)
theorem r_newa (hexec : p.tables.exec = Jvm.exec) (hb : c.code = cc) {atype : ArrayType} {t0 : Nat} {cA0 : ClassId} (harr : (Cond.arrayClass (newarray.typeOf atype)).before args s = true) (hK : va_K G.1 vwCl (mTys G) s) (ht : (mTys G)[t0]? = some (cA0, newarray.typeOf atype)) (hprim : ∀ (A : ClassId), va_RA s A (newarray.typeOf atype) → s.vm.findClass ("[" ++ (newarray.typeOf atype).toString) = some A) (hr : mr G S H)
    {n : Int32} {N' : Nat} (h0 : defaultValue (newarray.typeOf atype) = .int 0) (hn : ¬ n < 0) (hN : n.toNatClampNeg = N') (hbytes : N' * componentBytes (newarray.typeOf atype) ≤ 536870912) (hcells : cells + 1 ≤ R.cells) (hslots : slots + N' ≤ R.slots) (hdg : decode cc pc = .ok (.newarray atype, 2))
    (kk : ∀ (H1 : Heap), mr G (mPush S (.inl (cA0, N', .inl (fun _ => 0)))) H1 → W p l e R s m args below meth c H1 locs (cells + 1) (slots + N') Q (F0 m (pc + 2) ls (.ref S.1 :: rest))) : W p l e R s m args below meth c H locs cells slots Q (F0 m pc ls (.int n :: rest)) := by
  refine va_newaK hexec hb harr rfl hdg rfl hn hN hbytes hcells hslots hr.1 fun H1 cA e1 z1 o1 hAr hNm => ?_
  have hcA : cA = cA0 := Option.some.inj (hNm.symm.trans (hprim _ (hK.2 t0 _ ht).2))
  subst hcA
  refine kk H1 (hr.push ?_ z1 o1)
  show H1[S.1]? = some (vp_cell _ _)
  rw [e1, h0]
  rfl
theorem r_newq (hexec : p.tables.exec = Jvm.exec) (hb : c.code = cc) {own C : String} {index t0 : Nat} {cA0 : ClassId} (hown : s.vm.findClass own = some m.cls) (hclink : (Cond.classLink own index C).before args s = true) (hover : va_AO C s) (hK : va_K G.1 vwCl (mTys G) s) (ht : (mTys G)[t0]? = some (cA0, .object C)) (hr : mr G S H)
    {n : Int32} {N' : Nat} (hn : ¬ n < 0) (hN : n.toNatClampNeg = N') (hbytes : N' * 4 ≤ 536870912) (hcells : cells + 1 ≤ R.cells) (hslots : slots + N' ≤ R.slots) (hdg : decode cc pc = .ok (.anewarray index, 3))
    (kk : ∀ (H1 : Heap), mr G (mPush S (.inl (cA0, N', .inr (.inr (.inr (.inr (fun _ => none))))))) H1 → W p l e R s m args below meth c H1 locs (cells + 1) (slots + N') Q (F0 m (pc + 3) ls (.ref S.1 :: rest))) : W p l e R s m args below meth c H locs cells slots Q (F0 m pc ls (.int n :: rest)) := by
  subst hN
  refine W.anew hexec hb hown hclink (va_AO.use hover) rfl hdg rfl hn hbytes hcells hslots fun cA kA comp f1 f2 f3 f4 => ?_
  obtain ⟨kA', comp', -, -, -, g4⟩ := (hK.2 t0 _ ht).2
  have hcA : cA = cA0 := Option.some.inj (f1.symm.trans g4)
  subst hcA
  rw [hr.1]
  generalize hH1 : H.push ({ cls := cA, slots := Array.replicate n.toNatClampNeg .null, vm := .none } : Cell) = H1
  have z1 : H1.size = S.1 + 1 := by rw [← hH1, Array.size_push, hr.1]
  have e1 : H1[S.1]? = some (arrV cA n.toNatClampNeg (fun _ => .null)) := by rw [← hH1, ← hr.1, Array.getElem?_push_size, ← arrV_new]
  have o1 : ∀ q : Nat, q < S.1 → H1[q]? = H[q]? := fun q hq => by rw [← hH1, Array.getElem?_push, if_neg (by rw [hr.1]; exact Nat.ne_of_lt hq)]
  refine kk H1 (hr.push ?_ z1 o1)
  show H1[S.1]? = some (vp_cell _ _)
  rw [vp_cell_q]
  exact e1
end MW
