/-! the machine at the law's start -/
theorem rows_in : (∀ j : Nat, j < 8 → Cond.eq (.elem (.static "GossipWatch$Sha" "FIRST" "[I") (.int (Int32.ofNat j))) (.int (IVT j)) ∈ flatC (Jvm.Cond.and given_1 narrow_1)) ∧ ∀ j : Nat, j < 64 → Cond.eq (.elem (.static "GossipWatch$Sha" "ROUND" "[I") (.int (Int32.ofNat j))) (.int (KT j)) ∈ flatC (Jvm.Cond.and given_1 narrow_1) := by decide +kernel
section WST
variable {s : State} {b : Nat}
theorem arP {ty : FieldType} (harr : (Cond.arrayClass ty).before #[Value.ref b] s = true) : ∃ cA : ClassId, ArrOfT s cA ty ∧ s.vm.findClass ("[" ++ ty.toString) = some cA := by
  obtain ⟨cA, kA, comp, h1, h2, h3⟩ := Cond.arrayClass_spec harr
  exact ⟨cA, fun n z => ⟨fun k h => (by cases h), kA, h2, comp, h3⟩, h1⟩
theorem arO {C : String} (h : (Cond.arrayOver (.object C)).before #[Value.ref b] s = true) : ∃ cA : ClassId, ArrOfT s cA (.object C) ∧ va_RA s cA (.object C) := by
  obtain ⟨comp, cA, kA, h1, h2, h3, h4, h5⟩ := Cond.arrayOver_spec h
  exact ⟨cA, fun n z => ⟨fun k h => (by cases h), kA, h3, comp, h4⟩, kA, comp, h3, h4, h1, h5⟩
theorem arA (h : (Cond.arrayOver (.array .int)).before #[Value.ref b] s = true) : ∃ cA : ClassId, ArrOfT s cA (.array .int) ∧ va_RA s cA (.array .int) := by
  obtain ⟨comp, cA, kA, h1, h2, h3, h4, h5⟩ := arrayOverA_spec h
  exact ⟨cA, fun n z => ⟨fun k h => (by cases h), kA, h3, comp, h4⟩, h5⟩
end WST
set_option maxHeartbeats 4000000 in
set_option maxRecDepth 100000 in
theorem whole_start {p : Program} {e : Env} {s : State} {m : MethodId} {below : List Frame} {meth : Method} {c : Code} (l : Launch) {b L : Nat} {xs : Nat → Int32} (hL : L ≤ 2561) (C0 : lw_At p s m meth c b L xs) : W p l e room_1 s m #[Value.ref b] below meth c s.heap [] 0 0 (lw_Z below #[Value.ref b] s) (entryFrame m ([Value.ref b] : List Value).toArray 4) := by
  obtain ⟨hx, hb, hr, hml, hown, hts, hX, hbl, hlocks, hgv⟩ := C0
  have hfl := flat_of_before _ hgv
  obtain ⟨t1, ht1, hb1, hX1⟩ := rowOf (tm := .static "GossipWatch$Sha" "FIRST" "[I") (N := 8) (f := IVT) (by decide) (hfl _ (by decide +kernel)) (hfl _ (by decide +kernel)) (fun j hj => hfl _ (rows_in.1 j hj))
  obtain ⟨t2, ht2, hb2, hX2⟩ := rowOf (tm := .static "GossipWatch$Sha" "ROUND" "[I") (N := 64) (f := KT) (by decide) (hfl _ (by decide +kernel)) (hfl _ (by decide +kernel)) (fun j hj => hfl _ (rows_in.2 j hj))
  have hi5 : (Cond.initialized RX5).before #[Value.ref b] s = true := hts _ (by decide +kernel)
  have hZ1 : va_Z RX5 "FIRST" "[I" (.ref t1) (fun q => s.heap.size ≤ q) s s.heap := va_Zref (hts _ (by decide +kernel)) hi5 ht1 (fun a ha z => by omega)
  have hZ2 : va_Z RX5 "ROUND" "[I" (.ref t2) (fun q => s.heap.size ≤ q) s s.heap := va_Zref (hts _ (by decide +kernel)) hi5 ht2 (fun a ha z => by omega)
  obtain ⟨c0, i0, K0⟩ := u_known (C := RX0) (T := TX0) (N := 2) (n := 2) hts inX0 (hts (.instantiable RX0 2) (by decide +kernel))
  obtain ⟨c1, i1, K1⟩ := u_known (C := RX1) (T := TX1) (N := 1) (n := 1) hts inX1 (hts (.instantiable RX1 1) (by decide +kernel))
  obtain ⟨c2, i2, K2⟩ := u_known (C := RX2) (T := TX2) (N := 2) (n := 2) hts inX2 (hts (.instantiable RX2 2) (by decide +kernel))
  obtain ⟨c3, i3, K3⟩ := u_known (C := RX3) (T := TX3) (N := 9) (n := 9) hts inX3 (hts (.instantiable RX3 9) (by decide +kernel))
  obtain ⟨c4, i4, K4⟩ := u_known (C := RX4) (T := TX4) (N := 2) (n := 2) hts inX4 (hts (.instantiable RX4 2) (by decide +kernel))
  obtain ⟨c5, i5, K5⟩ := u_known (C := RX5) (T := TX5) (N := 4) (n := 4) hts inX5 (hts (.instantiable RX5 4) (by decide +kernel))
  obtain ⟨c6, i6, K6⟩ := u_known (C := RX6) (T := TX6) (N := 3) (n := 3) hts inX6 (hts (.instantiable RX6 3) (by decide +kernel))
  obtain ⟨c7, i7, K7⟩ := u_known (C := RX7) (T := TX7) (N := 9) (n := 9) hts inX7 (hts (.instantiable RX7 9) (by decide +kernel))
  obtain ⟨c8, i8, K8⟩ := u_known (C := RX8) (T := TX8) (N := 35) (n := 35) hts inX8 (hts (.instantiable RX8 35) (by decide +kernel))
  obtain ⟨dC, dI, hKc⟩ : ∃ (dC : Nat → ClassId) (dI : Nat → Nat → Nat), ∀ (k : Nat) (q : vw_C), vwCl[k]? = some q → u_Kn s q.1 q.2.1 q.2.2 (dC k) (dI k) := by
    refine ⟨fun k => match k with | 0 => c0 | 1 => c1 | 2 => c2 | 3 => c3 | 4 => c4 | 5 => c5 | 6 => c6 | 7 => c7 | _ => c8, fun k => match k with | 0 => i0 | 1 => i1 | 2 => i2 | 3 => i3 | 4 => i4 | 5 => i5 | 6 => i6 | 7 => i7 | _ => i8, ?_⟩
    intro k q hq
    match k, hq with
    | 0, hq => cases hq; exact K0
    | 1, hq => cases hq; exact K1
    | 2, hq => cases hq; exact K2
    | 3, hq => cases hq; exact K3
    | 4, hq => cases hq; exact K4
    | 5, hq => cases hq; exact K5
    | 6, hq => cases hq; exact K6
    | 7, hq => cases hq; exact K7
    | 8, hq => cases hq; exact K8
    | k + 9, hq => simp [vwCl] at hq
  obtain ⟨a0, A0, R0⟩ := arP (hts (.arrayClass .int) (by decide +kernel))
  obtain ⟨a1, A1, R1⟩ := arP (hts (.arrayClass .byte) (by decide +kernel))
  have o4 : (Cond.arrayOver (.object RX4)).before #[Value.ref b] s = true := hts _ (by decide +kernel)
  have o6 : (Cond.arrayOver (.object RX6)).before #[Value.ref b] s = true := hts _ (by decide +kernel)
  have o2 : (Cond.arrayOver (.object RX2)).before #[Value.ref b] s = true := hts _ (by decide +kernel)
  have o3 : (Cond.arrayOver (.object RX3)).before #[Value.ref b] s = true := hts _ (by decide +kernel)
  have oA : (Cond.arrayOver (.array .int)).before #[Value.ref b] s = true := hts _ (by decide +kernel)
  obtain ⟨a2, A2, R2⟩ := arO o4
  obtain ⟨a3, A3, R3⟩ := arO o6
  obtain ⟨a4, A4, R4⟩ := arO o2
  obtain ⟨a5, A5, R5⟩ := arO o3
  obtain ⟨a6, A6, R6⟩ := arA oA
  obtain ⟨G, hG⟩ : ∃ G : mG, G = ((dC, dI), (fun t => match t with | 0 => a0 | 1 => a1 | 2 => a2 | 3 => a3 | 4 => a4 | 5 => a5 | _ => a6), s.heap, (fun j => match j with | 0 => (b, L, xs) | 1 => (t1, 8, IVT) | _ => (t2, 64, KT))) := ⟨_, rfl⟩
  have hKa : va_K G.1 vwCl (mTys G) s := by
    subst hG
    refine ⟨hKc, fun k q hq => ?_⟩
    match k, hq with
    | 0, hq => cases hq; exact ⟨A0, R0⟩
    | 1, hq => cases hq; exact ⟨A1, R1⟩
    | 2, hq => cases hq; exact ⟨A2, R2⟩
    | 3, hq => cases hq; exact ⟨A3, R3⟩
    | 4, hq => cases hq; exact ⟨A4, R4⟩
    | 5, hq => cases hq; exact ⟨A5, R5⟩
    | 6, hq => cases hq; exact ⟨A6, R6⟩
    | k + 7, hq => simp [mTys] at hq
  have hK : mK G s := by
    subst hG
    refine ⟨hKa, fun j hj => ?_, hZ1, hZ2, fun q hq => ?_, fun C hC => ?_, oA⟩
    · match j, hj with
      | 0, _ => exact ⟨hbl, hX⟩
      | 1, _ => exact ⟨hb1, hX1⟩
      | 2, _ => exact ⟨hb2, hX2⟩
      | j + 3, hj => exact absurd hj (by omega)
    · refine va_Nw.of (A := #[Value.ref b]) rfl ?_
      revert q
      refine List.forall_mem_cons.mpr ⟨hts _ (by decide +kernel), List.forall_mem_cons.mpr ⟨hts _ (by decide +kernel), List.forall_mem_cons.mpr ⟨hts _ (by decide +kernel), List.forall_mem_cons.mpr ⟨hts _ (by decide +kernel), fun _ h => absurd h List.not_mem_nil⟩⟩⟩⟩
    · refine va_AO.of (A := #[Value.ref b]) ?_
      revert C
      exact List.forall_mem_cons.mpr ⟨o6, List.forall_mem_cons.mpr ⟨o4, List.forall_mem_cons.mpr ⟨o2, List.forall_mem_cons.mpr ⟨o3, fun _ h => absurd h List.not_mem_nil⟩⟩⟩⟩
  have hGok : GOK G := by
    subst hG
    exact ⟨rfl, rfl, fun _ _ => rfl, fun _ _ => rfl⟩
  have e0 : (G.2.2.2 0).1 = b := by subst hG; rfl
  have eL : (G.2.2.2 0).2.1 = L := by subst hG; rfl
  have eH : G.2.2.1 = s.heap := by subst hG; rfl
  have hm0 : mb G = s.heap.size := by subst hG; rfl
  have hgo := law_0 (G := G) (S := (mb G, fun _ => .inr (0, []))) hGok (by rw [eL]; exact hL) rfl
  have hl := lv_entry ([.ref b]) (n := 4) (Nat.le_of_ble_eq_true rfl)
  rw [lg_entry_eq]
  generalize (lg_sl ([.ref b]) ++ List.replicate (4 - (lg_sl ([.ref b])).length) Slot.unset).toArray = ls at hl ⊢
  have hl : lv_has ls 4 [(0, .ref b)] := hl
  rw [← e0] at hl ⊢
  refine hgo p l e s m below meth c ⟨hx, hb, hml, hown, fun w hw => by rw [e0]; exact hts w (List.mem_filter.mp hw).1, hK, hr, hlocks, fun h => (by cases h), fun h => (by cases h)⟩ eH.symm ls s.heap [] hl ⟨hm0.symm, Nat.le_refl _, fun q _ => by rw [eH], fun a h1 h2 => absurd h2 (Nat.not_lt.mpr h1)⟩ (fun q hq => by cases hq)
