/-! every call keeps what holds of a state -/
section INV
variable {K : List Int32} {vals : Nat → Nat → Int32} {cnt : Nat → Nat} {np : Nat} {kd : Nat → Int32} {lt : Nat → List Int32} {mo : Nat → Mo} {dk : List Int32}
theorem Inv.post {k : Int32} {t : List Int32} (h : Inv (K, vals, cnt, np, kd, lt, mo, dk)) (ho : okL k t) : Inv (K, vals, cnt, np + 1, va_up kd np k, va_up lt np t, mo, dk) := by
  refine ⟨fun i hi => ?_, h.2⟩
  by_cases e : i = np
  · rw [e, up_s, up_s]; exact ho
  · rw [up_n e, up_n e]; exact h.1 i (by omega)
theorem Inv.lset {q : Nat} {t : List Int32} (h : Inv (K, vals, cnt, np, kd, lt, mo, dk)) (ho : q < np → okL (kd q) t) : Inv (K, vals, cnt, np, kd, va_up lt q t, mo, dk) := by
  refine ⟨fun i hi => ?_, h.2⟩
  by_cases e : i = q
  · subst e; rw [up_s]; exact ho hi
  · rw [up_n e]; exact h.1 i hi
theorem Inv.mset {q : Nat} {o : Mo} (h : Inv (K, vals, cnt, np, kd, lt, mo, dk)) (ho : okM K o) : Inv (K, vals, cnt, np, kd, lt, va_up mo q o, dk) := by
  refine ⟨h.1, fun i hi => ?_⟩
  by_cases e : i = q
  · subst e; rw [up_s]; exact ho
  · rw [up_n e]; exact h.2 i hi
theorem inv_app {g w x : Int32} (h : Inv (K, vals, cnt, np, kd, lt, mo, dk)) : Inv (oApp (K, vals, cnt, np, kd, lt, mo, dk) g w x).2 := by
  show Inv (if _ then _ else _ : Int32 × Sg).2
  split <;> exact h
theorem hdB_len {g n : Int32} {vs : Nat → Int32} : (hdB K g vs n).length = 45 := by
  rw [hdB, List.length_append, List.length_append, List.length_append, mth_len, be4_len, part_len (by show 0 + 8 ≤ (sha _).length; rw [sha_len]; omega)]; rfl
theorem pfB_len {g m n : Int32} {vs : Nat → Int32} : (pfB g vs m n).length = 41 + 32 * (prfN 7 0 n.toInt.toNat m.toInt.toNat).length := by
  rw [pfB, List.length_append, List.length_append, List.length_append, List.length_append, mth_len, be4_len, be4_len, cat_len, List.length_reverse]; rfl
theorem ptB_len {g n i : Int32} {vs : Nat → Int32} : (ptB g vs n i).length = 13 + 32 * (pathN 7 0 n.toInt.toNat i.toInt.toNat).length := by
  rw [ptB, List.length_append, List.length_append, List.length_append, List.length_append, be4_len, be4_len, be4_len, cat_len, List.length_reverse]; rfl
theorem inv_hd {g w n : Int32} (h : Inv (K, vals, cnt, np, kd, lt, mo, dk)) : Inv (oHd (K, vals, cnt, np, kd, lt, mo, dk) g w n).2 := by
  show Inv (if _ then _ else _ : Int32 × Sg).2
  split
  · exact h.post (Or.inl ⟨rfl, hdB_len⟩)
  · exact h
theorem inv_pf {g w m n : Int32} (h : Inv (K, vals, cnt, np, kd, lt, mo, dk)) : Inv (oPf (K, vals, cnt, np, kd, lt, mo, dk) g w m n).2 := by
  show Inv (if _ then _ else _ : Int32 × Sg).2
  split
  · exact h.post (Or.inr (Or.inl ⟨rfl, _, prfN_len 7 _ _ _, pfB_len⟩))
  · exact h
theorem inv_pt {g w n i : Int32} (h : Inv (K, vals, cnt, np, kd, lt, mo, dk)) : Inv (oPt (K, vals, cnt, np, kd, lt, mo, dk) g w n i).2 := by
  show Inv (if _ then _ else _ : Int32 × Sg).2
  split
  · exact h.post (Or.inr (Or.inr ⟨rfl, _, Nat.le_succ_of_le (pathN_len 7 _ _ _), ptB_len⟩))
  · exact h
theorem inv_alt {a k x : Int32} (h : Inv (K, vals, cnt, np, kd, lt, mo, dk)) : Inv (oAlt (K, vals, cnt, np, kd, lt, mo, dk) a k x).2 := by
  show Inv (if _ then _ else _ : Int32 × Sg).2
  split
  · refine h.lset (fun hq => ?_)
    have := h.1 _ hq
    unfold okL at *
    rw [List.length_set]
    exact this
  · exact h
theorem inv_cut {a n : Int32} (h : Inv (K, vals, cnt, np, kd, lt, mo, dk)) : Inv (oCut (K, vals, cnt, np, kd, lt, mo, dk) a n).2 := by
  show Inv (if _ then _ else _ : Int32 × Sg).2
  split
  · rename_i hc
    obtain ⟨c1, c2, c3⟩ := hc
    refine h.lset (fun hq => ?_)
    have hok := h.1 _ hq
    have hlen : ((lt a.toInt.toNat).take (hcB (kd a.toInt.toNat) + 32 * n.toInt.toNat)).length = min (hcB (kd a.toInt.toNat) + 32 * n.toInt.toNat) (lt a.toInt.toNat).length := List.length_take
    have hn : n.toInt.toNat ≤ hcN (kd a.toInt.toNat) (lt a.toInt.toNat) := by omega
    rcases hok with ⟨k0, -⟩ | ⟨k0, c, c8, e⟩ | ⟨k0, c, c8, e⟩
    · exact absurd k0 c2
    · have hb : hcB (kd a.toInt.toNat) = 41 := by rw [hcB, if_pos k0]
      have hcc : hcN (kd a.toInt.toNat) (lt a.toInt.toNat) = c := by rw [hcN, hb]; omega
      exact Or.inr (Or.inl ⟨k0, n.toInt.toNat, by omega, by omega⟩)
    · have hb : hcB (kd a.toInt.toNat) = 13 := by rw [hcB, if_neg (by rw [k0]; decide)]
      have hcc : hcN (kd a.toInt.toNat) (lt a.toInt.toNat) = c := by rw [hcN, hb]; omega
      exact Or.inr (Or.inr ⟨k0, n.toInt.toNat, by omega, by omega⟩)
  · exact h
theorem inv_sig {a : Int32} (h : Inv (K, vals, cnt, np, kd, lt, mo, dk)) : Inv (oSig (K, vals, cnt, np, kd, lt, mo, dk) a).2 := by
  show Inv (if _ then _ else _ : Int32 × Sg).2
  split
  · rename_i hc
    obtain ⟨c1, c2, c3⟩ := hc
    refine h.lset (fun hq => ?_)
    have hok := h.1 _ hq
    rcases hok with ⟨k0, e⟩ | ⟨k0, -⟩ | ⟨k0, -⟩
    · refine Or.inl ⟨k0, ?_⟩
      rw [List.length_append, List.length_take, part_len (by show 0 + 8 ≤ (sha _).length; rw [sha_len]; omega), e]; rfl
    · rw [c2] at k0; exact absurd k0 (by decide)
    · rw [c2] at k0; exact absurd k0 (by decide)
  · exact h
theorem inv_clr (h : Inv (K, vals, cnt, np, kd, lt, mo, dk)) : Inv (oClr (K, vals, cnt, np, kd, lt, mo, dk)).2 := ⟨fun i hi => absurd hi (Nat.not_lt_zero i), h.2⟩
theorem inv_tk {a b : Int32} (h : Inv (K, vals, cnt, np, kd, lt, mo, dk)) : Inv (oTk (K, vals, cnt, np, kd, lt, mo, dk) a b).2 := by
  show Inv (if _ then _ else _ : Int32 × Sg).2
  split
  · rename_i hc
    obtain ⟨ha, hb⟩ := hc
    have hok := h.1 b.toInt.toNat (by omega)
    have hM := h.2 a.toInt.toNat (by omega)
    split
    · rename_i k0
      refine h.mset (okM_nt (okM_tkS hM ?_))
      rcases hok with ⟨-, e⟩ | ⟨k1, -⟩ | ⟨k1, -⟩
      · exact e
      · rw [k0] at k1; exact absurd k1 (by decide)
      · rw [k0] at k1; exact absurd k1 (by decide)
    · split
      · rename_i k0
        rw [k0] at hok
        exact h.mset (okM_nt (okM_tkP hM hok))
      · exact h
  · exact h
theorem inv_gos {a b : Int32} (h : Inv (K, vals, cnt, np, kd, lt, mo, dk)) : Inv (oGos (K, vals, cnt, np, kd, lt, mo, dk) a b).2 := by
  show Inv (if _ then _ else _ : Int32 × Sg).2
  split
  · rename_i hc
    obtain ⟨ha, hb, -⟩ := hc
    have hM := h.2 a.toInt.toNat (by omega)
    exact h.mset (okM_gos (hn := (mo a.toInt.toNat).1.1) hM.1 _ _ _ _ (by omega) (h.2 b.toInt.toNat (by omega)))
  · exact h
theorem inv_lay {a i : Int32} (h : Inv (K, vals, cnt, np, kd, lt, mo, dk)) : Inv (oLay (K, vals, cnt, np, kd, lt, mo, dk) a i).2 := by
  show Inv (if _ then _ else _ : Int32 × Sg).2
  split <;> exact h
theorem inv_pat {k x : Int32} (h : Inv (K, vals, cnt, np, kd, lt, mo, dk)) : Inv (oPat (K, vals, cnt, np, kd, lt, mo, dk) k x).2 := by
  show Inv (if _ then _ else _ : Int32 × Sg).2
  split <;> exact h
theorem inv_tri {n : Int32} (h : Inv (K, vals, cnt, np, kd, lt, mo, dk)) : Inv (oTri (K, vals, cnt, np, kd, lt, mo, dk) n).2 := by
  show Inv (if _ then _ else _ : Int32 × Sg).2
  split <;> exact h
end INV
