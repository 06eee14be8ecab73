/-! the reference's audit -/
theorem up_comm {α : Type} {f : Nat → α} {i j : Nat} {x y : α} (h : i ≠ j) : va_up (va_up f i x) j y = va_up (va_up f j y) i x := by
  funext k
  by_cases e : k = j
  · subst e
    rw [up_s, up_n (Ne.symm h), up_s]
  · rw [up_n e]
    by_cases e2 : k = i
    · subst e2
      rw [up_s, up_s]
    · rw [up_n e2, up_n e2, up_n e]
theorem signed_move {K row dk : List Int32} {ss : Nat} (hl : row.length = 45) (hs : ss + 44 ≤ dk.length) (h100 : ss < 50) (h2 : 2 ≤ dk.length) (h0 : row.getD 0 0 = dk.getD 1 0) (hj : ∀ j, j < 44 → row.getD (1 + j) 0 = dk.getD (ss + j) 0) (b1 : bl row) (b2 : bl dk) : signed K row 0 1 ↔ signed K dk 1 ss := by
  have e0 : rAt row (nI 0) = rAt dk (nI 1) := by rw [rAt_n (by omega) (by omega), rAt_n (by omega) (by omega), h0]
  have e1 : rNum row (nI 1) = rNum dk (nI ss) := by
    rw [rNum_n (by omega) (by omega), rNum_n (by omega) (by omega)]
    unfold num4
    have q0 := hj 0 (by omega)
    have q1 := hj 1 (by omega)
    have q2 := hj 2 (by omega)
    have q3 := hj 3 (by omega)
    rw [Nat.add_zero, Nat.add_zero] at q0
    rw [q0, q1, q2, q3]
  have e2 : part row 1 36 = part dk ss 36 := by
    apply getD_ext (by rw [part_len (by omega), part_len (by omega)])
    intro j hj2
    rw [part_len (by omega)] at hj2
    rw [part_getD hj2, part_getD hj2, hj j (by omega)]
  have e3 : ∀ d : List Int32, d.length = 32 → bl d → (same d 0 row 37 8 ↔ same d 0 dk (ss + 36) 8) := by
    intro d hd bd
    rw [same_iff (by omega) (by omega) bd b1 (by omega) (by omega), same_iff (by omega) (by omega) bd b2 (by omega) (by omega)]
    have : ∀ k, k < 8 → row.getD (37 + k) 0 = dk.getD (ss + 36 + k) 0 := by
      intro k hk
      have := hj (36 + k) (by omega)
      rw [show 1 + (36 + k) = 37 + k by omega, show ss + (36 + k) = ss + 36 + k by omega] at this
      exact this
    constructor
    · intro z k hk; rw [← this k hk]; exact z k hk
    · intro z k hk; rw [this k hk]; exact z k hk
  unfold signed
  constructor
  · intro z
    obtain ⟨g, g1, g2, g3, g4⟩ := z
    exact ⟨g, g1, by rw [← e0]; exact g2, by rw [← e1]; exact g3, by rw [← e2]; exact (e3 _ (sha_len _) (sha_bl _)).mp g4⟩
  · intro z
    obtain ⟨g, g1, g2, g3, g4⟩ := z
    exact ⟨g, g1, by rw [e0]; exact g2, by rw [e1]; exact g3, by rw [e2]; exact (e3 _ (sha_len _) (sha_bl _)).mpr g4⟩
def auC : Nat → Option Nat := nd 85 (nd 50 (lf 36 3) (lf 80 4)) (nd 100 (lf 90 4) (lf 117 5))
section AUD
variable {G : mG} {S S' : mS} {M : Nat} {K : List Int32} {vals : Nat → Nat → Int32} {cnt : Nat → Nat} {np : Nat} {kd : Nat → Int32} {lt : Nat → List Int32} {mo : Nat → Mo} {dk : List Int32}
set_option maxHeartbeats 1000000 in
theorem c_X8_audit (h : MS G S M (K, vals, cnt, np, kd, lt, mo, dk)) :
    mCon G yX8_audit cX8_audit 6 (some .boolean) (rmD 14) [.ref M] S (oM G S M (oAud (K, vals, cnt, np, kd, lt, mo, dk))) := by
  have hall := h
  obtain ⟨A, l, nn, m0, hR⟩ := h
  have hR' := hR
  obtain ⟨h1, h2, h3, h4, h5⟩ := hR
  have hd := h5.1
  have bK := md_blK m0 h1
  have hD : ∀ j, j < 640 → A 29 j = dk.getD j 0 := by
    intro j hj
    by_cases q : j < dk.length
    · exact h5.2.1 j q
    · rw [h5.2.2 j (by omega) hj, List.getD_eq_getElem?_getD, List.getElem?_eq_none (by omega)]; rfl
  have bD : bl dk := m0.bl (q := 29) (a := 0) rfl (by decide) (fun x hx => by rw [Nat.zero_add]; exact hD x (by omega))
  have ret : ∀ (S4 : mS) (A4 : AA) (l4 : List Int32) (x : Int32), x = pI (audS K dk) → fr S S4 (xD M) → Md G S4 M A4 l4 np nn dk.length → (∀ i, 8 ≤ i → i ≤ 29 → A4 i = A i) → oM G S M (oAud (K, vals, cnt, np, kd, lt, mo, dk)) (some (.int x)) S4 := by
    intro S4 A4 l4 x hx f4 m4 g4
    rw [hx]
    exact ⟨rfl, f4, A4, l4, nn, m4, hR'.cong (fun i a b _ _ => g4 i a b)⟩
  have rAtn : ∀ n, n < 128 → 0 < dk.length → (rAt dk 0 = nI n ↔ dk.getD 0 0 = nI n) := by
    intro n hn hl
    rw [rAt_0n hl, ← and255_inj (bD 0) (show isB (nI n) from by
      have : ∀ n, n < 128 → isB (nI n) := by unfold isB; decide
      exact this n hn), and255_pos n hn]
  have lit : ∀ n : Nat, n < 1000 → (nI dk.length = nI n ↔ dk.length = n) := fun n hn => nI_eq (by omega) (by omega)
  -- the two heads
  have h90 : 90 ≤ dk.length → ∀ ss, ss = 2 ∨ ss = 46 → ([dk.getD 1 0] ++ part dk ss 44).length = 45 ∧ ([dk.getD 1 0] ++ part dk ss 44).getD 0 0 = dk.getD 1 0 ∧ (∀ j, j < 44 → ([dk.getD 1 0] ++ part dk ss 44).getD (1 + j) 0 = dk.getD (ss + j) 0) ∧ bl ([dk.getD 1 0] ++ part dk ss 44) := by
    intro hl ss hss
    have hp : (part dk ss 44).length = 44 := part_len (by omega)
    have hx : ∀ j, j < 44 → ([dk.getD 1 0] ++ part dk ss 44).getD (1 + j) 0 = dk.getD (ss + j) 0 := by
      intro j hj
      rw [getD_app_r (by show 1 ≤ 1 + j; omega), show 1 + j - [dk.getD 1 0].length = j by show 1 + j - 1 = j; omega, part_getD hj]
    refine ⟨by rw [List.length_append, hp]; rfl, rfl, hx, fun j => ?_⟩
    by_cases q : j = 0
    · rw [q]; exact bD 1
    · by_cases q2 : j < 45
      · have := hx (j - 1) (by omega)
        rw [show 1 + (j - 1) = j by omega] at this
        rw [this]; exact bD _
      · rw [List.getD_eq_getElem?_getD, List.getElem?_eq_none (by rw [List.length_append, hp]; show 1 + 44 ≤ j; omega)]; exact isB_0
  have k117 : ((dk.length = 90 ∧ dk.getD 0 0 = 1) ∨ (122 ≤ dk.length ∧ dk.getD 0 0 = 2 ∧ (dk.length - 122) % 32 = 0)) → ∀ (d k : Nat) (x x2 x3 : Int32) (F H : Nat → Int32) (S4 : mS), k + d = 44 → x = nI k → x2 = pI (dk.length = 90 ∧ dk.getD 0 0 = 1) → (∀ j, j < k + 1 → F j = ([dk.getD 1 0] ++ part dk 2 44).getD j 0) → (∀ j, j < k + 1 → H j = ([dk.getD 1 0] ++ part dk 46 44).getD j 0) → (∀ j, isB (F j)) → (∀ j, isB (H j)) → fr S S4 (xD M) → Md G S4 M (va_up (va_up A 30 F) 31 H) l np nn dk.length →
      Gd G (miX8 false (some .boolean)) cX8_audit 6 (rmD 14) 0 0 (oM G S M (oAud (K, vals, cnt, np, kd, lt, mo, dk))) 117 [(0, .ref M), (1, .int ((nI dk.length - 122) / 32)), (2, .int x2), (3, .int x3), (4, .int x)] [] (0, 0) S4 := by
    intro hP d
    have hl90 : 90 ≤ dk.length := by rcases hP with hP | hP <;> omega
    obtain ⟨la, a0, aj, ba⟩ := h90 hl90 2 (Or.inl rfl)
    obtain ⟨lb, b0, bj, bb⟩ := h90 hl90 46 (Or.inr rfl)
    have sgA := signed_move (K := K) la (by omega) (by omega) (by omega) a0 aj ba bD
    have sgB := signed_move (K := K) lb (by omega) (by omega) (by omega) b0 bj bb bD
    induction d with
    | zero =>
      intro k x x2 x3 F H S4 hk hx hx2 hF hH bF bH f4 m4
      subst hx
      have ek : k = 44 := by omega
      subst ek
      have g29 : ∀ H7, ∀ i, 8 ≤ i → i ≤ 29 → va_up (va_up (va_up A 30 F) 31 H) 7 H7 i = A i := fun H7 i a b => by rw [up_n (by omega), up_n (by omega), up_n (by omega)]
      have g30 : ∀ H7, va_up (va_up (va_up A 30 F) 31 H) 7 H7 30 = F := fun H7 => by rw [up_n (by decide), up_n (by decide), up_s]
      have g31 : ∀ H7, va_up (va_up (va_up A 30 F) 31 H) 7 H7 31 = H := fun H7 => by rw [up_n (by decide), up_s]
      refine Gd.of (ckX8 _ _) tX8_audit_ok (cuts := auC) 100 ?_
      refine eB.t (by decide) ?_
      refine eG.i m4.obj rfl ?_
      refine ⟨rfl, Nat.le_of_ble_eq_true rfl, ?_⟩
      refine eV.i m4.obj ?_
      refine eC.z (c_M_isSigned (i := 30) (s := 0) m4 (h1.cong (by rw [up_n (by decide), up_n (by decide)])) bK rfl (by decide) (by decide) (by decide) (by decide) la (fun j hj => by rw [Nat.zero_add, up_n (by decide), up_s]; exact hF j hj)) ⟨rfl, rfl⟩ ⟨Nat.le_of_ble_eq_true rfl, Nat.le_of_ble_eq_true rfl⟩ ⟨Nat.zero_le _, Nat.zero_le _⟩ (fun v S5 hk5 => ?_)
      obtain ⟨rfl, f5, l5, H5, m5⟩ := hk5
      by_cases qA : signed K ([dk.getD 1 0] ++ part dk 2 44) 0 1
      · rw [pI_t qA]
        refine eB.f (by decide) ?_
        refine eG.i m5.obj rfl ?_
        refine ⟨rfl, Nat.le_of_ble_eq_true rfl, ?_⟩
        refine eV.i m5.obj ?_
        refine eC.z (c_M_isSigned (i := 31) (s := 0) m5 (h1.cong (g29 H5 10 (by decide) (by decide))) bK rfl (by decide) (by decide) (by decide) (by decide) lb (fun j hj => by rw [Nat.zero_add, g31]; exact hH j hj)) ⟨rfl, rfl⟩ ⟨Nat.le_of_ble_eq_true rfl, Nat.le_of_ble_eq_true rfl⟩ ⟨Nat.zero_le _, Nat.zero_le _⟩ (fun v S6 hk6 => ?_)
        obtain ⟨rfl, f6, l6, H6, m6⟩ := hk6
        rw [up_up] at m6
        have f46 := (f4.tr f5).tr f6
        by_cases qB : signed K ([dk.getD 1 0] ++ part dk 46 44) 0 1
        · have both : bothS K dk := ⟨sgA.mp qA, sgB.mp qB⟩
          rw [pI_t qB]
          refine eB.f (by decide) ?_
          refine eG.i m6.obj rfl ?_
          refine ⟨Nat.le_of_ble_eq_true rfl, ?_⟩
          refine eC.z (c_M_number (i := 30) (s := 1) m6 rfl (by decide) (by decide) (by decide) (by decide)) ⟨rfl, rfl⟩ ⟨Nat.le_of_ble_eq_true rfl, Nat.le_of_ble_eq_true rfl⟩ ⟨Nat.zero_le _, Nat.zero_le _⟩ (fun v S7 hk7 => ?_)
          obtain ⟨rfl, rfl⟩ := hk7
          refine eG.i m6.obj rfl ?_
          refine ⟨Nat.le_of_ble_eq_true rfl, ?_⟩
          refine eC.z (c_M_number (i := 31) (s := 1) m6 rfl (by decide) (by decide) (by decide) (by decide)) ⟨rfl, rfl⟩ ⟨Nat.le_of_ble_eq_true rfl, Nat.le_of_ble_eq_true rfl⟩ ⟨Nat.zero_le _, Nat.zero_le _⟩ (fun v S7 hk7 => ?_)
          obtain ⟨rfl, rfl⟩ := hk7
          rw [g30, g31, nu4_eq (f := F) (s := 1) (p := dk) (j := 2) (fun k hk => by rw [hF _ (by omega)]; exact aj k (by omega)), nu4_eq (f := H) (s := 1) (p := dk) (j := 46) (fun k hk => by rw [hH _ (by omega)]; exact bj k (by omega))]
          rcases hP with hP | hP
          · rw [hx2, pI_t hP]
            have n2 : ¬ rAt dk 0 = 2 := fun z => by
              have := (rAtn 2 (by omega) (by omega)).mp z
              rw [hP.2] at this
              exact absurd this (by decide)
            refine eB.f (by decide) ?_
            refine eB.i (fun q => ?_) (fun q => ?_)
            · refine eG.i m6.obj rfl ?_
              refine eG.i m6.obj rfl ?_
              refine ⟨Nat.le_of_ble_eq_true rfl, ?_⟩
              refine eC.z (c_M_isSame (i := 30) (j := 31) (s := 5) (u := 5) (n := 32) m6 rfl (by decide) (by decide) (by decide) (by decide) rfl (by decide) (by decide) (by decide) (by decide)) ⟨rfl, rfl⟩ ⟨Nat.le_of_ble_eq_true rfl, Nat.le_of_ble_eq_true rfl⟩ ⟨Nat.zero_le _, Nat.zero_le _⟩ (fun v S7 hk7 => ?_)
              obtain ⟨rfl, rfl⟩ := hk7
              have e32 : (∀ k, k < 32 → va_up (va_up (va_up A 30 F) 31 H) 7 H6 30 (5 + k) = va_up (va_up (va_up A 30 F) 31 H) 7 H6 31 (5 + k)) ↔ same dk 6 dk 50 32 := by
                rw [g30, g31, same_iff (by omega) (by omega) bD bD (by omega) (by omega)]
                have ea : ∀ k, k < 32 → F (5 + k) = dk.getD (6 + k) 0 := fun k hk => by
                  rw [hF _ (by omega), show 5 + k = 1 + (4 + k) by omega, aj _ (by omega), show 2 + (4 + k) = 6 + k by omega]
                have eb : ∀ k, k < 32 → H (5 + k) = dk.getD (50 + k) 0 := fun k hk => by
                  rw [hH _ (by omega), show 5 + k = 1 + (4 + k) by omega, bj _ (by omega), show 46 + (4 + k) = 50 + k by omega]
                constructor
                · intro z k hk; rw [← ea k hk, ← eb k hk]; exact z k hk
                · intro z k hk; rw [ea k hk, eb k hk]; exact z k hk
              by_cases q5 : same dk 6 dk 50 32
              · rw [pI_t (e32.mpr q5)]
                refine eB.f (by decide) ?_
                refine eR.f (ret _ _ l6 _ ?_ f46 m6 (g29 H6))
                rw [pI_f (fun z => by rcases z with ⟨-, -, -, z⟩ | ⟨z, -⟩; exact z.2 q5; exact n2 z)]
              · rw [pI_f (fun z => q5 (e32.mp z))]
                refine eB.t rfl ?_
                refine eR.t (ret _ _ l6 _ ?_ f46 m6 (g29 H6))
                rw [pI_t (show audS K dk from Or.inl ⟨(rAtn 1 (by omega) (by omega)).mpr hP.2, hP.1, both, q, q5⟩)]
            · refine eR.f (ret _ _ l6 _ ?_ f46 m6 (g29 H6))
              rw [pI_f (fun z => by rcases z with ⟨-, -, -, z⟩ | ⟨z, -⟩; exact q z.1; exact n2 z)]
          · rw [hx2, pI_f (fun z => by omega)]
            have n1 : ¬ rAt dk 0 = 1 := fun z => by
              have := (rAtn 1 (by omega) (by omega)).mp z
              rw [hP.2.1] at this
              exact absurd this (by decide)
            have y2 : rAt dk 0 = 2 := (rAtn 2 (by omega) (by omega)).mpr hP.2.1
            have hno : ¬ breaS dk → (0 : Int32) = pI (audS K dk) := fun w => by
              rw [pI_f (fun z => by rcases z with ⟨z, -⟩ | ⟨-, -, -, z⟩; exact n1 z; exact w z)]
            refine eB.t rfl ?_
            refine eB.i (fun q => ?_) (fun q => ?_)
            · refine eR.f (ret _ _ l6 _ (hno (fun z => ?_)) f46 m6 (g29 H6))
              obtain ⟨-, r, z, -⟩ := z
              rw [prf, if_pos (Or.inl q)] at z
              cases z
            · refine eB.i (fun q2 => ?_) (fun q2 => ?_)
              · refine eR.f (ret _ _ l6 _ (hno (fun z => ?_)) f46 m6 (g29 H6))
                obtain ⟨-, r, z, -⟩ := z
                rw [prf, if_pos (Or.inr (Or.inl q2))] at z
                cases z
              · refine eG.i m6.obj rfl ?_
                refine eG.i m6.obj rfl ?_
                refine ⟨Nat.le_of_ble_eq_true rfl, ?_⟩
                refine eC.z (c_M_isSame (i := 29) (j := 30) (s := 90) (u := 5) (n := 32) m6 rfl (by decide) (by decide) (by decide) (by decide) rfl (by decide) (by decide) (by decide) (by decide)) ⟨rfl, rfl⟩ ⟨Nat.le_of_ble_eq_true rfl, Nat.le_of_ble_eq_true rfl⟩ ⟨Nat.zero_le _, Nat.zero_le _⟩ (fun v S7 hk7 => ?_)
                obtain ⟨rfl, rfl⟩ := hk7
                have e32 : (∀ k, k < 32 → va_up (va_up (va_up A 30 F) 31 H) 7 H6 29 (90 + k) = va_up (va_up (va_up A 30 F) 31 H) 7 H6 30 (5 + k)) ↔ same dk 90 dk 6 32 := by
                  rw [g30, g29 H6 29 (by decide) (by decide), same_iff (by omega) (by omega) bD bD (by omega) (by omega)]
                  have ea : ∀ k, k < 32 → F (5 + k) = dk.getD (6 + k) 0 := fun k hk => by
                    rw [hF _ (by omega), show 5 + k = 1 + (4 + k) by omega, aj _ (by omega), show 2 + (4 + k) = 6 + k by omega]
                  constructor
                  · intro z k hk; rw [← ea k hk, ← hD _ (by omega)]; exact z k hk
                  · intro z k hk; rw [ea k hk, hD _ (by omega)]; exact z k hk
                by_cases q5 : same dk 90 dk 6 32
                · rw [pI_t (e32.mpr q5)]
                  refine eB.f (by decide) ?_
                  exact eR.f (ret _ _ l6 _ (hno (fun z => z.1 q5)) f46 m6 (g29 H6))
                · rw [pI_f (fun z => q5 (e32.mp z))]
                  refine eB.t rfl ?_
                  have e1 : (nI dk.length - 122) / 32 = nI ((dk.length - 122) / 32) := by
                    rw [show (122 : Int32) = nI 122 from rfl, pk_sub (by omega)]
                    have : ∀ n, n < 700 → nI n / 32 = nI (n / 32) := by decide +kernel
                    exact this _ (by omega)
                  have hlen : dk.length = 90 + 32 + 32 * ((dk.length - 122) / 32) := by omega
                  refine eG.i m6.obj rfl ?_
                  refine eG.i m6.obj rfl ?_
                  have hc := c_M_leads (i := 29) (j := 31) (s := 0) (u := 5) (rS := 90) (h := (dk.length - 122) / 32) (row := dk) (m := num4 dk 2) (n := num4 dk 46) m6 rfl (by decide) (by decide) (by decide) rfl (by decide) (by decide) (by decide) (by decide) (by show 0 + dk.length ≤ 640; omega) hlen bD (fun x hx => by rw [Nat.zero_add, g29 H6 29 (by decide) (by decide)]; exact hD x (by omega))
                  rw [← e1] at hc
                  refine ⟨rfl, Nat.le_of_ble_eq_true rfl, ?_⟩
                  refine eV.i m6.obj ?_
                  refine eC.z (hc) ⟨rfl, rfl⟩ ⟨Nat.le_of_ble_eq_true rfl, Nat.le_of_ble_eq_true rfl⟩ ⟨Nat.zero_le _, Nat.zero_le _⟩ (fun v S8 hk8 => ?_)
                  obtain ⟨rfl, f8, l8, H8, m8⟩ := hk8
                  rw [up_up] at m8
                  have eP : (∃ root, prf dk 90 ((dk.length - 122) / 32) (num4 dk 2) (num4 dk 46) = some root ∧ ∀ k, k < 32 → root.getD k 0 = va_up (va_up (va_up A 30 F) 31 H) 7 H6 31 (5 + k)) ↔ breaS dk := by
                    rw [g31]
                    have eb : ∀ k, k < 32 → H (5 + k) = dk.getD (50 + k) 0 := fun k hk => by
                      rw [hH _ (by omega), show 5 + k = 1 + (4 + k) by omega, bj _ (by omega), show 46 + (4 + k) = 50 + k by omega]
                    constructor
                    · intro z
                      obtain ⟨root, r1, r2⟩ := z
                      obtain ⟨r3, r4⟩ := prf_ok hlen bD r1
                      refine ⟨q5, root, r1, ?_⟩
                      rw [same_iff (by omega) (by omega) r4 bD (by omega) (by omega)]
                      intro k hk
                      rw [Nat.zero_add, ← eb k hk]; exact r2 k hk
                    · intro z
                      obtain ⟨-, root, r1, r2⟩ := z
                      obtain ⟨r3, r4⟩ := prf_ok hlen bD r1
                      rw [same_iff (by omega) (by omega) r4 bD (by omega) (by omega)] at r2
                      refine ⟨root, r1, fun k hk => ?_⟩
                      have := r2 k hk
                      rw [Nat.zero_add] at this
                      rw [eb k hk]; exact this
                  by_cases qP : breaS dk
                  · rw [pI_t (eP.mpr qP)]
                    refine eB.f (by decide) ?_
                    refine eR.t (ret _ _ l8 _ ?_ (f46.tr f8) m8 (g29 H8))
                    rw [pI_t (show audS K dk from Or.inr ⟨y2, ⟨hP.1, hP.2.2⟩, both, qP⟩)]
                  · rw [pI_f (fun z => qP (eP.mp z))]
                    refine eB.t rfl ?_
                    exact eR.f (ret _ _ l8 _ (hno qP) (f46.tr f8) m8 (g29 H8))
        · rw [pI_f qB]
          refine eB.t rfl ?_
          refine eR.f (ret _ _ l6 _ ?_ f46 m6 (g29 H6))
          rw [pI_f (fun z => by rcases z with ⟨-, -, z, -⟩ | ⟨-, -, z, -⟩ <;> exact qB (sgB.mpr z.2))]
      · rw [pI_f qA]
        refine eB.t rfl ?_
        refine eR.f (ret _ _ l5 _ ?_ (f4.tr f5) m5 (g29 H5))
        rw [pI_f (fun z => by rcases z with ⟨-, -, z, -⟩ | ⟨-, -, z, -⟩ <;> exact qA (sgA.mpr z.1))]
    | succ d ih =>
      intro k x x2 x3 F H S4 hk hx hx2 hF hH bF bH f4 m4
      subst hx
      have e1 : 1 + nI k = nI (1 + k) := nI_add 1 k
      have e2 : 2 + nI k = nI (2 + k) := nI_add 2 k
      have e46 : 46 + nI k = nI (46 + k) := nI_add 46 k
      have eb : ∀ j, (dk.getD j 0).toInt8.toInt32 = dk.getD j 0 := fun j => bD j
      refine Gd.of (ckX8 _ _) tX8_audit_ok (cuts := auC) 100 ?_
      refine eB.f (by rw [show (44 : Int32) = nI 44 from rfl, nI_leI (by omega) (by omega)]; omega) ?_
      refine eG.i m4.obj rfl ?_
      refine eG.i m4.obj rfl ?_
      refine eLb.i (i := 2 + nI k) m4.a29 (by rw [e2]; exact vp_in_nI (by omega) (by omega)) ?_
      refine eSb.i (i := 1 + nI k) m4.a30 (by rw [e1]; exact vp_in_nI (by omega) (by omega)) ?_
      rw [e2, e1, nI_clamp (by omega), nI_clamp (by omega), show va_up (va_up A 30 F) 31 H 29 = A 29 from by rw [up_n (by decide), up_n (by decide)], hD _ (by omega), eb, show va_up (va_up A 30 F) 31 H 30 = F from by rw [up_n (by decide), up_s]]
      have m5 := m4.s30 (f := upd F (1 + k) (dk.getD (2 + k) 0)) (fun j => by
        unfold upd
        split
        · exact bD _
        · exact bF j)
      rw [up_comm (by decide), up_up] at m5
      refine eG.i m5.obj rfl ?_
      refine eG.i m5.obj rfl ?_
      refine eLb.i (i := 46 + nI k) m5.a29 (by rw [e46]; exact vp_in_nI (by omega) (by omega)) ?_
      refine eSb.i (i := 1 + nI k) m5.a31 (by rw [e1]; exact vp_in_nI (by omega) (by omega)) ?_
      rw [e46, e1, nI_clamp (by omega), nI_clamp (by omega), show va_up (va_up A 30 (upd F (1 + k) (dk.getD (2 + k) 0))) 31 H 29 = A 29 from by rw [up_n (by decide), up_n (by decide)], hD _ (by omega), eb, show va_up (va_up A 30 (upd F (1 + k) (dk.getD (2 + k) 0))) 31 H 31 = H from by rw [up_s]]
      have m6 := m5.s31 (f := upd H (1 + k) (dk.getD (46 + k) 0)) (fun j => by
        unfold upd
        split
        · exact bD _
        · exact bH j)
      rw [up_up] at m6
      refine ih (k + 1) _ _ _ (upd F (1 + k) (dk.getD (2 + k) 0)) (upd H (1 + k) (dk.getD (46 + k) 0)) _ (by omega) (nI_1 k) hx2 (fun j hj => ?_) (fun j hj => ?_) ?_ ?_ ((f4.tr (xD_up (by omega))).tr (xD_up (by omega))) m6
      · by_cases q : j = 1 + k
        · rw [q, pk_us, aj k (by omega)]
        · rw [pk_un q]; exact hF j (by omega)
      · by_cases q : j = 1 + k
        · rw [q, pk_us, bj k (by omega)]
        · rw [pk_un q]; exact hH j (by omega)
      · intro j
        unfold upd
        split
        · exact bD _
        · exact bF j
      · intro j
        unfold upd
        split
        · exact bD _
        · exact bH j
  have k90 : ((dk.length = 90 ∧ dk.getD 0 0 = 1) ∨ (122 ≤ dk.length ∧ dk.getD 0 0 = 2 ∧ (dk.length - 122) % 32 = 0)) → ∀ (x2 x3 : Int32), x2 = pI (dk.length = 90 ∧ dk.getD 0 0 = 1) →
      Gd G (miX8 false (some .boolean)) cX8_audit 6 (rmD 14) 0 0 (oM G S M (oAud (K, vals, cnt, np, kd, lt, mo, dk))) 90 [(0, .ref M), (1, .int ((nI dk.length - 122) / 32)), (2, .int x2), (3, .int x3)] [] (0, 0) S := by
    intro hP x2 x3 hx2
    have eb : (dk.getD 1 0).toInt8.toInt32 = dk.getD 1 0 := bD 1
    have d1 : A 29 (1 : Int32).toNatClampNeg = dk.getD 1 0 := hD 1 (by omega)
    refine Gd.of (ckX8 _ _) tX8_audit_ok (cuts := auC) 100 ?_
    refine eG.i m0.obj rfl ?_
    refine eG.i m0.obj rfl ?_
    refine eLb.i (i := 1) m0.a29 (show vp_in (nI 1) _ from vp_in_nI (by omega) (by omega)) ?_
    refine eSb.i (i := 0) m0.a30 (show vp_in (nI 0) _ from vp_in_nI (by omega) (by omega)) ?_
    rw [d1, eb]
    have m1 := m0.s30 (f := upd (A 30) (0 : Int32).toNatClampNeg (dk.getD 1 0)) (fun j => by
      unfold upd
      split
      · exact bD _
      · exact m0.isb rfl (by decide) j)
    refine eG.i m1.obj rfl ?_
    refine eG.i m1.obj rfl ?_
    refine eLb.i (i := 1) m1.a29 (show vp_in (nI 1) _ from vp_in_nI (by omega) (by omega)) ?_
    refine eSb.i (i := 0) m1.a31 (show vp_in (nI 0) _ from vp_in_nI (by omega) (by omega)) ?_
    rw [up_n (show 29 ≠ 30 by decide), d1, eb, up_n (show 31 ≠ 30 by decide)]
    have m2 := m1.s31 (f := upd (A 31) (0 : Int32).toNatClampNeg (dk.getD 1 0)) (fun j => by
      unfold upd
      split
      · exact bD _
      · exact m0.isb rfl (by decide) j)
    refine k117 hP 44 0 _ _ _ _ _ _ (by omega) rfl hx2 (fun j hj => ?_) (fun j hj => ?_) ?_ ?_ ((xD_up (by omega)).tr (xD_up (by omega))) m2
    · have : j = 0 := by omega
      subst this
      exact pk_us
    · have : j = 0 := by omega
      subst this
      exact pk_us
    · intro j
      unfold upd
      split
      · exact bD _
      · exact m0.isb rfl (by decide) j
    · intro j
      unfold upd
      split
      · exact bD _
      · exact m0.isb rfl (by decide) j
  have k80 : ∀ (x2 x3 : Int32), x2 = pI (dk.length = 90 ∧ dk.getD 0 0 = 1) → x3 = pI (122 ≤ dk.length ∧ dk.getD 0 0 = 2 ∧ (dk.length - 122) % 32 = 0) →
      Gd G (miX8 false (some .boolean)) cX8_audit 6 (rmD 14) 0 0 (oM G S M (oAud (K, vals, cnt, np, kd, lt, mo, dk))) 80 [(0, .ref M), (1, .int ((nI dk.length - 122) / 32)), (2, .int x2), (3, .int x3)] [] (0, 0) S := by
    intro x2 x3 hx2 hx3
    by_cases p1 : dk.length = 90 ∧ dk.getD 0 0 = 1
    · have e2 : x2 = 1 := by rw [hx2, pI_t p1]
      refine Gd.of (ckX8 _ _) tX8_audit_ok (cuts := auC) 100 ?_
      refine eB.f (by rw [e2]; decide) ?_
      exact k90 (Or.inl p1) x2 x3 hx2
    · have e2 : x2 = 0 := by rw [hx2, pI_f p1]
      by_cases p2 : 122 ≤ dk.length ∧ dk.getD 0 0 = 2 ∧ (dk.length - 122) % 32 = 0
      · have e3 : x3 = 1 := by rw [hx3, pI_t p2]
        refine Gd.of (ckX8 _ _) tX8_audit_ok (cuts := auC) 100 ?_
        refine eB.t e2 ?_
        refine eB.f (by rw [e3]; decide) ?_
        exact k90 (Or.inr p2) x2 x3 hx2
      · have e3 : x3 = 0 := by rw [hx3, pI_f p2]
        refine Gd.of (ckX8 _ _) tX8_audit_ok (cuts := auC) 100 ?_
        refine eB.t e2 ?_
        refine eB.t e3 ?_
        refine eR.f (ret _ A l _ ?_ fr.rf m0 (fun _ _ _ => rfl))
        rw [pI_f (fun z => ?_)]
        rcases z with ⟨z1, z2, -⟩ | ⟨z1, z2, -⟩
        · exact p1 ⟨z2, (rAtn 1 (by omega) (by omega)).mp z1⟩
        · exact p2 ⟨z2.1, (rAtn 2 (by omega) (by have := z2.1; omega)).mp z1, z2.2⟩
  have d0 : A 29 (0 : Int32).toNatClampNeg = dk.getD 0 0 := hD 0 (by omega)
  have k36 : ∀ (x2 : Int32), x2 = pI (dk.length = 90 ∧ dk.getD 0 0 = 1) →
      Gd G (miX8 false (some .boolean)) cX8_audit 6 (rmD 14) 0 0 (oM G S M (oAud (K, vals, cnt, np, kd, lt, mo, dk))) 36 [(0, .ref M), (1, .int ((nI dk.length - 122) / 32)), (2, .int x2)] [] (0, 0) S := by
    intro x2 hx2
    refine Gd.of (ckX8 _ _) tX8_audit_ok (cuts := auC) 100 ?_
    refine eG.i m0.obj rfl ?_
    refine eB.i (fun q => ?_) (fun q => ?_)
    · have q' : dk.length < 122 := (nI_ltI (a := dk.length) (b := 122) (by omega) (by omega)).mp q
      exact k80 x2 _ hx2 (by rw [pI_f (fun z => by omega)])
    · have q' : ¬ dk.length < 122 := mt (nI_ltI (a := dk.length) (b := 122) (by omega) (by omega)).mpr q
      refine eG.i m0.obj rfl ?_
      refine eLb.i (i := 0) m0.a29 (show vp_in (nI 0) _ from vp_in_nI (by omega) (by omega)) ?_
      rw [d0]
      refine eB.i (fun q1 => ?_) (fun q1 => ?_)
      · refine eG.i m0.obj rfl ?_
        refine eZ.i (by decide) ?_
        have e : nI dk.length - 122 - (nI dk.length - 122) / 32 * 32 = nI ((dk.length - 122) % 32) := by
          rw [show (122 : Int32) = nI 122 from rfl, pk_sub (by omega)]
          have : ∀ n, n < 700 → nI n - nI n / 32 * 32 = nI (n % 32) := by decide +kernel
          exact this _ (by omega)
        have e1 : (nI dk.length - 122) / 32 = nI ((dk.length - 122) / 32) := by
          rw [show (122 : Int32) = nI 122 from rfl, pk_sub (by omega)]
          have : ∀ n, n < 700 → nI n / 32 = nI (n / 32) := by decide +kernel
          exact this _ (by omega)
        refine eB.i (fun q2 => ?_) (fun q2 => ?_)
        · have q3 : (dk.length - 122) % 32 = 0 := by
            rw [e] at q2
            have := congrArg Int32.toInt q2
            rw [nI_toInt (by omega)] at this
            have h0 : (0 : Int32).toInt = 0 := rfl
            omega
          refine eB.f (by rw [e1, show (16 : Int32) = nI 16 from rfl, nI_ltI (by omega) (by omega)]; omega) ?_
          exact k80 x2 _ hx2 (by rw [pI_t ⟨by omega, q1, q3⟩])
        · exact k80 x2 _ hx2 (by rw [pI_f (fun z => q2 (by rw [e, z.2.2]; rfl))])
      · exact k80 x2 _ hx2 (by rw [pI_f (fun z => q1 z.2.1)])
  refine mCon.of (I := miX8 false (some .boolean)) (by decide) rfl rfl (fun h => by cases h) (fun _ => rfl) (Nat.le_of_ble_eq_true rfl) ?_
  show Gd _ _ _ _ _ _ _ _ 0 [(0, .ref M)] [] (0, 0) _
  refine Gd.of (ckX8 _ _) tX8_audit_ok (cuts := auC) 100 ?_
  refine eG.i m0.obj rfl ?_
  refine eZ.i (by decide) ?_
  refine eG.i m0.obj rfl ?_
  refine eB.i (fun q => ?_) (fun q => ?_)
  · have q' : dk.length = 90 := (lit 90 (by omega)).mp q
    refine eG.i m0.obj rfl ?_
    refine eLb.i (i := 0) m0.a29 (show vp_in (nI 0) _ from vp_in_nI (by omega) (by omega)) ?_
    rw [d0]
    refine eB.i (fun q1 => ?_) (fun q1 => ?_)
    · exact k36 _ (by rw [pI_t ⟨q', q1⟩])
    · exact k36 _ (by rw [pI_f (fun z => q1 z.2)])
  · exact k36 _ (by rw [pI_f (fun z => q ((lit 90 (by omega)).mpr z.1))])
end AUD
