/-! the desk -/
def oDsk (s : Sg) (k : Int32) : Int32 × Sg := match s with
  | (K, vals, cnt, np, kd, lt, mo, dk) => (rAt dk k, K, vals, cnt, np, kd, lt, mo, dk)
def oPat (s : Sg) (k x : Int32) : Int32 × Sg := match s with
  | (K, vals, cnt, np, kd, lt, mo, dk) => if inR k dk.length then (1, K, vals, cnt, np, kd, lt, mo, dk.set k.toInt.toNat x.toInt8.toInt32) else (0, K, vals, cnt, np, kd, lt, mo, dk)
def oTri (s : Sg) (n : Int32) : Int32 × Sg := match s with
  | (K, vals, cnt, np, kd, lt, mo, dk) => if inR n 635 then (1, K, vals, cnt, np, kd, lt, mo, rsz dk n.toInt.toNat) else (0, K, vals, cnt, np, kd, lt, mo, dk)
def oHas (s : Sg) (k : Int32) : Int32 × Sg := match s with
  | (K, vals, cnt, np, kd, lt, mo, dk) => (if inR k 32 then rAt (sha dk) k else -1, K, vals, cnt, np, kd, lt, mo, dk)
def bothS (K dk : List Int32) : Prop := signed K dk 1 2 ∧ signed K dk 1 46
def forkS (dk : List Int32) : Prop := num4 dk 2 = num4 dk 46 ∧ ¬ same dk 6 dk 50 32
def wholeS (dk : List Int32) : Prop := 122 ≤ dk.length ∧ (dk.length - 122) % 32 = 0
def breaS (dk : List Int32) : Prop := ¬ same dk 90 dk 6 32 ∧ ∃ root, prf dk 90 ((dk.length - 122) / 32) (num4 dk 2) (num4 dk 46) = some root ∧ same root 0 dk 50 32
def audS (K dk : List Int32) : Prop := (rAt dk 0 = 1 ∧ dk.length = 90 ∧ bothS K dk ∧ forkS dk) ∨ (rAt dk 0 = 2 ∧ wholeS dk ∧ bothS K dk ∧ breaS dk)
noncomputable def oAud (s : Sg) : Int32 × Sg := match s with
  | (K, vals, cnt, np, kd, lt, mo, dk) => (pI (audS K dk), K, vals, cnt, np, kd, lt, mo, dk)
section GWQ
variable {G : mG} {S S' S0 : mS} {X : Nat → Prop} {B m : Nat} {K : List Int32} {vals : Nat → Nat → Int32} {cnt : Nat → Nat} {np : Nat} {kd : Nat → Int32} {lt : Nat → List Int32} {mo : Nat → Mo} {dk row : List Int32} {k : Int32} {l : List Int32} {o : Mo}
theorem CS.dq (h : CS G S B (K, vals, cnt, np, kd, lt, mo, dk)) : Rl G S (B + 691) 634 dk := h.2.2.2.2.2.2.2.2.2.2
theorem CS.ob (h : CS G S B (K, vals, cnt, np, kd, lt, mo, dk)) : mAt G S B (cwO B np) := h.1
theorem c_X7_desk {i : Int32} (h : CS G S B (K, vals, cnt, np, kd, lt, mo, dk)) :
    mCon G yX7_desk cX7_desk 2 (some .int) (rmD 6) [.ref B, .int i] S (oK G S B (oDsk (K, vals, cnt, np, kd, lt, mo, dk) i)) := by
  refine mCon.of (I := miX7 false (some .int)) (by decide) rfl rfl (fun h => by cases h) (fun _ => rfl) (Nat.le_of_ble_eq_true rfl) ?_
  show Gd _ _ _ _ _ _ _ _ 0 [(0, .ref B), (1, .int i)] [] (0, 0) _
  refine Gd.of (ckX7 _ _) tX7_desk_ok (cuts := fun _ => none) 40 ?_
  refine eG.i h.ob rfl ?_
  refine ⟨rfl, Nat.le_of_ble_eq_true rfl, ?_⟩
  refine eV.i h.dq.obj ?_
  refine eC.z (c_Row_at h.dq) ⟨rfl, rfl⟩ ⟨Nat.le_of_ble_eq_true rfl, Nat.le_of_ble_eq_true rfl⟩ ⟨Nat.zero_le _, Nat.zero_le _⟩ (fun v S1 hk => ?_)
  obtain ⟨rfl, rfl⟩ := hk
  exact eR.int (oK.no h rfl rfl)
theorem c_X7_patch {i x : Int32} (h : CS G S B (K, vals, cnt, np, kd, lt, mo, dk)) :
    mCon G yX7_patch cX7_patch 3 (some .boolean) (rmD 6) [.ref B, .int i, .int x] S (oK G S B (oPat (K, vals, cnt, np, kd, lt, mo, dk) i x)) := by
  refine mCon.of (I := miX7 false (some .boolean)) (by decide) rfl rfl (fun h => by cases h) (fun _ => rfl) (Nat.le_of_ble_eq_true rfl) ?_
  show Gd _ _ _ _ _ _ _ _ 0 [(0, .ref B), (1, .int i), (2, .int x)] [] (0, 0) _
  refine Gd.of (ckX7 _ _) tX7_patch_ok (cuts := fun _ => none) 40 ?_
  refine eG.i h.ob rfl ?_
  refine ⟨rfl, Nat.le_of_ble_eq_true rfl, ?_⟩
  refine eV.i h.dq.obj ?_
  refine eC.z (c_Row_has h.dq) ⟨rfl, rfl⟩ ⟨Nat.le_of_ble_eq_true rfl, Nat.le_of_ble_eq_true rfl⟩ ⟨Nat.zero_le _, Nat.zero_le _⟩ (fun v S1 hk => ?_)
  obtain ⟨rfl, rfl⟩ := hk
  by_cases hi : inR i dk.length
  · rw [if_pos hi]
    refine eB.f (by decide) ?_
    refine eG.i h.ob rfl ?_
    refine ⟨rfl, Nat.le_of_ble_eq_true rfl, ?_⟩
    refine eV.i h.dq.obj ?_
    refine eC.z (c_Row_put h.dq) ⟨rfl, rfl⟩ ⟨Nat.le_of_ble_eq_true rfl, Nat.le_of_ble_eq_true rfl⟩ ⟨Nat.zero_le _, Nat.zero_le _⟩ (fun v S2 hk => ?_)
    obtain ⟨rfl, f1, d1⟩ := hk
    rw [if_pos hi] at d1
    have e : oPat (K, vals, cnt, np, kd, lt, mo, dk) i x = (1, K, vals, cnt, np, kd, lt, mo, dk.set i.toInt.toNat x.toInt8.toInt32) := if_pos hi
    rw [e]
    exact eR.t ⟨rfl, f1.mono (fun q z => by omega), h.dsk f1 d1⟩
  · rw [if_neg hi]
    refine eB.t rfl ?_
    exact eR.f (oK.no h (if_neg hi) rfl)
theorem c_X7_trim {n : Int32} (h : CS G S B (K, vals, cnt, np, kd, lt, mo, dk)) :
    mCon G yX7_trim cX7_trim 2 (some .boolean) (rmD 6) [.ref B, .int n] S (oK G S B (oTri (K, vals, cnt, np, kd, lt, mo, dk) n)) := by
  refine mCon.of (I := miX7 false (some .boolean)) (by decide) rfl rfl (fun h => by cases h) (fun _ => rfl) (Nat.le_of_ble_eq_true rfl) ?_
  show Gd _ _ _ _ _ _ _ _ 0 [(0, .ref B), (1, .int n)] [] (0, 0) _
  refine Gd.of (ckX7 _ _) tX7_trim_ok (cuts := fun _ => none) 40 ?_
  refine eB.i (fun q => ?_) (fun q => ?_)
  · rw [i_lt0] at q
    exact eR.f (oK.no h (if_neg (fun z => by omega)) rfl)
  · rw [i_lt0] at q
    refine eB.i (fun q2 => ?_) (fun q2 => ?_)
    · have q3 := (i_len (k := n) (n := 634) (by decide)).mp q2
      have hn : n = nI n.toInt.toNat := i_of (by omega)
      refine eG.i h.ob rfl ?_
      have hc := c_Row_resize (n := n.toInt.toNat) h.dq (by omega)
      rw [← hn] at hc
      refine ⟨rfl, Nat.le_of_ble_eq_true rfl, ?_⟩
      refine eV.i h.dq.obj ?_
      refine eC.z (hc) ⟨rfl, rfl⟩ ⟨Nat.le_of_ble_eq_true rfl, Nat.le_of_ble_eq_true rfl⟩ ⟨Nat.zero_le _, Nat.zero_le _⟩ (fun v S2 hk => ?_)
      obtain ⟨rfl, f1, d1⟩ := hk
      have e : oTri (K, vals, cnt, np, kd, lt, mo, dk) n = (1, K, vals, cnt, np, kd, lt, mo, rsz dk n.toInt.toNat) := if_pos (by omega)
      rw [e]
      exact eR.t ⟨rfl, f1.mono (fun q z => by omega), h.dsk f1 d1⟩
    · have q3 := mt (i_len (k := n) (n := 634) (by decide)).mpr q2
      exact eR.f (oK.no h (if_neg (fun z => by omega)) rfl)
theorem c_X7_hash {i : Int32} (hG : GOK G) (h : CS G S B (K, vals, cnt, np, kd, lt, mo, dk)) :
    mCon G yX7_hash cX7_hash 2 (some .int) (rmD 6) [.ref B, .int i] S (oK G S B (oHas (K, vals, cnt, np, kd, lt, mo, dk) i)) := by
  refine mCon.of (I := miX7 false (some .int)) (by decide) rfl rfl (fun h => by cases h) (fun _ => rfl) (Nat.le_of_ble_eq_true rfl) ?_
  show Gd _ _ _ _ _ _ _ _ 0 [(0, .ref B), (1, .int i)] [] (0, 0) _
  refine Gd.of (ckX7 _ _) tX7_hash_ok (cuts := fun _ => none) 60 ?_
  have hno : ∀ (x : Option Value), x = some (.int (-1)) → ¬ inR i 32 → oK G S B (oHas (K, vals, cnt, np, kd, lt, mo, dk) i) x S := by
    intro x hx hc
    refine oK.no h ?_ hx
    show (if _ then _ else _, _) = _
    rw [if_neg hc]
  refine eB.i (fun q => ?_) (fun q => ?_)
  · rw [i_lt0] at q
    exact eR.int (hno _ rfl (by omega))
  · rw [i_lt0] at q
    refine eB.i (fun q2 => ?_) (fun q2 => ?_)
    · have q3 := (i_ltn (k := i) (n := 32) (by decide)).mp q2
      obtain ⟨⟨lm, ld, hs⟩, ⟨co, cw, hc⟩, st, hst⟩ := h.2.1
      refine eG.i h.ob rfl ?_
      refine eG.i hs.o rfl ?_
      refine eG.i h.ob rfl ?_
      have hl := h.dq.le
      refine ⟨rfl, Nat.le_of_ble_eq_true rfl, ?_⟩
      refine eV.i hs.m.obj ?_
      refine eC.z (c_Row_become hs.m h.dq (by omega) (by omega)) ⟨rfl, rfl⟩ ⟨Nat.le_of_ble_eq_true rfl, Nat.le_of_ble_eq_true rfl⟩ ⟨Nat.zero_le _, Nat.zero_le _⟩ (fun v S1 hk => ?_)
      obtain ⟨rfl, f1, r1⟩ := hk
      have s1 := hs.msg f1 r1
      refine eG.i (h.ob.fr f1 (by omega)) rfl ?_
      refine ⟨rfl, Nat.le_of_ble_eq_true rfl, ?_⟩
      refine eV.i s1.o ?_
      refine eC.z (c_Sha_finish hG s1 hl.1) ⟨rfl, rfl⟩ ⟨Nat.le_of_ble_eq_true rfl, Nat.le_of_ble_eq_true rfl⟩ ⟨Nat.zero_le _, Nat.zero_le _⟩ (fun v S2 hk => ?_)
      obtain ⟨rfl, f2, lm2, s2⟩ := hk
      refine ⟨rfl, Nat.le_of_ble_eq_true rfl, ?_⟩
      refine eV.i s2.d.obj ?_
      refine eC.z (c_Row_at s2.d) ⟨rfl, rfl⟩ ⟨Nat.le_of_ble_eq_true rfl, Nat.le_of_ble_eq_true rfl⟩ ⟨Nat.zero_le _, Nat.zero_le _⟩ (fun v S3 hk => ?_)
      obtain ⟨rfl, rfl⟩ := hk
      have f12 := (fr_xm f1).tr f2
      have z := h.scr (f12.mono (fun q z => by omega)) ⟨⟨_, _, s2⟩, ⟨_, _, hc.keep f12 (fun q a b => by omega)⟩, _, hst.fr f12 (by omega) (by omega)⟩
      have e : oHas (K, vals, cnt, np, kd, lt, mo, dk) i = (rAt (sha dk) i, K, vals, cnt, np, kd, lt, mo, dk) := by
        show (if _ then _ else _, _) = _
        rw [if_pos (by omega)]
      rw [e]
      exact eR.int ⟨rfl, f12.mono (fun q z => by omega), z⟩
    · have q3 := mt (i_ltn (k := i) (n := 32) (by decide)).mpr q2
      exact eR.int (hno _ rfl (by omega))
/-- a look that changes the scratch rows alone -/
def looK (G : mG) (S : mS) (B : Nat) (s : Sg) (p : Prop) : Option Value → mS → Prop := fun v S' => v = some (.int (pI p)) ∧ fr S S' (xW B) ∧ CS G S' B s
theorem c_X7_both (hG : GOK G) (h : CS G S B (K, vals, cnt, np, kd, lt, mo, dk)) (hl : 90 ≤ dk.length) :
    mCon G yX7_bothAreSigned cX7_bothAreSigned 1 (some .boolean) (rmD 5) [.ref B] S (looK G S B (K, vals, cnt, np, kd, lt, mo, dk) (bothS K dk)) := by
  obtain ⟨⟨lm, ld, hs⟩, ⟨co, cw, hc⟩, st, hst⟩ := h.2.1
  have h3 := h.2.2.1
  refine mCon.of (I := miX7 false (some .boolean)) (by decide) rfl rfl (fun h => by cases h) (fun _ => rfl) (Nat.le_of_ble_eq_true rfl) ?_
  show Gd _ _ _ _ _ _ _ _ 0 [(0, .ref B)] [] (0, 0) _
  refine Gd.of (ckX7 _ _) tX7_bothAreSigned_ok (cuts := fun _ => none) 60 ?_
  refine eG.i h.ob rfl ?_
  refine eG.i h.ob rfl ?_
  refine eG.i h.ob rfl ?_
  refine ⟨rfl, Nat.le_of_ble_eq_true rfl, ?_⟩
  refine eV.i h3.1 ?_
  refine eC.z (c_Keys_haveSigned (ls := 1) (ss := 2) hG hs h3 h.dq (by omega) (by omega) (by omega) (by omega)) ⟨rfl, rfl⟩ ⟨Nat.le_of_ble_eq_true rfl, Nat.le_of_ble_eq_true rfl⟩ ⟨Nat.zero_le _, Nat.zero_le _⟩ (fun v S1 hk => ?_)
  obtain ⟨rfl, f1, lm1, ld1, s1⟩ := hk
  have z1 := h.scr (f1.mono (fun q z => by omega)) ⟨⟨_, _, s1⟩, ⟨_, _, hc.keep f1 (fun q a b => by omega)⟩, _, hst.fr f1 (by omega) (by omega)⟩
  have g1 : fr S S1 (xW B) := f1.mono (fun q z => by omega)
  by_cases q : signed K dk 1 2
  · rw [pI_t q]
    refine eB.f (by decide) ?_
    refine eG.i z1.ob rfl ?_
    refine eG.i z1.ob rfl ?_
    refine eG.i z1.ob rfl ?_
    refine ⟨rfl, Nat.le_of_ble_eq_true rfl, ?_⟩
    refine eV.i z1.2.2.1.1 ?_
    refine eC.z (c_Keys_haveSigned (ls := 1) (ss := 46) hG s1 z1.2.2.1 z1.dq (by omega) (by omega) (by omega) (by omega)) ⟨rfl, rfl⟩ ⟨Nat.le_of_ble_eq_true rfl, Nat.le_of_ble_eq_true rfl⟩ ⟨Nat.zero_le _, Nat.zero_le _⟩ (fun v S2 hk => ?_)
    obtain ⟨rfl, f2, lm2, ld2, s2⟩ := hk
    obtain ⟨-, ⟨co1, cw1, hc1⟩, st1, hst1⟩ := z1.2.1
    have z2 := z1.scr (f2.mono (fun q z => by omega)) ⟨⟨_, _, s2⟩, ⟨_, _, hc1.keep f2 (fun q a b => by omega)⟩, _, hst1.fr f2 (by omega) (by omega)⟩
    have g2 : fr S S2 (xW B) := g1.tr (f2.mono (fun q z => by omega))
    by_cases q2 : signed K dk 1 46
    · rw [pI_t q2]
      refine eB.f (by decide) ?_
      exact eR.t ⟨by rw [pI_t (show bothS K dk from ⟨q, q2⟩)], g2, z2⟩
    · rw [pI_f q2]
      refine eB.t rfl ?_
      exact eR.f ⟨by rw [pI_f (fun z : bothS K dk => q2 z.2)], g2, z2⟩
  · rw [pI_f q]
    refine eB.t rfl ?_
    exact eR.f ⟨by rw [pI_f (fun z : bothS K dk => q z.1)], g1, z1⟩
theorem c_X7_isFork (h : CS G S B (K, vals, cnt, np, kd, lt, mo, dk)) (hl : 90 ≤ dk.length) :
    mCon G yX7_isFork cX7_isFork 1 (some .boolean) (rmD 5) [.ref B] S (looK G S B (K, vals, cnt, np, kd, lt, mo, dk) (forkS dk)) := by
  refine mCon.of (I := miX7 false (some .boolean)) (by decide) rfl rfl (fun h => by cases h) (fun _ => rfl) (Nat.le_of_ble_eq_true rfl) ?_
  show Gd _ _ _ _ _ _ _ _ 0 [(0, .ref B)] [] (0, 0) _
  refine Gd.of (ckX7 _ _) tX7_isFork_ok (cuts := fun _ => none) 60 ?_
  refine eG.i h.ob rfl ?_
  refine ⟨rfl, Nat.le_of_ble_eq_true rfl, ?_⟩
  refine eV.i h.dq.obj ?_
  refine eC.z (c_Row_number (k := 2) h.dq) ⟨rfl, rfl⟩ ⟨Nat.le_of_ble_eq_true rfl, Nat.le_of_ble_eq_true rfl⟩ ⟨Nat.zero_le _, Nat.zero_le _⟩ (fun v S1 hk => ?_)
  obtain ⟨rfl, rfl⟩ := hk
  refine eG.i h.ob rfl ?_
  refine ⟨rfl, Nat.le_of_ble_eq_true rfl, ?_⟩
  refine eV.i h.dq.obj ?_
  refine eC.z (c_Row_number (k := 46) h.dq) ⟨rfl, rfl⟩ ⟨Nat.le_of_ble_eq_true rfl, Nat.le_of_ble_eq_true rfl⟩ ⟨Nat.zero_le _, Nat.zero_le _⟩ (fun v S1 hk => ?_)
  obtain ⟨rfl, rfl⟩ := hk
  have e1 : rNum dk 2 = num4 dk 2 := rNum_n (j := 2) (by omega) (by omega)
  have e5 : rNum dk 46 = num4 dk 46 := rNum_n (j := 46) (by omega) (by omega)
  rw [e1, e5]
  refine eB.i (fun q => ?_) (fun q => ?_)
  · refine eG.i h.ob rfl ?_
    refine eG.i h.ob rfl ?_
    refine ⟨rfl, Nat.le_of_ble_eq_true rfl, ?_⟩
    refine eV.i h.dq.obj ?_
    refine eC.z (c_Row_sameAs (i := 6) (j := 50) (n := 32) h.dq h.dq (by omega) (by omega)) ⟨rfl, rfl⟩ ⟨Nat.le_of_ble_eq_true rfl, Nat.le_of_ble_eq_true rfl⟩ ⟨Nat.zero_le _, Nat.zero_le _⟩ (fun v S1 hk => ?_)
    obtain ⟨rfl, rfl⟩ := hk
    rw [sameI_eq]
    by_cases q2 : same dk 6 dk 50 32
    · rw [pI_t q2]
      refine eB.f (by decide) ?_
      exact eR.f ⟨by rw [pI_f (fun z : forkS dk => z.2 q2)], fr.rf, h⟩
    · rw [pI_f q2]
      refine eB.t rfl ?_
      exact eR.t ⟨by rw [pI_t (show forkS dk from ⟨q, q2⟩)], fr.rf, h⟩
  · exact eR.f ⟨by rw [pI_f (fun z : forkS dk => q z.1)], fr.rf, h⟩
theorem c_X7_ends (h : CS G S B (K, vals, cnt, np, kd, lt, mo, dk)) :
    mCon G yX7_endsWithWholeHashes cX7_endsWithWholeHashes 1 (some .boolean) (rmD 5) [.ref B] S (looK G S B (K, vals, cnt, np, kd, lt, mo, dk) (wholeS dk)) := by
  have hl := h.dq.le
  refine mCon.of (I := miX7 false (some .boolean)) (by decide) rfl rfl (fun h => by cases h) (fun _ => rfl) (Nat.le_of_ble_eq_true rfl) ?_
  show Gd _ _ _ _ _ _ _ _ 0 [(0, .ref B)] [] (0, 0) _
  refine Gd.of (ckX7 _ _) tX7_endsWithWholeHashes_ok (cuts := fun _ => none) 60 ?_
  refine eG.i h.ob rfl ?_
  refine eG.i h.dq.obj rfl ?_
  refine eB.i (fun q => ?_) (fun q => ?_)
  · have q' : dk.length < 122 := (nI_ltI (a := dk.length) (b := 122) (by omega) (by omega)).mp q
    exact eR.f ⟨by rw [pI_f (fun z : wholeS dk => by have := z.1; omega)], fr.rf, h⟩
  · have q' : ¬ dk.length < 122 := mt (nI_ltI (a := dk.length) (b := 122) (by omega) (by omega)).mpr q
    refine eG.i h.ob rfl ?_
    refine eG.i h.dq.obj rfl ?_
    refine eZ.i (by decide) ?_
    have e : nI dk.length - 122 - (nI dk.length - 122) / 32 * 32 = nI ((dk.length - 122) % 32) := by
      rw [show (122 : Int32) = nI 122 from rfl, pk_sub (by omega)]
      have : ∀ n, n < 700 → nI n - nI n / 32 * 32 = nI (n % 32) := by decide +kernel
      exact this _ (by omega)
    rw [e]
    refine eB.i (fun q2 => ?_) (fun q2 => ?_)
    · have q3 : (dk.length - 122) % 32 = 0 := by
        have := congrArg Int32.toInt q2
        rw [nI_toInt (by omega)] at this
        have h0 : (0 : Int32).toInt = 0 := rfl
        omega
      exact eR.t ⟨by rw [pI_t (show wholeS dk from ⟨by omega, q3⟩)], fr.rf, h⟩
    · exact eR.f ⟨by rw [pI_f (fun z : wholeS dk => q2 (by rw [z.2]; rfl))], fr.rf, h⟩
theorem c_X7_isBreach (hG : GOK G) (h : CS G S B (K, vals, cnt, np, kd, lt, mo, dk)) (hl : wholeS dk) :
    mCon G yX7_isBreach cX7_isBreach 4 (some .boolean) (rmD 5) [.ref B] S (looK G S B (K, vals, cnt, np, kd, lt, mo, dk) (breaS dk)) := by
  obtain ⟨⟨lm, ld, hs⟩, ⟨co, cw, hc⟩, st, hst⟩ := h.2.1
  obtain ⟨hl1, hl2⟩ := hl
  refine mCon.of (I := miX7 false (some .boolean)) (by decide) rfl rfl (fun h => by cases h) (fun _ => rfl) (Nat.le_of_ble_eq_true rfl) ?_
  show Gd _ _ _ _ _ _ _ _ 0 [(0, .ref B)] [] (0, 0) _
  refine Gd.of (ckX7 _ _) tX7_isBreach_ok (cuts := fun _ => none) 60 ?_
  refine eG.i h.ob rfl ?_
  refine eG.i h.ob rfl ?_
  refine ⟨rfl, Nat.le_of_ble_eq_true rfl, ?_⟩
  refine eV.i h.dq.obj ?_
  refine eC.z (c_Row_sameAs (i := 90) (j := 6) (n := 32) h.dq h.dq (by omega) (by omega)) ⟨rfl, rfl⟩ ⟨Nat.le_of_ble_eq_true rfl, Nat.le_of_ble_eq_true rfl⟩ ⟨Nat.zero_le _, Nat.zero_le _⟩ (fun v S1 hk => ?_)
  obtain ⟨rfl, rfl⟩ := hk
  rw [sameI_eq]
  by_cases q2 : same dk 90 dk 6 32
  · rw [pI_t q2]
    refine eB.f (by decide) ?_
    exact eR.f ⟨by rw [pI_f (fun z : breaS dk => z.1 q2)], fr.rf, h⟩
  · rw [pI_f q2]
    refine eB.t rfl ?_
    refine eG.i h.ob rfl ?_
    refine ⟨rfl, Nat.le_of_ble_eq_true rfl, ?_⟩
    refine eV.i h.dq.obj ?_
    refine eC.z (c_Row_number (k := 2) h.dq) ⟨rfl, rfl⟩ ⟨Nat.le_of_ble_eq_true rfl, Nat.le_of_ble_eq_true rfl⟩ ⟨Nat.zero_le _, Nat.zero_le _⟩ (fun v S1 hk => ?_)
    obtain ⟨rfl, rfl⟩ := hk
    refine eG.i h.ob rfl ?_
    refine ⟨rfl, Nat.le_of_ble_eq_true rfl, ?_⟩
    refine eV.i h.dq.obj ?_
    refine eC.z (c_Row_number (k := 46) h.dq) ⟨rfl, rfl⟩ ⟨Nat.le_of_ble_eq_true rfl, Nat.le_of_ble_eq_true rfl⟩ ⟨Nat.zero_le _, Nat.zero_le _⟩ (fun v S1 hk => ?_)
    obtain ⟨rfl, rfl⟩ := hk
    have e1 : rNum dk 2 = num4 dk 2 := rNum_n (j := 2) (by omega) (by omega)
    have e5 : rNum dk 46 = num4 dk 46 := rNum_n (j := 46) (by omega) (by omega)
    rw [e1, e5]
    refine eG.i h.ob rfl ?_
    refine eG.i h.ob rfl ?_
    refine eG.i h.ob rfl ?_
    refine ⟨rfl, Nat.le_of_ble_eq_true rfl, ?_⟩
    refine eV.i hc.1 ?_
    refine eC.z (c_Climb_ofProof (rS := 90) (h := (dk.length - 122) / 32) hG hs hc h.dq (by omega) (by omega) (by omega) (by omega)) ⟨rfl, rfl⟩ ⟨Nat.le_of_ble_eq_true rfl, Nat.le_of_ble_eq_true rfl⟩ ⟨Nat.zero_le _, Nat.zero_le _⟩ (fun v S9 hk => ?_)
    obtain ⟨rfl, f1, ⟨lm1, ld1, s1⟩, co1, cw1, c1, hy⟩ := hk
    have z1 := h.scr (f1.mono (fun q z => by omega)) ⟨⟨_, _, s1⟩, ⟨_, _, c1⟩, _, hst.fr f1 (by omega) (by omega)⟩
    have g1 : fr _ S9 (xW B) := f1.mono (fun q z => by omega)
    cases hx : prf dk 90 ((dk.length - 122) / 32) (num4 dk 2) (num4 dk 46) with
    | none =>
      have hz : ¬ breaS dk := by
        intro z
        obtain ⟨z1, r, z2, z3⟩ := z
        rw [hx] at z2
        cases z2
      exact eR.f ⟨by rw [pI_f hz], g1, z1⟩
    | some root =>
      have hw := hy root hx
      subst hw
      refine eG.i z1.ob rfl ?_
      refine ⟨rfl, Nat.le_of_ble_eq_true rfl, ?_⟩
      refine eV.i c1.2.2.obj ?_
      refine eC.z (c_Row_sameAs (i := 0) (j := 50) (n := 32) c1.2.2 z1.dq (by omega) (by omega)) ⟨rfl, rfl⟩ ⟨Nat.le_of_ble_eq_true rfl, Nat.le_of_ble_eq_true rfl⟩ ⟨Nat.zero_le _, Nat.zero_le _⟩ (fun v S2 hk => ?_)
      obtain ⟨rfl, rfl⟩ := hk
      rw [sameI_eq]
      by_cases q3 : same cw1 0 dk 50 32
      · rw [pI_t q3]
        refine eB.f (by decide) ?_
        exact eR.t ⟨by rw [pI_t (show breaS dk from ⟨q2, cw1, hx, q3⟩)], g1, z1⟩
      · rw [pI_f q3]
        refine eB.t rfl ?_
        have hz : ¬ breaS dk := by
          intro z
          obtain ⟨z1, r, z2, z3⟩ := z
          rw [hx] at z2
          cases z2
          exact q3 z3
        exact eR.f ⟨by rw [pI_f hz], g1, z1⟩
theorem c_X7_audit (hG : GOK G) (h : CS G S B (K, vals, cnt, np, kd, lt, mo, dk)) :
    mCon G yX7_audit cX7_audit 2 (some .boolean) (rmD 6) [.ref B] S (oK G S B (oAud (K, vals, cnt, np, kd, lt, mo, dk))) := by
  have hl := h.dq.le
  have hf : ∀ (S1 : mS), ¬ audS K dk → fr S S1 (xW B) → CS G S1 B (K, vals, cnt, np, kd, lt, mo, dk) → oK G S B (oAud (K, vals, cnt, np, kd, lt, mo, dk)) (some (.int 0)) S1 := by
    intro S1 hn f1 c1
    exact ⟨by show _ = some (Value.int (pI (audS K dk))); rw [pI_f hn], f1, c1⟩
  have ht : ∀ (S1 : mS), audS K dk → fr S S1 (xW B) → CS G S1 B (K, vals, cnt, np, kd, lt, mo, dk) → oK G S B (oAud (K, vals, cnt, np, kd, lt, mo, dk)) (some (.int 1)) S1 := by
    intro S1 hn f1 c1
    exact ⟨by show _ = some (Value.int (pI (audS K dk))); rw [pI_t hn], f1, c1⟩
  refine mCon.of (I := miX7 false (some .boolean)) (by decide) rfl rfl (fun h => by cases h) (fun _ => rfl) (Nat.le_of_ble_eq_true rfl) ?_
  show Gd _ _ _ _ _ _ _ _ 0 [(0, .ref B)] [] (0, 0) _
  refine Gd.of (ckX7 _ _) tX7_audit_ok (cuts := fun _ => none) 60 ?_
  refine eG.i h.ob rfl ?_
  refine ⟨rfl, Nat.le_of_ble_eq_true rfl, ?_⟩
  refine eV.i h.dq.obj ?_
  refine eC.z (c_Row_at (k := 0) h.dq) ⟨rfl, rfl⟩ ⟨Nat.le_of_ble_eq_true rfl, Nat.le_of_ble_eq_true rfl⟩ ⟨Nat.zero_le _, Nat.zero_le _⟩ (fun v S1 hk => ?_)
  obtain ⟨rfl, rfl⟩ := hk
  refine eB.i (fun q => ?_) (fun q => ?_)
  · have hk2 : ¬ rAt dk 0 = 2 := by rw [q]; decide
    refine eG.i h.ob rfl ?_
    refine eG.i h.dq.obj rfl ?_
    refine eB.i (fun q1 => ?_) (fun q1 => ?_)
    · have q1' : dk.length = 90 := by
        have := congrArg Int32.toInt q1
        rw [nI_toInt (by omega)] at this
        have h0 : (90 : Int32).toInt = 90 := rfl
        omega
      refine ⟨rfl, Nat.le_of_ble_eq_true rfl, ?_⟩
      refine eV.i h.ob ?_
      refine eC.z (c_X7_both hG h (by omega)) ⟨rfl, rfl⟩ ⟨Nat.le_of_ble_eq_true rfl, Nat.le_of_ble_eq_true rfl⟩ ⟨Nat.zero_le _, Nat.zero_le _⟩ (fun v S2 hk => ?_)
      obtain ⟨rfl, f2, z2⟩ := hk
      by_cases q3 : bothS K dk
      · rw [pI_t q3]
        refine eB.f (by decide) ?_
        refine ⟨rfl, Nat.le_of_ble_eq_true rfl, ?_⟩
        refine eV.i z2.ob ?_
        refine eC.z (c_X7_isFork z2 (by omega)) ⟨rfl, rfl⟩ ⟨Nat.le_of_ble_eq_true rfl, Nat.le_of_ble_eq_true rfl⟩ ⟨Nat.zero_le _, Nat.zero_le _⟩ (fun v S3 hk => ?_)
        obtain ⟨rfl, f3, z3⟩ := hk
        by_cases q4 : forkS dk
        · rw [pI_t q4]
          refine eB.f (by decide) ?_
          exact eR.t (ht _ (Or.inl ⟨q, q1', q3, q4⟩) (f2.tr f3) z3)
        · rw [pI_f q4]
          refine eB.t rfl ?_
          exact eR.f (hf _ (fun z => by rcases z with ⟨-, -, -, z⟩ | ⟨z, -⟩; exact q4 z; exact hk2 z) (f2.tr f3) z3)
      · rw [pI_f q3]
        refine eB.t rfl ?_
        exact eR.f (hf _ (fun z => by rcases z with ⟨-, -, z, -⟩ | ⟨z, -⟩; exact q3 z; exact hk2 z) f2 z2)
    · exact eR.f (hf _ (fun z => by rcases z with ⟨-, z, -⟩ | ⟨z, -⟩; exact q1 (by rw [z]; rfl); exact hk2 z) fr.rf h)
  · refine eB.i (fun q1 => ?_) (fun q1 => ?_)
    · refine ⟨rfl, Nat.le_of_ble_eq_true rfl, ?_⟩
      refine eV.i h.ob ?_
      refine eC.z (c_X7_ends h) ⟨rfl, rfl⟩ ⟨Nat.le_of_ble_eq_true rfl, Nat.le_of_ble_eq_true rfl⟩ ⟨Nat.zero_le _, Nat.zero_le _⟩ (fun v S2 hk => ?_)
      obtain ⟨rfl, f2, z2⟩ := hk
      by_cases q2 : wholeS dk
      · rw [pI_t q2]
        refine eB.f (by decide) ?_
        refine ⟨rfl, Nat.le_of_ble_eq_true rfl, ?_⟩
        refine eV.i z2.ob ?_
        refine eC.z (c_X7_both hG z2 (by have := q2.1; omega)) ⟨rfl, rfl⟩ ⟨Nat.le_of_ble_eq_true rfl, Nat.le_of_ble_eq_true rfl⟩ ⟨Nat.zero_le _, Nat.zero_le _⟩ (fun v S3 hk => ?_)
        obtain ⟨rfl, f3, z3⟩ := hk
        by_cases q3 : bothS K dk
        · rw [pI_t q3]
          refine eB.f (by decide) ?_
          refine ⟨rfl, Nat.le_of_ble_eq_true rfl, ?_⟩
          refine eV.i z3.ob ?_
          refine eC.z (c_X7_isBreach hG z3 q2) ⟨rfl, rfl⟩ ⟨Nat.le_of_ble_eq_true rfl, Nat.le_of_ble_eq_true rfl⟩ ⟨Nat.zero_le _, Nat.zero_le _⟩ (fun v S4 hk => ?_)
          obtain ⟨rfl, f4, z4⟩ := hk
          by_cases q4 : breaS dk
          · rw [pI_t q4]
            refine eB.f (by decide) ?_
            exact eR.t (ht _ (Or.inr ⟨q1, q2, q3, q4⟩) ((f2.tr f3).tr f4) z4)
          · rw [pI_f q4]
            refine eB.t rfl ?_
            exact eR.f (hf _ (fun z => by rcases z with ⟨z, -⟩ | ⟨-, -, -, z⟩; exact q z; exact q4 z) ((f2.tr f3).tr f4) z4)
        · rw [pI_f q3]
          refine eB.t rfl ?_
          exact eR.f (hf _ (fun z => by rcases z with ⟨z, -⟩ | ⟨-, -, z, -⟩; exact q z; exact q3 z) (f2.tr f3) z3)
      · rw [pI_f q2]
        refine eB.t rfl ?_
        exact eR.f (hf _ (fun z => by rcases z with ⟨z, -⟩ | ⟨-, z, -⟩; exact q z; exact q2 z) f2 z2)
    · exact eR.f (hf _ (fun z => by rcases z with ⟨z, -⟩ | ⟨z, -⟩; exact q z; exact q1 z) fr.rf h)
end GWQ
