/-! Row: has -/
theorem c_Row_has {G : mG} {S : mS} {a b n : Nat} {sz k : Int32} (ha : mAt G S a (.inr (4, [.ref b, .int sz]))) :
    mCon G yX4_has cX4_has 2 (some .boolean) (rmD 0) [.ref a, .int k] S (fun v S' => S' = S ∧ v = some (.int (if 0 ≤ k ∧ k < sz then 1 else 0))) := by
  refine mCon.of (I := miX4 false (some .boolean)) (by decide) rfl rfl (fun h => by cases h) (fun _ => rfl) (by decide) ?_
  refine Gd.of (ckX4 _ _) tX4_has_ok (cuts := fun _ => none) 40 ?_
  refine eB.i (fun h1 => ?_) (fun h1 => ?_)
  · sorry
  · sorry
