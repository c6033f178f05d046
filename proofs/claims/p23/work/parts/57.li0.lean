/-! the invariant at the start -/
theorem LI_0 (n F z : Nat) (wd zs : Nat → Int32) (h2 : 2 ≤ n) (h8 : n ≤ 8) (hF : 60 ≤ F) (hF2 : F ≤ 100) (h : SP n F z wd zs) : LI 0 n F 0 18 (-1) 0 wd zs (fun _ => 0) (fun _ => 0) := by
  obtain ⟨s1, s2, s3, -, s5, -, -⟩ := h
  have z : (0 : UInt64).toNat = 0 := by decide
  have lb0 : LB 0 := by unfold LB; decide +kernel
  refine ⟨by decide, by omega, h8, by omega, hF2, (s5 (by omega)).1, s1, ⟨18, by decide, rfl⟩, QB_nn (by decide +kernel), s2, s3, ⟨fun _ _ => rfl, fun i _ => ⟨lb0, vB_0, vB_0, vB_0⟩⟩, fun _ _ _ => ⟨rfl, rfl, rfl⟩, fun _ _ => Or.inl z, ⟨0, Nat.le_refl 0, rfl, fun j _ => ?_⟩, ?_⟩
  · show rv 0 ≤ ((0 : Nat) : Rat) + ((0 : Nat) : Rat) / 68719476736
    rw [rv_zero]
    have e : ((0 : Nat) : Rat) = 0 := rfl
    rw [e]
    grind
  · show rv 0 ≤ ((F : Nat) : Rat) + 1 / 1099511627776
    rw [rv_zero]
    have e : 0 ≤ ((F : Nat) : Rat) := Rat.natCast_nonneg
    grind
