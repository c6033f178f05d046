/-! REAL VALUES 4: what isNear sees; one barrel changed -/
theorem c6_v : rv c6 = 4722366482869645 / 4722366482869645213696 := by
  have h := rv_c6
  generalize rv 4517329193108106637 = z at *
  grind
theorem c1_v : rv c1 = 1 := rv_one
theorem nf_c6 : NF c6 := by unfold NF; decide +kernel
theorem nf_c1 : NF c1 := by unfold NF; decide +kernel
theorem bd_c6 : BD 1074 c6 := ⟨nf_c6, by decide +kernel⟩
theorem bd_c1 : BD 1074 c1 := ⟨nf_c1, by decide +kernel⟩
theorem near_of {a b : UInt64} (ha : BD 2000 a) (hb : BD 2000 b) (h1 : (rv a - rv b) * 1073741824 ≤ 1 + rv a) (h2 : (rv b - rv a) * 1073741824 ≤ 1 + rv a) : near a b := by
  obtain ⟨hm1, hm2, hm3⟩ : BD 2000 (mov a) ∧ rv a ≤ rv (mov a) ∧ 1 ≤ rv (mov a) := by
    unfold mov
    have hc := cmp_rv ha.1.nn.ne nf_c1.nn.ne
    rw [c1_v] at hc
    by_cases g : FP.dcmp a c1 = some .gt
    · rw [if_pos g]
      exact ⟨ha, Rat.le_refl, Rat.le_of_lt (hc.2.1.mp g)⟩
    · rw [if_neg g, c1_v]
      exact ⟨bd_c1.mono (by decide), Rat.not_lt.mp (fun h => g (hc.2.1.mpr h)), Rat.le_refl⟩
  have b1 := bd_mul bd_c6 hm1 (by decide) (by decide)
  have e1 := mul_err nf_c6 hm1.1 (bd_r b1 (by decide))
  have et := eta_le 60 1152921504606846976 (by decide) (by decide)
  have et0 := eta_pos
  have a0 := rv_0 ha.1.nn
  have b0 := rv_0 hb.1.nn
  rw [c6_v] at e1
  have hap : FP.Core.val64 (apv a b) ≠ .nan ∧ rv (apv a b) * 536870912 ≤ 1 + rv a := by
    unfold apv
    have hc := (cmp_rv ha.1.nn.ne hb.1.nn.ne).2.1
    by_cases g : FP.dcmp a b = some .gt
    · rw [if_pos g]
      have hlt := hc.mp g
      have s := sub_err ha.1 hb.1 (Nat.le_of_lt ((rv_ltN hb.1.nn ha.1.nn).mp hlt)) (bd_r ha (by decide))
      refine ⟨s.1.nn.ne, ?_⟩
      have s1 := s.2.1
      generalize rv (FP.dsub a b) = z at *
      generalize rv a = A at *
      generalize rv b = B at *
      clear s e1 hm2 hm3 hc
      grind
    · rw [if_neg g]
      have hle := Rat.not_lt.mp (fun h => g (hc.mpr h))
      have s := sub_err hb.1 ha.1 ((rv_leN ha.1.nn hb.1.nn).mp hle) (bd_r hb (by decide))
      refine ⟨s.1.nn.ne, ?_⟩
      have s1 := s.2.1
      generalize rv (FP.dsub b a) = z at *
      generalize rv a = A at *
      generalize rv b = B at *
      clear s e1 hm2 hm3 hc
      grind
  refine ⟨ha.1, hb.1, b1.1.nn.n64, (cmp_rv hap.1 b1.1.nn.ne).1.mpr ?_⟩
  have e2 := e1.2
  have hp := hap.2
  generalize rv (apv a b) = z at *
  generalize rv (FP.dmul c6 (mov a)) = y at *
  generalize rv (mov a) = M at *
  generalize rv a = A at *
  clear e1 hap h1 h2
  grind
/-! one barrel changed -/
theorem SL_set {h : Nat → UInt64} {b : Nat} {li ag ac su : UInt64} : ∀ k, k ≤ 8 → SL (hset h b li ag ac su) k = SL h k + (if b < k then rv li - rv (h b) else 0) := by
  intro k
  induction k with
  | zero =>
    intro _
    show (0 : Rat) = 0 + _
    rw [if_neg (Nat.not_lt_zero b)]
    grind
  | succ k ih =>
    intro hk
    show SL (hset h b li ag ac su) k + rv (hset h b li ag ac su k) = SL h k + rv (h k) + _
    rw [ih (by omega)]
    by_cases hb : k = b
    · subst hb
      rw [hset_b.1, if_neg (Nat.lt_irrefl k), if_pos (Nat.lt_succ_self k)]
      grind
    · have e : hset h b li ag ac su k = h k ∨ 8 ≤ k := by
        by_cases h8 : b < 8
        · exact Or.inl (hset_ne h8 (by omega) hb)
        · refine Or.inl ?_
          unfold hset
          rw [if_neg hb, if_neg (by omega), if_neg (by omega), if_neg (by omega)]
      rcases e with e | e
      · rw [e]
        by_cases hbk : b < k
        · rw [if_pos hbk, if_pos (by omega)]
          grind
        · rw [if_neg hbk, if_neg (by omega)]
          grind
      · omega
theorem PL_set {h : Nat → UInt64} {b f : Nat} {li ag ac su : UInt64} (hb8 : b < 8) (hf : f = 8 ∨ f = 16 ∨ f = 24) : ∀ k, k ≤ 8 → PL f (hset h b li ag ac su) k = PL f h k + (if b < k then rv li * rv (hset h b li ag ac su (f + b)) - rv (h b) * rv (h (f + b)) else 0) := by
  intro k
  induction k with
  | zero =>
    intro _
    show (0 : Rat) = 0 + _
    rw [if_neg (Nat.not_lt_zero b)]
    grind
  | succ k ih =>
    intro hk
    show PL f (hset h b li ag ac su) k + rv (hset h b li ag ac su k) * rv (hset h b li ag ac su (f + k)) = PL f h k + rv (h k) * rv (h (f + k)) + _
    rw [ih (by omega)]
    by_cases hb : k = b
    · subst hb
      rw [hset_b.1, if_neg (Nat.lt_irrefl k), if_pos (Nat.lt_succ_self k)]
      grind
    · rw [hset_ne hb8 (by omega) hb, hset_ne1 hb8 (by omega) hb hf]
      by_cases hbk : b < k
      · rw [if_pos hbk, if_pos (by omega)]
        grind
      · rw [if_neg hbk, if_neg (by omega)]
        grind
theorem SL_ge {m n : Nat} {h : Nat → UInt64} (hb : HB m n h) : ∀ k, k ≤ n → 0 ≤ SL h k ∧ ∀ i, i < k → rv (h i) ≤ SL h k := by
  intro k
  induction k with
  | zero => exact fun _ => ⟨Rat.le_refl, fun i hi => absurd hi (Nat.not_lt_zero i)⟩
  | succ k ih =>
    intro hk
    obtain ⟨i1, i2⟩ := ih (by omega)
    have hl := (hb.2 k (by omega)).1.r.1
    refine ⟨?_, fun i hi => ?_⟩
    · show 0 ≤ SL h k + rv (h k)
      grind
    · show rv (h i) ≤ SL h k + rv (h k)
      by_cases e : i = k
      · subst e; grind
      · have := i2 i (by omega)
        grind
/-- two barrels' litres are no more than all -/
theorem SL_two {m n : Nat} {h : Nat → UInt64} (hb : HB m n h) : ∀ k, k + 1 < n → rv (h k) + rv (h (k + 1)) ≤ SL h n := by
  have mono : ∀ j k, k + j ≤ n → SL h k ≤ SL h (k + j) := by
    intro j
    induction j with
    | zero => exact fun k _ => Rat.le_refl
    | succ j ih =>
      intro k hk
      have h1 := ih k (by omega)
      have hl := (hb.2 (k + j) (by omega)).1.r.1
      show SL h k ≤ SL h (k + j) + rv (h (k + j))
      grind
  intro k hk
  have h1 := mono (n - (k + 2)) (k + 2) (by omega)
  rw [show k + 2 + (n - (k + 2)) = n by omega] at h1
  have h2 := (SL_ge hb k (by omega)).1
  have h3 : SL h (k + 2) = SL h k + rv (h k) + rv (h (k + 1)) := rfl
  rw [h3] at h1
  grind
theorem PL_two {m n f : Nat} {h : Nat → UInt64} (hb : HB m n h) (hf : ∀ i, i < n → NN (h (f + i))) : 0 ≤ PL f h n ∧ ∀ k, k + 1 < n → rv (h k) * rv (h (f + k)) + rv (h (k + 1)) * rv (h (f + (k + 1))) ≤ PL f h n := by
  have t0 : ∀ k, k < n → 0 ≤ rv (h k) * rv (h (f + k)) := fun k hk => Rat.mul_nonneg (hb.2 k hk).1.r.1 (rv_0 (hf k hk))
  have mono : ∀ j k, k + j ≤ n → PL f h k ≤ PL f h (k + j) := by
    intro j
    induction j with
    | zero => exact fun k _ => Rat.le_refl
    | succ j ih =>
      intro k hk
      have h1 := ih k (by omega)
      have hl := t0 (k + j) (by omega)
      show PL f h k ≤ PL f h (k + j) + rv (h (k + j)) * rv (h (f + (k + j)))
      grind
  have z0 : ∀ k, k ≤ n → 0 ≤ PL f h k := fun k hk => by
    have h1 := mono k 0 (by omega)
    rw [Nat.zero_add] at h1
    exact h1
  refine ⟨z0 n (Nat.le_refl n), fun k hk => ?_⟩
  have h1 := mono (n - (k + 2)) (k + 2) (by omega)
  rw [show k + 2 + (n - (k + 2)) = n by omega] at h1
  have h2 := z0 k (by omega)
  have h3 : PL f h (k + 2) = PL f h k + rv (h k) * rv (h (f + k)) + rv (h (k + 1)) * rv (h (f + (k + 1))) := rfl
  rw [h3] at h1
  grind
