/-! the loft as a world; what its calls do -/
abbrev EX (r t d : Nat) (yg : Int32) : va_E := .inr (2, [.ref r, .ref t, .ref d, .int yg])
abbrev ED (cI : ClassId) (dk : Nat → Int32) : va_E := .inl (cI, (3, .inl dk))
section LOFT
variable {x : Nat} {e : va_E} {r la : Nat} {bs : Nat → Nat} {cA : ClassId} {n wm df : Int32} {q : UInt64} {wd zs : Nat → Int32} {h : Nat → UInt64} {w3 w4 : va_W} {d : Nat} {E E' : va_E}
theorem lofW_b {i : Nat} (hi : i < 8) : ([(x, e)] ++ (rowW r la bs cA n wm df q wd zs h ++ w3))[1 + (2 + i)]? = some (bs i, Bk wd zs h i) := vj_inB (w1 := [(x, e)]) (rowW_b hi)
theorem lofW_sh {i : Nat} (hi : i < 8) (li ag ac su : UInt64) : ([(x, e)] ++ (rowW r la bs cA n wm df q wd zs h ++ w3)).set (1 + (2 + i)) (bs i, EB (wd i) (zs i) li ag ac su) = [(x, e)] ++ (rowW r la bs cA n wm df q wd zs (hset h i li ag ac su) ++ w3) := by
  have hl : (rowW r la bs cA n wm df q wd zs h).length = 10 := rfl
  rw [List.set_append_right _ _ (by simp), List.length_singleton, show 1 + (2 + i) - 1 = 2 + i by omega, List.set_append_left _ _ (by rw [hl]; omega), rowW_sh hi]
theorem lofW_d : ([(x, e)] ++ (rowW r la bs cA n wm df q wd zs h ++ (w4 ++ [(d, E)])))[1 + (10 + w4.length)]? = some (d, E) := by
  refine vj_inC (w1 := [(x, e)]) (w2 := rowW r la bs cA n wm df q wd zs h) (k := w4.length) ?_
  rw [List.getElem?_append_right (Nat.le_refl _), Nat.sub_self]
  rfl
theorem lofW_sd : ([(x, e)] ++ (rowW r la bs cA n wm df q wd zs h ++ (w4 ++ [(d, E)]))).set (1 + (10 + w4.length)) (d, E') = [(x, e)] ++ (rowW r la bs cA n wm df q wd zs h ++ (w4 ++ [(d, E')])) := by
  have hl : (rowW r la bs cA n wm df q wd zs h).length = 10 := rfl
  rw [List.set_append_right _ _ (by simp), List.length_singleton, show 1 + (10 + w4.length) - 1 = 10 + w4.length by omega, List.set_append_right _ _ (by rw [hl]; omega), hl, show 10 + w4.length - 10 = w4.length by omega, List.set_append_right _ _ (Nat.le_refl _), Nat.sub_self]
  rfl
end LOFT
/-- the mean of something -/
def mnv (f : Nat) (h : Nat → UInt64) (n : Nat) : UInt64 := if FP.dcmp (suL h n) 0 = some .gt then FP.ddiv (suP f h n) (suL h n) else 0
def mnok (f : Nat) (h : Nat → UInt64) (n : Nat) : Prop := suLok h n ∧ FP.dcmp (suL h n) 0 ≠ none ∧ (FP.dcmp (suL h n) 0 = some .gt → suPok f h n ∧ vf_n64 (FP.ddiv (suP f h n) (suL h n)))
/-- the kind of a bottle -/
def kndN (a : UInt64) : Nat := if FP.dcmp a 4625759767262920704 = some .lt then 0 else if FP.dcmp a 4627730092099895296 = some .lt then 1 else 2
theorem kndN_lt (a : UInt64) : kndN a < 3 := by
  unfold kndN
  split
  · omega
  · split <;> omega
theorem i32_nlt {x : Int32} (h : x ≤ 0) : ¬ 0 < x := fun h2 => by
  have h3 := Int32.lt_iff_toInt_lt.mp h2
  have h4 := Int32.le_iff_toInt_le.mp h
  omega
theorem i32_pos {x : Int32} (h : ¬ x ≤ 0) : 0 < x := by
  rw [Int32.lt_iff_toInt_lt]
  rw [Int32.le_iff_toInt_le] at h
  omega
/-- how many bottles are drawn of x -/
def takv (h : Nat → UInt64) (n : Nat) (df : Int32) (q : UInt64) (x : Int32) : Int32 := if x < rdv h n df q then x else rdv h n df q
theorem tak_pos {h : Nat → UInt64} {n : Nat} {df : Int32} {q : UInt64} {x : Int32} (h0 : 0 < takv h n df q x) : 0 < rdv h n df q := by
  unfold takv at h0
  split at h0
  · rename_i h1
    rw [Int32.lt_iff_toInt_lt] at *
    omega
  · exact h0
theorem rdv_pos {h : Nat → UInt64} {n : Nat} {df : Int32} {q : UInt64} (h0 : 0 < rdv h n df q) : ∃ b, elO h n = some b ∧ nI b = df := by
  cases ho : elO h n with
  | none =>
    rw [rdv_none ho] at h0
    exact absurd h0 (by decide)
  | some b =>
    refine ⟨b, rfl, Classical.byContradiction fun h1 => ?_⟩
    rw [rdv_some ho, if_neg h1] at h0
    exact absurd h0 (by decide)
def drH (h : Nat → UInt64) (n : Nat) (df : Int32) (q : UInt64) (x : Int32) : Nat → UInt64 := match elO h n with
  | none => h
  | some b => if 0 < takv h n df q x then tkH h b (botv (takv h n df q x)) else h
def drQ (h : Nat → UInt64) (n : Nat) (df : Int32) (q : UInt64) (x : Int32) : UInt64 := match elO h n with
  | none => q
  | some _ => if 0 < takv h n df q x then FP.dsub q (botv (takv h n df q x)) else q
def drK (dk : Nat → Int32) (h : Nat → UInt64) (n : Nat) (df : Int32) (q : UInt64) (x : Int32) : Nat → Int32 := match elO h n with
  | none => dk
  | some b => if 0 < takv h n df q x then upd dk (kndN (h (8 + b))) (dk (kndN (h (8 + b))) + takv h n df q x) else dk
theorem dr_no {dk : Nat → Int32} {h : Nat → UInt64} {n : Nat} {df : Int32} {q : UInt64} {x : Int32} (h0 : takv h n df q x ≤ 0) : drH h n df q x = h ∧ drQ h n df q x = q ∧ drK dk h n df q x = dk := by
  have h1 := i32_nlt h0
  unfold drH drQ drK
  cases ho : elO h n with
  | none => exact ⟨rfl, rfl, rfl⟩
  | some b => simp [if_neg h1]
theorem dr_yes {dk : Nat → Int32} {h : Nat → UInt64} {n : Nat} {df : Int32} {q : UInt64} {x : Int32} {b : Nat} (ho : elO h n = some b) (h0 : 0 < takv h n df q x) : drH h n df q x = tkH h b (botv (takv h n df q x)) ∧ drQ h n df q x = FP.dsub q (botv (takv h n df q x)) ∧ drK dk h n df q x = upd dk (kndN (h (8 + b))) (dk (kndN (h (8 + b))) + takv h n df q x) := by
  unfold drH drQ drK
  rw [ho]
  simp only [if_pos h0]
  exact ⟨trivial, trivial, trivial⟩
def dwok (h : Nat → UInt64) (n : Nat) (df : Int32) (q : UInt64) (x : Int32) : Prop := ∀ b, elO h n = some b → 0 < takv h n df q x → vf_n64 (botv (takv h n df q x)) ∧ vf_n64 (FP.dsub q (botv (takv h n df q x))) ∧ vf_n64 (FP.dsub (h b) (botv (takv h n df q x))) ∧ FP.dcmp (FP.dsub (h b) (botv (takv h n df q x))) 0 ≠ none
/-! who is refused -/
def badA1 (zs : Nat → Int32) (n : Nat) (x z : Int32) : Prop := (x < 0 ∨ 4 ≤ x) ∨ (z < 10 ∨ lgN zs n < z)
def badR (lo hi x : Int32) : Prop := x < lo ∨ hi < x
def badI (n : Nat) (x : Int32) : Prop := x < 0 ∨ nI n ≤ x
theorem badI_not {n : Nat} (hn : n < 2 ^ 31) {x : Int32} (h1 : ¬ x < 0) (h2 : x < nI n) : ∃ j : Nat, j < n ∧ x = nI j := by
  obtain ⟨j, hj, rfl⟩ := nI_of h1
  exact ⟨j, (nI_ltI hj hn).mp h2, rfl⟩
