/-! pure functions of the bounds' part (out of claims/whole: parts 31, 32, 34) -/
theorem hset_ne {h : Nat → UInt64} {b i : Nat} (hb : b < 8) (hi : i < 8) (hn : i ≠ b) {li ag ac su : UInt64} : hset h b li ag ac su i = h i := by
  unfold hset
  rw [if_neg hn, if_neg (by omega), if_neg (by omega), if_neg (by omega)]
theorem hset_ne1 {h : Nat → UInt64} {b i c : Nat} (hb : b < 8) (hi : i < 8) (hn : i ≠ b) (hc : c = 8 ∨ c = 16 ∨ c = 24) {li ag ac su : UInt64} : hset h b li ag ac su (c + i) = h (c + i) := by
  unfold hset
  rw [if_neg (by omega), if_neg (by omega), if_neg (by omega), if_neg (by omega)]
def full (z : Int32) : UInt64 := FP.dmul 4606281698874543309 (FP.i2d z)
def tukk (zs : Nat → Int32) : Nat → (Nat → UInt64) → Prop
  | 0, _ => True
  | k + 1, h => (FP.dcmp (h (k + 1)) (full (zs (k + 1))) ≠ none ∧ (FP.dcmp (h (k + 1)) (full (zs (k + 1))) ≠ some .lt → FP.dcmp (paG zs h k) 0 ≠ some .gt)) ∧ tukk zs k (paH zs h k)
def yearNN (w : Int32) (li ac su dr : UInt64) : Prop := NN (FP.ddiv (FP.dmul su li) (FP.dsub li (losv w li dr))) ∧ NN (FP.dadd ac 4591870180066957722)
def agNN (wd : Nat → Int32) (dr : UInt64) (h : Nat → UInt64) (n : Nat) : Prop := ∀ k, k < n → FP.dcmp (agH wd dr h k k) 0 = some .gt → yearNN (wd k) (agH wd dr h k k) (agH wd dr h k (16 + k)) (agH wd dr h k (24 + k)) dr
def rdM (h : Nat → UInt64) (n : Nat) (df : Int32) (q : UInt64) : Prop := ∀ b, elO h n = some b → nI b = df → vf_n64 (FP.ddiv (leB h q b) 4591870180066957722) ∧ (FP.dcmp (leB h q b) 0 ≠ some .gt → FP.d2i (FP.ddiv (leB h q b) 4591870180066957722) = 0)
def anyB (h : Nat → UInt64) : Nat → Int32
  | 0 => 0
  | k + 1 => if anyB h k = 0 then (if FP.dcmp (h k) 0 = some .gt then 1 else 0) else 1
def mnM (f : Nat) (h : Nat → UInt64) (n : Nat) : Prop := suLok h n ∧ suPok f h n ∧ (anyB h n = 0 ↔ FP.dcmp (suL h n) 0 ≠ some .gt) ∧ (anyB h n ≠ 0 → vf_n64 (FP.ddiv (suP f h n) (suL h n)))
def stM (wd zs : Nat → Int32) (wm : Int32) (n : Nat) (h : Nat → UInt64) : Prop := stok wd zs wm n h ∧ (n ≠ 0 → musv (zs 0) (h 0) (FP.i2d 100) = FP.dsub (FP.i2d (zs 0)) (h 0)) ∧ tukk zs (n - 1) (pmH n zs h (FP.i2d 100)) ∧ agNN wd (drv wm) (toH zs (n - 1) (pmH n zs h (FP.i2d 100))) n ∧ rdM (stH wd zs wm n h) n (encO (elO (stH wd zs wm n h) n)) (quv (stH wd zs wm n h) (elO (stH wd zs wm n h) n))
