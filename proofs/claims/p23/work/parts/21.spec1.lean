/-! what a row does, out of one table h: litres (0..7), age (8..), acid (16..), sugar (24..) -/
theorem nI_p {n : Nat} (h : 0 < n) : nI n - 1 = nI (n - 1) := pk_sub (a := n) (b := 1) h
theorem nI_le0 {n : Nat} (hn : n < 2 ^ 31) : nI n ≤ 0 ↔ n = 0 := by
  constructor
  · intro h
    exact Nat.eq_zero_of_not_pos fun h0 => nI_nle h0 hn h
  · rintro rfl
    decide
def encO (o : Option Nat) : Int32 := match o with
  | none => -1
  | some b => nI b
theorem encO_m1 {o : Option Nat} (h : ∀ b, o = some b → b < 8) : encO o = -1 ↔ o = none := by
  cases o with
  | none => exact ⟨fun _ => rfl, fun _ => rfl⟩
  | some b =>
    refine ⟨fun e => ?_, fun e => nomatch e⟩
    have hb := h b rfl
    have h1 := congrArg Int32.toInt e
    rw [show (encO (some b)).toInt = (nI b).toInt from rfl, nI_toInt (by omega)] at h1
    have h2 : (-1 : Int32).toInt = -1 := by decide
    omega
/-- litres for the next barrel -/
def lgN (zs : Nat → Int32) (n : Nat) : Int32 := if n = 0 then 100 else zs (n - 1) - 1
def lesv (a b : UInt64) : UInt64 := if FP.dcmp a b = some .lt then a else b
/-- must into the first barrel -/
def poH (h : Nat → UInt64) (must : UInt64) : Nat → UInt64 := if FP.dcmp must 0 = some .gt then hset h 0 (FP.dadd (h 0) must) (mixv (h 0) (h 8) must 0) (mixv (h 0) (h 16) must 4607182418800017408) (mixv (h 0) (h 24) must 4629137466983448576) else h
def poR (must : UInt64) : UInt64 := if FP.dcmp must 0 = some .gt then must else 0
def musv (z0 : Int32) (l0 x : UInt64) : UInt64 := lesv x (FP.dsub (FP.i2d z0) l0)
def mixok3 (h : Nat → UInt64) (b : Nat) (w ag ac su : UInt64) : Prop := mixok (h b) (h (8 + b)) w ag ∧ mixok (h b) (h (16 + b)) w ac ∧ mixok (h b) (h (24 + b)) w su
def pook (z0 : Int32) (h : Nat → UInt64) (x : UInt64) : Prop := vf_n64 (FP.dsub (FP.i2d z0) (h 0)) ∧ FP.dcmp x (FP.dsub (FP.i2d z0) (h 0)) ≠ none ∧ FP.dcmp (musv z0 (h 0) x) 0 ≠ none ∧ (FP.dcmp (musv z0 (h 0) x) 0 = some .gt → mixok3 h 0 (musv z0 (h 0) x) 0 4607182418800017408 4629137466983448576)
/-- what goes from a barrel of l1 litres into one of size z2 with l2 -/
def goev (z2 : Int32) (l2 l1 : UInt64) : UInt64 := lesv (FP.dsub (FP.dmul 4606281698874543309 (FP.i2d z2)) l2) (FP.dmul 4602678819172646912 l1)
def paok (z2 : Int32) (l1 g1 a1 s1 l2 g2 a2 s2 : UInt64) : Prop :=
  vf_n64 (FP.dmul 4606281698874543309 (FP.i2d z2)) ∧ vf_n64 (FP.dsub (FP.dmul 4606281698874543309 (FP.i2d z2)) l2) ∧ vf_n64 (FP.dmul 4602678819172646912 l1) ∧ FP.dcmp (FP.dsub (FP.dmul 4606281698874543309 (FP.i2d z2)) l2) (FP.dmul 4602678819172646912 l1) ≠ none ∧ FP.dcmp (goev z2 l2 l1) 0 ≠ none ∧
  (FP.dcmp (goev z2 l2 l1) 0 = some .gt → mixok l2 g2 (goev z2 l2 l1) g1 ∧ mixok l2 a2 (goev z2 l2 l1) a1 ∧ mixok l2 s2 (goev z2 l2 l1) s1 ∧ vf_n64 (FP.dsub l1 (goev z2 l2 l1)) ∧ FP.dcmp (FP.dsub l1 (goev z2 l2 l1)) 0 = some .gt)
/-- barrel k + 1 gets from barrel k -/
def paG (zs : Nat → Int32) (h : Nat → UInt64) (k : Nat) : UInt64 := goev (zs (k + 1)) (h (k + 1)) (h k)
def paH (zs : Nat → Int32) (h : Nat → UInt64) (k : Nat) : Nat → UInt64 := if FP.dcmp (paG zs h k) 0 = some .gt then hset (hset h (k + 1) (FP.dadd (h (k + 1)) (paG zs h k)) (mixv (h (k + 1)) (h (8 + (k + 1))) (paG zs h k) (h (8 + k))) (mixv (h (k + 1)) (h (16 + (k + 1))) (paG zs h k) (h (16 + k))) (mixv (h (k + 1)) (h (24 + (k + 1))) (paG zs h k) (h (24 + k)))) k (FP.dsub (h k) (paG zs h k)) (h (8 + k)) (h (16 + k)) (h (24 + k)) else h
def paS (zs : Nat → Int32) (h : Nat → UInt64) (k : Nat) (sum : UInt64) : UInt64 := if FP.dcmp (paG zs h k) 0 = some .gt then FP.dadd sum (paG zs h k) else sum
/-- from barrel k + 1 down to the second one -/
def toH (zs : Nat → Int32) : Nat → (Nat → UInt64) → Nat → UInt64
  | 0, h => h
  | k + 1, h => toH zs k (paH zs h k)
def toS (zs : Nat → Int32) : Nat → (Nat → UInt64) → UInt64 → UInt64
  | 0, _, sum => sum
  | k + 1, h, sum => toS zs k (paH zs h k) (paS zs h k sum)
def took (zs : Nat → Int32) : Nat → (Nat → UInt64) → UInt64 → Prop
  | 0, _, _ => True
  | k + 1, h, sum => (paok (zs (k + 1)) (h k) (h (8 + k)) (h (16 + k)) (h (24 + k)) (h (k + 1)) (h (8 + (k + 1))) (h (16 + (k + 1))) (h (24 + (k + 1))) ∧ NN sum ∧ (FP.dcmp (paG zs h k) 0 = some .gt → vf_n64 (FP.dadd sum (paG zs h k)))) ∧ took zs k (paH zs h k) (paS zs h k sum)
/-- the draught -/
def drw (wm : Int32) : UInt64 := FP.dadd 4607182418800017408 (FP.dmul 4587366580439587226 (FP.i2d (wm - 18)))
def drv (wm : Int32) : UInt64 := if FP.dcmp (drw wm) 4596373779694328218 = some .lt then 4596373779694328218 else drw wm
def drok (wm : Int32) : Prop := vf_n64 (FP.dmul 4587366580439587226 (FP.i2d (wm - 18))) ∧ vf_n64 (drw wm) ∧ FP.dcmp (drw wm) 4596373779694328218 ≠ none
/-- a year in barrel k -/
def yrH (wd : Nat → Int32) (dr : UInt64) (h : Nat → UInt64) (k : Nat) : Nat → UInt64 := if FP.dcmp (h k) 0 = some .gt then hset h k (FP.dsub (h k) (losv (wd k) (h k) dr)) (FP.dadd (h (8 + k)) 4607182418800017408) (soA (h (16 + k)) (thick (h (24 + k)) (h k) (FP.dsub (h k) (losv (wd k) (h k) dr)))) (soS (h (16 + k)) (thick (h (24 + k)) (h k) (FP.dsub (h k) (losv (wd k) (h k) dr)))) else h
def yrS (wd : Nat → Int32) (dr : UInt64) (h : Nat → UInt64) (k : Nat) (sum : UInt64) : UInt64 := if FP.dcmp (h k) 0 = some .gt then FP.dadd sum (losv (wd k) (h k) dr) else sum
/-- .. in the first k barrels -/
def agH (wd : Nat → Int32) (dr : UInt64) (h : Nat → UInt64) : Nat → Nat → UInt64
  | 0 => h
  | k + 1 => yrH wd dr (agH wd dr h k) k
def agS (wd : Nat → Int32) (dr : UInt64) (h : Nat → UInt64) : Nat → UInt64
  | 0 => 0
  | k + 1 => yrS wd dr (agH wd dr h k) k (agS wd dr h k)
def agok (wd : Nat → Int32) (dr : UInt64) (h : Nat → UInt64) (n : Nat) : Prop := ∀ k, k < n → FP.dcmp (agH wd dr h k k) 0 ≠ none ∧ (FP.dcmp (agH wd dr h k k) 0 = some .gt → yearok (wd k) (agH wd dr h k k) (agH wd dr h k (8 + k)) (agH wd dr h k (16 + k)) (agH wd dr h k (24 + k)) dr ∧ vf_n64 (FP.dadd (agS wd dr h k) (losv (wd k) (agH wd dr h k k) dr)))
/-- the oldest of the first k -/
def elt (h : Nat → UInt64) (k : Nat) (o : Option Nat) : Bool := decide (FP.dcmp (h k) 0 = some .gt) && (match o with
  | none => true
  | some b => decide (FP.dcmp (h (8 + k)) (h (8 + b)) ≠ some .lt))
def elO (h : Nat → UInt64) : Nat → Option Nat
  | 0 => none
  | k + 1 => if elt h k (elO h k) = true then some k else elO h k
def elG (h : Nat → UInt64) (o : Option Nat) : UInt64 := match o with
  | none => 0
  | some b => h (8 + b)
def NNr (n : Nat) (h : Nat → UInt64) : Prop := ∀ i, i < n → NN (h i) ∧ NN (h (8 + i))
theorem elO_lt (h : Nat → UInt64) : ∀ (k b : Nat), elO h k = some b → b < k
  | 0, b, e => nomatch e
  | k + 1, b, e => by
    unfold elO at e
    split at e
    · cases e; omega
    · have := elO_lt h k b e; omega
/-- the quota of a year -/
def quv (h : Nat → UInt64) (o : Option Nat) : UInt64 := match o with
  | none => 0
  | some b => FP.dmul 4598175219545276416 (h b)
/-- bottles that are ready -/
def leB (h : Nat → UInt64) (q : UInt64) (b : Nat) : UInt64 := lesv q (h b)
def rdv (h : Nat → UInt64) (n : Nat) (df : Int32) (q : UInt64) : Int32 := match elO h n with
  | none => 0
  | some b => if nI b = df then (if FP.dcmp (h (8 + b)) 4622945017495814144 = some .lt ∨ FP.dcmp (h (24 + b)) 4627730092099895296 = some .lt then 0 else if FP.dcmp (leB h q b) 0 = some .gt then FP.d2i (FP.ddiv (leB h q b) 4591870180066957722) else 0) else 0
def rdok (h : Nat → UInt64) (n : Nat) (q : UInt64) : Prop := ∀ b, b < n → FP.dcmp (h (8 + b)) 4622945017495814144 ≠ none ∧ FP.dcmp (h (24 + b)) 4627730092099895296 ≠ none ∧ FP.dcmp q (h b) ≠ none ∧ FP.dcmp (leB h q b) 0 ≠ none ∧ (FP.dcmp (leB h q b) 0 = some .gt → vf_n64 (FP.ddiv (leB h q b) 4591870180066957722))
/-- litres of some bottles -/
def botv (x : Int32) : UInt64 := FP.dmul (FP.i2d x) 4591870180066957722
/-- barrel b with less -/
def tkH (h : Nat → UInt64) (b : Nat) (less : UInt64) : Nat → UInt64 := if FP.dcmp (FP.dsub (h b) less) 0 = some .gt then hset h b (FP.dsub (h b) less) (h (8 + b)) (h (16 + b)) (h (24 + b)) else hset h b 0 0 0 0
/-- sums over the first k barrels -/
def suL (h : Nat → UInt64) : Nat → UInt64
  | 0 => 0
  | k + 1 => FP.dadd (suL h k) (h k)
def suP (f : Nat) (h : Nat → UInt64) : Nat → UInt64
  | 0 => 0
  | k + 1 => FP.dadd (suP f h k) (FP.dmul (h k) (h (f + k)))
def suLok (h : Nat → UInt64) (n : Nat) : Prop := ∀ k, k < n → vf_n64 (FP.dadd (suL h k) (h k))
def suPok (f : Nat) (h : Nat → UInt64) (n : Nat) : Prop := ∀ k, k < n → vf_n64 (FP.dmul (h k) (h (f + k))) ∧ vf_n64 (FP.dadd (suP f h k) (FP.dmul (h k) (h (f + k))))
/-- the first k barrels of g, the others of f -/
def cpI (k : Nat) (f g : Nat → Int32) : Nat → Int32 := fun i => if i < k then g i else f i
def cpH (k : Nat) (f g : Nat → UInt64) : Nat → UInt64 := fun i => if i < 32 ∧ i % 8 < k then g i else f i
theorem cpI_0 {f g : Nat → Int32} : cpI 0 f g = f := by funext i; simp [cpI]
theorem cpH_0 {f g : Nat → UInt64} : cpH 0 f g = f := by funext i; simp [cpH]
theorem cpI_s {f g : Nat → Int32} {k : Nat} : va_up (cpI k f g) k (g k) = cpI (k + 1) f g := by
  funext i
  unfold va_up cpI
  by_cases h1 : i = k
  · subst h1; simp
  · by_cases h2 : i < k
    · rw [if_neg h1, if_pos h2, if_pos (by omega)]
    · rw [if_neg h1, if_neg h2, if_neg (by omega)]
theorem cpH_s {f g : Nat → UInt64} {k : Nat} (hk : k < 8) : hset (cpH k f g) k (g k) (g (8 + k)) (g (16 + k)) (g (24 + k)) = cpH (k + 1) f g := by
  funext i
  unfold hset cpH
  by_cases h1 : i = k
  · subst h1; rw [if_pos rfl, if_pos ⟨by omega, by omega⟩]
  · rw [if_neg h1]
    by_cases h2 : i = 8 + k
    · subst h2; rw [if_pos rfl, if_pos ⟨by omega, by omega⟩]
    · rw [if_neg h2]
      by_cases h3 : i = 16 + k
      · subst h3; rw [if_pos rfl, if_pos ⟨by omega, by omega⟩]
      · rw [if_neg h3]
        by_cases h4 : i = 24 + k
        · subst h4; rw [if_pos rfl, if_pos ⟨by omega, by omega⟩]
        · rw [if_neg h4]
          by_cases h5 : i < 32 ∧ i % 8 < k
          · rw [if_pos h5, if_pos ⟨h5.1, by omega⟩]
          · rw [if_neg h5, if_neg (fun h6 => h5 ⟨h6.1, by omega⟩)]
section LOOPS
variable {p : Program} {l : Launch} {e : Env} {R : Room} {s : State} {m : MethodId} {args : Array Value} {below : List Frame} {meth : Method} {c : Code} {H : Heap} {locs : List Loc} {cells slots : Nat} {Q : State → Prop} {pc : Nat} {ls : Array Slot}
/-- a loop that counts up -/
theorem kW_up (N : Nat) (I : Nat → Heap → List Loc → Array Slot → Prop)
    (hs : ∀ (i : Nat) (H : Heap) (locs : List Loc) (ls : Array Slot), i < N → I i H locs ls → (∀ (H : Heap) (locs : List Loc) (ls : Array Slot), I (i + 1) H locs ls → W p l e R s m args below meth c H locs cells slots Q (F0 m pc ls [])) → W p l e R s m args below meth c H locs cells slots Q (F0 m pc ls []))
    (he : ∀ (H : Heap) (locs : List Loc) (ls : Array Slot), I N H locs ls → W p l e R s m args below meth c H locs cells slots Q (F0 m pc ls []))
    (h0 : I 0 H locs ls) : W p l e R s m args below meth c H locs cells slots Q (F0 m pc ls []) := by
  have key : ∀ (k i : Nat), i + k = N → ∀ (H : Heap) (locs : List Loc) (ls : Array Slot), I i H locs ls → W p l e R s m args below meth c H locs cells slots Q (F0 m pc ls []) := by
    intro k
    induction k with
    | zero =>
      intro i hi H locs ls hI
      have : i = N := by omega
      subst this
      exact he H locs ls hI
    | succ k ih =>
      intro i hi H locs ls hI
      exact hs i H locs ls (by omega) hI (fun H locs ls h => ih (i + 1) (by omega) H locs ls h)
  exact key N 0 (by omega) H locs ls h0
/-- a loop that counts down -/
theorem kW_dn (N : Nat) (I : Nat → Heap → List Loc → Array Slot → Prop)
    (hs : ∀ (i : Nat) (H : Heap) (locs : List Loc) (ls : Array Slot), i < N → I (i + 1) H locs ls → (∀ (H : Heap) (locs : List Loc) (ls : Array Slot), I i H locs ls → W p l e R s m args below meth c H locs cells slots Q (F0 m pc ls [])) → W p l e R s m args below meth c H locs cells slots Q (F0 m pc ls []))
    (he : ∀ (H : Heap) (locs : List Loc) (ls : Array Slot), I 0 H locs ls → W p l e R s m args below meth c H locs cells slots Q (F0 m pc ls []))
    (h0 : I N H locs ls) : W p l e R s m args below meth c H locs cells slots Q (F0 m pc ls []) := by
  have key : ∀ (i : Nat), i ≤ N → ∀ (H : Heap) (locs : List Loc) (ls : Array Slot), I i H locs ls → W p l e R s m args below meth c H locs cells slots Q (F0 m pc ls []) := by
    intro i
    induction i with
    | zero => intro _ H locs ls hI; exact he H locs ls hI
    | succ i ih =>
      intro hi H locs ls hI
      exact hs i H locs ls (by omega) hI (fun H locs ls h => ih (by omega) H locs ls h)
  exact key N (Nat.le_refl N) H locs ls h0
/-- a loop that counts up and writes nothing -/
theorem kW_upR (N : Nat) (I : Nat → Array Slot → Prop)
    (hs : ∀ (i : Nat) (ls : Array Slot), i < N → I i ls → (∀ (ls : Array Slot), I (i + 1) ls → W p l e R s m args below meth c H locs cells slots Q (F0 m pc ls [])) → W p l e R s m args below meth c H locs cells slots Q (F0 m pc ls []))
    (he : ∀ (ls : Array Slot), I N ls → W p l e R s m args below meth c H locs cells slots Q (F0 m pc ls []))
    (h0 : I 0 ls) : W p l e R s m args below meth c H locs cells slots Q (F0 m pc ls []) := by
  have key : ∀ (k i : Nat), i + k = N → ∀ (ls : Array Slot), I i ls → W p l e R s m args below meth c H locs cells slots Q (F0 m pc ls []) := by
    intro k
    induction k with
    | zero =>
      intro i hi ls hI
      have : i = N := by omega
      subst this
      exact he ls hI
    | succ k ih =>
      intro i hi ls hI
      exact hs i ls (by omega) hI (fun ls h => ih (i + 1) (by omega) ls h)
  exact key N 0 (by omega) ls h0
variable {D : va_G} {tys : List (ClassId × FieldType)} {ws : va_W} {cc : ByteArray} {rest : List Value}
/-- a barrel out of the row's line -/
theorem kx_ald (hexec : p.tables.exec = Jvm.exec) (hb : c.code = cc) (hK : va_K D vwCl tys s) (hP : va_P D vwCl ws H) (q0 t0 : Nat) {la : Nat} {bs : Nat → Nat} {cA : ClassId} (ha : ws[q0]? = some (la, EL cA bs)) (ht : tys[t0]? = some (cA, .object "VinegarLoft$Barrel")) {i : Int32} {j : Nat} (hi : i = nI j) (hj : j < 8) (hdg : decode cc pc = .ok (.aaload, 1))
    (kk : W p l e R s m args below meth c H locs cells slots Q (F0 m (pc + 1) ls (.ref (bs j) :: rest))) : W p l e R s m args below meth c H locs cells slots Q (F0 m pc ls (.int i :: .ref la :: rest)) := by
  subst hi
  refine va_aldq hexec hb hK hP q0 t0 ha ht (vp_in_nI hj (by omega)) hdg ?_
  rw [nI_clamp (by omega)]
  exact kk
end LOOPS
