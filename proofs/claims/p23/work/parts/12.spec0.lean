/-! what one barrel does, in doubles -/
def mixv (v x w y : UInt64) : UInt64 := FP.ddiv (FP.dadd (FP.dmul v x) (FP.dmul w y)) (FP.dadd v w)
/-- mixing w litres into v goes well: no NaN, more than nothing -/
def mixok (v x w y : UInt64) : Prop := vf_n64 (FP.dadd v w) ∧ FP.dcmp (FP.dadd v w) 0 = some .gt ∧ vf_n64 (FP.dmul v x) ∧ vf_n64 (FP.dmul w y) ∧ vf_n64 (FP.dadd (FP.dmul v x) (FP.dmul w y)) ∧ vf_n64 (mixv v x w y)
theorem gt_ne {o : Option Ordering} (h : o = some .gt) : o ≠ none := by rw [h]; exact fun h => nomatch h
theorem lt_ne {o : Option Ordering} (h : o = some .lt) : o ≠ none := by rw [h]; exact fun h => nomatch h
/-- 1: empty; 0: not -/
def emp (li : UInt64) : Int32 := if FP.dcmp li 0 = some .gt then 0 else 1
/-- the share of a wood -/
def shv (w : Int32) : UInt64 := if w = 0 then 4581421828931458171 else if w = 1 then 4584304132692975288 else if w = 2 then 4585204852618449388 else 4582862980812216730
/-- taking out -/
def tkE (w z : Int32) (li ag ac su less : UInt64) : va_E := if FP.dcmp (FP.dsub li less) 0 = some .gt then EB w z (FP.dsub li less) ag ac su else EB w z 0 0 0 0
/-- the acid and the sugar a year on -/
def soA (ac su : UInt64) : UInt64 := if FP.dcmp su 4626322717216342016 = some .gt ∧ FP.dcmp ac 4620693217682128896 = some .lt then FP.dadd ac 4603579539098121011 else if FP.dcmp (FP.dadd ac 4591870180066957722) 4622945017495814144 = some .gt then 4622945017495814144 else FP.dadd ac 4591870180066957722
def soS (ac su : UInt64) : UInt64 := if FP.dcmp su 4626322717216342016 = some .gt ∧ FP.dcmp ac 4620693217682128896 = some .lt then FP.dsub su 4605380978949069210 else su
def sook (ac su : UInt64) : Prop := FP.dcmp su 4626322717216342016 ≠ none ∧ FP.dcmp ac 4620693217682128896 ≠ none ∧ vf_n64 (FP.dadd ac 4603579539098121011) ∧ vf_n64 (FP.dsub su 4605380978949069210) ∧ vf_n64 (FP.dadd ac 4591870180066957722) ∧ FP.dcmp (FP.dadd ac 4591870180066957722) 4622945017495814144 ≠ none
/-- what a year takes of li litres -/
def losv (w : Int32) (li dr : UInt64) : UInt64 := FP.dmul (FP.dmul li (shv w)) dr
/-- the sugar before it sours, at most 70 -/
def thick (su li be : UInt64) : UInt64 := if FP.dcmp (FP.ddiv (FP.dmul su li) be) 4634626229029306368 = some .gt then 4634626229029306368 else FP.ddiv (FP.dmul su li) be
def yearok (w : Int32) (li ag ac su dr : UInt64) : Prop :=
  vf_n64 (FP.dmul li (shv w)) ∧ vf_n64 (losv w li dr) ∧ vf_n64 (FP.dsub li (losv w li dr)) ∧ FP.dcmp (FP.dsub li (losv w li dr)) 0 = some .gt ∧ vf_n64 (FP.dmul su li) ∧ vf_n64 (FP.ddiv (FP.dmul su li) (FP.dsub li (losv w li dr))) ∧ FP.dcmp (FP.ddiv (FP.dmul su li) (FP.dsub li (losv w li dr))) 4634626229029306368 ≠ none ∧ sook ac (thick su li (FP.dsub li (losv w li dr))) ∧ vf_n64 (FP.dadd ag 4607182418800017408)
/-- the size of a difference -/
def absv (x : UInt64) : UInt64 := if FP.dcmp x 0 = some .lt then FP.dneg x else x
def tasv (li ag ac su : UInt64) : UInt64 := if FP.dcmp li 0 = some .gt then FP.dsub (FP.dadd (FP.dmul 4602678819172646912 ag) (FP.dmul 4605380978949069210 su)) (FP.dmul 4613937818241073152 (absv (FP.dsub ac 4618441417868443648))) else 0
def tasok (ag ac su : UInt64) : Prop := vf_n64 (FP.dsub ac 4618441417868443648) ∧ FP.dcmp (FP.dsub ac 4618441417868443648) 0 ≠ none ∧ vf_n64 (FP.dmul 4602678819172646912 ag) ∧ vf_n64 (FP.dmul 4605380978949069210 su) ∧ vf_n64 (FP.dadd (FP.dmul 4602678819172646912 ag) (FP.dmul 4605380978949069210 su)) ∧ vf_n64 (FP.dmul 4613937818241073152 (absv (FP.dsub ac 4618441417868443648))) ∧ vf_n64 (FP.dsub (FP.dadd (FP.dmul 4602678819172646912 ag) (FP.dmul 4605380978949069210 su)) (FP.dmul 4613937818241073152 (absv (FP.dsub ac 4618441417868443648))))
