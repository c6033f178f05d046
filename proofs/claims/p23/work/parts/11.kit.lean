/-! MY OWN ROWS: contracts over a world, calls that leave the rest, comparisons of doubles, the row of barrels as a world -/
/-- a method's start: these arguments, this world -/
def Pm (D : va_G) (tys : List (ClassId × FieldType)) (av : List Value) (ws : va_W) (sz : Nat) : Array Value → State → Prop := va_Pc av (fun U => U.heap.size = sz ∧ va_P D vwCl ws U.heap ∧ va_K D vwCl tys U ∧ va_D (fun _ => True) ws)
/-- the start of one that only reads -/
def Pr (D : va_G) (tys : List (ClassId × FieldType)) (av : List Value) (ws : va_W) : Array Value → State → Prop := va_Pc av (fun U => va_P D vwCl ws U.heap ∧ va_K D vwCl tys U)
abbrev Bm (D : va_G) (tys : List (ClassId × FieldType)) (A : Nat → Prop) (ws : va_W) : Unit → State → Prop := fun _ t => va_P D vwCl ws t.heap ∧ va_K D vwCl tys t ∧ va_D A ws
theorem Pm_blind {D : va_G} {tys : List (ClassId × FieldType)} {av : List Value} {ws : va_W} {sz : Nat} : FrameBlind (Pm D tys av ws sz) := fun a U g mk q => by
  obtain ⟨q0, q1, qP, qK, qD⟩ := q
  exact ⟨q0, q1, qP, va_K.moved (u := U) (U := U.calling g mk a) (Vm.Alike.refl U.vm) qK, qD⟩
theorem Pr_blind {D : va_G} {tys : List (ClassId × FieldType)} {av : List Value} {ws : va_W} : FrameBlind (Pr D tys av ws) := fun a U g mk q => by
  obtain ⟨q0, qP, qK⟩ := q
  exact ⟨q0, qP, va_K.moved (u := U) (U := U.calling g mk a) (Vm.Alike.refl U.vm) qK⟩
section PRE
variable {s : State} {H : Heap} {D : va_G} {tys : List (ClassId × FieldType)} {ws : va_W} {A : Nat → Prop} {As : List Value} {b : Addr}
theorem pmS (hP : va_P D vwCl ws H) (hK : va_K D vwCl tys s) (hD : va_D A ws) : PreS s H (Pm D tys As ws H.size) As :=
  ⟨Pm_blind, fun U hU hW => ⟨rfl, by rw [hU], by rw [hU]; exact hP, va_K.moved hW.alike hK, hD.weaken (fun _ _ _ _ => trivial)⟩⟩
theorem pmV (ci k : Nat) (C : String) (T : u_T) (N : Nat) {fs : List Value} (hc : vwCl[ci]? = some (C, T, N)) (he : ws[k]? = some (b, .inr (ci, fs))) (hP : va_P D vwCl ws H) (hK : va_K D vwCl tys s) (hD : va_D A ws) : PreV s H C b (Pm D tys (.ref b :: As) ws H.size) As :=
  ⟨Pm_blind, va_recv hK hP hc he, (pmS hP hK hD).2⟩
theorem prS (hP : va_P D vwCl ws H) (hK : va_K D vwCl tys s) : PreS s H (Pr D tys As ws) As :=
  ⟨Pr_blind, fun U hU hW => ⟨rfl, by rw [hU]; exact hP, va_K.moved hW.alike hK⟩⟩
theorem prV (ci k : Nat) (C : String) (T : u_T) (N : Nat) {fs : List Value} (hc : vwCl[ci]? = some (C, T, N)) (he : ws[k]? = some (b, .inr (ci, fs))) (hP : va_P D vwCl ws H) (hK : va_K D vwCl tys s) : PreV s H C b (Pr D tys (.ref b :: As) ws) As :=
  ⟨Pr_blind, va_recv hK hP hc he, (prS hP hK).2⟩
end PRE
/-! parts of a world, and what comes back -/
section JOIN
variable {A0 : Nat → Prop} {D : va_G} {cl : List vw_C} {H H1 : Heap}
theorem vj_inB {w1 w2 w3 : va_W} {k : Nat} {q : Nat × va_E} (h : w2[k]? = some q) : (w1 ++ (w2 ++ w3))[w1.length + k]? = some q := by
  rw [List.getElem?_append_right (by omega), Nat.add_sub_cancel_left, List.getElem?_append_left (List.getElem?_eq_some_iff.mp h).1]
  exact h
theorem vj_inC {w1 w2 w3 : va_W} {k : Nat} {q : Nat × va_E} (h : w3[k]? = some q) : (w1 ++ (w2 ++ w3))[w1.length + (w2.length + k)]? = some q := by
  rw [List.getElem?_append_right (by omega), Nat.add_sub_cancel_left, List.getElem?_append_right (by omega), Nat.add_sub_cancel_left]
  exact h
theorem vj_inA {w1 w2 : va_W} {k : Nat} {q : Nat × va_E} (h : w1[k]? = some q) : (w1 ++ w2)[k]? = some q := by
  rw [List.getElem?_append_left (List.getElem?_eq_some_iff.mp h).1]
  exact h
theorem vj_mP {w1 w2 w3 : va_W} (hP : va_P D cl (w1 ++ (w2 ++ w3)) H) : va_P D cl w2 H := fun k q h => hP _ q (vj_inB h)
theorem vj_mD {w1 w2 w3 : va_W} (hD : va_D A0 (w1 ++ (w2 ++ w3))) : va_D A0 w2 :=
  ⟨fun i j p q hi hj h => by have := hD.1 _ _ p q (vj_inB hi) (vj_inB hj) h; omega, fun k q h => hD.2 _ q (vj_inB h)⟩
theorem vj_mF {w1 w2 w3 : va_W} {H0 : Heap} {locs : List Loc} (hD : va_D A0 (w1 ++ (w2 ++ w3))) (hS : va_S A0 H0 H locs) (hA : ∀ q, H0.size ≤ q → A0 q) : ∀ q, va_A w2 H.size q → A0 q := by
  intro q h
  rcases h with ⟨k, e, h⟩ | h
  · exact hD.2 _ (q, e) (vj_inB h)
  · exact hA q (Nat.le_trans hS.1 h)
theorem vj_mid {w1 w2 w2' w3 : va_W} (hP : va_P D cl (w1 ++ (w2 ++ w3)) H) (hD : va_D A0 (w1 ++ (w2 ++ w3))) (hk : ∀ q : Nat, q < H.size → ¬ va_A w2 H.size q → H1[q]? = H[q]?) (hF : ∀ q, va_A w2 H.size q → A0 q) (hP1 : va_P D cl w2' H1) (hD1 : va_D (va_A w2 H.size) w2') : va_P D cl (w1 ++ (w2' ++ w3)) H1 ∧ va_D A0 (w1 ++ (w2' ++ w3)) := by
  have apart : ∀ (K : Nat) (q : Nat × va_E), (w1 ++ (w2 ++ w3))[K]? = some q → (K < w1.length ∨ w1.length + w2.length ≤ K) → q.1 < H.size ∧ ¬ va_A w2 H.size q.1 := by
    intro K q hq hK
    have hl := (hP K q hq).lt
    refine ⟨hl, fun h => ?_⟩
    rcases h with ⟨k2, e, h⟩ | h
    · have h2 := hD.1 K (w1.length + k2) q (q.1, e) hq (vj_inB h) rfl
      have h3 := (List.getElem?_eq_some_iff.mp h).1
      omega
    · omega
  have apA : ∀ (k : Nat) (q : Nat × va_E), w1[k]? = some q → q.1 < H.size ∧ ¬ va_A w2 H.size q.1 := fun k q h => apart k q (vj_inA h) (Or.inl (List.getElem?_eq_some_iff.mp h).1)
  have apC : ∀ (k : Nat) (q : Nat × va_E), w3[k]? = some q → q.1 < H.size ∧ ¬ va_A w2 H.size q.1 := fun k q h => apart _ q (vj_inC h) (Or.inr (by omega))
  refine ⟨va_P.app (fun k q h => (hP k q (vj_inA h)).kept (hk _ (apA k q h).1 (apA k q h).2)) (va_P.app hP1 (fun k q h => (hP _ q (vj_inC h)).kept (hk _ (apC k q h).1 (apC k q h).2))), ?_⟩
  have hDa : va_D A0 w1 := ⟨fun i j p q hi hj h => hD.1 i j p q (vj_inA hi) (vj_inA hj) h, fun k q h => hD.2 k q (vj_inA h)⟩
  have hDc : va_D A0 w3 := ⟨fun i j p q hi hj h => by have := hD.1 _ _ p q (vj_inC hi) (vj_inC hj) h; omega, fun k q h => hD.2 _ q (vj_inC h)⟩
  have hDb : va_D A0 w2' := hD1.weaken (fun k q _ h => hF q.1 h)
  refine va_D.app hDa (va_D.app hDb hDc (fun i j p q hi hj h => ?_)) (fun i j p q hi hj h => ?_)
  · exact (apC j q hj).2 (by rw [← h]; exact hD1.2 i p hi)
  · by_cases hb : j < w2'.length
    · rw [List.getElem?_append_left hb] at hj
      exact (apA i p hi).2 (by rw [h]; exact hD1.2 j q hj)
    · rw [List.getElem?_append_right (by omega)] at hj
      have h2 := hD.1 _ _ p q (vj_inA hi) (vj_inC hj) h
      have h3 := (List.getElem?_eq_some_iff.mp hi).1
      omega
/-- one cell of a world, by its place -/
theorem vj_oP {ws : va_W} {k x : Nat} {e : va_E} (hk : ws[k]? = some (x, e)) (hP : va_P D cl ws H) : va_P D cl [(x, e)] H := by
  intro j q hj
  match j, hj with
  | 0, hj => cases hj; exact hP k _ hk
  | j + 1, hj => simp at hj
theorem vj_oD {ws : va_W} {k x : Nat} {e : va_E} (hk : ws[k]? = some (x, e)) (hD : va_D A0 ws) : va_D A0 [(x, e)] := by
  refine ⟨fun i j p q hi hj _ => ?_, fun j q hj => ?_⟩
  · have h1 := (List.getElem?_eq_some_iff.mp hi).1
    have h2 := (List.getElem?_eq_some_iff.mp hj).1
    simp at h1 h2
    omega
  · match j, hj with
    | 0, hj => cases hj; exact hD.2 k _ hk
    | j + 1, hj => simp at hj
theorem vj_oF {ws : va_W} {k x : Nat} {e : va_E} {H0 : Heap} {locs : List Loc} (hk : ws[k]? = some (x, e)) (hD : va_D A0 ws) (hS : va_S A0 H0 H locs) (hA : ∀ q, H0.size ≤ q → A0 q) : ∀ q, va_A [(x, e)] H.size q → A0 q := by
  intro q h
  rcases h with ⟨j, e2, h⟩ | h
  · match j, h with
    | 0, h => cases h; exact hD.2 k _ hk
    | j + 1, h => simp at h
  · exact hA q (Nat.le_trans hS.1 h)
theorem vj_set {ws : va_W} {k x : Nat} {e e' : va_E} (hk0 : ws[k]? = some (x, e)) (hP : va_P D cl ws H) (hD : va_D A0 ws) (hk : ∀ q : Nat, q < H.size → ¬ va_A [(x, e)] H.size q → H1[q]? = H[q]?) (hP1 : va_P D cl [(x, e')] H1) : va_P D cl (ws.set k (x, e')) H1 ∧ va_D A0 (ws.set k (x, e')) := by
  refine ⟨fun j q hj => ?_, hD.set hk0⟩
  have hl := (List.getElem?_eq_some_iff.mp hk0).1
  by_cases hjk : j = k
  · subst hjk
    rw [List.getElem?_set_self hl] at hj
    cases hj
    exact hP1 0 _ rfl
  · rw [List.getElem?_set_ne (Ne.symm hjk)] at hj
    refine (hP j q hj).kept (hk q.1 (hP j q hj).lt (fun h => ?_))
    rcases h with ⟨i, e2, h⟩ | h
    · match i, h with
      | 0, h =>
        have h2 : q.1 = x := by cases h; rfl
        exact hjk (hD.1 j k q (x, e) hj hk0 h2)
      | i + 1, h => simp at h
    · have := (hP j q hj).lt
      omega
/-- two cells -/
theorem vj_tP {ws : va_W} {k1 x1 k2 x2 : Nat} {e1 e2 : va_E} (h1 : ws[k1]? = some (x1, e1)) (h2 : ws[k2]? = some (x2, e2)) (hP : va_P D cl ws H) : va_P D cl [(x1, e1), (x2, e2)] H := by
  intro j q hj
  match j, hj with
  | 0, hj => cases hj; exact hP k1 _ h1
  | 1, hj => cases hj; exact hP k2 _ h2
  | j + 2, hj => simp at hj
theorem vj_tD {ws : va_W} {k1 x1 k2 x2 : Nat} {e1 e2 : va_E} (h1 : ws[k1]? = some (x1, e1)) (h2 : ws[k2]? = some (x2, e2)) (hn : k1 ≠ k2) (hD : va_D A0 ws) : va_D A0 [(x1, e1), (x2, e2)] := by
  have hx : x1 ≠ x2 := fun h => hn (hD.1 k1 k2 _ _ h1 h2 h)
  refine ⟨fun i j p q hi hj h => ?_, fun j q hj => ?_⟩
  · match i, j, hi, hj with
    | 0, 0, _, _ => rfl
    | 1, 1, _, _ => rfl
    | 0, 1, hi, hj => cases hi; cases hj; exact absurd h hx
    | 1, 0, hi, hj => cases hi; cases hj; exact absurd h.symm hx
    | i + 2, _, hi, _ => simp at hi
    | _, j + 2, _, hj => simp at hj
  · match j, hj with
    | 0, hj => cases hj; exact hD.2 k1 _ h1
    | 1, hj => cases hj; exact hD.2 k2 _ h2
    | j + 2, hj => simp at hj
theorem vj_tF {ws : va_W} {k1 x1 k2 x2 : Nat} {e1 e2 : va_E} {H0 : Heap} {locs : List Loc} (h1 : ws[k1]? = some (x1, e1)) (h2 : ws[k2]? = some (x2, e2)) (hD : va_D A0 ws) (hS : va_S A0 H0 H locs) (hA : ∀ q, H0.size ≤ q → A0 q) : ∀ q, va_A [(x1, e1), (x2, e2)] H.size q → A0 q := by
  intro q h
  rcases h with ⟨j, e3, h⟩ | h
  · match j, h with
    | 0, h => cases h; exact hD.2 k1 _ h1
    | 1, h => cases h; exact hD.2 k2 _ h2
    | j + 2, h => simp at h
  · exact hA q (Nat.le_trans hS.1 h)
theorem vj_two {ws : va_W} {k1 x1 k2 x2 : Nat} {e1 e2 e1' e2' : va_E} (h1 : ws[k1]? = some (x1, e1)) (h2 : ws[k2]? = some (x2, e2)) (hn : k1 ≠ k2) (hP : va_P D cl ws H) (hD : va_D A0 ws) (hk : ∀ q : Nat, q < H.size → ¬ va_A [(x1, e1), (x2, e2)] H.size q → H1[q]? = H[q]?) (hP1 : va_P D cl [(x1, e1'), (x2, e2')] H1) : va_P D cl ((ws.set k1 (x1, e1')).set k2 (x2, e2')) H1 ∧ va_D A0 ((ws.set k1 (x1, e1')).set k2 (x2, e2')) := by
  have hl1 := (List.getElem?_eq_some_iff.mp h1).1
  have hl2 := (List.getElem?_eq_some_iff.mp h2).1
  have h2' : (ws.set k1 (x1, e1'))[k2]? = some (x2, e2) := by rw [List.getElem?_set_ne hn]; exact h2
  refine ⟨fun j q hj => ?_, (hD.set h1).set h2'⟩
  by_cases hj2 : j = k2
  · subst hj2
    rw [List.getElem?_set_self (by rw [List.length_set]; exact hl2)] at hj
    cases hj
    exact hP1 1 _ rfl
  · rw [List.getElem?_set_ne (Ne.symm hj2)] at hj
    by_cases hj1 : j = k1
    · subst hj1
      rw [List.getElem?_set_self hl1] at hj
      cases hj
      exact hP1 0 _ rfl
    · rw [List.getElem?_set_ne (Ne.symm hj1)] at hj
      refine (hP j q hj).kept (hk q.1 (hP j q hj).lt (fun h => ?_))
      rcases h with ⟨i, e3, h⟩ | h
      · match i, h with
        | 0, h =>
          have h3 : q.1 = x1 := by cases h; rfl
          exact hj1 (hD.1 j k1 q (x1, e1) hj h1 h3)
        | 1, h =>
          have h3 : q.1 = x2 := by cases h; rfl
          exact hj2 (hD.1 j k2 q (x2, e2) hj h2 h3)
        | i + 2, h => simp at h
      · have := (hP j q hj).lt
        omega
end JOIN
/-! calls with one answer, and the world behind them -/
section CALL
variable {p : Program} {l : Launch} {e : Env} {R : Room} {s : State} {m : MethodId} {args : Array Value} {below : List Frame} {meth : Method} {c : Code} {H : Heap} {locs : List Loc} {cells slots : Nat} {Q : State → Prop}
variable {pc : Nat} {ls : Array Slot} {rest st0 : List Value} {aa : Array Value} {D : va_G} {tc : List (ClassId × FieldType)} {A0 : Nat → Prop} {H0 : Heap}
theorem kr_i {RES : Int32} (hr : CallRun p l e R s m args below meth c H locs cells slots 0 0 (F0 m pc ls st0) rest (vp_Si (fun r => r = RES) aa) (fun _ => False)) (kk : W p l e R s m args below meth c H locs cells slots Q (F0 m (pc + 3) ls (.int RES :: rest))) : W p l e R s m args below meth c H locs cells slots Q (F0 m pc ls st0) := vp_callSi hr (fun r h => by subst h; exact kk)
theorem kr_d {RES : UInt64} (hr : CallRun p l e R s m args below meth c H locs cells slots 0 0 (F0 m pc ls st0) rest (vp_Sd (fun r => r = RES) aa) (fun _ => False)) (kk : W p l e R s m args below meth c H locs cells slots Q (F0 m (pc + 3) ls (.double RES :: rest))) : W p l e R s m args below meth c H locs cells slots Q (F0 m pc ls st0) := vp_callSd hr (fun r h => by subst h; exact kk)
section MID
variable {w1 w2 w2' w3 : va_W} {mc ms : Nat}
theorem kc_i {RES : Int32} (hr : va_Run p l e R s m args below meth c H locs cells slots mc ms (F0 m pc ls st0) rest (va_Qi (fun (r : Int32) (_ : Unit) => r = RES) (Bm D tc (va_A w2 H.size) w2') (va_A w2 H.size) aa) (va_A w2 H.size)) (hP : va_P D vwCl (w1 ++ (w2 ++ w3)) H) (hD : va_D A0 (w1 ++ (w2 ++ w3))) (hS : va_S A0 H0 H locs) (hA : ∀ q, H0.size ≤ q → A0 q)
    (kk : ∀ (H1 : Heap) (locs1 : List Loc), va_P D vwCl (w1 ++ (w2' ++ w3)) H1 → va_D A0 (w1 ++ (w2' ++ w3)) → va_S A0 H0 H1 locs1 → W p l e R s m args below meth c H1 locs1 (cells + mc) (slots + ms) Q (F0 m (pc + 3) ls (.int RES :: rest))) : W p l e R s m args below meth c H locs cells slots Q (F0 m pc ls st0) := by
  refine va_calli hr hS (fun q _ h => vj_mF hD hS hA q h) (vj_mF hD hS hA) (fun r u t H1 locs1 ht hvm hw hB hz hk hS1 => ?_)
  subst hw
  obtain ⟨hP1, hK1, hD1⟩ := hB
  rw [ht] at hP1
  obtain ⟨hP2, hD2⟩ := vj_mid hP hD hk (vj_mF hD hS hA) hP1 hD1
  exact kk H1 locs1 hP2 hD2 hS1
theorem kc_d {RES : UInt64} (hr : va_Run p l e R s m args below meth c H locs cells slots mc ms (F0 m pc ls st0) rest (va_Qd (fun (r : UInt64) (_ : Unit) => r = RES) (Bm D tc (va_A w2 H.size) w2') (va_A w2 H.size) aa) (va_A w2 H.size)) (hP : va_P D vwCl (w1 ++ (w2 ++ w3)) H) (hD : va_D A0 (w1 ++ (w2 ++ w3))) (hS : va_S A0 H0 H locs) (hA : ∀ q, H0.size ≤ q → A0 q)
    (kk : ∀ (H1 : Heap) (locs1 : List Loc), va_P D vwCl (w1 ++ (w2' ++ w3)) H1 → va_D A0 (w1 ++ (w2' ++ w3)) → va_S A0 H0 H1 locs1 → W p l e R s m args below meth c H1 locs1 (cells + mc) (slots + ms) Q (F0 m (pc + 3) ls (.double RES :: rest))) : W p l e R s m args below meth c H locs cells slots Q (F0 m pc ls st0) := by
  refine va_calld hr hS (fun q _ h => vj_mF hD hS hA q h) (vj_mF hD hS hA) (fun r u t H1 locs1 ht hvm hw hB hz hk hS1 => ?_)
  subst hw
  obtain ⟨hP1, hK1, hD1⟩ := hB
  rw [ht] at hP1
  obtain ⟨hP2, hD2⟩ := vj_mid hP hD hk (vj_mF hD hS hA) hP1 hD1
  exact kk H1 locs1 hP2 hD2 hS1
theorem kc_v (hr : va_Run p l e R s m args below meth c H locs cells slots mc ms (F0 m pc ls st0) rest (va_Qv (fun (_ : Unit) => True) (Bm D tc (va_A w2 H.size) w2') (va_A w2 H.size) aa) (va_A w2 H.size)) (hP : va_P D vwCl (w1 ++ (w2 ++ w3)) H) (hD : va_D A0 (w1 ++ (w2 ++ w3))) (hS : va_S A0 H0 H locs) (hA : ∀ q, H0.size ≤ q → A0 q)
    (kk : ∀ (H1 : Heap) (locs1 : List Loc), va_P D vwCl (w1 ++ (w2' ++ w3)) H1 → va_D A0 (w1 ++ (w2' ++ w3)) → va_S A0 H0 H1 locs1 → W p l e R s m args below meth c H1 locs1 (cells + mc) (slots + ms) Q (F0 m (pc + 3) ls rest)) : W p l e R s m args below meth c H locs cells slots Q (F0 m pc ls st0) := by
  refine va_callv hr hS (fun q _ h => vj_mF hD hS hA q h) (vj_mF hD hS hA) (fun u t H1 locs1 ht hvm hw hB hz hk hS1 => ?_)
  obtain ⟨hP1, hK1, hD1⟩ := hB
  rw [ht] at hP1
  obtain ⟨hP2, hD2⟩ := vj_mid hP hD hk (vj_mF hD hS hA) hP1 hD1
  exact kk H1 locs1 hP2 hD2 hS1
end MID
section ONE
variable {ws : va_W} {k x : Nat} {e0 e1 : va_E} {mc ms : Nat}
theorem ko_i {RES : Int32} (hr : va_Run p l e R s m args below meth c H locs cells slots mc ms (F0 m pc ls st0) rest (va_Qi (fun (r : Int32) (_ : Unit) => r = RES) (Bm D tc (va_A [(x, e0)] H.size) [(x, e1)]) (va_A [(x, e0)] H.size) aa) (va_A [(x, e0)] H.size)) (hk0 : ws[k]? = some (x, e0)) (hP : va_P D vwCl ws H) (hD : va_D A0 ws) (hS : va_S A0 H0 H locs) (hA : ∀ q, H0.size ≤ q → A0 q)
    (kk : ∀ (H1 : Heap) (locs1 : List Loc), va_P D vwCl (ws.set k (x, e1)) H1 → va_D A0 (ws.set k (x, e1)) → va_S A0 H0 H1 locs1 → W p l e R s m args below meth c H1 locs1 (cells + mc) (slots + ms) Q (F0 m (pc + 3) ls (.int RES :: rest))) : W p l e R s m args below meth c H locs cells slots Q (F0 m pc ls st0) := by
  refine va_calli hr hS (fun q _ h => vj_oF hk0 hD hS hA q h) (vj_oF hk0 hD hS hA) (fun r u t H1 locs1 ht hvm hw hB hz hk hS1 => ?_)
  subst hw
  obtain ⟨hP1, hK1, hD1⟩ := hB
  rw [ht] at hP1
  obtain ⟨hP2, hD2⟩ := vj_set hk0 hP hD hk hP1
  exact kk H1 locs1 hP2 hD2 hS1
theorem ko_d {RES : UInt64} (hr : va_Run p l e R s m args below meth c H locs cells slots mc ms (F0 m pc ls st0) rest (va_Qd (fun (r : UInt64) (_ : Unit) => r = RES) (Bm D tc (va_A [(x, e0)] H.size) [(x, e1)]) (va_A [(x, e0)] H.size) aa) (va_A [(x, e0)] H.size)) (hk0 : ws[k]? = some (x, e0)) (hP : va_P D vwCl ws H) (hD : va_D A0 ws) (hS : va_S A0 H0 H locs) (hA : ∀ q, H0.size ≤ q → A0 q)
    (kk : ∀ (H1 : Heap) (locs1 : List Loc), va_P D vwCl (ws.set k (x, e1)) H1 → va_D A0 (ws.set k (x, e1)) → va_S A0 H0 H1 locs1 → W p l e R s m args below meth c H1 locs1 (cells + mc) (slots + ms) Q (F0 m (pc + 3) ls (.double RES :: rest))) : W p l e R s m args below meth c H locs cells slots Q (F0 m pc ls st0) := by
  refine va_calld hr hS (fun q _ h => vj_oF hk0 hD hS hA q h) (vj_oF hk0 hD hS hA) (fun r u t H1 locs1 ht hvm hw hB hz hk hS1 => ?_)
  subst hw
  obtain ⟨hP1, hK1, hD1⟩ := hB
  rw [ht] at hP1
  obtain ⟨hP2, hD2⟩ := vj_set hk0 hP hD hk hP1
  exact kk H1 locs1 hP2 hD2 hS1
theorem ko_v (hr : va_Run p l e R s m args below meth c H locs cells slots mc ms (F0 m pc ls st0) rest (va_Qv (fun (_ : Unit) => True) (Bm D tc (va_A [(x, e0)] H.size) [(x, e1)]) (va_A [(x, e0)] H.size) aa) (va_A [(x, e0)] H.size)) (hk0 : ws[k]? = some (x, e0)) (hP : va_P D vwCl ws H) (hD : va_D A0 ws) (hS : va_S A0 H0 H locs) (hA : ∀ q, H0.size ≤ q → A0 q)
    (kk : ∀ (H1 : Heap) (locs1 : List Loc), va_P D vwCl (ws.set k (x, e1)) H1 → va_D A0 (ws.set k (x, e1)) → va_S A0 H0 H1 locs1 → W p l e R s m args below meth c H1 locs1 (cells + mc) (slots + ms) Q (F0 m (pc + 3) ls rest)) : W p l e R s m args below meth c H locs cells slots Q (F0 m pc ls st0) := by
  refine va_callv hr hS (fun q _ h => vj_oF hk0 hD hS hA q h) (vj_oF hk0 hD hS hA) (fun u t H1 locs1 ht hvm hw hB hz hk hS1 => ?_)
  obtain ⟨hP1, hK1, hD1⟩ := hB
  rw [ht] at hP1
  obtain ⟨hP2, hD2⟩ := vj_set hk0 hP hD hk hP1
  exact kk H1 locs1 hP2 hD2 hS1
end ONE
section TWO
variable {ws : va_W} {k1 x1 k2 x2 : Nat} {a0 a1 b0 b1 : va_E} {mc ms : Nat}
theorem kt_d {RES : UInt64} (hr : va_Run p l e R s m args below meth c H locs cells slots mc ms (F0 m pc ls st0) rest (va_Qd (fun (r : UInt64) (_ : Unit) => r = RES) (Bm D tc (va_A [(x1, a0), (x2, b0)] H.size) [(x1, a1), (x2, b1)]) (va_A [(x1, a0), (x2, b0)] H.size) aa) (va_A [(x1, a0), (x2, b0)] H.size)) (h1 : ws[k1]? = some (x1, a0)) (h2 : ws[k2]? = some (x2, b0)) (hn : k1 ≠ k2) (hP : va_P D vwCl ws H) (hD : va_D A0 ws) (hS : va_S A0 H0 H locs) (hA : ∀ q, H0.size ≤ q → A0 q)
    (kk : ∀ (H1 : Heap) (locs1 : List Loc), va_P D vwCl ((ws.set k1 (x1, a1)).set k2 (x2, b1)) H1 → va_D A0 ((ws.set k1 (x1, a1)).set k2 (x2, b1)) → va_S A0 H0 H1 locs1 → W p l e R s m args below meth c H1 locs1 (cells + mc) (slots + ms) Q (F0 m (pc + 3) ls (.double RES :: rest))) : W p l e R s m args below meth c H locs cells slots Q (F0 m pc ls st0) := by
  refine va_calld hr hS (fun q _ h => vj_tF h1 h2 hD hS hA q h) (vj_tF h1 h2 hD hS hA) (fun r u t H1 locs1 ht hvm hw hB hz hk hS1 => ?_)
  subst hw
  obtain ⟨hP1, hK1, hD1⟩ := hB
  rw [ht] at hP1
  obtain ⟨hP2, hD2⟩ := vj_two h1 h2 hn hP hD hk hP1
  exact kk H1 locs1 hP2 hD2 hS1
theorem kt_v (hr : va_Run p l e R s m args below meth c H locs cells slots mc ms (F0 m pc ls st0) rest (va_Qv (fun (_ : Unit) => True) (Bm D tc (va_A [(x1, a0), (x2, b0)] H.size) [(x1, a1), (x2, b1)]) (va_A [(x1, a0), (x2, b0)] H.size) aa) (va_A [(x1, a0), (x2, b0)] H.size)) (h1 : ws[k1]? = some (x1, a0)) (h2 : ws[k2]? = some (x2, b0)) (hn : k1 ≠ k2) (hP : va_P D vwCl ws H) (hD : va_D A0 ws) (hS : va_S A0 H0 H locs) (hA : ∀ q, H0.size ≤ q → A0 q)
    (kk : ∀ (H1 : Heap) (locs1 : List Loc), va_P D vwCl ((ws.set k1 (x1, a1)).set k2 (x2, b1)) H1 → va_D A0 ((ws.set k1 (x1, a1)).set k2 (x2, b1)) → va_S A0 H0 H1 locs1 → W p l e R s m args below meth c H1 locs1 (cells + mc) (slots + ms) Q (F0 m (pc + 3) ls rest)) : W p l e R s m args below meth c H locs cells slots Q (F0 m pc ls st0) := by
  refine va_callv hr hS (fun q _ h => vj_tF h1 h2 hD hS hA q h) (vj_tF h1 h2 hD hS hA) (fun u t H1 locs1 ht hvm hw hB hz hk hS1 => ?_)
  obtain ⟨hP1, hK1, hD1⟩ := hB
  rw [ht] at hP1
  obtain ⟨hP2, hD2⟩ := vj_two h1 h2 hn hP hD hk hP1
  exact kk H1 locs1 hP2 hD2 hS1
end TWO
theorem kd_eq {x y : UInt64} (h : x = y) (k : W p l e R s m args below meth c H locs cells slots Q (F0 m pc ls (.double y :: rest))) : W p l e R s m args below meth c H locs cells slots Q (F0 m pc ls (.double x :: rest)) := by subst h; exact k
theorem ki_eq {x y : Int32} (h : x = y) (k : W p l e R s m args below meth c H locs cells slots Q (F0 m pc ls (.int y :: rest))) : W p l e R s m args below meth c H locs cells slots Q (F0 m pc ls (.int x :: rest)) := by subst h; exact k
theorem kW_H {g : JFrame} (k : ∀ H : Heap, H = s.heap → W p l e R s m args below meth c H locs cells slots Q g) : W p l e R s m args below meth c s.heap locs cells slots Q g := k _ rfl
/-! doubles: constants 0 and 1, a comparison with its branch -/
variable {cc : ByteArray}
theorem kd_0 (hexec : p.tables.exec = Jvm.exec) (hb : c.code = cc) (hdg : decode cc pc = .ok (.dconst 0, 1)) (k : W p l e R s m args below meth c H locs cells slots Q (F0 m (pc + 1) ls (.double 0 :: rest))) : W p l e R s m args below meth c H locs cells slots Q (F0 m pc ls rest) := lv_dconst0 hexec hb hdg k
theorem kd_1 (hexec : p.tables.exec = Jvm.exec) (hb : c.code = cc) (hdg : decode cc pc = .ok (.dconst 1, 1)) (k : W p l e R s m args below meth c H locs cells slots Q (F0 m (pc + 1) ls (.double 4607182418800017408 :: rest))) : W p l e R s m args below meth c H locs cells slots Q (F0 m pc ls rest) := lv_dconst1 hexec hb hdg k
theorem cv_ge (o : Option Ordering) (op : CmpOp) (h : o ≠ none) : 0 ≤ Op.cmpValue o op ↔ o ≠ some .lt := by
  rcases o with _ | (_ | _ | _)
  · exact absurd rfl h
  all_goals simp [Op.cmpValue]
  all_goals decide
theorem cv_lt (o : Option Ordering) (op : CmpOp) (h : o ≠ none) : Op.cmpValue o op < 0 ↔ o = some .lt := by
  rcases o with _ | (_ | _ | _)
  · exact absurd rfl h
  all_goals simp [Op.cmpValue]
  all_goals decide
theorem cv_gt (o : Option Ordering) (op : CmpOp) (h : o ≠ none) : 0 < Op.cmpValue o op ↔ o = some .gt := by
  rcases o with _ | (_ | _ | _)
  · exact absurd rfl h
  all_goals simp [Op.cmpValue]
  all_goals decide
theorem cv_le (o : Option Ordering) (op : CmpOp) (h : o ≠ none) : Op.cmpValue o op ≤ 0 ↔ o ≠ some .gt := by
  rcases o with _ | (_ | _ | _)
  · exact absurd rfl h
  all_goals simp [Op.cmpValue]
  all_goals decide
section CMP
variable {x y : UInt64} {op : CmpOp} {off : Int} {tgt : Nat}
theorem kd_ge (hexec : p.tables.exec = Jvm.exec) (hb : c.code = cc) (hd1 : decode cc pc = .ok (.dcmp op, 1)) (hd2 : decode cc (pc + 1) = .ok (.ifCond .ge off, 3)) (ht : ((pc + 1 : Nat) : Int) + off = (tgt : Int)) (hne : FP.dcmp x y ≠ none)
    (kt : FP.dcmp x y ≠ some .lt → W p l e R s m args below meth c H locs cells slots Q (F0 m tgt ls rest)) (kf : FP.dcmp x y = some .lt → W p l e R s m args below meth c H locs cells slots Q (F0 m (pc + 4) ls rest)) : W p l e R s m args below meth c H locs cells slots Q (F0 m pc ls (.double y :: .double x :: rest)) := by
  refine lv_dcmp hexec hb hd1 ?_
  exact lv_if_ge hexec hb hd2 ht (fun h => kt ((cv_ge _ _ hne).mp h)) (fun h => kf (Classical.byContradiction fun h2 => h ((cv_ge _ _ hne).mpr h2)))
theorem kd_lt (hexec : p.tables.exec = Jvm.exec) (hb : c.code = cc) (hd1 : decode cc pc = .ok (.dcmp op, 1)) (hd2 : decode cc (pc + 1) = .ok (.ifCond .lt off, 3)) (ht : ((pc + 1 : Nat) : Int) + off = (tgt : Int)) (hne : FP.dcmp x y ≠ none)
    (kt : FP.dcmp x y = some .lt → W p l e R s m args below meth c H locs cells slots Q (F0 m tgt ls rest)) (kf : FP.dcmp x y ≠ some .lt → W p l e R s m args below meth c H locs cells slots Q (F0 m (pc + 4) ls rest)) : W p l e R s m args below meth c H locs cells slots Q (F0 m pc ls (.double y :: .double x :: rest)) := by
  refine lv_dcmp hexec hb hd1 ?_
  exact lv_if_lt hexec hb hd2 ht (fun h => kt ((cv_lt _ _ hne).mp h)) (fun h => kf (fun h2 => h ((cv_lt _ _ hne).mpr h2)))
theorem kd_gt (hexec : p.tables.exec = Jvm.exec) (hb : c.code = cc) (hd1 : decode cc pc = .ok (.dcmp op, 1)) (hd2 : decode cc (pc + 1) = .ok (.ifCond .gt off, 3)) (ht : ((pc + 1 : Nat) : Int) + off = (tgt : Int)) (hne : FP.dcmp x y ≠ none)
    (kt : FP.dcmp x y = some .gt → W p l e R s m args below meth c H locs cells slots Q (F0 m tgt ls rest)) (kf : FP.dcmp x y ≠ some .gt → W p l e R s m args below meth c H locs cells slots Q (F0 m (pc + 4) ls rest)) : W p l e R s m args below meth c H locs cells slots Q (F0 m pc ls (.double y :: .double x :: rest)) := by
  refine lv_dcmp hexec hb hd1 ?_
  exact lv_if_gt hexec hb hd2 ht (fun h => kt ((cv_gt _ _ hne).mp h)) (fun h => kf (fun h2 => h ((cv_gt _ _ hne).mpr h2)))
theorem kd_le (hexec : p.tables.exec = Jvm.exec) (hb : c.code = cc) (hd1 : decode cc pc = .ok (.dcmp op, 1)) (hd2 : decode cc (pc + 1) = .ok (.ifCond .le off, 3)) (ht : ((pc + 1 : Nat) : Int) + off = (tgt : Int)) (hne : FP.dcmp x y ≠ none)
    (kt : FP.dcmp x y ≠ some .gt → W p l e R s m args below meth c H locs cells slots Q (F0 m tgt ls rest)) (kf : FP.dcmp x y = some .gt → W p l e R s m args below meth c H locs cells slots Q (F0 m (pc + 4) ls rest)) : W p l e R s m args below meth c H locs cells slots Q (F0 m pc ls (.double y :: .double x :: rest)) := by
  refine lv_dcmp hexec hb hd1 ?_
  exact lv_if_le hexec hb hd2 ht (fun h => kt ((cv_le _ _ hne).mp h)) (fun h => kf (Classical.byContradiction fun h2 => h ((cv_le _ _ hne).mpr h2)))
end CMP
end CALL
theorem cmp_ne {a b : UInt64} (ha : FP.Core.val64 a ≠ .nan) (hb : FP.Core.val64 b ≠ .nan) : FP.dcmp a b ≠ none := by
  rw [cmp_zv ha hb]; exact fun h => nomatch h
/-! the worlds: a barrel, a row -/
abbrev EB (w z : Int32) (li ag ac su : UInt64) : va_E := .inr (0, [.int w, .int z, .double li, .double ag, .double ac, .double su])
abbrev ER (la : Nat) (n wm df : Int32) (q : UInt64) : va_E := .inr (1, [.ref la, .int n, .int wm, .int df, .double q])
abbrev EL (cA : ClassId) (bs : Nat → Nat) : va_E := .inl (cA, (8, .inr (.inr (.inr (.inr (fun i => some (bs i)))))))
/-- what barrel i holds, out of one table: litres, age, acid, sugar, eight of each -/
abbrev Bk (wd zs : Nat → Int32) (h : Nat → UInt64) (i : Nat) : va_E := EB (wd i) (zs i) (h i) (h (8 + i)) (h (16 + i)) (h (24 + i))
def rowW (r la : Nat) (bs : Nat → Nat) (cA : ClassId) (n wm df : Int32) (q : UInt64) (wd zs : Nat → Int32) (h : Nat → UInt64) : va_W :=
  [(r, ER la n wm df q), (la, EL cA bs), (bs 0, Bk wd zs h 0), (bs 1, Bk wd zs h 1), (bs 2, Bk wd zs h 2), (bs 3, Bk wd zs h 3), (bs 4, Bk wd zs h 4), (bs 5, Bk wd zs h 5), (bs 6, Bk wd zs h 6), (bs 7, Bk wd zs h 7)]
/-- barrel i holds something else -/
def hset (h : Nat → UInt64) (i : Nat) (li ag ac su : UInt64) : Nat → UInt64 := fun k => if k = i then li else if k = 8 + i then ag else if k = 16 + i then ac else if k = 24 + i then su else h k
theorem lt8 {P : Nat → Prop} (h0 : P 0) (h1 : P 1) (h2 : P 2) (h3 : P 3) (h4 : P 4) (h5 : P 5) (h6 : P 6) (h7 : P 7) {i : Nat} (hi : i < 8) : P i := by
  match i, hi with
  | 0, _ => exact h0
  | 1, _ => exact h1
  | 2, _ => exact h2
  | 3, _ => exact h3
  | 4, _ => exact h4
  | 5, _ => exact h5
  | 6, _ => exact h6
  | 7, _ => exact h7
  | i + 8, hi => omega
section ROWW
variable {r la : Nat} {bs : Nat → Nat} {cA : ClassId} {n wm df : Int32} {q : UInt64} {wd zs : Nat → Int32} {h : Nat → UInt64}
theorem rowW_b {i : Nat} (hi : i < 8) : (rowW r la bs cA n wm df q wd zs h)[2 + i]? = some (bs i, Bk wd zs h i) :=
  lt8 (P := fun i => (rowW r la bs cA n wm df q wd zs h)[2 + i]? = some (bs i, Bk wd zs h i)) rfl rfl rfl rfl rfl rfl rfl rfl hi
theorem rowW_sh {i : Nat} (hi : i < 8) (li ag ac su : UInt64) : (rowW r la bs cA n wm df q wd zs h).set (2 + i) (bs i, EB (wd i) (zs i) li ag ac su) = rowW r la bs cA n wm df q wd zs (hset h i li ag ac su) :=
  lt8 (P := fun i => (rowW r la bs cA n wm df q wd zs h).set (2 + i) (bs i, EB (wd i) (zs i) li ag ac su) = rowW r la bs cA n wm df q wd zs (hset h i li ag ac su)) (by simp [rowW, hset]) (by simp [rowW, hset]) (by simp [rowW, hset]) (by simp [rowW, hset]) (by simp [rowW, hset]) (by simp [rowW, hset]) (by simp [rowW, hset]) (by simp [rowW, hset]) hi
theorem rowW_sw {i : Nat} (hi : i < 8) (w : Int32) : (rowW r la bs cA n wm df q wd zs h).set (2 + i) (bs i, EB w (zs i) (h i) (h (8 + i)) (h (16 + i)) (h (24 + i))) = rowW r la bs cA n wm df q (va_up wd i w) zs h :=
  lt8 (P := fun i => (rowW r la bs cA n wm df q wd zs h).set (2 + i) (bs i, EB w (zs i) (h i) (h (8 + i)) (h (16 + i)) (h (24 + i))) = rowW r la bs cA n wm df q (va_up wd i w) zs h) (by simp [rowW, va_up]) (by simp [rowW, va_up]) (by simp [rowW, va_up]) (by simp [rowW, va_up]) (by simp [rowW, va_up]) (by simp [rowW, va_up]) (by simp [rowW, va_up]) (by simp [rowW, va_up]) hi
theorem rowW_sz {i : Nat} (hi : i < 8) (z : Int32) : (rowW r la bs cA n wm df q wd zs h).set (2 + i) (bs i, EB (wd i) z (h i) (h (8 + i)) (h (16 + i)) (h (24 + i))) = rowW r la bs cA n wm df q wd (va_up zs i z) h :=
  lt8 (P := fun i => (rowW r la bs cA n wm df q wd zs h).set (2 + i) (bs i, EB (wd i) z (h i) (h (8 + i)) (h (16 + i)) (h (24 + i))) = rowW r la bs cA n wm df q wd (va_up zs i z) h) (by simp [rowW, va_up]) (by simp [rowW, va_up]) (by simp [rowW, va_up]) (by simp [rowW, va_up]) (by simp [rowW, va_up]) (by simp [rowW, va_up]) (by simp [rowW, va_up]) (by simp [rowW, va_up]) hi
end ROWW
