/-! isAsked and isAged, walked (laid by wip/p23/prog/y3.py) -/
theorem leastv_y {h : Nat → UInt64} {k : Nat} (h1 : FP.dcmp (h k) 0 = some .gt) (h2 : FP.dcmp (h (8 + k)) (leastv h k) = some .lt) : h (8 + k) = leastv h (k + 1) := (if_pos ⟨h1, h2⟩).symm
theorem leastv_n {h : Nat → UInt64} {k : Nat} (h1 : ¬ (FP.dcmp (h k) 0 = some .gt ∧ FP.dcmp (h (8 + k)) (leastv h k) = some .lt)) : leastv h k = leastv h (k + 1) := (if_neg h1).symm
theorem mostv_y {h : Nat → UInt64} {k : Nat} (h1 : FP.dcmp (h k) 0 = some .gt) (h2 : FP.dcmp (h (8 + k)) (mostv h k) = some .gt) : h (8 + k) = mostv h (k + 1) := (if_pos ⟨h1, h2⟩).symm
theorem mostv_n {h : Nat → UInt64} {k : Nat} (h1 : ¬ (FP.dcmp (h k) 0 = some .gt ∧ FP.dcmp (h (8 + k)) (mostv h k) = some .gt)) : mostv h k = mostv h (k + 1) := (if_neg h1).symm
theorem encO_some {o : Option Nat} (h : 0 ≤ encO o) : ∃ b, o = some b := by
  cases o with
  | none => exact absurd h (by decide)
  | some b => exact ⟨b, rfl⟩
theorem encO_none {o : Option Nat} (hb : ∀ b, o = some b → b < 8) (h : ¬ 0 ≤ encO o) : o = none := by
  cases o with
  | none => rfl
  | some b => exact absurd (nI_pos' (by have := hb b rfl; omega)) h
abbrev AD8 (cD : ClassId) (f : Nat → UInt64) : va_E := .inl (cD, (8, .inr (.inr (.inr (.inl f)))))
theorem ap_as {a b w3 : va_W} {q : Nat × va_E} : (a ++ (b ++ w3)) ++ [q] = a ++ (b ++ (w3 ++ [q])) := by simp
theorem laP_drop {D : va_G} {cl : List vw_C} {a b w3 : va_W} {q : Nat × va_E} {H : Heap} (h : va_P D cl (a ++ (b ++ (w3 ++ [q]))) H) : va_P D cl (a ++ (b ++ w3)) H := by
  rw [← ap_as] at h
  exact fun k q h1 => h k q (vj_inA h1)
theorem laD_drop {A : Nat → Prop} {a b w3 : va_W} {q : Nat × va_E} (h : va_D A (a ++ (b ++ (w3 ++ [q])))) : va_D A (a ++ (b ++ w3)) := by
  rw [← ap_as] at h
  exact ⟨fun i j p q hi hj e => h.1 i j p q (vj_inA hi) (vj_inA hj) e, fun k q h1 => h.2 k q (vj_inA h1)⟩
/-- what was there, of the first k barrels -/
def hadv (h : Nat → UInt64) (k : Nat) : Nat → UInt64 := fun i => if i < k then h i else 0
theorem hadv_0 {h : Nat → UInt64} : hadv h 0 = fun _ => 0 := by
  funext i
  exact if_neg (Nat.not_lt_zero i)
theorem hadv_s {h : Nat → UInt64} {k : Nat} : vf_upd (hadv h k) k (h k) = hadv h (k + 1) := by
  funext i
  unfold vf_upd hadv
  by_cases h1 : i = k
  · subst h1; rw [if_pos rfl, if_pos (by omega)]
  · rw [if_neg h1]
    by_cases h2 : i < k
    · rw [if_pos h2, if_pos (by omega)]
    · rw [if_neg h2, if_neg (by omega)]
theorem hadv_at {h : Nat → UInt64} {n i : Nat} (hi : i < n) : hadv h n i = h i := if_pos hi
section CUT
variable {p : Program} {l : Launch} {e : Env} {R : Room} {s : State} {m : MethodId} {args : Array Value} {below : List Frame} {meth : Method} {c : Code} {H : Heap} {locs : List Loc} {cells slots : Nat} {Q : State → Prop} {pc : Nat} {ls : Array Slot} {st0 : List Value}
theorem kW_cut (pc2 : Nat) (I : Array Slot → Prop) (ht : ∀ ls, I ls → W p l e R s m args below meth c H locs cells slots Q (F0 m pc2 ls [])) (kk : (∀ ls, I ls → W p l e R s m args below meth c H locs cells slots Q (F0 m pc2 ls [])) → W p l e R s m args below meth c H locs cells slots Q (F0 m pc ls st0)) : W p l e R s m args below meth c H locs cells slots Q (F0 m pc ls st0) := kk ht
end CUT
set_option maxHeartbeats 4000000 in
set_option maxRecDepth 100000 in
/-- isAsked -/
theorem metL_isAsked (l : Launch) (D : va_G) (sz : Nat) (x r t d : Nat) (yg : Int32) (la : Nat) (bs : Nat → Nat) (cA cI : ClassId) (n : Nat) (hn : n ≤ 8) (wm df : Int32) (q : UInt64) (wd zs : Nat → Int32) (h : Nat → UInt64) (lt : Nat) (bt : Nat → Nat) (nt : Nat) (wmt dft : Int32) (qt : UInt64) (wdt zst : Nat → Int32) (ht : Nat → UInt64) (dk : Nat → Int32) (hz0 : ZT n nt wdt zst ht) (hF : askF n wd zs wm h df q) : Met l yL_isAsked wsL_isAsked { frames := 5, cells := 0, slots := 0, locals := 128 } (Pm D [(cA, .object "VinegarLoft$Barrel"), (cI, .int)] [.ref x] ([(x, EX r t d yg)] ++ (rowW r la bs cA (nI n) wm df q wd zs h ++ (rowW t lt bt cA (nI nt) wmt dft qt wdt zst ht ++ [(d, ED cI dk)]))) sz) (va_Qi (fun (r9 : Int32) (u : TRW) => r9 = 1 ∧ ZT n u.1 u.2.2.2.2.1 u.2.2.2.2.2.1 u.2.2.2.2.2.2) (fun u t9 => va_P D vwCl ([(x, EX r t d yg)] ++ (rowW r la bs cA (nI n) wm df q wd zs h ++ (rowW t lt bt cA (nI u.1) u.2.1 u.2.2.1 u.2.2.2.1 u.2.2.2.2.1 u.2.2.2.2.2.1 u.2.2.2.2.2.2 ++ [(d, ED cI dk)]))) t9.heap ∧ va_K D vwCl [(cA, .object "VinegarLoft$Barrel"), (cI, .int)] t9 ∧ va_D (va_A ([(x, EX r t d yg)] ++ (rowW r la bs cA (nI n) wm df q wd zs h ++ (rowW t lt bt cA (nI nt) wmt dft qt wdt zst ht ++ [(d, ED cI dk)]))) sz) ([(x, EX r t d yg)] ++ (rowW r la bs cA (nI n) wm df q wd zs h ++ (rowW t lt bt cA (nI u.1) u.2.1 u.2.2.1 u.2.2.2.1 u.2.2.2.2.1 u.2.2.2.2.2.1 u.2.2.2.2.2.2 ++ [(d, ED cI dk)])))) (va_A ([(x, EX r t d yg)] ++ (rowW r la bs cA (nI n) wm df q wd zs h ++ (rowW t lt bt cA (nI nt) wmt dft qt wdt zst ht ++ [(d, ED cI dk)]))) sz)) 0 0 (va_A ([(x, EX r t d yg)] ++ (rowW r la bs cA (nI n) wm df q wd zs h ++ (rowW t lt bt cA (nI nt) wmt dft qt wdt zst ht ++ [(d, ED cI dk)]))) sz) := by
  refine Met.ofW (cc := cL_isAsked) (maxL := 14) (ret := (some .boolean)) (by decide) rfl ?_
  intro p e s m args below meth c s₁ B hml hv
  obtain ⟨rfl, hsz, hP, hK, hD0⟩ := hv
  have hx := B.exec
  have hb := B.bytes
  have hr := B.returns
  have hts := atoms_spec (ws := wsL_isAsked) B.pre
  have hown : s.vm.findClass RL = some m.cls := findClass_of_methodNamed B.named
  have hlocks := B.notSynchronized
  subst hsz
  have hD := hD0.self (sz := s.heap.size)
  generalize hAe : va_A ([(x, EX r t d yg)] ++ (rowW r la bs cA (nI n) wm df q wd zs h ++ (rowW t lt bt cA (nI nt) wmt dft qt wdt zst ht ++ [(d, ED cI dk)]))) s.heap.size = A at hD ⊢
  have hA : ∀ q : Nat, s.heap.size ≤ q → A q := fun q h => by rw [← hAe]; exact Or.inr h
  refine kW_H (fun H hH => ?_)
  have hP : va_P D vwCl ([(x, EX r t d yg)] ++ (rowW r la bs cA (nI n) wm df q wd zs h ++ (rowW t lt bt cA (nI nt) wmt dft qt wdt zst ht ++ [(d, ED cI dk)]))) H := by rw [hH]; exact hP
  have hS : va_S A s.heap H [] := by rw [hH]; exact va_S.rf
  have hl := lv_entry ([.ref x]) (n := 14) (Nat.le_of_ble_eq_true rfl)
  rw [lg_entry_eq]
  generalize (lg_sl ([.ref x]) ++ List.replicate (14 - (lg_sl ([.ref x])).length) Slot.unset).toArray = ls at hl ⊢
  have hl : lv_has ls 14 [(0, .ref x)] := hl
  obtain ⟨⟨a1, a2, a3, a4, a5, a6, a7, a8⟩, f1, ⟨f2, f3, f4⟩, f5, f6, f7, f8, f9⟩ := hF
  refine lv_aload_n hx hb dL_isAsked_0 rfl (lv_at hl 0 rfl) ?_
  refine kr_d (W.runS (As := [.ref x]) (rest := []) ⟨hx, hb, hml, hown, hts⟩ (metL_litres l D x r t d yg la bs cA cI n hn wm df q wd zs h (rowW t lt bt cA (nI nt) wmt dft qt wdt zst ht ++ [(d, ED cI dk)]) a1) (va_cwS 1 hts gL_isAsked_L_litres rfl rfl rfl (by decide +kernel) ⟨Nat.le_of_ble_eq_true rfl, Nat.le_of_ble_eq_true rfl⟩) (prS (ws := [(x, EX r t d yg)] ++ (rowW r la bs cA (nI n) wm df q wd zs h ++ (rowW t lt bt cA (nI nt) wmt dft qt wdt zst ht ++ [(d, ED cI dk)]))) hP (hK.sub [0, 1] rfl)) rfl rfl hl.1 rfl (lv_room (Nat.le_of_ble_eq_true rfl)) dL_isAsked_1 ⟨Nat.le_of_ble_eq_true rfl, Nat.le_of_ble_eq_true rfl⟩) ?_
  refine lv_dstore_n (lv' := [(1, .double (suL h n)), (0, .ref x)]) hx hb dL_isAsked_4 rfl hl (by decide) rfl (fun ls hl => ?_)
  refine lv_aload_n hx hb dL_isAsked_5 rfl (lv_at hl 1 rfl) ?_
  refine kr_d (W.runV (As := []) (rest := []) ⟨hx, hb, hml, hown, hts⟩ (metX2_meanAge l D x r t d yg la bs cA cI n hn wm df q wd zs h (rowW t lt bt cA (nI nt) wmt dft qt wdt zst ht ++ [(d, ED cI dk)]) a2) (cwV 0 hts gL_isAsked_X2_meanAge rfl rfl rfl (by decide +kernel) ⟨Nat.le_of_ble_eq_true rfl, Nat.le_of_ble_eq_true rfl⟩) (prV 2 0 RX2 TX2 4 rfl rfl (ws := [(x, EX r t d yg)] ++ (rowW r la bs cA (nI n) wm df q wd zs h ++ (rowW t lt bt cA (nI nt) wmt dft qt wdt zst ht ++ [(d, ED cI dk)]))) hP (hK.sub [0, 1] rfl)) rfl rfl hl.1 rfl (lv_room (Nat.le_of_ble_eq_true rfl)) dL_isAsked_6 ⟨Nat.le_of_ble_eq_true rfl, Nat.le_of_ble_eq_true rfl⟩) ?_
  refine lv_dstore_n (lv' := [(3, .double (mnv 8 h n)), (1, .double (suL h n)), (0, .ref x)]) hx hb dL_isAsked_9 rfl hl (by decide) rfl (fun ls hl => ?_)
  refine lv_ldc2d hx hb hown (hts (.constantDouble RL 90 4651998512748167168) (by decide +kernel)) dL_isAsked_10 ?_
  refine lv_dstore (lv' := [(5, .double 4651998512748167168), (3, .double (mnv 8 h n)), (1, .double (suL h n)), (0, .ref x)]) hx hb dL_isAsked_13 hl (by decide) rfl (fun ls hl => ?_)
  refine kd_0 hx hb dL_isAsked_15 ?_
  refine lv_dstore (lv' := [(7, .double 0), (5, .double 4651998512748167168), (3, .double (mnv 8 h n)), (1, .double (suL h n)), (0, .ref x)]) hx hb dL_isAsked_16 hl (by decide) rfl (fun ls hl => ?_)
  refine lv_aload_n hx hb dL_isAsked_18 rfl (lv_at hl 4 rfl) ?_
  refine kr_i (W.runV (As := []) (rest := []) ⟨hx, hb, hml, hown, hts⟩ (metX2_drawable l D x r t d yg la bs cA cI n hn wm df q wd zs h (rowW t lt bt cA (nI nt) wmt dft qt wdt zst ht ++ [(d, ED cI dk)]) a3 a4) (cwV 0 hts gL_isAsked_X2_drawable rfl rfl rfl (by decide +kernel) ⟨Nat.le_of_ble_eq_true rfl, Nat.le_of_ble_eq_true rfl⟩) (prV 2 0 RX2 TX2 4 rfl rfl (ws := [(x, EX r t d yg)] ++ (rowW r la bs cA (nI n) wm df q wd zs h ++ (rowW t lt bt cA (nI nt) wmt dft qt wdt zst ht ++ [(d, ED cI dk)]))) hP (hK.sub [0, 1] rfl)) rfl rfl hl.1 rfl (lv_room (Nat.le_of_ble_eq_true rfl)) dL_isAsked_19 ⟨Nat.le_of_ble_eq_true rfl, Nat.le_of_ble_eq_true rfl⟩) ?_
  refine lv_istore (lv' := [(9, .int (rdv h n df q)), (7, .double 0), (5, .double 4651998512748167168), (3, .double (mnv 8 h n)), (1, .double (suL h n)), (0, .ref x)]) hx hb dL_isAsked_22 hl (by decide) rfl (fun ls hl => ?_)
  refine lv_iconst (v := 0) hx hb dL_isAsked_24 (by decide) ?_
  refine lv_istore (lv' := [(10, .int 0), (9, .int (rdv h n df q)), (7, .double 0), (5, .double 4651998512748167168), (3, .double (mnv 8 h n)), (1, .double (suL h n)), (0, .ref x)]) hx hb dL_isAsked_25 hl (by decide) rfl (fun ls hl => ?_)
  refine kW_upR (n) (fun i ls => lv_has ls 14 [(10, .int (nI i)), (9, .int (rdv h n df q)), (7, .double (mostv h i)), (5, .double (leastv h i)), (3, .double (mnv 8 h n)), (1, .double (suL h n)), (0, .ref x)]) (fun i ls hi hl ih => ?_) (fun ls hl => ?_) (lv_sub hl [0, 1, 2, 3, 4, 5, 6] (rfl))
  · refine lv_iload hx hb dL_isAsked_27 (lv_at hl 0 rfl) ?_
    refine lv_aload_n hx hb dL_isAsked_29 rfl (lv_at hl 6 rfl) ?_
    refine kr_i (W.runV (As := []) (rest := [.int (nI i)]) ⟨hx, hb, hml, hown, hts⟩ (metX2_barrels l D x r t d yg la bs cA cI n hn wm df q wd zs h (rowW t lt bt cA (nI nt) wmt dft qt wdt zst ht ++ [(d, ED cI dk)]) ) (cwV 0 hts gL_isAsked_X2_barrels rfl rfl rfl (by decide +kernel) ⟨Nat.le_of_ble_eq_true rfl, Nat.le_of_ble_eq_true rfl⟩) (prV 2 0 RX2 TX2 4 rfl rfl (ws := [(x, EX r t d yg)] ++ (rowW r la bs cA (nI n) wm df q wd zs h ++ (rowW t lt bt cA (nI nt) wmt dft qt wdt zst ht ++ [(d, ED cI dk)]))) hP (hK.sub [0, 1] rfl)) rfl rfl hl.1 rfl (lv_room (Nat.le_of_ble_eq_true rfl)) dL_isAsked_30 ⟨Nat.le_of_ble_eq_true rfl, Nat.le_of_ble_eq_true rfl⟩) ?_
    refine lv_icmp_ge (tgt := 112) hx hb dL_isAsked_33 (by decide) (fun c33 => (i32_le_nlt c33 (nj_lt hi hn)).elim) (fun c33 => ?_)
    refine lv_aload_n hx hb dL_isAsked_36 rfl (lv_at hl 6 rfl) ?_
    refine lv_iload hx hb dL_isAsked_37 (lv_at hl 0 rfl) ?_
    refine kr_d (W.runV (As := [.int (nI i)]) (rest := []) ⟨hx, hb, hml, hown, hts⟩ (metR_ageOf l D x r t d yg la bs cA cI n hn wm df q wd zs h (rowW t lt bt cA (nI nt) wmt dft qt wdt zst ht ++ [(d, ED cI dk)]) i hi ) (cwV 1 hts gL_isAsked_X2_ageOf rfl rfl rfl (by decide +kernel) ⟨Nat.le_of_ble_eq_true rfl, Nat.le_of_ble_eq_true rfl⟩) (prV 2 0 RX2 TX2 4 rfl rfl (ws := [(x, EX r t d yg)] ++ (rowW r la bs cA (nI n) wm df q wd zs h ++ (rowW t lt bt cA (nI nt) wmt dft qt wdt zst ht ++ [(d, ED cI dk)]))) hP (hK.sub [0, 1] rfl)) rfl rfl hl.1 rfl (lv_room (Nat.le_of_ble_eq_true rfl)) dL_isAsked_39 ⟨Nat.le_of_ble_eq_true rfl, Nat.le_of_ble_eq_true rfl⟩) ?_
    refine lv_dstore (lv' := [(11, .double (h (8 + i))), (10, .int (nI i)), (9, .int (rdv h n df q)), (7, .double (mostv h i)), (5, .double (leastv h i)), (3, .double (mnv 8 h n)), (1, .double (suL h n)), (0, .ref x)]) hx hb dL_isAsked_42 hl (by decide) rfl (fun ls hl => ?_)
    refine lv_aload_n hx hb dL_isAsked_44 rfl (lv_at hl 7 rfl) ?_
    refine lv_iload hx hb dL_isAsked_45 (lv_at hl 1 rfl) ?_
    refine kr_d (W.runV (As := [.int (nI i)]) (rest := []) ⟨hx, hb, hml, hown, hts⟩ (metR_litresIn l D x r t d yg la bs cA cI n hn wm df q wd zs h (rowW t lt bt cA (nI nt) wmt dft qt wdt zst ht ++ [(d, ED cI dk)]) i hi ) (cwV 1 hts gL_isAsked_X2_litresIn rfl rfl rfl (by decide +kernel) ⟨Nat.le_of_ble_eq_true rfl, Nat.le_of_ble_eq_true rfl⟩) (prV 2 0 RX2 TX2 4 rfl rfl (ws := [(x, EX r t d yg)] ++ (rowW r la bs cA (nI n) wm df q wd zs h ++ (rowW t lt bt cA (nI nt) wmt dft qt wdt zst ht ++ [(d, ED cI dk)]))) hP (hK.sub [0, 1] rfl)) rfl rfl hl.1 rfl (lv_room (Nat.le_of_ble_eq_true rfl)) dL_isAsked_47 ⟨Nat.le_of_ble_eq_true rfl, Nat.le_of_ble_eq_true rfl⟩) ?_
    refine kd_0 hx hb dL_isAsked_50 ?_
    refine kd_le (tgt := 59) hx hb dL_isAsked_51 dL_isAsked_52 (by decide) (f1 i hi).1 (fun c51 => ?_) (fun c51 => ?_)
    · refine lv_iconst (v := 0) hx hb dL_isAsked_59 (by decide) ?_
      refine lv_istore (lv' := [(13, .int 0), (11, .double (h (8 + i))), (10, .int (nI i)), (9, .int (rdv h n df q)), (7, .double (mostv h i)), (5, .double (leastv h i)), (3, .double (mnv 8 h n)), (1, .double (suL h n)), (0, .ref x)]) hx hb dL_isAsked_60 hl (by decide) rfl (fun ls hl => ?_)
      refine lv_iload hx hb dL_isAsked_62 (lv_at hl 0 rfl) ?_
      refine lv_if_eq (tgt := 80) hx hb dL_isAsked_64 (by decide) (fun c64 => ?_) (fun c64 => (c64 rfl).elim)
      refine lv_dload hx hb dL_isAsked_80 (lv_at hl 5 rfl) ?_
      refine kd_eq (show (leastv h i) = leastv h (i + 1) from leastv_n (fun h9 => c51 h9.1)) ?_
      refine lv_dstore (lv' := [(5, .double (leastv h (i + 1))), (13, .int 0), (11, .double (h (8 + i))), (10, .int (nI i)), (9, .int (rdv h n df q)), (7, .double (mostv h i)), (3, .double (mnv 8 h n)), (1, .double (suL h n)), (0, .ref x)]) hx hb dL_isAsked_82 hl (by decide) rfl (fun ls hl => ?_)
      refine lv_iload hx hb dL_isAsked_84 (lv_at hl 1 rfl) ?_
      refine lv_if_eq (tgt := 102) hx hb dL_isAsked_86 (by decide) (fun c86 => ?_) (fun c86 => (c86 rfl).elim)
      refine lv_dload hx hb dL_isAsked_102 (lv_at hl 5 rfl) ?_
      refine kd_eq (show (mostv h i) = mostv h (i + 1) from mostv_n (fun h9 => c51 h9.1)) ?_
      refine lv_dstore (lv' := [(7, .double (mostv h (i + 1))), (5, .double (leastv h (i + 1))), (13, .int 0), (11, .double (h (8 + i))), (10, .int (nI i)), (9, .int (rdv h n df q)), (3, .double (mnv 8 h n)), (1, .double (suL h n)), (0, .ref x)]) hx hb dL_isAsked_104 hl (by decide) rfl (fun ls hl => ?_)
      refine lv_iinc (v := nI (i + 1)) (lv' := [(10, .int (nI (i + 1))), (7, .double (mostv h (i + 1))), (5, .double (leastv h (i + 1))), (13, .int 0), (11, .double (h (8 + i))), (9, .int (rdv h n df q)), (3, .double (mnv 8 h n)), (1, .double (suL h n)), (0, .ref x)]) hx hb dL_isAsked_106 hl (k := 4) rfl (nI_1 i) (by decide) rfl (fun ls hl => ?_)
      refine lv_goto (tgt := 27) hx hb dL_isAsked_109 (by decide) ?_
      exact ih ls (lv_sub hl [0, 5, 1, 2, 6, 7, 8] (rfl))
    · refine lv_iconst (v := 1) hx hb dL_isAsked_55 (by decide) ?_
      refine lv_goto (tgt := 60) hx hb dL_isAsked_56 (by decide) ?_
      refine lv_istore (lv' := [(13, .int 1), (11, .double (h (8 + i))), (10, .int (nI i)), (9, .int (rdv h n df q)), (7, .double (mostv h i)), (5, .double (leastv h i)), (3, .double (mnv 8 h n)), (1, .double (suL h n)), (0, .ref x)]) hx hb dL_isAsked_60 hl (by decide) rfl (fun ls hl => ?_)
      refine lv_iload hx hb dL_isAsked_62 (lv_at hl 0 rfl) ?_
      refine lv_if_eq (tgt := 80) hx hb dL_isAsked_64 (by decide) (fun c64 => (i32_n1 c64).elim) (fun c64 => ?_)
      refine lv_dload hx hb dL_isAsked_67 (lv_at hl 1 rfl) ?_
      refine lv_dload hx hb dL_isAsked_69 (lv_at hl 5 rfl) ?_
      refine kd_ge (tgt := 80) hx hb dL_isAsked_71 dL_isAsked_72 (by decide) (f1 i hi).2.1 (fun c71 => ?_) (fun c71 => ?_)
      · refine lv_dload hx hb dL_isAsked_80 (lv_at hl 5 rfl) ?_
        refine kd_eq (show (leastv h i) = leastv h (i + 1) from leastv_n (fun h9 => c71 h9.2)) ?_
        refine lv_dstore (lv' := [(5, .double (leastv h (i + 1))), (13, .int 1), (11, .double (h (8 + i))), (10, .int (nI i)), (9, .int (rdv h n df q)), (7, .double (mostv h i)), (3, .double (mnv 8 h n)), (1, .double (suL h n)), (0, .ref x)]) hx hb dL_isAsked_82 hl (by decide) rfl (fun ls hl => ?_)
        refine lv_iload hx hb dL_isAsked_84 (lv_at hl 1 rfl) ?_
        refine lv_if_eq (tgt := 102) hx hb dL_isAsked_86 (by decide) (fun c86 => (i32_n1 c86).elim) (fun c86 => ?_)
        refine lv_dload hx hb dL_isAsked_89 (lv_at hl 2 rfl) ?_
        refine lv_dload hx hb dL_isAsked_91 (lv_at hl 5 rfl) ?_
        refine kd_le (tgt := 102) hx hb dL_isAsked_93 dL_isAsked_94 (by decide) (f1 i hi).2.2 (fun c93 => ?_) (fun c93 => ?_)
        · refine lv_dload hx hb dL_isAsked_102 (lv_at hl 5 rfl) ?_
          refine kd_eq (show (mostv h i) = mostv h (i + 1) from mostv_n (fun h9 => c93 h9.2)) ?_
          refine lv_dstore (lv' := [(7, .double (mostv h (i + 1))), (5, .double (leastv h (i + 1))), (13, .int 1), (11, .double (h (8 + i))), (10, .int (nI i)), (9, .int (rdv h n df q)), (3, .double (mnv 8 h n)), (1, .double (suL h n)), (0, .ref x)]) hx hb dL_isAsked_104 hl (by decide) rfl (fun ls hl => ?_)
          refine lv_iinc (v := nI (i + 1)) (lv' := [(10, .int (nI (i + 1))), (7, .double (mostv h (i + 1))), (5, .double (leastv h (i + 1))), (13, .int 1), (11, .double (h (8 + i))), (9, .int (rdv h n df q)), (3, .double (mnv 8 h n)), (1, .double (suL h n)), (0, .ref x)]) hx hb dL_isAsked_106 hl (k := 4) rfl (nI_1 i) (by decide) rfl (fun ls hl => ?_)
          refine lv_goto (tgt := 27) hx hb dL_isAsked_109 (by decide) ?_
          exact ih ls (lv_sub hl [0, 5, 1, 2, 6, 7, 8] (rfl))
        · refine lv_dload hx hb dL_isAsked_97 (lv_at hl 2 rfl) ?_
          refine lv_goto (tgt := 104) hx hb dL_isAsked_99 (by decide) ?_
          refine kd_eq (show (h (8 + i)) = mostv h (i + 1) from mostv_y c51 c93) ?_
          refine lv_dstore (lv' := [(7, .double (mostv h (i + 1))), (5, .double (leastv h (i + 1))), (13, .int 1), (11, .double (h (8 + i))), (10, .int (nI i)), (9, .int (rdv h n df q)), (3, .double (mnv 8 h n)), (1, .double (suL h n)), (0, .ref x)]) hx hb dL_isAsked_104 hl (by decide) rfl (fun ls hl => ?_)
          refine lv_iinc (v := nI (i + 1)) (lv' := [(10, .int (nI (i + 1))), (7, .double (mostv h (i + 1))), (5, .double (leastv h (i + 1))), (13, .int 1), (11, .double (h (8 + i))), (9, .int (rdv h n df q)), (3, .double (mnv 8 h n)), (1, .double (suL h n)), (0, .ref x)]) hx hb dL_isAsked_106 hl (k := 4) rfl (nI_1 i) (by decide) rfl (fun ls hl => ?_)
          refine lv_goto (tgt := 27) hx hb dL_isAsked_109 (by decide) ?_
          exact ih ls (lv_sub hl [0, 5, 1, 2, 6, 7, 8] (rfl))
      · refine lv_dload hx hb dL_isAsked_75 (lv_at hl 1 rfl) ?_
        refine lv_goto (tgt := 82) hx hb dL_isAsked_77 (by decide) ?_
        refine kd_eq (show (h (8 + i)) = leastv h (i + 1) from leastv_y c51 c71) ?_
        refine lv_dstore (lv' := [(5, .double (leastv h (i + 1))), (13, .int 1), (11, .double (h (8 + i))), (10, .int (nI i)), (9, .int (rdv h n df q)), (7, .double (mostv h i)), (3, .double (mnv 8 h n)), (1, .double (suL h n)), (0, .ref x)]) hx hb dL_isAsked_82 hl (by decide) rfl (fun ls hl => ?_)
        refine lv_iload hx hb dL_isAsked_84 (lv_at hl 1 rfl) ?_
        refine lv_if_eq (tgt := 102) hx hb dL_isAsked_86 (by decide) (fun c86 => (i32_n1 c86).elim) (fun c86 => ?_)
        refine lv_dload hx hb dL_isAsked_89 (lv_at hl 2 rfl) ?_
        refine lv_dload hx hb dL_isAsked_91 (lv_at hl 5 rfl) ?_
        refine kd_le (tgt := 102) hx hb dL_isAsked_93 dL_isAsked_94 (by decide) (f1 i hi).2.2 (fun c93 => ?_) (fun c93 => ?_)
        · refine lv_dload hx hb dL_isAsked_102 (lv_at hl 5 rfl) ?_
          refine kd_eq (show (mostv h i) = mostv h (i + 1) from mostv_n (fun h9 => c93 h9.2)) ?_
          refine lv_dstore (lv' := [(7, .double (mostv h (i + 1))), (5, .double (leastv h (i + 1))), (13, .int 1), (11, .double (h (8 + i))), (10, .int (nI i)), (9, .int (rdv h n df q)), (3, .double (mnv 8 h n)), (1, .double (suL h n)), (0, .ref x)]) hx hb dL_isAsked_104 hl (by decide) rfl (fun ls hl => ?_)
          refine lv_iinc (v := nI (i + 1)) (lv' := [(10, .int (nI (i + 1))), (7, .double (mostv h (i + 1))), (5, .double (leastv h (i + 1))), (13, .int 1), (11, .double (h (8 + i))), (9, .int (rdv h n df q)), (3, .double (mnv 8 h n)), (1, .double (suL h n)), (0, .ref x)]) hx hb dL_isAsked_106 hl (k := 4) rfl (nI_1 i) (by decide) rfl (fun ls hl => ?_)
          refine lv_goto (tgt := 27) hx hb dL_isAsked_109 (by decide) ?_
          exact ih ls (lv_sub hl [0, 5, 1, 2, 6, 7, 8] (rfl))
        · refine lv_dload hx hb dL_isAsked_97 (lv_at hl 2 rfl) ?_
          refine lv_goto (tgt := 104) hx hb dL_isAsked_99 (by decide) ?_
          refine kd_eq (show (h (8 + i)) = mostv h (i + 1) from mostv_y c51 c93) ?_
          refine lv_dstore (lv' := [(7, .double (mostv h (i + 1))), (5, .double (leastv h (i + 1))), (13, .int 1), (11, .double (h (8 + i))), (10, .int (nI i)), (9, .int (rdv h n df q)), (3, .double (mnv 8 h n)), (1, .double (suL h n)), (0, .ref x)]) hx hb dL_isAsked_104 hl (by decide) rfl (fun ls hl => ?_)
          refine lv_iinc (v := nI (i + 1)) (lv' := [(10, .int (nI (i + 1))), (7, .double (mostv h (i + 1))), (5, .double (leastv h (i + 1))), (13, .int 1), (11, .double (h (8 + i))), (9, .int (rdv h n df q)), (3, .double (mnv 8 h n)), (1, .double (suL h n)), (0, .ref x)]) hx hb dL_isAsked_106 hl (k := 4) rfl (nI_1 i) (by decide) rfl (fun ls hl => ?_)
          refine lv_goto (tgt := 27) hx hb dL_isAsked_109 (by decide) ?_
          exact ih ls (lv_sub hl [0, 5, 1, 2, 6, 7, 8] (rfl))
  · refine lv_iload hx hb dL_isAsked_27 (lv_at hl 0 rfl) ?_
    refine lv_aload_n hx hb dL_isAsked_29 rfl (lv_at hl 6 rfl) ?_
    refine kr_i (W.runV (As := []) (rest := [.int (nI n)]) ⟨hx, hb, hml, hown, hts⟩ (metX2_barrels l D x r t d yg la bs cA cI n hn wm df q wd zs h (rowW t lt bt cA (nI nt) wmt dft qt wdt zst ht ++ [(d, ED cI dk)]) ) (cwV 0 hts gL_isAsked_X2_barrels rfl rfl rfl (by decide +kernel) ⟨Nat.le_of_ble_eq_true rfl, Nat.le_of_ble_eq_true rfl⟩) (prV 2 0 RX2 TX2 4 rfl rfl (ws := [(x, EX r t d yg)] ++ (rowW r la bs cA (nI n) wm df q wd zs h ++ (rowW t lt bt cA (nI nt) wmt dft qt wdt zst ht ++ [(d, ED cI dk)]))) hP (hK.sub [0, 1] rfl)) rfl rfl hl.1 rfl (lv_room (Nat.le_of_ble_eq_true rfl)) dL_isAsked_30 ⟨Nat.le_of_ble_eq_true rfl, Nat.le_of_ble_eq_true rfl⟩) ?_
    refine lv_icmp_ge (tgt := 112) hx hb dL_isAsked_33 (by decide) (fun c33 => ?_) (fun c33 => (c33 (Int32.le_refl _)).elim)
    refine lv_aload_n hx hb dL_isAsked_112 rfl (lv_at hl 6 rfl) ?_
    refine kJ_i (w1 := []) (w2 := [(x, EX r t d yg)] ++ (rowW r la bs cA (nI n) wm df q wd zs h ++ (rowW t lt bt cA (nI nt) wmt dft qt wdt zst ht ++ [(d, ED cI dk)]))) (w3 := []) (va_runV (As := []) (rest := []) ⟨hx, hb, hml, hown, hts⟩ (metX2_firstBottleIn l D H.size x r t d yg la bs cA cI n hn wm df q wd zs h lt bt nt wmt dft qt wdt zst ht dk a3 a4 a5 hz0 a6 a7 a8) (cwV 0 hts gL_isAsked_X2_firstBottleIn rfl rfl rfl (by decide +kernel) ⟨Nat.le_of_ble_eq_true rfl, Nat.le_of_ble_eq_true rfl⟩) (pmV 2 0 RX2 TX2 4 rfl rfl hP (hK.sub [0, 1] rfl) hD) rfl rfl hl.1 rfl (lv_room (Nat.le_of_ble_eq_true rfl)) dL_isAsked_113 ⟨Nat.le_of_ble_eq_true rfl, Nat.le_of_ble_eq_true rfl⟩) (by rw [List.nil_append, List.append_nil]; exact hP) (by rw [List.nil_append, List.append_nil]; exact hD) hS hA (fun r9 u H locs hr9 hP hD hS => ?_)
    rw [List.nil_append, List.append_nil] at hP hD
    obtain ⟨e9, hz9⟩ := hr9
    subst e9
    have hP : va_P D vwCl ([(x, EX r t d yg)] ++ (rowW r la bs cA (nI n) wm df q wd zs h ++ (rowW t lt bt cA (nI u.1) u.2.1 u.2.2.1 u.2.2.2.1 u.2.2.2.2.1 u.2.2.2.2.2.1 u.2.2.2.2.2.2 ++ [(d, ED cI dk)]))) H := hP
    have hD : va_D A ([(x, EX r t d yg)] ++ (rowW r la bs cA (nI n) wm df q wd zs h ++ (rowW t lt bt cA (nI u.1) u.2.1 u.2.2.1 u.2.2.2.1 u.2.2.2.2.1 u.2.2.2.2.2.1 u.2.2.2.2.2.2 ++ [(d, ED cI dk)]))) := hD
    refine lv_istore (lv' := [(10, .int (fbv wd zs wm n h df q)), (9, .int (rdv h n df q)), (7, .double (mostv h n)), (5, .double (leastv h n)), (3, .double (mnv 8 h n)), (1, .double (suL h n)), (0, .ref x)]) hx hb dL_isAsked_116 hl (by decide) rfl (fun ls hl => ?_)
    refine lv_aload_n hx hb dL_isAsked_118 rfl (lv_at hl 6 rfl) ?_
    refine kr_i (W.runV (As := []) (rest := []) ⟨hx, hb, hml, hown, hts⟩ (metX2_oldest l D x r t d yg la bs cA cI n hn wm df q wd zs h (rowW t lt bt cA (nI u.1) u.2.1 u.2.2.1 u.2.2.2.1 u.2.2.2.2.1 u.2.2.2.2.2.1 u.2.2.2.2.2.2 ++ [(d, ED cI dk)]) a3) (cwV 0 hts gL_isAsked_X2_oldest rfl rfl rfl (by decide +kernel) ⟨Nat.le_of_ble_eq_true rfl, Nat.le_of_ble_eq_true rfl⟩) (prV 2 0 RX2 TX2 4 rfl rfl (ws := [(x, EX r t d yg)] ++ (rowW r la bs cA (nI n) wm df q wd zs h ++ (rowW t lt bt cA (nI u.1) u.2.1 u.2.2.1 u.2.2.2.1 u.2.2.2.2.1 u.2.2.2.2.2.1 u.2.2.2.2.2.2 ++ [(d, ED cI dk)]))) hP (hK.sub [0, 1] rfl)) rfl rfl hl.1 rfl (lv_room (Nat.le_of_ble_eq_true rfl)) dL_isAsked_119 ⟨Nat.le_of_ble_eq_true rfl, Nat.le_of_ble_eq_true rfl⟩) ?_
    refine lv_istore (lv' := [(11, .int (encO (elO h n))), (10, .int (fbv wd zs wm n h df q)), (9, .int (rdv h n df q)), (7, .double (mostv h n)), (5, .double (leastv h n)), (3, .double (mnv 8 h n)), (1, .double (suL h n)), (0, .ref x)]) hx hb dL_isAsked_122 hl (by decide) rfl (fun ls hl => ?_)
    refine lv_iload hx hb dL_isAsked_124 (lv_at hl 1 rfl) ?_
    refine lv_iconst (v := (-1)) hx hb dL_isAsked_126 (by decide) ?_
    refine lv_icmp_lt (tgt := 246) hx hb dL_isAsked_127 (by decide) (fun c127 => (f2 c127).elim) (fun c127 => ?_)
    refine lv_iload hx hb dL_isAsked_130 (lv_at hl 1 rfl) ?_
    refine lv_bipush (v := 60) hx hb dL_isAsked_132 (by decide) ?_
    refine lv_icmp_gt (tgt := 246) hx hb dL_isAsked_134 (by decide) (fun c134 => (f3 c134).elim) (fun c134 => ?_)
    refine kW_cut 160 (fun ls => lv_has ls 14 [(11, .int (encO (elO h n))), (10, .int (fbv wd zs wm n h df q)), (9, .int (rdv h n df q)), (7, .double (mostv h n)), (5, .double (leastv h n)), (3, .double (mnv 8 h n)), (1, .double (suL h n)), (0, .ref x)]) (fun ls hl => ?_) (fun tl => ?_)
    · refine lv_aload_n hx hb dL_isAsked_160 rfl (lv_at hl 7 rfl) ?_
      refine kr_d (W.runS (As := [.ref x]) (rest := []) ⟨hx, hb, hml, hown, hts⟩ (metL_litres l D x r t d yg la bs cA cI n hn wm df q wd zs h (rowW t lt bt cA (nI u.1) u.2.1 u.2.2.1 u.2.2.2.1 u.2.2.2.2.1 u.2.2.2.2.2.1 u.2.2.2.2.2.2 ++ [(d, ED cI dk)]) a1) (va_cwS 1 hts gL_isAsked_L_litres rfl rfl rfl (by decide +kernel) ⟨Nat.le_of_ble_eq_true rfl, Nat.le_of_ble_eq_true rfl⟩) (prS (ws := [(x, EX r t d yg)] ++ (rowW r la bs cA (nI n) wm df q wd zs h ++ (rowW t lt bt cA (nI u.1) u.2.1 u.2.2.1 u.2.2.2.1 u.2.2.2.2.1 u.2.2.2.2.2.1 u.2.2.2.2.2.2 ++ [(d, ED cI dk)]))) hP (hK.sub [0, 1] rfl)) rfl rfl hl.1 rfl (lv_room (Nat.le_of_ble_eq_true rfl)) dL_isAsked_161 ⟨Nat.le_of_ble_eq_true rfl, Nat.le_of_ble_eq_true rfl⟩) ?_
      refine lv_dload_n hx hb dL_isAsked_164 rfl (lv_at hl 6 rfl) ?_
      refine kd_zne (tgt := 246) hx hb dL_isAsked_165 dL_isAsked_166 (by decide) (eq_ne f5) (fun c165 => (c165 f5).elim) (fun c165 => ?_)
      refine lv_aload_n hx hb dL_isAsked_169 rfl (lv_at hl 7 rfl) ?_
      refine kr_d (W.runV (As := []) (rest := []) ⟨hx, hb, hml, hown, hts⟩ (metX2_meanAge l D x r t d yg la bs cA cI n hn wm df q wd zs h (rowW t lt bt cA (nI u.1) u.2.1 u.2.2.1 u.2.2.2.1 u.2.2.2.2.1 u.2.2.2.2.2.1 u.2.2.2.2.2.2 ++ [(d, ED cI dk)]) a2) (cwV 0 hts gL_isAsked_X2_meanAge rfl rfl rfl (by decide +kernel) ⟨Nat.le_of_ble_eq_true rfl, Nat.le_of_ble_eq_true rfl⟩) (prV 2 0 RX2 TX2 4 rfl rfl (ws := [(x, EX r t d yg)] ++ (rowW r la bs cA (nI n) wm df q wd zs h ++ (rowW t lt bt cA (nI u.1) u.2.1 u.2.2.1 u.2.2.2.1 u.2.2.2.2.1 u.2.2.2.2.2.1 u.2.2.2.2.2.2 ++ [(d, ED cI dk)]))) hP (hK.sub [0, 1] rfl)) rfl rfl hl.1 rfl (lv_room (Nat.le_of_ble_eq_true rfl)) dL_isAsked_170 ⟨Nat.le_of_ble_eq_true rfl, Nat.le_of_ble_eq_true rfl⟩) ?_
      refine lv_dload_n hx hb dL_isAsked_173 rfl (lv_at hl 5 rfl) ?_
      refine kd_zne (tgt := 246) hx hb dL_isAsked_174 dL_isAsked_175 (by decide) (eq_ne f6) (fun c174 => (c174 f6).elim) (fun c174 => ?_)
      refine lv_aload_n hx hb dL_isAsked_178 rfl (lv_at hl 7 rfl) ?_
      refine kr_i (W.runV (As := []) (rest := []) ⟨hx, hb, hml, hown, hts⟩ (metX2_drawable l D x r t d yg la bs cA cI n hn wm df q wd zs h (rowW t lt bt cA (nI u.1) u.2.1 u.2.2.1 u.2.2.2.1 u.2.2.2.2.1 u.2.2.2.2.2.1 u.2.2.2.2.2.2 ++ [(d, ED cI dk)]) a3 a4) (cwV 0 hts gL_isAsked_X2_drawable rfl rfl rfl (by decide +kernel) ⟨Nat.le_of_ble_eq_true rfl, Nat.le_of_ble_eq_true rfl⟩) (prV 2 0 RX2 TX2 4 rfl rfl (ws := [(x, EX r t d yg)] ++ (rowW r la bs cA (nI n) wm df q wd zs h ++ (rowW t lt bt cA (nI u.1) u.2.1 u.2.2.1 u.2.2.2.1 u.2.2.2.2.1 u.2.2.2.2.2.1 u.2.2.2.2.2.2 ++ [(d, ED cI dk)]))) hP (hK.sub [0, 1] rfl)) rfl rfl hl.1 rfl (lv_room (Nat.le_of_ble_eq_true rfl)) dL_isAsked_179 ⟨Nat.le_of_ble_eq_true rfl, Nat.le_of_ble_eq_true rfl⟩) ?_
      refine lv_iload hx hb dL_isAsked_182 (lv_at hl 2 rfl) ?_
      refine lv_icmp_ne (tgt := 246) hx hb dL_isAsked_184 (by decide) (fun c184 => (c184 rfl).elim) (fun c184 => ?_)
      refine lv_dload_n hx hb dL_isAsked_187 rfl (lv_at hl 6 rfl) ?_
      refine kd_0 hx hb dL_isAsked_188 ?_
      refine kd_zne (tgt := 208) hx hb dL_isAsked_189 dL_isAsked_190 (by decide) f7 (fun c189 => ?_) (fun c189 => ?_)
      · refine lv_dload_n hx hb dL_isAsked_208 rfl (lv_at hl 5 rfl) ?_
        refine lv_dload hx hb dL_isAsked_209 (lv_at hl 4 rfl) ?_
        refine lv_ldc2d hx hb hown (hts (.constantDouble RL 8 4517329193108106637) (by decide +kernel)) dL_isAsked_211 ?_
        refine lv_dsub hx hb dL_isAsked_214 (f9 c189).1 ?_
        refine kd_le (tgt := 246) hx hb dL_isAsked_215 dL_isAsked_216 (by decide) (gt_ne (f9 c189).2.1) (fun c215 => (c215 (f9 c189).2.1).elim) (fun c215 => ?_)
        refine lv_dload_n hx hb dL_isAsked_219 rfl (lv_at hl 5 rfl) ?_
        refine lv_dload hx hb dL_isAsked_220 (lv_at hl 3 rfl) ?_
        refine lv_ldc2d hx hb hown (hts (.constantDouble RL 8 4517329193108106637) (by decide +kernel)) dL_isAsked_222 ?_
        refine lv_dadd hx hb dL_isAsked_225 (f9 c189).2.2.1 ?_
        refine kd_ge (tgt := 246) hx hb dL_isAsked_226 dL_isAsked_227 (by decide) (lt_ne (f9 c189).2.2.2.1) (fun c226 => (c226 (f9 c189).2.2.2.1).elim) (fun c226 => ?_)
        refine lv_aload_n hx hb dL_isAsked_230 rfl (lv_at hl 7 rfl) ?_
        refine lv_iload hx hb dL_isAsked_231 (lv_at hl 0 rfl) ?_
        obtain ⟨b, hb1, hb2, hb3⟩ := (f9 c189).2.2.2.2
        refine ki_eq (show (encO (elO h n)) = nI b from by rw [hb1]; rfl) ?_
        refine kr_d (W.runV (As := [.int (nI b)]) (rest := []) ⟨hx, hb, hml, hown, hts⟩ (metR_ageOf l D x r t d yg la bs cA cI n hn wm df q wd zs h (rowW t lt bt cA (nI u.1) u.2.1 u.2.2.1 u.2.2.2.1 u.2.2.2.2.1 u.2.2.2.2.2.1 u.2.2.2.2.2.2 ++ [(d, ED cI dk)]) b hb2 ) (cwV 1 hts gL_isAsked_X2_ageOf rfl rfl rfl (by decide +kernel) ⟨Nat.le_of_ble_eq_true rfl, Nat.le_of_ble_eq_true rfl⟩) (prV 2 0 RX2 TX2 4 rfl rfl (ws := [(x, EX r t d yg)] ++ (rowW r la bs cA (nI n) wm df q wd zs h ++ (rowW t lt bt cA (nI u.1) u.2.1 u.2.2.1 u.2.2.2.1 u.2.2.2.2.1 u.2.2.2.2.2.1 u.2.2.2.2.2.2 ++ [(d, ED cI dk)]))) hP (hK.sub [0, 1] rfl)) rfl rfl hl.1 rfl (lv_room (Nat.le_of_ble_eq_true rfl)) dL_isAsked_233 ⟨Nat.le_of_ble_eq_true rfl, Nat.le_of_ble_eq_true rfl⟩) ?_
        refine lv_dload hx hb dL_isAsked_236 (lv_at hl 3 rfl) ?_
        refine kd_zne (tgt := 246) hx hb dL_isAsked_238 dL_isAsked_239 (by decide) (eq_ne hb3) (fun c238 => (c238 hb3).elim) (fun c238 => ?_)
        refine lv_iconst (v := 1) hx hb dL_isAsked_242 (by decide) ?_
        refine lv_goto (tgt := 247) hx hb dL_isAsked_243 (by decide) ?_
        have hP : va_P D vwCl ([(x, EX r t d yg)] ++ (rowW r la bs cA (nI n) wm df q wd zs h ++ (rowW t lt bt cA (nI u.1) u.2.1 u.2.2.1 u.2.2.2.1 u.2.2.2.2.1 u.2.2.2.2.2.1 u.2.2.2.2.2.2 ++ [(d, ED cI dk)]))) H := hP
        have hD : va_D A ([(x, EX r t d yg)] ++ (rowW r la bs cA (nI n) wm df q wd zs h ++ (rowW t lt bt cA (nI u.1) u.2.1 u.2.2.1 u.2.2.2.1 u.2.2.2.2.1 u.2.2.2.2.2.1 u.2.2.2.2.2.2 ++ [(d, ED cI dk)]))) := hD
        exact W.zret hx hb hr (by first | rfl | decide) (fun t9 ht9 hW => ⟨⟨_, u, rfl, ⟨rfl, hz9⟩, by rw [ht9]; exact hP, va_K.moved hW.alike hK, hD⟩, hS.F ht9⟩) hS.2.2 dL_isAsked_247
      · refine lv_dload_n hx hb dL_isAsked_193 rfl (lv_at hl 5 rfl) ?_
        refine kd_0 hx hb dL_isAsked_194 ?_
        refine kd_zne (tgt := 246) hx hb dL_isAsked_195 dL_isAsked_196 (by decide) (eq_ne (f8 c189).1) (fun c195 => (c195 (f8 c189).1).elim) (fun c195 => ?_)
        refine lv_iload hx hb dL_isAsked_199 (lv_at hl 0 rfl) ?_
        refine lv_iconst (v := (-1)) hx hb dL_isAsked_201 (by decide) ?_
        refine lv_icmp_ne (tgt := 246) hx hb dL_isAsked_202 (by decide) (fun c202 => (c202 (by rw [(f8 c189).2]; rfl)).elim) (fun c202 => ?_)
        refine lv_goto (tgt := 242) hx hb dL_isAsked_205 (by decide) ?_
        refine lv_iconst (v := 1) hx hb dL_isAsked_242 (by decide) ?_
        refine lv_goto (tgt := 247) hx hb dL_isAsked_243 (by decide) ?_
        have hP : va_P D vwCl ([(x, EX r t d yg)] ++ (rowW r la bs cA (nI n) wm df q wd zs h ++ (rowW t lt bt cA (nI u.1) u.2.1 u.2.2.1 u.2.2.2.1 u.2.2.2.2.1 u.2.2.2.2.2.1 u.2.2.2.2.2.2 ++ [(d, ED cI dk)]))) H := hP
        have hD : va_D A ([(x, EX r t d yg)] ++ (rowW r la bs cA (nI n) wm df q wd zs h ++ (rowW t lt bt cA (nI u.1) u.2.1 u.2.2.1 u.2.2.2.1 u.2.2.2.2.1 u.2.2.2.2.2.1 u.2.2.2.2.2.2 ++ [(d, ED cI dk)]))) := hD
        exact W.zret hx hb hr (by first | rfl | decide) (fun t9 ht9 hW => ⟨⟨_, u, rfl, ⟨rfl, hz9⟩, by rw [ht9]; exact hP, va_K.moved hW.alike hK, hD⟩, hS.F ht9⟩) hS.2.2 dL_isAsked_247
    · refine lv_iload hx hb dL_isAsked_137 (lv_at hl 1 rfl) ?_
      refine lv_if_ne (tgt := 146) hx hb dL_isAsked_139 (by decide) (fun c139 => ?_) (fun c139 => ?_)
      · refine lv_iconst (v := 0) hx hb dL_isAsked_146 (by decide) ?_
        refine lv_iload hx hb dL_isAsked_147 (lv_at hl 2 rfl) ?_
        refine lv_if_le (tgt := 156) hx hb dL_isAsked_149 (by decide) (fun c149 => ?_) (fun c149 => (c139 (f4.mpr (i32_pos c149))).elim)
        refine lv_iconst (v := 0) hx hb dL_isAsked_156 (by decide) ?_
        refine lv_icmp_ne (tgt := 246) hx hb dL_isAsked_157 (by decide) (fun c157 => (c157 rfl).elim) (fun c157 => ?_)
        exact tl ls (lv_sub hl [0, 1, 2, 3, 4, 5, 6, 7] (rfl))
      · refine lv_iconst (v := 1) hx hb dL_isAsked_142 (by decide) ?_
        refine lv_goto (tgt := 147) hx hb dL_isAsked_143 (by decide) ?_
        refine lv_iload hx hb dL_isAsked_147 (lv_at hl 2 rfl) ?_
        refine lv_if_le (tgt := 156) hx hb dL_isAsked_149 (by decide) (fun c149 => (i32_nlt c149 (f4.mp c139)).elim) (fun c149 => ?_)
        refine lv_iconst (v := 1) hx hb dL_isAsked_152 (by decide) ?_
        refine lv_goto (tgt := 157) hx hb dL_isAsked_153 (by decide) ?_
        refine lv_icmp_ne (tgt := 246) hx hb dL_isAsked_157 (by decide) (fun c157 => (c157 rfl).elim) (fun c157 => ?_)
        exact tl ls (lv_sub hl [0, 1, 2, 3, 4, 5, 6, 7] (rfl))

set_option maxHeartbeats 4000000 in
set_option maxRecDepth 100000 in
/-- isAged -/
theorem metL_isAged (l : Launch) (D : va_G) (sz : Nat) (x r t d : Nat) (yg : Int32) (la : Nat) (bs : Nat → Nat) (cA cI : ClassId) (n : Nat) (hn : n ≤ 8) (wm df : Int32) (q : UInt64) (wd zs : Nat → Int32) (h : Nat → UInt64) (w3 : va_W) (hF : ageF n wd wm yg h) : Met l yL_isAged wsL_isAged { frames := 5, cells := 1, slots := 8, locals := 115 } (Pm D [(cA, .object "VinegarLoft$Barrel"), (cI, .int)] [.ref x] ([(x, EX r t d yg)] ++ (rowW r la bs cA (nI n) wm df q wd zs h ++ w3)) sz) (va_Qi (fun (r9 : Int32) (_ : Unit) => r9 = 1) (Bm D [(cA, .object "VinegarLoft$Barrel"), (cI, .int)] (va_A ([(x, EX r t d yg)] ++ (rowW r la bs cA (nI n) wm df q wd zs h ++ w3)) sz) ([(x, EX r t d (yg + 1))] ++ (rowW r la bs cA (nI n) wm (encO (elO (agH wd (drv wm) h n) n)) (quv (agH wd (drv wm) h n) (elO (agH wd (drv wm) h n) n)) wd zs (agH wd (drv wm) h n) ++ w3))) (va_A ([(x, EX r t d yg)] ++ (rowW r la bs cA (nI n) wm df q wd zs h ++ w3)) sz)) 1 8 (va_A ([(x, EX r t d yg)] ++ (rowW r la bs cA (nI n) wm df q wd zs h ++ w3)) sz) := by
  refine Met.ofW (cc := cL_isAged) (maxL := 13) (ret := (some .boolean)) (by decide) rfl ?_
  intro p e s m args below meth c s₁ B hml hv
  obtain ⟨rfl, hsz, hP, hK, hD0⟩ := hv
  have hx := B.exec
  have hb := B.bytes
  have hr := B.returns
  have hts := atoms_spec (ws := wsL_isAged) B.pre
  have hown : s.vm.findClass RL = some m.cls := findClass_of_methodNamed B.named
  have hlocks := B.notSynchronized
  subst hsz
  have hD := hD0.self (sz := s.heap.size)
  generalize hAe : va_A ([(x, EX r t d yg)] ++ (rowW r la bs cA (nI n) wm df q wd zs h ++ w3)) s.heap.size = A at hD ⊢
  have hA : ∀ q : Nat, s.heap.size ≤ q → A q := fun q h => by rw [← hAe]; exact Or.inr h
  refine kW_H (fun H hH => ?_)
  have hP : va_P D vwCl ([(x, EX r t d yg)] ++ (rowW r la bs cA (nI n) wm df q wd zs h ++ w3)) H := by rw [hH]; exact hP
  have hS : va_S A s.heap H [] := by rw [hH]; exact va_S.rf
  have hl := lv_entry ([.ref x]) (n := 13) (Nat.le_of_ble_eq_true rfl)
  rw [lg_entry_eq]
  generalize (lg_sl ([.ref x]) ++ List.replicate (13 - (lg_sl ([.ref x])).length) Slot.unset).toArray = ls at hl ⊢
  have hl : lv_has ls 13 [(0, .ref x)] := hl
  obtain ⟨⟨a1, a2, a3, a4, a5, a6, a7⟩, ⟨g1, g2⟩, g3, g4, g5, g6, g7, g8, ⟨g9, g10⟩, g11, g12⟩ := hF
  refine lv_aload_n hx hb dL_isAged_0 rfl (lv_at hl 0 rfl) ?_
  refine kr_d (W.runS (As := [.ref x]) (rest := []) ⟨hx, hb, hml, hown, hts⟩ (metL_litres l D x r t d yg la bs cA cI n hn wm df q wd zs h w3 a1) (va_cwS 1 hts gL_isAged_L_litres rfl rfl rfl (by decide +kernel) ⟨Nat.le_of_ble_eq_true rfl, Nat.le_of_ble_eq_true rfl⟩) (prS (ws := [(x, EX r t d yg)] ++ (rowW r la bs cA (nI n) wm df q wd zs h ++ w3)) hP (hK.sub [0, 1] rfl)) rfl rfl hl.1 rfl (lv_room (Nat.le_of_ble_eq_true rfl)) dL_isAged_1 ⟨Nat.le_of_ble_eq_true rfl, Nat.le_of_ble_eq_true rfl⟩) ?_
  refine lv_dstore_n (lv' := [(1, .double (suL h n)), (0, .ref x)]) hx hb dL_isAged_4 rfl hl (by decide) rfl (fun ls hl => ?_)
  refine kW_cut 25 (fun ls => lv_has ls 13 [(3, .double (elG h (elO h n))), (1, .double (suL h n)), (0, .ref x)]) (fun ls hl => ?_) (fun t1 => ?_)
  · refine lv_bipush (v := 8) hx hb dL_isAged_25 (by decide) ?_
    refine va_newa (atype := .double) (ty := .double) (n := 8) (N' := 8) (a0 := (8, .inr (.inr (.inr (.inl (fun _ => 0)))))) hx hb (hts (.arrayClass .double) (by decide +kernel)) rfl hK hP hD hS hA (fun _ => rfl) (by decide) (by decide) (by decide) (Nat.le_of_ble_eq_true rfl) (Nat.le_of_ble_eq_true rfl) dL_isAged_27 (fun ar cD H hK hP hD hS => ?_)
    rw [ap_as, show (fun _ => 0 : Nat → UInt64) = hadv h 0 from hadv_0.symm] at hP hD
    have hP : va_P D vwCl ([(x, EX r t d yg)] ++ (rowW r la bs cA (nI n) wm df q wd zs h ++ (w3 ++ [(ar, AD8 cD (hadv h 0))]))) H := hP
    have hD : va_D A ([(x, EX r t d yg)] ++ (rowW r la bs cA (nI n) wm df q wd zs h ++ (w3 ++ [(ar, AD8 cD (hadv h 0))]))) := hD
    have hK : va_K D vwCl [(cA, .object "VinegarLoft$Barrel"), (cI, .int), (cD, .double)] s := hK
    refine lv_astore (lv' := [(5, .ref ar), (3, .double (elG h (elO h n))), (1, .double (suL h n)), (0, .ref x)]) hx hb dL_isAged_29 hl (by decide) rfl (fun ls hl => ?_)
    refine lv_iconst (v := 0) hx hb dL_isAged_31 (by decide) ?_
    refine lv_istore (lv' := [(6, .int 0), (5, .ref ar), (3, .double (elG h (elO h n))), (1, .double (suL h n)), (0, .ref x)]) hx hb dL_isAged_32 hl (by decide) rfl (fun ls hl => ?_)
    refine kW_up (n) (fun i H locs ls => va_P D vwCl ([(x, EX r t d yg)] ++ (rowW r la bs cA (nI n) wm df q wd zs h ++ (w3 ++ [(ar, AD8 cD (hadv h i))]))) H ∧ va_D A ([(x, EX r t d yg)] ++ (rowW r la bs cA (nI n) wm df q wd zs h ++ (w3 ++ [(ar, AD8 cD (hadv h i))]))) ∧ va_S A s.heap H locs ∧ lv_has ls 13 [(6, .int (nI i)), (5, .ref ar), (3, .double (elG h (elO h n))), (1, .double (suL h n)), (0, .ref x)]) (fun i H locs ls hi hI ih => ?_) (fun H locs ls hI => ?_) ⟨hP, hD, hS, lv_sub hl [0, 1, 2, 3, 4] (rfl)⟩
    · obtain ⟨hP, hD, hS, hl⟩ := hI
      refine lv_iload hx hb dL_isAged_34 (lv_at hl 0 rfl) ?_
      refine lv_aload_n hx hb dL_isAged_36 rfl (lv_at hl 4 rfl) ?_
      refine kr_i (W.runV (As := []) (rest := [.int (nI i)]) ⟨hx, hb, hml, hown, hts⟩ (metX2_barrels l D x r t d yg la bs cA cI n hn wm df q wd zs h (w3 ++ [(ar, AD8 cD (hadv h i))]) ) (cwV 0 hts gL_isAged_X2_barrels rfl rfl rfl (by decide +kernel) ⟨Nat.le_of_ble_eq_true rfl, Nat.le_of_ble_eq_true rfl⟩) (prV 2 0 RX2 TX2 4 rfl rfl (ws := [(x, EX r t d yg)] ++ (rowW r la bs cA (nI n) wm df q wd zs h ++ (w3 ++ [(ar, AD8 cD (hadv h i))]))) hP (hK.sub [0, 1] rfl)) rfl rfl hl.1 rfl (lv_room (Nat.le_of_ble_eq_true rfl)) dL_isAged_37 ⟨Nat.le_of_ble_eq_true rfl, Nat.le_of_ble_eq_true rfl⟩) ?_
      refine lv_icmp_ge (tgt := 60) hx hb dL_isAged_40 (by decide) (fun c40 => (i32_le_nlt c40 (nj_lt hi hn)).elim) (fun c40 => ?_)
      refine lv_aload hx hb dL_isAged_43 (lv_at hl 1 rfl) ?_
      refine lv_iload hx hb dL_isAged_45 (lv_at hl 0 rfl) ?_
      refine lv_aload_n hx hb dL_isAged_47 rfl (lv_at hl 4 rfl) ?_
      refine lv_iload hx hb dL_isAged_48 (lv_at hl 0 rfl) ?_
      refine kr_d (W.runV (As := [.int (nI i)]) (rest := [.int (nI i), .ref ar]) ⟨hx, hb, hml, hown, hts⟩ (metR_litresIn l D x r t d yg la bs cA cI n hn wm df q wd zs h (w3 ++ [(ar, AD8 cD (hadv h i))]) i hi ) (cwV 1 hts gL_isAged_X2_litresIn rfl rfl rfl (by decide +kernel) ⟨Nat.le_of_ble_eq_true rfl, Nat.le_of_ble_eq_true rfl⟩) (prV 2 0 RX2 TX2 4 rfl rfl (ws := [(x, EX r t d yg)] ++ (rowW r la bs cA (nI n) wm df q wd zs h ++ (w3 ++ [(ar, AD8 cD (hadv h i))]))) hP (hK.sub [0, 1] rfl)) rfl rfl hl.1 rfl (lv_room (Nat.le_of_ble_eq_true rfl)) dL_isAged_50 ⟨Nat.le_of_ble_eq_true rfl, Nat.le_of_ble_eq_true rfl⟩) ?_
      refine va_dast hx hb hK hP hD hS (1 + (10 + w3.length)) 2 lofW_d rfl (vp_in_nI (show i < 8 by omega) (by decide)) dL_isAged_53 (fun H locs hP hD hS => ?_)
      rw [lofW_sd, nI_clamp (show i < 2 ^ 31 by omega), hadv_s] at hP hD
      have hP : va_P D vwCl ([(x, EX r t d yg)] ++ (rowW r la bs cA (nI n) wm df q wd zs h ++ (w3 ++ [(ar, AD8 cD (hadv h (i + 1)))]))) H := hP
      have hD : va_D A ([(x, EX r t d yg)] ++ (rowW r la bs cA (nI n) wm df q wd zs h ++ (w3 ++ [(ar, AD8 cD (hadv h (i + 1)))]))) := hD
      refine lv_iinc (v := nI (i + 1)) (lv' := [(6, .int (nI (i + 1))), (5, .ref ar), (3, .double (elG h (elO h n))), (1, .double (suL h n)), (0, .ref x)]) hx hb dL_isAged_54 hl (k := 0) rfl (nI_1 i) (by decide) rfl (fun ls hl => ?_)
      refine lv_goto (tgt := 34) hx hb dL_isAged_57 (by decide) ?_
      exact ih H locs ls ⟨hP, hD, hS, lv_sub hl [0, 1, 2, 3, 4] (rfl)⟩
    · obtain ⟨hP, hD, hS, hl⟩ := hI
      refine lv_iload hx hb dL_isAged_34 (lv_at hl 0 rfl) ?_
      refine lv_aload_n hx hb dL_isAged_36 rfl (lv_at hl 4 rfl) ?_
      refine kr_i (W.runV (As := []) (rest := [.int (nI n)]) ⟨hx, hb, hml, hown, hts⟩ (metX2_barrels l D x r t d yg la bs cA cI n hn wm df q wd zs h (w3 ++ [(ar, AD8 cD (hadv h n))]) ) (cwV 0 hts gL_isAged_X2_barrels rfl rfl rfl (by decide +kernel) ⟨Nat.le_of_ble_eq_true rfl, Nat.le_of_ble_eq_true rfl⟩) (prV 2 0 RX2 TX2 4 rfl rfl (ws := [(x, EX r t d yg)] ++ (rowW r la bs cA (nI n) wm df q wd zs h ++ (w3 ++ [(ar, AD8 cD (hadv h n))]))) hP (hK.sub [0, 1] rfl)) rfl rfl hl.1 rfl (lv_room (Nat.le_of_ble_eq_true rfl)) dL_isAged_37 ⟨Nat.le_of_ble_eq_true rfl, Nat.le_of_ble_eq_true rfl⟩) ?_
      refine lv_icmp_ge (tgt := 60) hx hb dL_isAged_40 (by decide) (fun c40 => ?_) (fun c40 => (c40 (Int32.le_refl _)).elim)
      refine lv_aload_n hx hb dL_isAged_60 rfl (lv_at hl 4 rfl) ?_
      refine kr_i (W.runV (As := []) (rest := []) ⟨hx, hb, hml, hown, hts⟩ (metX2_years l D x r t d yg la bs cA cI n hn wm df q wd zs h (w3 ++ [(ar, AD8 cD (hadv h n))]) ) (cwV 0 hts gL_isAged_X2_years rfl rfl rfl (by decide +kernel) ⟨Nat.le_of_ble_eq_true rfl, Nat.le_of_ble_eq_true rfl⟩) (prV 2 0 RX2 TX2 4 rfl rfl (ws := [(x, EX r t d yg)] ++ (rowW r la bs cA (nI n) wm df q wd zs h ++ (w3 ++ [(ar, AD8 cD (hadv h n))]))) hP (hK.sub [0, 1] rfl)) rfl rfl hl.1 rfl (lv_room (Nat.le_of_ble_eq_true rfl)) dL_isAged_61 ⟨Nat.le_of_ble_eq_true rfl, Nat.le_of_ble_eq_true rfl⟩) ?_
      refine lv_istore (lv' := [(6, .int yg), (5, .ref ar), (3, .double (elG h (elO h n))), (1, .double (suL h n)), (0, .ref x)]) hx hb dL_isAged_64 hl (by decide) rfl (fun ls hl => ?_)
      refine lv_aload_n hx hb dL_isAged_66 rfl (lv_at hl 4 rfl) ?_
      refine kc_d (w1 := []) (w2 := [(x, EX r t d yg)] ++ (rowW r la bs cA (nI n) wm df q wd zs h ++ (w3 ++ [(ar, AD8 cD (hadv h n))]))) (w3 := []) (va_runV (As := []) (rest := []) ⟨hx, hb, hml, hown, hts⟩ (metX2_year l D H.size x r t d yg la bs cA cI n hn wm df q wd zs h (w3 ++ [(ar, AD8 cD (hadv h n))]) a3 a4 a5 a6) (cwV 0 hts gL_isAged_X2_year rfl rfl rfl (by decide +kernel) ⟨Nat.le_of_ble_eq_true rfl, Nat.le_of_ble_eq_true rfl⟩) (pmV 2 0 RX2 TX2 4 rfl rfl hP (hK.sub [0, 1] rfl) hD) rfl rfl hl.1 rfl (lv_room (Nat.le_of_ble_eq_true rfl)) dL_isAged_67 ⟨Nat.le_of_ble_eq_true rfl, Nat.le_of_ble_eq_true rfl⟩) (by rw [List.nil_append, List.append_nil]; exact hP) (by rw [List.nil_append, List.append_nil]; exact hD) hS hA (fun H locs hP hD hS => ?_)
      rw [List.nil_append, List.append_nil] at hP hD
      have hP : va_P D vwCl ([(x, EX r t d (yg + 1))] ++ (rowW r la bs cA (nI n) wm (encO (elO (agH wd (drv wm) h n) n)) (quv (agH wd (drv wm) h n) (elO (agH wd (drv wm) h n) n)) wd zs (agH wd (drv wm) h n) ++ (w3 ++ [(ar, AD8 cD (hadv h n))]))) H := hP
      have hD : va_D A ([(x, EX r t d (yg + 1))] ++ (rowW r la bs cA (nI n) wm (encO (elO (agH wd (drv wm) h n) n)) (quv (agH wd (drv wm) h n) (elO (agH wd (drv wm) h n) n)) wd zs (agH wd (drv wm) h n) ++ (w3 ++ [(ar, AD8 cD (hadv h n))]))) := hD
      refine lv_dstore (lv' := [(7, .double (agS wd (drv wm) h n)), (6, .int yg), (5, .ref ar), (3, .double (elG h (elO h n))), (1, .double (suL h n)), (0, .ref x)]) hx hb dL_isAged_70 hl (by decide) rfl (fun ls hl => ?_)
      refine lv_aload_n hx hb dL_isAged_72 rfl (lv_at hl 5 rfl) ?_
      refine kr_i (W.runV (As := []) (rest := []) ⟨hx, hb, hml, hown, hts⟩ (metX2_years l D x r t d (yg + 1) la bs cA cI n hn wm (encO (elO (agH wd (drv wm) h n) n)) (quv (agH wd (drv wm) h n) (elO (agH wd (drv wm) h n) n)) wd zs (agH wd (drv wm) h n) (w3 ++ [(ar, AD8 cD (hadv h n))]) ) (cwV 0 hts gL_isAged_X2_years rfl rfl rfl (by decide +kernel) ⟨Nat.le_of_ble_eq_true rfl, Nat.le_of_ble_eq_true rfl⟩) (prV 2 0 RX2 TX2 4 rfl rfl (ws := [(x, EX r t d (yg + 1))] ++ (rowW r la bs cA (nI n) wm (encO (elO (agH wd (drv wm) h n) n)) (quv (agH wd (drv wm) h n) (elO (agH wd (drv wm) h n) n)) wd zs (agH wd (drv wm) h n) ++ (w3 ++ [(ar, AD8 cD (hadv h n))]))) hP (hK.sub [0, 1] rfl)) rfl rfl hl.1 rfl (lv_room (Nat.le_of_ble_eq_true rfl)) dL_isAged_73 ⟨Nat.le_of_ble_eq_true rfl, Nat.le_of_ble_eq_true rfl⟩) ?_
      refine lv_iload hx hb dL_isAged_76 (lv_at hl 1 rfl) ?_
      refine lv_iconst (v := 1) hx hb dL_isAged_78 (by decide) ?_
      refine lv_iadd hx hb dL_isAged_79 ?_
      refine lv_icmp_ne (tgt := 139) hx hb dL_isAged_80 (by decide) (fun c80 => (c80 rfl).elim) (fun c80 => ?_)
      refine lv_aload_n hx hb dL_isAged_83 rfl (lv_at hl 5 rfl) ?_
      refine kr_d (W.runS (As := [.ref x]) (rest := []) ⟨hx, hb, hml, hown, hts⟩ (metL_litres l D x r t d (yg + 1) la bs cA cI n hn wm (encO (elO (agH wd (drv wm) h n) n)) (quv (agH wd (drv wm) h n) (elO (agH wd (drv wm) h n) n)) wd zs (agH wd (drv wm) h n) (w3 ++ [(ar, AD8 cD (hadv h n))]) a7) (va_cwS 1 hts gL_isAged_L_litres rfl rfl rfl (by decide +kernel) ⟨Nat.le_of_ble_eq_true rfl, Nat.le_of_ble_eq_true rfl⟩) (prS (ws := [(x, EX r t d (yg + 1))] ++ (rowW r la bs cA (nI n) wm (encO (elO (agH wd (drv wm) h n) n)) (quv (agH wd (drv wm) h n) (elO (agH wd (drv wm) h n) n)) wd zs (agH wd (drv wm) h n) ++ (w3 ++ [(ar, AD8 cD (hadv h n))]))) hP (hK.sub [0, 1] rfl)) rfl rfl hl.1 rfl (lv_room (Nat.le_of_ble_eq_true rfl)) dL_isAged_84 ⟨Nat.le_of_ble_eq_true rfl, Nat.le_of_ble_eq_true rfl⟩) ?_
      refine lv_dload hx hb dL_isAged_87 (lv_at hl 0 rfl) ?_
      refine lv_dadd hx hb dL_isAged_89 g1 ?_
      refine lv_dload_n hx hb dL_isAged_90 rfl (lv_at hl 4 rfl) ?_
      refine kr_i (W.runS (As := [.double (FP.dadd (suL (agH wd (drv wm) h n) n) (agS wd (drv wm) h n)), .double (suL h n)]) (rest := []) ⟨hx, hb, hml, hown, hts⟩ (metL_isNear l D (FP.dadd (suL (agH wd (drv wm) h n) n) (agS wd (drv wm) h n)) (suL h n) g2) (va_cwS 2 hts gL_isAged_L_isNear rfl rfl rfl (by decide +kernel) ⟨Nat.le_of_ble_eq_true rfl, Nat.le_of_ble_eq_true rfl⟩) (prS (ws := []) (tys := []) (fun k q h => by simp at h) (hK.sub [] rfl)) rfl rfl hl.1 rfl (lv_room (Nat.le_of_ble_eq_true rfl)) dL_isAged_91 ⟨Nat.le_of_ble_eq_true rfl, Nat.le_of_ble_eq_true rfl⟩) ?_
      refine lv_if_eq (tgt := 139) hx hb dL_isAged_94 (by decide) (fun c94 => (i32_n1 c94).elim) (fun c94 => ?_)
      refine kW_cut 135 (fun ls => lv_has ls 13 [(7, .double (agS wd (drv wm) h n)), (6, .int yg), (5, .ref ar), (3, .double (elG h (elO h n))), (1, .double (suL h n)), (0, .ref x)]) (fun ls hl => ?_) (fun t2 => ?_)
      · refine lv_iconst (v := 1) hx hb dL_isAged_135 (by decide) ?_
        refine lv_goto (tgt := 140) hx hb dL_isAged_136 (by decide) ?_
        refine lv_istore (lv' := [(9, .int 1), (7, .double (agS wd (drv wm) h n)), (6, .int yg), (5, .ref ar), (3, .double (elG h (elO h n))), (1, .double (suL h n)), (0, .ref x)]) hx hb dL_isAged_140 hl (by decide) rfl (fun ls hl => ?_)
        refine lv_iconst (v := 0) hx hb dL_isAged_142 (by decide) ?_
        refine lv_istore (lv' := [(10, .int 0), (9, .int 1), (7, .double (agS wd (drv wm) h n)), (6, .int yg), (5, .ref ar), (3, .double (elG h (elO h n))), (1, .double (suL h n)), (0, .ref x)]) hx hb dL_isAged_143 hl (by decide) rfl (fun ls hl => ?_)
        refine kW_upR (n) (fun i ls => lv_has ls 13 [(10, .int (nI i)), (9, .int 1), (5, .ref ar), (0, .ref x)]) (fun i ls hi hl ih => ?_) (fun ls hl => ?_) (lv_sub hl [0, 1, 4, 7] (rfl))
        · refine lv_iload hx hb dL_isAged_145 (lv_at hl 0 rfl) ?_
          refine lv_aload_n hx hb dL_isAged_147 rfl (lv_at hl 3 rfl) ?_
          refine kr_i (W.runV (As := []) (rest := [.int (nI i)]) ⟨hx, hb, hml, hown, hts⟩ (metX2_barrels l D x r t d (yg + 1) la bs cA cI n hn wm (encO (elO (agH wd (drv wm) h n) n)) (quv (agH wd (drv wm) h n) (elO (agH wd (drv wm) h n) n)) wd zs (agH wd (drv wm) h n) (w3 ++ [(ar, AD8 cD (hadv h n))]) ) (cwV 0 hts gL_isAged_X2_barrels rfl rfl rfl (by decide +kernel) ⟨Nat.le_of_ble_eq_true rfl, Nat.le_of_ble_eq_true rfl⟩) (prV 2 0 RX2 TX2 4 rfl rfl (ws := [(x, EX r t d (yg + 1))] ++ (rowW r la bs cA (nI n) wm (encO (elO (agH wd (drv wm) h n) n)) (quv (agH wd (drv wm) h n) (elO (agH wd (drv wm) h n) n)) wd zs (agH wd (drv wm) h n) ++ (w3 ++ [(ar, AD8 cD (hadv h n))]))) hP (hK.sub [0, 1] rfl)) rfl rfl hl.1 rfl (lv_room (Nat.le_of_ble_eq_true rfl)) dL_isAged_148 ⟨Nat.le_of_ble_eq_true rfl, Nat.le_of_ble_eq_true rfl⟩) ?_
          refine lv_icmp_ge (tgt := 274) hx hb dL_isAged_151 (by decide) (fun c151 => (i32_le_nlt c151 (nj_lt hi hn)).elim) (fun c151 => ?_)
          refine lv_aload_n hx hb dL_isAged_154 rfl (lv_at hl 3 rfl) ?_
          refine lv_iload hx hb dL_isAged_155 (lv_at hl 0 rfl) ?_
          refine kr_d (W.runV (As := [.int (nI i)]) (rest := []) ⟨hx, hb, hml, hown, hts⟩ (metR_litresIn l D x r t d (yg + 1) la bs cA cI n hn wm (encO (elO (agH wd (drv wm) h n) n)) (quv (agH wd (drv wm) h n) (elO (agH wd (drv wm) h n) n)) wd zs (agH wd (drv wm) h n) (w3 ++ [(ar, AD8 cD (hadv h n))]) i hi ) (cwV 1 hts gL_isAged_X2_litresIn rfl rfl rfl (by decide +kernel) ⟨Nat.le_of_ble_eq_true rfl, Nat.le_of_ble_eq_true rfl⟩) (prV 2 0 RX2 TX2 4 rfl rfl (ws := [(x, EX r t d (yg + 1))] ++ (rowW r la bs cA (nI n) wm (encO (elO (agH wd (drv wm) h n) n)) (quv (agH wd (drv wm) h n) (elO (agH wd (drv wm) h n) n)) wd zs (agH wd (drv wm) h n) ++ (w3 ++ [(ar, AD8 cD (hadv h n))]))) hP (hK.sub [0, 1] rfl)) rfl rfl hl.1 rfl (lv_room (Nat.le_of_ble_eq_true rfl)) dL_isAged_157 ⟨Nat.le_of_ble_eq_true rfl, Nat.le_of_ble_eq_true rfl⟩) ?_
          refine lv_dstore (lv' := [(11, .double ((agH wd (drv wm) h n) i)), (10, .int (nI i)), (9, .int 1), (5, .ref ar), (0, .ref x)]) hx hb dL_isAged_160 hl (by decide) rfl (fun ls hl => ?_)
          refine lv_iload hx hb dL_isAged_162 (lv_at hl 2 rfl) ?_
          refine lv_if_eq (tgt := 265) hx hb dL_isAged_164 (by decide) (fun c164 => (i32_n1 c164).elim) (fun c164 => ?_)
          refine lv_dload hx hb dL_isAged_167 (lv_at hl 0 rfl) ?_
          refine lv_aload hx hb dL_isAged_169 (lv_at hl 3 rfl) ?_
          refine lv_iload hx hb dL_isAged_171 (lv_at hl 1 rfl) ?_
          refine va_dald hx hb hK hP (1 + (10 + w3.length)) 2 lofW_d rfl (vp_in_nI (show i < 8 by omega) (by decide)) dL_isAged_173 ?_
          refine kd_eq (show hadv h n (nI i).toNatClampNeg = h i from by rw [nI_clamp (by omega)]; exact hadv_at hi) ?_
          refine kd_gt (tgt := 265) hx hb dL_isAged_174 dL_isAged_175 (by decide) (g7 i hi).1.1 (fun c174 => ((g7 i hi).1.2 c174).elim) (fun c174 => ?_)
          refine lv_dload hx hb dL_isAged_178 (lv_at hl 0 rfl) ?_
          refine lv_ldc2d hx hb hown (hts (.constantDouble RL 61 4606281698874543309) (by decide +kernel)) dL_isAged_180 ?_
          refine lv_aload hx hb dL_isAged_183 (lv_at hl 3 rfl) ?_
          refine lv_iload hx hb dL_isAged_185 (lv_at hl 1 rfl) ?_
          refine va_dald hx hb hK hP (1 + (10 + w3.length)) 2 lofW_d rfl (vp_in_nI (show i < 8 by omega) (by decide)) dL_isAged_187 ?_
          refine kd_eq (show hadv h n (nI i).toNatClampNeg = h i from by rw [nI_clamp (by omega)]; exact hadv_at hi) ?_
          refine lv_dmul hx hb dL_isAged_188 (g7 i hi).2.1 ?_
          refine kd_lt (tgt := 265) hx hb dL_isAged_189 dL_isAged_190 (by decide) (g7 i hi).2.2.1.1 (fun c189 => ((g7 i hi).2.2.1.2 c189).elim) (fun c189 => ?_)
          refine lv_aload hx hb dL_isAged_193 (lv_at hl 3 rfl) ?_
          refine lv_iload hx hb dL_isAged_195 (lv_at hl 1 rfl) ?_
          refine va_dald hx hb hK hP (1 + (10 + w3.length)) 2 lofW_d rfl (vp_in_nI (show i < 8 by omega) (by decide)) dL_isAged_197 ?_
          refine kd_eq (show hadv h n (nI i).toNatClampNeg = h i from by rw [nI_clamp (by omega)]; exact hadv_at hi) ?_
          refine kd_0 hx hb dL_isAged_198 ?_
          refine kd_zeq (tgt := 214) hx hb dL_isAged_199 dL_isAged_200 (by decide) (g7 i hi).2.2.2.1 (fun c199 => ?_) (fun c199 => ?_)
          · refine lv_aload_n hx hb dL_isAged_214 rfl (lv_at hl 4 rfl) ?_
            refine lv_iload hx hb dL_isAged_215 (lv_at hl 1 rfl) ?_
            refine kr_d (W.runV (As := [.int (nI i)]) (rest := []) ⟨hx, hb, hml, hown, hts⟩ (metR_sugarOf l D x r t d (yg + 1) la bs cA cI n hn wm (encO (elO (agH wd (drv wm) h n) n)) (quv (agH wd (drv wm) h n) (elO (agH wd (drv wm) h n) n)) wd zs (agH wd (drv wm) h n) (w3 ++ [(ar, AD8 cD (hadv h n))]) i hi ) (cwV 1 hts gL_isAged_X2_sugarOf rfl rfl rfl (by decide +kernel) ⟨Nat.le_of_ble_eq_true rfl, Nat.le_of_ble_eq_true rfl⟩) (prV 2 0 RX2 TX2 4 rfl rfl (ws := [(x, EX r t d (yg + 1))] ++ (rowW r la bs cA (nI n) wm (encO (elO (agH wd (drv wm) h n) n)) (quv (agH wd (drv wm) h n) (elO (agH wd (drv wm) h n) n)) wd zs (agH wd (drv wm) h n) ++ (w3 ++ [(ar, AD8 cD (hadv h n))]))) hP (hK.sub [0, 1] rfl)) rfl rfl hl.1 rfl (lv_room (Nat.le_of_ble_eq_true rfl)) dL_isAged_217 ⟨Nat.le_of_ble_eq_true rfl, Nat.le_of_ble_eq_true rfl⟩) ?_
            refine lv_ldc2d hx hb hown (hts (.constantDouble RL 66 4634626229029306368) (by decide +kernel)) dL_isAged_220 ?_
            refine kd_gt (tgt := 265) hx hb dL_isAged_223 dL_isAged_224 (by decide) (g7 i hi).2.2.2.2.2.1.1 (fun c223 => ((g7 i hi).2.2.2.2.2.1.2 c223).elim) (fun c223 => ?_)
            refine lv_aload_n hx hb dL_isAged_227 rfl (lv_at hl 4 rfl) ?_
            refine lv_iload hx hb dL_isAged_228 (lv_at hl 1 rfl) ?_
            refine kr_d (W.runV (As := [.int (nI i)]) (rest := []) ⟨hx, hb, hml, hown, hts⟩ (metR_acidOf l D x r t d (yg + 1) la bs cA cI n hn wm (encO (elO (agH wd (drv wm) h n) n)) (quv (agH wd (drv wm) h n) (elO (agH wd (drv wm) h n) n)) wd zs (agH wd (drv wm) h n) (w3 ++ [(ar, AD8 cD (hadv h n))]) i hi ) (cwV 1 hts gL_isAged_X2_acidOf rfl rfl rfl (by decide +kernel) ⟨Nat.le_of_ble_eq_true rfl, Nat.le_of_ble_eq_true rfl⟩) (prV 2 0 RX2 TX2 4 rfl rfl (ws := [(x, EX r t d (yg + 1))] ++ (rowW r la bs cA (nI n) wm (encO (elO (agH wd (drv wm) h n) n)) (quv (agH wd (drv wm) h n) (elO (agH wd (drv wm) h n) n)) wd zs (agH wd (drv wm) h n) ++ (w3 ++ [(ar, AD8 cD (hadv h n))]))) hP (hK.sub [0, 1] rfl)) rfl rfl hl.1 rfl (lv_room (Nat.le_of_ble_eq_true rfl)) dL_isAged_230 ⟨Nat.le_of_ble_eq_true rfl, Nat.le_of_ble_eq_true rfl⟩) ?_
            refine lv_ldc2d hx hb hown (hts (.constantDouble RL 68 4622945017495814144) (by decide +kernel)) dL_isAged_233 ?_
            refine kd_gt (tgt := 265) hx hb dL_isAged_236 dL_isAged_237 (by decide) (g7 i hi).2.2.2.2.2.2.1.1 (fun c236 => ((g7 i hi).2.2.2.2.2.2.1.2 c236).elim) (fun c236 => ?_)
            refine lv_aload hx hb dL_isAged_240 (lv_at hl 3 rfl) ?_
            refine lv_iload hx hb dL_isAged_242 (lv_at hl 1 rfl) ?_
            refine va_dald hx hb hK hP (1 + (10 + w3.length)) 2 lofW_d rfl (vp_in_nI (show i < 8 by omega) (by decide)) dL_isAged_244 ?_
            refine kd_eq (show hadv h n (nI i).toNatClampNeg = h i from by rw [nI_clamp (by omega)]; exact hadv_at hi) ?_
            refine kd_0 hx hb dL_isAged_245 ?_
            refine kd_gt (tgt := 261) hx hb dL_isAged_246 dL_isAged_247 (by decide) (g7 i hi).2.2.2.1 (fun c246 => ?_) (fun c246 => ?_)
            · refine lv_iconst (v := 1) hx hb dL_isAged_261 (by decide) ?_
              refine lv_goto (tgt := 266) hx hb dL_isAged_262 (by decide) ?_
              refine lv_istore (lv' := [(9, .int 1), (11, .double ((agH wd (drv wm) h n) i)), (10, .int (nI i)), (5, .ref ar), (0, .ref x)]) hx hb dL_isAged_266 hl (by decide) rfl (fun ls hl => ?_)
              refine lv_iinc (v := nI (i + 1)) (lv' := [(10, .int (nI (i + 1))), (9, .int 1), (11, .double ((agH wd (drv wm) h n) i)), (5, .ref ar), (0, .ref x)]) hx hb dL_isAged_268 hl (k := 2) rfl (nI_1 i) (by decide) rfl (fun ls hl => ?_)
              refine lv_goto (tgt := 145) hx hb dL_isAged_271 (by decide) ?_
              exact ih ls (lv_sub hl [0, 1, 3, 4] (rfl))
            · refine lv_aload_n hx hb dL_isAged_250 rfl (lv_at hl 4 rfl) ?_
              refine lv_iload hx hb dL_isAged_251 (lv_at hl 1 rfl) ?_
              refine kr_d (W.runV (As := [.int (nI i)]) (rest := []) ⟨hx, hb, hml, hown, hts⟩ (metR_ageOf l D x r t d (yg + 1) la bs cA cI n hn wm (encO (elO (agH wd (drv wm) h n) n)) (quv (agH wd (drv wm) h n) (elO (agH wd (drv wm) h n) n)) wd zs (agH wd (drv wm) h n) (w3 ++ [(ar, AD8 cD (hadv h n))]) i hi ) (cwV 1 hts gL_isAged_X2_ageOf rfl rfl rfl (by decide +kernel) ⟨Nat.le_of_ble_eq_true rfl, Nat.le_of_ble_eq_true rfl⟩) (prV 2 0 RX2 TX2 4 rfl rfl (ws := [(x, EX r t d (yg + 1))] ++ (rowW r la bs cA (nI n) wm (encO (elO (agH wd (drv wm) h n) n)) (quv (agH wd (drv wm) h n) (elO (agH wd (drv wm) h n) n)) wd zs (agH wd (drv wm) h n) ++ (w3 ++ [(ar, AD8 cD (hadv h n))]))) hP (hK.sub [0, 1] rfl)) rfl rfl hl.1 rfl (lv_room (Nat.le_of_ble_eq_true rfl)) dL_isAged_253 ⟨Nat.le_of_ble_eq_true rfl, Nat.le_of_ble_eq_true rfl⟩) ?_
              refine kd_0 hx hb dL_isAged_256 ?_
              refine kd_zne (tgt := 265) hx hb dL_isAged_257 dL_isAged_258 (by decide) (eq_ne ((g7 i hi).2.2.2.2.2.2.2 c246)) (fun c257 => (c257 ((g7 i hi).2.2.2.2.2.2.2 c246)).elim) (fun c257 => ?_)
              refine lv_iconst (v := 1) hx hb dL_isAged_261 (by decide) ?_
              refine lv_goto (tgt := 266) hx hb dL_isAged_262 (by decide) ?_
              refine lv_istore (lv' := [(9, .int 1), (11, .double ((agH wd (drv wm) h n) i)), (10, .int (nI i)), (5, .ref ar), (0, .ref x)]) hx hb dL_isAged_266 hl (by decide) rfl (fun ls hl => ?_)
              refine lv_iinc (v := nI (i + 1)) (lv' := [(10, .int (nI (i + 1))), (9, .int 1), (11, .double ((agH wd (drv wm) h n) i)), (5, .ref ar), (0, .ref x)]) hx hb dL_isAged_268 hl (k := 2) rfl (nI_1 i) (by decide) rfl (fun ls hl => ?_)
              refine lv_goto (tgt := 145) hx hb dL_isAged_271 (by decide) ?_
              exact ih ls (lv_sub hl [0, 1, 3, 4] (rfl))
          · refine lv_dload hx hb dL_isAged_203 (lv_at hl 0 rfl) ?_
            refine lv_aload hx hb dL_isAged_205 (lv_at hl 3 rfl) ?_
            refine lv_iload hx hb dL_isAged_207 (lv_at hl 1 rfl) ?_
            refine va_dald hx hb hK hP (1 + (10 + w3.length)) 2 lofW_d rfl (vp_in_nI (show i < 8 by omega) (by decide)) dL_isAged_209 ?_
            refine kd_eq (show hadv h n (nI i).toNatClampNeg = h i from by rw [nI_clamp (by omega)]; exact hadv_at hi) ?_
            refine kd_ge (tgt := 265) hx hb dL_isAged_210 dL_isAged_211 (by decide) (lt_ne ((g7 i hi).2.2.2.2.1 c199)) (fun c210 => (c210 ((g7 i hi).2.2.2.2.1 c199)).elim) (fun c210 => ?_)
            refine lv_aload_n hx hb dL_isAged_214 rfl (lv_at hl 4 rfl) ?_
            refine lv_iload hx hb dL_isAged_215 (lv_at hl 1 rfl) ?_
            refine kr_d (W.runV (As := [.int (nI i)]) (rest := []) ⟨hx, hb, hml, hown, hts⟩ (metR_sugarOf l D x r t d (yg + 1) la bs cA cI n hn wm (encO (elO (agH wd (drv wm) h n) n)) (quv (agH wd (drv wm) h n) (elO (agH wd (drv wm) h n) n)) wd zs (agH wd (drv wm) h n) (w3 ++ [(ar, AD8 cD (hadv h n))]) i hi ) (cwV 1 hts gL_isAged_X2_sugarOf rfl rfl rfl (by decide +kernel) ⟨Nat.le_of_ble_eq_true rfl, Nat.le_of_ble_eq_true rfl⟩) (prV 2 0 RX2 TX2 4 rfl rfl (ws := [(x, EX r t d (yg + 1))] ++ (rowW r la bs cA (nI n) wm (encO (elO (agH wd (drv wm) h n) n)) (quv (agH wd (drv wm) h n) (elO (agH wd (drv wm) h n) n)) wd zs (agH wd (drv wm) h n) ++ (w3 ++ [(ar, AD8 cD (hadv h n))]))) hP (hK.sub [0, 1] rfl)) rfl rfl hl.1 rfl (lv_room (Nat.le_of_ble_eq_true rfl)) dL_isAged_217 ⟨Nat.le_of_ble_eq_true rfl, Nat.le_of_ble_eq_true rfl⟩) ?_
            refine lv_ldc2d hx hb hown (hts (.constantDouble RL 66 4634626229029306368) (by decide +kernel)) dL_isAged_220 ?_
            refine kd_gt (tgt := 265) hx hb dL_isAged_223 dL_isAged_224 (by decide) (g7 i hi).2.2.2.2.2.1.1 (fun c223 => ((g7 i hi).2.2.2.2.2.1.2 c223).elim) (fun c223 => ?_)
            refine lv_aload_n hx hb dL_isAged_227 rfl (lv_at hl 4 rfl) ?_
            refine lv_iload hx hb dL_isAged_228 (lv_at hl 1 rfl) ?_
            refine kr_d (W.runV (As := [.int (nI i)]) (rest := []) ⟨hx, hb, hml, hown, hts⟩ (metR_acidOf l D x r t d (yg + 1) la bs cA cI n hn wm (encO (elO (agH wd (drv wm) h n) n)) (quv (agH wd (drv wm) h n) (elO (agH wd (drv wm) h n) n)) wd zs (agH wd (drv wm) h n) (w3 ++ [(ar, AD8 cD (hadv h n))]) i hi ) (cwV 1 hts gL_isAged_X2_acidOf rfl rfl rfl (by decide +kernel) ⟨Nat.le_of_ble_eq_true rfl, Nat.le_of_ble_eq_true rfl⟩) (prV 2 0 RX2 TX2 4 rfl rfl (ws := [(x, EX r t d (yg + 1))] ++ (rowW r la bs cA (nI n) wm (encO (elO (agH wd (drv wm) h n) n)) (quv (agH wd (drv wm) h n) (elO (agH wd (drv wm) h n) n)) wd zs (agH wd (drv wm) h n) ++ (w3 ++ [(ar, AD8 cD (hadv h n))]))) hP (hK.sub [0, 1] rfl)) rfl rfl hl.1 rfl (lv_room (Nat.le_of_ble_eq_true rfl)) dL_isAged_230 ⟨Nat.le_of_ble_eq_true rfl, Nat.le_of_ble_eq_true rfl⟩) ?_
            refine lv_ldc2d hx hb hown (hts (.constantDouble RL 68 4622945017495814144) (by decide +kernel)) dL_isAged_233 ?_
            refine kd_gt (tgt := 265) hx hb dL_isAged_236 dL_isAged_237 (by decide) (g7 i hi).2.2.2.2.2.2.1.1 (fun c236 => ((g7 i hi).2.2.2.2.2.2.1.2 c236).elim) (fun c236 => ?_)
            refine lv_aload hx hb dL_isAged_240 (lv_at hl 3 rfl) ?_
            refine lv_iload hx hb dL_isAged_242 (lv_at hl 1 rfl) ?_
            refine va_dald hx hb hK hP (1 + (10 + w3.length)) 2 lofW_d rfl (vp_in_nI (show i < 8 by omega) (by decide)) dL_isAged_244 ?_
            refine kd_eq (show hadv h n (nI i).toNatClampNeg = h i from by rw [nI_clamp (by omega)]; exact hadv_at hi) ?_
            refine kd_0 hx hb dL_isAged_245 ?_
            refine kd_gt (tgt := 261) hx hb dL_isAged_246 dL_isAged_247 (by decide) (g7 i hi).2.2.2.1 (fun c246 => ?_) (fun c246 => ?_)
            · refine lv_iconst (v := 1) hx hb dL_isAged_261 (by decide) ?_
              refine lv_goto (tgt := 266) hx hb dL_isAged_262 (by decide) ?_
              refine lv_istore (lv' := [(9, .int 1), (11, .double ((agH wd (drv wm) h n) i)), (10, .int (nI i)), (5, .ref ar), (0, .ref x)]) hx hb dL_isAged_266 hl (by decide) rfl (fun ls hl => ?_)
              refine lv_iinc (v := nI (i + 1)) (lv' := [(10, .int (nI (i + 1))), (9, .int 1), (11, .double ((agH wd (drv wm) h n) i)), (5, .ref ar), (0, .ref x)]) hx hb dL_isAged_268 hl (k := 2) rfl (nI_1 i) (by decide) rfl (fun ls hl => ?_)
              refine lv_goto (tgt := 145) hx hb dL_isAged_271 (by decide) ?_
              exact ih ls (lv_sub hl [0, 1, 3, 4] (rfl))
            · refine lv_aload_n hx hb dL_isAged_250 rfl (lv_at hl 4 rfl) ?_
              refine lv_iload hx hb dL_isAged_251 (lv_at hl 1 rfl) ?_
              refine kr_d (W.runV (As := [.int (nI i)]) (rest := []) ⟨hx, hb, hml, hown, hts⟩ (metR_ageOf l D x r t d (yg + 1) la bs cA cI n hn wm (encO (elO (agH wd (drv wm) h n) n)) (quv (agH wd (drv wm) h n) (elO (agH wd (drv wm) h n) n)) wd zs (agH wd (drv wm) h n) (w3 ++ [(ar, AD8 cD (hadv h n))]) i hi ) (cwV 1 hts gL_isAged_X2_ageOf rfl rfl rfl (by decide +kernel) ⟨Nat.le_of_ble_eq_true rfl, Nat.le_of_ble_eq_true rfl⟩) (prV 2 0 RX2 TX2 4 rfl rfl (ws := [(x, EX r t d (yg + 1))] ++ (rowW r la bs cA (nI n) wm (encO (elO (agH wd (drv wm) h n) n)) (quv (agH wd (drv wm) h n) (elO (agH wd (drv wm) h n) n)) wd zs (agH wd (drv wm) h n) ++ (w3 ++ [(ar, AD8 cD (hadv h n))]))) hP (hK.sub [0, 1] rfl)) rfl rfl hl.1 rfl (lv_room (Nat.le_of_ble_eq_true rfl)) dL_isAged_253 ⟨Nat.le_of_ble_eq_true rfl, Nat.le_of_ble_eq_true rfl⟩) ?_
              refine kd_0 hx hb dL_isAged_256 ?_
              refine kd_zne (tgt := 265) hx hb dL_isAged_257 dL_isAged_258 (by decide) (eq_ne ((g7 i hi).2.2.2.2.2.2.2 c246)) (fun c257 => (c257 ((g7 i hi).2.2.2.2.2.2.2 c246)).elim) (fun c257 => ?_)
              refine lv_iconst (v := 1) hx hb dL_isAged_261 (by decide) ?_
              refine lv_goto (tgt := 266) hx hb dL_isAged_262 (by decide) ?_
              refine lv_istore (lv' := [(9, .int 1), (11, .double ((agH wd (drv wm) h n) i)), (10, .int (nI i)), (5, .ref ar), (0, .ref x)]) hx hb dL_isAged_266 hl (by decide) rfl (fun ls hl => ?_)
              refine lv_iinc (v := nI (i + 1)) (lv' := [(10, .int (nI (i + 1))), (9, .int 1), (11, .double ((agH wd (drv wm) h n) i)), (5, .ref ar), (0, .ref x)]) hx hb dL_isAged_268 hl (k := 2) rfl (nI_1 i) (by decide) rfl (fun ls hl => ?_)
              refine lv_goto (tgt := 145) hx hb dL_isAged_271 (by decide) ?_
              exact ih ls (lv_sub hl [0, 1, 3, 4] (rfl))
        · refine lv_iload hx hb dL_isAged_145 (lv_at hl 0 rfl) ?_
          refine lv_aload_n hx hb dL_isAged_147 rfl (lv_at hl 3 rfl) ?_
          refine kr_i (W.runV (As := []) (rest := [.int (nI n)]) ⟨hx, hb, hml, hown, hts⟩ (metX2_barrels l D x r t d (yg + 1) la bs cA cI n hn wm (encO (elO (agH wd (drv wm) h n) n)) (quv (agH wd (drv wm) h n) (elO (agH wd (drv wm) h n) n)) wd zs (agH wd (drv wm) h n) (w3 ++ [(ar, AD8 cD (hadv h n))]) ) (cwV 0 hts gL_isAged_X2_barrels rfl rfl rfl (by decide +kernel) ⟨Nat.le_of_ble_eq_true rfl, Nat.le_of_ble_eq_true rfl⟩) (prV 2 0 RX2 TX2 4 rfl rfl (ws := [(x, EX r t d (yg + 1))] ++ (rowW r la bs cA (nI n) wm (encO (elO (agH wd (drv wm) h n) n)) (quv (agH wd (drv wm) h n) (elO (agH wd (drv wm) h n) n)) wd zs (agH wd (drv wm) h n) ++ (w3 ++ [(ar, AD8 cD (hadv h n))]))) hP (hK.sub [0, 1] rfl)) rfl rfl hl.1 rfl (lv_room (Nat.le_of_ble_eq_true rfl)) dL_isAged_148 ⟨Nat.le_of_ble_eq_true rfl, Nat.le_of_ble_eq_true rfl⟩) ?_
          refine lv_icmp_ge (tgt := 274) hx hb dL_isAged_151 (by decide) (fun c151 => ?_) (fun c151 => (c151 (Int32.le_refl _)).elim)
          refine lv_iload hx hb dL_isAged_274 (lv_at hl 1 rfl) ?_
          refine lv_if_eq (tgt := 337) hx hb dL_isAged_276 (by decide) (fun c276 => (i32_n1 c276).elim) (fun c276 => ?_)
          refine lv_aload_n hx hb dL_isAged_279 rfl (lv_at hl 3 rfl) ?_
          refine kr_d (W.runV (As := []) (rest := []) ⟨hx, hb, hml, hown, hts⟩ (metX2_meanAge l D x r t d (yg + 1) la bs cA cI n hn wm (encO (elO (agH wd (drv wm) h n) n)) (quv (agH wd (drv wm) h n) (elO (agH wd (drv wm) h n) n)) wd zs (agH wd (drv wm) h n) (w3 ++ [(ar, AD8 cD (hadv h n))]) g8) (cwV 0 hts gL_isAged_X2_meanAge rfl rfl rfl (by decide +kernel) ⟨Nat.le_of_ble_eq_true rfl, Nat.le_of_ble_eq_true rfl⟩) (prV 2 0 RX2 TX2 4 rfl rfl (ws := [(x, EX r t d (yg + 1))] ++ (rowW r la bs cA (nI n) wm (encO (elO (agH wd (drv wm) h n) n)) (quv (agH wd (drv wm) h n) (elO (agH wd (drv wm) h n) n)) wd zs (agH wd (drv wm) h n) ++ (w3 ++ [(ar, AD8 cD (hadv h n))]))) hP (hK.sub [0, 1] rfl)) rfl rfl hl.1 rfl (lv_room (Nat.le_of_ble_eq_true rfl)) dL_isAged_280 ⟨Nat.le_of_ble_eq_true rfl, Nat.le_of_ble_eq_true rfl⟩) ?_
          refine lv_aload_n hx hb dL_isAged_283 rfl (lv_at hl 3 rfl) ?_
          refine kr_i (W.runV (As := []) (rest := [.double (mnv 8 (agH wd (drv wm) h n) n)]) ⟨hx, hb, hml, hown, hts⟩ (metX2_years l D x r t d (yg + 1) la bs cA cI n hn wm (encO (elO (agH wd (drv wm) h n) n)) (quv (agH wd (drv wm) h n) (elO (agH wd (drv wm) h n) n)) wd zs (agH wd (drv wm) h n) (w3 ++ [(ar, AD8 cD (hadv h n))]) ) (cwV 0 hts gL_isAged_X2_years rfl rfl rfl (by decide +kernel) ⟨Nat.le_of_ble_eq_true rfl, Nat.le_of_ble_eq_true rfl⟩) (prV 2 0 RX2 TX2 4 rfl rfl (ws := [(x, EX r t d (yg + 1))] ++ (rowW r la bs cA (nI n) wm (encO (elO (agH wd (drv wm) h n) n)) (quv (agH wd (drv wm) h n) (elO (agH wd (drv wm) h n) n)) wd zs (agH wd (drv wm) h n) ++ (w3 ++ [(ar, AD8 cD (hadv h n))]))) hP (hK.sub [0, 1] rfl)) rfl rfl hl.1 rfl (lv_room (Nat.le_of_ble_eq_true rfl)) dL_isAged_284 ⟨Nat.le_of_ble_eq_true rfl, Nat.le_of_ble_eq_true rfl⟩) ?_
          refine lv_i2d hx hb dL_isAged_287 ?_
          refine lv_ldc2d hx hb hown (hts (.constantDouble RL 8 4517329193108106637) (by decide +kernel)) dL_isAged_288 ?_
          refine lv_dadd hx hb dL_isAged_291 g9 ?_
          refine kd_gt (tgt := 337) hx hb dL_isAged_292 dL_isAged_293 (by decide) g10.1 (fun c292 => (g10.2 c292).elim) (fun c292 => ?_)
          refine lv_aload_n hx hb dL_isAged_296 rfl (lv_at hl 3 rfl) ?_
          refine kr_i (W.runV (As := []) (rest := []) ⟨hx, hb, hml, hown, hts⟩ (metX2_drawable l D x r t d (yg + 1) la bs cA cI n hn wm (encO (elO (agH wd (drv wm) h n) n)) (quv (agH wd (drv wm) h n) (elO (agH wd (drv wm) h n) n)) wd zs (agH wd (drv wm) h n) (w3 ++ [(ar, AD8 cD (hadv h n))]) a5 g11) (cwV 0 hts gL_isAged_X2_drawable rfl rfl rfl (by decide +kernel) ⟨Nat.le_of_ble_eq_true rfl, Nat.le_of_ble_eq_true rfl⟩) (prV 2 0 RX2 TX2 4 rfl rfl (ws := [(x, EX r t d (yg + 1))] ++ (rowW r la bs cA (nI n) wm (encO (elO (agH wd (drv wm) h n) n)) (quv (agH wd (drv wm) h n) (elO (agH wd (drv wm) h n) n)) wd zs (agH wd (drv wm) h n) ++ (w3 ++ [(ar, AD8 cD (hadv h n))]))) hP (hK.sub [0, 1] rfl)) rfl rfl hl.1 rfl (lv_room (Nat.le_of_ble_eq_true rfl)) dL_isAged_297 ⟨Nat.le_of_ble_eq_true rfl, Nat.le_of_ble_eq_true rfl⟩) ?_
          refine lv_if_eq (tgt := 333) hx hb dL_isAged_300 (by decide) (fun c300 => ?_) (fun c300 => ?_)
          · refine lv_iconst (v := 1) hx hb dL_isAged_333 (by decide) ?_
            refine lv_goto (tgt := 338) hx hb dL_isAged_334 (by decide) ?_
            have hP := laP_drop hP
            have hD := laD_drop hD
            have hK := hK.sub (tys' := [(cA, .object "VinegarLoft$Barrel"), (cI, .int)]) [0, 1] rfl
            have hP : va_P D vwCl ([(x, EX r t d (yg + 1))] ++ (rowW r la bs cA (nI n) wm (encO (elO (agH wd (drv wm) h n) n)) (quv (agH wd (drv wm) h n) (elO (agH wd (drv wm) h n) n)) wd zs (agH wd (drv wm) h n) ++ w3)) H := hP
            have hD : va_D A ([(x, EX r t d (yg + 1))] ++ (rowW r la bs cA (nI n) wm (encO (elO (agH wd (drv wm) h n) n)) (quv (agH wd (drv wm) h n) (elO (agH wd (drv wm) h n) n)) wd zs (agH wd (drv wm) h n) ++ w3)) := hD
            refine W.widen (k := 1) (n := 8) (Nat.le_of_ble_eq_true rfl) (Nat.le_of_ble_eq_true rfl) ?_
            exact W.zret hx hb hr (by first | rfl | decide) (fun t9 ht9 hW => ⟨⟨_, (), rfl, rfl, by rw [ht9]; exact hP, va_K.moved hW.alike hK, hD⟩, hS.F ht9⟩) hS.2.2 dL_isAged_338
          · refine lv_aload_n hx hb dL_isAged_303 rfl (lv_at hl 3 rfl) ?_
            refine lv_aload_n hx hb dL_isAged_304 rfl (lv_at hl 3 rfl) ?_
            refine kr_i (W.runV (As := []) (rest := [.ref x]) ⟨hx, hb, hml, hown, hts⟩ (metX2_oldest l D x r t d (yg + 1) la bs cA cI n hn wm (encO (elO (agH wd (drv wm) h n) n)) (quv (agH wd (drv wm) h n) (elO (agH wd (drv wm) h n) n)) wd zs (agH wd (drv wm) h n) (w3 ++ [(ar, AD8 cD (hadv h n))]) a5) (cwV 0 hts gL_isAged_X2_oldest rfl rfl rfl (by decide +kernel) ⟨Nat.le_of_ble_eq_true rfl, Nat.le_of_ble_eq_true rfl⟩) (prV 2 0 RX2 TX2 4 rfl rfl (ws := [(x, EX r t d (yg + 1))] ++ (rowW r la bs cA (nI n) wm (encO (elO (agH wd (drv wm) h n) n)) (quv (agH wd (drv wm) h n) (elO (agH wd (drv wm) h n) n)) wd zs (agH wd (drv wm) h n) ++ (w3 ++ [(ar, AD8 cD (hadv h n))]))) hP (hK.sub [0, 1] rfl)) rfl rfl hl.1 rfl (lv_room (Nat.le_of_ble_eq_true rfl)) dL_isAged_305 ⟨Nat.le_of_ble_eq_true rfl, Nat.le_of_ble_eq_true rfl⟩) ?_
            obtain ⟨b, hb1, hb2, hb3, hb4⟩ := g12 c300
            refine ki_eq (show (encO (elO (agH wd (drv wm) h n) n)) = nI b from by rw [hb1]; rfl) ?_
            refine kr_d (W.runV (As := [.int (nI b)]) (rest := []) ⟨hx, hb, hml, hown, hts⟩ (metR_ageOf l D x r t d (yg + 1) la bs cA cI n hn wm (encO (elO (agH wd (drv wm) h n) n)) (quv (agH wd (drv wm) h n) (elO (agH wd (drv wm) h n) n)) wd zs (agH wd (drv wm) h n) (w3 ++ [(ar, AD8 cD (hadv h n))]) b hb2 ) (cwV 1 hts gL_isAged_X2_ageOf rfl rfl rfl (by decide +kernel) ⟨Nat.le_of_ble_eq_true rfl, Nat.le_of_ble_eq_true rfl⟩) (prV 2 0 RX2 TX2 4 rfl rfl (ws := [(x, EX r t d (yg + 1))] ++ (rowW r la bs cA (nI n) wm (encO (elO (agH wd (drv wm) h n) n)) (quv (agH wd (drv wm) h n) (elO (agH wd (drv wm) h n) n)) wd zs (agH wd (drv wm) h n) ++ (w3 ++ [(ar, AD8 cD (hadv h n))]))) hP (hK.sub [0, 1] rfl)) rfl rfl hl.1 rfl (lv_room (Nat.le_of_ble_eq_true rfl)) dL_isAged_308 ⟨Nat.le_of_ble_eq_true rfl, Nat.le_of_ble_eq_true rfl⟩) ?_
            refine lv_ldc2d hx hb hown (hts (.constantDouble RL 68 4622945017495814144) (by decide +kernel)) dL_isAged_311 ?_
            refine kd_lt (tgt := 337) hx hb dL_isAged_314 dL_isAged_315 (by decide) hb3.1 (fun c314 => (hb3.2 c314).elim) (fun c314 => ?_)
            refine lv_aload_n hx hb dL_isAged_318 rfl (lv_at hl 3 rfl) ?_
            refine lv_aload_n hx hb dL_isAged_319 rfl (lv_at hl 3 rfl) ?_
            refine kr_i (W.runV (As := []) (rest := [.ref x]) ⟨hx, hb, hml, hown, hts⟩ (metX2_oldest l D x r t d (yg + 1) la bs cA cI n hn wm (encO (elO (agH wd (drv wm) h n) n)) (quv (agH wd (drv wm) h n) (elO (agH wd (drv wm) h n) n)) wd zs (agH wd (drv wm) h n) (w3 ++ [(ar, AD8 cD (hadv h n))]) a5) (cwV 0 hts gL_isAged_X2_oldest rfl rfl rfl (by decide +kernel) ⟨Nat.le_of_ble_eq_true rfl, Nat.le_of_ble_eq_true rfl⟩) (prV 2 0 RX2 TX2 4 rfl rfl (ws := [(x, EX r t d (yg + 1))] ++ (rowW r la bs cA (nI n) wm (encO (elO (agH wd (drv wm) h n) n)) (quv (agH wd (drv wm) h n) (elO (agH wd (drv wm) h n) n)) wd zs (agH wd (drv wm) h n) ++ (w3 ++ [(ar, AD8 cD (hadv h n))]))) hP (hK.sub [0, 1] rfl)) rfl rfl hl.1 rfl (lv_room (Nat.le_of_ble_eq_true rfl)) dL_isAged_320 ⟨Nat.le_of_ble_eq_true rfl, Nat.le_of_ble_eq_true rfl⟩) ?_
            refine ki_eq (show (encO (elO (agH wd (drv wm) h n) n)) = nI b from by rw [hb1]; rfl) ?_
            refine kr_d (W.runV (As := [.int (nI b)]) (rest := []) ⟨hx, hb, hml, hown, hts⟩ (metR_sugarOf l D x r t d (yg + 1) la bs cA cI n hn wm (encO (elO (agH wd (drv wm) h n) n)) (quv (agH wd (drv wm) h n) (elO (agH wd (drv wm) h n) n)) wd zs (agH wd (drv wm) h n) (w3 ++ [(ar, AD8 cD (hadv h n))]) b hb2 ) (cwV 1 hts gL_isAged_X2_sugarOf rfl rfl rfl (by decide +kernel) ⟨Nat.le_of_ble_eq_true rfl, Nat.le_of_ble_eq_true rfl⟩) (prV 2 0 RX2 TX2 4 rfl rfl (ws := [(x, EX r t d (yg + 1))] ++ (rowW r la bs cA (nI n) wm (encO (elO (agH wd (drv wm) h n) n)) (quv (agH wd (drv wm) h n) (elO (agH wd (drv wm) h n) n)) wd zs (agH wd (drv wm) h n) ++ (w3 ++ [(ar, AD8 cD (hadv h n))]))) hP (hK.sub [0, 1] rfl)) rfl rfl hl.1 rfl (lv_room (Nat.le_of_ble_eq_true rfl)) dL_isAged_323 ⟨Nat.le_of_ble_eq_true rfl, Nat.le_of_ble_eq_true rfl⟩) ?_
            refine lv_ldc2d hx hb hown (hts (.constantDouble RL 73 4627730092099895296) (by decide +kernel)) dL_isAged_326 ?_
            refine kd_lt (tgt := 337) hx hb dL_isAged_329 dL_isAged_330 (by decide) hb4.1 (fun c329 => (hb4.2 c329).elim) (fun c329 => ?_)
            refine lv_iconst (v := 1) hx hb dL_isAged_333 (by decide) ?_
            refine lv_goto (tgt := 338) hx hb dL_isAged_334 (by decide) ?_
            have hP := laP_drop hP
            have hD := laD_drop hD
            have hK := hK.sub (tys' := [(cA, .object "VinegarLoft$Barrel"), (cI, .int)]) [0, 1] rfl
            have hP : va_P D vwCl ([(x, EX r t d (yg + 1))] ++ (rowW r la bs cA (nI n) wm (encO (elO (agH wd (drv wm) h n) n)) (quv (agH wd (drv wm) h n) (elO (agH wd (drv wm) h n) n)) wd zs (agH wd (drv wm) h n) ++ w3)) H := hP
            have hD : va_D A ([(x, EX r t d (yg + 1))] ++ (rowW r la bs cA (nI n) wm (encO (elO (agH wd (drv wm) h n) n)) (quv (agH wd (drv wm) h n) (elO (agH wd (drv wm) h n) n)) wd zs (agH wd (drv wm) h n) ++ w3)) := hD
            refine W.widen (k := 1) (n := 8) (Nat.le_of_ble_eq_true rfl) (Nat.le_of_ble_eq_true rfl) ?_
            exact W.zret hx hb hr (by first | rfl | decide) (fun t9 ht9 hW => ⟨⟨_, (), rfl, rfl, by rw [ht9]; exact hP, va_K.moved hW.alike hK, hD⟩, hS.F ht9⟩) hS.2.2 dL_isAged_338
      · refine lv_dload_n hx hb dL_isAged_97 rfl (lv_at hl 4 rfl) ?_
        refine kd_0 hx hb dL_isAged_98 ?_
        refine kd_zne (tgt := 113) hx hb dL_isAged_99 dL_isAged_100 (by decide) g3 (fun c99 => ?_) (fun c99 => ?_)
        · refine lv_dload hx hb dL_isAged_113 (lv_at hl 0 rfl) ?_
          refine kd_0 hx hb dL_isAged_115 ?_
          refine kd_le (tgt := 139) hx hb dL_isAged_116 dL_isAged_117 (by decide) g4 (fun c116 => (c116 (g6 c99).1).elim) (fun c116 => ?_)
          refine lv_aload_n hx hb dL_isAged_120 rfl (lv_at hl 5 rfl) ?_
          refine lv_aload_n hx hb dL_isAged_121 rfl (lv_at hl 5 rfl) ?_
          refine kr_i (W.runV (As := []) (rest := [.ref x]) ⟨hx, hb, hml, hown, hts⟩ (metX2_oldest l D x r t d (yg + 1) la bs cA cI n hn wm (encO (elO (agH wd (drv wm) h n) n)) (quv (agH wd (drv wm) h n) (elO (agH wd (drv wm) h n) n)) wd zs (agH wd (drv wm) h n) (w3 ++ [(ar, AD8 cD (hadv h n))]) a5) (cwV 0 hts gL_isAged_X2_oldest rfl rfl rfl (by decide +kernel) ⟨Nat.le_of_ble_eq_true rfl, Nat.le_of_ble_eq_true rfl⟩) (prV 2 0 RX2 TX2 4 rfl rfl (ws := [(x, EX r t d (yg + 1))] ++ (rowW r la bs cA (nI n) wm (encO (elO (agH wd (drv wm) h n) n)) (quv (agH wd (drv wm) h n) (elO (agH wd (drv wm) h n) n)) wd zs (agH wd (drv wm) h n) ++ (w3 ++ [(ar, AD8 cD (hadv h n))]))) hP (hK.sub [0, 1] rfl)) rfl rfl hl.1 rfl (lv_room (Nat.le_of_ble_eq_true rfl)) dL_isAged_122 ⟨Nat.le_of_ble_eq_true rfl, Nat.le_of_ble_eq_true rfl⟩) ?_
          obtain ⟨b, hb1, hb2, hb3, hb4⟩ := (g6 c99).2
          refine ki_eq (show (encO (elO (agH wd (drv wm) h n) n)) = nI b from by rw [hb1]; rfl) ?_
          refine kr_d (W.runV (As := [.int (nI b)]) (rest := []) ⟨hx, hb, hml, hown, hts⟩ (metR_ageOf l D x r t d (yg + 1) la bs cA cI n hn wm (encO (elO (agH wd (drv wm) h n) n)) (quv (agH wd (drv wm) h n) (elO (agH wd (drv wm) h n) n)) wd zs (agH wd (drv wm) h n) (w3 ++ [(ar, AD8 cD (hadv h n))]) b hb2 ) (cwV 1 hts gL_isAged_X2_ageOf rfl rfl rfl (by decide +kernel) ⟨Nat.le_of_ble_eq_true rfl, Nat.le_of_ble_eq_true rfl⟩) (prV 2 0 RX2 TX2 4 rfl rfl (ws := [(x, EX r t d (yg + 1))] ++ (rowW r la bs cA (nI n) wm (encO (elO (agH wd (drv wm) h n) n)) (quv (agH wd (drv wm) h n) (elO (agH wd (drv wm) h n) n)) wd zs (agH wd (drv wm) h n) ++ (w3 ++ [(ar, AD8 cD (hadv h n))]))) hP (hK.sub [0, 1] rfl)) rfl rfl hl.1 rfl (lv_room (Nat.le_of_ble_eq_true rfl)) dL_isAged_125 ⟨Nat.le_of_ble_eq_true rfl, Nat.le_of_ble_eq_true rfl⟩) ?_
          refine lv_dload_n hx hb dL_isAged_128 rfl (lv_at hl 3 rfl) ?_
          refine kd_1 hx hb dL_isAged_129 ?_
          refine lv_dadd hx hb dL_isAged_130 hb3 ?_
          refine kd_zne (tgt := 139) hx hb dL_isAged_131 dL_isAged_132 (by decide) (eq_ne hb4) (fun c131 => (c131 hb4).elim) (fun c131 => ?_)
          exact t2 ls (lv_sub hl [0, 1, 2, 3, 4, 5] (rfl))
        · refine lv_dload hx hb dL_isAged_103 (lv_at hl 0 rfl) ?_
          refine kd_0 hx hb dL_isAged_105 ?_
          refine kd_zne (tgt := 139) hx hb dL_isAged_106 dL_isAged_107 (by decide) g4 (fun c106 => (c106 (g5 c99)).elim) (fun c106 => ?_)
          refine lv_goto (tgt := 135) hx hb dL_isAged_110 (by decide) ?_
          exact t2 ls (lv_sub hl [0, 1, 2, 3, 4, 5] (rfl))
  · refine lv_aload_n hx hb dL_isAged_5 rfl (lv_at hl 1 rfl) ?_
    refine kr_i (W.runV (As := []) (rest := []) ⟨hx, hb, hml, hown, hts⟩ (metX2_oldest l D x r t d yg la bs cA cI n hn wm df q wd zs h w3 a2) (cwV 0 hts gL_isAged_X2_oldest rfl rfl rfl (by decide +kernel) ⟨Nat.le_of_ble_eq_true rfl, Nat.le_of_ble_eq_true rfl⟩) (prV 2 0 RX2 TX2 4 rfl rfl (ws := [(x, EX r t d yg)] ++ (rowW r la bs cA (nI n) wm df q wd zs h ++ w3)) hP (hK.sub [0, 1] rfl)) rfl rfl hl.1 rfl (lv_room (Nat.le_of_ble_eq_true rfl)) dL_isAged_6 ⟨Nat.le_of_ble_eq_true rfl, Nat.le_of_ble_eq_true rfl⟩) ?_
    refine lv_if_ge (tgt := 16) hx hb dL_isAged_9 (by decide) (fun c9 => ?_) (fun c9 => ?_)
    · obtain ⟨b, ho⟩ := encO_some c9
      have hbn : b < n := elO_lt h n b ho
      refine lv_aload_n hx hb dL_isAged_16 rfl (lv_at hl 1 rfl) ?_
      refine lv_aload_n hx hb dL_isAged_17 rfl (lv_at hl 1 rfl) ?_
      refine kr_i (W.runV (As := []) (rest := [.ref x]) ⟨hx, hb, hml, hown, hts⟩ (metX2_oldest l D x r t d yg la bs cA cI n hn wm df q wd zs h w3 a2) (cwV 0 hts gL_isAged_X2_oldest rfl rfl rfl (by decide +kernel) ⟨Nat.le_of_ble_eq_true rfl, Nat.le_of_ble_eq_true rfl⟩) (prV 2 0 RX2 TX2 4 rfl rfl (ws := [(x, EX r t d yg)] ++ (rowW r la bs cA (nI n) wm df q wd zs h ++ w3)) hP (hK.sub [0, 1] rfl)) rfl rfl hl.1 rfl (lv_room (Nat.le_of_ble_eq_true rfl)) dL_isAged_18 ⟨Nat.le_of_ble_eq_true rfl, Nat.le_of_ble_eq_true rfl⟩) ?_
      refine ki_eq (show (encO (elO h n)) = nI b from by rw [ho]; rfl) ?_
      refine kr_d (W.runV (As := [.int (nI b)]) (rest := []) ⟨hx, hb, hml, hown, hts⟩ (metR_ageOf l D x r t d yg la bs cA cI n hn wm df q wd zs h w3 b hbn ) (cwV 1 hts gL_isAged_X2_ageOf rfl rfl rfl (by decide +kernel) ⟨Nat.le_of_ble_eq_true rfl, Nat.le_of_ble_eq_true rfl⟩) (prV 2 0 RX2 TX2 4 rfl rfl (ws := [(x, EX r t d yg)] ++ (rowW r la bs cA (nI n) wm df q wd zs h ++ w3)) hP (hK.sub [0, 1] rfl)) rfl rfl hl.1 rfl (lv_room (Nat.le_of_ble_eq_true rfl)) dL_isAged_21 ⟨Nat.le_of_ble_eq_true rfl, Nat.le_of_ble_eq_true rfl⟩) ?_
      refine kd_eq (show (h (8 + b)) = elG h (elO h n) from by rw [ho]; rfl) ?_
      refine lv_dstore_n (lv' := [(3, .double (elG h (elO h n))), (1, .double (suL h n)), (0, .ref x)]) hx hb dL_isAged_24 rfl hl (by decide) rfl (fun ls hl => ?_)
      exact t1 ls (lv_sub hl [0, 1, 2] (rfl))
    · have ho : elO h n = none := encO_none (fun b hb => by have := elO_lt h n b hb; omega) c9
      refine kd_0 hx hb dL_isAged_12 ?_
      refine lv_goto (tgt := 24) hx hb dL_isAged_13 (by decide) ?_
      refine kd_eq (show 0 = elG h (elO h n) from by rw [ho]; rfl) ?_
      refine lv_dstore_n (lv' := [(3, .double (elG h (elO h n))), (1, .double (suL h n)), (0, .ref x)]) hx hb dL_isAged_24 rfl hl (by decide) rfl (fun ls hl => ?_)
      exact t1 ls (lv_sub hl [0, 1, 2] (rfl))

