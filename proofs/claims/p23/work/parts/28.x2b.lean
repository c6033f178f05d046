/-! firstBottleIn (laid by wip/p23/prog/x2b.py): a year tried on the second row -/
theorem vP_mem {D : va_G} {cl : List vw_C} {ws : va_W} {H : Heap} : va_P D cl ws H ↔ ∀ q ∈ ws, va_at D cl q H := by
  constructor
  · intro h q hq
    obtain ⟨k, hk⟩ := List.getElem?_of_mem hq
    exact h k q hk
  · intro h k q hk
    exact h q (List.mem_of_getElem? hk)
theorem vP_perm {D : va_G} {cl : List vw_C} {ws ws' : va_W} {H : Heap} (hp : ws.Perm ws') (h : va_P D cl ws H) : va_P D cl ws' H := vP_mem.mpr fun q hq => vP_mem.mp h q (hp.mem_iff.mpr hq)
theorem vD_iff {A : Nat → Prop} {ws : va_W} : va_D A ws ↔ (ws.map (fun q => q.1)).Nodup ∧ ∀ q ∈ ws, A q.1 := by
  constructor
  · intro h
    refine ⟨List.pairwise_iff_getElem.mpr fun i j hi hj hij e => ?_, fun q hq => ?_⟩
    · rw [List.length_map] at hi hj
      have h1 := h.1 i j ws[i] ws[j] (List.getElem?_eq_getElem hi) (List.getElem?_eq_getElem hj) (by simpa using e)
      omega
    · obtain ⟨k, hk⟩ := List.getElem?_of_mem hq
      exact h.2 k q hk
  · rintro ⟨h1, h2⟩
    refine ⟨fun i j p q hi hj e => ?_, fun k q hk => h2 q (List.mem_of_getElem? hk)⟩
    have e1 : (ws.map (fun q => q.1))[i]? = some p.1 := by rw [List.getElem?_map, hi]; rfl
    have e2 : (ws.map (fun q => q.1))[j]? = some q.1 := by rw [List.getElem?_map, hj]; rfl
    exact (List.getElem?_inj (by rw [List.length_map]; exact (List.getElem?_eq_some_iff.mp hi).1) h1).mp (by rw [e1, e2, e])
theorem vD_perm {A : Nat → Prop} {ws ws' : va_W} (hp : ws.Perm ws') (h : va_D A ws) : va_D A ws' := by
  obtain ⟨h1, h2⟩ := vD_iff.mp h
  exact vD_iff.mpr ⟨(hp.map _).nodup_iff.mp h1, fun q hq => h2 q (hp.mem_iff.mpr hq)⟩
/-- a year tried: the first barrel filled up, the row topped up, the year -/
def stH (wd zs : Nat → Int32) (wm : Int32) (n : Nat) (h : Nat → UInt64) : Nat → UInt64 := agH wd (drv wm) (toH zs (n - 1) (pmH n zs h (FP.i2d 100))) n
def stI (wd zs : Nat → Int32) (wm : Int32) (n : Nat) : Nat → (Nat → UInt64) → Nat → UInt64
  | 0, h => h
  | k + 1, h => stH wd zs wm n (stI wd zs wm n k h)
def stR (wd zs : Nat → Int32) (wm : Int32) (n : Nat) (h : Nat → UInt64) : Int32 := rdv (stH wd zs wm n h) n (encO (elO (stH wd zs wm n h) n)) (quv (stH wd zs wm n h) (elO (stH wd zs wm n h) n))
def fbX (wd zs : Nat → Int32) (wm : Int32) (n : Nat) : Nat → Nat → (Nat → UInt64) → Int32
  | 0, _, _ => -1
  | f + 1, a, h => if 0 < stR wd zs wm n h then nI a else fbX wd zs wm n f (a + 1) (stH wd zs wm n h)
def fbv (wd zs : Nat → Int32) (wm : Int32) (n : Nat) (h : Nat → UInt64) (df : Int32) (q : UInt64) : Int32 := if 0 < rdv h n df q then 0 else fbX wd zs wm n 60 1 h
def stok (wd zs : Nat → Int32) (wm : Int32) (n : Nat) (h : Nat → UInt64) : Prop := (n ≠ 0 → pook (zs 0) h (FP.i2d 100)) ∧ took zs (n - 1) (pmH n zs h (FP.i2d 100)) 0 ∧ drok wm ∧ agok wd (drv wm) (toH zs (n - 1) (pmH n zs h (FP.i2d 100))) n ∧ NNr n (stH wd zs wm n h) ∧ (∀ b, b < n → vf_n64 (FP.dmul 4598175219545276416 (stH wd zs wm n h b))) ∧ rdok (stH wd zs wm n h) n (quv (stH wd zs wm n h) (elO (stH wd zs wm n h) n))
/-- nothing beyond the first n barrels -/
def zerI (n : Nat) (f : Nat → Int32) : Prop := ∀ k, n ≤ k → f k = 0
def zerH (n : Nat) (h : Nat → UInt64) : Prop := ∀ k, (32 ≤ k ∨ n ≤ k % 8) → h k = 0
theorem cpI_z {n : Nat} {f g : Nat → Int32} (h1 : zerI n f) (h2 : zerI n g) : cpI n f g = g := by
  funext k
  unfold cpI
  split
  · rfl
  · rw [h1 k (by omega), h2 k (by omega)]
theorem cpH_z {n : Nat} {f g : Nat → UInt64} (h1 : zerH n f) (h2 : zerH n g) : cpH n f g = g := by
  funext k
  unfold cpH
  split
  · rfl
  · rename_i h3
    have h4 : 32 ≤ k ∨ n ≤ k % 8 := by
      by_cases h5 : k < 32
      · exact Or.inr (Nat.le_of_not_lt fun h6 => h3 ⟨h5, h6⟩)
      · exact Or.inl (by omega)
    rw [h1 k h4, h2 k h4]
/-- the second row: anything, but nothing beyond the first n -/
def ZT (n nt : Nat) (wdt zst : Nat → Int32) (ht : Nat → UInt64) : Prop := nt ≤ 8 ∧ zerI n wdt ∧ zerI n zst ∧ zerH n ht
abbrev TRW : Type := Nat × Int32 × Int32 × UInt64 × (Nat → Int32) × (Nat → Int32) × (Nat → UInt64)
set_option maxHeartbeats 4000000 in
set_option maxRecDepth 100000 in
/-- firstBottleIn() -/
theorem metX2_firstBottleIn (l : Launch) (D : va_G) (sz : Nat) (x r t d : Nat) (yg : Int32) (la : Nat) (bs : Nat → Nat) (cA cI : ClassId) (n : Nat) (hn : n ≤ 8) (wm df : Int32) (q : UInt64) (wd zs : Nat → Int32) (h : Nat → UInt64) (lt : Nat) (bt : Nat → Nat) (nt : Nat) (wmt dft : Int32) (qt : UInt64) (wdt zst : Nat → Int32) (ht : Nat → UInt64) (dk : Nat → Int32) (hN : NNr n h) (hr9 : rdok h n q) (hok : ∀ i, i < 60 → stok wd zs wm n (stI wd zs wm n i h)) (hz0 : ZT n nt wdt zst ht) (hz1 : zerI n wd) (hz2 : zerI n zs) (hz3 : ∀ k, zerH n (stI wd zs wm n k h)) : Met l yX2_firstBottleIn wsX2_firstBottleIn { frames := 4, cells := 0, slots := 0, locals := 107 } (Pm D [(cA, .object "VinegarLoft$Barrel"), (cI, .int)] [.ref x] ([(x, EX r t d yg)] ++ (rowW r la bs cA (nI n) wm df q wd zs h ++ (rowW t lt bt cA (nI nt) wmt dft qt wdt zst ht ++ [(d, ED cI dk)]))) sz) (va_Qi (fun (r9 : Int32) (u : TRW) => r9 = fbv wd zs wm n h df q ∧ ZT n u.1 u.2.2.2.2.1 u.2.2.2.2.2.1 u.2.2.2.2.2.2) (fun u t9 => va_P D vwCl ([(x, EX r t d yg)] ++ (rowW r la bs cA (nI n) wm df q wd zs h ++ (rowW t lt bt cA (nI u.1) u.2.1 u.2.2.1 u.2.2.2.1 u.2.2.2.2.1 u.2.2.2.2.2.1 u.2.2.2.2.2.2 ++ [(d, ED cI dk)]))) t9.heap ∧ va_K D vwCl [(cA, .object "VinegarLoft$Barrel"), (cI, .int)] t9 ∧ va_D (va_A ([(x, EX r t d yg)] ++ (rowW r la bs cA (nI n) wm df q wd zs h ++ (rowW t lt bt cA (nI nt) wmt dft qt wdt zst ht ++ [(d, ED cI dk)]))) sz) ([(x, EX r t d yg)] ++ (rowW r la bs cA (nI n) wm df q wd zs h ++ (rowW t lt bt cA (nI u.1) u.2.1 u.2.2.1 u.2.2.2.1 u.2.2.2.2.1 u.2.2.2.2.2.1 u.2.2.2.2.2.2 ++ [(d, ED cI dk)])))) (va_A ([(x, EX r t d yg)] ++ (rowW r la bs cA (nI n) wm df q wd zs h ++ (rowW t lt bt cA (nI nt) wmt dft qt wdt zst ht ++ [(d, ED cI dk)]))) sz)) 0 0 (va_A ([(x, EX r t d yg)] ++ (rowW r la bs cA (nI n) wm df q wd zs h ++ (rowW t lt bt cA (nI nt) wmt dft qt wdt zst ht ++ [(d, ED cI dk)]))) sz) := by
  refine Met.ofW (cc := cX2_firstBottleIn) (maxL := 2) (ret := (some .int)) (by decide) rfl ?_
  intro p e s m args below meth c s₁ B hml hv
  obtain ⟨rfl, hsz, hP, hK, hD0⟩ := hv
  have hx := B.exec
  have hb := B.bytes
  have hr := B.returns
  have hts := atoms_spec (ws := wsX2_firstBottleIn) B.pre
  have hown : s.vm.findClass RX2 = some m.cls := findClass_of_methodNamed B.named
  have hlocks := B.notSynchronized
  subst hsz
  have hD := hD0.self (sz := s.heap.size)
  generalize hAe : va_A ([(x, EX r t d yg)] ++ (rowW r la bs cA (nI n) wm df q wd zs h ++ (rowW t lt bt cA (nI nt) wmt dft qt wdt zst ht ++ [(d, ED cI dk)]))) s.heap.size = A at hD ⊢
  have hA : ∀ q : Nat, s.heap.size ≤ q → A q := fun q h => by rw [← hAe]; exact Or.inr h
  refine kW_H (fun H hH => ?_)
  have hP : va_P D vwCl ([(x, EX r t d yg)] ++ (rowW r la bs cA (nI n) wm df q wd zs h ++ (rowW t lt bt cA (nI nt) wmt dft qt wdt zst ht ++ [(d, ED cI dk)]))) H := by rw [hH]; exact hP
  have hS : va_S A s.heap H [] := by rw [hH]; exact va_S.rf
  have hl := lv_entry ([.ref x]) (n := 2) (Nat.le_of_ble_eq_true rfl)
  rw [lg_entry_eq]
  generalize (lg_sl ([.ref x]) ++ List.replicate (2 - (lg_sl ([.ref x])).length) Slot.unset).toArray = ls at hl ⊢
  have hl : lv_has ls 2 [(0, .ref x)] := hl
  refine lv_aload_n hx hb dX2_firstBottleIn_0 rfl (lv_at hl 0 rfl) ?_
  refine va_get (D := D) (ci := 2) (v := .ref r) (C := RX2) (T := TX2) (N := 4) hx hb hts (by decide +kernel) hown hK hP (0) rfl rfl 0 (by decide) (hts (.fieldLink RX2 10 "VinegarLoft" "row" "LVinegarLoft$Row;") (by decide +kernel)) (fun _ h9 => h9) rfl dX2_firstBottleIn_1 ?_
  refine kr_i (W.runV (As := []) (rest := []) ⟨hx, hb, hml, hown, hts⟩ (metX1_bottlesReady l D r la bs cA n hn wm df q wd zs h hN hr9) (cwV 0 hts gX2_firstBottleIn_X1_bottlesReady rfl rfl rfl (by decide +kernel) ⟨Nat.le_of_ble_eq_true rfl, Nat.le_of_ble_eq_true rfl⟩) (prV 1 0 RX1 TX1 5 rfl rfl (vj_mP hP) (hK.sub [0] rfl)) rfl rfl hl.1 rfl (lv_room (Nat.le_of_ble_eq_true rfl)) dX2_firstBottleIn_4 ⟨Nat.le_of_ble_eq_true rfl, Nat.le_of_ble_eq_true rfl⟩) ?_
  refine lv_if_le (tgt := 12) hx hb dX2_firstBottleIn_7 (by decide) (fun c7 => ?_) (fun c7 => ?_)
  · refine lv_aload_n hx hb dX2_firstBottleIn_12 rfl (lv_at hl 0 rfl) ?_
    refine va_get (D := D) (ci := 2) (v := .ref t) (C := RX2) (T := TX2) (N := 4) hx hb hts (by decide +kernel) hown hK hP (0) rfl rfl 1 (by decide) (hts (.fieldLink RX2 16 "VinegarLoft" "trial" "LVinegarLoft$Row;") (by decide +kernel)) (fun _ h9 => h9) rfl dX2_firstBottleIn_13 ?_
    refine lv_aload_n hx hb dX2_firstBottleIn_16 rfl (lv_at hl 0 rfl) ?_
    refine va_get (D := D) (ci := 2) (v := .ref r) (C := RX2) (T := TX2) (N := 4) hx hb hts (by decide +kernel) hown hK hP (0) rfl rfl 0 (by decide) (hts (.fieldLink RX2 10 "VinegarLoft" "row" "LVinegarLoft$Row;") (by decide +kernel)) (fun _ h9 => h9) rfl dX2_firstBottleIn_17 ?_
    have hP : va_P D vwCl ([(x, EX r t d yg)] ++ ((rowW t lt bt cA (nI nt) wmt dft qt wdt zst ht ++ rowW r la bs cA (nI n) wm df q wd zs h) ++ [(d, ED cI dk)])) H := by rw [List.append_assoc]; exact vP_perm ((List.perm_append_comm_assoc _ _ _).append_left _) hP
    have hD : va_D A ([(x, EX r t d yg)] ++ ((rowW t lt bt cA (nI nt) wmt dft qt wdt zst ht ++ rowW r la bs cA (nI n) wm df q wd zs h) ++ [(d, ED cI dk)])) := by rw [List.append_assoc]; exact vD_perm ((List.perm_append_comm_assoc _ _ _).append_left _) hD
    refine kc_v (w1 := [(x, EX r t d yg)]) (w3 := [(d, ED cI dk)]) (va_runV (As := [.ref r]) (rest := []) ⟨hx, hb, hml, hown, hts⟩ (metX1_copyFrom l D H.size t lt bt cA nt hz0.1 wmt dft qt wdt zst ht r la bs n hn wm df q wd zs h) (cwV 1 hts gX2_firstBottleIn_X1_copyFrom rfl rfl rfl (by decide +kernel) ⟨Nat.le_of_ble_eq_true rfl, Nat.le_of_ble_eq_true rfl⟩) (pmV 1 0 RX1 TX1 5 rfl rfl (vj_mP hP) (hK.sub [0] rfl) (vj_mD hD)) rfl rfl hl.1 rfl (lv_room (Nat.le_of_ble_eq_true rfl)) dX2_firstBottleIn_20 ⟨Nat.le_of_ble_eq_true rfl, Nat.le_of_ble_eq_true rfl⟩) hP hD hS hA (fun H locs hP hD hS => ?_)
    rw [cpI_z hz0.2.1 hz1, cpI_z hz0.2.2.1 hz2, cpH_z hz0.2.2.2 (show zerH n h from hz3 0), List.append_assoc] at hP hD
    have hP : va_P D vwCl (([(x, EX r t d yg)] ++ rowW r la bs cA (nI n) wm df q wd zs h) ++ (rowW t lt bt cA (nI n) wm df q wd zs h ++ [(d, ED cI dk)])) H := by rw [List.append_assoc]; exact vP_perm ((List.perm_append_comm_assoc _ _ _).append_left _) hP
    have hD : va_D A (([(x, EX r t d yg)] ++ rowW r la bs cA (nI n) wm df q wd zs h) ++ (rowW t lt bt cA (nI n) wm df q wd zs h ++ [(d, ED cI dk)])) := by rw [List.append_assoc]; exact vD_perm ((List.perm_append_comm_assoc _ _ _).append_left _) hD
    refine lv_iconst (v := 1) hx hb dX2_firstBottleIn_23 (by decide) ?_
    refine lv_istore_n (lv' := [(1, .int 1), (0, .ref x)]) hx hb dX2_firstBottleIn_24 rfl hl (by decide) rfl (fun ls hl => ?_)
    refine kW_up 60 (fun i H locs ls => ∃ (df' : Int32) (q' : UInt64), fbX wd zs wm n (60 - i) (i + 1) (stI wd zs wm n i h) = fbX wd zs wm n 60 1 h ∧ va_P D vwCl (([(x, EX r t d yg)] ++ rowW r la bs cA (nI n) wm df q wd zs h) ++ (rowW t lt bt cA (nI n) wm (df') (q') wd zs (stI wd zs wm n i h) ++ [(d, ED cI dk)])) H ∧ va_D A (([(x, EX r t d yg)] ++ rowW r la bs cA (nI n) wm df q wd zs h) ++ (rowW t lt bt cA (nI n) wm (df') (q') wd zs (stI wd zs wm n i h) ++ [(d, ED cI dk)])) ∧ va_S A s.heap H locs ∧ lv_has ls 2 [(1, .int (nI (i + 1))), (0, .ref x)]) (fun i H locs ls hi hI ih => ?_) (fun H locs ls hI => ?_) ⟨df, q, rfl, hP, hD, hS, lv_sub hl [0, 1] rfl⟩
    · obtain ⟨df', q', e1, hP, hD, hS, hl⟩ := hI
      obtain ⟨s1, s2, s3, s4, s5, s6, s7⟩ := hok i hi
      have e0 : 60 - i = (60 - (i + 1)) + 1 := by omega
      rw [e0] at e1
      have e1' : (if 0 < stR wd zs wm n (stI wd zs wm n i h) then nI (i + 1) else fbX wd zs wm n (60 - (i + 1)) (i + 1 + 1) (stI wd zs wm n (i + 1) h)) = fbX wd zs wm n 60 1 h := e1
      refine lv_iload_n hx hb dX2_firstBottleIn_25 rfl (lv_at hl 0 rfl) ?_
      refine lv_bipush (v := 60) hx hb dX2_firstBottleIn_26 (by decide) ?_
      refine lv_icmp_gt (tgt := 75) hx hb dX2_firstBottleIn_28 (by decide) (fun c28 => absurd c28 (fun h9 => absurd ((nI_ltI (a := 60) (b := i + 1) (by decide) (by omega)).mp h9) (by omega))) (fun c28 => ?_)
      refine lv_aload_n hx hb dX2_firstBottleIn_31 rfl (lv_at hl 1 rfl) ?_
      refine va_get (D := D) (ci := 2) (v := .ref t) (C := RX2) (T := TX2) (N := 4) hx hb hts (by decide +kernel) hown hK hP (0) rfl rfl 1 (by decide) (hts (.fieldLink RX2 16 "VinegarLoft" "trial" "LVinegarLoft$Row;") (by decide +kernel)) (fun _ h9 => h9) rfl dX2_firstBottleIn_32 ?_
      refine lv_bipush (v := 100) hx hb dX2_firstBottleIn_35 (by decide) ?_
      refine kc_d (w1 := [(x, EX r t d yg)] ++ rowW r la bs cA (nI n) wm df q wd zs h) (w3 := [(d, ED cI dk)]) (va_runV (As := [.int 100]) (rest := []) ⟨hx, hb, hml, hown, hts⟩ (metX1_pourMust l D H.size t lt bt cA n hn wm df' q' wd zs (stI wd zs wm n i h) 100 s1) (cwV 1 hts gX2_firstBottleIn_X1_pourMust rfl rfl rfl (by decide +kernel) ⟨Nat.le_of_ble_eq_true rfl, Nat.le_of_ble_eq_true rfl⟩) (pmV 1 0 RX1 TX1 5 rfl rfl (vj_mP hP) (hK.sub [0] rfl) (vj_mD hD)) rfl rfl hl.1 rfl (lv_room (Nat.le_of_ble_eq_true rfl)) dX2_firstBottleIn_37 ⟨Nat.le_of_ble_eq_true rfl, Nat.le_of_ble_eq_true rfl⟩) hP hD hS hA (fun H locs hP hD hS => ?_)
      have hP : va_P D vwCl (([(x, EX r t d yg)] ++ rowW r la bs cA (nI n) wm df q wd zs h) ++ (rowW t lt bt cA (nI n) wm (df') (q') wd zs (pmH n zs (stI wd zs wm n i h) (FP.i2d 100)) ++ [(d, ED cI dk)])) H := hP
      have hD : va_D A (([(x, EX r t d yg)] ++ rowW r la bs cA (nI n) wm df q wd zs h) ++ (rowW t lt bt cA (nI n) wm (df') (q') wd zs (pmH n zs (stI wd zs wm n i h) (FP.i2d 100)) ++ [(d, ED cI dk)])) := hD
      refine lv_pop2_2 hx hb dX2_firstBottleIn_40 rfl ?_
      refine lv_aload_n hx hb dX2_firstBottleIn_41 rfl (lv_at hl 1 rfl) ?_
      refine va_get (D := D) (ci := 2) (v := .ref t) (C := RX2) (T := TX2) (N := 4) hx hb hts (by decide +kernel) hown hK hP (0) rfl rfl 1 (by decide) (hts (.fieldLink RX2 16 "VinegarLoft" "trial" "LVinegarLoft$Row;") (by decide +kernel)) (fun _ h9 => h9) rfl dX2_firstBottleIn_42 ?_
      refine kc_d (w1 := [(x, EX r t d yg)] ++ rowW r la bs cA (nI n) wm df q wd zs h) (w3 := [(d, ED cI dk)]) (va_runV (As := []) (rest := []) ⟨hx, hb, hml, hown, hts⟩ (metX1_passDown l D H.size t lt bt cA n hn wm df' q' wd zs (pmH n zs (stI wd zs wm n i h) (FP.i2d 100)) s2) (cwV 0 hts gX2_firstBottleIn_X1_passDown rfl rfl rfl (by decide +kernel) ⟨Nat.le_of_ble_eq_true rfl, Nat.le_of_ble_eq_true rfl⟩) (pmV 1 0 RX1 TX1 5 rfl rfl (vj_mP hP) (hK.sub [0] rfl) (vj_mD hD)) rfl rfl hl.1 rfl (lv_room (Nat.le_of_ble_eq_true rfl)) dX2_firstBottleIn_45 ⟨Nat.le_of_ble_eq_true rfl, Nat.le_of_ble_eq_true rfl⟩) hP hD hS hA (fun H locs hP hD hS => ?_)
      have hP : va_P D vwCl (([(x, EX r t d yg)] ++ rowW r la bs cA (nI n) wm df q wd zs h) ++ (rowW t lt bt cA (nI n) wm (df') (q') wd zs (toH zs (n - 1) (pmH n zs (stI wd zs wm n i h) (FP.i2d 100))) ++ [(d, ED cI dk)])) H := hP
      have hD : va_D A (([(x, EX r t d yg)] ++ rowW r la bs cA (nI n) wm df q wd zs h) ++ (rowW t lt bt cA (nI n) wm (df') (q') wd zs (toH zs (n - 1) (pmH n zs (stI wd zs wm n i h) (FP.i2d 100))) ++ [(d, ED cI dk)])) := hD
      refine lv_pop2_2 hx hb dX2_firstBottleIn_48 rfl ?_
      refine lv_aload_n hx hb dX2_firstBottleIn_49 rfl (lv_at hl 1 rfl) ?_
      refine va_get (D := D) (ci := 2) (v := .ref t) (C := RX2) (T := TX2) (N := 4) hx hb hts (by decide +kernel) hown hK hP (0) rfl rfl 1 (by decide) (hts (.fieldLink RX2 16 "VinegarLoft" "trial" "LVinegarLoft$Row;") (by decide +kernel)) (fun _ h9 => h9) rfl dX2_firstBottleIn_50 ?_
      refine kc_d (w1 := [(x, EX r t d yg)] ++ rowW r la bs cA (nI n) wm df q wd zs h) (w3 := [(d, ED cI dk)]) (va_runV (As := []) (rest := []) ⟨hx, hb, hml, hown, hts⟩ (metX1_ageAll l D H.size t lt bt cA n hn wm df' q' wd zs (toH zs (n - 1) (pmH n zs (stI wd zs wm n i h) (FP.i2d 100))) s3 s4 s5 s6) (cwV 0 hts gX2_firstBottleIn_X1_ageAll rfl rfl rfl (by decide +kernel) ⟨Nat.le_of_ble_eq_true rfl, Nat.le_of_ble_eq_true rfl⟩) (pmV 1 0 RX1 TX1 5 rfl rfl (vj_mP hP) (hK.sub [0] rfl) (vj_mD hD)) rfl rfl hl.1 rfl (lv_room (Nat.le_of_ble_eq_true rfl)) dX2_firstBottleIn_53 ⟨Nat.le_of_ble_eq_true rfl, Nat.le_of_ble_eq_true rfl⟩) hP hD hS hA (fun H locs hP hD hS => ?_)
      have hP : va_P D vwCl (([(x, EX r t d yg)] ++ rowW r la bs cA (nI n) wm df q wd zs h) ++ (rowW t lt bt cA (nI n) wm (encO (elO (stI wd zs wm n (i + 1) h) n)) (quv (stI wd zs wm n (i + 1) h) (elO (stI wd zs wm n (i + 1) h) n)) wd zs (stI wd zs wm n (i + 1) h) ++ [(d, ED cI dk)])) H := hP
      have hD : va_D A (([(x, EX r t d yg)] ++ rowW r la bs cA (nI n) wm df q wd zs h) ++ (rowW t lt bt cA (nI n) wm (encO (elO (stI wd zs wm n (i + 1) h) n)) (quv (stI wd zs wm n (i + 1) h) (elO (stI wd zs wm n (i + 1) h) n)) wd zs (stI wd zs wm n (i + 1) h) ++ [(d, ED cI dk)])) := hD
      refine lv_pop2_2 hx hb dX2_firstBottleIn_56 rfl ?_
      refine lv_aload_n hx hb dX2_firstBottleIn_57 rfl (lv_at hl 1 rfl) ?_
      refine va_get (D := D) (ci := 2) (v := .ref t) (C := RX2) (T := TX2) (N := 4) hx hb hts (by decide +kernel) hown hK hP (0) rfl rfl 1 (by decide) (hts (.fieldLink RX2 16 "VinegarLoft" "trial" "LVinegarLoft$Row;") (by decide +kernel)) (fun _ h9 => h9) rfl dX2_firstBottleIn_58 ?_
      refine kr_i (W.runV (As := []) (rest := []) ⟨hx, hb, hml, hown, hts⟩ (metX1_bottlesReady l D t lt bt cA n hn wm (encO (elO (stH wd zs wm n (stI wd zs wm n i h)) n)) (quv (stH wd zs wm n (stI wd zs wm n i h)) (elO (stH wd zs wm n (stI wd zs wm n i h)) n)) wd zs (stH wd zs wm n (stI wd zs wm n i h)) s5 s7) (cwV 0 hts gX2_firstBottleIn_X1_bottlesReady rfl rfl rfl (by decide +kernel) ⟨Nat.le_of_ble_eq_true rfl, Nat.le_of_ble_eq_true rfl⟩) (prV 1 0 RX1 TX1 5 rfl rfl (vj_mP hP) (hK.sub [0] rfl)) rfl rfl hl.1 rfl (lv_room (Nat.le_of_ble_eq_true rfl)) dX2_firstBottleIn_61 ⟨Nat.le_of_ble_eq_true rfl, Nat.le_of_ble_eq_true rfl⟩) ?_
      refine lv_if_le (tgt := 69) hx hb dX2_firstBottleIn_64 (by decide) (fun c64 => ?_) (fun c64 => ?_)
      · have e2 : fbX wd zs wm n (60 - (i + 1)) (i + 1 + 1) (stI wd zs wm n (i + 1) h) = fbX wd zs wm n 60 1 h := by rw [← e1', if_neg (show ¬ 0 < stR wd zs wm n (stI wd zs wm n i h) from i32_nlt c64)]
        refine lv_iinc (v := nI (i + 1 + 1)) (lv' := [(1, .int (nI (i + 1 + 1))), (0, .ref x)]) hx hb dX2_firstBottleIn_69 hl (k := 0) rfl (nI_1 (i + 1)) (by decide) rfl (fun ls hl => ?_)
        refine lv_goto (tgt := 25) hx hb dX2_firstBottleIn_72 (by decide) ?_
        exact ih H locs ls ⟨_, _, e2, hP, hD, hS, lv_sub hl [0, 1] rfl⟩
      · refine lv_iload_n hx hb dX2_firstBottleIn_67 rfl (lv_at hl 0 rfl) ?_
        rw [List.append_assoc] at hP hD
        exact W.iret hx hb hr (fun t9 ht9 hW => ⟨⟨_, (n, wm, encO (elO (stI wd zs wm n (i + 1) h) n), quv (stI wd zs wm n (i + 1) h) (elO (stI wd zs wm n (i + 1) h) n), wd, zs, (stI wd zs wm n (i + 1) h)), rfl, ⟨by unfold fbv; rw [if_neg (i32_nlt c7), ← e1', if_pos (show 0 < stR wd zs wm n (stI wd zs wm n i h) from i32_pos c64)], ⟨hn, hz1, hz2, hz3 (i + 1)⟩⟩, by rw [ht9]; exact hP, va_K.moved hW.alike hK, hD⟩, hS.F ht9⟩) hS.2.2 dX2_firstBottleIn_68
    · obtain ⟨df', q', e1, hP, hD, hS, hl⟩ := hI
      refine lv_iload_n hx hb dX2_firstBottleIn_25 rfl (lv_at hl 0 rfl) ?_
      refine lv_bipush (v := 60) hx hb dX2_firstBottleIn_26 (by decide) ?_
      refine lv_icmp_gt (tgt := 75) hx hb dX2_firstBottleIn_28 (by decide) (fun c28 => ?_) (fun c28 => absurd (by decide) c28)
      refine lv_iconst (v := (-1)) hx hb dX2_firstBottleIn_75 (by decide) ?_
      rw [List.append_assoc] at hP hD
      exact W.iret hx hb hr (fun t9 ht9 hW => ⟨⟨_, (n, wm, df', q', wd, zs, (stI wd zs wm n 60 h)), rfl, ⟨by unfold fbv; rw [if_neg (i32_nlt c7), ← e1]; rfl, ⟨hn, hz1, hz2, hz3 60⟩⟩, by rw [ht9]; exact hP, va_K.moved hW.alike hK, hD⟩, hS.F ht9⟩) hS.2.2 dX2_firstBottleIn_76
  · refine lv_iconst (v := 0) hx hb dX2_firstBottleIn_10 (by decide) ?_
    exact W.iret hx hb hr (fun t9 ht9 hW => ⟨⟨_, (nt, wmt, dft, qt, wdt, zst, ht), rfl, ⟨by unfold fbv; rw [if_pos (i32_pos c7)], hz0⟩, by rw [ht9]; exact hP, va_K.moved hW.alike hK, hD⟩, hS.F ht9⟩) hS.2.2 dX2_firstBottleIn_11
