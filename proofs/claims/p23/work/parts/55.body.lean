/-! the law's body (laid by wip/p23/prog/y5.py) -/
/-- while barrels are put up: i of them, the next one's size z -/
def SP (i F z : Nat) (wd zs : Nat → Int32) : Prop := (∀ j, j < i → ZB (zs j)) ∧ zerI i wd ∧ zerI i zs ∧ (i = 0 → z = F) ∧ (0 < i → zs 0 = nI F ∧ ∃ k, zs (i - 1) = nI k ∧ z + 1 ≤ k ∧ k ≤ 100) ∧ z ≤ 100 ∧ 60 ≤ z + 6 * i
theorem SP_bad {i F z W : Nat} {wd zs : Nat → Int32} (h : SP i F z wd zs) (hi : i < 8) (hW : W < 4) : ¬ badA1 zs i (nI W) (nI z) := by
  obtain ⟨h1, h2, h3, h4, h5, h6, h7⟩ := h
  refine nbadA1 (nI_pos (by omega)) (nI_lt (a := W) (b := 4) hW (by decide)) (nI_nlt (b := 10) (a := z) (by omega) (by omega)) ?_
  unfold lgN
  by_cases hi0 : i = 0
  · rw [if_pos hi0]
    exact nI_le (a := z) (b := 100) h6 (by decide)
  · rw [if_neg hi0]
    obtain ⟨h8, k, h9, h10, h11⟩ := h5 (by omega)
    rw [h9, nI_p (by omega)]
    exact nI_le (by omega) (by omega)
theorem SP_next {i F z W dd : Nat} {wd zs : Nat → Int32} (h : SP i F z wd zs) (hi : i < 8) (hd : dd < 6) : SP (i + 1) F (z - (1 + dd)) (va_up wd i (nI W)) (va_up zs i (nI z)) := by
  obtain ⟨h1, h2, h3, h4, h5, h6, h7⟩ := h
  refine ⟨fun j hj => ?_, fun k hk => ?_, fun k hk => ?_, fun h => absurd h (by omega), fun _ => ⟨?_, z, ?_, by omega, h6⟩, by omega, by omega⟩
  · show ZB (if j = i then nI z else zs j)
    split
    · exact ⟨z, by omega, h6, rfl⟩
    · exact h1 j (by omega)
  · show (if k = i then nI W else wd k) = 0
    rw [if_neg (by omega)]
    exact h2 k (by omega)
  · show (if k = i then nI z else zs k) = 0
    rw [if_neg (by omega)]
    exact h3 k (by omega)
  · show (if 0 = i then nI z else zs 0) = nI F
    split
    · rw [h4 (by omega)]
    · exact (h5 (by omega)).1
  · show (if i + 1 - 1 = i then nI z else zs (i + 1 - 1)) = nI z
    rw [if_pos (by omega)]
theorem hset_0 {i : Nat} : hset (fun _ => 0) i 0 0 0 0 = (fun _ => 0 : Nat → UInt64) := by
  funext j
  unfold hset
  repeat' split
  all_goals rfl
theorem SP_0 {F : Nat} (h1 : 60 ≤ F) (h2 : F ≤ 100) : SP 0 F F (fun _ => 0) (fun _ => 0) := ⟨fun j hj => absurd hj (Nat.not_lt_zero j), fun _ _ => rfl, fun _ _ => rfl, fun _ => rfl, fun h => absurd h (Nat.lt_irrefl 0), h2, by omega⟩
set_option maxHeartbeats 4000000 in
set_option maxRecDepth 100000 in
/-- one barrel more -/
theorem law_add {p : Program} {l : Launch} {e : Env} {s : State} {m : MethodId} {below : List Frame} {meth : Method} {c : Code} {Q : State → Prop} {D : va_G} {b L : Nat} {xs : Nat → Int32} {x r t d la : Nat} {bs : Nat → Nat} {lt : Nat} {bt : Nat → Nat} {cA cI : ClassId} (C : LC p l s m c D b L xs cA cI) (n : Nat) (hn : n ≤ 8) (F : Nat) (u : TRW) {i z : Nat} (hi : i < n) {cells slots : Nat} (hc : cells ≤ 1000) (hs : slots ≤ 10000) (wd zs : Nat → Int32) (hSP : SP i F z wd zs)
    (kk : ∀ (z' : Nat) (wd' zs' : Nat → Int32) (H : Heap) (locs : List Loc) (ls : Array Slot), SP (i + 1) F z' wd' zs' → va_P D vwCl ([(x, EX r t d 0)] ++ (rowW r la bs cA (nI (i + 1)) 18 (-1) 0 (wd') (zs') (fun _ => 0) ++ (rowW t lt bt cA (nI u.1) u.2.1 u.2.2.1 u.2.2.2.1 u.2.2.2.2.1 u.2.2.2.2.2.1 u.2.2.2.2.2.2 ++ [(d, ED cI (fun _ => 0))]))) H → va_D (Ah s) ([(x, EX r t d 0)] ++ (rowW r la bs cA (nI (i + 1)) 18 (-1) 0 (wd') (zs') (fun _ => 0) ++ (rowW t lt bt cA (nI u.1) u.2.1 u.2.2.1 u.2.2.2.1 u.2.2.2.2.1 u.2.2.2.2.2.1 u.2.2.2.2.2.2 ++ [(d, ED cI (fun _ => 0))]))) → va_S (Ah s) s.heap H locs → lv_has ls 9 [(6, .int (nI (i + 1))), (5, .int 1), (4, .int (nI z')), (3, .int (nI F)), (2, .int (nI n)), (1, .ref x), (0, .ref b)] → W p l e room_1 s m #[Value.ref b] below meth c H locs (cells + 1) (slots + 6) Q (F0 m 38 ls []))
    {H : Heap} {locs : List Loc} {ls : Array Slot} (hP : va_P D vwCl ([(x, EX r t d 0)] ++ (rowW r la bs cA (nI i) 18 (-1) 0 wd zs (fun _ => 0) ++ (rowW t lt bt cA (nI u.1) u.2.1 u.2.2.1 u.2.2.2.1 u.2.2.2.2.1 u.2.2.2.2.2.1 u.2.2.2.2.2.2 ++ [(d, ED cI (fun _ => 0))]))) H) (hD : va_D (Ah s) ([(x, EX r t d 0)] ++ (rowW r la bs cA (nI i) 18 (-1) 0 wd zs (fun _ => 0) ++ (rowW t lt bt cA (nI u.1) u.2.1 u.2.2.1 u.2.2.2.1 u.2.2.2.2.1 u.2.2.2.2.2.1 u.2.2.2.2.2.2 ++ [(d, ED cI (fun _ => 0))])))) (hS : va_S (Ah s) s.heap H locs) (hl : lv_has ls 9 [(6, .int (nI i)), (5, .int 1), (4, .int (nI z)), (3, .int (nI F)), (2, .int (nI n)), (1, .ref x), (0, .ref b)]) :
    W p l e room_1 s m #[Value.ref b] below meth c H locs cells slots Q (F0 m 38 ls []) := by
  obtain ⟨hx, hb, hml, hown, hts, hK, hX, hst, hXs, hbl, hL⟩ := id C
  have hA : ∀ q : Nat, s.heap.size ≤ q → Ah s q := fun _ h => h
  have hbA : ¬ Ah s b := Nat.not_le.mpr hbl
  refine lv_iload hx hb dL_law_38 (lv_at hl 0 rfl) ?_
  refine lv_iload_n hx hb dL_law_40 rfl (lv_at hl 4 rfl) ?_
  refine lv_icmp_ge (tgt := 100) hx hb dL_law_41 (by decide) (fun c41 => (i32_le_nlt c41 (nI_lt (a := i) (b := n) hi (by omega))).elim) (fun c41 => ?_)
  refine lv_iload hx hb dL_law_44 (lv_at hl 1 rfl) ?_
  refine lv_if_eq (tgt := 73) hx hb dL_law_46 (by decide) (fun c46 => (i32_n1 c46).elim) (fun c46 => ?_)
  refine lv_aload_n hx hb dL_law_49 rfl (lv_at hl 5 rfl) ?_
  refine lv_aload_n hx hb dL_law_50 rfl (lv_at hl 6 rfl) ?_
  refine lv_iconst (v := 2) hx hb dL_law_51 (by decide) ?_
  refine lv_iload hx hb dL_law_52 (lv_at hl 0 rfl) ?_
  refine lv_iadd hx hb dL_law_54 ?_
  refine lv_iconst (v := 4) hx hb dL_law_55 (by decide) ?_
  refine W.eq (g2 := F0 m 56 ls (.int 4 :: .int (nI (2 + i)) :: .ref b :: .ref x :: [])) (by rw [show (2 : Int32) + nI i = nI (2 + i) from nI_add 2 i]) ?_
  refine kr_i (W.runS (As := [.ref b, .int (nI (2 + i)), .int (nI 4)]) (rest := [.ref x]) ⟨hx, hb, hml, hown, hts⟩ (metL_drawn l b L xs hL (2 + i) 4 (by omega) (by decide)) (va_cwS 3 hts gL_law_L_drawn rfl rfl rfl (by decide +kernel) ⟨Nat.le_of_ble_eq_true rfl, Nat.le_of_ble_eq_true rfl⟩) (pxS (hXs.kept (hS.2.1 b hbl hbA)) (Nat.lt_of_lt_of_le hbl hS.1)) rfl rfl hl.1 rfl (lv_room (Nat.le_of_ble_eq_true rfl)) dL_law_56 ⟨rmc (by omega), rms (by omega)⟩) ?_
  obtain ⟨wo, hW, ewo⟩ := drnv_lt L xs (2 + i) 4 (by decide) (by decide)
  refine ki_eq ewo ?_
  refine lv_iload hx hb dL_law_59 (lv_at hl 2 rfl) ?_
  have hX9 : XP (Ah s) s H := hX.kept hS.2.1
  have hA9 : ∀ q : Nat, H.size ≤ q → Ah s q := fun q h9 => hA q (Nat.le_trans hS.1 h9)
  have hnb := SP_bad hSP (by omega) hW
  refine kq_i (w1 := []) (w2 := [(x, EX r t d 0)] ++ (rowW r la bs cA (nI i) 18 (-1) 0 wd zs (fun _ => 0) ++ (rowW t lt bt cA (nI u.1) u.2.1 u.2.2.1 u.2.2.2.1 u.2.2.2.2.1 u.2.2.2.2.2.1 u.2.2.2.2.2.2 ++ [(d, ED cI (fun _ => 0))]))) (w3 := []) (vx_runV (As := [.int (nI wo), .int (nI z)]) (rest := []) ⟨hx, hb, hml, hown, hts⟩ (metX2_add l hst D H.size x r t d 0 la bs cA cI i (by omega) 18 (-1) 0 wd zs (fun _ => 0) (rowW t lt bt cA (nI u.1) u.2.1 u.2.2.1 u.2.2.2.1 u.2.2.2.2.1 u.2.2.2.2.2.1 u.2.2.2.2.2.2 ++ [(d, ED cI (fun _ => 0))]) (nI wo) (nI z)) (cwV 2 hts gL_law_X2_add rfl rfl rfl (by decide +kernel) ⟨Nat.le_of_ble_eq_true rfl, Nat.le_of_ble_eq_true rfl⟩) (ptV 2 0 RX2 TX2 4 rfl rfl hP hK hD hX9 hA9) rfl rfl hl.1 rfl (lv_room (Nat.le_of_ble_eq_true rfl)) dL_law_61 ⟨rmc (by omega), rms (by omega)⟩) (by rw [List.nil_append, List.append_nil]; exact hP) (by rw [List.nil_append, List.append_nil]; exact hD) hS hA (fun E ce q9 H locs hB hP hD hS hce hcv hcl => (hB.elim (fun h9 => hnb h9.2) (fun h9 => h9.2.2 (by omega))).elim) (fun H locs hok hP hD hS => ?_)
  rw [List.nil_append, List.append_nil, hset_0] at hP hD
  have hP : va_P D vwCl ([(x, EX r t d 0)] ++ (rowW r la bs cA (nI (i + 1)) 18 (-1) 0 (va_up wd i (nI wo)) (va_up zs i (nI z)) (fun _ => 0) ++ (rowW t lt bt cA (nI u.1) u.2.1 u.2.2.1 u.2.2.2.1 u.2.2.2.2.1 u.2.2.2.2.2.1 u.2.2.2.2.2.2 ++ [(d, ED cI (fun _ => 0))]))) H := hP
  have hD : va_D (Ah s) ([(x, EX r t d 0)] ++ (rowW r la bs cA (nI (i + 1)) 18 (-1) 0 (va_up wd i (nI wo)) (va_up zs i (nI z)) (fun _ => 0) ++ (rowW t lt bt cA (nI u.1) u.2.1 u.2.2.1 u.2.2.2.1 u.2.2.2.2.1 u.2.2.2.2.2.1 u.2.2.2.2.2.2 ++ [(d, ED cI (fun _ => 0))]))) := hD
  refine lv_iload hx hb dL_law_64 (lv_at hl 0 rfl) ?_
  refine lv_icmp_ne (tgt := 73) hx hb dL_law_66 (by decide) (fun c66 => (c66 rfl).elim) (fun c66 => ?_)
  refine lv_iconst (v := 1) hx hb dL_law_69 (by decide) ?_
  refine lv_goto (tgt := 74) hx hb dL_law_70 (by decide) ?_
  refine lv_istore (lv' := [(5, .int 1), (6, .int (nI i)), (4, .int (nI z)), (3, .int (nI F)), (2, .int (nI n)), (1, .ref x), (0, .ref b)]) hx hb dL_law_74 hl (by decide) rfl (fun ls hl => ?_)
  refine lv_iload hx hb dL_law_76 (lv_at hl 2 rfl) ?_
  refine lv_iconst (v := 1) hx hb dL_law_78 (by decide) ?_
  refine lv_aload_n hx hb dL_law_79 rfl (lv_at hl 6 rfl) ?_
  refine lv_bipush (v := 10) hx hb dL_law_80 (by decide) ?_
  refine lv_iload hx hb dL_law_82 (lv_at hl 1 rfl) ?_
  refine lv_iadd hx hb dL_law_84 ?_
  refine lv_bipush (v := 6) hx hb dL_law_85 (by decide) ?_
  refine W.eq (g2 := F0 m 87 ls (.int 6 :: .int (nI (10 + i)) :: .ref b :: .int 1 :: .int (nI z) :: [])) (by rw [show (10 : Int32) + nI i = nI (10 + i) from nI_add 10 i]) ?_
  refine kr_i (W.runS (As := [.ref b, .int (nI (10 + i)), .int (nI 6)]) (rest := [.int 1, .int (nI z)]) ⟨hx, hb, hml, hown, hts⟩ (metL_drawn l b L xs hL (10 + i) 6 (by omega) (by decide)) (va_cwS 3 hts gL_law_L_drawn rfl rfl rfl (by decide +kernel) ⟨Nat.le_of_ble_eq_true rfl, Nat.le_of_ble_eq_true rfl⟩) (pxS (hXs.kept (hS.2.1 b hbl hbA)) (Nat.lt_of_lt_of_le hbl hS.1)) rfl rfl hl.1 rfl (lv_room (Nat.le_of_ble_eq_true rfl)) dL_law_87 ⟨rmc (by omega), rms (by omega)⟩) ?_
  obtain ⟨dd, hdd, edd⟩ := drnv_lt L xs (10 + i) 6 (by decide) (by decide)
  refine ki_eq edd ?_
  refine lv_iadd hx hb dL_law_90 ?_
  refine ki_eq (show (1 + (nI dd)) = nI (1 + dd) from nI_add 1 dd) ?_
  refine lv_isub hx hb dL_law_91 ?_
  refine ki_eq (show ((nI z) - (nI (1 + dd))) = nI (z - (1 + dd)) from pk_sub (a := z) (b := 1 + dd) (by have := hSP.2.2.2.2.2.2; omega)) ?_
  refine lv_istore (lv' := [(4, .int (nI (z - (1 + dd)))), (5, .int 1), (6, .int (nI i)), (3, .int (nI F)), (2, .int (nI n)), (1, .ref x), (0, .ref b)]) hx hb dL_law_92 hl (by decide) rfl (fun ls hl => ?_)
  refine lv_iinc (v := nI (i + 1)) (lv' := [(6, .int (nI (i + 1))), (4, .int (nI (z - (1 + dd)))), (5, .int 1), (3, .int (nI F)), (2, .int (nI n)), (1, .ref x), (0, .ref b)]) hx hb dL_law_94 hl (k := 2) rfl (nI_1 i) (by decide) rfl (fun ls hl => ?_)
  refine lv_goto (tgt := 38) hx hb dL_law_97 (by decide) ?_
  refine W.widen (k := cells + 1) (n := slots + 6) (by omega) (by omega) ?_
  exact kk (z - (1 + dd)) (va_up wd i (nI wo)) (va_up zs i (nI z)) H locs ls (SP_next hSP (by omega) hdd) hP hD hS (lv_sub hl [0, 2, 1, 3, 4, 5, 6] (rfl))

set_option maxHeartbeats 4000000 in
set_option maxRecDepth 100000 in
/-- all barrels -/
theorem law_adds {p : Program} {l : Launch} {e : Env} {s : State} {m : MethodId} {below : List Frame} {meth : Method} {c : Code} {Q : State → Prop} {D : va_G} {b L : Nat} {xs : Nat → Int32} {x r t d la : Nat} {bs : Nat → Nat} {lt : Nat} {bt : Nat → Nat} {cA cI : ClassId} (C : LC p l s m c D b L xs cA cI) (n : Nat) (hn : n ≤ 8) (F : Nat) (u : TRW)
    (kk : ∀ (z : Nat) (wd zs : Nat → Int32) (H : Heap) (locs : List Loc) (ls : Array Slot), SP n F z wd zs → va_P D vwCl ([(x, EX r t d 0)] ++ (rowW r la bs cA (nI n) 18 (-1) 0 wd zs (fun _ => 0) ++ (rowW t lt bt cA (nI u.1) u.2.1 u.2.2.1 u.2.2.2.1 u.2.2.2.2.1 u.2.2.2.2.2.1 u.2.2.2.2.2.2 ++ [(d, ED cI (fun _ => 0))]))) H → va_D (Ah s) ([(x, EX r t d 0)] ++ (rowW r la bs cA (nI n) 18 (-1) 0 wd zs (fun _ => 0) ++ (rowW t lt bt cA (nI u.1) u.2.1 u.2.2.1 u.2.2.2.1 u.2.2.2.2.1 u.2.2.2.2.2.1 u.2.2.2.2.2.2 ++ [(d, ED cI (fun _ => 0))]))) → va_S (Ah s) s.heap H locs → lv_has ls 9 [(6, .int (nI n)), (5, .int 1), (4, .int (nI z)), (3, .int (nI F)), (2, .int (nI n)), (1, .ref x), (0, .ref b)] → W p l e room_1 s m #[Value.ref b] below meth c H locs 130 400 Q (F0 m 38 ls [])) :
    ∀ (k i z : Nat) (wd zs : Nat → Int32) (H : Heap) (locs : List Loc) (ls : Array Slot) (cells slots : Nat), i + k = n → cells ≤ 100 + i → slots ≤ 300 + 6 * i → SP i F z wd zs → va_P D vwCl ([(x, EX r t d 0)] ++ (rowW r la bs cA (nI i) 18 (-1) 0 wd zs (fun _ => 0) ++ (rowW t lt bt cA (nI u.1) u.2.1 u.2.2.1 u.2.2.2.1 u.2.2.2.2.1 u.2.2.2.2.2.1 u.2.2.2.2.2.2 ++ [(d, ED cI (fun _ => 0))]))) H → va_D (Ah s) ([(x, EX r t d 0)] ++ (rowW r la bs cA (nI i) 18 (-1) 0 wd zs (fun _ => 0) ++ (rowW t lt bt cA (nI u.1) u.2.1 u.2.2.1 u.2.2.2.1 u.2.2.2.2.1 u.2.2.2.2.2.1 u.2.2.2.2.2.2 ++ [(d, ED cI (fun _ => 0))]))) → va_S (Ah s) s.heap H locs → lv_has ls 9 [(6, .int (nI i)), (5, .int 1), (4, .int (nI z)), (3, .int (nI F)), (2, .int (nI n)), (1, .ref x), (0, .ref b)] → W p l e room_1 s m #[Value.ref b] below meth c H locs cells slots Q (F0 m 38 ls []) := by
  intro k
  induction k with
  | zero =>
    intro i z wd zs H locs ls cells slots hik hc hs hSP hP hD hS hl
    have : i = n := by omega
    subst this
    refine W.widen (k := 130) (n := 400) (by omega) (by omega) ?_
    exact kk z wd zs H locs ls hSP hP hD hS hl
  | succ k ih =>
    intro i z wd zs H locs ls cells slots hik hc hs hSP hP hD hS hl
    exact law_add C n hn F u (i := i) (by omega) (by omega) (by omega) wd zs hSP (fun z' wd' zs' H locs ls hSP hP hD hS hl => ih (i + 1) z' wd' zs' H locs ls (cells + 1) (slots + 6) (by omega) (by omega) (by omega) hSP hP hD hS hl) hP hD hS hl

set_option maxHeartbeats 4000000 in
set_option maxRecDepth 100000 in
/-- all turns, and the last question -/
theorem law_turns {p : Program} {l : Launch} {e : Env} {s : State} {m : MethodId} {below : List Frame} {meth : Method} {c : Code} {Q : State → Prop} {D : va_G} {b L : Nat} {xs : Nat → Int32} {x r t d la : Nat} {bs : Nat → Nat} {lt : Nat} {bt : Nat → Nat} {cA cI : ClassId} (C : LC p l s m c D b L xs cA cI) (I : LIT) (hLS : LSt I) (n : Nat) (hn0 : 0 < n) (hn : n ≤ 8) (F : Nat) (wd zs : Nat → Int32)
    (kend : ∀ (H : Heap) (locs : List Loc) (ls : Array Slot) (cells slots : Nat), va_S (Ah s) s.heap H locs → cells ≤ 2000 → slots ≤ 20000 → W p l e room_1 s m #[Value.ref b] below meth c H locs cells slots Q (F0 m 304 ls [.int 1])) :
    ∀ (k turn : Nat) (yg wm df : Int32) (q : UInt64) (h : Nat → UInt64) (dk : Nat → Int32) (u : TRW) (H : Heap) (locs : List Loc) (ls : Array Slot) (cells slots : Nat), turn + k = 140 → cells ≤ 200 + 3 * turn → slots ≤ 500 + 18 * turn → I turn n F yg wm df q wd zs h dk → ZU n u → va_P D vwCl ([(x, EX r t d yg)] ++ (rowW r la bs cA (nI n) wm df q wd zs h ++ (rowW t lt bt cA (nI u.1) u.2.1 u.2.2.1 u.2.2.2.1 u.2.2.2.2.1 u.2.2.2.2.2.1 u.2.2.2.2.2.2 ++ [(d, ED cI dk)]))) H → va_D (Ah s) ([(x, EX r t d yg)] ++ (rowW r la bs cA (nI n) wm df q wd zs h ++ (rowW t lt bt cA (nI u.1) u.2.1 u.2.2.1 u.2.2.2.1 u.2.2.2.2.1 u.2.2.2.2.2.1 u.2.2.2.2.2.2 ++ [(d, ED cI dk)]))) → va_S (Ah s) s.heap H locs → lv_has ls 9 [(6, .int (nI turn)), (5, .int 1), (3, .int (nI F)), (2, .int (nI n)), (1, .ref x), (0, .ref b)] → W p l e room_1 s m #[Value.ref b] below meth c H locs cells slots Q (F0 m 103 ls []) := by
  intro k
  induction k with
  | zero =>
    intro turn yg wm df q h dk u H locs ls cells slots hik hc hs hI hu hP hD hS hl
    have : turn = 140 := by omega
    subst this
    obtain ⟨hx, hb, hml, hown, hts, hK, hX, hst, hXs, hbl, hL⟩ := id C
    obtain ⟨l1, l2, l3, l4, l5, l6, l7, l8, l9⟩ := hLS
    have hA : ∀ q : Nat, s.heap.size ≤ q → Ah s q := fun _ h => h
    have hbA : ¬ Ah s b := Nat.not_le.mpr hbl
    refine lv_iload hx hb dL_law_103 (lv_at hl 0 rfl) ?_
    refine lv_sipush (v := 140) hx hb dL_law_105 (by decide) ?_
    refine lv_icmp_ge (tgt := 287) hx hb dL_law_108 (by decide) (fun c108 => ?_) (fun c108 => (c108 (Int32.le_refl _)).elim)
    refine lv_iload hx hb dL_law_287 (lv_at hl 1 rfl) ?_
    refine lv_if_eq (tgt := 303) hx hb dL_law_289 (by decide) (fun c289 => (i32_n1 c289).elim) (fun c289 => ?_)
    refine lv_aload_n hx hb dL_law_292 rfl (lv_at hl 4 rfl) ?_
    refine kJ_i (w1 := []) (w2 := [(x, EX r t d yg)] ++ (rowW r la bs cA (nI n) wm df q wd zs h ++ (rowW t lt bt cA (nI u.1) u.2.1 u.2.2.1 u.2.2.2.1 u.2.2.2.2.1 u.2.2.2.2.2.1 u.2.2.2.2.2.2 ++ [(d, ED cI dk)]))) (w3 := []) (va_runS (As := [.ref x]) (rest := []) ⟨hx, hb, hml, hown, hts⟩ (metL_isAsked l D H.size x r t d yg la bs cA cI n hn wm df q wd zs h lt bt u.1 u.2.1 u.2.2.1 u.2.2.2.1 u.2.2.2.2.1 u.2.2.2.2.2.1 u.2.2.2.2.2.2 dk hu (l8 _ _ _ _ _ _ _ _ _ _ _ hI)) (va_cwS 1 hts gL_law_L_isAsked rfl rfl rfl (by decide +kernel) ⟨Nat.le_of_ble_eq_true rfl, Nat.le_of_ble_eq_true rfl⟩) (pmS hP hK hD) rfl rfl hl.1 rfl (lv_room (Nat.le_of_ble_eq_true rfl)) dL_law_293 ⟨rmc (by omega), rms (by omega)⟩) (by rw [List.nil_append, List.append_nil]; exact hP) (by rw [List.nil_append, List.append_nil]; exact hD) hS hA (fun r9 u' H locs hr9 hP hD hS => ?_)
    obtain ⟨e9, hu'⟩ := hr9
    subst e9
    rw [List.nil_append, List.append_nil] at hP hD
    have hP : va_P D vwCl ([(x, EX r t d yg)] ++ (rowW r la bs cA (nI n) wm df q wd zs h ++ (rowW t lt bt cA (nI u'.1) u'.2.1 u'.2.2.1 u'.2.2.2.1 u'.2.2.2.2.1 u'.2.2.2.2.2.1 u'.2.2.2.2.2.2 ++ [(d, ED cI dk)]))) H := hP
    have hD : va_D (Ah s) ([(x, EX r t d yg)] ++ (rowW r la bs cA (nI n) wm df q wd zs h ++ (rowW t lt bt cA (nI u'.1) u'.2.1 u'.2.2.1 u'.2.2.2.1 u'.2.2.2.2.1 u'.2.2.2.2.2.1 u'.2.2.2.2.2.2 ++ [(d, ED cI dk)]))) := hD
    refine lv_if_eq (tgt := 303) hx hb dL_law_296 (by decide) (fun c296 => (i32_n1 c296).elim) (fun c296 => ?_)
    refine lv_iconst (v := 1) hx hb dL_law_299 (by decide) ?_
    refine lv_goto (tgt := 304) hx hb dL_law_300 (by decide) ?_
    exact kend H _ ls _ _ hS (by omega) (by omega)
  | succ k ih =>
    intro turn yg wm df q h dk u H locs ls cells slots hik hc hs hI hu hP hD hS hl
    exact law_turn C I hLS n hn0 hn F wd zs (turn := turn) (by omega) (cells := cells) (slots := slots) (by omega) (by omega) (fun yg wm df q h dk u H locs ls hI hu hP hD hS hl => ih (turn + 1) yg wm df q h dk u H locs ls (cells + 3) (slots + 18) (by omega) (by omega) (by omega) hI hu hP hD hS hl) yg wm df q h dk u hI hu hP hD hS hl

