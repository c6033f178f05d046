/-! the law's turns (laid by wip/p23/prog/y4.py) -/
theorem drnv_lt (L : Nat) (xs : Nat → Int32) (i k : Nat) (hk : 0 < k) (hk2 : k < 2 ^ 31) : ∃ X : Nat, X < k ∧ drnv L xs i k = nI X := by
  unfold drnv
  have h1 := pk_ushr (itsv L xs i) 1 1 (by decide)
  have h2 := (itsv L xs i).toBitVec.isLt
  generalize ((itsv L xs i).toUInt32 >>> ((1 : Int32).toUInt32 &&& Int32.toUInt32 31)).toInt32 = x at h1 ⊢
  have h3 : x.toBitVec.toNat < 2 ^ 31 := by omega
  have h4 : x = nI x.toBitVec.toNat := Int32.toBitVec_inj.mp (BitVec.eq_of_toNat_eq (pk_tn (by omega)).symm)
  rw [h4]
  generalize x.toBitVec.toNat = y at h3
  exact ⟨y % k, Nat.mod_lt _ hk, pk_rem h3 hk hk2⟩
theorem rmc {k : Nat} (h : k ≤ 600172) : k ≤ room_1.cells := h
theorem rms {k : Nat} (h : k ≤ 7300668) : k ≤ room_1.slots := h
abbrev Ah (s : State) : Nat → Prop := fun q => s.heap.size ≤ q
/-- what the law's turns keep: turn, barrels, the first one's size, years, warmth, drawn from, quota, woods, sizes, the table, bottles -/
abbrev LIT : Type := Nat → Nat → Nat → Int32 → Int32 → Int32 → UInt64 → (Nat → Int32) → (Nat → Int32) → (Nat → UInt64) → (Nat → Int32) → Prop
def LSt (I : LIT) : Prop :=
  (∀ t n F yg wm df q wd zs h dk, I t n F yg wm df q wd zs h dk → 0 < n ∧ n ≤ 8) ∧
  (∀ t n F yg wm df q wd zs h dk, I t n F yg wm df q wd zs h dk → t < 140 → ∀ w, 1 ≤ w → w ≤ 100 → filF n zs h df q (nI w) (nI F) ∧ I (t + 1) n F yg wm df q wd zs (pmH n zs h (FP.i2d (nI w))) dk) ∧
  (∀ t n F yg wm df q wd zs h dk, I t n F yg wm df q wd zs h dk → t < 140 → movF n zs h ∧ I (t + 1) n F yg wm df q wd zs (toH zs (n - 1) h) dk) ∧
  (∀ t n F yg wm df q wd zs h dk, I t n F yg wm df q wd zs h dk → t < 140 → ageF n wd wm yg h ∧ I (t + 1) n F (yg + 1) wm (encO (elO (agH wd (drv wm) h n) n)) (quv (agH wd (drv wm) h n) (elO (agH wd (drv wm) h n) n)) wd zs (agH wd (drv wm) h n) dk) ∧
  (∀ t n F yg wm df q wd zs h dk, I t n F yg wm df q wd zs h dk → t < 140 → ∀ w, 1 ≤ w → w ≤ 60 → botF n h df q dk (nI w) ∧ I (t + 1) n F yg wm df (drQ h n df q (nI w)) wd zs (drH h n df q (nI w)) (drK dk h n df q (nI w))) ∧
  (∀ t n F yg wm df q wd zs h dk, I t n F yg wm df q wd zs h dk → ∀ w, w ≤ 40 → I t n F yg (nI w) df q wd zs h dk) ∧
  (∀ t n F yg wm df q wd zs h dk, I t n F yg wm df q wd zs h dk → t < 140 → ∀ j, j < n → pouF n h j ∧ I (t + 1) n F yg wm df q wd zs (hset (hset h j 0 0 0 0) j 0 0 0 0) dk) ∧
  (∀ t n F yg wm df q wd zs h dk, I t n F yg wm df q wd zs h dk → askF n wd zs wm h df q) ∧
  (∀ t n F yg wm df q wd zs h dk, I t n F yg wm df q wd zs h dk → t < 140 → I (t + 1) n F yg wm df q wd zs h dk)
abbrev ZU (n : Nat) (u : TRW) : Prop := ZT n u.1 u.2.2.2.2.1 u.2.2.2.2.2.1 u.2.2.2.2.2.2
theorem badR_n {lo hi w : Nat} (h1 : lo ≤ w) (h2 : w ≤ hi) (hh : hi < 2 ^ 31) : ¬ badR (nI lo) (nI hi) (nI w) := by
  rintro (h | h)
  · exact nI_nlt h1 (by omega) h
  · exact nI_nlt h2 hh h
/-- what holds all through the law -/
def LC (p : Program) (l : Launch) (s : State) (m : MethodId) (c : Code) (D : va_G) (b L : Nat) (xs : Nat → Int32) (cA cI : ClassId) : Prop :=
  p.tables.exec = Jvm.exec ∧ c.code = cL_law ∧ c.maxLocals = 9 ∧ s.vm.findClass RL = some m.cls ∧ (∀ w ∈ wsL_law, w.before #[Value.ref b] s = true) ∧ va_K D vwCl [(cA, .object "VinegarLoft$Barrel"), (cI, .int)] s ∧ XP (Ah s) s s.heap ∧ l.stackTraces = false ∧ va_X b L xs s s.heap ∧ b < s.heap.size ∧ L ≤ 260
set_option maxHeartbeats 8000000 in
set_option maxRecDepth 100000 in
/-- one turn -/
theorem law_turn {p : Program} {l : Launch} {e : Env} {s : State} {m : MethodId} {below : List Frame} {meth : Method} {c : Code} {Q : State → Prop} {D : va_G} {b L : Nat} {xs : Nat → Int32} {x r t d la : Nat} {bs : Nat → Nat} {lt : Nat} {bt : Nat → Nat} {cA cI : ClassId} (C : LC p l s m c D b L xs cA cI) (I : LIT) (hLS : LSt I) (n : Nat) (hn0 : 0 < n) (hn : n ≤ 8) (F : Nat) (wd zs : Nat → Int32) {turn : Nat} (ht140 : turn < 140) {cells slots : Nat} (hc : cells ≤ 1000) (hs : slots ≤ 10000)
    (kk : ∀ (yg wm df : Int32) (q : UInt64) (h : Nat → UInt64) (dk : Nat → Int32) (u : TRW) (H : Heap) (locs : List Loc) (ls : Array Slot), I (turn + 1) n F yg wm df q wd zs h dk → ZU n u → va_P D vwCl ([(x, EX r t d yg)] ++ (rowW r la bs cA (nI n) wm df q wd zs h ++ (rowW t lt bt cA (nI u.1) u.2.1 u.2.2.1 u.2.2.2.1 u.2.2.2.2.1 u.2.2.2.2.2.1 u.2.2.2.2.2.2 ++ [(d, ED cI dk)]))) H → va_D (Ah s) ([(x, EX r t d yg)] ++ (rowW r la bs cA (nI n) wm df q wd zs h ++ (rowW t lt bt cA (nI u.1) u.2.1 u.2.2.1 u.2.2.2.1 u.2.2.2.2.1 u.2.2.2.2.2.1 u.2.2.2.2.2.2 ++ [(d, ED cI dk)]))) → va_S (Ah s) s.heap H locs → lv_has ls 9 [(6, .int (nI (turn + 1))), (5, .int 1), (3, .int (nI F)), (2, .int (nI n)), (1, .ref x), (0, .ref b)] → W p l e room_1 s m #[Value.ref b] below meth c H locs (cells + 3) (slots + 18) Q (F0 m 103 ls []))
    (yg wm df : Int32) (q : UInt64) (h : Nat → UInt64) (dk : Nat → Int32) (u : TRW) {H : Heap} {locs : List Loc} {ls : Array Slot} (hI : I turn n F yg wm df q wd zs h dk) (hu : ZU n u) (hP : va_P D vwCl ([(x, EX r t d yg)] ++ (rowW r la bs cA (nI n) wm df q wd zs h ++ (rowW t lt bt cA (nI u.1) u.2.1 u.2.2.1 u.2.2.2.1 u.2.2.2.2.1 u.2.2.2.2.2.1 u.2.2.2.2.2.2 ++ [(d, ED cI dk)]))) H) (hD : va_D (Ah s) ([(x, EX r t d yg)] ++ (rowW r la bs cA (nI n) wm df q wd zs h ++ (rowW t lt bt cA (nI u.1) u.2.1 u.2.2.1 u.2.2.2.1 u.2.2.2.2.1 u.2.2.2.2.2.1 u.2.2.2.2.2.2 ++ [(d, ED cI dk)])))) (hS : va_S (Ah s) s.heap H locs) (hl : lv_has ls 9 [(6, .int (nI turn)), (5, .int 1), (3, .int (nI F)), (2, .int (nI n)), (1, .ref x), (0, .ref b)]) :
    W p l e room_1 s m #[Value.ref b] below meth c H locs cells slots Q (F0 m 103 ls []) := by
  obtain ⟨hx, hb, hml, hown, hts, hK, hX, hst, hXs, hbl, hL⟩ := C
  obtain ⟨l1, l2, l3, l4, l5, l6, l7, l8, l9⟩ := hLS
  have hA : ∀ q : Nat, s.heap.size ≤ q → Ah s q := fun _ h => h
  have hbA : ¬ Ah s b := Nat.not_le.mpr hbl
  refine lv_iload hx hb dL_law_103 (lv_at hl 0 rfl) ?_
  refine lv_sipush (v := 140) hx hb dL_law_105 (by decide) ?_
  refine lv_icmp_ge (tgt := 287) hx hb dL_law_108 (by decide) (fun c108 => (i32_le_nlt c108 (nI_lt (a := turn) (b := 140) ht140 (by decide))).elim) (fun c108 => ?_)
  refine lv_iload hx hb dL_law_111 (lv_at hl 1 rfl) ?_
  refine lv_if_eq (tgt := 287) hx hb dL_law_113 (by decide) (fun c113 => (i32_n1 c113).elim) (fun c113 => ?_)
  refine lv_aload_n hx hb dL_law_116 rfl (lv_at hl 5 rfl) ?_
  refine lv_iload hx hb dL_law_117 (lv_at hl 0 rfl) ?_
  refine lv_bipush (v := 20) hx hb dL_law_119 (by decide) ?_
  refine lv_iadd hx hb dL_law_121 ?_
  refine ki_eq (show ((nI turn) + 20) = nI (turn + 20) from nI_add turn 20) ?_
  refine lv_sipush (v := 30000) hx hb dL_law_122 (by decide) ?_
  refine kr_i (W.runS (As := [.ref b, .int (nI (turn + 20)), .int (nI 30000)]) (rest := []) ⟨hx, hb, hml, hown, hts⟩ (metL_drawn l b L xs hL (turn + 20) 30000 (by omega) (by decide)) (va_cwS 3 hts gL_law_L_drawn rfl rfl rfl (by decide +kernel) ⟨Nat.le_of_ble_eq_true rfl, Nat.le_of_ble_eq_true rfl⟩) (pxS (hXs.kept (hS.2.1 b hbl hbA)) (Nat.lt_of_lt_of_le hbl hS.1)) rfl rfl hl.1 rfl (lv_room (Nat.le_of_ble_eq_true rfl)) dL_law_125 ⟨rmc (by omega), rms (by omega)⟩) ?_
  obtain ⟨X, hX3, eX⟩ := drnv_lt L xs (turn + 20) 30000 (by decide) (by decide)
  refine ki_eq eX ?_
  refine lv_istore (lv' := [(7, .int (nI X)), (6, .int (nI turn)), (5, .int 1), (3, .int (nI F)), (2, .int (nI n)), (1, .ref x), (0, .ref b)]) hx hb dL_law_128 hl (by decide) rfl (fun ls hl => ?_)
  refine lv_iload hx hb dL_law_130 (lv_at hl 0 rfl) ?_
  refine lv_bipush (v := 16) hx hb dL_law_132 (by decide) ?_
  refine lv_irem hx hb dL_law_134 (by decide) ?_
  refine ki_eq (show ((nI X) - (nI X) / 16 * 16) = nI (X % 16) from pk_rem (a := X) (d := 16) (by omega) (by decide) (by decide)) ?_
  refine lv_istore (lv' := [(8, .int (nI (X % 16))), (7, .int (nI X)), (6, .int (nI turn)), (5, .int 1), (3, .int (nI F)), (2, .int (nI n)), (1, .ref x), (0, .ref b)]) hx hb dL_law_135 hl (by decide) rfl (fun ls hl => ?_)
  refine lv_iload hx hb dL_law_137 (lv_at hl 0 rfl) ?_
  refine lv_iconst (v := 4) hx hb dL_law_139 (by decide) ?_
  refine lv_icmp_ge (tgt := 163) hx hb dL_law_140 (by decide) (fun c140 => ?_) (fun c140 => ?_)
  · refine lv_iload hx hb dL_law_163 (lv_at hl 0 rfl) ?_
    refine lv_bipush (v := 7) hx hb dL_law_165 (by decide) ?_
    refine lv_icmp_ge (tgt := 179) hx hb dL_law_167 (by decide) (fun c167 => ?_) (fun c167 => ?_)
    · refine lv_iload hx hb dL_law_179 (lv_at hl 0 rfl) ?_
      refine lv_bipush (v := 13) hx hb dL_law_181 (by decide) ?_
      refine lv_icmp_ge (tgt := 195) hx hb dL_law_183 (by decide) (fun c183 => ?_) (fun c183 => ?_)
      · refine lv_iload hx hb dL_law_195 (lv_at hl 0 rfl) ?_
        refine lv_bipush (v := 13) hx hb dL_law_197 (by decide) ?_
        refine lv_icmp_ne (tgt := 221) hx hb dL_law_199 (by decide) (fun c199 => ?_) (fun c199 => ?_)
        · refine lv_iload hx hb dL_law_221 (lv_at hl 0 rfl) ?_
          refine lv_bipush (v := 14) hx hb dL_law_223 (by decide) ?_
          refine lv_icmp_ne (tgt := 275) hx hb dL_law_225 (by decide) (fun c225 => ?_) (fun c225 => ?_)
          · refine lv_aload_n hx hb dL_law_275 rfl (lv_at hl 6 rfl) ?_
            refine kJ_i (w1 := []) (w2 := [(x, EX r t d yg)] ++ (rowW r la bs cA (nI n) wm df q wd zs h ++ (rowW t lt bt cA (nI u.1) u.2.1 u.2.2.1 u.2.2.2.1 u.2.2.2.2.1 u.2.2.2.2.2.1 u.2.2.2.2.2.2 ++ [(d, ED cI dk)]))) (w3 := []) (va_runS (As := [.ref x]) (rest := []) ⟨hx, hb, hml, hown, hts⟩ (metL_isAsked l D H.size x r t d yg la bs cA cI n hn wm df q wd zs h lt bt u.1 u.2.1 u.2.2.1 u.2.2.2.1 u.2.2.2.2.1 u.2.2.2.2.2.1 u.2.2.2.2.2.2 dk hu (l8 _ _ _ _ _ _ _ _ _ _ _ hI)) (va_cwS 1 hts gL_law_L_isAsked rfl rfl rfl (by decide +kernel) ⟨Nat.le_of_ble_eq_true rfl, Nat.le_of_ble_eq_true rfl⟩) (pmS hP hK hD) rfl rfl hl.1 rfl (lv_room (Nat.le_of_ble_eq_true rfl)) dL_law_276 ⟨rmc (by omega), rms (by omega)⟩) (by rw [List.nil_append, List.append_nil]; exact hP) (by rw [List.nil_append, List.append_nil]; exact hD) hS hA (fun r9 u' H locs hr9 hP hD hS => ?_)
            obtain ⟨e9, hu'⟩ := hr9
            subst e9
            rw [List.nil_append, List.append_nil] at hP hD
            have hP : va_P D vwCl ([(x, EX r t d yg)] ++ (rowW r la bs cA (nI n) wm df q wd zs h ++ (rowW t lt bt cA (nI u'.1) u'.2.1 u'.2.2.1 u'.2.2.2.1 u'.2.2.2.2.1 u'.2.2.2.2.2.1 u'.2.2.2.2.2.2 ++ [(d, ED cI dk)]))) H := hP
            have hD : va_D (Ah s) ([(x, EX r t d yg)] ++ (rowW r la bs cA (nI n) wm df q wd zs h ++ (rowW t lt bt cA (nI u'.1) u'.2.1 u'.2.2.1 u'.2.2.2.1 u'.2.2.2.2.1 u'.2.2.2.2.2.1 u'.2.2.2.2.2.2 ++ [(d, ED cI dk)]))) := hD
            refine lv_istore (lv' := [(5, .int 1), (8, .int (nI (X % 16))), (7, .int (nI X)), (6, .int (nI turn)), (3, .int (nI F)), (2, .int (nI n)), (1, .ref x), (0, .ref b)]) hx hb dL_law_279 hl (by decide) rfl (fun ls hl => ?_)
            refine lv_iinc (v := nI (turn + 1)) (lv' := [(6, .int (nI (turn + 1))), (5, .int 1), (8, .int (nI (X % 16))), (7, .int (nI X)), (3, .int (nI F)), (2, .int (nI n)), (1, .ref x), (0, .ref b)]) hx hb dL_law_281 hl (k := 3) rfl (nI_1 turn) (by decide) rfl (fun ls hl => ?_)
            refine lv_goto (tgt := 103) hx hb dL_law_284 (by decide) ?_
            refine W.widen (k := cells + 3) (n := slots + 18) (by omega) (by omega) ?_
            exact kk yg wm df q h dk u' H locs ls (l9 _ _ _ _ _ _ _ _ _ _ _ hI ht140) hu' hP hD hS (lv_sub hl [0, 1, 4, 5, 6, 7] (rfl))
          · refine lv_aload_n hx hb dL_law_228 rfl (lv_at hl 6 rfl) ?_
            refine lv_iload hx hb dL_law_229 (lv_at hl 1 rfl) ?_
            refine lv_bipush (v := 16) hx hb dL_law_231 (by decide) ?_
            refine lv_idiv hx hb dL_law_233 (by decide) ?_
            refine ki_eq (show ((nI X) / 16) = nI (X / 16) from pk_div (a := X) (d := 16) (by omega) (by decide) (by decide)) ?_
            refine lv_bipush (v := 41) hx hb dL_law_234 (by decide) ?_
            refine lv_irem hx hb dL_law_236 (by decide) ?_
            refine ki_eq (show ((nI (X / 16)) - (nI (X / 16)) / 41 * 41) = nI ((X / 16) % 41) from pk_rem (a := X / 16) (d := 41) (by omega) (by decide) (by decide)) ?_
            have hX9 : XP (Ah s) s H := hX.kept hS.2.1
            have hA9 : ∀ q : Nat, H.size ≤ q → Ah s q := fun q h9 => hA q (Nat.le_trans hS.1 h9)
            refine kq_v (w1 := []) (w2 := [(x, EX r t d yg)] ++ (rowW r la bs cA (nI n) wm df q wd zs h ++ (rowW t lt bt cA (nI u.1) u.2.1 u.2.2.1 u.2.2.2.1 u.2.2.2.2.1 u.2.2.2.2.2.1 u.2.2.2.2.2.2 ++ [(d, ED cI dk)]))) (w3 := []) (vx_runV (As := [.int (nI ((X / 16) % 41))]) (rest := []) ⟨hx, hb, hml, hown, hts⟩ (metX2_setWarmth l hst D H.size x r t d yg la bs cA cI n hn wm df q wd zs h (rowW t lt bt cA (nI u.1) u.2.1 u.2.2.1 u.2.2.2.1 u.2.2.2.2.1 u.2.2.2.2.2.1 u.2.2.2.2.2.2 ++ [(d, ED cI dk)]) (nI ((X / 16) % 41))) (cwV 1 hts gL_law_X2_setWarmth rfl rfl rfl (by decide +kernel) ⟨Nat.le_of_ble_eq_true rfl, Nat.le_of_ble_eq_true rfl⟩) (ptV 2 0 RX2 TX2 4 rfl rfl hP hK hD hX9 hA9) rfl rfl hl.1 rfl (lv_room (Nat.le_of_ble_eq_true rfl)) dL_law_237 ⟨rmc (by omega), rms (by omega)⟩) (by rw [List.nil_append, List.append_nil]; exact hP) (by rw [List.nil_append, List.append_nil]; exact hD) hS hA (fun E ce q9 H locs hB hP hD hS hce hcv hcl => (badR_n (lo := 0) (hi := 40) (by omega) (by omega) (by decide) hB.2).elim) (fun H locs hok hP hD hS => ?_)
            rw [List.nil_append, List.append_nil] at hP hD
            have hP : va_P D vwCl ([(x, EX r t d yg)] ++ (rowW r la bs cA (nI n) (nI ((X / 16) % 41)) df q wd zs h ++ (rowW t lt bt cA (nI u.1) u.2.1 u.2.2.1 u.2.2.2.1 u.2.2.2.2.1 u.2.2.2.2.2.1 u.2.2.2.2.2.2 ++ [(d, ED cI dk)]))) H := hP
            have hD : va_D (Ah s) ([(x, EX r t d yg)] ++ (rowW r la bs cA (nI n) (nI ((X / 16) % 41)) df q wd zs h ++ (rowW t lt bt cA (nI u.1) u.2.1 u.2.2.1 u.2.2.2.1 u.2.2.2.2.1 u.2.2.2.2.2.1 u.2.2.2.2.2.2 ++ [(d, ED cI dk)]))) := hD
            have hI := l6 _ _ _ _ _ _ _ _ _ _ _ hI ((X / 16) % 41) (by omega)
            refine lv_iload hx hb dL_law_240 (lv_at hl 1 rfl) ?_
            refine lv_bipush (v := 16) hx hb dL_law_242 (by decide) ?_
            refine lv_idiv hx hb dL_law_244 (by decide) ?_
            refine ki_eq (show ((nI X) / 16) = nI (X / 16) from pk_div (a := X) (d := 16) (by omega) (by decide) (by decide)) ?_
            refine lv_bipush (v := 7) hx hb dL_law_245 (by decide) ?_
            refine lv_irem hx hb dL_law_247 (by decide) ?_
            refine ki_eq (show ((nI (X / 16)) - (nI (X / 16)) / 7 * 7) = nI ((X / 16) % 7) from pk_rem (a := X / 16) (d := 7) (by omega) (by decide) (by decide)) ?_
            refine lv_if_gt (tgt := 265) hx hb dL_law_248 (by decide) (fun c248 => ?_) (fun c248 => ?_)
            · refine lv_iconst (v := 1) hx hb dL_law_265 (by decide) ?_
              refine lv_goto (tgt := 270) hx hb dL_law_266 (by decide) ?_
              refine lv_istore (lv' := [(5, .int 1), (8, .int (nI (X % 16))), (7, .int (nI X)), (6, .int (nI turn)), (3, .int (nI F)), (2, .int (nI n)), (1, .ref x), (0, .ref b)]) hx hb dL_law_270 hl (by decide) rfl (fun ls hl => ?_)
              refine lv_goto (tgt := 281) hx hb dL_law_272 (by decide) ?_
              refine lv_iinc (v := nI (turn + 1)) (lv' := [(6, .int (nI (turn + 1))), (5, .int 1), (8, .int (nI (X % 16))), (7, .int (nI X)), (3, .int (nI F)), (2, .int (nI n)), (1, .ref x), (0, .ref b)]) hx hb dL_law_281 hl (k := 3) rfl (nI_1 turn) (by decide) rfl (fun ls hl => ?_)
              refine lv_goto (tgt := 103) hx hb dL_law_284 (by decide) ?_
              refine W.widen (k := cells + 3) (n := slots + 18) (by omega) (by omega) ?_
              exact kk yg (nI ((X / 16) % 41)) df q h dk u H locs ls (l9 _ _ _ _ _ _ _ _ _ _ _ hI ht140) hu hP hD hS (lv_sub hl [0, 1, 4, 5, 6, 7] (rfl))
            · refine lv_aload_n hx hb dL_law_251 rfl (lv_at hl 6 rfl) ?_
              refine lv_iload hx hb dL_law_252 (lv_at hl 1 rfl) ?_
              refine lv_bipush (v := 112) hx hb dL_law_254 (by decide) ?_
              refine lv_idiv hx hb dL_law_256 (by decide) ?_
              refine ki_eq (show ((nI X) / 112) = nI (X / 112) from pk_div (a := X) (d := 112) (by omega) (by decide) (by decide)) ?_
              refine lv_iload_n hx hb dL_law_257 rfl (lv_at hl 5 rfl) ?_
              refine lv_irem hx hb dL_law_258 (nI_ne0 hn0 (by omega)) ?_
              refine ki_eq (show ((nI (X / 112)) - (nI (X / 112)) / (nI n) * (nI n)) = nI ((X / 112) % n) from pk_rem (a := X / 112) (d := n) (by omega) hn0 (by omega)) ?_
              have hJ := l7 _ _ _ _ _ _ _ _ _ _ _ hI ht140 ((X / 112) % n) (Nat.mod_lt _ hn0)
              have hX9 : XP (Ah s) s H := hX.kept hS.2.1
              have hA9 : ∀ q : Nat, H.size ≤ q → Ah s q := fun q h9 => hA q (Nat.le_trans hS.1 h9)
              refine kc_i (w1 := []) (w2 := [(x, EX r t d yg)] ++ (rowW r la bs cA (nI n) (nI ((X / 16) % 41)) df q wd zs h ++ (rowW t lt bt cA (nI u.1) u.2.1 u.2.2.1 u.2.2.2.1 u.2.2.2.2.1 u.2.2.2.2.2.1 u.2.2.2.2.2.2 ++ [(d, ED cI dk)]))) (w3 := []) (va_runS (As := [.ref x, .int (nI ((X / 112) % n))]) (rest := []) ⟨hx, hb, hml, hown, hts⟩ (metL_isPoured l hst D H.size x r t d yg la bs cA cI n hn (nI ((X / 16) % 41)) df q wd zs h (rowW t lt bt cA (nI u.1) u.2.1 u.2.2.1 u.2.2.2.1 u.2.2.2.2.1 u.2.2.2.2.2.1 u.2.2.2.2.2.2 ++ [(d, ED cI dk)]) ((X / 112) % n) (Nat.mod_lt _ hn0) hJ.1) (va_cwS 2 hts gL_law_L_isPoured rfl rfl rfl (by decide +kernel) ⟨Nat.le_of_ble_eq_true rfl, Nat.le_of_ble_eq_true rfl⟩) (ptS hP hK hD hX9 hA9) rfl rfl hl.1 rfl (lv_room (Nat.le_of_ble_eq_true rfl)) dL_law_259 ⟨rmc (by omega), rms (by omega)⟩) (by rw [List.nil_append, List.append_nil]; exact hP) (by rw [List.nil_append, List.append_nil]; exact hD) hS hA (fun H locs hP hD hS => ?_)
              rw [List.nil_append, List.append_nil] at hP hD
              have hP : va_P D vwCl ([(x, EX r t d yg)] ++ (rowW r la bs cA (nI n) (nI ((X / 16) % 41)) df q wd zs (hset (hset h ((X / 112) % n) 0 0 0 0) ((X / 112) % n) 0 0 0 0) ++ (rowW t lt bt cA (nI u.1) u.2.1 u.2.2.1 u.2.2.2.1 u.2.2.2.2.1 u.2.2.2.2.2.1 u.2.2.2.2.2.2 ++ [(d, ED cI dk)]))) H := hP
              have hD : va_D (Ah s) ([(x, EX r t d yg)] ++ (rowW r la bs cA (nI n) (nI ((X / 16) % 41)) df q wd zs (hset (hset h ((X / 112) % n) 0 0 0 0) ((X / 112) % n) 0 0 0 0) ++ (rowW t lt bt cA (nI u.1) u.2.1 u.2.2.1 u.2.2.2.1 u.2.2.2.2.1 u.2.2.2.2.2.1 u.2.2.2.2.2.2 ++ [(d, ED cI dk)]))) := hD
              refine lv_if_eq (tgt := 269) hx hb dL_law_262 (by decide) (fun c262 => (i32_n1 c262).elim) (fun c262 => ?_)
              refine lv_iconst (v := 1) hx hb dL_law_265 (by decide) ?_
              refine lv_goto (tgt := 270) hx hb dL_law_266 (by decide) ?_
              refine lv_istore (lv' := [(5, .int 1), (8, .int (nI (X % 16))), (7, .int (nI X)), (6, .int (nI turn)), (3, .int (nI F)), (2, .int (nI n)), (1, .ref x), (0, .ref b)]) hx hb dL_law_270 hl (by decide) rfl (fun ls hl => ?_)
              refine lv_goto (tgt := 281) hx hb dL_law_272 (by decide) ?_
              refine lv_iinc (v := nI (turn + 1)) (lv' := [(6, .int (nI (turn + 1))), (5, .int 1), (8, .int (nI (X % 16))), (7, .int (nI X)), (3, .int (nI F)), (2, .int (nI n)), (1, .ref x), (0, .ref b)]) hx hb dL_law_281 hl (k := 3) rfl (nI_1 turn) (by decide) rfl (fun ls hl => ?_)
              refine lv_goto (tgt := 103) hx hb dL_law_284 (by decide) ?_
              refine W.widen (k := cells + 3) (n := slots + 18) (by omega) (by omega) ?_
              exact kk yg (nI ((X / 16) % 41)) df q (hset (hset h ((X / 112) % n) 0 0 0 0) ((X / 112) % n) 0 0 0 0) dk u H locs ls hJ.2 hu hP hD hS (lv_sub hl [0, 1, 4, 5, 6, 7] (rfl))
        · refine lv_aload_n hx hb dL_law_202 rfl (lv_at hl 6 rfl) ?_
          refine lv_iconst (v := 1) hx hb dL_law_203 (by decide) ?_
          refine lv_iload hx hb dL_law_204 (lv_at hl 1 rfl) ?_
          refine lv_bipush (v := 16) hx hb dL_law_206 (by decide) ?_
          refine lv_idiv hx hb dL_law_208 (by decide) ?_
          refine ki_eq (show ((nI X) / 16) = nI (X / 16) from pk_div (a := X) (d := 16) (by omega) (by decide) (by decide)) ?_
          refine lv_bipush (v := 60) hx hb dL_law_209 (by decide) ?_
          refine lv_irem hx hb dL_law_211 (by decide) ?_
          refine ki_eq (show ((nI (X / 16)) - (nI (X / 16)) / 60 * 60) = nI ((X / 16) % 60) from pk_rem (a := X / 16) (d := 60) (by omega) (by decide) (by decide)) ?_
          refine lv_iadd hx hb dL_law_212 ?_
          refine ki_eq (show (1 + (nI ((X / 16) % 60))) = nI (1 + ((X / 16) % 60)) from nI_add 1 ((X / 16) % 60)) ?_
          have hJ := l5 _ _ _ _ _ _ _ _ _ _ _ hI ht140 (1 + ((X / 16) % 60)) (by omega) (by omega)
          have hX9 : XP (Ah s) s H := hX.kept hS.2.1
          have hA9 : ∀ q : Nat, H.size ≤ q → Ah s q := fun q h9 => hA q (Nat.le_trans hS.1 h9)
          refine kc_i (w1 := []) (w2 := [(x, EX r t d yg)] ++ (rowW r la bs cA (nI n) wm df q wd zs h ++ (rowW t lt bt cA (nI u.1) u.2.1 u.2.2.1 u.2.2.2.1 u.2.2.2.2.1 u.2.2.2.2.2.1 u.2.2.2.2.2.2 ++ [(d, ED cI dk)]))) (w3 := []) (va_runS (As := [.ref x, .int (nI (1 + ((X / 16) % 60)))]) (rest := []) ⟨hx, hb, hml, hown, hts⟩ (metL_isBottled l hst D H.size x r t d yg la bs cA cI n hn wm df q wd zs h (rowW t lt bt cA (nI u.1) u.2.1 u.2.2.1 u.2.2.2.1 u.2.2.2.2.1 u.2.2.2.2.2.1 u.2.2.2.2.2.2) dk (nI (1 + ((X / 16) % 60))) hJ.1) (va_cwS 2 hts gL_law_L_isBottled rfl rfl rfl (by decide +kernel) ⟨Nat.le_of_ble_eq_true rfl, Nat.le_of_ble_eq_true rfl⟩) (ptS hP hK hD hX9 hA9) rfl rfl hl.1 rfl (lv_room (Nat.le_of_ble_eq_true rfl)) dL_law_213 ⟨rmc (by omega), rms (by omega)⟩) (by rw [List.nil_append, List.append_nil]; exact hP) (by rw [List.nil_append, List.append_nil]; exact hD) hS hA (fun H locs hP hD hS => ?_)
          rw [List.nil_append, List.append_nil] at hP hD
          have hP : va_P D vwCl ([(x, EX r t d yg)] ++ (rowW r la bs cA (nI n) wm df (drQ h n df q (nI (1 + ((X / 16) % 60)))) wd zs (drH h n df q (nI (1 + ((X / 16) % 60)))) ++ (rowW t lt bt cA (nI u.1) u.2.1 u.2.2.1 u.2.2.2.1 u.2.2.2.2.1 u.2.2.2.2.2.1 u.2.2.2.2.2.2 ++ [(d, ED cI (drK dk h n df q (nI (1 + ((X / 16) % 60)))))]))) H := hP
          have hD : va_D (Ah s) ([(x, EX r t d yg)] ++ (rowW r la bs cA (nI n) wm df (drQ h n df q (nI (1 + ((X / 16) % 60)))) wd zs (drH h n df q (nI (1 + ((X / 16) % 60)))) ++ (rowW t lt bt cA (nI u.1) u.2.1 u.2.2.1 u.2.2.2.1 u.2.2.2.2.1 u.2.2.2.2.2.1 u.2.2.2.2.2.2 ++ [(d, ED cI (drK dk h n df q (nI (1 + ((X / 16) % 60)))))]))) := hD
          refine lv_istore (lv' := [(5, .int 1), (8, .int (nI (X % 16))), (7, .int (nI X)), (6, .int (nI turn)), (3, .int (nI F)), (2, .int (nI n)), (1, .ref x), (0, .ref b)]) hx hb dL_law_216 hl (by decide) rfl (fun ls hl => ?_)
          refine lv_goto (tgt := 281) hx hb dL_law_218 (by decide) ?_
          refine lv_iinc (v := nI (turn + 1)) (lv' := [(6, .int (nI (turn + 1))), (5, .int 1), (8, .int (nI (X % 16))), (7, .int (nI X)), (3, .int (nI F)), (2, .int (nI n)), (1, .ref x), (0, .ref b)]) hx hb dL_law_281 hl (k := 3) rfl (nI_1 turn) (by decide) rfl (fun ls hl => ?_)
          refine lv_goto (tgt := 103) hx hb dL_law_284 (by decide) ?_
          refine W.widen (k := cells + 3) (n := slots + 18) (by omega) (by omega) ?_
          exact kk yg wm df (drQ h n df q (nI (1 + ((X / 16) % 60)))) (drH h n df q (nI (1 + ((X / 16) % 60)))) (drK dk h n df q (nI (1 + ((X / 16) % 60)))) u H locs ls hJ.2 hu hP hD hS (lv_sub hl [0, 1, 4, 5, 6, 7] (rfl))
      · refine lv_aload_n hx hb dL_law_186 rfl (lv_at hl 6 rfl) ?_
        have hJ := l4 _ _ _ _ _ _ _ _ _ _ _ hI ht140
        refine kc_i (w1 := []) (w2 := [(x, EX r t d yg)] ++ (rowW r la bs cA (nI n) wm df q wd zs h ++ (rowW t lt bt cA (nI u.1) u.2.1 u.2.2.1 u.2.2.2.1 u.2.2.2.2.1 u.2.2.2.2.2.1 u.2.2.2.2.2.2 ++ [(d, ED cI dk)]))) (w3 := []) (va_runS (As := [.ref x]) (rest := []) ⟨hx, hb, hml, hown, hts⟩ (metL_isAged l D H.size x r t d yg la bs cA cI n hn wm df q wd zs h (rowW t lt bt cA (nI u.1) u.2.1 u.2.2.1 u.2.2.2.1 u.2.2.2.2.1 u.2.2.2.2.2.1 u.2.2.2.2.2.2 ++ [(d, ED cI dk)]) hJ.1) (va_cwS 1 hts gL_law_L_isAged rfl rfl rfl (by decide +kernel) ⟨Nat.le_of_ble_eq_true rfl, Nat.le_of_ble_eq_true rfl⟩) (pmS hP hK hD) rfl rfl hl.1 rfl (lv_room (Nat.le_of_ble_eq_true rfl)) dL_law_187 ⟨rmc (by omega), rms (by omega)⟩) (by rw [List.nil_append, List.append_nil]; exact hP) (by rw [List.nil_append, List.append_nil]; exact hD) hS hA (fun H locs hP hD hS => ?_)
        rw [List.nil_append, List.append_nil] at hP hD
        have hP : va_P D vwCl ([(x, EX r t d (yg + 1))] ++ (rowW r la bs cA (nI n) wm (encO (elO (agH wd (drv wm) h n) n)) (quv (agH wd (drv wm) h n) (elO (agH wd (drv wm) h n) n)) wd zs (agH wd (drv wm) h n) ++ (rowW t lt bt cA (nI u.1) u.2.1 u.2.2.1 u.2.2.2.1 u.2.2.2.2.1 u.2.2.2.2.2.1 u.2.2.2.2.2.2 ++ [(d, ED cI dk)]))) H := hP
        have hD : va_D (Ah s) ([(x, EX r t d (yg + 1))] ++ (rowW r la bs cA (nI n) wm (encO (elO (agH wd (drv wm) h n) n)) (quv (agH wd (drv wm) h n) (elO (agH wd (drv wm) h n) n)) wd zs (agH wd (drv wm) h n) ++ (rowW t lt bt cA (nI u.1) u.2.1 u.2.2.1 u.2.2.2.1 u.2.2.2.2.1 u.2.2.2.2.2.1 u.2.2.2.2.2.2 ++ [(d, ED cI dk)]))) := hD
        refine lv_istore (lv' := [(5, .int 1), (8, .int (nI (X % 16))), (7, .int (nI X)), (6, .int (nI turn)), (3, .int (nI F)), (2, .int (nI n)), (1, .ref x), (0, .ref b)]) hx hb dL_law_190 hl (by decide) rfl (fun ls hl => ?_)
        refine lv_goto (tgt := 281) hx hb dL_law_192 (by decide) ?_
        refine lv_iinc (v := nI (turn + 1)) (lv' := [(6, .int (nI (turn + 1))), (5, .int 1), (8, .int (nI (X % 16))), (7, .int (nI X)), (3, .int (nI F)), (2, .int (nI n)), (1, .ref x), (0, .ref b)]) hx hb dL_law_281 hl (k := 3) rfl (nI_1 turn) (by decide) rfl (fun ls hl => ?_)
        refine lv_goto (tgt := 103) hx hb dL_law_284 (by decide) ?_
        refine W.widen (k := cells + 3) (n := slots + 18) (by omega) (by omega) ?_
        exact kk (yg + 1) wm (encO (elO (agH wd (drv wm) h n) n)) (quv (agH wd (drv wm) h n) (elO (agH wd (drv wm) h n) n)) (agH wd (drv wm) h n) dk u H locs ls hJ.2 hu hP hD hS (lv_sub hl [0, 1, 4, 5, 6, 7] (rfl))
    · refine lv_aload_n hx hb dL_law_170 rfl (lv_at hl 6 rfl) ?_
      have hJ := l3 _ _ _ _ _ _ _ _ _ _ _ hI ht140
      refine kc_i (w1 := []) (w2 := [(x, EX r t d yg)] ++ (rowW r la bs cA (nI n) wm df q wd zs h ++ (rowW t lt bt cA (nI u.1) u.2.1 u.2.2.1 u.2.2.2.1 u.2.2.2.2.1 u.2.2.2.2.2.1 u.2.2.2.2.2.2 ++ [(d, ED cI dk)]))) (w3 := []) (va_runS (As := [.ref x]) (rest := []) ⟨hx, hb, hml, hown, hts⟩ (metL_isMoved l D H.size x r t d yg la bs cA cI n hn wm df q wd zs h (rowW t lt bt cA (nI u.1) u.2.1 u.2.2.1 u.2.2.2.1 u.2.2.2.2.1 u.2.2.2.2.2.1 u.2.2.2.2.2.2 ++ [(d, ED cI dk)]) hJ.1) (va_cwS 1 hts gL_law_L_isMoved rfl rfl rfl (by decide +kernel) ⟨Nat.le_of_ble_eq_true rfl, Nat.le_of_ble_eq_true rfl⟩) (pmS hP hK hD) rfl rfl hl.1 rfl (lv_room (Nat.le_of_ble_eq_true rfl)) dL_law_171 ⟨rmc (by omega), rms (by omega)⟩) (by rw [List.nil_append, List.append_nil]; exact hP) (by rw [List.nil_append, List.append_nil]; exact hD) hS hA (fun H locs hP hD hS => ?_)
      rw [List.nil_append, List.append_nil] at hP hD
      have hP : va_P D vwCl ([(x, EX r t d yg)] ++ (rowW r la bs cA (nI n) wm df q wd zs (toH zs (n - 1) h) ++ (rowW t lt bt cA (nI u.1) u.2.1 u.2.2.1 u.2.2.2.1 u.2.2.2.2.1 u.2.2.2.2.2.1 u.2.2.2.2.2.2 ++ [(d, ED cI dk)]))) H := hP
      have hD : va_D (Ah s) ([(x, EX r t d yg)] ++ (rowW r la bs cA (nI n) wm df q wd zs (toH zs (n - 1) h) ++ (rowW t lt bt cA (nI u.1) u.2.1 u.2.2.1 u.2.2.2.1 u.2.2.2.2.1 u.2.2.2.2.2.1 u.2.2.2.2.2.2 ++ [(d, ED cI dk)]))) := hD
      refine lv_istore (lv' := [(5, .int 1), (8, .int (nI (X % 16))), (7, .int (nI X)), (6, .int (nI turn)), (3, .int (nI F)), (2, .int (nI n)), (1, .ref x), (0, .ref b)]) hx hb dL_law_174 hl (by decide) rfl (fun ls hl => ?_)
      refine lv_goto (tgt := 281) hx hb dL_law_176 (by decide) ?_
      refine lv_iinc (v := nI (turn + 1)) (lv' := [(6, .int (nI (turn + 1))), (5, .int 1), (8, .int (nI (X % 16))), (7, .int (nI X)), (3, .int (nI F)), (2, .int (nI n)), (1, .ref x), (0, .ref b)]) hx hb dL_law_281 hl (k := 3) rfl (nI_1 turn) (by decide) rfl (fun ls hl => ?_)
      refine lv_goto (tgt := 103) hx hb dL_law_284 (by decide) ?_
      refine W.widen (k := cells + 3) (n := slots + 18) (by omega) (by omega) ?_
      exact kk yg wm df q (toH zs (n - 1) h) dk u H locs ls hJ.2 hu hP hD hS (lv_sub hl [0, 1, 4, 5, 6, 7] (rfl))
  · refine lv_aload_n hx hb dL_law_143 rfl (lv_at hl 6 rfl) ?_
    refine lv_iconst (v := 1) hx hb dL_law_144 (by decide) ?_
    refine lv_iload hx hb dL_law_145 (lv_at hl 1 rfl) ?_
    refine lv_bipush (v := 16) hx hb dL_law_147 (by decide) ?_
    refine lv_idiv hx hb dL_law_149 (by decide) ?_
    refine ki_eq (show ((nI X) / 16) = nI (X / 16) from pk_div (a := X) (d := 16) (by omega) (by decide) (by decide)) ?_
    refine lv_bipush (v := 100) hx hb dL_law_150 (by decide) ?_
    refine lv_irem hx hb dL_law_152 (by decide) ?_
    refine ki_eq (show ((nI (X / 16)) - (nI (X / 16)) / 100 * 100) = nI ((X / 16) % 100) from pk_rem (a := X / 16) (d := 100) (by omega) (by decide) (by decide)) ?_
    refine lv_iadd hx hb dL_law_153 ?_
    refine ki_eq (show (1 + (nI ((X / 16) % 100))) = nI (1 + ((X / 16) % 100)) from nI_add 1 ((X / 16) % 100)) ?_
    refine lv_iload_n hx hb dL_law_154 rfl (lv_at hl 4 rfl) ?_
    have hJ := l2 _ _ _ _ _ _ _ _ _ _ _ hI ht140 (1 + ((X / 16) % 100)) (by omega) (by omega)
    have hX9 : XP (Ah s) s H := hX.kept hS.2.1
    have hA9 : ∀ q : Nat, H.size ≤ q → Ah s q := fun q h9 => hA q (Nat.le_trans hS.1 h9)
    refine kc_i (w1 := []) (w2 := [(x, EX r t d yg)] ++ (rowW r la bs cA (nI n) wm df q wd zs h ++ (rowW t lt bt cA (nI u.1) u.2.1 u.2.2.1 u.2.2.2.1 u.2.2.2.2.1 u.2.2.2.2.2.1 u.2.2.2.2.2.2 ++ [(d, ED cI dk)]))) (w3 := []) (va_runS (As := [.ref x, .int (nI (1 + ((X / 16) % 100))), .int (nI F)]) (rest := []) ⟨hx, hb, hml, hown, hts⟩ (metL_isFilled l hst D H.size x r t d yg la bs cA cI n hn wm df q wd zs h (rowW t lt bt cA (nI u.1) u.2.1 u.2.2.1 u.2.2.2.1 u.2.2.2.2.1 u.2.2.2.2.2.1 u.2.2.2.2.2.2 ++ [(d, ED cI dk)]) (nI (1 + ((X / 16) % 100))) (nI F) hJ.1) (va_cwS 3 hts gL_law_L_isFilled rfl rfl rfl (by decide +kernel) ⟨Nat.le_of_ble_eq_true rfl, Nat.le_of_ble_eq_true rfl⟩) (ptS hP hK hD hX9 hA9) rfl rfl hl.1 rfl (lv_room (Nat.le_of_ble_eq_true rfl)) dL_law_155 ⟨rmc (by omega), rms (by omega)⟩) (by rw [List.nil_append, List.append_nil]; exact hP) (by rw [List.nil_append, List.append_nil]; exact hD) hS hA (fun H locs hP hD hS => ?_)
    rw [List.nil_append, List.append_nil] at hP hD
    have hP : va_P D vwCl ([(x, EX r t d yg)] ++ (rowW r la bs cA (nI n) wm df q wd zs (pmH n zs h (FP.i2d (nI (1 + ((X / 16) % 100))))) ++ (rowW t lt bt cA (nI u.1) u.2.1 u.2.2.1 u.2.2.2.1 u.2.2.2.2.1 u.2.2.2.2.2.1 u.2.2.2.2.2.2 ++ [(d, ED cI dk)]))) H := hP
    have hD : va_D (Ah s) ([(x, EX r t d yg)] ++ (rowW r la bs cA (nI n) wm df q wd zs (pmH n zs h (FP.i2d (nI (1 + ((X / 16) % 100))))) ++ (rowW t lt bt cA (nI u.1) u.2.1 u.2.2.1 u.2.2.2.1 u.2.2.2.2.1 u.2.2.2.2.2.1 u.2.2.2.2.2.2 ++ [(d, ED cI dk)]))) := hD
    refine lv_istore (lv' := [(5, .int 1), (8, .int (nI (X % 16))), (7, .int (nI X)), (6, .int (nI turn)), (3, .int (nI F)), (2, .int (nI n)), (1, .ref x), (0, .ref b)]) hx hb dL_law_158 hl (by decide) rfl (fun ls hl => ?_)
    refine lv_goto (tgt := 281) hx hb dL_law_160 (by decide) ?_
    refine lv_iinc (v := nI (turn + 1)) (lv' := [(6, .int (nI (turn + 1))), (5, .int 1), (8, .int (nI (X % 16))), (7, .int (nI X)), (3, .int (nI F)), (2, .int (nI n)), (1, .ref x), (0, .ref b)]) hx hb dL_law_281 hl (k := 3) rfl (nI_1 turn) (by decide) rfl (fun ls hl => ?_)
    refine lv_goto (tgt := 103) hx hb dL_law_284 (by decide) ?_
    refine W.widen (k := cells + 3) (n := slots + 18) (by omega) (by omega) ?_
    exact kk yg wm df q (pmH n zs h (FP.i2d (nI (1 + ((X / 16) % 100))))) dk u H locs ls hJ.2 hu hP hD hS (lv_sub hl [0, 1, 4, 5, 6, 7] (rfl))

