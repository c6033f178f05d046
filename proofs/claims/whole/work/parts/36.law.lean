/-! the law's body, case by case (laid by wip/whole/prog/law.py) -/
/-- the addresses: numbers, two rows of barrels, array types -/
def AD : Type := (Nat → Nat) × (Nat → Nat) × (Nat → Nat) × (Nat → ClassId)
abbrev AD.x (a : AD) : Nat := a.1 0
abbrev AD.r (a : AD) : Nat := a.1 1
abbrev AD.t (a : AD) : Nat := a.1 2
abbrev AD.d (a : AD) : Nat := a.1 3
abbrev AD.la (a : AD) : Nat := a.1 4
abbrev AD.lt (a : AD) : Nat := a.1 5
abbrev AD.y (a : AD) : Nat := a.1 6
abbrev AD.aw (a : AD) : Nat := a.1 7
abbrev AD.az (a : AD) : Nat := a.1 8
abbrev AD.ah (a : AD) : Nat := a.1 9
abbrev AD.ak (a : AD) : Nat := a.1 10
abbrev AD.ol (a : AD) : Nat := a.1 11
abbrev AD.od (a : AD) : Nat := a.1 12
abbrev AD.bs (a : AD) : Nat → Nat := a.2.1
abbrev AD.bt (a : AD) : Nat → Nat := a.2.2.1
abbrev AD.cA (a : AD) : ClassId := a.2.2.2 0
abbrev AD.cI (a : AD) : ClassId := a.2.2.2 1
abbrev AD.cL (a : AD) : ClassId := a.2.2.2 2
abbrev AD.cD (a : AD) : ClassId := a.2.2.2 3
abbrev OUa (a : AD) (fl : Nat → Int64) (fd : Nat → UInt64) : va_W := OU a.ol a.od a.cL a.cD fl fd
abbrev TRa (a : AD) (dk : Nat → Int32) (u : TRW) : va_W := rowW a.t a.lt a.bt a.cA (nI u.1) u.2.1 u.2.2.1 u.2.2.2.1 u.2.2.2.2.1 u.2.2.2.2.2.1 u.2.2.2.2.2.2 ++ [(a.d, ED a.cI dk)]
abbrev LOa (a : AD) (n : Nat) (wm df yg : Int32) (q : UInt64) (wd zs : Nat → Int32) (h : Nat → UInt64) (dk : Nat → Int32) (u : TRW) : va_W := [(a.x, EX a.r a.t a.d yg)] ++ (rowW a.r a.la a.bs a.cA (nI n) wm df q wd zs h ++ TRa a dk u)
abbrev MOa (a : AD) (n : Nat) (wm df yg : Int32) (q : UInt64) (wd zs : Nat → Int32) (h : Nat → UInt64) (dk : Nat → Int32) (th : Int32) (kp : Nat → UInt64) : va_W := modW a.y a.aw a.az a.ah a.ak a.cI a.cD (nI n) wm yg q df (dk 0) (dk 1) (dk 2) th wd zs h kp
/-- loft and reference side by side, with one state -/
abbrev WLa (a : AD) (n : Nat) (wm df yg : Int32) (q : UInt64) (wd zs : Nat → Int32) (h : Nat → UInt64) (dk : Nat → Int32) (u : TRW) (th : Int32) (kp : Nat → UInt64) (fl : Nat → Int64) (fd : Nat → UInt64) : va_W := OUa a fl fd ++ (LOa a n wm df yg q wd zs h dk u ++ MOa a n wm df yg q wd zs h dk th kp)
abbrev TYa (a : AD) : List (ClassId × FieldType) := [(a.cA, .object "VinegarLoft$Barrel"), (a.cI, .int), (a.cL, .long), (a.cD, .double)]
abbrev Ah (s : State) : Nat → Prop := fun q => s.heap.size ≤ q
theorem f12 {w1 w2 w3 : va_W} : w1 ++ (w2 ++ w3) = [] ++ ((w1 ++ w2) ++ w3) := by simp
theorem f13 {w1 w2 w3 : va_W} : w1 ++ (w2 ++ w3) = (w1 ++ w2) ++ (w3 ++ []) := by simp
/-- what holds all through the law -/
def LC (p : Program) (l : Launch) (s : State) (m : MethodId) (c : Code) (D : va_G) (b L : Nat) (xs : Nat → Int32) (a : AD) : Prop :=
  p.tables.exec = Jvm.exec ∧ c.code = cL_law ∧ c.maxLocals = 10 ∧ s.vm.findClass RL = some m.cls ∧ (∀ w ∈ wsL_law, w.before #[Value.ref b] s = true) ∧ va_K D vwCl (TYa a) s ∧ XP (Ah s) s s.heap ∧ XH s ∧ l.stackTraces = false ∧ va_X b L xs s s.heap ∧ b < s.heap.size ∧ L ≤ 1536
abbrev LOC (a : AD) (b j : Nat) : List (Nat × Value) := [(5, .int (nI j)), (4, .ref a.od), (3, .ref a.ol), (2, .ref a.y), (1, .ref a.x), (0, .ref b)]
theorem thA_n {zs : Nat → Int32} {n : Nat} {x z : Int32} (hA1 : badA1 zs n x z ↔ ((x < 0 ∨ 3 < x) ∨ (z < 10 ∨ 100 < z) ∨ (nI n ≠ 0 ∧ zs (n - 1) ≤ z))) (h1 : ¬ badA1 zs n x z) (h2 : n < 8) : thA zs n x z = 0 := by
  unfold thA
  rw [if_neg (fun h => h1 (hA1.mpr h)), if_neg (fun h => by have := congrArg Int32.toInt h; rw [nI_toInt (by omega)] at this; have h8 : (8 : Int32).toInt = 8 := by decide
                                                            omega)]
theorem thA_f {zs : Nat → Int32} {n : Nat} {x z : Int32} (hA1 : badA1 zs n x z ↔ ((x < 0 ∨ 3 < x) ∨ (z < 10 ∨ 100 < z) ∨ (nI n ≠ 0 ∧ zs (n - 1) ≤ z))) (hn : n ≤ 8) (h1 : ¬ badA1 zs n x z ∧ ¬ n < 8) : thA zs n x z = 2 := by
  unfold thA
  rw [if_neg (fun h => h1.1 (hA1.mpr h)), if_pos (by rw [show n = 8 by omega]; rfl)]
theorem thA_b {zs : Nat → Int32} {n : Nat} {x z : Int32} (hA1 : badA1 zs n x z ↔ ((x < 0 ∨ 3 < x) ∨ (z < 10 ∨ 100 < z) ∨ (nI n ≠ 0 ∧ zs (n - 1) ≤ z))) (h1 : badA1 zs n x z) : thA zs n x z = 1 := if_pos (hA1.mp h1)
theorem thR_y {lo hi x : Int32} (h : badR lo hi x) : thR lo hi x = 1 := if_pos h
theorem thR_n {lo hi x : Int32} (h : ¬ badR lo hi x) : thR lo hi x = 0 := if_neg h
theorem hset_z {n : Nat} (hn : n < 8) {h : Nat → UInt64} (hz : zerH n h) : hset h n 0 0 0 0 = h :=
  (hset_of hn (hz n (Or.inr (by omega))) (hz (8 + n) (Or.inr (by omega))) (hz (16 + n) (Or.inr (by omega))) (hz (24 + n) (Or.inr (by omega))) (fun _ _ _ _ _ => rfl)).symm
section LAWROWS
variable {p : Program} {l : Launch} {e : Env} {R : Room} {s : State} {m : MethodId} {args : Array Value} {below : List Frame} {meth : Method} {c : Code} {H H0 : Heap} {locs : List Loc} {cells slots : Nat} {Q : State → Prop} {D : va_G} {A A0 : Nat → Prop} {pc : Nat} {ls : Array Slot} {rest st0 : List Value} {w1 w2 w3 : va_W} {mc ms : Nat} {aa : Array Value} {tc : List (ClassId × FieldType)} {cc : ByteArray}
theorem kl_cmp (hexec : p.tables.exec = Jvm.exec) (hb : c.code = cc) {x : Int64} (hdg : decode cc pc = .ok (.lcmp, 1)) (k : W p l e R s m args below meth c H locs cells slots Q (F0 m (pc + 1) ls (.int 0 :: rest))) : W p l e R s m args below meth c H locs cells slots Q (F0 m pc ls (.long x :: .long x :: rest)) := by
  intro T hT X
  obtain ⟨t, a, b⟩ := k T hT X
  refine ⟨t, ?_, b⟩
  jvm_step X.here [X.here.top, hexec, hb, hdg]
  have h1 : ¬ x > x := by rw [gt_iff_lt, Int64.lt_iff_toInt_lt]; omega
  first | exact a | (simp [h1]; exact a) | (simp; exact a)
theorem kx_sld (hexec : p.tables.exec = Jvm.exec) (hb : c.code = cc) {b L : Nat} {xs : Nat → Int32} (hX : va_X b L xs s H0) (hbl : b < H0.size) (hbA : ¬ A b) (hS : va_S A H0 H locs) {i : Int32} {j : Nat} (hi : i = nI j) (hj : j < L) (hL : L ≤ 1536) (hdg : decode cc pc = .ok (.iaload, 1))
    (kk : W p l e R s m args below meth c H locs cells slots Q (F0 m (pc + 1) ls (.int (xs j) :: rest))) : W p l e R s m args below meth c H locs cells slots Q (F0 m pc ls (.int i :: .ref b :: rest)) := by
  subst hi
  refine va_sld hexec hb hX hbl hbA hS (vp_in_nI hj (by omega)) hdg ?_
  rw [nI_clamp (by omega)]
  exact kk
theorem kJ_i {S : Type} {post : Int32 → S → Prop} {w2' : S → va_W} (hr : va_Run p l e R s m args below meth c H locs cells slots mc ms (F0 m pc ls st0) rest (va_Qi post (fun u t => va_P D vwCl (w2' u) t.heap ∧ va_K D vwCl tc t ∧ va_D (va_A w2 H.size) (w2' u)) (va_A w2 H.size) aa) (va_A w2 H.size)) (hP : va_P D vwCl (w1 ++ (w2 ++ w3)) H) (hD : va_D A0 (w1 ++ (w2 ++ w3))) (hS : va_S A0 H0 H locs) (hA : ∀ q, H0.size ≤ q → A0 q)
    (kk : ∀ (r : Int32) (u : S) (H1 : Heap) (locs1 : List Loc), post r u → va_P D vwCl (w1 ++ (w2' u ++ w3)) H1 → va_D A0 (w1 ++ (w2' u ++ w3)) → va_S A0 H0 H1 locs1 → W p l e R s m args below meth c H1 locs1 (cells + mc) (slots + ms) Q (F0 m (pc + 3) ls (.int r :: rest))) : W p l e R s m args below meth c H locs cells slots Q (F0 m pc ls st0) := by
  refine va_calli hr hS (fun q _ h => vj_mF hD hS hA q h) (vj_mF hD hS hA) (fun r u t H1 locs1 ht hvm hw hB hz hk hS1 => ?_)
  obtain ⟨hP1, hK1, hD1⟩ := hB
  rw [ht] at hP1
  obtain ⟨hP2, hD2⟩ := vj_mid hP hD hk (vj_mF hD hS hA) hP1 hD1
  exact kk r u H1 locs1 hw hP2 hD2 hS1
end LAWROWS
set_option maxHeartbeats 4000000 in
set_option maxRecDepth 100000 in
theorem lawc_0 {p : Program} {l : Launch} {e : Env} {s : State} {m : MethodId} {below : List Frame} {meth : Method} {c : Code} {H : Heap} {locs : List Loc} {cells slots : Nat} {Q : State → Prop} {D : va_G} {b L : Nat} {xs : Nat → Int32} {a : AD} {ls : Array Slot} (C : LC p l s m c D b L xs a) (n : Nat) (hn : n ≤ 8) (wm df yg : Int32) (q : UInt64) (wd zs : Nat → Int32) (h : Nat → UInt64) (dk : Nat → Int32) (u : TRW) (th : Int32) (kp : Nat → UInt64) (fl : Nat → Int64) (fd : Nat → UInt64) {j : Nat} (hj : j + 2 < L) (hA1 : badA1 zs n (xs (j + 1)) (xs (j + 2)) ↔ (((xs (j + 1)) < 0 ∨ 3 < (xs (j + 1))) ∨ ((xs (j + 2)) < 10 ∨ 100 < (xs (j + 2))) ∨ (nI n ≠ 0 ∧ zs (n - 1) ≤ (xs (j + 2))))) (hz0 : zerH n h)
    (hP : va_P D vwCl (OUa a fl fd ++ (LOa a n wm df yg q wd zs h dk u ++ MOa a n wm df yg q wd zs h dk th kp)) H) (hD : va_D (Ah s) (OUa a fl fd ++ (LOa a n wm df yg q wd zs h dk u ++ MOa a n wm df yg q wd zs h dk th kp))) (hS : va_S (Ah s) s.heap H locs) (hl : lv_has ls 10 (LOC a b j)) (hc1 : cells + 1 ≤ room_1.cells) (hs1 : slots + 6 ≤ room_1.slots)
    (kk : (∀ (H : Heap) (locs : List Loc) (ls : Array Slot) (th' : Int32) (kp' : Nat → UInt64) (fl' : Nat → Int64) (fd' : Nat → UInt64), va_P D vwCl (OUa a (fl') (fd') ++ (LOa a (n + 1) wm df yg q (va_up wd n (xs (j + 1))) (va_up zs n (xs (j + 2))) h dk u ++ MOa a (n + 1) wm df yg q (va_up wd n (xs (j + 1))) (va_up zs n (xs (j + 2))) h dk (th') (kp'))) H → va_D (Ah s) (OUa a (fl') (fd') ++ (LOa a (n + 1) wm df yg q (va_up wd n (xs (j + 1))) (va_up zs n (xs (j + 2))) h dk u ++ MOa a (n + 1) wm df yg q (va_up wd n (xs (j + 1))) (va_up zs n (xs (j + 2))) h dk (th') (kp'))) → va_S (Ah s) s.heap H locs → lv_has ls 10 (LOC a b j) → (¬ badA1 zs n (xs (j + 1)) (xs (j + 2)) ∧ n < 8) → W p l e room_1 s m #[Value.ref b] below meth c H locs (cells + 1) (slots + 6) Q (F0 m 1124 ls [])))
    (kb : (∀ (H : Heap) (locs : List Loc) (ls : Array Slot) (th' : Int32) (kp' : Nat → UInt64) (fl' : Nat → Int64) (fd' : Nat → UInt64), va_P D vwCl (OUa a (fl') (fd') ++ (LOa a n wm df yg q wd zs h dk u ++ MOa a n wm df yg q wd zs h dk (th') (kp'))) H → va_D (Ah s) (OUa a (fl') (fd') ++ (LOa a n wm df yg q wd zs h dk u ++ MOa a n wm df yg q wd zs h dk (th') (kp'))) → va_S (Ah s) s.heap H locs → lv_has ls 10 (LOC a b j) → W p l e room_1 s m #[Value.ref b] below meth c H locs (cells + 1) (slots + 6) Q (F0 m 1124 ls []))) :
    W p l e room_1 s m #[Value.ref b] below meth c H locs cells slots Q (F0 m 140 ls []) := by
  obtain ⟨hx, hb, hml, hown, hts, hK, hX, hH, hst, hXs, hbl, hL⟩ := C
  have hA : ∀ q : Nat, s.heap.size ≤ q → Ah s q := fun _ h => h
  have hbA : ¬ Ah s b := Nat.not_le.mpr hbl
  have hc0 : cells + 0 ≤ room_1.cells := by omega
  have hs0 : slots + 0 ≤ room_1.slots := by omega
  have hl : lv_has ls 10 [(5, .int (nI j)), (4, .ref a.od), (3, .ref a.ol), (2, .ref a.y), (1, .ref a.x), (0, .ref b)] := hl
  refine lv_aload_n hx hb dL_law_140 rfl (lv_at hl 4 rfl) ?_
  refine lv_aload_n hx hb dL_law_141 rfl (lv_at hl 5 rfl) ?_
  refine lv_iload hx hb dL_law_142 (lv_at hl 0 rfl) ?_
  refine lv_iconst (v := 1) hx hb dL_law_144 (by decide) ?_
  refine lv_iadd hx hb dL_law_145 ?_
  refine kx_sld hx hb hXs hbl hbA hS (j := j + 1) (nI_1 j) (by omega) hL dL_law_146 ?_
  refine lv_aload_n hx hb dL_law_147 rfl (lv_at hl 5 rfl) ?_
  refine lv_iload hx hb dL_law_148 (lv_at hl 0 rfl) ?_
  refine lv_iconst (v := 2) hx hb dL_law_150 (by decide) ?_
  refine lv_iadd hx hb dL_law_151 ?_
  refine kx_sld hx hb hXs hbl hbA hS (j := j + 2) (ixc j 2) (by omega) hL dL_law_152 ?_
  refine lv_aload_n hx hb dL_law_153 rfl (lv_at hl 2 rfl) ?_
  have hP2 : va_P D vwCl ([] ++ ((OUa a fl fd ++ LOa a n wm df yg q wd zs h dk u) ++ MOa a n wm df yg q wd zs h dk th kp)) H := by rw [← f12]; exact hP
  have hD2 : va_D (Ah s) ([] ++ ((OUa a fl fd ++ LOa a n wm df yg q wd zs h dk u) ++ MOa a n wm df yg q wd zs h dk th kp)) := by rw [← f12]; exact hD
  have hX9 : XP (Ah s) s H := hX.kept hS.2.1
  have hA9 : ∀ q : Nat, H.size ≤ q → Ah s q := fun q h9 => hA q (Nat.le_trans hS.1 h9)
  refine kh_i (w1 := []) (w3 := MOa a n wm df yg q wd zs h dk th kp) (vx_runSW (As := [.ref a.x, .int (xs (j + 1)), .int (xs (j + 2)), .ref a.ol]) (rest := []) ⟨hx, hb, hml, hown, hts⟩ (metL_add l hst D H.size a.x a.r a.t a.d yg a.la a.bs a.cA a.cI n hn wm df q wd zs h (TRa a dk u) a.ol a.od a.cL a.cD fl fd (xs (j + 1)) (xs (j + 2)) ) (vx_cwSW 4 hts gL_law_L_add rfl rfl rfl (by decide +kernel) ⟨Nat.le_of_ble_eq_true rfl, Nat.le_of_ble_eq_true rfl⟩) (phS (vj_mP hP2) hK (vj_mD hD2) hX9 hH hA9) rfl rfl hl.1 rfl (lv_room (Nat.le_of_ble_eq_true rfl)) dL_law_154 ⟨hc1, hs1⟩) hP2 hD2 hS hA (fun r9 W9 H locs hp9 hP hD hS => ?_)
  rcases hp9 with ⟨hok9, rfl, rfl⟩ | ⟨hbad9, rfl, rfl⟩ | ⟨hbad9, rfl, rfl⟩
  · rw [← f12] at hP hD
    have hP : va_P D vwCl (OUa a (vp_updL fl 0 (nI n).toInt64) fd ++ (LOa a (n + 1) wm df yg q (va_up wd n (xs (j + 1))) (va_up zs n (xs (j + 2))) (hset h n 0 0 0 0) dk u ++ MOa a n wm df yg q wd zs h dk th kp)) H := hP
    have hD : va_D (Ah s) (OUa a (vp_updL fl 0 (nI n).toInt64) fd ++ (LOa a (n + 1) wm df yg q (va_up wd n (xs (j + 1))) (va_up zs n (xs (j + 2))) (hset h n 0 0 0 0) dk u ++ MOa a n wm df yg q wd zs h dk th kp)) := hD
    refine lv_istore (lv' := [(6, .int 0), (5, .int (nI j)), (4, .ref a.od), (3, .ref a.ol), (2, .ref a.y), (1, .ref a.x), (0, .ref b)]) hx hb dL_law_157 hl (by decide) rfl (fun ls hl => ?_)
    refine lv_aload_n hx hb dL_law_159 rfl (lv_at hl 4 rfl) ?_
    refine lv_aload_n hx hb dL_law_160 rfl (lv_at hl 6 rfl) ?_
    refine lv_iload hx hb dL_law_161 (lv_at hl 1 rfl) ?_
    refine lv_iconst (v := 1) hx hb dL_law_163 (by decide) ?_
    refine lv_iadd hx hb dL_law_164 ?_
    refine kx_sld hx hb hXs hbl hbA hS (j := j + 1) (nI_1 j) (by omega) hL dL_law_165 ?_
    refine lv_aload_n hx hb dL_law_166 rfl (lv_at hl 6 rfl) ?_
    refine lv_iload hx hb dL_law_167 (lv_at hl 1 rfl) ?_
    refine lv_iconst (v := 2) hx hb dL_law_169 (by decide) ?_
    refine lv_iadd hx hb dL_law_170 ?_
    refine kx_sld hx hb hXs hbl hbA hS (j := j + 2) (ixc j 2) (by omega) hL dL_law_171 ?_
    have hP3 : va_P D vwCl ((OUa a (vp_updL fl 0 (nI n).toInt64) fd ++ LOa a (n + 1) wm df yg q (va_up wd n (xs (j + 1))) (va_up zs n (xs (j + 2))) (hset h n 0 0 0 0) dk u) ++ (MOa a n wm df yg q wd zs h dk th kp ++ [])) H := by rw [← f13]; exact hP
    have hD3 : va_D (Ah s) ((OUa a (vp_updL fl 0 (nI n).toInt64) fd ++ LOa a (n + 1) wm df yg q (va_up wd n (xs (j + 1))) (va_up zs n (xs (j + 2))) (hset h n 0 0 0 0) dk u) ++ (MOa a n wm df yg q wd zs h dk th kp ++ [])) := by rw [← f13]; exact hD
    refine kc_i (w1 := OUa a (vp_updL fl 0 (nI n).toInt64) fd ++ LOa a (n + 1) wm df yg q (va_up wd n (xs (j + 1))) (va_up zs n (xs (j + 2))) (hset h n 0 0 0 0) dk u) (w3 := []) (va_runV (As := [.int (xs (j + 1)), .int (xs (j + 2))]) (rest := []) ⟨hx, hb, hml, hown, hts⟩ (metX3_add l D H.size a.y a.aw a.az a.ah a.ak a.cI a.cD n hn wm yg q df (dk 0) (dk 1) (dk 2) th wd zs h kp (xs (j + 1)) (xs (j + 2))) (cwV 2 hts gL_law_X3_add rfl rfl rfl (by decide +kernel) ⟨Nat.le_of_ble_eq_true rfl, Nat.le_of_ble_eq_true rfl⟩) (pmV 3 0 RX3 TX3 13 rfl rfl (vj_mP hP3) (hK.sub [1, 3] rfl) (vj_mD hD3)) rfl rfl hl.1 rfl (lv_room (Nat.le_of_ble_eq_true rfl)) dL_law_172 ⟨hc1, hs1⟩) hP3 hD3 hS hA (fun H locs hP hD hS => ?_)
    rw [← f13] at hP hD
    have e9 : thA zs n (xs (j + 1)) (xs (j + 2)) = 0 := thA_n hA1 hok9.1 hok9.2
    rw [e9] at hP hD
    simp only [if_pos (rfl : (0 : Int32) = 0)] at hP hD
    rw [hset_z hok9.2 hz0] at hP hD
    have hP : va_P D vwCl (OUa a (vp_updL fl 0 (nI n).toInt64) fd ++ (LOa a (n + 1) wm df yg q (va_up wd n (xs (j + 1))) (va_up zs n (xs (j + 2))) h dk u ++ MOa a (n + 1) wm df yg q (va_up wd n (xs (j + 1))) (va_up zs n (xs (j + 2))) h dk 0 kp)) H := hP
    have hD : va_D (Ah s) (OUa a (vp_updL fl 0 (nI n).toInt64) fd ++ (LOa a (n + 1) wm df yg q (va_up wd n (xs (j + 1))) (va_up zs n (xs (j + 2))) h dk u ++ MOa a (n + 1) wm df yg q (va_up wd n (xs (j + 1))) (va_up zs n (xs (j + 2))) h dk 0 kp)) := hD
    refine ki_eq (show (if thA zs n (xs (j + 1)) (xs (j + 2)) = 0 then nI n else 0) = nI n from by rw [e9, if_pos rfl]) ?_
    refine lv_istore (lv' := [(7, .int (nI n)), (6, .int 0), (5, .int (nI j)), (4, .ref a.od), (3, .ref a.ol), (2, .ref a.y), (1, .ref a.x), (0, .ref b)]) hx hb dL_law_175 hl (by decide) rfl (fun ls hl => ?_)
    refine lv_aload_n hx hb dL_law_177 rfl (lv_at hl 5 rfl) ?_
    have hP3 : va_P D vwCl ((OUa a (vp_updL fl 0 (nI n).toInt64) fd ++ LOa a (n + 1) wm df yg q (va_up wd n (xs (j + 1))) (va_up zs n (xs (j + 2))) h dk u) ++ (MOa a (n + 1) wm df yg q (va_up wd n (xs (j + 1))) (va_up zs n (xs (j + 2))) h dk 0 kp ++ [])) H := by rw [← f13]; exact hP
    refine kr_i (W.runV (As := []) (rest := []) ⟨hx, hb, hml, hown, hts⟩ (metX3_thrown l D a.y a.aw a.az a.ah a.ak a.cI a.cD (n + 1) hok9.2 wm yg q df (dk 0) (dk 1) (dk 2) 0 (va_up wd n (xs (j + 1))) (va_up zs n (xs (j + 2))) h kp ) (cwV 0 hts gL_law_X3_thrown rfl rfl rfl (by decide +kernel) ⟨Nat.le_of_ble_eq_true rfl, Nat.le_of_ble_eq_true rfl⟩) (prV 3 0 RX3 TX3 13 rfl rfl (vj_mP hP3) (hK.sub [1, 3] rfl)) rfl rfl hl.1 rfl (lv_room (Nat.le_of_ble_eq_true rfl)) dL_law_178 ⟨hc1, hs1⟩) ?_
    refine lv_iload hx hb dL_law_181 (lv_at hl 1 rfl) ?_
    refine lv_icmp_eq (tgt := 188) hx hb dL_law_183 (by decide) (fun c183 => ?_) (fun c183 => absurd rfl c183)
    refine lv_iload hx hb dL_law_188 (lv_at hl 1 rfl) ?_
    refine lv_if_ne (tgt := 205) hx hb dL_law_190 (by decide) (fun c190 => absurd c190 (fun h9 => h9 rfl)) (fun c190 => ?_)
    refine lv_aload_n hx hb dL_law_193 rfl (lv_at hl 4 rfl) ?_
    refine lv_iconst (v := 0) hx hb dL_law_194 (by decide) ?_
    refine va_lald hx hb hK (ws := OUa a (vp_updL fl 0 (nI n).toInt64) fd ++ (LOa a (n + 1) wm df yg q (va_up wd n (xs (j + 1))) (va_up zs n (xs (j + 2))) h dk u ++ MOa a (n + 1) wm df yg q (va_up wd n (xs (j + 1))) (va_up zs n (xs (j + 2))) h dk 0 kp)) hP 0 2 (f := vp_updL fl 0 (nI n).toInt64) rfl rfl (i := 0) (vp_in_nI (n := 0) (N := 1) (by decide) (by decide)) dL_law_195 ?_
    refine W.eq (g2 := F0 m 196 ls (.long ((nI n).toInt64) :: [])) (by rw [cl_0]; rfl) ?_
    refine lv_iload hx hb dL_law_196 (lv_at hl 0 rfl) ?_
    refine lv_i2l (v := (nI n).toInt64) hx hb dL_law_198 rfl ?_
    refine kl_cmp hx hb dL_law_199 ?_
    refine lv_if_eq (tgt := 205) hx hb dL_law_200 (by decide) (fun c200 => ?_) (fun c200 => absurd rfl c200)
    refine lv_goto (tgt := 1124) hx hb dL_law_205 (by decide) ?_
    refine W.widen (k := cells + 1) (n := slots + 6) (by omega) (by omega) ?_
    exact kk H locs ls 0 kp (vp_updL fl 0 (nI n).toInt64) fd hP hD hS (lv_sub hl [2, 3, 4, 5, 6, 7] rfl) hok9
  · rw [← f12] at hP hD
    have hP : va_P D vwCl (OUa a fl fd ++ (LOa a n wm df yg q wd zs h dk u ++ MOa a n wm df yg q wd zs h dk th kp)) H := hP
    have hD : va_D (Ah s) (OUa a fl fd ++ (LOa a n wm df yg q wd zs h dk u ++ MOa a n wm df yg q wd zs h dk th kp)) := hD
    refine lv_istore (lv' := [(6, .int 1), (5, .int (nI j)), (4, .ref a.od), (3, .ref a.ol), (2, .ref a.y), (1, .ref a.x), (0, .ref b)]) hx hb dL_law_157 hl (by decide) rfl (fun ls hl => ?_)
    refine lv_aload_n hx hb dL_law_159 rfl (lv_at hl 4 rfl) ?_
    refine lv_aload_n hx hb dL_law_160 rfl (lv_at hl 6 rfl) ?_
    refine lv_iload hx hb dL_law_161 (lv_at hl 1 rfl) ?_
    refine lv_iconst (v := 1) hx hb dL_law_163 (by decide) ?_
    refine lv_iadd hx hb dL_law_164 ?_
    refine kx_sld hx hb hXs hbl hbA hS (j := j + 1) (nI_1 j) (by omega) hL dL_law_165 ?_
    refine lv_aload_n hx hb dL_law_166 rfl (lv_at hl 6 rfl) ?_
    refine lv_iload hx hb dL_law_167 (lv_at hl 1 rfl) ?_
    refine lv_iconst (v := 2) hx hb dL_law_169 (by decide) ?_
    refine lv_iadd hx hb dL_law_170 ?_
    refine kx_sld hx hb hXs hbl hbA hS (j := j + 2) (ixc j 2) (by omega) hL dL_law_171 ?_
    have hP3 : va_P D vwCl ((OUa a fl fd ++ LOa a n wm df yg q wd zs h dk u) ++ (MOa a n wm df yg q wd zs h dk th kp ++ [])) H := by rw [← f13]; exact hP
    have hD3 : va_D (Ah s) ((OUa a fl fd ++ LOa a n wm df yg q wd zs h dk u) ++ (MOa a n wm df yg q wd zs h dk th kp ++ [])) := by rw [← f13]; exact hD
    refine kc_i (w1 := OUa a fl fd ++ LOa a n wm df yg q wd zs h dk u) (w3 := []) (va_runV (As := [.int (xs (j + 1)), .int (xs (j + 2))]) (rest := []) ⟨hx, hb, hml, hown, hts⟩ (metX3_add l D H.size a.y a.aw a.az a.ah a.ak a.cI a.cD n hn wm yg q df (dk 0) (dk 1) (dk 2) th wd zs h kp (xs (j + 1)) (xs (j + 2))) (cwV 2 hts gL_law_X3_add rfl rfl rfl (by decide +kernel) ⟨Nat.le_of_ble_eq_true rfl, Nat.le_of_ble_eq_true rfl⟩) (pmV 3 0 RX3 TX3 13 rfl rfl (vj_mP hP3) (hK.sub [1, 3] rfl) (vj_mD hD3)) rfl rfl hl.1 rfl (lv_room (Nat.le_of_ble_eq_true rfl)) dL_law_172 ⟨hc1, hs1⟩) hP3 hD3 hS hA (fun H locs hP hD hS => ?_)
    rw [← f13] at hP hD
    have e9 : thA zs n (xs (j + 1)) (xs (j + 2)) = 1 := thA_b hA1 hbad9
    rw [e9] at hP hD
    simp only [if_neg (show ¬ (1 : Int32) = 0 by decide)] at hP hD
    have hP : va_P D vwCl (OUa a fl fd ++ (LOa a n wm df yg q wd zs h dk u ++ MOa a n wm df yg q wd zs h dk 1 kp)) H := hP
    have hD : va_D (Ah s) (OUa a fl fd ++ (LOa a n wm df yg q wd zs h dk u ++ MOa a n wm df yg q wd zs h dk 1 kp)) := hD
    refine ki_eq (show (if thA zs n (xs (j + 1)) (xs (j + 2)) = 0 then nI n else 0) = 0 from by rw [e9, if_neg (by decide)]) ?_
    refine lv_istore (lv' := [(7, .int 0), (6, .int 1), (5, .int (nI j)), (4, .ref a.od), (3, .ref a.ol), (2, .ref a.y), (1, .ref a.x), (0, .ref b)]) hx hb dL_law_175 hl (by decide) rfl (fun ls hl => ?_)
    refine lv_aload_n hx hb dL_law_177 rfl (lv_at hl 5 rfl) ?_
    have hP3 : va_P D vwCl ((OUa a fl fd ++ LOa a n wm df yg q wd zs h dk u) ++ (MOa a n wm df yg q wd zs h dk 1 kp ++ [])) H := by rw [← f13]; exact hP
    refine kr_i (W.runV (As := []) (rest := []) ⟨hx, hb, hml, hown, hts⟩ (metX3_thrown l D a.y a.aw a.az a.ah a.ak a.cI a.cD n hn wm yg q df (dk 0) (dk 1) (dk 2) 1 wd zs h kp ) (cwV 0 hts gL_law_X3_thrown rfl rfl rfl (by decide +kernel) ⟨Nat.le_of_ble_eq_true rfl, Nat.le_of_ble_eq_true rfl⟩) (prV 3 0 RX3 TX3 13 rfl rfl (vj_mP hP3) (hK.sub [1, 3] rfl)) rfl rfl hl.1 rfl (lv_room (Nat.le_of_ble_eq_true rfl)) dL_law_178 ⟨hc1, hs1⟩) ?_
    refine lv_iload hx hb dL_law_181 (lv_at hl 1 rfl) ?_
    refine lv_icmp_eq (tgt := 188) hx hb dL_law_183 (by decide) (fun c183 => ?_) (fun c183 => absurd rfl c183)
    refine lv_iload hx hb dL_law_188 (lv_at hl 1 rfl) ?_
    refine lv_if_ne (tgt := 205) hx hb dL_law_190 (by decide) (fun c190 => ?_) (fun c190 => absurd c190 (by decide))
    refine lv_goto (tgt := 1124) hx hb dL_law_205 (by decide) ?_
    refine W.widen (k := cells + 1) (n := slots + 6) (by omega) (by omega) ?_
    exact kb H locs ls 1 kp fl fd hP hD hS (lv_sub hl [2, 3, 4, 5, 6, 7] rfl)
  · rw [← f12] at hP hD
    have hP : va_P D vwCl (OUa a fl fd ++ (LOa a n wm df yg q wd zs h dk u ++ MOa a n wm df yg q wd zs h dk th kp)) H := hP
    have hD : va_D (Ah s) (OUa a fl fd ++ (LOa a n wm df yg q wd zs h dk u ++ MOa a n wm df yg q wd zs h dk th kp)) := hD
    refine lv_istore (lv' := [(6, .int 2), (5, .int (nI j)), (4, .ref a.od), (3, .ref a.ol), (2, .ref a.y), (1, .ref a.x), (0, .ref b)]) hx hb dL_law_157 hl (by decide) rfl (fun ls hl => ?_)
    refine lv_aload_n hx hb dL_law_159 rfl (lv_at hl 4 rfl) ?_
    refine lv_aload_n hx hb dL_law_160 rfl (lv_at hl 6 rfl) ?_
    refine lv_iload hx hb dL_law_161 (lv_at hl 1 rfl) ?_
    refine lv_iconst (v := 1) hx hb dL_law_163 (by decide) ?_
    refine lv_iadd hx hb dL_law_164 ?_
    refine kx_sld hx hb hXs hbl hbA hS (j := j + 1) (nI_1 j) (by omega) hL dL_law_165 ?_
    refine lv_aload_n hx hb dL_law_166 rfl (lv_at hl 6 rfl) ?_
    refine lv_iload hx hb dL_law_167 (lv_at hl 1 rfl) ?_
    refine lv_iconst (v := 2) hx hb dL_law_169 (by decide) ?_
    refine lv_iadd hx hb dL_law_170 ?_
    refine kx_sld hx hb hXs hbl hbA hS (j := j + 2) (ixc j 2) (by omega) hL dL_law_171 ?_
    have hP3 : va_P D vwCl ((OUa a fl fd ++ LOa a n wm df yg q wd zs h dk u) ++ (MOa a n wm df yg q wd zs h dk th kp ++ [])) H := by rw [← f13]; exact hP
    have hD3 : va_D (Ah s) ((OUa a fl fd ++ LOa a n wm df yg q wd zs h dk u) ++ (MOa a n wm df yg q wd zs h dk th kp ++ [])) := by rw [← f13]; exact hD
    refine kc_i (w1 := OUa a fl fd ++ LOa a n wm df yg q wd zs h dk u) (w3 := []) (va_runV (As := [.int (xs (j + 1)), .int (xs (j + 2))]) (rest := []) ⟨hx, hb, hml, hown, hts⟩ (metX3_add l D H.size a.y a.aw a.az a.ah a.ak a.cI a.cD n hn wm yg q df (dk 0) (dk 1) (dk 2) th wd zs h kp (xs (j + 1)) (xs (j + 2))) (cwV 2 hts gL_law_X3_add rfl rfl rfl (by decide +kernel) ⟨Nat.le_of_ble_eq_true rfl, Nat.le_of_ble_eq_true rfl⟩) (pmV 3 0 RX3 TX3 13 rfl rfl (vj_mP hP3) (hK.sub [1, 3] rfl) (vj_mD hD3)) rfl rfl hl.1 rfl (lv_room (Nat.le_of_ble_eq_true rfl)) dL_law_172 ⟨hc1, hs1⟩) hP3 hD3 hS hA (fun H locs hP hD hS => ?_)
    rw [← f13] at hP hD
    have e9 : thA zs n (xs (j + 1)) (xs (j + 2)) = 2 := thA_f hA1 hn hbad9
    rw [e9] at hP hD
    simp only [if_neg (show ¬ (2 : Int32) = 0 by decide)] at hP hD
    have hP : va_P D vwCl (OUa a fl fd ++ (LOa a n wm df yg q wd zs h dk u ++ MOa a n wm df yg q wd zs h dk 2 kp)) H := hP
    have hD : va_D (Ah s) (OUa a fl fd ++ (LOa a n wm df yg q wd zs h dk u ++ MOa a n wm df yg q wd zs h dk 2 kp)) := hD
    refine ki_eq (show (if thA zs n (xs (j + 1)) (xs (j + 2)) = 0 then nI n else 0) = 0 from by rw [e9, if_neg (by decide)]) ?_
    refine lv_istore (lv' := [(7, .int 0), (6, .int 2), (5, .int (nI j)), (4, .ref a.od), (3, .ref a.ol), (2, .ref a.y), (1, .ref a.x), (0, .ref b)]) hx hb dL_law_175 hl (by decide) rfl (fun ls hl => ?_)
    refine lv_aload_n hx hb dL_law_177 rfl (lv_at hl 5 rfl) ?_
    have hP3 : va_P D vwCl ((OUa a fl fd ++ LOa a n wm df yg q wd zs h dk u) ++ (MOa a n wm df yg q wd zs h dk 2 kp ++ [])) H := by rw [← f13]; exact hP
    refine kr_i (W.runV (As := []) (rest := []) ⟨hx, hb, hml, hown, hts⟩ (metX3_thrown l D a.y a.aw a.az a.ah a.ak a.cI a.cD n hn wm yg q df (dk 0) (dk 1) (dk 2) 2 wd zs h kp ) (cwV 0 hts gL_law_X3_thrown rfl rfl rfl (by decide +kernel) ⟨Nat.le_of_ble_eq_true rfl, Nat.le_of_ble_eq_true rfl⟩) (prV 3 0 RX3 TX3 13 rfl rfl (vj_mP hP3) (hK.sub [1, 3] rfl)) rfl rfl hl.1 rfl (lv_room (Nat.le_of_ble_eq_true rfl)) dL_law_178 ⟨hc1, hs1⟩) ?_
    refine lv_iload hx hb dL_law_181 (lv_at hl 1 rfl) ?_
    refine lv_icmp_eq (tgt := 188) hx hb dL_law_183 (by decide) (fun c183 => ?_) (fun c183 => absurd rfl c183)
    refine lv_iload hx hb dL_law_188 (lv_at hl 1 rfl) ?_
    refine lv_if_ne (tgt := 205) hx hb dL_law_190 (by decide) (fun c190 => ?_) (fun c190 => absurd c190 (by decide))
    refine lv_goto (tgt := 1124) hx hb dL_law_205 (by decide) ?_
    refine W.widen (k := cells + 1) (n := slots + 6) (by omega) (by omega) ?_
    exact kb H locs ls 2 kp fl fd hP hD hS (lv_sub hl [2, 3, 4, 5, 6, 7] rfl)

set_option maxHeartbeats 4000000 in
set_option maxRecDepth 100000 in
theorem lawc_1 {p : Program} {l : Launch} {e : Env} {s : State} {m : MethodId} {below : List Frame} {meth : Method} {c : Code} {H : Heap} {locs : List Loc} {cells slots : Nat} {Q : State → Prop} {D : va_G} {b L : Nat} {xs : Nat → Int32} {a : AD} {ls : Array Slot} (C : LC p l s m c D b L xs a) (n : Nat) (hn : n ≤ 8) (wm df yg : Int32) (q : UInt64) (wd zs : Nat → Int32) (h : Nat → UInt64) (dk : Nat → Int32) (u : TRW) (th : Int32) (kp : Nat → UInt64) (fl : Nat → Int64) (fd : Nat → UInt64) {j : Nat} (hj : j + 2 < L) (hpk : ¬ badR 1 100 (xs (j + 1)) → n ≠ 0 → pook (zs 0) h (FP.i2d (xs (j + 1))))
    (hP : va_P D vwCl (OUa a fl fd ++ (LOa a n wm df yg q wd zs h dk u ++ MOa a n wm df yg q wd zs h dk th kp)) H) (hD : va_D (Ah s) (OUa a fl fd ++ (LOa a n wm df yg q wd zs h dk u ++ MOa a n wm df yg q wd zs h dk th kp))) (hS : va_S (Ah s) s.heap H locs) (hl : lv_has ls 10 (LOC a b j)) (hc1 : cells + 1 ≤ room_1.cells) (hs1 : slots + 6 ≤ room_1.slots)
    (kk : (∀ (H : Heap) (locs : List Loc) (ls : Array Slot) (th' : Int32) (kp' : Nat → UInt64) (fl' : Nat → Int64) (fd' : Nat → UInt64), va_P D vwCl (OUa a (fl') (fd') ++ (LOa a n wm df yg q wd zs (pmH n zs h (FP.i2d (xs (j + 1)))) dk u ++ MOa a n wm df yg q wd zs (pmH n zs h (FP.i2d (xs (j + 1)))) dk (th') (kp'))) H → va_D (Ah s) (OUa a (fl') (fd') ++ (LOa a n wm df yg q wd zs (pmH n zs h (FP.i2d (xs (j + 1)))) dk u ++ MOa a n wm df yg q wd zs (pmH n zs h (FP.i2d (xs (j + 1)))) dk (th') (kp'))) → va_S (Ah s) s.heap H locs → lv_has ls 10 (LOC a b j) → ¬ badR 1 100 (xs (j + 1)) → W p l e room_1 s m #[Value.ref b] below meth c H locs (cells + 1) (slots + 6) Q (F0 m 1124 ls [])))
    (kb : (∀ (H : Heap) (locs : List Loc) (ls : Array Slot) (th' : Int32) (kp' : Nat → UInt64) (fl' : Nat → Int64) (fd' : Nat → UInt64), va_P D vwCl (OUa a (fl') (fd') ++ (LOa a n wm df yg q wd zs h dk u ++ MOa a n wm df yg q wd zs h dk (th') (kp'))) H → va_D (Ah s) (OUa a (fl') (fd') ++ (LOa a n wm df yg q wd zs h dk u ++ MOa a n wm df yg q wd zs h dk (th') (kp'))) → va_S (Ah s) s.heap H locs → lv_has ls 10 (LOC a b j) → W p l e room_1 s m #[Value.ref b] below meth c H locs (cells + 1) (slots + 6) Q (F0 m 1124 ls []))) :
    W p l e room_1 s m #[Value.ref b] below meth c H locs cells slots Q (F0 m 208 ls []) := by
  obtain ⟨hx, hb, hml, hown, hts, hK, hX, hH, hst, hXs, hbl, hL⟩ := C
  have hA : ∀ q : Nat, s.heap.size ≤ q → Ah s q := fun _ h => h
  have hbA : ¬ Ah s b := Nat.not_le.mpr hbl
  have hc0 : cells + 0 ≤ room_1.cells := by omega
  have hs0 : slots + 0 ≤ room_1.slots := by omega
  have hl : lv_has ls 10 [(5, .int (nI j)), (4, .ref a.od), (3, .ref a.ol), (2, .ref a.y), (1, .ref a.x), (0, .ref b)] := hl
  refine lv_aload_n hx hb dL_law_208 rfl (lv_at hl 4 rfl) ?_
  refine lv_aload_n hx hb dL_law_209 rfl (lv_at hl 5 rfl) ?_
  refine lv_iload hx hb dL_law_210 (lv_at hl 0 rfl) ?_
  refine lv_iconst (v := 1) hx hb dL_law_212 (by decide) ?_
  refine lv_iadd hx hb dL_law_213 ?_
  refine kx_sld hx hb hXs hbl hbA hS (j := j + 1) (nI_1 j) (by omega) hL dL_law_214 ?_
  refine lv_aload hx hb dL_law_215 (lv_at hl 1 rfl) ?_
  have hP2 : va_P D vwCl ([] ++ ((OUa a fl fd ++ LOa a n wm df yg q wd zs h dk u) ++ MOa a n wm df yg q wd zs h dk th kp)) H := by rw [← f12]; exact hP
  have hD2 : va_D (Ah s) ([] ++ ((OUa a fl fd ++ LOa a n wm df yg q wd zs h dk u) ++ MOa a n wm df yg q wd zs h dk th kp)) := by rw [← f12]; exact hD
  have hX9 : XP (Ah s) s H := hX.kept hS.2.1
  have hA9 : ∀ q : Nat, H.size ≤ q → Ah s q := fun q h9 => hA q (Nat.le_trans hS.1 h9)
  refine kh_i (w1 := []) (w3 := MOa a n wm df yg q wd zs h dk th kp) (vx_runSW (As := [.ref a.x, .int (xs (j + 1)), .ref a.od]) (rest := []) ⟨hx, hb, hml, hown, hts⟩ (metL_fill l hst D H.size a.x a.r a.t a.d yg a.la a.bs a.cA a.cI n hn wm df q wd zs h (TRa a dk u) a.ol a.od a.cL a.cD fl fd (xs (j + 1)) hpk) (vx_cwSW 3 hts gL_law_L_fill rfl rfl rfl (by decide +kernel) ⟨Nat.le_of_ble_eq_true rfl, Nat.le_of_ble_eq_true rfl⟩) (phS (vj_mP hP2) hK (vj_mD hD2) hX9 hH hA9) rfl rfl hl.1 rfl (lv_room (Nat.le_of_ble_eq_true rfl)) dL_law_217 ⟨hc1, hs1⟩) hP2 hD2 hS hA (fun r9 W9 H locs hp9 hP hD hS => ?_)
  rcases hp9 with ⟨hok9, rfl, rfl⟩ | ⟨hbad9, rfl, rfl⟩
  · rw [← f12] at hP hD
    have hP : va_P D vwCl (OUa a fl (vf_upd fd 0 (pmR n zs h (FP.i2d (xs (j + 1))))) ++ (LOa a n wm df yg q wd zs (pmH n zs h (FP.i2d (xs (j + 1)))) dk u ++ MOa a n wm df yg q wd zs h dk th kp)) H := hP
    have hD : va_D (Ah s) (OUa a fl (vf_upd fd 0 (pmR n zs h (FP.i2d (xs (j + 1))))) ++ (LOa a n wm df yg q wd zs (pmH n zs h (FP.i2d (xs (j + 1)))) dk u ++ MOa a n wm df yg q wd zs h dk th kp)) := hD
    refine lv_istore (lv' := [(6, .int 0), (5, .int (nI j)), (4, .ref a.od), (3, .ref a.ol), (2, .ref a.y), (1, .ref a.x), (0, .ref b)]) hx hb dL_law_220 hl (by decide) rfl (fun ls hl => ?_)
    refine lv_aload_n hx hb dL_law_222 rfl (lv_at hl 4 rfl) ?_
    refine lv_aload_n hx hb dL_law_223 rfl (lv_at hl 6 rfl) ?_
    refine lv_iload hx hb dL_law_224 (lv_at hl 1 rfl) ?_
    refine lv_iconst (v := 1) hx hb dL_law_226 (by decide) ?_
    refine lv_iadd hx hb dL_law_227 ?_
    refine kx_sld hx hb hXs hbl hbA hS (j := j + 1) (nI_1 j) (by omega) hL dL_law_228 ?_
    have hP3 : va_P D vwCl ((OUa a fl (vf_upd fd 0 (pmR n zs h (FP.i2d (xs (j + 1))))) ++ LOa a n wm df yg q wd zs (pmH n zs h (FP.i2d (xs (j + 1)))) dk u) ++ (MOa a n wm df yg q wd zs h dk th kp ++ [])) H := by rw [← f13]; exact hP
    have hD3 : va_D (Ah s) ((OUa a fl (vf_upd fd 0 (pmR n zs h (FP.i2d (xs (j + 1))))) ++ LOa a n wm df yg q wd zs (pmH n zs h (FP.i2d (xs (j + 1)))) dk u) ++ (MOa a n wm df yg q wd zs h dk th kp ++ [])) := by rw [← f13]; exact hD
    refine kc_d (w1 := OUa a fl (vf_upd fd 0 (pmR n zs h (FP.i2d (xs (j + 1))))) ++ LOa a n wm df yg q wd zs (pmH n zs h (FP.i2d (xs (j + 1)))) dk u) (w3 := []) (va_runV (As := [.int (xs (j + 1))]) (rest := []) ⟨hx, hb, hml, hown, hts⟩ (metX3_fill l D H.size a.y a.aw a.az a.ah a.ak a.cI a.cD n hn wm yg q df (dk 0) (dk 1) (dk 2) th wd zs h kp (xs (j + 1)) hpk) (cwV 1 hts gL_law_X3_fill rfl rfl rfl (by decide +kernel) ⟨Nat.le_of_ble_eq_true rfl, Nat.le_of_ble_eq_true rfl⟩) (pmV 3 0 RX3 TX3 13 rfl rfl (vj_mP hP3) (hK.sub [1, 3] rfl) (vj_mD hD3)) rfl rfl hl.1 rfl (lv_room (Nat.le_of_ble_eq_true rfl)) dL_law_229 ⟨hc1, hs1⟩) hP3 hD3 hS hA (fun H locs hP hD hS => ?_)
    rw [← f13] at hP hD
    have e9 : thR 1 100 (xs (j + 1)) = 0 := thR_n hok9
    rw [e9] at hP hD
    try simp only [if_pos (rfl : (0 : Int32) = 0)] at hP hD
    have hP : va_P D vwCl (OUa a fl (vf_upd fd 0 (pmR n zs h (FP.i2d (xs (j + 1))))) ++ (LOa a n wm df yg q wd zs (pmH n zs h (FP.i2d (xs (j + 1)))) dk u ++ MOa a n wm df yg q wd zs (pmH n zs h (FP.i2d (xs (j + 1)))) dk 0 kp)) H := hP
    have hD : va_D (Ah s) (OUa a fl (vf_upd fd 0 (pmR n zs h (FP.i2d (xs (j + 1))))) ++ (LOa a n wm df yg q wd zs (pmH n zs h (FP.i2d (xs (j + 1)))) dk u ++ MOa a n wm df yg q wd zs (pmH n zs h (FP.i2d (xs (j + 1)))) dk 0 kp)) := hD
    refine kd_eq (show (if thR 1 100 (xs (j + 1)) = 0 then pmR n zs h (FP.i2d (xs (j + 1))) else 0) = pmR n zs h (FP.i2d (xs (j + 1))) from by rw [e9, if_pos rfl]) ?_
    refine lv_dstore (lv' := [(7, .double (pmR n zs h (FP.i2d (xs (j + 1))))), (6, .int 0), (5, .int (nI j)), (4, .ref a.od), (3, .ref a.ol), (2, .ref a.y), (1, .ref a.x), (0, .ref b)]) hx hb dL_law_232 hl (by decide) rfl (fun ls hl => ?_)
    refine lv_aload_n hx hb dL_law_234 rfl (lv_at hl 5 rfl) ?_
    have hP3 : va_P D vwCl ((OUa a fl (vf_upd fd 0 (pmR n zs h (FP.i2d (xs (j + 1))))) ++ LOa a n wm df yg q wd zs (pmH n zs h (FP.i2d (xs (j + 1)))) dk u) ++ (MOa a n wm df yg q wd zs (pmH n zs h (FP.i2d (xs (j + 1)))) dk 0 kp ++ [])) H := by rw [← f13]; exact hP
    refine kr_i (W.runV (As := []) (rest := []) ⟨hx, hb, hml, hown, hts⟩ (metX3_thrown l D a.y a.aw a.az a.ah a.ak a.cI a.cD n hn wm yg q df (dk 0) (dk 1) (dk 2) 0 wd zs (pmH n zs h (FP.i2d (xs (j + 1)))) kp ) (cwV 0 hts gL_law_X3_thrown rfl rfl rfl (by decide +kernel) ⟨Nat.le_of_ble_eq_true rfl, Nat.le_of_ble_eq_true rfl⟩) (prV 3 0 RX3 TX3 13 rfl rfl (vj_mP hP3) (hK.sub [1, 3] rfl)) rfl rfl hl.1 rfl (lv_room (Nat.le_of_ble_eq_true rfl)) dL_law_235 ⟨hc1, hs1⟩) ?_
    refine lv_iload hx hb dL_law_238 (lv_at hl 1 rfl) ?_
    refine lv_icmp_eq (tgt := 245) hx hb dL_law_240 (by decide) (fun c240 => ?_) (fun c240 => absurd rfl c240)
    refine lv_iload hx hb dL_law_245 (lv_at hl 1 rfl) ?_
    refine lv_if_ne (tgt := 282) hx hb dL_law_247 (by decide) (fun c247 => absurd c247 (fun h9 => h9 rfl)) (fun c247 => ?_)
    refine lv_aload hx hb dL_law_250 (lv_at hl 3 rfl) ?_
    refine lv_iconst (v := 0) hx hb dL_law_252 (by decide) ?_
    refine kx_dald hx hb hK (ws := OUa a fl (vf_upd fd 0 (pmR n zs h (FP.i2d (xs (j + 1))))) ++ (LOa a n wm df yg q wd zs (pmH n zs h (FP.i2d (xs (j + 1)))) dk u ++ MOa a n wm df yg q wd zs (pmH n zs h (FP.i2d (xs (j + 1)))) dk 0 kp)) hP 1 3 (f := vf_upd fd 0 (pmR n zs h (FP.i2d (xs (j + 1))))) rfl rfl (j := 0) rfl (by decide) (by decide) dL_law_253 ?_
    refine kd_eq (vu_s : (vf_upd fd 0 (pmR n zs h (FP.i2d (xs (j + 1))))) 0 = pmR n zs h (FP.i2d (xs (j + 1)))) ?_
    refine lv_dload hx hb dL_law_254 (lv_at hl 0 rfl) ?_
    by_cases cv : Op.cmpValue (FP.dcmp (pmR n zs h (FP.i2d (xs (j + 1)))) (pmR n zs h (FP.i2d (xs (j + 1))))) .l = 0
    · refine lv_dcmp hx hb dL_law_256 ?_
      refine lv_if_eq (tgt := 282) hx hb dL_law_257 (by decide) (fun _ => ?_) (fun h9 => absurd cv h9)
      refine lv_goto (tgt := 1124) hx hb dL_law_282 (by decide) ?_
      refine W.widen (k := cells + 1) (n := slots + 6) (by omega) (by omega) ?_
      exact kk H locs ls 0 kp fl (vf_upd fd 0 (pmR n zs h (FP.i2d (xs (j + 1))))) hP hD hS (lv_sub hl [2, 3, 4, 5, 6, 7] rfl) hok9
    · refine lv_dcmp hx hb dL_law_256 ?_
      refine lv_if_eq (tgt := 282) hx hb dL_law_257 (by decide) (fun h9 => absurd h9 cv) (fun _ => ?_)
      refine lv_aload hx hb dL_law_260 (lv_at hl 3 rfl) ?_
      refine lv_iconst (v := 0) hx hb dL_law_262 (by decide) ?_
      refine kx_dald hx hb hK (ws := OUa a fl (vf_upd fd 0 (pmR n zs h (FP.i2d (xs (j + 1))))) ++ (LOa a n wm df yg q wd zs (pmH n zs h (FP.i2d (xs (j + 1)))) dk u ++ MOa a n wm df yg q wd zs (pmH n zs h (FP.i2d (xs (j + 1)))) dk 0 kp)) hP 1 3 (f := vf_upd fd 0 (pmR n zs h (FP.i2d (xs (j + 1))))) rfl rfl (j := 0) rfl (by decide) (by decide) dL_law_263 ?_
      refine kd_eq (vu_s : (vf_upd fd 0 (pmR n zs h (FP.i2d (xs (j + 1))))) 0 = pmR n zs h (FP.i2d (xs (j + 1)))) ?_
      refine lv_aload hx hb dL_law_264 (lv_at hl 3 rfl) ?_
      refine lv_iconst (v := 0) hx hb dL_law_266 (by decide) ?_
      refine kx_dald hx hb hK (ws := OUa a fl (vf_upd fd 0 (pmR n zs h (FP.i2d (xs (j + 1))))) ++ (LOa a n wm df yg q wd zs (pmH n zs h (FP.i2d (xs (j + 1)))) dk u ++ MOa a n wm df yg q wd zs (pmH n zs h (FP.i2d (xs (j + 1)))) dk 0 kp)) hP 1 3 (f := vf_upd fd 0 (pmR n zs h (FP.i2d (xs (j + 1))))) rfl rfl (j := 0) rfl (by decide) (by decide) dL_law_267 ?_
      refine kd_eq (vu_s : (vf_upd fd 0 (pmR n zs h (FP.i2d (xs (j + 1))))) 0 = pmR n zs h (FP.i2d (xs (j + 1)))) ?_
      refine lv_dcmp hx hb dL_law_268 ?_
      refine lv_if_eq (tgt := 280) hx hb dL_law_269 (by decide) (fun h9 => absurd h9 cv) (fun _ => ?_)
      refine lv_dload hx hb dL_law_272 (lv_at hl 0 rfl) ?_
      refine lv_dload hx hb dL_law_274 (lv_at hl 0 rfl) ?_
      refine lv_dcmp hx hb dL_law_276 ?_
      refine lv_if_ne (tgt := 282) hx hb dL_law_277 (by decide) (fun _ => ?_) (fun h9 => absurd h9 cv)
      refine lv_goto (tgt := 1124) hx hb dL_law_282 (by decide) ?_
      refine W.widen (k := cells + 1) (n := slots + 6) (by omega) (by omega) ?_
      exact kk H locs ls 0 kp fl (vf_upd fd 0 (pmR n zs h (FP.i2d (xs (j + 1))))) hP hD hS (lv_sub hl [2, 3, 4, 5, 6, 7] rfl) hok9
  · rw [← f12] at hP hD
    have hP : va_P D vwCl (OUa a fl fd ++ (LOa a n wm df yg q wd zs h dk u ++ MOa a n wm df yg q wd zs h dk th kp)) H := hP
    have hD : va_D (Ah s) (OUa a fl fd ++ (LOa a n wm df yg q wd zs h dk u ++ MOa a n wm df yg q wd zs h dk th kp)) := hD
    refine lv_istore (lv' := [(6, .int 1), (5, .int (nI j)), (4, .ref a.od), (3, .ref a.ol), (2, .ref a.y), (1, .ref a.x), (0, .ref b)]) hx hb dL_law_220 hl (by decide) rfl (fun ls hl => ?_)
    refine lv_aload_n hx hb dL_law_222 rfl (lv_at hl 4 rfl) ?_
    refine lv_aload_n hx hb dL_law_223 rfl (lv_at hl 6 rfl) ?_
    refine lv_iload hx hb dL_law_224 (lv_at hl 1 rfl) ?_
    refine lv_iconst (v := 1) hx hb dL_law_226 (by decide) ?_
    refine lv_iadd hx hb dL_law_227 ?_
    refine kx_sld hx hb hXs hbl hbA hS (j := j + 1) (nI_1 j) (by omega) hL dL_law_228 ?_
    have hP3 : va_P D vwCl ((OUa a fl fd ++ LOa a n wm df yg q wd zs h dk u) ++ (MOa a n wm df yg q wd zs h dk th kp ++ [])) H := by rw [← f13]; exact hP
    have hD3 : va_D (Ah s) ((OUa a fl fd ++ LOa a n wm df yg q wd zs h dk u) ++ (MOa a n wm df yg q wd zs h dk th kp ++ [])) := by rw [← f13]; exact hD
    refine kc_d (w1 := OUa a fl fd ++ LOa a n wm df yg q wd zs h dk u) (w3 := []) (va_runV (As := [.int (xs (j + 1))]) (rest := []) ⟨hx, hb, hml, hown, hts⟩ (metX3_fill l D H.size a.y a.aw a.az a.ah a.ak a.cI a.cD n hn wm yg q df (dk 0) (dk 1) (dk 2) th wd zs h kp (xs (j + 1)) hpk) (cwV 1 hts gL_law_X3_fill rfl rfl rfl (by decide +kernel) ⟨Nat.le_of_ble_eq_true rfl, Nat.le_of_ble_eq_true rfl⟩) (pmV 3 0 RX3 TX3 13 rfl rfl (vj_mP hP3) (hK.sub [1, 3] rfl) (vj_mD hD3)) rfl rfl hl.1 rfl (lv_room (Nat.le_of_ble_eq_true rfl)) dL_law_229 ⟨hc1, hs1⟩) hP3 hD3 hS hA (fun H locs hP hD hS => ?_)
    rw [← f13] at hP hD
    have e9 : thR 1 100 (xs (j + 1)) = 1 := thR_y hbad9
    rw [e9] at hP hD
    try simp only [if_neg (show ¬ (1 : Int32) = 0 by decide)] at hP hD
    have hP : va_P D vwCl (OUa a fl fd ++ (LOa a n wm df yg q wd zs h dk u ++ MOa a n wm df yg q wd zs h dk 1 kp)) H := hP
    have hD : va_D (Ah s) (OUa a fl fd ++ (LOa a n wm df yg q wd zs h dk u ++ MOa a n wm df yg q wd zs h dk 1 kp)) := hD
    refine kd_eq (show (if thR 1 100 (xs (j + 1)) = 0 then pmR n zs h (FP.i2d (xs (j + 1))) else 0) = 0 from by rw [e9, if_neg (by decide)]) ?_
    refine lv_dstore (lv' := [(7, .double 0), (6, .int 1), (5, .int (nI j)), (4, .ref a.od), (3, .ref a.ol), (2, .ref a.y), (1, .ref a.x), (0, .ref b)]) hx hb dL_law_232 hl (by decide) rfl (fun ls hl => ?_)
    refine lv_aload_n hx hb dL_law_234 rfl (lv_at hl 5 rfl) ?_
    have hP3 : va_P D vwCl ((OUa a fl fd ++ LOa a n wm df yg q wd zs h dk u) ++ (MOa a n wm df yg q wd zs h dk 1 kp ++ [])) H := by rw [← f13]; exact hP
    refine kr_i (W.runV (As := []) (rest := []) ⟨hx, hb, hml, hown, hts⟩ (metX3_thrown l D a.y a.aw a.az a.ah a.ak a.cI a.cD n hn wm yg q df (dk 0) (dk 1) (dk 2) 1 wd zs h kp ) (cwV 0 hts gL_law_X3_thrown rfl rfl rfl (by decide +kernel) ⟨Nat.le_of_ble_eq_true rfl, Nat.le_of_ble_eq_true rfl⟩) (prV 3 0 RX3 TX3 13 rfl rfl (vj_mP hP3) (hK.sub [1, 3] rfl)) rfl rfl hl.1 rfl (lv_room (Nat.le_of_ble_eq_true rfl)) dL_law_235 ⟨hc1, hs1⟩) ?_
    refine lv_iload hx hb dL_law_238 (lv_at hl 1 rfl) ?_
    refine lv_icmp_eq (tgt := 245) hx hb dL_law_240 (by decide) (fun c240 => ?_) (fun c240 => absurd rfl c240)
    refine lv_iload hx hb dL_law_245 (lv_at hl 1 rfl) ?_
    refine lv_if_ne (tgt := 282) hx hb dL_law_247 (by decide) (fun c247 => ?_) (fun c247 => absurd c247 (by decide))
    refine lv_goto (tgt := 1124) hx hb dL_law_282 (by decide) ?_
    refine W.widen (k := cells + 1) (n := slots + 6) (by omega) (by omega) ?_
    exact kb H locs ls 1 kp fl fd hP hD hS (lv_sub hl [2, 3, 4, 5, 6, 7] rfl)

set_option maxHeartbeats 4000000 in
set_option maxRecDepth 100000 in
theorem lawc_2 {p : Program} {l : Launch} {e : Env} {s : State} {m : MethodId} {below : List Frame} {meth : Method} {c : Code} {H : Heap} {locs : List Loc} {cells slots : Nat} {Q : State → Prop} {D : va_G} {b L : Nat} {xs : Nat → Int32} {a : AD} {ls : Array Slot} (C : LC p l s m c D b L xs a) (n : Nat) (hn : n ≤ 8) (wm df yg : Int32) (q : UInt64) (wd zs : Nat → Int32) (h : Nat → UInt64) (dk : Nat → Int32) (u : TRW) (th : Int32) (kp : Nat → UInt64) (fl : Nat → Int64) (fd : Nat → UInt64) {j : Nat} (hj : j + 2 < L) (ht : took zs (n - 1) h 0) (hu : tukk zs (n - 1) h)
    (hP : va_P D vwCl (OUa a fl fd ++ (LOa a n wm df yg q wd zs h dk u ++ MOa a n wm df yg q wd zs h dk th kp)) H) (hD : va_D (Ah s) (OUa a fl fd ++ (LOa a n wm df yg q wd zs h dk u ++ MOa a n wm df yg q wd zs h dk th kp))) (hS : va_S (Ah s) s.heap H locs) (hl : lv_has ls 10 (LOC a b j)) (hc1 : cells + 1 ≤ room_1.cells) (hs1 : slots + 6 ≤ room_1.slots)
    (kk : (∀ (H : Heap) (locs : List Loc) (ls : Array Slot) (th' : Int32) (kp' : Nat → UInt64) (fl' : Nat → Int64) (fd' : Nat → UInt64), va_P D vwCl (OUa a (fl') (fd') ++ (LOa a n wm df yg q wd zs (toH zs (n - 1) h) dk u ++ MOa a n wm df yg q wd zs (toH zs (n - 1) h) dk (th') (kp'))) H → va_D (Ah s) (OUa a (fl') (fd') ++ (LOa a n wm df yg q wd zs (toH zs (n - 1) h) dk u ++ MOa a n wm df yg q wd zs (toH zs (n - 1) h) dk (th') (kp'))) → va_S (Ah s) s.heap H locs → lv_has ls 10 (LOC a b j) → W p l e room_1 s m #[Value.ref b] below meth c H locs (cells + 1) (slots + 6) Q (F0 m 1124 ls []))) :
    W p l e room_1 s m #[Value.ref b] below meth c H locs cells slots Q (F0 m 285 ls []) := by
  obtain ⟨hx, hb, hml, hown, hts, hK, hX, hH, hst, hXs, hbl, hL⟩ := C
  have hA : ∀ q : Nat, s.heap.size ≤ q → Ah s q := fun _ h => h
  have hbA : ¬ Ah s b := Nat.not_le.mpr hbl
  have hc0 : cells + 0 ≤ room_1.cells := by omega
  have hs0 : slots + 0 ≤ room_1.slots := by omega
  have hl : lv_has ls 10 [(5, .int (nI j)), (4, .ref a.od), (3, .ref a.ol), (2, .ref a.y), (1, .ref a.x), (0, .ref b)] := hl
  refine lv_aload_n hx hb dL_law_285 rfl (lv_at hl 4 rfl) ?_
  refine kc_d (w1 := OUa a fl fd) (w3 := MOa a n wm df yg q wd zs h dk th kp) (va_runV (As := []) (rest := []) ⟨hx, hb, hml, hown, hts⟩ (metX2_topUp l D H.size a.x a.r a.t a.d yg a.la a.bs a.cA a.cI n hn wm df q wd zs h (TRa a dk u) ht) (cwV 0 hts gL_law_X2_topUp rfl rfl rfl (by decide +kernel) ⟨Nat.le_of_ble_eq_true rfl, Nat.le_of_ble_eq_true rfl⟩) (pmV 2 0 RX2 TX2 4 rfl rfl (vj_mP (w1 := OUa a fl fd) (w2 := LOa a n wm df yg q wd zs h dk u) (w3 := MOa a n wm df yg q wd zs h dk th kp) hP) (hK.sub [0, 1] rfl) (vj_mD (w1 := OUa a fl fd) (w2 := LOa a n wm df yg q wd zs h dk u) (w3 := MOa a n wm df yg q wd zs h dk th kp) hD)) rfl rfl hl.1 rfl (lv_room (Nat.le_of_ble_eq_true rfl)) dL_law_286 ⟨hc0, hs0⟩) hP hD hS hA (fun H locs hP hD hS => ?_)
  have hP : va_P D vwCl (OUa a fl fd ++ (LOa a n wm df yg q wd zs (toH zs (n - 1) h) dk u ++ MOa a n wm df yg q wd zs h dk th kp)) H := hP
  have hD : va_D (Ah s) (OUa a fl fd ++ (LOa a n wm df yg q wd zs (toH zs (n - 1) h) dk u ++ MOa a n wm df yg q wd zs h dk th kp)) := hD
  refine lv_dstore (lv' := [(6, .double (toS zs (n - 1) h 0)), (5, .int (nI j)), (4, .ref a.od), (3, .ref a.ol), (2, .ref a.y), (1, .ref a.x), (0, .ref b)]) hx hb dL_law_289 hl (by decide) rfl (fun ls hl => ?_)
  refine lv_aload_n hx hb dL_law_291 rfl (lv_at hl 4 rfl) ?_
  have hP3 : va_P D vwCl ((OUa a fl fd ++ LOa a n wm df yg q wd zs (toH zs (n - 1) h) dk u) ++ (MOa a n wm df yg q wd zs h dk th kp ++ [])) H := by rw [← f13]; exact hP
  have hD3 : va_D (Ah s) ((OUa a fl fd ++ LOa a n wm df yg q wd zs (toH zs (n - 1) h) dk u) ++ (MOa a n wm df yg q wd zs h dk th kp ++ [])) := by rw [← f13]; exact hD
  refine kc_d (w1 := OUa a fl fd ++ LOa a n wm df yg q wd zs (toH zs (n - 1) h) dk u) (w3 := []) (va_runV (As := []) (rest := []) ⟨hx, hb, hml, hown, hts⟩ (metX3_topUp l D H.size a.y a.aw a.az a.ah a.ak a.cI a.cD n hn wm yg q df (dk 0) (dk 1) (dk 2) th wd zs h kp ht hu) (cwV 0 hts gL_law_X3_topUp rfl rfl rfl (by decide +kernel) ⟨Nat.le_of_ble_eq_true rfl, Nat.le_of_ble_eq_true rfl⟩) (pmV 3 0 RX3 TX3 13 rfl rfl (vj_mP hP3) (hK.sub [1, 3] rfl) (vj_mD hD3)) rfl rfl hl.1 rfl (lv_room (Nat.le_of_ble_eq_true rfl)) dL_law_292 ⟨hc0, hs0⟩) hP3 hD3 hS hA (fun H locs hP hD hS => ?_)
  rw [← f13] at hP hD
  have hP : va_P D vwCl (OUa a fl fd ++ (LOa a n wm df yg q wd zs (toH zs (n - 1) h) dk u ++ MOa a n wm df yg q wd zs (toH zs (n - 1) h) dk 0 kp)) H := hP
  have hD : va_D (Ah s) (OUa a fl fd ++ (LOa a n wm df yg q wd zs (toH zs (n - 1) h) dk u ++ MOa a n wm df yg q wd zs (toH zs (n - 1) h) dk 0 kp)) := hD
  refine lv_dstore (lv' := [(8, .double (toS zs (n - 1) h 0)), (6, .double (toS zs (n - 1) h 0)), (5, .int (nI j)), (4, .ref a.od), (3, .ref a.ol), (2, .ref a.y), (1, .ref a.x), (0, .ref b)]) hx hb dL_law_295 hl (by decide) rfl (fun ls hl => ?_)
  refine lv_dload hx hb dL_law_297 (lv_at hl 1 rfl) ?_
  refine lv_dload hx hb dL_law_299 (lv_at hl 0 rfl) ?_
  by_cases cv : Op.cmpValue (FP.dcmp (toS zs (n - 1) h 0) (toS zs (n - 1) h 0)) .l = 0
  · refine lv_dcmp hx hb dL_law_301 ?_
    refine lv_if_eq (tgt := 323) hx hb dL_law_302 (by decide) (fun _ => ?_) (fun h9 => absurd cv h9)
    refine lv_goto (tgt := 1124) hx hb dL_law_323 (by decide) ?_
    refine W.widen (k := cells + 1) (n := slots + 6) (by omega) (by omega) ?_
    exact kk H locs ls 0 kp fl fd hP hD hS (lv_sub hl [2, 3, 4, 5, 6, 7] rfl)
  · refine lv_dcmp hx hb dL_law_301 ?_
    refine lv_if_eq (tgt := 323) hx hb dL_law_302 (by decide) (fun h9 => absurd h9 cv) (fun _ => ?_)
    refine lv_dload hx hb dL_law_305 (lv_at hl 1 rfl) ?_
    refine lv_dload hx hb dL_law_307 (lv_at hl 1 rfl) ?_
    refine lv_dcmp hx hb dL_law_309 ?_
    refine lv_if_eq (tgt := 321) hx hb dL_law_310 (by decide) (fun h9 => absurd h9 cv) (fun _ => ?_)
    refine lv_dload hx hb dL_law_313 (lv_at hl 0 rfl) ?_
    refine lv_dload hx hb dL_law_315 (lv_at hl 0 rfl) ?_
    refine lv_dcmp hx hb dL_law_317 ?_
    refine lv_if_ne (tgt := 323) hx hb dL_law_318 (by decide) (fun _ => ?_) (fun h9 => absurd h9 cv)
    refine lv_goto (tgt := 1124) hx hb dL_law_323 (by decide) ?_
    refine W.widen (k := cells + 1) (n := slots + 6) (by omega) (by omega) ?_
    exact kk H locs ls 0 kp fl fd hP hD hS (lv_sub hl [2, 3, 4, 5, 6, 7] rfl)

set_option maxHeartbeats 4000000 in
set_option maxRecDepth 100000 in
theorem lawc_3 {p : Program} {l : Launch} {e : Env} {s : State} {m : MethodId} {below : List Frame} {meth : Method} {c : Code} {H : Heap} {locs : List Loc} {cells slots : Nat} {Q : State → Prop} {D : va_G} {b L : Nat} {xs : Nat → Int32} {a : AD} {ls : Array Slot} (C : LC p l s m c D b L xs a) (n : Nat) (hn : n ≤ 8) (wm df yg : Int32) (q : UInt64) (wd zs : Nat → Int32) (h : Nat → UInt64) (dk : Nat → Int32) (u : TRW) (th : Int32) (kp : Nat → UInt64) (fl : Nat → Int64) (fd : Nat → UInt64) {j : Nat} (hj : j + 2 < L) (hdr : drok wm) (hok : agok wd (drv wm) h n) (hnn : agNN wd (drv wm) h n) (hN : NNr n (agH wd (drv wm) h n)) (hq : ∀ b, b < n → vf_n64 (FP.dmul 4598175219545276416 ((agH wd (drv wm) h n) b)))
    (hP : va_P D vwCl (OUa a fl fd ++ (LOa a n wm df yg q wd zs h dk u ++ MOa a n wm df yg q wd zs h dk th kp)) H) (hD : va_D (Ah s) (OUa a fl fd ++ (LOa a n wm df yg q wd zs h dk u ++ MOa a n wm df yg q wd zs h dk th kp))) (hS : va_S (Ah s) s.heap H locs) (hl : lv_has ls 10 (LOC a b j)) (hc1 : cells + 1 ≤ room_1.cells) (hs1 : slots + 6 ≤ room_1.slots)
    (kk : (∀ (H : Heap) (locs : List Loc) (ls : Array Slot) (th' : Int32) (kp' : Nat → UInt64) (fl' : Nat → Int64) (fd' : Nat → UInt64), va_P D vwCl (OUa a (fl') (fd') ++ (LOa a n wm (encO (elO (agH wd (drv wm) h n) n)) (yg + 1) (quv (agH wd (drv wm) h n) (elO (agH wd (drv wm) h n) n)) wd zs (agH wd (drv wm) h n) dk u ++ MOa a n wm (encO (elO (agH wd (drv wm) h n) n)) (yg + 1) (quv (agH wd (drv wm) h n) (elO (agH wd (drv wm) h n) n)) wd zs (agH wd (drv wm) h n) dk (th') (kp'))) H → va_D (Ah s) (OUa a (fl') (fd') ++ (LOa a n wm (encO (elO (agH wd (drv wm) h n) n)) (yg + 1) (quv (agH wd (drv wm) h n) (elO (agH wd (drv wm) h n) n)) wd zs (agH wd (drv wm) h n) dk u ++ MOa a n wm (encO (elO (agH wd (drv wm) h n) n)) (yg + 1) (quv (agH wd (drv wm) h n) (elO (agH wd (drv wm) h n) n)) wd zs (agH wd (drv wm) h n) dk (th') (kp'))) → va_S (Ah s) s.heap H locs → lv_has ls 10 (LOC a b j) → W p l e room_1 s m #[Value.ref b] below meth c H locs (cells + 1) (slots + 6) Q (F0 m 1124 ls []))) :
    W p l e room_1 s m #[Value.ref b] below meth c H locs cells slots Q (F0 m 326 ls []) := by
  obtain ⟨hx, hb, hml, hown, hts, hK, hX, hH, hst, hXs, hbl, hL⟩ := C
  have hA : ∀ q : Nat, s.heap.size ≤ q → Ah s q := fun _ h => h
  have hbA : ¬ Ah s b := Nat.not_le.mpr hbl
  have hc0 : cells + 0 ≤ room_1.cells := by omega
  have hs0 : slots + 0 ≤ room_1.slots := by omega
  have hl : lv_has ls 10 [(5, .int (nI j)), (4, .ref a.od), (3, .ref a.ol), (2, .ref a.y), (1, .ref a.x), (0, .ref b)] := hl
  refine lv_aload_n hx hb dL_law_326 rfl (lv_at hl 4 rfl) ?_
  refine kc_d (w1 := OUa a fl fd) (w3 := MOa a n wm df yg q wd zs h dk th kp) (va_runV (As := []) (rest := []) ⟨hx, hb, hml, hown, hts⟩ (metX2_year l D H.size a.x a.r a.t a.d yg a.la a.bs a.cA a.cI n hn wm df q wd zs h (TRa a dk u) hdr hok hN hq) (cwV 0 hts gL_law_X2_year rfl rfl rfl (by decide +kernel) ⟨Nat.le_of_ble_eq_true rfl, Nat.le_of_ble_eq_true rfl⟩) (pmV 2 0 RX2 TX2 4 rfl rfl (vj_mP (w1 := OUa a fl fd) (w2 := LOa a n wm df yg q wd zs h dk u) (w3 := MOa a n wm df yg q wd zs h dk th kp) hP) (hK.sub [0, 1] rfl) (vj_mD (w1 := OUa a fl fd) (w2 := LOa a n wm df yg q wd zs h dk u) (w3 := MOa a n wm df yg q wd zs h dk th kp) hD)) rfl rfl hl.1 rfl (lv_room (Nat.le_of_ble_eq_true rfl)) dL_law_327 ⟨hc0, hs0⟩) hP hD hS hA (fun H locs hP hD hS => ?_)
  have hP : va_P D vwCl (OUa a fl fd ++ (LOa a n wm (encO (elO (agH wd (drv wm) h n) n)) (yg + 1) (quv (agH wd (drv wm) h n) (elO (agH wd (drv wm) h n) n)) wd zs (agH wd (drv wm) h n) dk u ++ MOa a n wm df yg q wd zs h dk th kp)) H := hP
  have hD : va_D (Ah s) (OUa a fl fd ++ (LOa a n wm (encO (elO (agH wd (drv wm) h n) n)) (yg + 1) (quv (agH wd (drv wm) h n) (elO (agH wd (drv wm) h n) n)) wd zs (agH wd (drv wm) h n) dk u ++ MOa a n wm df yg q wd zs h dk th kp)) := hD
  refine lv_dstore (lv' := [(6, .double (agS wd (drv wm) h n)), (5, .int (nI j)), (4, .ref a.od), (3, .ref a.ol), (2, .ref a.y), (1, .ref a.x), (0, .ref b)]) hx hb dL_law_330 hl (by decide) rfl (fun ls hl => ?_)
  refine lv_aload_n hx hb dL_law_332 rfl (lv_at hl 4 rfl) ?_
  have hP3 : va_P D vwCl ((OUa a fl fd ++ LOa a n wm (encO (elO (agH wd (drv wm) h n) n)) (yg + 1) (quv (agH wd (drv wm) h n) (elO (agH wd (drv wm) h n) n)) wd zs (agH wd (drv wm) h n) dk u) ++ (MOa a n wm df yg q wd zs h dk th kp ++ [])) H := by rw [← f13]; exact hP
  have hD3 : va_D (Ah s) ((OUa a fl fd ++ LOa a n wm (encO (elO (agH wd (drv wm) h n) n)) (yg + 1) (quv (agH wd (drv wm) h n) (elO (agH wd (drv wm) h n) n)) wd zs (agH wd (drv wm) h n) dk u) ++ (MOa a n wm df yg q wd zs h dk th kp ++ [])) := by rw [← f13]; exact hD
  refine kc_d (w1 := OUa a fl fd ++ LOa a n wm (encO (elO (agH wd (drv wm) h n) n)) (yg + 1) (quv (agH wd (drv wm) h n) (elO (agH wd (drv wm) h n) n)) wd zs (agH wd (drv wm) h n) dk u) (w3 := []) (va_runV (As := []) (rest := []) ⟨hx, hb, hml, hown, hts⟩ (metX3_year l D H.size a.y a.aw a.az a.ah a.ak a.cI a.cD n hn wm yg q df (dk 0) (dk 1) (dk 2) th wd zs h kp hdr hok hnn hN hq) (cwV 0 hts gL_law_X3_year rfl rfl rfl (by decide +kernel) ⟨Nat.le_of_ble_eq_true rfl, Nat.le_of_ble_eq_true rfl⟩) (pmV 3 0 RX3 TX3 13 rfl rfl (vj_mP hP3) (hK.sub [1, 3] rfl) (vj_mD hD3)) rfl rfl hl.1 rfl (lv_room (Nat.le_of_ble_eq_true rfl)) dL_law_333 ⟨hc0, hs0⟩) hP3 hD3 hS hA (fun H locs hP hD hS => ?_)
  rw [← f13] at hP hD
  have hP : va_P D vwCl (OUa a fl fd ++ (LOa a n wm (encO (elO (agH wd (drv wm) h n) n)) (yg + 1) (quv (agH wd (drv wm) h n) (elO (agH wd (drv wm) h n) n)) wd zs (agH wd (drv wm) h n) dk u ++ MOa a n wm (encO (elO (agH wd (drv wm) h n) n)) (yg + 1) (quv (agH wd (drv wm) h n) (elO (agH wd (drv wm) h n) n)) wd zs (agH wd (drv wm) h n) dk 0 kp)) H := hP
  have hD : va_D (Ah s) (OUa a fl fd ++ (LOa a n wm (encO (elO (agH wd (drv wm) h n) n)) (yg + 1) (quv (agH wd (drv wm) h n) (elO (agH wd (drv wm) h n) n)) wd zs (agH wd (drv wm) h n) dk u ++ MOa a n wm (encO (elO (agH wd (drv wm) h n) n)) (yg + 1) (quv (agH wd (drv wm) h n) (elO (agH wd (drv wm) h n) n)) wd zs (agH wd (drv wm) h n) dk 0 kp)) := hD
  refine lv_dstore (lv' := [(8, .double (agS wd (drv wm) h n)), (6, .double (agS wd (drv wm) h n)), (5, .int (nI j)), (4, .ref a.od), (3, .ref a.ol), (2, .ref a.y), (1, .ref a.x), (0, .ref b)]) hx hb dL_law_336 hl (by decide) rfl (fun ls hl => ?_)
  refine lv_dload hx hb dL_law_338 (lv_at hl 1 rfl) ?_
  refine lv_dload hx hb dL_law_340 (lv_at hl 0 rfl) ?_
  by_cases cv : Op.cmpValue (FP.dcmp (agS wd (drv wm) h n) (agS wd (drv wm) h n)) .l = 0
  · refine lv_dcmp hx hb dL_law_342 ?_
    refine lv_if_eq (tgt := 364) hx hb dL_law_343 (by decide) (fun _ => ?_) (fun h9 => absurd cv h9)
    refine lv_goto (tgt := 1124) hx hb dL_law_364 (by decide) ?_
    refine W.widen (k := cells + 1) (n := slots + 6) (by omega) (by omega) ?_
    exact kk H locs ls 0 kp fl fd hP hD hS (lv_sub hl [2, 3, 4, 5, 6, 7] rfl)
  · refine lv_dcmp hx hb dL_law_342 ?_
    refine lv_if_eq (tgt := 364) hx hb dL_law_343 (by decide) (fun h9 => absurd h9 cv) (fun _ => ?_)
    refine lv_dload hx hb dL_law_346 (lv_at hl 1 rfl) ?_
    refine lv_dload hx hb dL_law_348 (lv_at hl 1 rfl) ?_
    refine lv_dcmp hx hb dL_law_350 ?_
    refine lv_if_eq (tgt := 362) hx hb dL_law_351 (by decide) (fun h9 => absurd h9 cv) (fun _ => ?_)
    refine lv_dload hx hb dL_law_354 (lv_at hl 0 rfl) ?_
    refine lv_dload hx hb dL_law_356 (lv_at hl 0 rfl) ?_
    refine lv_dcmp hx hb dL_law_358 ?_
    refine lv_if_ne (tgt := 364) hx hb dL_law_359 (by decide) (fun _ => ?_) (fun h9 => absurd h9 cv)
    refine lv_goto (tgt := 1124) hx hb dL_law_364 (by decide) ?_
    refine W.widen (k := cells + 1) (n := slots + 6) (by omega) (by omega) ?_
    exact kk H locs ls 0 kp fl fd hP hD hS (lv_sub hl [2, 3, 4, 5, 6, 7] rfl)

set_option maxHeartbeats 4000000 in
set_option maxRecDepth 100000 in
theorem lawc_4 {p : Program} {l : Launch} {e : Env} {s : State} {m : MethodId} {below : List Frame} {meth : Method} {c : Code} {H : Heap} {locs : List Loc} {cells slots : Nat} {Q : State → Prop} {D : va_G} {b L : Nat} {xs : Nat → Int32} {a : AD} {ls : Array Slot} (C : LC p l s m c D b L xs a) (n : Nat) (hn : n ≤ 8) (wm df yg : Int32) (q : UInt64) (wd zs : Nat → Int32) (h : Nat → UInt64) (dk : Nat → Int32) (u : TRW) (th : Int32) (kp : Nat → UInt64) (fl : Nat → Int64) (fd : Nat → UInt64) {j : Nat} (hj : j + 2 < L) (hN : NNr n h) (hrd : rdok h n q) (hrm : rdM h n df q) (hdk : ¬ badR 1 1000 (xs (j + 1)) → dwok h n df q (xs (j + 1)))
    (hP : va_P D vwCl (OUa a fl fd ++ (LOa a n wm df yg q wd zs h dk u ++ MOa a n wm df yg q wd zs h dk th kp)) H) (hD : va_D (Ah s) (OUa a fl fd ++ (LOa a n wm df yg q wd zs h dk u ++ MOa a n wm df yg q wd zs h dk th kp))) (hS : va_S (Ah s) s.heap H locs) (hl : lv_has ls 10 (LOC a b j)) (hc1 : cells + 1 ≤ room_1.cells) (hs1 : slots + 6 ≤ room_1.slots)
    (kk : (∀ (H : Heap) (locs : List Loc) (ls : Array Slot) (th' : Int32) (kp' : Nat → UInt64) (fl' : Nat → Int64) (fd' : Nat → UInt64), va_P D vwCl (OUa a (fl') (fd') ++ (LOa a n wm df yg (drQ h n df q (xs (j + 1))) wd zs (drH h n df q (xs (j + 1))) (drK dk h n df q (xs (j + 1))) u ++ MOa a n wm df yg (drQ h n df q (xs (j + 1))) wd zs (drH h n df q (xs (j + 1))) (drK dk h n df q (xs (j + 1))) (th') (kp'))) H → va_D (Ah s) (OUa a (fl') (fd') ++ (LOa a n wm df yg (drQ h n df q (xs (j + 1))) wd zs (drH h n df q (xs (j + 1))) (drK dk h n df q (xs (j + 1))) u ++ MOa a n wm df yg (drQ h n df q (xs (j + 1))) wd zs (drH h n df q (xs (j + 1))) (drK dk h n df q (xs (j + 1))) (th') (kp'))) → va_S (Ah s) s.heap H locs → lv_has ls 10 (LOC a b j) → ¬ badR 1 1000 (xs (j + 1)) → W p l e room_1 s m #[Value.ref b] below meth c H locs (cells + 1) (slots + 6) Q (F0 m 1124 ls [])))
    (kb : (∀ (H : Heap) (locs : List Loc) (ls : Array Slot) (th' : Int32) (kp' : Nat → UInt64) (fl' : Nat → Int64) (fd' : Nat → UInt64), va_P D vwCl (OUa a (fl') (fd') ++ (LOa a n wm df yg q wd zs h dk u ++ MOa a n wm df yg q wd zs h dk (th') (kp'))) H → va_D (Ah s) (OUa a (fl') (fd') ++ (LOa a n wm df yg q wd zs h dk u ++ MOa a n wm df yg q wd zs h dk (th') (kp'))) → va_S (Ah s) s.heap H locs → lv_has ls 10 (LOC a b j) → W p l e room_1 s m #[Value.ref b] below meth c H locs (cells + 1) (slots + 6) Q (F0 m 1124 ls []))) :
    W p l e room_1 s m #[Value.ref b] below meth c H locs cells slots Q (F0 m 367 ls []) := by
  obtain ⟨hx, hb, hml, hown, hts, hK, hX, hH, hst, hXs, hbl, hL⟩ := C
  have hA : ∀ q : Nat, s.heap.size ≤ q → Ah s q := fun _ h => h
  have hbA : ¬ Ah s b := Nat.not_le.mpr hbl
  have hc0 : cells + 0 ≤ room_1.cells := by omega
  have hs0 : slots + 0 ≤ room_1.slots := by omega
  have hl : lv_has ls 10 [(5, .int (nI j)), (4, .ref a.od), (3, .ref a.ol), (2, .ref a.y), (1, .ref a.x), (0, .ref b)] := hl
  refine lv_aload_n hx hb dL_law_367 rfl (lv_at hl 4 rfl) ?_
  refine lv_aload_n hx hb dL_law_368 rfl (lv_at hl 5 rfl) ?_
  refine lv_iload hx hb dL_law_369 (lv_at hl 0 rfl) ?_
  refine lv_iconst (v := 1) hx hb dL_law_371 (by decide) ?_
  refine lv_iadd hx hb dL_law_372 ?_
  refine kx_sld hx hb hXs hbl hbA hS (j := j + 1) (nI_1 j) (by omega) hL dL_law_373 ?_
  refine lv_aload_n hx hb dL_law_374 rfl (lv_at hl 2 rfl) ?_
  have hP2 : va_P D vwCl ([] ++ ((OUa a fl fd ++ LOa a n wm df yg q wd zs h dk u) ++ MOa a n wm df yg q wd zs h dk th kp)) H := by rw [← f12]; exact hP
  have hD2 : va_D (Ah s) ([] ++ ((OUa a fl fd ++ LOa a n wm df yg q wd zs h dk u) ++ MOa a n wm df yg q wd zs h dk th kp)) := by rw [← f12]; exact hD
  have hX9 : XP (Ah s) s H := hX.kept hS.2.1
  have hA9 : ∀ q : Nat, H.size ≤ q → Ah s q := fun q h9 => hA q (Nat.le_trans hS.1 h9)
  refine kh_i (w1 := []) (w3 := MOa a n wm df yg q wd zs h dk th kp) (vx_runSW (As := [.ref a.x, .int (xs (j + 1)), .ref a.ol]) (rest := []) ⟨hx, hb, hml, hown, hts⟩ (metL_draw l hst D H.size a.x a.r a.t a.d yg a.la a.bs a.cA a.cI n hn wm df q wd zs h (rowW a.t a.lt a.bt a.cA (nI u.1) u.2.1 u.2.2.1 u.2.2.2.1 u.2.2.2.2.1 u.2.2.2.2.2.1 u.2.2.2.2.2.2) dk a.ol a.od a.cL a.cD fl fd (xs (j + 1)) hN hrd hdk) (vx_cwSW 3 hts gL_law_L_draw rfl rfl rfl (by decide +kernel) ⟨Nat.le_of_ble_eq_true rfl, Nat.le_of_ble_eq_true rfl⟩) (phS (vj_mP hP2) hK (vj_mD hD2) hX9 hH hA9) rfl rfl hl.1 rfl (lv_room (Nat.le_of_ble_eq_true rfl)) dL_law_375 ⟨hc1, hs1⟩) hP2 hD2 hS hA (fun r9 W9 H locs hp9 hP hD hS => ?_)
  rcases hp9 with ⟨hok9, rfl, rfl⟩ | ⟨hbad9, rfl, rfl⟩
  · rw [← f12] at hP hD
    have hP : va_P D vwCl (OUa a (vp_updL fl 0 (takv h n df q (xs (j + 1))).toInt64) fd ++ (LOa a n wm df yg (drQ h n df q (xs (j + 1))) wd zs (drH h n df q (xs (j + 1))) (drK dk h n df q (xs (j + 1))) u ++ MOa a n wm df yg q wd zs h dk th kp)) H := hP
    have hD : va_D (Ah s) (OUa a (vp_updL fl 0 (takv h n df q (xs (j + 1))).toInt64) fd ++ (LOa a n wm df yg (drQ h n df q (xs (j + 1))) wd zs (drH h n df q (xs (j + 1))) (drK dk h n df q (xs (j + 1))) u ++ MOa a n wm df yg q wd zs h dk th kp)) := hD
    refine lv_istore (lv' := [(6, .int 0), (5, .int (nI j)), (4, .ref a.od), (3, .ref a.ol), (2, .ref a.y), (1, .ref a.x), (0, .ref b)]) hx hb dL_law_378 hl (by decide) rfl (fun ls hl => ?_)
    refine lv_aload_n hx hb dL_law_380 rfl (lv_at hl 4 rfl) ?_
    refine lv_aload_n hx hb dL_law_381 rfl (lv_at hl 6 rfl) ?_
    refine lv_iload hx hb dL_law_382 (lv_at hl 1 rfl) ?_
    refine lv_iconst (v := 1) hx hb dL_law_384 (by decide) ?_
    refine lv_iadd hx hb dL_law_385 ?_
    refine kx_sld hx hb hXs hbl hbA hS (j := j + 1) (nI_1 j) (by omega) hL dL_law_386 ?_
    have hP3 : va_P D vwCl ((OUa a (vp_updL fl 0 (takv h n df q (xs (j + 1))).toInt64) fd ++ LOa a n wm df yg (drQ h n df q (xs (j + 1))) wd zs (drH h n df q (xs (j + 1))) (drK dk h n df q (xs (j + 1))) u) ++ (MOa a n wm df yg q wd zs h dk th kp ++ [])) H := by rw [← f13]; exact hP
    have hD3 : va_D (Ah s) ((OUa a (vp_updL fl 0 (takv h n df q (xs (j + 1))).toInt64) fd ++ LOa a n wm df yg (drQ h n df q (xs (j + 1))) wd zs (drH h n df q (xs (j + 1))) (drK dk h n df q (xs (j + 1))) u) ++ (MOa a n wm df yg q wd zs h dk th kp ++ [])) := by rw [← f13]; exact hD
    refine kc_i (w1 := OUa a (vp_updL fl 0 (takv h n df q (xs (j + 1))).toInt64) fd ++ LOa a n wm df yg (drQ h n df q (xs (j + 1))) wd zs (drH h n df q (xs (j + 1))) (drK dk h n df q (xs (j + 1))) u) (w3 := []) (va_runV (As := [.int (xs (j + 1))]) (rest := []) ⟨hx, hb, hml, hown, hts⟩ (metX3_draw l D H.size a.y a.aw a.az a.ah a.ak a.cI a.cD n hn wm yg q df th wd zs h kp dk (xs (j + 1)) hN hrd hrm hdk) (cwV 1 hts gL_law_X3_draw rfl rfl rfl (by decide +kernel) ⟨Nat.le_of_ble_eq_true rfl, Nat.le_of_ble_eq_true rfl⟩) (pmV 3 0 RX3 TX3 13 rfl rfl (vj_mP hP3) (hK.sub [1, 3] rfl) (vj_mD hD3)) rfl rfl hl.1 rfl (lv_room (Nat.le_of_ble_eq_true rfl)) dL_law_387 ⟨hc1, hs1⟩) hP3 hD3 hS hA (fun H locs hP hD hS => ?_)
    rw [← f13] at hP hD
    have e9 : thR 1 1000 (xs (j + 1)) = 0 := thR_n hok9
    rw [e9] at hP hD
    try simp only [if_pos (rfl : (0 : Int32) = 0)] at hP hD
    have hP : va_P D vwCl (OUa a (vp_updL fl 0 (takv h n df q (xs (j + 1))).toInt64) fd ++ (LOa a n wm df yg (drQ h n df q (xs (j + 1))) wd zs (drH h n df q (xs (j + 1))) (drK dk h n df q (xs (j + 1))) u ++ MOa a n wm df yg (drQ h n df q (xs (j + 1))) wd zs (drH h n df q (xs (j + 1))) (drK dk h n df q (xs (j + 1))) 0 kp)) H := hP
    have hD : va_D (Ah s) (OUa a (vp_updL fl 0 (takv h n df q (xs (j + 1))).toInt64) fd ++ (LOa a n wm df yg (drQ h n df q (xs (j + 1))) wd zs (drH h n df q (xs (j + 1))) (drK dk h n df q (xs (j + 1))) u ++ MOa a n wm df yg (drQ h n df q (xs (j + 1))) wd zs (drH h n df q (xs (j + 1))) (drK dk h n df q (xs (j + 1))) 0 kp)) := hD
    refine ki_eq (show (if thR 1 1000 (xs (j + 1)) = 0 then takv h n df q (xs (j + 1)) else 0) = takv h n df q (xs (j + 1)) from by rw [e9, if_pos rfl]) ?_
    refine lv_istore (lv' := [(7, .int (takv h n df q (xs (j + 1)))), (6, .int 0), (5, .int (nI j)), (4, .ref a.od), (3, .ref a.ol), (2, .ref a.y), (1, .ref a.x), (0, .ref b)]) hx hb dL_law_390 hl (by decide) rfl (fun ls hl => ?_)
    refine lv_aload_n hx hb dL_law_392 rfl (lv_at hl 5 rfl) ?_
    have hP3 : va_P D vwCl ((OUa a (vp_updL fl 0 (takv h n df q (xs (j + 1))).toInt64) fd ++ LOa a n wm df yg (drQ h n df q (xs (j + 1))) wd zs (drH h n df q (xs (j + 1))) (drK dk h n df q (xs (j + 1))) u) ++ (MOa a n wm df yg (drQ h n df q (xs (j + 1))) wd zs (drH h n df q (xs (j + 1))) (drK dk h n df q (xs (j + 1))) 0 kp ++ [])) H := by rw [← f13]; exact hP
    refine kr_i (W.runV (As := []) (rest := []) ⟨hx, hb, hml, hown, hts⟩ (metX3_thrown l D a.y a.aw a.az a.ah a.ak a.cI a.cD n hn wm yg (drQ h n df q (xs (j + 1))) df ((drK dk h n df q (xs (j + 1))) 0) ((drK dk h n df q (xs (j + 1))) 1) ((drK dk h n df q (xs (j + 1))) 2) 0 wd zs (drH h n df q (xs (j + 1))) kp ) (cwV 0 hts gL_law_X3_thrown rfl rfl rfl (by decide +kernel) ⟨Nat.le_of_ble_eq_true rfl, Nat.le_of_ble_eq_true rfl⟩) (prV 3 0 RX3 TX3 13 rfl rfl (vj_mP hP3) (hK.sub [1, 3] rfl)) rfl rfl hl.1 rfl (lv_room (Nat.le_of_ble_eq_true rfl)) dL_law_393 ⟨hc1, hs1⟩) ?_
    refine lv_iload hx hb dL_law_396 (lv_at hl 1 rfl) ?_
    refine lv_icmp_eq (tgt := 403) hx hb dL_law_398 (by decide) (fun c398 => ?_) (fun c398 => absurd rfl c398)
    refine lv_iload hx hb dL_law_403 (lv_at hl 1 rfl) ?_
    refine lv_if_ne (tgt := 420) hx hb dL_law_405 (by decide) (fun c405 => absurd c405 (fun h9 => h9 rfl)) (fun c405 => ?_)
    refine lv_aload_n hx hb dL_law_408 rfl (lv_at hl 4 rfl) ?_
    refine lv_iconst (v := 0) hx hb dL_law_409 (by decide) ?_
    refine va_lald hx hb hK (ws := OUa a (vp_updL fl 0 (takv h n df q (xs (j + 1))).toInt64) fd ++ (LOa a n wm df yg (drQ h n df q (xs (j + 1))) wd zs (drH h n df q (xs (j + 1))) (drK dk h n df q (xs (j + 1))) u ++ MOa a n wm df yg (drQ h n df q (xs (j + 1))) wd zs (drH h n df q (xs (j + 1))) (drK dk h n df q (xs (j + 1))) 0 kp)) hP 0 2 (f := vp_updL fl 0 (takv h n df q (xs (j + 1))).toInt64) rfl rfl (i := 0) (vp_in_nI (n := 0) (N := 1) (by decide) (by decide)) dL_law_410 ?_
    refine W.eq (g2 := F0 m 411 ls (.long ((takv h n df q (xs (j + 1))).toInt64) :: [])) (by rw [cl_0]; rfl) ?_
    refine lv_iload hx hb dL_law_411 (lv_at hl 0 rfl) ?_
    refine lv_i2l (v := (takv h n df q (xs (j + 1))).toInt64) hx hb dL_law_413 rfl ?_
    refine kl_cmp hx hb dL_law_414 ?_
    refine lv_if_eq (tgt := 420) hx hb dL_law_415 (by decide) (fun c415 => ?_) (fun c415 => absurd rfl c415)
    refine lv_goto (tgt := 1124) hx hb dL_law_420 (by decide) ?_
    refine W.widen (k := cells + 1) (n := slots + 6) (by omega) (by omega) ?_
    exact kk H locs ls 0 kp (vp_updL fl 0 (takv h n df q (xs (j + 1))).toInt64) fd hP hD hS (lv_sub hl [2, 3, 4, 5, 6, 7] rfl) hok9
  · rw [← f12] at hP hD
    have hP : va_P D vwCl (OUa a fl fd ++ (LOa a n wm df yg q wd zs h dk u ++ MOa a n wm df yg q wd zs h dk th kp)) H := hP
    have hD : va_D (Ah s) (OUa a fl fd ++ (LOa a n wm df yg q wd zs h dk u ++ MOa a n wm df yg q wd zs h dk th kp)) := hD
    refine lv_istore (lv' := [(6, .int 1), (5, .int (nI j)), (4, .ref a.od), (3, .ref a.ol), (2, .ref a.y), (1, .ref a.x), (0, .ref b)]) hx hb dL_law_378 hl (by decide) rfl (fun ls hl => ?_)
    refine lv_aload_n hx hb dL_law_380 rfl (lv_at hl 4 rfl) ?_
    refine lv_aload_n hx hb dL_law_381 rfl (lv_at hl 6 rfl) ?_
    refine lv_iload hx hb dL_law_382 (lv_at hl 1 rfl) ?_
    refine lv_iconst (v := 1) hx hb dL_law_384 (by decide) ?_
    refine lv_iadd hx hb dL_law_385 ?_
    refine kx_sld hx hb hXs hbl hbA hS (j := j + 1) (nI_1 j) (by omega) hL dL_law_386 ?_
    have hP3 : va_P D vwCl ((OUa a fl fd ++ LOa a n wm df yg q wd zs h dk u) ++ (MOa a n wm df yg q wd zs h dk th kp ++ [])) H := by rw [← f13]; exact hP
    have hD3 : va_D (Ah s) ((OUa a fl fd ++ LOa a n wm df yg q wd zs h dk u) ++ (MOa a n wm df yg q wd zs h dk th kp ++ [])) := by rw [← f13]; exact hD
    refine kc_i (w1 := OUa a fl fd ++ LOa a n wm df yg q wd zs h dk u) (w3 := []) (va_runV (As := [.int (xs (j + 1))]) (rest := []) ⟨hx, hb, hml, hown, hts⟩ (metX3_draw l D H.size a.y a.aw a.az a.ah a.ak a.cI a.cD n hn wm yg q df th wd zs h kp dk (xs (j + 1)) hN hrd hrm hdk) (cwV 1 hts gL_law_X3_draw rfl rfl rfl (by decide +kernel) ⟨Nat.le_of_ble_eq_true rfl, Nat.le_of_ble_eq_true rfl⟩) (pmV 3 0 RX3 TX3 13 rfl rfl (vj_mP hP3) (hK.sub [1, 3] rfl) (vj_mD hD3)) rfl rfl hl.1 rfl (lv_room (Nat.le_of_ble_eq_true rfl)) dL_law_387 ⟨hc1, hs1⟩) hP3 hD3 hS hA (fun H locs hP hD hS => ?_)
    rw [← f13] at hP hD
    have e9 : thR 1 1000 (xs (j + 1)) = 1 := thR_y hbad9
    rw [e9] at hP hD
    try simp only [if_neg (show ¬ (1 : Int32) = 0 by decide)] at hP hD
    have hP : va_P D vwCl (OUa a fl fd ++ (LOa a n wm df yg q wd zs h dk u ++ MOa a n wm df yg q wd zs h dk 1 kp)) H := hP
    have hD : va_D (Ah s) (OUa a fl fd ++ (LOa a n wm df yg q wd zs h dk u ++ MOa a n wm df yg q wd zs h dk 1 kp)) := hD
    refine ki_eq (show (if thR 1 1000 (xs (j + 1)) = 0 then takv h n df q (xs (j + 1)) else 0) = 0 from by rw [e9, if_neg (by decide)]) ?_
    refine lv_istore (lv' := [(7, .int 0), (6, .int 1), (5, .int (nI j)), (4, .ref a.od), (3, .ref a.ol), (2, .ref a.y), (1, .ref a.x), (0, .ref b)]) hx hb dL_law_390 hl (by decide) rfl (fun ls hl => ?_)
    refine lv_aload_n hx hb dL_law_392 rfl (lv_at hl 5 rfl) ?_
    have hP3 : va_P D vwCl ((OUa a fl fd ++ LOa a n wm df yg q wd zs h dk u) ++ (MOa a n wm df yg q wd zs h dk 1 kp ++ [])) H := by rw [← f13]; exact hP
    refine kr_i (W.runV (As := []) (rest := []) ⟨hx, hb, hml, hown, hts⟩ (metX3_thrown l D a.y a.aw a.az a.ah a.ak a.cI a.cD n hn wm yg q df (dk 0) (dk 1) (dk 2) 1 wd zs h kp ) (cwV 0 hts gL_law_X3_thrown rfl rfl rfl (by decide +kernel) ⟨Nat.le_of_ble_eq_true rfl, Nat.le_of_ble_eq_true rfl⟩) (prV 3 0 RX3 TX3 13 rfl rfl (vj_mP hP3) (hK.sub [1, 3] rfl)) rfl rfl hl.1 rfl (lv_room (Nat.le_of_ble_eq_true rfl)) dL_law_393 ⟨hc1, hs1⟩) ?_
    refine lv_iload hx hb dL_law_396 (lv_at hl 1 rfl) ?_
    refine lv_icmp_eq (tgt := 403) hx hb dL_law_398 (by decide) (fun c398 => ?_) (fun c398 => absurd rfl c398)
    refine lv_iload hx hb dL_law_403 (lv_at hl 1 rfl) ?_
    refine lv_if_ne (tgt := 420) hx hb dL_law_405 (by decide) (fun c405 => ?_) (fun c405 => absurd c405 (by decide))
    refine lv_goto (tgt := 1124) hx hb dL_law_420 (by decide) ?_
    refine W.widen (k := cells + 1) (n := slots + 6) (by omega) (by omega) ?_
    exact kb H locs ls 1 kp fl fd hP hD hS (lv_sub hl [2, 3, 4, 5, 6, 7] rfl)

set_option maxHeartbeats 4000000 in
set_option maxRecDepth 100000 in
theorem lawc_5 {p : Program} {l : Launch} {e : Env} {s : State} {m : MethodId} {below : List Frame} {meth : Method} {c : Code} {H : Heap} {locs : List Loc} {cells slots : Nat} {Q : State → Prop} {D : va_G} {b L : Nat} {xs : Nat → Int32} {a : AD} {ls : Array Slot} (C : LC p l s m c D b L xs a) (n : Nat) (hn : n ≤ 8) (wm df yg : Int32) (q : UInt64) (wd zs : Nat → Int32) (h : Nat → UInt64) (dk : Nat → Int32) (u : TRW) (th : Int32) (kp : Nat → UInt64) (fl : Nat → Int64) (fd : Nat → UInt64) {j : Nat} (hj : j + 2 < L) 
    (hP : va_P D vwCl (OUa a fl fd ++ (LOa a n wm df yg q wd zs h dk u ++ MOa a n wm df yg q wd zs h dk th kp)) H) (hD : va_D (Ah s) (OUa a fl fd ++ (LOa a n wm df yg q wd zs h dk u ++ MOa a n wm df yg q wd zs h dk th kp))) (hS : va_S (Ah s) s.heap H locs) (hl : lv_has ls 10 (LOC a b j)) (hc1 : cells + 1 ≤ room_1.cells) (hs1 : slots + 6 ≤ room_1.slots)
    (kk : (∀ (H : Heap) (locs : List Loc) (ls : Array Slot) (th' : Int32) (kp' : Nat → UInt64) (fl' : Nat → Int64) (fd' : Nat → UInt64), va_P D vwCl (OUa a (fl') (fd') ++ (LOa a n wm df yg q wd zs (hset h ((xs (j + 1))).toNatClampNeg 0 0 0 0) dk u ++ MOa a n wm df yg q wd zs (hset h ((xs (j + 1))).toNatClampNeg 0 0 0 0) dk (th') (kp'))) H → va_D (Ah s) (OUa a (fl') (fd') ++ (LOa a n wm df yg q wd zs (hset h ((xs (j + 1))).toNatClampNeg 0 0 0 0) dk u ++ MOa a n wm df yg q wd zs (hset h ((xs (j + 1))).toNatClampNeg 0 0 0 0) dk (th') (kp'))) → va_S (Ah s) s.heap H locs → lv_has ls 10 (LOC a b j) → ¬ badI n (xs (j + 1)) → W p l e room_1 s m #[Value.ref b] below meth c H locs (cells + 1) (slots + 6) Q (F0 m 1124 ls [])))
    (kb : (∀ (H : Heap) (locs : List Loc) (ls : Array Slot) (th' : Int32) (kp' : Nat → UInt64) (fl' : Nat → Int64) (fd' : Nat → UInt64), va_P D vwCl (OUa a (fl') (fd') ++ (LOa a n wm df yg q wd zs h dk u ++ MOa a n wm df yg q wd zs h dk (th') (kp'))) H → va_D (Ah s) (OUa a (fl') (fd') ++ (LOa a n wm df yg q wd zs h dk u ++ MOa a n wm df yg q wd zs h dk (th') (kp'))) → va_S (Ah s) s.heap H locs → lv_has ls 10 (LOC a b j) → W p l e room_1 s m #[Value.ref b] below meth c H locs (cells + 1) (slots + 6) Q (F0 m 1124 ls []))) :
    W p l e room_1 s m #[Value.ref b] below meth c H locs cells slots Q (F0 m 423 ls []) := by
  obtain ⟨hx, hb, hml, hown, hts, hK, hX, hH, hst, hXs, hbl, hL⟩ := C
  have hA : ∀ q : Nat, s.heap.size ≤ q → Ah s q := fun _ h => h
  have hbA : ¬ Ah s b := Nat.not_le.mpr hbl
  have hc0 : cells + 0 ≤ room_1.cells := by omega
  have hs0 : slots + 0 ≤ room_1.slots := by omega
  have hl : lv_has ls 10 [(5, .int (nI j)), (4, .ref a.od), (3, .ref a.ol), (2, .ref a.y), (1, .ref a.x), (0, .ref b)] := hl
  refine lv_aload_n hx hb dL_law_423 rfl (lv_at hl 4 rfl) ?_
  refine lv_aload_n hx hb dL_law_424 rfl (lv_at hl 5 rfl) ?_
  refine lv_iload hx hb dL_law_425 (lv_at hl 0 rfl) ?_
  refine lv_iconst (v := 1) hx hb dL_law_427 (by decide) ?_
  refine lv_iadd hx hb dL_law_428 ?_
  refine kx_sld hx hb hXs hbl hbA hS (j := j + 1) (nI_1 j) (by omega) hL dL_law_429 ?_
  refine lv_aload hx hb dL_law_430 (lv_at hl 1 rfl) ?_
  have hP2 : va_P D vwCl ([] ++ ((OUa a fl fd ++ LOa a n wm df yg q wd zs h dk u) ++ MOa a n wm df yg q wd zs h dk th kp)) H := by rw [← f12]; exact hP
  have hD2 : va_D (Ah s) ([] ++ ((OUa a fl fd ++ LOa a n wm df yg q wd zs h dk u) ++ MOa a n wm df yg q wd zs h dk th kp)) := by rw [← f12]; exact hD
  have hX9 : XP (Ah s) s H := hX.kept hS.2.1
  have hA9 : ∀ q : Nat, H.size ≤ q → Ah s q := fun q h9 => hA q (Nat.le_trans hS.1 h9)
  refine kh_i (w1 := []) (w3 := MOa a n wm df yg q wd zs h dk th kp) (vx_runSW (As := [.ref a.x, .int (xs (j + 1)), .ref a.od]) (rest := []) ⟨hx, hb, hml, hown, hts⟩ (metL_pourAway l hst D H.size a.x a.r a.t a.d yg a.la a.bs a.cA a.cI n hn wm df q wd zs h (TRa a dk u) a.ol a.od a.cL a.cD fl fd (xs (j + 1)) ) (vx_cwSW 3 hts gL_law_L_pourAway rfl rfl rfl (by decide +kernel) ⟨Nat.le_of_ble_eq_true rfl, Nat.le_of_ble_eq_true rfl⟩) (phS (vj_mP hP2) hK (vj_mD hD2) hX9 hH hA9) rfl rfl hl.1 rfl (lv_room (Nat.le_of_ble_eq_true rfl)) dL_law_432 ⟨hc1, hs1⟩) hP2 hD2 hS hA (fun r9 W9 H locs hp9 hP hD hS => ?_)
  rcases hp9 with ⟨hok9, rfl, rfl⟩ | ⟨hbad9, rfl, rfl⟩
  · rw [← f12] at hP hD
    have hP : va_P D vwCl (OUa a fl (vf_upd fd 0 (h ((xs (j + 1))).toNatClampNeg)) ++ (LOa a n wm df yg q wd zs (hset h ((xs (j + 1))).toNatClampNeg 0 0 0 0) dk u ++ MOa a n wm df yg q wd zs h dk th kp)) H := hP
    have hD : va_D (Ah s) (OUa a fl (vf_upd fd 0 (h ((xs (j + 1))).toNatClampNeg)) ++ (LOa a n wm df yg q wd zs (hset h ((xs (j + 1))).toNatClampNeg 0 0 0 0) dk u ++ MOa a n wm df yg q wd zs h dk th kp)) := hD
    refine lv_istore (lv' := [(6, .int 0), (5, .int (nI j)), (4, .ref a.od), (3, .ref a.ol), (2, .ref a.y), (1, .ref a.x), (0, .ref b)]) hx hb dL_law_435 hl (by decide) rfl (fun ls hl => ?_)
    refine lv_aload_n hx hb dL_law_437 rfl (lv_at hl 4 rfl) ?_
    refine lv_aload_n hx hb dL_law_438 rfl (lv_at hl 6 rfl) ?_
    refine lv_iload hx hb dL_law_439 (lv_at hl 1 rfl) ?_
    refine lv_iconst (v := 1) hx hb dL_law_441 (by decide) ?_
    refine lv_iadd hx hb dL_law_442 ?_
    refine kx_sld hx hb hXs hbl hbA hS (j := j + 1) (nI_1 j) (by omega) hL dL_law_443 ?_
    have hP3 : va_P D vwCl ((OUa a fl (vf_upd fd 0 (h ((xs (j + 1))).toNatClampNeg)) ++ LOa a n wm df yg q wd zs (hset h ((xs (j + 1))).toNatClampNeg 0 0 0 0) dk u) ++ (MOa a n wm df yg q wd zs h dk th kp ++ [])) H := by rw [← f13]; exact hP
    have hD3 : va_D (Ah s) ((OUa a fl (vf_upd fd 0 (h ((xs (j + 1))).toNatClampNeg)) ++ LOa a n wm df yg q wd zs (hset h ((xs (j + 1))).toNatClampNeg 0 0 0 0) dk u) ++ (MOa a n wm df yg q wd zs h dk th kp ++ [])) := by rw [← f13]; exact hD
    refine kc_d (w1 := OUa a fl (vf_upd fd 0 (h ((xs (j + 1))).toNatClampNeg)) ++ LOa a n wm df yg q wd zs (hset h ((xs (j + 1))).toNatClampNeg 0 0 0 0) dk u) (w3 := []) (va_runV (As := [.int (xs (j + 1))]) (rest := []) ⟨hx, hb, hml, hown, hts⟩ (metX3_pourAway l D H.size a.y a.aw a.az a.ah a.ak a.cI a.cD n hn wm yg q df (dk 0) (dk 1) (dk 2) th wd zs h kp (xs (j + 1))) (cwV 1 hts gL_law_X3_pourAway rfl rfl rfl (by decide +kernel) ⟨Nat.le_of_ble_eq_true rfl, Nat.le_of_ble_eq_true rfl⟩) (pmV 3 0 RX3 TX3 13 rfl rfl (vj_mP hP3) (hK.sub [1, 3] rfl) (vj_mD hD3)) rfl rfl hl.1 rfl (lv_room (Nat.le_of_ble_eq_true rfl)) dL_law_444 ⟨hc1, hs1⟩) hP3 hD3 hS hA (fun H locs hP hD hS => ?_)
    rw [← f13] at hP hD
    have e9 : thI n (xs (j + 1)) = 0 := thI_n hok9
    rw [e9] at hP hD
    try simp only [if_pos (rfl : (0 : Int32) = 0)] at hP hD
    have hP : va_P D vwCl (OUa a fl (vf_upd fd 0 (h ((xs (j + 1))).toNatClampNeg)) ++ (LOa a n wm df yg q wd zs (hset h ((xs (j + 1))).toNatClampNeg 0 0 0 0) dk u ++ MOa a n wm df yg q wd zs (hset h ((xs (j + 1))).toNatClampNeg 0 0 0 0) dk 0 kp)) H := hP
    have hD : va_D (Ah s) (OUa a fl (vf_upd fd 0 (h ((xs (j + 1))).toNatClampNeg)) ++ (LOa a n wm df yg q wd zs (hset h ((xs (j + 1))).toNatClampNeg 0 0 0 0) dk u ++ MOa a n wm df yg q wd zs (hset h ((xs (j + 1))).toNatClampNeg 0 0 0 0) dk 0 kp)) := hD
    refine kd_eq (show (if thI n (xs (j + 1)) = 0 then h ((xs (j + 1))).toNatClampNeg else 0) = h ((xs (j + 1))).toNatClampNeg from by rw [e9, if_pos rfl]) ?_
    refine lv_dstore (lv' := [(7, .double (h ((xs (j + 1))).toNatClampNeg)), (6, .int 0), (5, .int (nI j)), (4, .ref a.od), (3, .ref a.ol), (2, .ref a.y), (1, .ref a.x), (0, .ref b)]) hx hb dL_law_447 hl (by decide) rfl (fun ls hl => ?_)
    refine lv_aload_n hx hb dL_law_449 rfl (lv_at hl 5 rfl) ?_
    have hP3 : va_P D vwCl ((OUa a fl (vf_upd fd 0 (h ((xs (j + 1))).toNatClampNeg)) ++ LOa a n wm df yg q wd zs (hset h ((xs (j + 1))).toNatClampNeg 0 0 0 0) dk u) ++ (MOa a n wm df yg q wd zs (hset h ((xs (j + 1))).toNatClampNeg 0 0 0 0) dk 0 kp ++ [])) H := by rw [← f13]; exact hP
    refine kr_i (W.runV (As := []) (rest := []) ⟨hx, hb, hml, hown, hts⟩ (metX3_thrown l D a.y a.aw a.az a.ah a.ak a.cI a.cD n hn wm yg q df (dk 0) (dk 1) (dk 2) 0 wd zs (hset h ((xs (j + 1))).toNatClampNeg 0 0 0 0) kp ) (cwV 0 hts gL_law_X3_thrown rfl rfl rfl (by decide +kernel) ⟨Nat.le_of_ble_eq_true rfl, Nat.le_of_ble_eq_true rfl⟩) (prV 3 0 RX3 TX3 13 rfl rfl (vj_mP hP3) (hK.sub [1, 3] rfl)) rfl rfl hl.1 rfl (lv_room (Nat.le_of_ble_eq_true rfl)) dL_law_450 ⟨hc1, hs1⟩) ?_
    refine lv_iload hx hb dL_law_453 (lv_at hl 1 rfl) ?_
    refine lv_icmp_eq (tgt := 460) hx hb dL_law_455 (by decide) (fun c455 => ?_) (fun c455 => absurd rfl c455)
    refine lv_iload hx hb dL_law_460 (lv_at hl 1 rfl) ?_
    refine lv_if_ne (tgt := 497) hx hb dL_law_462 (by decide) (fun c462 => absurd c462 (fun h9 => h9 rfl)) (fun c462 => ?_)
    refine lv_aload hx hb dL_law_465 (lv_at hl 3 rfl) ?_
    refine lv_iconst (v := 0) hx hb dL_law_467 (by decide) ?_
    refine kx_dald hx hb hK (ws := OUa a fl (vf_upd fd 0 (h ((xs (j + 1))).toNatClampNeg)) ++ (LOa a n wm df yg q wd zs (hset h ((xs (j + 1))).toNatClampNeg 0 0 0 0) dk u ++ MOa a n wm df yg q wd zs (hset h ((xs (j + 1))).toNatClampNeg 0 0 0 0) dk 0 kp)) hP 1 3 (f := vf_upd fd 0 (h ((xs (j + 1))).toNatClampNeg)) rfl rfl (j := 0) rfl (by decide) (by decide) dL_law_468 ?_
    refine kd_eq (vu_s : (vf_upd fd 0 (h ((xs (j + 1))).toNatClampNeg)) 0 = h ((xs (j + 1))).toNatClampNeg) ?_
    refine lv_dload hx hb dL_law_469 (lv_at hl 0 rfl) ?_
    by_cases cv : Op.cmpValue (FP.dcmp (h ((xs (j + 1))).toNatClampNeg) (h ((xs (j + 1))).toNatClampNeg)) .l = 0
    · refine lv_dcmp hx hb dL_law_471 ?_
      refine lv_if_eq (tgt := 497) hx hb dL_law_472 (by decide) (fun _ => ?_) (fun h9 => absurd cv h9)
      refine lv_goto (tgt := 1124) hx hb dL_law_497 (by decide) ?_
      refine W.widen (k := cells + 1) (n := slots + 6) (by omega) (by omega) ?_
      exact kk H locs ls 0 kp fl (vf_upd fd 0 (h ((xs (j + 1))).toNatClampNeg)) hP hD hS (lv_sub hl [2, 3, 4, 5, 6, 7] rfl) hok9
    · refine lv_dcmp hx hb dL_law_471 ?_
      refine lv_if_eq (tgt := 497) hx hb dL_law_472 (by decide) (fun h9 => absurd h9 cv) (fun _ => ?_)
      refine lv_aload hx hb dL_law_475 (lv_at hl 3 rfl) ?_
      refine lv_iconst (v := 0) hx hb dL_law_477 (by decide) ?_
      refine kx_dald hx hb hK (ws := OUa a fl (vf_upd fd 0 (h ((xs (j + 1))).toNatClampNeg)) ++ (LOa a n wm df yg q wd zs (hset h ((xs (j + 1))).toNatClampNeg 0 0 0 0) dk u ++ MOa a n wm df yg q wd zs (hset h ((xs (j + 1))).toNatClampNeg 0 0 0 0) dk 0 kp)) hP 1 3 (f := vf_upd fd 0 (h ((xs (j + 1))).toNatClampNeg)) rfl rfl (j := 0) rfl (by decide) (by decide) dL_law_478 ?_
      refine kd_eq (vu_s : (vf_upd fd 0 (h ((xs (j + 1))).toNatClampNeg)) 0 = h ((xs (j + 1))).toNatClampNeg) ?_
      refine lv_aload hx hb dL_law_479 (lv_at hl 3 rfl) ?_
      refine lv_iconst (v := 0) hx hb dL_law_481 (by decide) ?_
      refine kx_dald hx hb hK (ws := OUa a fl (vf_upd fd 0 (h ((xs (j + 1))).toNatClampNeg)) ++ (LOa a n wm df yg q wd zs (hset h ((xs (j + 1))).toNatClampNeg 0 0 0 0) dk u ++ MOa a n wm df yg q wd zs (hset h ((xs (j + 1))).toNatClampNeg 0 0 0 0) dk 0 kp)) hP 1 3 (f := vf_upd fd 0 (h ((xs (j + 1))).toNatClampNeg)) rfl rfl (j := 0) rfl (by decide) (by decide) dL_law_482 ?_
      refine kd_eq (vu_s : (vf_upd fd 0 (h ((xs (j + 1))).toNatClampNeg)) 0 = h ((xs (j + 1))).toNatClampNeg) ?_
      refine lv_dcmp hx hb dL_law_483 ?_
      refine lv_if_eq (tgt := 495) hx hb dL_law_484 (by decide) (fun h9 => absurd h9 cv) (fun _ => ?_)
      refine lv_dload hx hb dL_law_487 (lv_at hl 0 rfl) ?_
      refine lv_dload hx hb dL_law_489 (lv_at hl 0 rfl) ?_
      refine lv_dcmp hx hb dL_law_491 ?_
      refine lv_if_ne (tgt := 497) hx hb dL_law_492 (by decide) (fun _ => ?_) (fun h9 => absurd h9 cv)
      refine lv_goto (tgt := 1124) hx hb dL_law_497 (by decide) ?_
      refine W.widen (k := cells + 1) (n := slots + 6) (by omega) (by omega) ?_
      exact kk H locs ls 0 kp fl (vf_upd fd 0 (h ((xs (j + 1))).toNatClampNeg)) hP hD hS (lv_sub hl [2, 3, 4, 5, 6, 7] rfl) hok9
  · rw [← f12] at hP hD
    have hP : va_P D vwCl (OUa a fl fd ++ (LOa a n wm df yg q wd zs h dk u ++ MOa a n wm df yg q wd zs h dk th kp)) H := hP
    have hD : va_D (Ah s) (OUa a fl fd ++ (LOa a n wm df yg q wd zs h dk u ++ MOa a n wm df yg q wd zs h dk th kp)) := hD
    refine lv_istore (lv' := [(6, .int 1), (5, .int (nI j)), (4, .ref a.od), (3, .ref a.ol), (2, .ref a.y), (1, .ref a.x), (0, .ref b)]) hx hb dL_law_435 hl (by decide) rfl (fun ls hl => ?_)
    refine lv_aload_n hx hb dL_law_437 rfl (lv_at hl 4 rfl) ?_
    refine lv_aload_n hx hb dL_law_438 rfl (lv_at hl 6 rfl) ?_
    refine lv_iload hx hb dL_law_439 (lv_at hl 1 rfl) ?_
    refine lv_iconst (v := 1) hx hb dL_law_441 (by decide) ?_
    refine lv_iadd hx hb dL_law_442 ?_
    refine kx_sld hx hb hXs hbl hbA hS (j := j + 1) (nI_1 j) (by omega) hL dL_law_443 ?_
    have hP3 : va_P D vwCl ((OUa a fl fd ++ LOa a n wm df yg q wd zs h dk u) ++ (MOa a n wm df yg q wd zs h dk th kp ++ [])) H := by rw [← f13]; exact hP
    have hD3 : va_D (Ah s) ((OUa a fl fd ++ LOa a n wm df yg q wd zs h dk u) ++ (MOa a n wm df yg q wd zs h dk th kp ++ [])) := by rw [← f13]; exact hD
    refine kc_d (w1 := OUa a fl fd ++ LOa a n wm df yg q wd zs h dk u) (w3 := []) (va_runV (As := [.int (xs (j + 1))]) (rest := []) ⟨hx, hb, hml, hown, hts⟩ (metX3_pourAway l D H.size a.y a.aw a.az a.ah a.ak a.cI a.cD n hn wm yg q df (dk 0) (dk 1) (dk 2) th wd zs h kp (xs (j + 1))) (cwV 1 hts gL_law_X3_pourAway rfl rfl rfl (by decide +kernel) ⟨Nat.le_of_ble_eq_true rfl, Nat.le_of_ble_eq_true rfl⟩) (pmV 3 0 RX3 TX3 13 rfl rfl (vj_mP hP3) (hK.sub [1, 3] rfl) (vj_mD hD3)) rfl rfl hl.1 rfl (lv_room (Nat.le_of_ble_eq_true rfl)) dL_law_444 ⟨hc1, hs1⟩) hP3 hD3 hS hA (fun H locs hP hD hS => ?_)
    rw [← f13] at hP hD
    have e9 : thI n (xs (j + 1)) = 1 := thI_y hbad9
    rw [e9] at hP hD
    try simp only [if_neg (show ¬ (1 : Int32) = 0 by decide)] at hP hD
    have hP : va_P D vwCl (OUa a fl fd ++ (LOa a n wm df yg q wd zs h dk u ++ MOa a n wm df yg q wd zs h dk 1 kp)) H := hP
    have hD : va_D (Ah s) (OUa a fl fd ++ (LOa a n wm df yg q wd zs h dk u ++ MOa a n wm df yg q wd zs h dk 1 kp)) := hD
    refine kd_eq (show (if thI n (xs (j + 1)) = 0 then h ((xs (j + 1))).toNatClampNeg else 0) = 0 from by rw [e9, if_neg (by decide)]) ?_
    refine lv_dstore (lv' := [(7, .double 0), (6, .int 1), (5, .int (nI j)), (4, .ref a.od), (3, .ref a.ol), (2, .ref a.y), (1, .ref a.x), (0, .ref b)]) hx hb dL_law_447 hl (by decide) rfl (fun ls hl => ?_)
    refine lv_aload_n hx hb dL_law_449 rfl (lv_at hl 5 rfl) ?_
    have hP3 : va_P D vwCl ((OUa a fl fd ++ LOa a n wm df yg q wd zs h dk u) ++ (MOa a n wm df yg q wd zs h dk 1 kp ++ [])) H := by rw [← f13]; exact hP
    refine kr_i (W.runV (As := []) (rest := []) ⟨hx, hb, hml, hown, hts⟩ (metX3_thrown l D a.y a.aw a.az a.ah a.ak a.cI a.cD n hn wm yg q df (dk 0) (dk 1) (dk 2) 1 wd zs h kp ) (cwV 0 hts gL_law_X3_thrown rfl rfl rfl (by decide +kernel) ⟨Nat.le_of_ble_eq_true rfl, Nat.le_of_ble_eq_true rfl⟩) (prV 3 0 RX3 TX3 13 rfl rfl (vj_mP hP3) (hK.sub [1, 3] rfl)) rfl rfl hl.1 rfl (lv_room (Nat.le_of_ble_eq_true rfl)) dL_law_450 ⟨hc1, hs1⟩) ?_
    refine lv_iload hx hb dL_law_453 (lv_at hl 1 rfl) ?_
    refine lv_icmp_eq (tgt := 460) hx hb dL_law_455 (by decide) (fun c455 => ?_) (fun c455 => absurd rfl c455)
    refine lv_iload hx hb dL_law_460 (lv_at hl 1 rfl) ?_
    refine lv_if_ne (tgt := 497) hx hb dL_law_462 (by decide) (fun c462 => ?_) (fun c462 => absurd c462 (by decide))
    refine lv_goto (tgt := 1124) hx hb dL_law_497 (by decide) ?_
    refine W.widen (k := cells + 1) (n := slots + 6) (by omega) (by omega) ?_
    exact kb H locs ls 1 kp fl fd hP hD hS (lv_sub hl [2, 3, 4, 5, 6, 7] rfl)

set_option maxHeartbeats 4000000 in
set_option maxRecDepth 100000 in
theorem lawc_6 {p : Program} {l : Launch} {e : Env} {s : State} {m : MethodId} {below : List Frame} {meth : Method} {c : Code} {H : Heap} {locs : List Loc} {cells slots : Nat} {Q : State → Prop} {D : va_G} {b L : Nat} {xs : Nat → Int32} {a : AD} {ls : Array Slot} (C : LC p l s m c D b L xs a) (n : Nat) (hn : n ≤ 8) (wm df yg : Int32) (q : UInt64) (wd zs : Nat → Int32) (h : Nat → UInt64) (dk : Nat → Int32) (u : TRW) (th : Int32) (kp : Nat → UInt64) (fl : Nat → Int64) (fd : Nat → UInt64) {j : Nat} (hj : j + 2 < L) 
    (hP : va_P D vwCl (OUa a fl fd ++ (LOa a n wm df yg q wd zs h dk u ++ MOa a n wm df yg q wd zs h dk th kp)) H) (hD : va_D (Ah s) (OUa a fl fd ++ (LOa a n wm df yg q wd zs h dk u ++ MOa a n wm df yg q wd zs h dk th kp))) (hS : va_S (Ah s) s.heap H locs) (hl : lv_has ls 10 (LOC a b j)) (hc1 : cells + 1 ≤ room_1.cells) (hs1 : slots + 6 ≤ room_1.slots)
    (kk : (∀ (H : Heap) (locs : List Loc) (ls : Array Slot) (th' : Int32) (kp' : Nat → UInt64) (fl' : Nat → Int64) (fd' : Nat → UInt64), va_P D vwCl (OUa a (fl') (fd') ++ (LOa a n (xs (j + 1)) df yg q wd zs h dk u ++ MOa a n (xs (j + 1)) df yg q wd zs h dk (th') (kp'))) H → va_D (Ah s) (OUa a (fl') (fd') ++ (LOa a n (xs (j + 1)) df yg q wd zs h dk u ++ MOa a n (xs (j + 1)) df yg q wd zs h dk (th') (kp'))) → va_S (Ah s) s.heap H locs → lv_has ls 10 (LOC a b j) → ¬ badR 0 40 (xs (j + 1)) → W p l e room_1 s m #[Value.ref b] below meth c H locs (cells + 1) (slots + 6) Q (F0 m 1124 ls [])))
    (kb : (∀ (H : Heap) (locs : List Loc) (ls : Array Slot) (th' : Int32) (kp' : Nat → UInt64) (fl' : Nat → Int64) (fd' : Nat → UInt64), va_P D vwCl (OUa a (fl') (fd') ++ (LOa a n wm df yg q wd zs h dk u ++ MOa a n wm df yg q wd zs h dk (th') (kp'))) H → va_D (Ah s) (OUa a (fl') (fd') ++ (LOa a n wm df yg q wd zs h dk u ++ MOa a n wm df yg q wd zs h dk (th') (kp'))) → va_S (Ah s) s.heap H locs → lv_has ls 10 (LOC a b j) → W p l e room_1 s m #[Value.ref b] below meth c H locs (cells + 1) (slots + 6) Q (F0 m 1124 ls []))) :
    W p l e room_1 s m #[Value.ref b] below meth c H locs cells slots Q (F0 m 500 ls []) := by
  obtain ⟨hx, hb, hml, hown, hts, hK, hX, hH, hst, hXs, hbl, hL⟩ := C
  have hA : ∀ q : Nat, s.heap.size ≤ q → Ah s q := fun _ h => h
  have hbA : ¬ Ah s b := Nat.not_le.mpr hbl
  have hc0 : cells + 0 ≤ room_1.cells := by omega
  have hs0 : slots + 0 ≤ room_1.slots := by omega
  have hl : lv_has ls 10 [(5, .int (nI j)), (4, .ref a.od), (3, .ref a.ol), (2, .ref a.y), (1, .ref a.x), (0, .ref b)] := hl
  refine lv_aload_n hx hb dL_law_500 rfl (lv_at hl 4 rfl) ?_
  refine lv_aload_n hx hb dL_law_501 rfl (lv_at hl 5 rfl) ?_
  refine lv_iload hx hb dL_law_502 (lv_at hl 0 rfl) ?_
  refine lv_iconst (v := 1) hx hb dL_law_504 (by decide) ?_
  refine lv_iadd hx hb dL_law_505 ?_
  refine kx_sld hx hb hXs hbl hbA hS (j := j + 1) (nI_1 j) (by omega) hL dL_law_506 ?_
  have hP2 : va_P D vwCl ([] ++ ((OUa a fl fd ++ LOa a n wm df yg q wd zs h dk u) ++ MOa a n wm df yg q wd zs h dk th kp)) H := by rw [← f12]; exact hP
  have hD2 : va_D (Ah s) ([] ++ ((OUa a fl fd ++ LOa a n wm df yg q wd zs h dk u) ++ MOa a n wm df yg q wd zs h dk th kp)) := by rw [← f12]; exact hD
  have hX9 : XP (Ah s) s H := hX.kept hS.2.1
  have hA9 : ∀ q : Nat, H.size ≤ q → Ah s q := fun q h9 => hA q (Nat.le_trans hS.1 h9)
  refine kh_i (w1 := []) (w3 := MOa a n wm df yg q wd zs h dk th kp) (vx_runSW (As := [.ref a.x, .int (xs (j + 1))]) (rest := []) ⟨hx, hb, hml, hown, hts⟩ (metL_setWarmth l hst D H.size a.x a.r a.t a.d yg a.la a.bs a.cA a.cI n hn wm df q wd zs h (TRa a dk u) a.ol a.od a.cL a.cD fl fd (xs (j + 1)) ) (vx_cwSW 2 hts gL_law_L_setWarmth rfl rfl rfl (by decide +kernel) ⟨Nat.le_of_ble_eq_true rfl, Nat.le_of_ble_eq_true rfl⟩) (phS (vj_mP hP2) hK (vj_mD hD2) hX9 hH hA9) rfl rfl hl.1 rfl (lv_room (Nat.le_of_ble_eq_true rfl)) dL_law_507 ⟨hc1, hs1⟩) hP2 hD2 hS hA (fun r9 W9 H locs hp9 hP hD hS => ?_)
  rcases hp9 with ⟨hok9, rfl, rfl⟩ | ⟨hbad9, rfl, rfl⟩
  · rw [← f12] at hP hD
    have hP : va_P D vwCl (OUa a fl fd ++ (LOa a n (xs (j + 1)) df yg q wd zs h dk u ++ MOa a n wm df yg q wd zs h dk th kp)) H := hP
    have hD : va_D (Ah s) (OUa a fl fd ++ (LOa a n (xs (j + 1)) df yg q wd zs h dk u ++ MOa a n wm df yg q wd zs h dk th kp)) := hD
    refine lv_istore (lv' := [(6, .int 0), (5, .int (nI j)), (4, .ref a.od), (3, .ref a.ol), (2, .ref a.y), (1, .ref a.x), (0, .ref b)]) hx hb dL_law_510 hl (by decide) rfl (fun ls hl => ?_)
    refine lv_aload_n hx hb dL_law_512 rfl (lv_at hl 4 rfl) ?_
    refine lv_aload_n hx hb dL_law_513 rfl (lv_at hl 6 rfl) ?_
    refine lv_iload hx hb dL_law_514 (lv_at hl 1 rfl) ?_
    refine lv_iconst (v := 1) hx hb dL_law_516 (by decide) ?_
    refine lv_iadd hx hb dL_law_517 ?_
    refine kx_sld hx hb hXs hbl hbA hS (j := j + 1) (nI_1 j) (by omega) hL dL_law_518 ?_
    have hP3 : va_P D vwCl ((OUa a fl fd ++ LOa a n (xs (j + 1)) df yg q wd zs h dk u) ++ (MOa a n wm df yg q wd zs h dk th kp ++ [])) H := by rw [← f13]; exact hP
    have hD3 : va_D (Ah s) ((OUa a fl fd ++ LOa a n (xs (j + 1)) df yg q wd zs h dk u) ++ (MOa a n wm df yg q wd zs h dk th kp ++ [])) := by rw [← f13]; exact hD
    refine kc_v (w1 := OUa a fl fd ++ LOa a n (xs (j + 1)) df yg q wd zs h dk u) (w3 := []) (va_runV (As := [.int (xs (j + 1))]) (rest := []) ⟨hx, hb, hml, hown, hts⟩ (metX3_setWarmth l D H.size a.y a.aw a.az a.ah a.ak a.cI a.cD n hn wm yg q df (dk 0) (dk 1) (dk 2) th wd zs h kp (xs (j + 1))) (cwV 1 hts gL_law_X3_setWarmth rfl rfl rfl (by decide +kernel) ⟨Nat.le_of_ble_eq_true rfl, Nat.le_of_ble_eq_true rfl⟩) (pmV 3 0 RX3 TX3 13 rfl rfl (vj_mP hP3) (hK.sub [1, 3] rfl) (vj_mD hD3)) rfl rfl hl.1 rfl (lv_room (Nat.le_of_ble_eq_true rfl)) dL_law_519 ⟨hc1, hs1⟩) hP3 hD3 hS hA (fun H locs hP hD hS => ?_)
    rw [← f13] at hP hD
    have e9 : thR 0 40 (xs (j + 1)) = 0 := thR_n hok9
    rw [e9] at hP hD
    try simp only [if_pos (rfl : (0 : Int32) = 0)] at hP hD
    have hP : va_P D vwCl (OUa a fl fd ++ (LOa a n (xs (j + 1)) df yg q wd zs h dk u ++ MOa a n (xs (j + 1)) df yg q wd zs h dk 0 kp)) H := hP
    have hD : va_D (Ah s) (OUa a fl fd ++ (LOa a n (xs (j + 1)) df yg q wd zs h dk u ++ MOa a n (xs (j + 1)) df yg q wd zs h dk 0 kp)) := hD
    refine lv_aload_n hx hb dL_law_522 rfl (lv_at hl 4 rfl) ?_
    have hP3 : va_P D vwCl ((OUa a fl fd ++ LOa a n (xs (j + 1)) df yg q wd zs h dk u) ++ (MOa a n (xs (j + 1)) df yg q wd zs h dk 0 kp ++ [])) H := by rw [← f13]; exact hP
    refine kr_i (W.runV (As := []) (rest := []) ⟨hx, hb, hml, hown, hts⟩ (metX3_thrown l D a.y a.aw a.az a.ah a.ak a.cI a.cD n hn (xs (j + 1)) yg q df (dk 0) (dk 1) (dk 2) 0 wd zs h kp ) (cwV 0 hts gL_law_X3_thrown rfl rfl rfl (by decide +kernel) ⟨Nat.le_of_ble_eq_true rfl, Nat.le_of_ble_eq_true rfl⟩) (prV 3 0 RX3 TX3 13 rfl rfl (vj_mP hP3) (hK.sub [1, 3] rfl)) rfl rfl hl.1 rfl (lv_room (Nat.le_of_ble_eq_true rfl)) dL_law_523 ⟨hc1, hs1⟩) ?_
    refine lv_iload hx hb dL_law_526 (lv_at hl 0 rfl) ?_
    refine lv_icmp_eq (tgt := 533) hx hb dL_law_528 (by decide) (fun c528 => ?_) (fun c528 => absurd rfl c528)
    refine lv_goto (tgt := 1124) hx hb dL_law_533 (by decide) ?_
    refine W.widen (k := cells + 1) (n := slots + 6) (by omega) (by omega) ?_
    exact kk H locs ls 0 kp fl fd hP hD hS (lv_sub hl [1, 2, 3, 4, 5, 6] rfl) hok9
  · rw [← f12] at hP hD
    have hP : va_P D vwCl (OUa a fl fd ++ (LOa a n wm df yg q wd zs h dk u ++ MOa a n wm df yg q wd zs h dk th kp)) H := hP
    have hD : va_D (Ah s) (OUa a fl fd ++ (LOa a n wm df yg q wd zs h dk u ++ MOa a n wm df yg q wd zs h dk th kp)) := hD
    refine lv_istore (lv' := [(6, .int 1), (5, .int (nI j)), (4, .ref a.od), (3, .ref a.ol), (2, .ref a.y), (1, .ref a.x), (0, .ref b)]) hx hb dL_law_510 hl (by decide) rfl (fun ls hl => ?_)
    refine lv_aload_n hx hb dL_law_512 rfl (lv_at hl 4 rfl) ?_
    refine lv_aload_n hx hb dL_law_513 rfl (lv_at hl 6 rfl) ?_
    refine lv_iload hx hb dL_law_514 (lv_at hl 1 rfl) ?_
    refine lv_iconst (v := 1) hx hb dL_law_516 (by decide) ?_
    refine lv_iadd hx hb dL_law_517 ?_
    refine kx_sld hx hb hXs hbl hbA hS (j := j + 1) (nI_1 j) (by omega) hL dL_law_518 ?_
    have hP3 : va_P D vwCl ((OUa a fl fd ++ LOa a n wm df yg q wd zs h dk u) ++ (MOa a n wm df yg q wd zs h dk th kp ++ [])) H := by rw [← f13]; exact hP
    have hD3 : va_D (Ah s) ((OUa a fl fd ++ LOa a n wm df yg q wd zs h dk u) ++ (MOa a n wm df yg q wd zs h dk th kp ++ [])) := by rw [← f13]; exact hD
    refine kc_v (w1 := OUa a fl fd ++ LOa a n wm df yg q wd zs h dk u) (w3 := []) (va_runV (As := [.int (xs (j + 1))]) (rest := []) ⟨hx, hb, hml, hown, hts⟩ (metX3_setWarmth l D H.size a.y a.aw a.az a.ah a.ak a.cI a.cD n hn wm yg q df (dk 0) (dk 1) (dk 2) th wd zs h kp (xs (j + 1))) (cwV 1 hts gL_law_X3_setWarmth rfl rfl rfl (by decide +kernel) ⟨Nat.le_of_ble_eq_true rfl, Nat.le_of_ble_eq_true rfl⟩) (pmV 3 0 RX3 TX3 13 rfl rfl (vj_mP hP3) (hK.sub [1, 3] rfl) (vj_mD hD3)) rfl rfl hl.1 rfl (lv_room (Nat.le_of_ble_eq_true rfl)) dL_law_519 ⟨hc1, hs1⟩) hP3 hD3 hS hA (fun H locs hP hD hS => ?_)
    rw [← f13] at hP hD
    have e9 : thR 0 40 (xs (j + 1)) = 1 := thR_y hbad9
    rw [e9] at hP hD
    try simp only [if_neg (show ¬ (1 : Int32) = 0 by decide)] at hP hD
    have hP : va_P D vwCl (OUa a fl fd ++ (LOa a n wm df yg q wd zs h dk u ++ MOa a n wm df yg q wd zs h dk 1 kp)) H := hP
    have hD : va_D (Ah s) (OUa a fl fd ++ (LOa a n wm df yg q wd zs h dk u ++ MOa a n wm df yg q wd zs h dk 1 kp)) := hD
    refine lv_aload_n hx hb dL_law_522 rfl (lv_at hl 4 rfl) ?_
    have hP3 : va_P D vwCl ((OUa a fl fd ++ LOa a n wm df yg q wd zs h dk u) ++ (MOa a n wm df yg q wd zs h dk 1 kp ++ [])) H := by rw [← f13]; exact hP
    refine kr_i (W.runV (As := []) (rest := []) ⟨hx, hb, hml, hown, hts⟩ (metX3_thrown l D a.y a.aw a.az a.ah a.ak a.cI a.cD n hn wm yg q df (dk 0) (dk 1) (dk 2) 1 wd zs h kp ) (cwV 0 hts gL_law_X3_thrown rfl rfl rfl (by decide +kernel) ⟨Nat.le_of_ble_eq_true rfl, Nat.le_of_ble_eq_true rfl⟩) (prV 3 0 RX3 TX3 13 rfl rfl (vj_mP hP3) (hK.sub [1, 3] rfl)) rfl rfl hl.1 rfl (lv_room (Nat.le_of_ble_eq_true rfl)) dL_law_523 ⟨hc1, hs1⟩) ?_
    refine lv_iload hx hb dL_law_526 (lv_at hl 0 rfl) ?_
    refine lv_icmp_eq (tgt := 533) hx hb dL_law_528 (by decide) (fun c528 => ?_) (fun c528 => absurd rfl c528)
    refine lv_goto (tgt := 1124) hx hb dL_law_533 (by decide) ?_
    refine W.widen (k := cells + 1) (n := slots + 6) (by omega) (by omega) ?_
    exact kb H locs ls 1 kp fl fd hP hD hS (lv_sub hl [1, 2, 3, 4, 5, 6] rfl)

set_option maxHeartbeats 4000000 in
set_option maxRecDepth 100000 in
theorem lawc_7 {p : Program} {l : Launch} {e : Env} {s : State} {m : MethodId} {below : List Frame} {meth : Method} {c : Code} {H : Heap} {locs : List Loc} {cells slots : Nat} {Q : State → Prop} {D : va_G} {b L : Nat} {xs : Nat → Int32} {a : AD} {ls : Array Slot} (C : LC p l s m c D b L xs a) (n : Nat) (hn : n ≤ 8) (wm df yg : Int32) (q : UInt64) (wd zs : Nat → Int32) (h : Nat → UInt64) (dk : Nat → Int32) (u : TRW) (th : Int32) (kp : Nat → UInt64) (fl : Nat → Int64) (fd : Nat → UInt64) {j : Nat} (hj : j + 2 < L) 
    (hP : va_P D vwCl (OUa a fl fd ++ (LOa a n wm df yg q wd zs h dk u ++ MOa a n wm df yg q wd zs h dk th kp)) H) (hD : va_D (Ah s) (OUa a fl fd ++ (LOa a n wm df yg q wd zs h dk u ++ MOa a n wm df yg q wd zs h dk th kp))) (hS : va_S (Ah s) s.heap H locs) (hl : lv_has ls 10 (LOC a b j)) (hc1 : cells + 1 ≤ room_1.cells) (hs1 : slots + 6 ≤ room_1.slots)
    (kk : (∀ (H : Heap) (locs : List Loc) (ls : Array Slot) (th' : Int32) (kp' : Nat → UInt64) (fl' : Nat → Int64) (fd' : Nat → UInt64), va_P D vwCl (OUa a (fl') (fd') ++ (LOa a n wm df yg q wd zs h dk u ++ MOa a n wm df yg q wd zs h dk (th') (kp'))) H → va_D (Ah s) (OUa a (fl') (fd') ++ (LOa a n wm df yg q wd zs h dk u ++ MOa a n wm df yg q wd zs h dk (th') (kp'))) → va_S (Ah s) s.heap H locs → lv_has ls 10 (LOC a b j) → W p l e room_1 s m #[Value.ref b] below meth c H locs (cells + 1) (slots + 6) Q (F0 m 1124 ls []))) :
    W p l e room_1 s m #[Value.ref b] below meth c H locs cells slots Q (F0 m 536 ls []) := by
  obtain ⟨hx, hb, hml, hown, hts, hK, hX, hH, hst, hXs, hbl, hL⟩ := C
  have hA : ∀ q : Nat, s.heap.size ≤ q → Ah s q := fun _ h => h
  have hbA : ¬ Ah s b := Nat.not_le.mpr hbl
  have hc0 : cells + 0 ≤ room_1.cells := by omega
  have hs0 : slots + 0 ≤ room_1.slots := by omega
  have hl : lv_has ls 10 [(5, .int (nI j)), (4, .ref a.od), (3, .ref a.ol), (2, .ref a.y), (1, .ref a.x), (0, .ref b)] := hl
  refine lv_aload_n hx hb dL_law_536 rfl (lv_at hl 4 rfl) ?_
  refine kr_i (W.runV (As := []) (rest := []) ⟨hx, hb, hml, hown, hts⟩ (metX2_barrels l D a.x a.r a.t a.d yg a.la a.bs a.cA a.cI n hn wm df q wd zs h (TRa a dk u) ) (cwV 0 hts gL_law_X2_barrels rfl rfl rfl (by decide +kernel) ⟨Nat.le_of_ble_eq_true rfl, Nat.le_of_ble_eq_true rfl⟩) (prV 2 0 RX2 TX2 4 rfl rfl (vj_mP (w1 := OUa a fl fd) (w2 := LOa a n wm df yg q wd zs h dk u) (w3 := MOa a n wm df yg q wd zs h dk th kp) hP) (hK.sub [0, 1] rfl)) rfl rfl hl.1 rfl (lv_room (Nat.le_of_ble_eq_true rfl)) dL_law_537 ⟨hc0, hs0⟩) ?_
  refine lv_aload_n hx hb dL_law_540 rfl (lv_at hl 3 rfl) ?_
  have hP3 : va_P D vwCl ((OUa a fl fd ++ LOa a n wm df yg q wd zs h dk u) ++ (MOa a n wm df yg q wd zs h dk th kp ++ [])) H := by rw [← f13]; exact hP
  have hD3 : va_D (Ah s) ((OUa a fl fd ++ LOa a n wm df yg q wd zs h dk u) ++ (MOa a n wm df yg q wd zs h dk th kp ++ [])) := by rw [← f13]; exact hD
  refine kc_i (w1 := OUa a fl fd ++ LOa a n wm df yg q wd zs h dk u) (w3 := []) (va_runV (As := []) (rest := [.int (nI n)]) ⟨hx, hb, hml, hown, hts⟩ (metX3_barrels l D H.size a.y a.aw a.az a.ah a.ak a.cI a.cD n hn wm yg q df (dk 0) (dk 1) (dk 2) th wd zs h kp ) (cwV 0 hts gL_law_X3_barrels rfl rfl rfl (by decide +kernel) ⟨Nat.le_of_ble_eq_true rfl, Nat.le_of_ble_eq_true rfl⟩) (pmV 3 0 RX3 TX3 13 rfl rfl (vj_mP hP3) (hK.sub [1, 3] rfl) (vj_mD hD3)) rfl rfl hl.1 rfl (lv_room (Nat.le_of_ble_eq_true rfl)) dL_law_541 ⟨hc0, hs0⟩) hP3 hD3 hS hA (fun H locs hP hD hS => ?_)
  rw [← f13] at hP hD
  have hP : va_P D vwCl (OUa a fl fd ++ (LOa a n wm df yg q wd zs h dk u ++ MOa a n wm df yg q wd zs h dk 0 kp)) H := hP
  have hD : va_D (Ah s) (OUa a fl fd ++ (LOa a n wm df yg q wd zs h dk u ++ MOa a n wm df yg q wd zs h dk 0 kp)) := hD
  refine lv_icmp_eq (tgt := 1124) hx hb dL_law_544 (by decide) (fun c544 => ?_) (fun c544 => absurd rfl c544)
  refine W.widen (k := cells + 1) (n := slots + 6) (by omega) (by omega) ?_
  exact kk H locs ls 0 kp fl fd hP hD hS (lv_sub hl [0, 1, 2, 3, 4, 5] rfl)

set_option maxHeartbeats 4000000 in
set_option maxRecDepth 100000 in
theorem lawc_13 {p : Program} {l : Launch} {e : Env} {s : State} {m : MethodId} {below : List Frame} {meth : Method} {c : Code} {H : Heap} {locs : List Loc} {cells slots : Nat} {Q : State → Prop} {D : va_G} {b L : Nat} {xs : Nat → Int32} {a : AD} {ls : Array Slot} (C : LC p l s m c D b L xs a) (n : Nat) (hn : n ≤ 8) (wm df yg : Int32) (q : UInt64) (wd zs : Nat → Int32) (h : Nat → UInt64) (dk : Nat → Int32) (u : TRW) (th : Int32) (kp : Nat → UInt64) (fl : Nat → Int64) (fd : Nat → UInt64) {j : Nat} (hj : j + 2 < L) (hN : NNr n h)
    (hP : va_P D vwCl (OUa a fl fd ++ (LOa a n wm df yg q wd zs h dk u ++ MOa a n wm df yg q wd zs h dk th kp)) H) (hD : va_D (Ah s) (OUa a fl fd ++ (LOa a n wm df yg q wd zs h dk u ++ MOa a n wm df yg q wd zs h dk th kp))) (hS : va_S (Ah s) s.heap H locs) (hl : lv_has ls 10 (LOC a b j)) (hc1 : cells + 1 ≤ room_1.cells) (hs1 : slots + 6 ≤ room_1.slots)
    (kk : (∀ (H : Heap) (locs : List Loc) (ls : Array Slot) (th' : Int32) (kp' : Nat → UInt64) (fl' : Nat → Int64) (fd' : Nat → UInt64), va_P D vwCl (OUa a (fl') (fd') ++ (LOa a n wm df yg q wd zs h dk u ++ MOa a n wm df yg q wd zs h dk (th') (kp'))) H → va_D (Ah s) (OUa a (fl') (fd') ++ (LOa a n wm df yg q wd zs h dk u ++ MOa a n wm df yg q wd zs h dk (th') (kp'))) → va_S (Ah s) s.heap H locs → lv_has ls 10 (LOC a b j) → W p l e room_1 s m #[Value.ref b] below meth c H locs (cells + 1) (slots + 6) Q (F0 m 1124 ls []))) :
    W p l e room_1 s m #[Value.ref b] below meth c H locs cells slots Q (F0 m 934 ls []) := by
  obtain ⟨hx, hb, hml, hown, hts, hK, hX, hH, hst, hXs, hbl, hL⟩ := C
  have hA : ∀ q : Nat, s.heap.size ≤ q → Ah s q := fun _ h => h
  have hbA : ¬ Ah s b := Nat.not_le.mpr hbl
  have hc0 : cells + 0 ≤ room_1.cells := by omega
  have hs0 : slots + 0 ≤ room_1.slots := by omega
  have hl : lv_has ls 10 [(5, .int (nI j)), (4, .ref a.od), (3, .ref a.ol), (2, .ref a.y), (1, .ref a.x), (0, .ref b)] := hl
  refine lv_aload_n hx hb dL_law_934 rfl (lv_at hl 4 rfl) ?_
  refine kr_i (W.runV (As := []) (rest := []) ⟨hx, hb, hml, hown, hts⟩ (metX2_oldest l D a.x a.r a.t a.d yg a.la a.bs a.cA a.cI n hn wm df q wd zs h (TRa a dk u) hN) (cwV 0 hts gL_law_X2_oldest rfl rfl rfl (by decide +kernel) ⟨Nat.le_of_ble_eq_true rfl, Nat.le_of_ble_eq_true rfl⟩) (prV 2 0 RX2 TX2 4 rfl rfl (vj_mP (w1 := OUa a fl fd) (w2 := LOa a n wm df yg q wd zs h dk u) (w3 := MOa a n wm df yg q wd zs h dk th kp) hP) (hK.sub [0, 1] rfl)) rfl rfl hl.1 rfl (lv_room (Nat.le_of_ble_eq_true rfl)) dL_law_935 ⟨hc0, hs0⟩) ?_
  refine lv_aload_n hx hb dL_law_938 rfl (lv_at hl 3 rfl) ?_
  have hP3 : va_P D vwCl ((OUa a fl fd ++ LOa a n wm df yg q wd zs h dk u) ++ (MOa a n wm df yg q wd zs h dk th kp ++ [])) H := by rw [← f13]; exact hP
  have hD3 : va_D (Ah s) ((OUa a fl fd ++ LOa a n wm df yg q wd zs h dk u) ++ (MOa a n wm df yg q wd zs h dk th kp ++ [])) := by rw [← f13]; exact hD
  refine kc_i (w1 := OUa a fl fd ++ LOa a n wm df yg q wd zs h dk u) (w3 := []) (va_runV (As := []) (rest := [.int (encO (elO h n))]) ⟨hx, hb, hml, hown, hts⟩ (metX3_oldest l D H.size a.y a.aw a.az a.ah a.ak a.cI a.cD n hn wm yg q df (dk 0) (dk 1) (dk 2) th wd zs h kp hN) (cwV 0 hts gL_law_X3_oldest rfl rfl rfl (by decide +kernel) ⟨Nat.le_of_ble_eq_true rfl, Nat.le_of_ble_eq_true rfl⟩) (pmV 3 0 RX3 TX3 13 rfl rfl (vj_mP hP3) (hK.sub [1, 3] rfl) (vj_mD hD3)) rfl rfl hl.1 rfl (lv_room (Nat.le_of_ble_eq_true rfl)) dL_law_939 ⟨hc0, hs0⟩) hP3 hD3 hS hA (fun H locs hP hD hS => ?_)
  rw [← f13] at hP hD
  have hP : va_P D vwCl (OUa a fl fd ++ (LOa a n wm df yg q wd zs h dk u ++ MOa a n wm df yg q wd zs h dk 0 kp)) H := hP
  have hD : va_D (Ah s) (OUa a fl fd ++ (LOa a n wm df yg q wd zs h dk u ++ MOa a n wm df yg q wd zs h dk 0 kp)) := hD
  refine lv_icmp_eq (tgt := 1124) hx hb dL_law_942 (by decide) (fun c942 => ?_) (fun c942 => absurd rfl c942)
  refine W.widen (k := cells + 1) (n := slots + 6) (by omega) (by omega) ?_
  exact kk H locs ls 0 kp fl fd hP hD hS (lv_sub hl [0, 1, 2, 3, 4, 5] rfl)

set_option maxHeartbeats 4000000 in
set_option maxRecDepth 100000 in
theorem lawc_14 {p : Program} {l : Launch} {e : Env} {s : State} {m : MethodId} {below : List Frame} {meth : Method} {c : Code} {H : Heap} {locs : List Loc} {cells slots : Nat} {Q : State → Prop} {D : va_G} {b L : Nat} {xs : Nat → Int32} {a : AD} {ls : Array Slot} (C : LC p l s m c D b L xs a) (n : Nat) (hn : n ≤ 8) (wm df yg : Int32) (q : UInt64) (wd zs : Nat → Int32) (h : Nat → UInt64) (dk : Nat → Int32) (u : TRW) (th : Int32) (kp : Nat → UInt64) (fl : Nat → Int64) (fd : Nat → UInt64) {j : Nat} (hj : j + 2 < L) (hN : NNr n h) (hrd : rdok h n q) (hrm : rdM h n df q)
    (hP : va_P D vwCl (OUa a fl fd ++ (LOa a n wm df yg q wd zs h dk u ++ MOa a n wm df yg q wd zs h dk th kp)) H) (hD : va_D (Ah s) (OUa a fl fd ++ (LOa a n wm df yg q wd zs h dk u ++ MOa a n wm df yg q wd zs h dk th kp))) (hS : va_S (Ah s) s.heap H locs) (hl : lv_has ls 10 (LOC a b j)) (hc1 : cells + 1 ≤ room_1.cells) (hs1 : slots + 6 ≤ room_1.slots)
    (kk : (∀ (H : Heap) (locs : List Loc) (ls : Array Slot) (th' : Int32) (kp' : Nat → UInt64) (fl' : Nat → Int64) (fd' : Nat → UInt64), va_P D vwCl (OUa a (fl') (fd') ++ (LOa a n wm df yg q wd zs h dk u ++ MOa a n wm df yg q wd zs h dk (th') (kp'))) H → va_D (Ah s) (OUa a (fl') (fd') ++ (LOa a n wm df yg q wd zs h dk u ++ MOa a n wm df yg q wd zs h dk (th') (kp'))) → va_S (Ah s) s.heap H locs → lv_has ls 10 (LOC a b j) → W p l e room_1 s m #[Value.ref b] below meth c H locs (cells + 1) (slots + 6) Q (F0 m 1124 ls []))) :
    W p l e room_1 s m #[Value.ref b] below meth c H locs cells slots Q (F0 m 947 ls []) := by
  obtain ⟨hx, hb, hml, hown, hts, hK, hX, hH, hst, hXs, hbl, hL⟩ := C
  have hA : ∀ q : Nat, s.heap.size ≤ q → Ah s q := fun _ h => h
  have hbA : ¬ Ah s b := Nat.not_le.mpr hbl
  have hc0 : cells + 0 ≤ room_1.cells := by omega
  have hs0 : slots + 0 ≤ room_1.slots := by omega
  have hl : lv_has ls 10 [(5, .int (nI j)), (4, .ref a.od), (3, .ref a.ol), (2, .ref a.y), (1, .ref a.x), (0, .ref b)] := hl
  refine lv_aload_n hx hb dL_law_947 rfl (lv_at hl 4 rfl) ?_
  refine kr_i (W.runV (As := []) (rest := []) ⟨hx, hb, hml, hown, hts⟩ (metX2_drawable l D a.x a.r a.t a.d yg a.la a.bs a.cA a.cI n hn wm df q wd zs h (TRa a dk u) hN hrd) (cwV 0 hts gL_law_X2_drawable rfl rfl rfl (by decide +kernel) ⟨Nat.le_of_ble_eq_true rfl, Nat.le_of_ble_eq_true rfl⟩) (prV 2 0 RX2 TX2 4 rfl rfl (vj_mP (w1 := OUa a fl fd) (w2 := LOa a n wm df yg q wd zs h dk u) (w3 := MOa a n wm df yg q wd zs h dk th kp) hP) (hK.sub [0, 1] rfl)) rfl rfl hl.1 rfl (lv_room (Nat.le_of_ble_eq_true rfl)) dL_law_948 ⟨hc0, hs0⟩) ?_
  refine lv_aload_n hx hb dL_law_951 rfl (lv_at hl 3 rfl) ?_
  have hP3 : va_P D vwCl ((OUa a fl fd ++ LOa a n wm df yg q wd zs h dk u) ++ (MOa a n wm df yg q wd zs h dk th kp ++ [])) H := by rw [← f13]; exact hP
  have hD3 : va_D (Ah s) ((OUa a fl fd ++ LOa a n wm df yg q wd zs h dk u) ++ (MOa a n wm df yg q wd zs h dk th kp ++ [])) := by rw [← f13]; exact hD
  refine kc_i (w1 := OUa a fl fd ++ LOa a n wm df yg q wd zs h dk u) (w3 := []) (va_runV (As := []) (rest := [.int (rdv h n df q)]) ⟨hx, hb, hml, hown, hts⟩ (metX3_drawable l D H.size a.y a.aw a.az a.ah a.ak a.cI a.cD n hn wm yg q df (dk 0) (dk 1) (dk 2) th wd zs h kp hN hrd hrm) (cwV 0 hts gL_law_X3_drawable rfl rfl rfl (by decide +kernel) ⟨Nat.le_of_ble_eq_true rfl, Nat.le_of_ble_eq_true rfl⟩) (pmV 3 0 RX3 TX3 13 rfl rfl (vj_mP hP3) (hK.sub [1, 3] rfl) (vj_mD hD3)) rfl rfl hl.1 rfl (lv_room (Nat.le_of_ble_eq_true rfl)) dL_law_952 ⟨hc0, hs0⟩) hP3 hD3 hS hA (fun H locs hP hD hS => ?_)
  rw [← f13] at hP hD
  have hP : va_P D vwCl (OUa a fl fd ++ (LOa a n wm df yg q wd zs h dk u ++ MOa a n wm df yg q wd zs h dk 0 kp)) H := hP
  have hD : va_D (Ah s) (OUa a fl fd ++ (LOa a n wm df yg q wd zs h dk u ++ MOa a n wm df yg q wd zs h dk 0 kp)) := hD
  refine lv_icmp_eq (tgt := 1124) hx hb dL_law_955 (by decide) (fun c955 => ?_) (fun c955 => absurd rfl c955)
  refine W.widen (k := cells + 1) (n := slots + 6) (by omega) (by omega) ?_
  exact kk H locs ls 0 kp fl fd hP hD hS (lv_sub hl [0, 1, 2, 3, 4, 5] rfl)

set_option maxHeartbeats 4000000 in
set_option maxRecDepth 100000 in
theorem lawc_16 {p : Program} {l : Launch} {e : Env} {s : State} {m : MethodId} {below : List Frame} {meth : Method} {c : Code} {H : Heap} {locs : List Loc} {cells slots : Nat} {Q : State → Prop} {D : va_G} {b L : Nat} {xs : Nat → Int32} {a : AD} {ls : Array Slot} (C : LC p l s m c D b L xs a) (n : Nat) (hn : n ≤ 8) (wm df yg : Int32) (q : UInt64) (wd zs : Nat → Int32) (h : Nat → UInt64) (dk : Nat → Int32) (u : TRW) (th : Int32) (kp : Nat → UInt64) (fl : Nat → Int64) (fd : Nat → UInt64) {j : Nat} (hj : j + 2 < L) 
    (hP : va_P D vwCl (OUa a fl fd ++ (LOa a n wm df yg q wd zs h dk u ++ MOa a n wm df yg q wd zs h dk th kp)) H) (hD : va_D (Ah s) (OUa a fl fd ++ (LOa a n wm df yg q wd zs h dk u ++ MOa a n wm df yg q wd zs h dk th kp))) (hS : va_S (Ah s) s.heap H locs) (hl : lv_has ls 10 (LOC a b j)) (hc1 : cells + 1 ≤ room_1.cells) (hs1 : slots + 6 ≤ room_1.slots)
    (kk : (∀ (H : Heap) (locs : List Loc) (ls : Array Slot) (th' : Int32) (kp' : Nat → UInt64) (fl' : Nat → Int64) (fd' : Nat → UInt64), va_P D vwCl (OUa a (fl') (fd') ++ (LOa a n wm df yg q wd zs h dk u ++ MOa a n wm df yg q wd zs h dk (th') (kp'))) H → va_D (Ah s) (OUa a (fl') (fd') ++ (LOa a n wm df yg q wd zs h dk u ++ MOa a n wm df yg q wd zs h dk (th') (kp'))) → va_S (Ah s) s.heap H locs → lv_has ls 10 (LOC a b j) → W p l e room_1 s m #[Value.ref b] below meth c H locs (cells + 1) (slots + 6) Q (F0 m 1124 ls []))) :
    W p l e room_1 s m #[Value.ref b] below meth c H locs cells slots Q (F0 m 1016 ls []) := by
  obtain ⟨hx, hb, hml, hown, hts, hK, hX, hH, hst, hXs, hbl, hL⟩ := C
  have hA : ∀ q : Nat, s.heap.size ≤ q → Ah s q := fun _ h => h
  have hbA : ¬ Ah s b := Nat.not_le.mpr hbl
  have hc0 : cells + 0 ≤ room_1.cells := by omega
  have hs0 : slots + 0 ≤ room_1.slots := by omega
  have hl : lv_has ls 10 [(5, .int (nI j)), (4, .ref a.od), (3, .ref a.ol), (2, .ref a.y), (1, .ref a.x), (0, .ref b)] := hl
  refine lv_aload_n hx hb dL_law_1016 rfl (lv_at hl 4 rfl) ?_
  refine kr_i (W.runV (As := []) (rest := []) ⟨hx, hb, hml, hown, hts⟩ (metX2_years l D a.x a.r a.t a.d yg a.la a.bs a.cA a.cI n hn wm df q wd zs h (TRa a dk u) ) (cwV 0 hts gL_law_X2_years rfl rfl rfl (by decide +kernel) ⟨Nat.le_of_ble_eq_true rfl, Nat.le_of_ble_eq_true rfl⟩) (prV 2 0 RX2 TX2 4 rfl rfl (vj_mP (w1 := OUa a fl fd) (w2 := LOa a n wm df yg q wd zs h dk u) (w3 := MOa a n wm df yg q wd zs h dk th kp) hP) (hK.sub [0, 1] rfl)) rfl rfl hl.1 rfl (lv_room (Nat.le_of_ble_eq_true rfl)) dL_law_1017 ⟨hc0, hs0⟩) ?_
  refine lv_aload_n hx hb dL_law_1020 rfl (lv_at hl 3 rfl) ?_
  have hP3 : va_P D vwCl ((OUa a fl fd ++ LOa a n wm df yg q wd zs h dk u) ++ (MOa a n wm df yg q wd zs h dk th kp ++ [])) H := by rw [← f13]; exact hP
  have hD3 : va_D (Ah s) ((OUa a fl fd ++ LOa a n wm df yg q wd zs h dk u) ++ (MOa a n wm df yg q wd zs h dk th kp ++ [])) := by rw [← f13]; exact hD
  refine kc_i (w1 := OUa a fl fd ++ LOa a n wm df yg q wd zs h dk u) (w3 := []) (va_runV (As := []) (rest := [.int yg]) ⟨hx, hb, hml, hown, hts⟩ (metX3_years l D H.size a.y a.aw a.az a.ah a.ak a.cI a.cD n hn wm yg q df (dk 0) (dk 1) (dk 2) th wd zs h kp ) (cwV 0 hts gL_law_X3_years rfl rfl rfl (by decide +kernel) ⟨Nat.le_of_ble_eq_true rfl, Nat.le_of_ble_eq_true rfl⟩) (pmV 3 0 RX3 TX3 13 rfl rfl (vj_mP hP3) (hK.sub [1, 3] rfl) (vj_mD hD3)) rfl rfl hl.1 rfl (lv_room (Nat.le_of_ble_eq_true rfl)) dL_law_1021 ⟨hc0, hs0⟩) hP3 hD3 hS hA (fun H locs hP hD hS => ?_)
  rw [← f13] at hP hD
  have hP : va_P D vwCl (OUa a fl fd ++ (LOa a n wm df yg q wd zs h dk u ++ MOa a n wm df yg q wd zs h dk 0 kp)) H := hP
  have hD : va_D (Ah s) (OUa a fl fd ++ (LOa a n wm df yg q wd zs h dk u ++ MOa a n wm df yg q wd zs h dk 0 kp)) := hD
  refine lv_icmp_eq (tgt := 1124) hx hb dL_law_1024 (by decide) (fun c1024 => ?_) (fun c1024 => absurd rfl c1024)
  refine W.widen (k := cells + 1) (n := slots + 6) (by omega) (by omega) ?_
  exact kk H locs ls 0 kp fl fd hP hD hS (lv_sub hl [0, 1, 2, 3, 4, 5] rfl)

set_option maxHeartbeats 4000000 in
set_option maxRecDepth 100000 in
theorem lawc_8 {p : Program} {l : Launch} {e : Env} {s : State} {m : MethodId} {below : List Frame} {meth : Method} {c : Code} {H : Heap} {locs : List Loc} {cells slots : Nat} {Q : State → Prop} {D : va_G} {b L : Nat} {xs : Nat → Int32} {a : AD} {ls : Array Slot} (C : LC p l s m c D b L xs a) (n : Nat) (hn : n ≤ 8) (wm df yg : Int32) (q : UInt64) (wd zs : Nat → Int32) (h : Nat → UInt64) (dk : Nat → Int32) (u : TRW) (th : Int32) (kp : Nat → UInt64) (fl : Nat → Int64) (fd : Nat → UInt64) {j : Nat} (hj : j + 2 < L) 
    (hP : va_P D vwCl (OUa a fl fd ++ (LOa a n wm df yg q wd zs h dk u ++ MOa a n wm df yg q wd zs h dk th kp)) H) (hD : va_D (Ah s) (OUa a fl fd ++ (LOa a n wm df yg q wd zs h dk u ++ MOa a n wm df yg q wd zs h dk th kp))) (hS : va_S (Ah s) s.heap H locs) (hl : lv_has ls 10 (LOC a b j)) (hc1 : cells + 1 ≤ room_1.cells) (hs1 : slots + 6 ≤ room_1.slots)
    (kk : (∀ (H : Heap) (locs : List Loc) (ls : Array Slot) (th' : Int32) (kp' : Nat → UInt64) (fl' : Nat → Int64) (fd' : Nat → UInt64), va_P D vwCl (OUa a (fl') (fd') ++ (LOa a n wm df yg q wd zs h dk u ++ MOa a n wm df yg q wd zs h dk (th') (kp'))) H → va_D (Ah s) (OUa a (fl') (fd') ++ (LOa a n wm df yg q wd zs h dk u ++ MOa a n wm df yg q wd zs h dk (th') (kp'))) → va_S (Ah s) s.heap H locs → lv_has ls 10 (LOC a b j) → W p l e room_1 s m #[Value.ref b] below meth c H locs (cells + 1) (slots + 6) Q (F0 m 1124 ls []))) :
    W p l e room_1 s m #[Value.ref b] below meth c H locs cells slots Q (F0 m 549 ls []) := by
  obtain ⟨hx, hb, hml, hown, hts, hK, hX, hH, hst, hXs, hbl, hL⟩ := C
  have hA : ∀ q : Nat, s.heap.size ≤ q → Ah s q := fun _ h => h
  have hbA : ¬ Ah s b := Nat.not_le.mpr hbl
  have hc0 : cells + 0 ≤ room_1.cells := by omega
  have hs0 : slots + 0 ≤ room_1.slots := by omega
  have hl : lv_has ls 10 [(5, .int (nI j)), (4, .ref a.od), (3, .ref a.ol), (2, .ref a.y), (1, .ref a.x), (0, .ref b)] := hl
  refine lv_aload_n hx hb dL_law_549 rfl (lv_at hl 4 rfl) ?_
  refine lv_aload_n hx hb dL_law_550 rfl (lv_at hl 5 rfl) ?_
  refine lv_iload hx hb dL_law_551 (lv_at hl 0 rfl) ?_
  refine lv_iconst (v := 1) hx hb dL_law_553 (by decide) ?_
  refine lv_iadd hx hb dL_law_554 ?_
  refine kx_sld hx hb hXs hbl hbA hS (j := j + 1) (nI_1 j) (by omega) hL dL_law_555 ?_
  refine lv_aload hx hb dL_law_556 (lv_at hl 1 rfl) ?_
  have hP2 : va_P D vwCl ([] ++ ((OUa a fl fd ++ LOa a n wm df yg q wd zs h dk u) ++ MOa a n wm df yg q wd zs h dk th kp)) H := by rw [← f12]; exact hP
  have hD2 : va_D (Ah s) ([] ++ ((OUa a fl fd ++ LOa a n wm df yg q wd zs h dk u) ++ MOa a n wm df yg q wd zs h dk th kp)) := by rw [← f12]; exact hD
  have hX9 : XP (Ah s) s H := hX.kept hS.2.1
  have hA9 : ∀ q : Nat, H.size ≤ q → Ah s q := fun q h9 => hA q (Nat.le_trans hS.1 h9)
  refine kh_i (w1 := []) (w3 := MOa a n wm df yg q wd zs h dk th kp) (vx_runSW (As := [.ref a.x, .int (xs (j + 1)), .ref a.od]) (rest := []) ⟨hx, hb, hml, hown, hts⟩ (metL_litresIn l hst D H.size a.x a.r a.t a.d yg a.la a.bs a.cA a.cI n hn wm df q wd zs h (TRa a dk u) a.ol a.od a.cL a.cD fl fd (xs (j + 1)) ) (vx_cwSW 3 hts gL_law_L_litresIn rfl rfl rfl (by decide +kernel) ⟨Nat.le_of_ble_eq_true rfl, Nat.le_of_ble_eq_true rfl⟩) (phS (vj_mP hP2) hK (vj_mD hD2) hX9 hH hA9) rfl rfl hl.1 rfl (lv_room (Nat.le_of_ble_eq_true rfl)) dL_law_558 ⟨hc1, hs1⟩) hP2 hD2 hS hA (fun r9 W9 H locs hp9 hP hD hS => ?_)
  rcases hp9 with ⟨hok9, rfl, rfl⟩ | ⟨hbad9, rfl, rfl⟩
  · rw [← f12] at hP hD
    have hP : va_P D vwCl (OUa a fl (vf_upd fd 0 (h ((xs (j + 1))).toNatClampNeg)) ++ (LOa a n wm df yg q wd zs h dk u ++ MOa a n wm df yg q wd zs h dk th kp)) H := hP
    have hD : va_D (Ah s) (OUa a fl (vf_upd fd 0 (h ((xs (j + 1))).toNatClampNeg)) ++ (LOa a n wm df yg q wd zs h dk u ++ MOa a n wm df yg q wd zs h dk th kp)) := hD
    refine lv_istore (lv' := [(6, .int 0), (5, .int (nI j)), (4, .ref a.od), (3, .ref a.ol), (2, .ref a.y), (1, .ref a.x), (0, .ref b)]) hx hb dL_law_561 hl (by decide) rfl (fun ls hl => ?_)
    refine lv_aload_n hx hb dL_law_563 rfl (lv_at hl 4 rfl) ?_
    refine lv_aload_n hx hb dL_law_564 rfl (lv_at hl 6 rfl) ?_
    refine lv_iload hx hb dL_law_565 (lv_at hl 1 rfl) ?_
    refine lv_iconst (v := 1) hx hb dL_law_567 (by decide) ?_
    refine lv_iadd hx hb dL_law_568 ?_
    refine kx_sld hx hb hXs hbl hbA hS (j := j + 1) (nI_1 j) (by omega) hL dL_law_569 ?_
    have hP3 : va_P D vwCl ((OUa a fl (vf_upd fd 0 (h ((xs (j + 1))).toNatClampNeg)) ++ LOa a n wm df yg q wd zs h dk u) ++ (MOa a n wm df yg q wd zs h dk th kp ++ [])) H := by rw [← f13]; exact hP
    have hD3 : va_D (Ah s) ((OUa a fl (vf_upd fd 0 (h ((xs (j + 1))).toNatClampNeg)) ++ LOa a n wm df yg q wd zs h dk u) ++ (MOa a n wm df yg q wd zs h dk th kp ++ [])) := by rw [← f13]; exact hD
    refine kc_d (w1 := OUa a fl (vf_upd fd 0 (h ((xs (j + 1))).toNatClampNeg)) ++ LOa a n wm df yg q wd zs h dk u) (w3 := []) (va_runV (As := [.int (xs (j + 1))]) (rest := []) ⟨hx, hb, hml, hown, hts⟩ (metX3_litresIn l D H.size a.y a.aw a.az a.ah a.ak a.cI a.cD n hn wm yg q df (dk 0) (dk 1) (dk 2) th wd zs h kp (xs (j + 1))) (cwV 1 hts gL_law_X3_litresIn rfl rfl rfl (by decide +kernel) ⟨Nat.le_of_ble_eq_true rfl, Nat.le_of_ble_eq_true rfl⟩) (pmV 3 0 RX3 TX3 13 rfl rfl (vj_mP hP3) (hK.sub [1, 3] rfl) (vj_mD hD3)) rfl rfl hl.1 rfl (lv_room (Nat.le_of_ble_eq_true rfl)) dL_law_570 ⟨hc1, hs1⟩) hP3 hD3 hS hA (fun H locs hP hD hS => ?_)
    rw [← f13] at hP hD
    have e9 : thI n (xs (j + 1)) = 0 := thI_n hok9
    rw [e9] at hP hD
    try simp only [if_pos (rfl : (0 : Int32) = 0)] at hP hD
    have hP : va_P D vwCl (OUa a fl (vf_upd fd 0 (h ((xs (j + 1))).toNatClampNeg)) ++ (LOa a n wm df yg q wd zs h dk u ++ MOa a n wm df yg q wd zs h dk 0 kp)) H := hP
    have hD : va_D (Ah s) (OUa a fl (vf_upd fd 0 (h ((xs (j + 1))).toNatClampNeg)) ++ (LOa a n wm df yg q wd zs h dk u ++ MOa a n wm df yg q wd zs h dk 0 kp)) := hD
    refine kd_eq (show (if thI n (xs (j + 1)) = 0 then h (0 + ((xs (j + 1))).toNatClampNeg) else 0) = h ((xs (j + 1))).toNatClampNeg from by rw [e9, if_pos rfl]; simp only [Nat.zero_add]) ?_
    refine lv_dstore (lv' := [(7, .double (h ((xs (j + 1))).toNatClampNeg)), (6, .int 0), (5, .int (nI j)), (4, .ref a.od), (3, .ref a.ol), (2, .ref a.y), (1, .ref a.x), (0, .ref b)]) hx hb dL_law_573 hl (by decide) rfl (fun ls hl => ?_)
    refine lv_aload_n hx hb dL_law_575 rfl (lv_at hl 5 rfl) ?_
    have hP3 : va_P D vwCl ((OUa a fl (vf_upd fd 0 (h ((xs (j + 1))).toNatClampNeg)) ++ LOa a n wm df yg q wd zs h dk u) ++ (MOa a n wm df yg q wd zs h dk 0 kp ++ [])) H := by rw [← f13]; exact hP
    refine kr_i (W.runV (As := []) (rest := []) ⟨hx, hb, hml, hown, hts⟩ (metX3_thrown l D a.y a.aw a.az a.ah a.ak a.cI a.cD n hn wm yg q df (dk 0) (dk 1) (dk 2) 0 wd zs h kp ) (cwV 0 hts gL_law_X3_thrown rfl rfl rfl (by decide +kernel) ⟨Nat.le_of_ble_eq_true rfl, Nat.le_of_ble_eq_true rfl⟩) (prV 3 0 RX3 TX3 13 rfl rfl (vj_mP hP3) (hK.sub [1, 3] rfl)) rfl rfl hl.1 rfl (lv_room (Nat.le_of_ble_eq_true rfl)) dL_law_576 ⟨hc1, hs1⟩) ?_
    refine lv_iload hx hb dL_law_579 (lv_at hl 1 rfl) ?_
    refine lv_icmp_eq (tgt := 586) hx hb dL_law_581 (by decide) (fun c581 => ?_) (fun c581 => absurd rfl c581)
    refine lv_iload hx hb dL_law_586 (lv_at hl 1 rfl) ?_
    refine lv_if_ne (tgt := 623) hx hb dL_law_588 (by decide) (fun c588 => absurd c588 (fun h9 => h9 rfl)) (fun c588 => ?_)
    refine lv_aload hx hb dL_law_591 (lv_at hl 3 rfl) ?_
    refine lv_iconst (v := 0) hx hb dL_law_593 (by decide) ?_
    refine kx_dald hx hb hK (ws := OUa a fl (vf_upd fd 0 (h ((xs (j + 1))).toNatClampNeg)) ++ (LOa a n wm df yg q wd zs h dk u ++ MOa a n wm df yg q wd zs h dk 0 kp)) hP 1 3 (f := vf_upd fd 0 (h ((xs (j + 1))).toNatClampNeg)) rfl rfl (j := 0) rfl (by decide) (by decide) dL_law_594 ?_
    refine kd_eq (vu_s : (vf_upd fd 0 (h ((xs (j + 1))).toNatClampNeg)) 0 = h ((xs (j + 1))).toNatClampNeg) ?_
    refine lv_dload hx hb dL_law_595 (lv_at hl 0 rfl) ?_
    by_cases cv : Op.cmpValue (FP.dcmp (h ((xs (j + 1))).toNatClampNeg) (h ((xs (j + 1))).toNatClampNeg)) .l = 0
    · refine lv_dcmp hx hb dL_law_597 ?_
      refine lv_if_eq (tgt := 623) hx hb dL_law_598 (by decide) (fun _ => ?_) (fun h9 => absurd cv h9)
      refine lv_goto (tgt := 1124) hx hb dL_law_623 (by decide) ?_
      refine W.widen (k := cells + 1) (n := slots + 6) (by omega) (by omega) ?_
      exact kk H locs ls 0 kp fl (vf_upd fd 0 (h ((xs (j + 1))).toNatClampNeg)) hP hD hS (lv_sub hl [2, 3, 4, 5, 6, 7] rfl)
    · refine lv_dcmp hx hb dL_law_597 ?_
      refine lv_if_eq (tgt := 623) hx hb dL_law_598 (by decide) (fun h9 => absurd h9 cv) (fun _ => ?_)
      refine lv_aload hx hb dL_law_601 (lv_at hl 3 rfl) ?_
      refine lv_iconst (v := 0) hx hb dL_law_603 (by decide) ?_
      refine kx_dald hx hb hK (ws := OUa a fl (vf_upd fd 0 (h ((xs (j + 1))).toNatClampNeg)) ++ (LOa a n wm df yg q wd zs h dk u ++ MOa a n wm df yg q wd zs h dk 0 kp)) hP 1 3 (f := vf_upd fd 0 (h ((xs (j + 1))).toNatClampNeg)) rfl rfl (j := 0) rfl (by decide) (by decide) dL_law_604 ?_
      refine kd_eq (vu_s : (vf_upd fd 0 (h ((xs (j + 1))).toNatClampNeg)) 0 = h ((xs (j + 1))).toNatClampNeg) ?_
      refine lv_aload hx hb dL_law_605 (lv_at hl 3 rfl) ?_
      refine lv_iconst (v := 0) hx hb dL_law_607 (by decide) ?_
      refine kx_dald hx hb hK (ws := OUa a fl (vf_upd fd 0 (h ((xs (j + 1))).toNatClampNeg)) ++ (LOa a n wm df yg q wd zs h dk u ++ MOa a n wm df yg q wd zs h dk 0 kp)) hP 1 3 (f := vf_upd fd 0 (h ((xs (j + 1))).toNatClampNeg)) rfl rfl (j := 0) rfl (by decide) (by decide) dL_law_608 ?_
      refine kd_eq (vu_s : (vf_upd fd 0 (h ((xs (j + 1))).toNatClampNeg)) 0 = h ((xs (j + 1))).toNatClampNeg) ?_
      refine lv_dcmp hx hb dL_law_609 ?_
      refine lv_if_eq (tgt := 621) hx hb dL_law_610 (by decide) (fun h9 => absurd h9 cv) (fun _ => ?_)
      refine lv_dload hx hb dL_law_613 (lv_at hl 0 rfl) ?_
      refine lv_dload hx hb dL_law_615 (lv_at hl 0 rfl) ?_
      refine lv_dcmp hx hb dL_law_617 ?_
      refine lv_if_ne (tgt := 623) hx hb dL_law_618 (by decide) (fun _ => ?_) (fun h9 => absurd h9 cv)
      refine lv_goto (tgt := 1124) hx hb dL_law_623 (by decide) ?_
      refine W.widen (k := cells + 1) (n := slots + 6) (by omega) (by omega) ?_
      exact kk H locs ls 0 kp fl (vf_upd fd 0 (h ((xs (j + 1))).toNatClampNeg)) hP hD hS (lv_sub hl [2, 3, 4, 5, 6, 7] rfl)
  · rw [← f12] at hP hD
    have hP : va_P D vwCl (OUa a fl fd ++ (LOa a n wm df yg q wd zs h dk u ++ MOa a n wm df yg q wd zs h dk th kp)) H := hP
    have hD : va_D (Ah s) (OUa a fl fd ++ (LOa a n wm df yg q wd zs h dk u ++ MOa a n wm df yg q wd zs h dk th kp)) := hD
    refine lv_istore (lv' := [(6, .int 1), (5, .int (nI j)), (4, .ref a.od), (3, .ref a.ol), (2, .ref a.y), (1, .ref a.x), (0, .ref b)]) hx hb dL_law_561 hl (by decide) rfl (fun ls hl => ?_)
    refine lv_aload_n hx hb dL_law_563 rfl (lv_at hl 4 rfl) ?_
    refine lv_aload_n hx hb dL_law_564 rfl (lv_at hl 6 rfl) ?_
    refine lv_iload hx hb dL_law_565 (lv_at hl 1 rfl) ?_
    refine lv_iconst (v := 1) hx hb dL_law_567 (by decide) ?_
    refine lv_iadd hx hb dL_law_568 ?_
    refine kx_sld hx hb hXs hbl hbA hS (j := j + 1) (nI_1 j) (by omega) hL dL_law_569 ?_
    have hP3 : va_P D vwCl ((OUa a fl fd ++ LOa a n wm df yg q wd zs h dk u) ++ (MOa a n wm df yg q wd zs h dk th kp ++ [])) H := by rw [← f13]; exact hP
    have hD3 : va_D (Ah s) ((OUa a fl fd ++ LOa a n wm df yg q wd zs h dk u) ++ (MOa a n wm df yg q wd zs h dk th kp ++ [])) := by rw [← f13]; exact hD
    refine kc_d (w1 := OUa a fl fd ++ LOa a n wm df yg q wd zs h dk u) (w3 := []) (va_runV (As := [.int (xs (j + 1))]) (rest := []) ⟨hx, hb, hml, hown, hts⟩ (metX3_litresIn l D H.size a.y a.aw a.az a.ah a.ak a.cI a.cD n hn wm yg q df (dk 0) (dk 1) (dk 2) th wd zs h kp (xs (j + 1))) (cwV 1 hts gL_law_X3_litresIn rfl rfl rfl (by decide +kernel) ⟨Nat.le_of_ble_eq_true rfl, Nat.le_of_ble_eq_true rfl⟩) (pmV 3 0 RX3 TX3 13 rfl rfl (vj_mP hP3) (hK.sub [1, 3] rfl) (vj_mD hD3)) rfl rfl hl.1 rfl (lv_room (Nat.le_of_ble_eq_true rfl)) dL_law_570 ⟨hc1, hs1⟩) hP3 hD3 hS hA (fun H locs hP hD hS => ?_)
    rw [← f13] at hP hD
    have e9 : thI n (xs (j + 1)) = 1 := thI_y hbad9
    rw [e9] at hP hD
    try simp only [if_neg (show ¬ (1 : Int32) = 0 by decide)] at hP hD
    have hP : va_P D vwCl (OUa a fl fd ++ (LOa a n wm df yg q wd zs h dk u ++ MOa a n wm df yg q wd zs h dk 1 kp)) H := hP
    have hD : va_D (Ah s) (OUa a fl fd ++ (LOa a n wm df yg q wd zs h dk u ++ MOa a n wm df yg q wd zs h dk 1 kp)) := hD
    refine kd_eq (show (if thI n (xs (j + 1)) = 0 then h (0 + ((xs (j + 1))).toNatClampNeg) else 0) = 0 from by rw [e9, if_neg (by decide)]) ?_
    refine lv_dstore (lv' := [(7, .double 0), (6, .int 1), (5, .int (nI j)), (4, .ref a.od), (3, .ref a.ol), (2, .ref a.y), (1, .ref a.x), (0, .ref b)]) hx hb dL_law_573 hl (by decide) rfl (fun ls hl => ?_)
    refine lv_aload_n hx hb dL_law_575 rfl (lv_at hl 5 rfl) ?_
    have hP3 : va_P D vwCl ((OUa a fl fd ++ LOa a n wm df yg q wd zs h dk u) ++ (MOa a n wm df yg q wd zs h dk 1 kp ++ [])) H := by rw [← f13]; exact hP
    refine kr_i (W.runV (As := []) (rest := []) ⟨hx, hb, hml, hown, hts⟩ (metX3_thrown l D a.y a.aw a.az a.ah a.ak a.cI a.cD n hn wm yg q df (dk 0) (dk 1) (dk 2) 1 wd zs h kp ) (cwV 0 hts gL_law_X3_thrown rfl rfl rfl (by decide +kernel) ⟨Nat.le_of_ble_eq_true rfl, Nat.le_of_ble_eq_true rfl⟩) (prV 3 0 RX3 TX3 13 rfl rfl (vj_mP hP3) (hK.sub [1, 3] rfl)) rfl rfl hl.1 rfl (lv_room (Nat.le_of_ble_eq_true rfl)) dL_law_576 ⟨hc1, hs1⟩) ?_
    refine lv_iload hx hb dL_law_579 (lv_at hl 1 rfl) ?_
    refine lv_icmp_eq (tgt := 586) hx hb dL_law_581 (by decide) (fun c581 => ?_) (fun c581 => absurd rfl c581)
    refine lv_iload hx hb dL_law_586 (lv_at hl 1 rfl) ?_
    refine lv_if_ne (tgt := 623) hx hb dL_law_588 (by decide) (fun c588 => ?_) (fun c588 => absurd c588 (by decide))
    refine lv_goto (tgt := 1124) hx hb dL_law_623 (by decide) ?_
    refine W.widen (k := cells + 1) (n := slots + 6) (by omega) (by omega) ?_
    exact kk H locs ls 1 kp fl fd hP hD hS (lv_sub hl [2, 3, 4, 5, 6, 7] rfl)

set_option maxHeartbeats 4000000 in
set_option maxRecDepth 100000 in
theorem lawc_9 {p : Program} {l : Launch} {e : Env} {s : State} {m : MethodId} {below : List Frame} {meth : Method} {c : Code} {H : Heap} {locs : List Loc} {cells slots : Nat} {Q : State → Prop} {D : va_G} {b L : Nat} {xs : Nat → Int32} {a : AD} {ls : Array Slot} (C : LC p l s m c D b L xs a) (n : Nat) (hn : n ≤ 8) (wm df yg : Int32) (q : UInt64) (wd zs : Nat → Int32) (h : Nat → UInt64) (dk : Nat → Int32) (u : TRW) (th : Int32) (kp : Nat → UInt64) (fl : Nat → Int64) (fd : Nat → UInt64) {j : Nat} (hj : j + 2 < L) 
    (hP : va_P D vwCl (OUa a fl fd ++ (LOa a n wm df yg q wd zs h dk u ++ MOa a n wm df yg q wd zs h dk th kp)) H) (hD : va_D (Ah s) (OUa a fl fd ++ (LOa a n wm df yg q wd zs h dk u ++ MOa a n wm df yg q wd zs h dk th kp))) (hS : va_S (Ah s) s.heap H locs) (hl : lv_has ls 10 (LOC a b j)) (hc1 : cells + 1 ≤ room_1.cells) (hs1 : slots + 6 ≤ room_1.slots)
    (kk : (∀ (H : Heap) (locs : List Loc) (ls : Array Slot) (th' : Int32) (kp' : Nat → UInt64) (fl' : Nat → Int64) (fd' : Nat → UInt64), va_P D vwCl (OUa a (fl') (fd') ++ (LOa a n wm df yg q wd zs h dk u ++ MOa a n wm df yg q wd zs h dk (th') (kp'))) H → va_D (Ah s) (OUa a (fl') (fd') ++ (LOa a n wm df yg q wd zs h dk u ++ MOa a n wm df yg q wd zs h dk (th') (kp'))) → va_S (Ah s) s.heap H locs → lv_has ls 10 (LOC a b j) → W p l e room_1 s m #[Value.ref b] below meth c H locs (cells + 1) (slots + 6) Q (F0 m 1124 ls []))) :
    W p l e room_1 s m #[Value.ref b] below meth c H locs cells slots Q (F0 m 626 ls []) := by
  obtain ⟨hx, hb, hml, hown, hts, hK, hX, hH, hst, hXs, hbl, hL⟩ := C
  have hA : ∀ q : Nat, s.heap.size ≤ q → Ah s q := fun _ h => h
  have hbA : ¬ Ah s b := Nat.not_le.mpr hbl
  have hc0 : cells + 0 ≤ room_1.cells := by omega
  have hs0 : slots + 0 ≤ room_1.slots := by omega
  have hl : lv_has ls 10 [(5, .int (nI j)), (4, .ref a.od), (3, .ref a.ol), (2, .ref a.y), (1, .ref a.x), (0, .ref b)] := hl
  refine lv_aload_n hx hb dL_law_626 rfl (lv_at hl 4 rfl) ?_
  refine lv_aload_n hx hb dL_law_627 rfl (lv_at hl 5 rfl) ?_
  refine lv_iload hx hb dL_law_628 (lv_at hl 0 rfl) ?_
  refine lv_iconst (v := 1) hx hb dL_law_630 (by decide) ?_
  refine lv_iadd hx hb dL_law_631 ?_
  refine kx_sld hx hb hXs hbl hbA hS (j := j + 1) (nI_1 j) (by omega) hL dL_law_632 ?_
  refine lv_aload hx hb dL_law_633 (lv_at hl 1 rfl) ?_
  have hP2 : va_P D vwCl ([] ++ ((OUa a fl fd ++ LOa a n wm df yg q wd zs h dk u) ++ MOa a n wm df yg q wd zs h dk th kp)) H := by rw [← f12]; exact hP
  have hD2 : va_D (Ah s) ([] ++ ((OUa a fl fd ++ LOa a n wm df yg q wd zs h dk u) ++ MOa a n wm df yg q wd zs h dk th kp)) := by rw [← f12]; exact hD
  have hX9 : XP (Ah s) s H := hX.kept hS.2.1
  have hA9 : ∀ q : Nat, H.size ≤ q → Ah s q := fun q h9 => hA q (Nat.le_trans hS.1 h9)
  refine kh_i (w1 := []) (w3 := MOa a n wm df yg q wd zs h dk th kp) (vx_runSW (As := [.ref a.x, .int (xs (j + 1)), .ref a.od]) (rest := []) ⟨hx, hb, hml, hown, hts⟩ (metL_ageOf l hst D H.size a.x a.r a.t a.d yg a.la a.bs a.cA a.cI n hn wm df q wd zs h (TRa a dk u) a.ol a.od a.cL a.cD fl fd (xs (j + 1)) ) (vx_cwSW 3 hts gL_law_L_ageOf rfl rfl rfl (by decide +kernel) ⟨Nat.le_of_ble_eq_true rfl, Nat.le_of_ble_eq_true rfl⟩) (phS (vj_mP hP2) hK (vj_mD hD2) hX9 hH hA9) rfl rfl hl.1 rfl (lv_room (Nat.le_of_ble_eq_true rfl)) dL_law_635 ⟨hc1, hs1⟩) hP2 hD2 hS hA (fun r9 W9 H locs hp9 hP hD hS => ?_)
  rcases hp9 with ⟨hok9, rfl, rfl⟩ | ⟨hbad9, rfl, rfl⟩
  · rw [← f12] at hP hD
    have hP : va_P D vwCl (OUa a fl (vf_upd fd 0 (h (8 + ((xs (j + 1))).toNatClampNeg))) ++ (LOa a n wm df yg q wd zs h dk u ++ MOa a n wm df yg q wd zs h dk th kp)) H := hP
    have hD : va_D (Ah s) (OUa a fl (vf_upd fd 0 (h (8 + ((xs (j + 1))).toNatClampNeg))) ++ (LOa a n wm df yg q wd zs h dk u ++ MOa a n wm df yg q wd zs h dk th kp)) := hD
    refine lv_istore (lv' := [(6, .int 0), (5, .int (nI j)), (4, .ref a.od), (3, .ref a.ol), (2, .ref a.y), (1, .ref a.x), (0, .ref b)]) hx hb dL_law_638 hl (by decide) rfl (fun ls hl => ?_)
    refine lv_aload_n hx hb dL_law_640 rfl (lv_at hl 4 rfl) ?_
    refine lv_aload_n hx hb dL_law_641 rfl (lv_at hl 6 rfl) ?_
    refine lv_iload hx hb dL_law_642 (lv_at hl 1 rfl) ?_
    refine lv_iconst (v := 1) hx hb dL_law_644 (by decide) ?_
    refine lv_iadd hx hb dL_law_645 ?_
    refine kx_sld hx hb hXs hbl hbA hS (j := j + 1) (nI_1 j) (by omega) hL dL_law_646 ?_
    have hP3 : va_P D vwCl ((OUa a fl (vf_upd fd 0 (h (8 + ((xs (j + 1))).toNatClampNeg))) ++ LOa a n wm df yg q wd zs h dk u) ++ (MOa a n wm df yg q wd zs h dk th kp ++ [])) H := by rw [← f13]; exact hP
    have hD3 : va_D (Ah s) ((OUa a fl (vf_upd fd 0 (h (8 + ((xs (j + 1))).toNatClampNeg))) ++ LOa a n wm df yg q wd zs h dk u) ++ (MOa a n wm df yg q wd zs h dk th kp ++ [])) := by rw [← f13]; exact hD
    refine kc_d (w1 := OUa a fl (vf_upd fd 0 (h (8 + ((xs (j + 1))).toNatClampNeg))) ++ LOa a n wm df yg q wd zs h dk u) (w3 := []) (va_runV (As := [.int (xs (j + 1))]) (rest := []) ⟨hx, hb, hml, hown, hts⟩ (metX3_ageOf l D H.size a.y a.aw a.az a.ah a.ak a.cI a.cD n hn wm yg q df (dk 0) (dk 1) (dk 2) th wd zs h kp (xs (j + 1))) (cwV 1 hts gL_law_X3_ageOf rfl rfl rfl (by decide +kernel) ⟨Nat.le_of_ble_eq_true rfl, Nat.le_of_ble_eq_true rfl⟩) (pmV 3 0 RX3 TX3 13 rfl rfl (vj_mP hP3) (hK.sub [1, 3] rfl) (vj_mD hD3)) rfl rfl hl.1 rfl (lv_room (Nat.le_of_ble_eq_true rfl)) dL_law_647 ⟨hc1, hs1⟩) hP3 hD3 hS hA (fun H locs hP hD hS => ?_)
    rw [← f13] at hP hD
    have e9 : thI n (xs (j + 1)) = 0 := thI_n hok9
    rw [e9] at hP hD
    try simp only [if_pos (rfl : (0 : Int32) = 0)] at hP hD
    have hP : va_P D vwCl (OUa a fl (vf_upd fd 0 (h (8 + ((xs (j + 1))).toNatClampNeg))) ++ (LOa a n wm df yg q wd zs h dk u ++ MOa a n wm df yg q wd zs h dk 0 kp)) H := hP
    have hD : va_D (Ah s) (OUa a fl (vf_upd fd 0 (h (8 + ((xs (j + 1))).toNatClampNeg))) ++ (LOa a n wm df yg q wd zs h dk u ++ MOa a n wm df yg q wd zs h dk 0 kp)) := hD
    refine kd_eq (show (if thI n (xs (j + 1)) = 0 then h (8 + ((xs (j + 1))).toNatClampNeg) else 0) = h (8 + ((xs (j + 1))).toNatClampNeg) from by rw [e9, if_pos rfl]) ?_
    refine lv_dstore (lv' := [(7, .double (h (8 + ((xs (j + 1))).toNatClampNeg))), (6, .int 0), (5, .int (nI j)), (4, .ref a.od), (3, .ref a.ol), (2, .ref a.y), (1, .ref a.x), (0, .ref b)]) hx hb dL_law_650 hl (by decide) rfl (fun ls hl => ?_)
    refine lv_aload_n hx hb dL_law_652 rfl (lv_at hl 5 rfl) ?_
    have hP3 : va_P D vwCl ((OUa a fl (vf_upd fd 0 (h (8 + ((xs (j + 1))).toNatClampNeg))) ++ LOa a n wm df yg q wd zs h dk u) ++ (MOa a n wm df yg q wd zs h dk 0 kp ++ [])) H := by rw [← f13]; exact hP
    refine kr_i (W.runV (As := []) (rest := []) ⟨hx, hb, hml, hown, hts⟩ (metX3_thrown l D a.y a.aw a.az a.ah a.ak a.cI a.cD n hn wm yg q df (dk 0) (dk 1) (dk 2) 0 wd zs h kp ) (cwV 0 hts gL_law_X3_thrown rfl rfl rfl (by decide +kernel) ⟨Nat.le_of_ble_eq_true rfl, Nat.le_of_ble_eq_true rfl⟩) (prV 3 0 RX3 TX3 13 rfl rfl (vj_mP hP3) (hK.sub [1, 3] rfl)) rfl rfl hl.1 rfl (lv_room (Nat.le_of_ble_eq_true rfl)) dL_law_653 ⟨hc1, hs1⟩) ?_
    refine lv_iload hx hb dL_law_656 (lv_at hl 1 rfl) ?_
    refine lv_icmp_eq (tgt := 663) hx hb dL_law_658 (by decide) (fun c658 => ?_) (fun c658 => absurd rfl c658)
    refine lv_iload hx hb dL_law_663 (lv_at hl 1 rfl) ?_
    refine lv_if_ne (tgt := 700) hx hb dL_law_665 (by decide) (fun c665 => absurd c665 (fun h9 => h9 rfl)) (fun c665 => ?_)
    refine lv_aload hx hb dL_law_668 (lv_at hl 3 rfl) ?_
    refine lv_iconst (v := 0) hx hb dL_law_670 (by decide) ?_
    refine kx_dald hx hb hK (ws := OUa a fl (vf_upd fd 0 (h (8 + ((xs (j + 1))).toNatClampNeg))) ++ (LOa a n wm df yg q wd zs h dk u ++ MOa a n wm df yg q wd zs h dk 0 kp)) hP 1 3 (f := vf_upd fd 0 (h (8 + ((xs (j + 1))).toNatClampNeg))) rfl rfl (j := 0) rfl (by decide) (by decide) dL_law_671 ?_
    refine kd_eq (vu_s : (vf_upd fd 0 (h (8 + ((xs (j + 1))).toNatClampNeg))) 0 = h (8 + ((xs (j + 1))).toNatClampNeg)) ?_
    refine lv_dload hx hb dL_law_672 (lv_at hl 0 rfl) ?_
    by_cases cv : Op.cmpValue (FP.dcmp (h (8 + ((xs (j + 1))).toNatClampNeg)) (h (8 + ((xs (j + 1))).toNatClampNeg))) .l = 0
    · refine lv_dcmp hx hb dL_law_674 ?_
      refine lv_if_eq (tgt := 700) hx hb dL_law_675 (by decide) (fun _ => ?_) (fun h9 => absurd cv h9)
      refine lv_goto (tgt := 1124) hx hb dL_law_700 (by decide) ?_
      refine W.widen (k := cells + 1) (n := slots + 6) (by omega) (by omega) ?_
      exact kk H locs ls 0 kp fl (vf_upd fd 0 (h (8 + ((xs (j + 1))).toNatClampNeg))) hP hD hS (lv_sub hl [2, 3, 4, 5, 6, 7] rfl)
    · refine lv_dcmp hx hb dL_law_674 ?_
      refine lv_if_eq (tgt := 700) hx hb dL_law_675 (by decide) (fun h9 => absurd h9 cv) (fun _ => ?_)
      refine lv_aload hx hb dL_law_678 (lv_at hl 3 rfl) ?_
      refine lv_iconst (v := 0) hx hb dL_law_680 (by decide) ?_
      refine kx_dald hx hb hK (ws := OUa a fl (vf_upd fd 0 (h (8 + ((xs (j + 1))).toNatClampNeg))) ++ (LOa a n wm df yg q wd zs h dk u ++ MOa a n wm df yg q wd zs h dk 0 kp)) hP 1 3 (f := vf_upd fd 0 (h (8 + ((xs (j + 1))).toNatClampNeg))) rfl rfl (j := 0) rfl (by decide) (by decide) dL_law_681 ?_
      refine kd_eq (vu_s : (vf_upd fd 0 (h (8 + ((xs (j + 1))).toNatClampNeg))) 0 = h (8 + ((xs (j + 1))).toNatClampNeg)) ?_
      refine lv_aload hx hb dL_law_682 (lv_at hl 3 rfl) ?_
      refine lv_iconst (v := 0) hx hb dL_law_684 (by decide) ?_
      refine kx_dald hx hb hK (ws := OUa a fl (vf_upd fd 0 (h (8 + ((xs (j + 1))).toNatClampNeg))) ++ (LOa a n wm df yg q wd zs h dk u ++ MOa a n wm df yg q wd zs h dk 0 kp)) hP 1 3 (f := vf_upd fd 0 (h (8 + ((xs (j + 1))).toNatClampNeg))) rfl rfl (j := 0) rfl (by decide) (by decide) dL_law_685 ?_
      refine kd_eq (vu_s : (vf_upd fd 0 (h (8 + ((xs (j + 1))).toNatClampNeg))) 0 = h (8 + ((xs (j + 1))).toNatClampNeg)) ?_
      refine lv_dcmp hx hb dL_law_686 ?_
      refine lv_if_eq (tgt := 698) hx hb dL_law_687 (by decide) (fun h9 => absurd h9 cv) (fun _ => ?_)
      refine lv_dload hx hb dL_law_690 (lv_at hl 0 rfl) ?_
      refine lv_dload hx hb dL_law_692 (lv_at hl 0 rfl) ?_
      refine lv_dcmp hx hb dL_law_694 ?_
      refine lv_if_ne (tgt := 700) hx hb dL_law_695 (by decide) (fun _ => ?_) (fun h9 => absurd h9 cv)
      refine lv_goto (tgt := 1124) hx hb dL_law_700 (by decide) ?_
      refine W.widen (k := cells + 1) (n := slots + 6) (by omega) (by omega) ?_
      exact kk H locs ls 0 kp fl (vf_upd fd 0 (h (8 + ((xs (j + 1))).toNatClampNeg))) hP hD hS (lv_sub hl [2, 3, 4, 5, 6, 7] rfl)
  · rw [← f12] at hP hD
    have hP : va_P D vwCl (OUa a fl fd ++ (LOa a n wm df yg q wd zs h dk u ++ MOa a n wm df yg q wd zs h dk th kp)) H := hP
    have hD : va_D (Ah s) (OUa a fl fd ++ (LOa a n wm df yg q wd zs h dk u ++ MOa a n wm df yg q wd zs h dk th kp)) := hD
    refine lv_istore (lv' := [(6, .int 1), (5, .int (nI j)), (4, .ref a.od), (3, .ref a.ol), (2, .ref a.y), (1, .ref a.x), (0, .ref b)]) hx hb dL_law_638 hl (by decide) rfl (fun ls hl => ?_)
    refine lv_aload_n hx hb dL_law_640 rfl (lv_at hl 4 rfl) ?_
    refine lv_aload_n hx hb dL_law_641 rfl (lv_at hl 6 rfl) ?_
    refine lv_iload hx hb dL_law_642 (lv_at hl 1 rfl) ?_
    refine lv_iconst (v := 1) hx hb dL_law_644 (by decide) ?_
    refine lv_iadd hx hb dL_law_645 ?_
    refine kx_sld hx hb hXs hbl hbA hS (j := j + 1) (nI_1 j) (by omega) hL dL_law_646 ?_
    have hP3 : va_P D vwCl ((OUa a fl fd ++ LOa a n wm df yg q wd zs h dk u) ++ (MOa a n wm df yg q wd zs h dk th kp ++ [])) H := by rw [← f13]; exact hP
    have hD3 : va_D (Ah s) ((OUa a fl fd ++ LOa a n wm df yg q wd zs h dk u) ++ (MOa a n wm df yg q wd zs h dk th kp ++ [])) := by rw [← f13]; exact hD
    refine kc_d (w1 := OUa a fl fd ++ LOa a n wm df yg q wd zs h dk u) (w3 := []) (va_runV (As := [.int (xs (j + 1))]) (rest := []) ⟨hx, hb, hml, hown, hts⟩ (metX3_ageOf l D H.size a.y a.aw a.az a.ah a.ak a.cI a.cD n hn wm yg q df (dk 0) (dk 1) (dk 2) th wd zs h kp (xs (j + 1))) (cwV 1 hts gL_law_X3_ageOf rfl rfl rfl (by decide +kernel) ⟨Nat.le_of_ble_eq_true rfl, Nat.le_of_ble_eq_true rfl⟩) (pmV 3 0 RX3 TX3 13 rfl rfl (vj_mP hP3) (hK.sub [1, 3] rfl) (vj_mD hD3)) rfl rfl hl.1 rfl (lv_room (Nat.le_of_ble_eq_true rfl)) dL_law_647 ⟨hc1, hs1⟩) hP3 hD3 hS hA (fun H locs hP hD hS => ?_)
    rw [← f13] at hP hD
    have e9 : thI n (xs (j + 1)) = 1 := thI_y hbad9
    rw [e9] at hP hD
    try simp only [if_neg (show ¬ (1 : Int32) = 0 by decide)] at hP hD
    have hP : va_P D vwCl (OUa a fl fd ++ (LOa a n wm df yg q wd zs h dk u ++ MOa a n wm df yg q wd zs h dk 1 kp)) H := hP
    have hD : va_D (Ah s) (OUa a fl fd ++ (LOa a n wm df yg q wd zs h dk u ++ MOa a n wm df yg q wd zs h dk 1 kp)) := hD
    refine kd_eq (show (if thI n (xs (j + 1)) = 0 then h (8 + ((xs (j + 1))).toNatClampNeg) else 0) = 0 from by rw [e9, if_neg (by decide)]) ?_
    refine lv_dstore (lv' := [(7, .double 0), (6, .int 1), (5, .int (nI j)), (4, .ref a.od), (3, .ref a.ol), (2, .ref a.y), (1, .ref a.x), (0, .ref b)]) hx hb dL_law_650 hl (by decide) rfl (fun ls hl => ?_)
    refine lv_aload_n hx hb dL_law_652 rfl (lv_at hl 5 rfl) ?_
    have hP3 : va_P D vwCl ((OUa a fl fd ++ LOa a n wm df yg q wd zs h dk u) ++ (MOa a n wm df yg q wd zs h dk 1 kp ++ [])) H := by rw [← f13]; exact hP
    refine kr_i (W.runV (As := []) (rest := []) ⟨hx, hb, hml, hown, hts⟩ (metX3_thrown l D a.y a.aw a.az a.ah a.ak a.cI a.cD n hn wm yg q df (dk 0) (dk 1) (dk 2) 1 wd zs h kp ) (cwV 0 hts gL_law_X3_thrown rfl rfl rfl (by decide +kernel) ⟨Nat.le_of_ble_eq_true rfl, Nat.le_of_ble_eq_true rfl⟩) (prV 3 0 RX3 TX3 13 rfl rfl (vj_mP hP3) (hK.sub [1, 3] rfl)) rfl rfl hl.1 rfl (lv_room (Nat.le_of_ble_eq_true rfl)) dL_law_653 ⟨hc1, hs1⟩) ?_
    refine lv_iload hx hb dL_law_656 (lv_at hl 1 rfl) ?_
    refine lv_icmp_eq (tgt := 663) hx hb dL_law_658 (by decide) (fun c658 => ?_) (fun c658 => absurd rfl c658)
    refine lv_iload hx hb dL_law_663 (lv_at hl 1 rfl) ?_
    refine lv_if_ne (tgt := 700) hx hb dL_law_665 (by decide) (fun c665 => ?_) (fun c665 => absurd c665 (by decide))
    refine lv_goto (tgt := 1124) hx hb dL_law_700 (by decide) ?_
    refine W.widen (k := cells + 1) (n := slots + 6) (by omega) (by omega) ?_
    exact kk H locs ls 1 kp fl fd hP hD hS (lv_sub hl [2, 3, 4, 5, 6, 7] rfl)

set_option maxHeartbeats 4000000 in
set_option maxRecDepth 100000 in
theorem lawc_10 {p : Program} {l : Launch} {e : Env} {s : State} {m : MethodId} {below : List Frame} {meth : Method} {c : Code} {H : Heap} {locs : List Loc} {cells slots : Nat} {Q : State → Prop} {D : va_G} {b L : Nat} {xs : Nat → Int32} {a : AD} {ls : Array Slot} (C : LC p l s m c D b L xs a) (n : Nat) (hn : n ≤ 8) (wm df yg : Int32) (q : UInt64) (wd zs : Nat → Int32) (h : Nat → UInt64) (dk : Nat → Int32) (u : TRW) (th : Int32) (kp : Nat → UInt64) (fl : Nat → Int64) (fd : Nat → UInt64) {j : Nat} (hj : j + 2 < L) 
    (hP : va_P D vwCl (OUa a fl fd ++ (LOa a n wm df yg q wd zs h dk u ++ MOa a n wm df yg q wd zs h dk th kp)) H) (hD : va_D (Ah s) (OUa a fl fd ++ (LOa a n wm df yg q wd zs h dk u ++ MOa a n wm df yg q wd zs h dk th kp))) (hS : va_S (Ah s) s.heap H locs) (hl : lv_has ls 10 (LOC a b j)) (hc1 : cells + 1 ≤ room_1.cells) (hs1 : slots + 6 ≤ room_1.slots)
    (kk : (∀ (H : Heap) (locs : List Loc) (ls : Array Slot) (th' : Int32) (kp' : Nat → UInt64) (fl' : Nat → Int64) (fd' : Nat → UInt64), va_P D vwCl (OUa a (fl') (fd') ++ (LOa a n wm df yg q wd zs h dk u ++ MOa a n wm df yg q wd zs h dk (th') (kp'))) H → va_D (Ah s) (OUa a (fl') (fd') ++ (LOa a n wm df yg q wd zs h dk u ++ MOa a n wm df yg q wd zs h dk (th') (kp'))) → va_S (Ah s) s.heap H locs → lv_has ls 10 (LOC a b j) → W p l e room_1 s m #[Value.ref b] below meth c H locs (cells + 1) (slots + 6) Q (F0 m 1124 ls []))) :
    W p l e room_1 s m #[Value.ref b] below meth c H locs cells slots Q (F0 m 703 ls []) := by
  obtain ⟨hx, hb, hml, hown, hts, hK, hX, hH, hst, hXs, hbl, hL⟩ := C
  have hA : ∀ q : Nat, s.heap.size ≤ q → Ah s q := fun _ h => h
  have hbA : ¬ Ah s b := Nat.not_le.mpr hbl
  have hc0 : cells + 0 ≤ room_1.cells := by omega
  have hs0 : slots + 0 ≤ room_1.slots := by omega
  have hl : lv_has ls 10 [(5, .int (nI j)), (4, .ref a.od), (3, .ref a.ol), (2, .ref a.y), (1, .ref a.x), (0, .ref b)] := hl
  refine lv_aload_n hx hb dL_law_703 rfl (lv_at hl 4 rfl) ?_
  refine lv_aload_n hx hb dL_law_704 rfl (lv_at hl 5 rfl) ?_
  refine lv_iload hx hb dL_law_705 (lv_at hl 0 rfl) ?_
  refine lv_iconst (v := 1) hx hb dL_law_707 (by decide) ?_
  refine lv_iadd hx hb dL_law_708 ?_
  refine kx_sld hx hb hXs hbl hbA hS (j := j + 1) (nI_1 j) (by omega) hL dL_law_709 ?_
  refine lv_aload hx hb dL_law_710 (lv_at hl 1 rfl) ?_
  have hP2 : va_P D vwCl ([] ++ ((OUa a fl fd ++ LOa a n wm df yg q wd zs h dk u) ++ MOa a n wm df yg q wd zs h dk th kp)) H := by rw [← f12]; exact hP
  have hD2 : va_D (Ah s) ([] ++ ((OUa a fl fd ++ LOa a n wm df yg q wd zs h dk u) ++ MOa a n wm df yg q wd zs h dk th kp)) := by rw [← f12]; exact hD
  have hX9 : XP (Ah s) s H := hX.kept hS.2.1
  have hA9 : ∀ q : Nat, H.size ≤ q → Ah s q := fun q h9 => hA q (Nat.le_trans hS.1 h9)
  refine kh_i (w1 := []) (w3 := MOa a n wm df yg q wd zs h dk th kp) (vx_runSW (As := [.ref a.x, .int (xs (j + 1)), .ref a.od]) (rest := []) ⟨hx, hb, hml, hown, hts⟩ (metL_acidOf l hst D H.size a.x a.r a.t a.d yg a.la a.bs a.cA a.cI n hn wm df q wd zs h (TRa a dk u) a.ol a.od a.cL a.cD fl fd (xs (j + 1)) ) (vx_cwSW 3 hts gL_law_L_acidOf rfl rfl rfl (by decide +kernel) ⟨Nat.le_of_ble_eq_true rfl, Nat.le_of_ble_eq_true rfl⟩) (phS (vj_mP hP2) hK (vj_mD hD2) hX9 hH hA9) rfl rfl hl.1 rfl (lv_room (Nat.le_of_ble_eq_true rfl)) dL_law_712 ⟨hc1, hs1⟩) hP2 hD2 hS hA (fun r9 W9 H locs hp9 hP hD hS => ?_)
  rcases hp9 with ⟨hok9, rfl, rfl⟩ | ⟨hbad9, rfl, rfl⟩
  · rw [← f12] at hP hD
    have hP : va_P D vwCl (OUa a fl (vf_upd fd 0 (h (16 + ((xs (j + 1))).toNatClampNeg))) ++ (LOa a n wm df yg q wd zs h dk u ++ MOa a n wm df yg q wd zs h dk th kp)) H := hP
    have hD : va_D (Ah s) (OUa a fl (vf_upd fd 0 (h (16 + ((xs (j + 1))).toNatClampNeg))) ++ (LOa a n wm df yg q wd zs h dk u ++ MOa a n wm df yg q wd zs h dk th kp)) := hD
    refine lv_istore (lv' := [(6, .int 0), (5, .int (nI j)), (4, .ref a.od), (3, .ref a.ol), (2, .ref a.y), (1, .ref a.x), (0, .ref b)]) hx hb dL_law_715 hl (by decide) rfl (fun ls hl => ?_)
    refine lv_aload_n hx hb dL_law_717 rfl (lv_at hl 4 rfl) ?_
    refine lv_aload_n hx hb dL_law_718 rfl (lv_at hl 6 rfl) ?_
    refine lv_iload hx hb dL_law_719 (lv_at hl 1 rfl) ?_
    refine lv_iconst (v := 1) hx hb dL_law_721 (by decide) ?_
    refine lv_iadd hx hb dL_law_722 ?_
    refine kx_sld hx hb hXs hbl hbA hS (j := j + 1) (nI_1 j) (by omega) hL dL_law_723 ?_
    have hP3 : va_P D vwCl ((OUa a fl (vf_upd fd 0 (h (16 + ((xs (j + 1))).toNatClampNeg))) ++ LOa a n wm df yg q wd zs h dk u) ++ (MOa a n wm df yg q wd zs h dk th kp ++ [])) H := by rw [← f13]; exact hP
    have hD3 : va_D (Ah s) ((OUa a fl (vf_upd fd 0 (h (16 + ((xs (j + 1))).toNatClampNeg))) ++ LOa a n wm df yg q wd zs h dk u) ++ (MOa a n wm df yg q wd zs h dk th kp ++ [])) := by rw [← f13]; exact hD
    refine kc_d (w1 := OUa a fl (vf_upd fd 0 (h (16 + ((xs (j + 1))).toNatClampNeg))) ++ LOa a n wm df yg q wd zs h dk u) (w3 := []) (va_runV (As := [.int (xs (j + 1))]) (rest := []) ⟨hx, hb, hml, hown, hts⟩ (metX3_acidOf l D H.size a.y a.aw a.az a.ah a.ak a.cI a.cD n hn wm yg q df (dk 0) (dk 1) (dk 2) th wd zs h kp (xs (j + 1))) (cwV 1 hts gL_law_X3_acidOf rfl rfl rfl (by decide +kernel) ⟨Nat.le_of_ble_eq_true rfl, Nat.le_of_ble_eq_true rfl⟩) (pmV 3 0 RX3 TX3 13 rfl rfl (vj_mP hP3) (hK.sub [1, 3] rfl) (vj_mD hD3)) rfl rfl hl.1 rfl (lv_room (Nat.le_of_ble_eq_true rfl)) dL_law_724 ⟨hc1, hs1⟩) hP3 hD3 hS hA (fun H locs hP hD hS => ?_)
    rw [← f13] at hP hD
    have e9 : thI n (xs (j + 1)) = 0 := thI_n hok9
    rw [e9] at hP hD
    try simp only [if_pos (rfl : (0 : Int32) = 0)] at hP hD
    have hP : va_P D vwCl (OUa a fl (vf_upd fd 0 (h (16 + ((xs (j + 1))).toNatClampNeg))) ++ (LOa a n wm df yg q wd zs h dk u ++ MOa a n wm df yg q wd zs h dk 0 kp)) H := hP
    have hD : va_D (Ah s) (OUa a fl (vf_upd fd 0 (h (16 + ((xs (j + 1))).toNatClampNeg))) ++ (LOa a n wm df yg q wd zs h dk u ++ MOa a n wm df yg q wd zs h dk 0 kp)) := hD
    refine kd_eq (show (if thI n (xs (j + 1)) = 0 then h (16 + ((xs (j + 1))).toNatClampNeg) else 0) = h (16 + ((xs (j + 1))).toNatClampNeg) from by rw [e9, if_pos rfl]) ?_
    refine lv_dstore (lv' := [(7, .double (h (16 + ((xs (j + 1))).toNatClampNeg))), (6, .int 0), (5, .int (nI j)), (4, .ref a.od), (3, .ref a.ol), (2, .ref a.y), (1, .ref a.x), (0, .ref b)]) hx hb dL_law_727 hl (by decide) rfl (fun ls hl => ?_)
    refine lv_aload_n hx hb dL_law_729 rfl (lv_at hl 5 rfl) ?_
    have hP3 : va_P D vwCl ((OUa a fl (vf_upd fd 0 (h (16 + ((xs (j + 1))).toNatClampNeg))) ++ LOa a n wm df yg q wd zs h dk u) ++ (MOa a n wm df yg q wd zs h dk 0 kp ++ [])) H := by rw [← f13]; exact hP
    refine kr_i (W.runV (As := []) (rest := []) ⟨hx, hb, hml, hown, hts⟩ (metX3_thrown l D a.y a.aw a.az a.ah a.ak a.cI a.cD n hn wm yg q df (dk 0) (dk 1) (dk 2) 0 wd zs h kp ) (cwV 0 hts gL_law_X3_thrown rfl rfl rfl (by decide +kernel) ⟨Nat.le_of_ble_eq_true rfl, Nat.le_of_ble_eq_true rfl⟩) (prV 3 0 RX3 TX3 13 rfl rfl (vj_mP hP3) (hK.sub [1, 3] rfl)) rfl rfl hl.1 rfl (lv_room (Nat.le_of_ble_eq_true rfl)) dL_law_730 ⟨hc1, hs1⟩) ?_
    refine lv_iload hx hb dL_law_733 (lv_at hl 1 rfl) ?_
    refine lv_icmp_eq (tgt := 740) hx hb dL_law_735 (by decide) (fun c735 => ?_) (fun c735 => absurd rfl c735)
    refine lv_iload hx hb dL_law_740 (lv_at hl 1 rfl) ?_
    refine lv_if_ne (tgt := 777) hx hb dL_law_742 (by decide) (fun c742 => absurd c742 (fun h9 => h9 rfl)) (fun c742 => ?_)
    refine lv_aload hx hb dL_law_745 (lv_at hl 3 rfl) ?_
    refine lv_iconst (v := 0) hx hb dL_law_747 (by decide) ?_
    refine kx_dald hx hb hK (ws := OUa a fl (vf_upd fd 0 (h (16 + ((xs (j + 1))).toNatClampNeg))) ++ (LOa a n wm df yg q wd zs h dk u ++ MOa a n wm df yg q wd zs h dk 0 kp)) hP 1 3 (f := vf_upd fd 0 (h (16 + ((xs (j + 1))).toNatClampNeg))) rfl rfl (j := 0) rfl (by decide) (by decide) dL_law_748 ?_
    refine kd_eq (vu_s : (vf_upd fd 0 (h (16 + ((xs (j + 1))).toNatClampNeg))) 0 = h (16 + ((xs (j + 1))).toNatClampNeg)) ?_
    refine lv_dload hx hb dL_law_749 (lv_at hl 0 rfl) ?_
    by_cases cv : Op.cmpValue (FP.dcmp (h (16 + ((xs (j + 1))).toNatClampNeg)) (h (16 + ((xs (j + 1))).toNatClampNeg))) .l = 0
    · refine lv_dcmp hx hb dL_law_751 ?_
      refine lv_if_eq (tgt := 777) hx hb dL_law_752 (by decide) (fun _ => ?_) (fun h9 => absurd cv h9)
      refine lv_goto (tgt := 1124) hx hb dL_law_777 (by decide) ?_
      refine W.widen (k := cells + 1) (n := slots + 6) (by omega) (by omega) ?_
      exact kk H locs ls 0 kp fl (vf_upd fd 0 (h (16 + ((xs (j + 1))).toNatClampNeg))) hP hD hS (lv_sub hl [2, 3, 4, 5, 6, 7] rfl)
    · refine lv_dcmp hx hb dL_law_751 ?_
      refine lv_if_eq (tgt := 777) hx hb dL_law_752 (by decide) (fun h9 => absurd h9 cv) (fun _ => ?_)
      refine lv_aload hx hb dL_law_755 (lv_at hl 3 rfl) ?_
      refine lv_iconst (v := 0) hx hb dL_law_757 (by decide) ?_
      refine kx_dald hx hb hK (ws := OUa a fl (vf_upd fd 0 (h (16 + ((xs (j + 1))).toNatClampNeg))) ++ (LOa a n wm df yg q wd zs h dk u ++ MOa a n wm df yg q wd zs h dk 0 kp)) hP 1 3 (f := vf_upd fd 0 (h (16 + ((xs (j + 1))).toNatClampNeg))) rfl rfl (j := 0) rfl (by decide) (by decide) dL_law_758 ?_
      refine kd_eq (vu_s : (vf_upd fd 0 (h (16 + ((xs (j + 1))).toNatClampNeg))) 0 = h (16 + ((xs (j + 1))).toNatClampNeg)) ?_
      refine lv_aload hx hb dL_law_759 (lv_at hl 3 rfl) ?_
      refine lv_iconst (v := 0) hx hb dL_law_761 (by decide) ?_
      refine kx_dald hx hb hK (ws := OUa a fl (vf_upd fd 0 (h (16 + ((xs (j + 1))).toNatClampNeg))) ++ (LOa a n wm df yg q wd zs h dk u ++ MOa a n wm df yg q wd zs h dk 0 kp)) hP 1 3 (f := vf_upd fd 0 (h (16 + ((xs (j + 1))).toNatClampNeg))) rfl rfl (j := 0) rfl (by decide) (by decide) dL_law_762 ?_
      refine kd_eq (vu_s : (vf_upd fd 0 (h (16 + ((xs (j + 1))).toNatClampNeg))) 0 = h (16 + ((xs (j + 1))).toNatClampNeg)) ?_
      refine lv_dcmp hx hb dL_law_763 ?_
      refine lv_if_eq (tgt := 775) hx hb dL_law_764 (by decide) (fun h9 => absurd h9 cv) (fun _ => ?_)
      refine lv_dload hx hb dL_law_767 (lv_at hl 0 rfl) ?_
      refine lv_dload hx hb dL_law_769 (lv_at hl 0 rfl) ?_
      refine lv_dcmp hx hb dL_law_771 ?_
      refine lv_if_ne (tgt := 777) hx hb dL_law_772 (by decide) (fun _ => ?_) (fun h9 => absurd h9 cv)
      refine lv_goto (tgt := 1124) hx hb dL_law_777 (by decide) ?_
      refine W.widen (k := cells + 1) (n := slots + 6) (by omega) (by omega) ?_
      exact kk H locs ls 0 kp fl (vf_upd fd 0 (h (16 + ((xs (j + 1))).toNatClampNeg))) hP hD hS (lv_sub hl [2, 3, 4, 5, 6, 7] rfl)
  · rw [← f12] at hP hD
    have hP : va_P D vwCl (OUa a fl fd ++ (LOa a n wm df yg q wd zs h dk u ++ MOa a n wm df yg q wd zs h dk th kp)) H := hP
    have hD : va_D (Ah s) (OUa a fl fd ++ (LOa a n wm df yg q wd zs h dk u ++ MOa a n wm df yg q wd zs h dk th kp)) := hD
    refine lv_istore (lv' := [(6, .int 1), (5, .int (nI j)), (4, .ref a.od), (3, .ref a.ol), (2, .ref a.y), (1, .ref a.x), (0, .ref b)]) hx hb dL_law_715 hl (by decide) rfl (fun ls hl => ?_)
    refine lv_aload_n hx hb dL_law_717 rfl (lv_at hl 4 rfl) ?_
    refine lv_aload_n hx hb dL_law_718 rfl (lv_at hl 6 rfl) ?_
    refine lv_iload hx hb dL_law_719 (lv_at hl 1 rfl) ?_
    refine lv_iconst (v := 1) hx hb dL_law_721 (by decide) ?_
    refine lv_iadd hx hb dL_law_722 ?_
    refine kx_sld hx hb hXs hbl hbA hS (j := j + 1) (nI_1 j) (by omega) hL dL_law_723 ?_
    have hP3 : va_P D vwCl ((OUa a fl fd ++ LOa a n wm df yg q wd zs h dk u) ++ (MOa a n wm df yg q wd zs h dk th kp ++ [])) H := by rw [← f13]; exact hP
    have hD3 : va_D (Ah s) ((OUa a fl fd ++ LOa a n wm df yg q wd zs h dk u) ++ (MOa a n wm df yg q wd zs h dk th kp ++ [])) := by rw [← f13]; exact hD
    refine kc_d (w1 := OUa a fl fd ++ LOa a n wm df yg q wd zs h dk u) (w3 := []) (va_runV (As := [.int (xs (j + 1))]) (rest := []) ⟨hx, hb, hml, hown, hts⟩ (metX3_acidOf l D H.size a.y a.aw a.az a.ah a.ak a.cI a.cD n hn wm yg q df (dk 0) (dk 1) (dk 2) th wd zs h kp (xs (j + 1))) (cwV 1 hts gL_law_X3_acidOf rfl rfl rfl (by decide +kernel) ⟨Nat.le_of_ble_eq_true rfl, Nat.le_of_ble_eq_true rfl⟩) (pmV 3 0 RX3 TX3 13 rfl rfl (vj_mP hP3) (hK.sub [1, 3] rfl) (vj_mD hD3)) rfl rfl hl.1 rfl (lv_room (Nat.le_of_ble_eq_true rfl)) dL_law_724 ⟨hc1, hs1⟩) hP3 hD3 hS hA (fun H locs hP hD hS => ?_)
    rw [← f13] at hP hD
    have e9 : thI n (xs (j + 1)) = 1 := thI_y hbad9
    rw [e9] at hP hD
    try simp only [if_neg (show ¬ (1 : Int32) = 0 by decide)] at hP hD
    have hP : va_P D vwCl (OUa a fl fd ++ (LOa a n wm df yg q wd zs h dk u ++ MOa a n wm df yg q wd zs h dk 1 kp)) H := hP
    have hD : va_D (Ah s) (OUa a fl fd ++ (LOa a n wm df yg q wd zs h dk u ++ MOa a n wm df yg q wd zs h dk 1 kp)) := hD
    refine kd_eq (show (if thI n (xs (j + 1)) = 0 then h (16 + ((xs (j + 1))).toNatClampNeg) else 0) = 0 from by rw [e9, if_neg (by decide)]) ?_
    refine lv_dstore (lv' := [(7, .double 0), (6, .int 1), (5, .int (nI j)), (4, .ref a.od), (3, .ref a.ol), (2, .ref a.y), (1, .ref a.x), (0, .ref b)]) hx hb dL_law_727 hl (by decide) rfl (fun ls hl => ?_)
    refine lv_aload_n hx hb dL_law_729 rfl (lv_at hl 5 rfl) ?_
    have hP3 : va_P D vwCl ((OUa a fl fd ++ LOa a n wm df yg q wd zs h dk u) ++ (MOa a n wm df yg q wd zs h dk 1 kp ++ [])) H := by rw [← f13]; exact hP
    refine kr_i (W.runV (As := []) (rest := []) ⟨hx, hb, hml, hown, hts⟩ (metX3_thrown l D a.y a.aw a.az a.ah a.ak a.cI a.cD n hn wm yg q df (dk 0) (dk 1) (dk 2) 1 wd zs h kp ) (cwV 0 hts gL_law_X3_thrown rfl rfl rfl (by decide +kernel) ⟨Nat.le_of_ble_eq_true rfl, Nat.le_of_ble_eq_true rfl⟩) (prV 3 0 RX3 TX3 13 rfl rfl (vj_mP hP3) (hK.sub [1, 3] rfl)) rfl rfl hl.1 rfl (lv_room (Nat.le_of_ble_eq_true rfl)) dL_law_730 ⟨hc1, hs1⟩) ?_
    refine lv_iload hx hb dL_law_733 (lv_at hl 1 rfl) ?_
    refine lv_icmp_eq (tgt := 740) hx hb dL_law_735 (by decide) (fun c735 => ?_) (fun c735 => absurd rfl c735)
    refine lv_iload hx hb dL_law_740 (lv_at hl 1 rfl) ?_
    refine lv_if_ne (tgt := 777) hx hb dL_law_742 (by decide) (fun c742 => ?_) (fun c742 => absurd c742 (by decide))
    refine lv_goto (tgt := 1124) hx hb dL_law_777 (by decide) ?_
    refine W.widen (k := cells + 1) (n := slots + 6) (by omega) (by omega) ?_
    exact kk H locs ls 1 kp fl fd hP hD hS (lv_sub hl [2, 3, 4, 5, 6, 7] rfl)

set_option maxHeartbeats 4000000 in
set_option maxRecDepth 100000 in
theorem lawc_11 {p : Program} {l : Launch} {e : Env} {s : State} {m : MethodId} {below : List Frame} {meth : Method} {c : Code} {H : Heap} {locs : List Loc} {cells slots : Nat} {Q : State → Prop} {D : va_G} {b L : Nat} {xs : Nat → Int32} {a : AD} {ls : Array Slot} (C : LC p l s m c D b L xs a) (n : Nat) (hn : n ≤ 8) (wm df yg : Int32) (q : UInt64) (wd zs : Nat → Int32) (h : Nat → UInt64) (dk : Nat → Int32) (u : TRW) (th : Int32) (kp : Nat → UInt64) (fl : Nat → Int64) (fd : Nat → UInt64) {j : Nat} (hj : j + 2 < L) 
    (hP : va_P D vwCl (OUa a fl fd ++ (LOa a n wm df yg q wd zs h dk u ++ MOa a n wm df yg q wd zs h dk th kp)) H) (hD : va_D (Ah s) (OUa a fl fd ++ (LOa a n wm df yg q wd zs h dk u ++ MOa a n wm df yg q wd zs h dk th kp))) (hS : va_S (Ah s) s.heap H locs) (hl : lv_has ls 10 (LOC a b j)) (hc1 : cells + 1 ≤ room_1.cells) (hs1 : slots + 6 ≤ room_1.slots)
    (kk : (∀ (H : Heap) (locs : List Loc) (ls : Array Slot) (th' : Int32) (kp' : Nat → UInt64) (fl' : Nat → Int64) (fd' : Nat → UInt64), va_P D vwCl (OUa a (fl') (fd') ++ (LOa a n wm df yg q wd zs h dk u ++ MOa a n wm df yg q wd zs h dk (th') (kp'))) H → va_D (Ah s) (OUa a (fl') (fd') ++ (LOa a n wm df yg q wd zs h dk u ++ MOa a n wm df yg q wd zs h dk (th') (kp'))) → va_S (Ah s) s.heap H locs → lv_has ls 10 (LOC a b j) → W p l e room_1 s m #[Value.ref b] below meth c H locs (cells + 1) (slots + 6) Q (F0 m 1124 ls []))) :
    W p l e room_1 s m #[Value.ref b] below meth c H locs cells slots Q (F0 m 780 ls []) := by
  obtain ⟨hx, hb, hml, hown, hts, hK, hX, hH, hst, hXs, hbl, hL⟩ := C
  have hA : ∀ q : Nat, s.heap.size ≤ q → Ah s q := fun _ h => h
  have hbA : ¬ Ah s b := Nat.not_le.mpr hbl
  have hc0 : cells + 0 ≤ room_1.cells := by omega
  have hs0 : slots + 0 ≤ room_1.slots := by omega
  have hl : lv_has ls 10 [(5, .int (nI j)), (4, .ref a.od), (3, .ref a.ol), (2, .ref a.y), (1, .ref a.x), (0, .ref b)] := hl
  refine lv_aload_n hx hb dL_law_780 rfl (lv_at hl 4 rfl) ?_
  refine lv_aload_n hx hb dL_law_781 rfl (lv_at hl 5 rfl) ?_
  refine lv_iload hx hb dL_law_782 (lv_at hl 0 rfl) ?_
  refine lv_iconst (v := 1) hx hb dL_law_784 (by decide) ?_
  refine lv_iadd hx hb dL_law_785 ?_
  refine kx_sld hx hb hXs hbl hbA hS (j := j + 1) (nI_1 j) (by omega) hL dL_law_786 ?_
  refine lv_aload hx hb dL_law_787 (lv_at hl 1 rfl) ?_
  have hP2 : va_P D vwCl ([] ++ ((OUa a fl fd ++ LOa a n wm df yg q wd zs h dk u) ++ MOa a n wm df yg q wd zs h dk th kp)) H := by rw [← f12]; exact hP
  have hD2 : va_D (Ah s) ([] ++ ((OUa a fl fd ++ LOa a n wm df yg q wd zs h dk u) ++ MOa a n wm df yg q wd zs h dk th kp)) := by rw [← f12]; exact hD
  have hX9 : XP (Ah s) s H := hX.kept hS.2.1
  have hA9 : ∀ q : Nat, H.size ≤ q → Ah s q := fun q h9 => hA q (Nat.le_trans hS.1 h9)
  refine kh_i (w1 := []) (w3 := MOa a n wm df yg q wd zs h dk th kp) (vx_runSW (As := [.ref a.x, .int (xs (j + 1)), .ref a.od]) (rest := []) ⟨hx, hb, hml, hown, hts⟩ (metL_sugarOf l hst D H.size a.x a.r a.t a.d yg a.la a.bs a.cA a.cI n hn wm df q wd zs h (TRa a dk u) a.ol a.od a.cL a.cD fl fd (xs (j + 1)) ) (vx_cwSW 3 hts gL_law_L_sugarOf rfl rfl rfl (by decide +kernel) ⟨Nat.le_of_ble_eq_true rfl, Nat.le_of_ble_eq_true rfl⟩) (phS (vj_mP hP2) hK (vj_mD hD2) hX9 hH hA9) rfl rfl hl.1 rfl (lv_room (Nat.le_of_ble_eq_true rfl)) dL_law_789 ⟨hc1, hs1⟩) hP2 hD2 hS hA (fun r9 W9 H locs hp9 hP hD hS => ?_)
  rcases hp9 with ⟨hok9, rfl, rfl⟩ | ⟨hbad9, rfl, rfl⟩
  · rw [← f12] at hP hD
    have hP : va_P D vwCl (OUa a fl (vf_upd fd 0 (h (24 + ((xs (j + 1))).toNatClampNeg))) ++ (LOa a n wm df yg q wd zs h dk u ++ MOa a n wm df yg q wd zs h dk th kp)) H := hP
    have hD : va_D (Ah s) (OUa a fl (vf_upd fd 0 (h (24 + ((xs (j + 1))).toNatClampNeg))) ++ (LOa a n wm df yg q wd zs h dk u ++ MOa a n wm df yg q wd zs h dk th kp)) := hD
    refine lv_istore (lv' := [(6, .int 0), (5, .int (nI j)), (4, .ref a.od), (3, .ref a.ol), (2, .ref a.y), (1, .ref a.x), (0, .ref b)]) hx hb dL_law_792 hl (by decide) rfl (fun ls hl => ?_)
    refine lv_aload_n hx hb dL_law_794 rfl (lv_at hl 4 rfl) ?_
    refine lv_aload_n hx hb dL_law_795 rfl (lv_at hl 6 rfl) ?_
    refine lv_iload hx hb dL_law_796 (lv_at hl 1 rfl) ?_
    refine lv_iconst (v := 1) hx hb dL_law_798 (by decide) ?_
    refine lv_iadd hx hb dL_law_799 ?_
    refine kx_sld hx hb hXs hbl hbA hS (j := j + 1) (nI_1 j) (by omega) hL dL_law_800 ?_
    have hP3 : va_P D vwCl ((OUa a fl (vf_upd fd 0 (h (24 + ((xs (j + 1))).toNatClampNeg))) ++ LOa a n wm df yg q wd zs h dk u) ++ (MOa a n wm df yg q wd zs h dk th kp ++ [])) H := by rw [← f13]; exact hP
    have hD3 : va_D (Ah s) ((OUa a fl (vf_upd fd 0 (h (24 + ((xs (j + 1))).toNatClampNeg))) ++ LOa a n wm df yg q wd zs h dk u) ++ (MOa a n wm df yg q wd zs h dk th kp ++ [])) := by rw [← f13]; exact hD
    refine kc_d (w1 := OUa a fl (vf_upd fd 0 (h (24 + ((xs (j + 1))).toNatClampNeg))) ++ LOa a n wm df yg q wd zs h dk u) (w3 := []) (va_runV (As := [.int (xs (j + 1))]) (rest := []) ⟨hx, hb, hml, hown, hts⟩ (metX3_sugarOf l D H.size a.y a.aw a.az a.ah a.ak a.cI a.cD n hn wm yg q df (dk 0) (dk 1) (dk 2) th wd zs h kp (xs (j + 1))) (cwV 1 hts gL_law_X3_sugarOf rfl rfl rfl (by decide +kernel) ⟨Nat.le_of_ble_eq_true rfl, Nat.le_of_ble_eq_true rfl⟩) (pmV 3 0 RX3 TX3 13 rfl rfl (vj_mP hP3) (hK.sub [1, 3] rfl) (vj_mD hD3)) rfl rfl hl.1 rfl (lv_room (Nat.le_of_ble_eq_true rfl)) dL_law_801 ⟨hc1, hs1⟩) hP3 hD3 hS hA (fun H locs hP hD hS => ?_)
    rw [← f13] at hP hD
    have e9 : thI n (xs (j + 1)) = 0 := thI_n hok9
    rw [e9] at hP hD
    try simp only [if_pos (rfl : (0 : Int32) = 0)] at hP hD
    have hP : va_P D vwCl (OUa a fl (vf_upd fd 0 (h (24 + ((xs (j + 1))).toNatClampNeg))) ++ (LOa a n wm df yg q wd zs h dk u ++ MOa a n wm df yg q wd zs h dk 0 kp)) H := hP
    have hD : va_D (Ah s) (OUa a fl (vf_upd fd 0 (h (24 + ((xs (j + 1))).toNatClampNeg))) ++ (LOa a n wm df yg q wd zs h dk u ++ MOa a n wm df yg q wd zs h dk 0 kp)) := hD
    refine kd_eq (show (if thI n (xs (j + 1)) = 0 then h (24 + ((xs (j + 1))).toNatClampNeg) else 0) = h (24 + ((xs (j + 1))).toNatClampNeg) from by rw [e9, if_pos rfl]) ?_
    refine lv_dstore (lv' := [(7, .double (h (24 + ((xs (j + 1))).toNatClampNeg))), (6, .int 0), (5, .int (nI j)), (4, .ref a.od), (3, .ref a.ol), (2, .ref a.y), (1, .ref a.x), (0, .ref b)]) hx hb dL_law_804 hl (by decide) rfl (fun ls hl => ?_)
    refine lv_aload_n hx hb dL_law_806 rfl (lv_at hl 5 rfl) ?_
    have hP3 : va_P D vwCl ((OUa a fl (vf_upd fd 0 (h (24 + ((xs (j + 1))).toNatClampNeg))) ++ LOa a n wm df yg q wd zs h dk u) ++ (MOa a n wm df yg q wd zs h dk 0 kp ++ [])) H := by rw [← f13]; exact hP
    refine kr_i (W.runV (As := []) (rest := []) ⟨hx, hb, hml, hown, hts⟩ (metX3_thrown l D a.y a.aw a.az a.ah a.ak a.cI a.cD n hn wm yg q df (dk 0) (dk 1) (dk 2) 0 wd zs h kp ) (cwV 0 hts gL_law_X3_thrown rfl rfl rfl (by decide +kernel) ⟨Nat.le_of_ble_eq_true rfl, Nat.le_of_ble_eq_true rfl⟩) (prV 3 0 RX3 TX3 13 rfl rfl (vj_mP hP3) (hK.sub [1, 3] rfl)) rfl rfl hl.1 rfl (lv_room (Nat.le_of_ble_eq_true rfl)) dL_law_807 ⟨hc1, hs1⟩) ?_
    refine lv_iload hx hb dL_law_810 (lv_at hl 1 rfl) ?_
    refine lv_icmp_eq (tgt := 817) hx hb dL_law_812 (by decide) (fun c812 => ?_) (fun c812 => absurd rfl c812)
    refine lv_iload hx hb dL_law_817 (lv_at hl 1 rfl) ?_
    refine lv_if_ne (tgt := 854) hx hb dL_law_819 (by decide) (fun c819 => absurd c819 (fun h9 => h9 rfl)) (fun c819 => ?_)
    refine lv_aload hx hb dL_law_822 (lv_at hl 3 rfl) ?_
    refine lv_iconst (v := 0) hx hb dL_law_824 (by decide) ?_
    refine kx_dald hx hb hK (ws := OUa a fl (vf_upd fd 0 (h (24 + ((xs (j + 1))).toNatClampNeg))) ++ (LOa a n wm df yg q wd zs h dk u ++ MOa a n wm df yg q wd zs h dk 0 kp)) hP 1 3 (f := vf_upd fd 0 (h (24 + ((xs (j + 1))).toNatClampNeg))) rfl rfl (j := 0) rfl (by decide) (by decide) dL_law_825 ?_
    refine kd_eq (vu_s : (vf_upd fd 0 (h (24 + ((xs (j + 1))).toNatClampNeg))) 0 = h (24 + ((xs (j + 1))).toNatClampNeg)) ?_
    refine lv_dload hx hb dL_law_826 (lv_at hl 0 rfl) ?_
    by_cases cv : Op.cmpValue (FP.dcmp (h (24 + ((xs (j + 1))).toNatClampNeg)) (h (24 + ((xs (j + 1))).toNatClampNeg))) .l = 0
    · refine lv_dcmp hx hb dL_law_828 ?_
      refine lv_if_eq (tgt := 854) hx hb dL_law_829 (by decide) (fun _ => ?_) (fun h9 => absurd cv h9)
      refine lv_goto (tgt := 1124) hx hb dL_law_854 (by decide) ?_
      refine W.widen (k := cells + 1) (n := slots + 6) (by omega) (by omega) ?_
      exact kk H locs ls 0 kp fl (vf_upd fd 0 (h (24 + ((xs (j + 1))).toNatClampNeg))) hP hD hS (lv_sub hl [2, 3, 4, 5, 6, 7] rfl)
    · refine lv_dcmp hx hb dL_law_828 ?_
      refine lv_if_eq (tgt := 854) hx hb dL_law_829 (by decide) (fun h9 => absurd h9 cv) (fun _ => ?_)
      refine lv_aload hx hb dL_law_832 (lv_at hl 3 rfl) ?_
      refine lv_iconst (v := 0) hx hb dL_law_834 (by decide) ?_
      refine kx_dald hx hb hK (ws := OUa a fl (vf_upd fd 0 (h (24 + ((xs (j + 1))).toNatClampNeg))) ++ (LOa a n wm df yg q wd zs h dk u ++ MOa a n wm df yg q wd zs h dk 0 kp)) hP 1 3 (f := vf_upd fd 0 (h (24 + ((xs (j + 1))).toNatClampNeg))) rfl rfl (j := 0) rfl (by decide) (by decide) dL_law_835 ?_
      refine kd_eq (vu_s : (vf_upd fd 0 (h (24 + ((xs (j + 1))).toNatClampNeg))) 0 = h (24 + ((xs (j + 1))).toNatClampNeg)) ?_
      refine lv_aload hx hb dL_law_836 (lv_at hl 3 rfl) ?_
      refine lv_iconst (v := 0) hx hb dL_law_838 (by decide) ?_
      refine kx_dald hx hb hK (ws := OUa a fl (vf_upd fd 0 (h (24 + ((xs (j + 1))).toNatClampNeg))) ++ (LOa a n wm df yg q wd zs h dk u ++ MOa a n wm df yg q wd zs h dk 0 kp)) hP 1 3 (f := vf_upd fd 0 (h (24 + ((xs (j + 1))).toNatClampNeg))) rfl rfl (j := 0) rfl (by decide) (by decide) dL_law_839 ?_
      refine kd_eq (vu_s : (vf_upd fd 0 (h (24 + ((xs (j + 1))).toNatClampNeg))) 0 = h (24 + ((xs (j + 1))).toNatClampNeg)) ?_
      refine lv_dcmp hx hb dL_law_840 ?_
      refine lv_if_eq (tgt := 852) hx hb dL_law_841 (by decide) (fun h9 => absurd h9 cv) (fun _ => ?_)
      refine lv_dload hx hb dL_law_844 (lv_at hl 0 rfl) ?_
      refine lv_dload hx hb dL_law_846 (lv_at hl 0 rfl) ?_
      refine lv_dcmp hx hb dL_law_848 ?_
      refine lv_if_ne (tgt := 854) hx hb dL_law_849 (by decide) (fun _ => ?_) (fun h9 => absurd h9 cv)
      refine lv_goto (tgt := 1124) hx hb dL_law_854 (by decide) ?_
      refine W.widen (k := cells + 1) (n := slots + 6) (by omega) (by omega) ?_
      exact kk H locs ls 0 kp fl (vf_upd fd 0 (h (24 + ((xs (j + 1))).toNatClampNeg))) hP hD hS (lv_sub hl [2, 3, 4, 5, 6, 7] rfl)
  · rw [← f12] at hP hD
    have hP : va_P D vwCl (OUa a fl fd ++ (LOa a n wm df yg q wd zs h dk u ++ MOa a n wm df yg q wd zs h dk th kp)) H := hP
    have hD : va_D (Ah s) (OUa a fl fd ++ (LOa a n wm df yg q wd zs h dk u ++ MOa a n wm df yg q wd zs h dk th kp)) := hD
    refine lv_istore (lv' := [(6, .int 1), (5, .int (nI j)), (4, .ref a.od), (3, .ref a.ol), (2, .ref a.y), (1, .ref a.x), (0, .ref b)]) hx hb dL_law_792 hl (by decide) rfl (fun ls hl => ?_)
    refine lv_aload_n hx hb dL_law_794 rfl (lv_at hl 4 rfl) ?_
    refine lv_aload_n hx hb dL_law_795 rfl (lv_at hl 6 rfl) ?_
    refine lv_iload hx hb dL_law_796 (lv_at hl 1 rfl) ?_
    refine lv_iconst (v := 1) hx hb dL_law_798 (by decide) ?_
    refine lv_iadd hx hb dL_law_799 ?_
    refine kx_sld hx hb hXs hbl hbA hS (j := j + 1) (nI_1 j) (by omega) hL dL_law_800 ?_
    have hP3 : va_P D vwCl ((OUa a fl fd ++ LOa a n wm df yg q wd zs h dk u) ++ (MOa a n wm df yg q wd zs h dk th kp ++ [])) H := by rw [← f13]; exact hP
    have hD3 : va_D (Ah s) ((OUa a fl fd ++ LOa a n wm df yg q wd zs h dk u) ++ (MOa a n wm df yg q wd zs h dk th kp ++ [])) := by rw [← f13]; exact hD
    refine kc_d (w1 := OUa a fl fd ++ LOa a n wm df yg q wd zs h dk u) (w3 := []) (va_runV (As := [.int (xs (j + 1))]) (rest := []) ⟨hx, hb, hml, hown, hts⟩ (metX3_sugarOf l D H.size a.y a.aw a.az a.ah a.ak a.cI a.cD n hn wm yg q df (dk 0) (dk 1) (dk 2) th wd zs h kp (xs (j + 1))) (cwV 1 hts gL_law_X3_sugarOf rfl rfl rfl (by decide +kernel) ⟨Nat.le_of_ble_eq_true rfl, Nat.le_of_ble_eq_true rfl⟩) (pmV 3 0 RX3 TX3 13 rfl rfl (vj_mP hP3) (hK.sub [1, 3] rfl) (vj_mD hD3)) rfl rfl hl.1 rfl (lv_room (Nat.le_of_ble_eq_true rfl)) dL_law_801 ⟨hc1, hs1⟩) hP3 hD3 hS hA (fun H locs hP hD hS => ?_)
    rw [← f13] at hP hD
    have e9 : thI n (xs (j + 1)) = 1 := thI_y hbad9
    rw [e9] at hP hD
    try simp only [if_neg (show ¬ (1 : Int32) = 0 by decide)] at hP hD
    have hP : va_P D vwCl (OUa a fl fd ++ (LOa a n wm df yg q wd zs h dk u ++ MOa a n wm df yg q wd zs h dk 1 kp)) H := hP
    have hD : va_D (Ah s) (OUa a fl fd ++ (LOa a n wm df yg q wd zs h dk u ++ MOa a n wm df yg q wd zs h dk 1 kp)) := hD
    refine kd_eq (show (if thI n (xs (j + 1)) = 0 then h (24 + ((xs (j + 1))).toNatClampNeg) else 0) = 0 from by rw [e9, if_neg (by decide)]) ?_
    refine lv_dstore (lv' := [(7, .double 0), (6, .int 1), (5, .int (nI j)), (4, .ref a.od), (3, .ref a.ol), (2, .ref a.y), (1, .ref a.x), (0, .ref b)]) hx hb dL_law_804 hl (by decide) rfl (fun ls hl => ?_)
    refine lv_aload_n hx hb dL_law_806 rfl (lv_at hl 5 rfl) ?_
    have hP3 : va_P D vwCl ((OUa a fl fd ++ LOa a n wm df yg q wd zs h dk u) ++ (MOa a n wm df yg q wd zs h dk 1 kp ++ [])) H := by rw [← f13]; exact hP
    refine kr_i (W.runV (As := []) (rest := []) ⟨hx, hb, hml, hown, hts⟩ (metX3_thrown l D a.y a.aw a.az a.ah a.ak a.cI a.cD n hn wm yg q df (dk 0) (dk 1) (dk 2) 1 wd zs h kp ) (cwV 0 hts gL_law_X3_thrown rfl rfl rfl (by decide +kernel) ⟨Nat.le_of_ble_eq_true rfl, Nat.le_of_ble_eq_true rfl⟩) (prV 3 0 RX3 TX3 13 rfl rfl (vj_mP hP3) (hK.sub [1, 3] rfl)) rfl rfl hl.1 rfl (lv_room (Nat.le_of_ble_eq_true rfl)) dL_law_807 ⟨hc1, hs1⟩) ?_
    refine lv_iload hx hb dL_law_810 (lv_at hl 1 rfl) ?_
    refine lv_icmp_eq (tgt := 817) hx hb dL_law_812 (by decide) (fun c812 => ?_) (fun c812 => absurd rfl c812)
    refine lv_iload hx hb dL_law_817 (lv_at hl 1 rfl) ?_
    refine lv_if_ne (tgt := 854) hx hb dL_law_819 (by decide) (fun c819 => ?_) (fun c819 => absurd c819 (by decide))
    refine lv_goto (tgt := 1124) hx hb dL_law_854 (by decide) ?_
    refine W.widen (k := cells + 1) (n := slots + 6) (by omega) (by omega) ?_
    exact kk H locs ls 1 kp fl fd hP hD hS (lv_sub hl [2, 3, 4, 5, 6, 7] rfl)

set_option maxHeartbeats 4000000 in
set_option maxRecDepth 100000 in
theorem lawc_12 {p : Program} {l : Launch} {e : Env} {s : State} {m : MethodId} {below : List Frame} {meth : Method} {c : Code} {H : Heap} {locs : List Loc} {cells slots : Nat} {Q : State → Prop} {D : va_G} {b L : Nat} {xs : Nat → Int32} {a : AD} {ls : Array Slot} (C : LC p l s m c D b L xs a) (n : Nat) (hn : n ≤ 8) (wm df yg : Int32) (q : UInt64) (wd zs : Nat → Int32) (h : Nat → UInt64) (dk : Nat → Int32) (u : TRW) (th : Int32) (kp : Nat → UInt64) (fl : Nat → Int64) (fd : Nat → UInt64) {j : Nat} (hj : j + 2 < L) (hT : ∀ j, j < n → FP.dcmp (h j) 0 ≠ none ∧ (FP.dcmp (h j) 0 = some .gt → tasok (h (8 + j)) (h (16 + j)) (h (24 + j))))
    (hP : va_P D vwCl (OUa a fl fd ++ (LOa a n wm df yg q wd zs h dk u ++ MOa a n wm df yg q wd zs h dk th kp)) H) (hD : va_D (Ah s) (OUa a fl fd ++ (LOa a n wm df yg q wd zs h dk u ++ MOa a n wm df yg q wd zs h dk th kp))) (hS : va_S (Ah s) s.heap H locs) (hl : lv_has ls 10 (LOC a b j)) (hc1 : cells + 1 ≤ room_1.cells) (hs1 : slots + 6 ≤ room_1.slots)
    (kk : (∀ (H : Heap) (locs : List Loc) (ls : Array Slot) (th' : Int32) (kp' : Nat → UInt64) (fl' : Nat → Int64) (fd' : Nat → UInt64), va_P D vwCl (OUa a (fl') (fd') ++ (LOa a n wm df yg q wd zs h dk u ++ MOa a n wm df yg q wd zs h dk (th') (kp'))) H → va_D (Ah s) (OUa a (fl') (fd') ++ (LOa a n wm df yg q wd zs h dk u ++ MOa a n wm df yg q wd zs h dk (th') (kp'))) → va_S (Ah s) s.heap H locs → lv_has ls 10 (LOC a b j) → W p l e room_1 s m #[Value.ref b] below meth c H locs (cells + 1) (slots + 6) Q (F0 m 1124 ls []))) :
    W p l e room_1 s m #[Value.ref b] below meth c H locs cells slots Q (F0 m 857 ls []) := by
  obtain ⟨hx, hb, hml, hown, hts, hK, hX, hH, hst, hXs, hbl, hL⟩ := C
  have hA : ∀ q : Nat, s.heap.size ≤ q → Ah s q := fun _ h => h
  have hbA : ¬ Ah s b := Nat.not_le.mpr hbl
  have hc0 : cells + 0 ≤ room_1.cells := by omega
  have hs0 : slots + 0 ≤ room_1.slots := by omega
  have hl : lv_has ls 10 [(5, .int (nI j)), (4, .ref a.od), (3, .ref a.ol), (2, .ref a.y), (1, .ref a.x), (0, .ref b)] := hl
  refine lv_aload_n hx hb dL_law_857 rfl (lv_at hl 4 rfl) ?_
  refine lv_aload_n hx hb dL_law_858 rfl (lv_at hl 5 rfl) ?_
  refine lv_iload hx hb dL_law_859 (lv_at hl 0 rfl) ?_
  refine lv_iconst (v := 1) hx hb dL_law_861 (by decide) ?_
  refine lv_iadd hx hb dL_law_862 ?_
  refine kx_sld hx hb hXs hbl hbA hS (j := j + 1) (nI_1 j) (by omega) hL dL_law_863 ?_
  refine lv_aload hx hb dL_law_864 (lv_at hl 1 rfl) ?_
  have hP2 : va_P D vwCl ([] ++ ((OUa a fl fd ++ LOa a n wm df yg q wd zs h dk u) ++ MOa a n wm df yg q wd zs h dk th kp)) H := by rw [← f12]; exact hP
  have hD2 : va_D (Ah s) ([] ++ ((OUa a fl fd ++ LOa a n wm df yg q wd zs h dk u) ++ MOa a n wm df yg q wd zs h dk th kp)) := by rw [← f12]; exact hD
  have hX9 : XP (Ah s) s H := hX.kept hS.2.1
  have hA9 : ∀ q : Nat, H.size ≤ q → Ah s q := fun q h9 => hA q (Nat.le_trans hS.1 h9)
  refine kh_i (w1 := []) (w3 := MOa a n wm df yg q wd zs h dk th kp) (vx_runSW (As := [.ref a.x, .int (xs (j + 1)), .ref a.od]) (rest := []) ⟨hx, hb, hml, hown, hts⟩ (metL_tasteOf l hst D H.size a.x a.r a.t a.d yg a.la a.bs a.cA a.cI n hn wm df q wd zs h (TRa a dk u) a.ol a.od a.cL a.cD fl fd (xs (j + 1)) hT) (vx_cwSW 3 hts gL_law_L_tasteOf rfl rfl rfl (by decide +kernel) ⟨Nat.le_of_ble_eq_true rfl, Nat.le_of_ble_eq_true rfl⟩) (phS (vj_mP hP2) hK (vj_mD hD2) hX9 hH hA9) rfl rfl hl.1 rfl (lv_room (Nat.le_of_ble_eq_true rfl)) dL_law_866 ⟨hc1, hs1⟩) hP2 hD2 hS hA (fun r9 W9 H locs hp9 hP hD hS => ?_)
  rcases hp9 with ⟨hok9, rfl, rfl⟩ | ⟨hbad9, rfl, rfl⟩
  · rw [← f12] at hP hD
    have hP : va_P D vwCl (OUa a fl (vf_upd fd 0 (let j := ((xs (j + 1))).toNatClampNeg; tasv (h j) (h (8 + j)) (h (16 + j)) (h (24 + j)))) ++ (LOa a n wm df yg q wd zs h dk u ++ MOa a n wm df yg q wd zs h dk th kp)) H := hP
    have hD : va_D (Ah s) (OUa a fl (vf_upd fd 0 (let j := ((xs (j + 1))).toNatClampNeg; tasv (h j) (h (8 + j)) (h (16 + j)) (h (24 + j)))) ++ (LOa a n wm df yg q wd zs h dk u ++ MOa a n wm df yg q wd zs h dk th kp)) := hD
    refine lv_istore (lv' := [(6, .int 0), (5, .int (nI j)), (4, .ref a.od), (3, .ref a.ol), (2, .ref a.y), (1, .ref a.x), (0, .ref b)]) hx hb dL_law_869 hl (by decide) rfl (fun ls hl => ?_)
    refine lv_aload_n hx hb dL_law_871 rfl (lv_at hl 4 rfl) ?_
    refine lv_aload_n hx hb dL_law_872 rfl (lv_at hl 6 rfl) ?_
    refine lv_iload hx hb dL_law_873 (lv_at hl 1 rfl) ?_
    refine lv_iconst (v := 1) hx hb dL_law_875 (by decide) ?_
    refine lv_iadd hx hb dL_law_876 ?_
    refine kx_sld hx hb hXs hbl hbA hS (j := j + 1) (nI_1 j) (by omega) hL dL_law_877 ?_
    have hP3 : va_P D vwCl ((OUa a fl (vf_upd fd 0 (let j := ((xs (j + 1))).toNatClampNeg; tasv (h j) (h (8 + j)) (h (16 + j)) (h (24 + j)))) ++ LOa a n wm df yg q wd zs h dk u) ++ (MOa a n wm df yg q wd zs h dk th kp ++ [])) H := by rw [← f13]; exact hP
    have hD3 : va_D (Ah s) ((OUa a fl (vf_upd fd 0 (let j := ((xs (j + 1))).toNatClampNeg; tasv (h j) (h (8 + j)) (h (16 + j)) (h (24 + j)))) ++ LOa a n wm df yg q wd zs h dk u) ++ (MOa a n wm df yg q wd zs h dk th kp ++ [])) := by rw [← f13]; exact hD
    refine kc_d (w1 := OUa a fl (vf_upd fd 0 (let j := ((xs (j + 1))).toNatClampNeg; tasv (h j) (h (8 + j)) (h (16 + j)) (h (24 + j)))) ++ LOa a n wm df yg q wd zs h dk u) (w3 := []) (va_runV (As := [.int (xs (j + 1))]) (rest := []) ⟨hx, hb, hml, hown, hts⟩ (metX3_tasteOf l D H.size a.y a.aw a.az a.ah a.ak a.cI a.cD n hn wm yg q df (dk 0) (dk 1) (dk 2) th wd zs h kp (xs (j + 1)) hT) (cwV 1 hts gL_law_X3_tasteOf rfl rfl rfl (by decide +kernel) ⟨Nat.le_of_ble_eq_true rfl, Nat.le_of_ble_eq_true rfl⟩) (pmV 3 0 RX3 TX3 13 rfl rfl (vj_mP hP3) (hK.sub [1, 3] rfl) (vj_mD hD3)) rfl rfl hl.1 rfl (lv_room (Nat.le_of_ble_eq_true rfl)) dL_law_878 ⟨hc1, hs1⟩) hP3 hD3 hS hA (fun H locs hP hD hS => ?_)
    rw [← f13] at hP hD
    have e9 : thI n (xs (j + 1)) = 0 := thI_n hok9
    rw [e9] at hP hD
    try simp only [if_pos (rfl : (0 : Int32) = 0)] at hP hD
    have hP : va_P D vwCl (OUa a fl (vf_upd fd 0 (let j := ((xs (j + 1))).toNatClampNeg; tasv (h j) (h (8 + j)) (h (16 + j)) (h (24 + j)))) ++ (LOa a n wm df yg q wd zs h dk u ++ MOa a n wm df yg q wd zs h dk 0 kp)) H := hP
    have hD : va_D (Ah s) (OUa a fl (vf_upd fd 0 (let j := ((xs (j + 1))).toNatClampNeg; tasv (h j) (h (8 + j)) (h (16 + j)) (h (24 + j)))) ++ (LOa a n wm df yg q wd zs h dk u ++ MOa a n wm df yg q wd zs h dk 0 kp)) := hD
    refine kd_eq (show (if thI n (xs (j + 1)) = 0 then (let j := ((xs (j + 1))).toNatClampNeg; tasv (h j) (h (8 + j)) (h (16 + j)) (h (24 + j))) else 0) = (let j := ((xs (j + 1))).toNatClampNeg; tasv (h j) (h (8 + j)) (h (16 + j)) (h (24 + j))) from by rw [e9, if_pos rfl]) ?_
    refine lv_dstore (lv' := [(7, .double (let j := ((xs (j + 1))).toNatClampNeg; tasv (h j) (h (8 + j)) (h (16 + j)) (h (24 + j)))), (6, .int 0), (5, .int (nI j)), (4, .ref a.od), (3, .ref a.ol), (2, .ref a.y), (1, .ref a.x), (0, .ref b)]) hx hb dL_law_881 hl (by decide) rfl (fun ls hl => ?_)
    refine lv_aload_n hx hb dL_law_883 rfl (lv_at hl 5 rfl) ?_
    have hP3 : va_P D vwCl ((OUa a fl (vf_upd fd 0 (let j := ((xs (j + 1))).toNatClampNeg; tasv (h j) (h (8 + j)) (h (16 + j)) (h (24 + j)))) ++ LOa a n wm df yg q wd zs h dk u) ++ (MOa a n wm df yg q wd zs h dk 0 kp ++ [])) H := by rw [← f13]; exact hP
    refine kr_i (W.runV (As := []) (rest := []) ⟨hx, hb, hml, hown, hts⟩ (metX3_thrown l D a.y a.aw a.az a.ah a.ak a.cI a.cD n hn wm yg q df (dk 0) (dk 1) (dk 2) 0 wd zs h kp ) (cwV 0 hts gL_law_X3_thrown rfl rfl rfl (by decide +kernel) ⟨Nat.le_of_ble_eq_true rfl, Nat.le_of_ble_eq_true rfl⟩) (prV 3 0 RX3 TX3 13 rfl rfl (vj_mP hP3) (hK.sub [1, 3] rfl)) rfl rfl hl.1 rfl (lv_room (Nat.le_of_ble_eq_true rfl)) dL_law_884 ⟨hc1, hs1⟩) ?_
    refine lv_iload hx hb dL_law_887 (lv_at hl 1 rfl) ?_
    refine lv_icmp_eq (tgt := 894) hx hb dL_law_889 (by decide) (fun c889 => ?_) (fun c889 => absurd rfl c889)
    refine lv_iload hx hb dL_law_894 (lv_at hl 1 rfl) ?_
    refine lv_if_ne (tgt := 931) hx hb dL_law_896 (by decide) (fun c896 => absurd c896 (fun h9 => h9 rfl)) (fun c896 => ?_)
    refine lv_aload hx hb dL_law_899 (lv_at hl 3 rfl) ?_
    refine lv_iconst (v := 0) hx hb dL_law_901 (by decide) ?_
    refine kx_dald hx hb hK (ws := OUa a fl (vf_upd fd 0 (let j := ((xs (j + 1))).toNatClampNeg; tasv (h j) (h (8 + j)) (h (16 + j)) (h (24 + j)))) ++ (LOa a n wm df yg q wd zs h dk u ++ MOa a n wm df yg q wd zs h dk 0 kp)) hP 1 3 (f := vf_upd fd 0 (let j := ((xs (j + 1))).toNatClampNeg; tasv (h j) (h (8 + j)) (h (16 + j)) (h (24 + j)))) rfl rfl (j := 0) rfl (by decide) (by decide) dL_law_902 ?_
    refine kd_eq (vu_s : (vf_upd fd 0 (let j := ((xs (j + 1))).toNatClampNeg; tasv (h j) (h (8 + j)) (h (16 + j)) (h (24 + j)))) 0 = let j := ((xs (j + 1))).toNatClampNeg; tasv (h j) (h (8 + j)) (h (16 + j)) (h (24 + j))) ?_
    refine lv_dload hx hb dL_law_903 (lv_at hl 0 rfl) ?_
    by_cases cv : Op.cmpValue (FP.dcmp (let j := ((xs (j + 1))).toNatClampNeg; tasv (h j) (h (8 + j)) (h (16 + j)) (h (24 + j))) (let j := ((xs (j + 1))).toNatClampNeg; tasv (h j) (h (8 + j)) (h (16 + j)) (h (24 + j)))) .l = 0
    · refine lv_dcmp hx hb dL_law_905 ?_
      refine lv_if_eq (tgt := 931) hx hb dL_law_906 (by decide) (fun _ => ?_) (fun h9 => absurd cv h9)
      refine lv_goto (tgt := 1124) hx hb dL_law_931 (by decide) ?_
      refine W.widen (k := cells + 1) (n := slots + 6) (by omega) (by omega) ?_
      exact kk H locs ls 0 kp fl (vf_upd fd 0 (let j := ((xs (j + 1))).toNatClampNeg; tasv (h j) (h (8 + j)) (h (16 + j)) (h (24 + j)))) hP hD hS (lv_sub hl [2, 3, 4, 5, 6, 7] rfl)
    · refine lv_dcmp hx hb dL_law_905 ?_
      refine lv_if_eq (tgt := 931) hx hb dL_law_906 (by decide) (fun h9 => absurd h9 cv) (fun _ => ?_)
      refine lv_aload hx hb dL_law_909 (lv_at hl 3 rfl) ?_
      refine lv_iconst (v := 0) hx hb dL_law_911 (by decide) ?_
      refine kx_dald hx hb hK (ws := OUa a fl (vf_upd fd 0 (let j := ((xs (j + 1))).toNatClampNeg; tasv (h j) (h (8 + j)) (h (16 + j)) (h (24 + j)))) ++ (LOa a n wm df yg q wd zs h dk u ++ MOa a n wm df yg q wd zs h dk 0 kp)) hP 1 3 (f := vf_upd fd 0 (let j := ((xs (j + 1))).toNatClampNeg; tasv (h j) (h (8 + j)) (h (16 + j)) (h (24 + j)))) rfl rfl (j := 0) rfl (by decide) (by decide) dL_law_912 ?_
      refine kd_eq (vu_s : (vf_upd fd 0 (let j := ((xs (j + 1))).toNatClampNeg; tasv (h j) (h (8 + j)) (h (16 + j)) (h (24 + j)))) 0 = let j := ((xs (j + 1))).toNatClampNeg; tasv (h j) (h (8 + j)) (h (16 + j)) (h (24 + j))) ?_
      refine lv_aload hx hb dL_law_913 (lv_at hl 3 rfl) ?_
      refine lv_iconst (v := 0) hx hb dL_law_915 (by decide) ?_
      refine kx_dald hx hb hK (ws := OUa a fl (vf_upd fd 0 (let j := ((xs (j + 1))).toNatClampNeg; tasv (h j) (h (8 + j)) (h (16 + j)) (h (24 + j)))) ++ (LOa a n wm df yg q wd zs h dk u ++ MOa a n wm df yg q wd zs h dk 0 kp)) hP 1 3 (f := vf_upd fd 0 (let j := ((xs (j + 1))).toNatClampNeg; tasv (h j) (h (8 + j)) (h (16 + j)) (h (24 + j)))) rfl rfl (j := 0) rfl (by decide) (by decide) dL_law_916 ?_
      refine kd_eq (vu_s : (vf_upd fd 0 (let j := ((xs (j + 1))).toNatClampNeg; tasv (h j) (h (8 + j)) (h (16 + j)) (h (24 + j)))) 0 = let j := ((xs (j + 1))).toNatClampNeg; tasv (h j) (h (8 + j)) (h (16 + j)) (h (24 + j))) ?_
      refine lv_dcmp hx hb dL_law_917 ?_
      refine lv_if_eq (tgt := 929) hx hb dL_law_918 (by decide) (fun h9 => absurd h9 cv) (fun _ => ?_)
      refine lv_dload hx hb dL_law_921 (lv_at hl 0 rfl) ?_
      refine lv_dload hx hb dL_law_923 (lv_at hl 0 rfl) ?_
      refine lv_dcmp hx hb dL_law_925 ?_
      refine lv_if_ne (tgt := 931) hx hb dL_law_926 (by decide) (fun _ => ?_) (fun h9 => absurd h9 cv)
      refine lv_goto (tgt := 1124) hx hb dL_law_931 (by decide) ?_
      refine W.widen (k := cells + 1) (n := slots + 6) (by omega) (by omega) ?_
      exact kk H locs ls 0 kp fl (vf_upd fd 0 (let j := ((xs (j + 1))).toNatClampNeg; tasv (h j) (h (8 + j)) (h (16 + j)) (h (24 + j)))) hP hD hS (lv_sub hl [2, 3, 4, 5, 6, 7] rfl)
  · rw [← f12] at hP hD
    have hP : va_P D vwCl (OUa a fl fd ++ (LOa a n wm df yg q wd zs h dk u ++ MOa a n wm df yg q wd zs h dk th kp)) H := hP
    have hD : va_D (Ah s) (OUa a fl fd ++ (LOa a n wm df yg q wd zs h dk u ++ MOa a n wm df yg q wd zs h dk th kp)) := hD
    refine lv_istore (lv' := [(6, .int 1), (5, .int (nI j)), (4, .ref a.od), (3, .ref a.ol), (2, .ref a.y), (1, .ref a.x), (0, .ref b)]) hx hb dL_law_869 hl (by decide) rfl (fun ls hl => ?_)
    refine lv_aload_n hx hb dL_law_871 rfl (lv_at hl 4 rfl) ?_
    refine lv_aload_n hx hb dL_law_872 rfl (lv_at hl 6 rfl) ?_
    refine lv_iload hx hb dL_law_873 (lv_at hl 1 rfl) ?_
    refine lv_iconst (v := 1) hx hb dL_law_875 (by decide) ?_
    refine lv_iadd hx hb dL_law_876 ?_
    refine kx_sld hx hb hXs hbl hbA hS (j := j + 1) (nI_1 j) (by omega) hL dL_law_877 ?_
    have hP3 : va_P D vwCl ((OUa a fl fd ++ LOa a n wm df yg q wd zs h dk u) ++ (MOa a n wm df yg q wd zs h dk th kp ++ [])) H := by rw [← f13]; exact hP
    have hD3 : va_D (Ah s) ((OUa a fl fd ++ LOa a n wm df yg q wd zs h dk u) ++ (MOa a n wm df yg q wd zs h dk th kp ++ [])) := by rw [← f13]; exact hD
    refine kc_d (w1 := OUa a fl fd ++ LOa a n wm df yg q wd zs h dk u) (w3 := []) (va_runV (As := [.int (xs (j + 1))]) (rest := []) ⟨hx, hb, hml, hown, hts⟩ (metX3_tasteOf l D H.size a.y a.aw a.az a.ah a.ak a.cI a.cD n hn wm yg q df (dk 0) (dk 1) (dk 2) th wd zs h kp (xs (j + 1)) hT) (cwV 1 hts gL_law_X3_tasteOf rfl rfl rfl (by decide +kernel) ⟨Nat.le_of_ble_eq_true rfl, Nat.le_of_ble_eq_true rfl⟩) (pmV 3 0 RX3 TX3 13 rfl rfl (vj_mP hP3) (hK.sub [1, 3] rfl) (vj_mD hD3)) rfl rfl hl.1 rfl (lv_room (Nat.le_of_ble_eq_true rfl)) dL_law_878 ⟨hc1, hs1⟩) hP3 hD3 hS hA (fun H locs hP hD hS => ?_)
    rw [← f13] at hP hD
    have e9 : thI n (xs (j + 1)) = 1 := thI_y hbad9
    rw [e9] at hP hD
    try simp only [if_neg (show ¬ (1 : Int32) = 0 by decide)] at hP hD
    have hP : va_P D vwCl (OUa a fl fd ++ (LOa a n wm df yg q wd zs h dk u ++ MOa a n wm df yg q wd zs h dk 1 kp)) H := hP
    have hD : va_D (Ah s) (OUa a fl fd ++ (LOa a n wm df yg q wd zs h dk u ++ MOa a n wm df yg q wd zs h dk 1 kp)) := hD
    refine kd_eq (show (if thI n (xs (j + 1)) = 0 then (let j := ((xs (j + 1))).toNatClampNeg; tasv (h j) (h (8 + j)) (h (16 + j)) (h (24 + j))) else 0) = 0 from by rw [e9, if_neg (by decide)]) ?_
    refine lv_dstore (lv' := [(7, .double 0), (6, .int 1), (5, .int (nI j)), (4, .ref a.od), (3, .ref a.ol), (2, .ref a.y), (1, .ref a.x), (0, .ref b)]) hx hb dL_law_881 hl (by decide) rfl (fun ls hl => ?_)
    refine lv_aload_n hx hb dL_law_883 rfl (lv_at hl 5 rfl) ?_
    have hP3 : va_P D vwCl ((OUa a fl fd ++ LOa a n wm df yg q wd zs h dk u) ++ (MOa a n wm df yg q wd zs h dk 1 kp ++ [])) H := by rw [← f13]; exact hP
    refine kr_i (W.runV (As := []) (rest := []) ⟨hx, hb, hml, hown, hts⟩ (metX3_thrown l D a.y a.aw a.az a.ah a.ak a.cI a.cD n hn wm yg q df (dk 0) (dk 1) (dk 2) 1 wd zs h kp ) (cwV 0 hts gL_law_X3_thrown rfl rfl rfl (by decide +kernel) ⟨Nat.le_of_ble_eq_true rfl, Nat.le_of_ble_eq_true rfl⟩) (prV 3 0 RX3 TX3 13 rfl rfl (vj_mP hP3) (hK.sub [1, 3] rfl)) rfl rfl hl.1 rfl (lv_room (Nat.le_of_ble_eq_true rfl)) dL_law_884 ⟨hc1, hs1⟩) ?_
    refine lv_iload hx hb dL_law_887 (lv_at hl 1 rfl) ?_
    refine lv_icmp_eq (tgt := 894) hx hb dL_law_889 (by decide) (fun c889 => ?_) (fun c889 => absurd rfl c889)
    refine lv_iload hx hb dL_law_894 (lv_at hl 1 rfl) ?_
    refine lv_if_ne (tgt := 931) hx hb dL_law_896 (by decide) (fun c896 => ?_) (fun c896 => absurd c896 (by decide))
    refine lv_goto (tgt := 1124) hx hb dL_law_931 (by decide) ?_
    refine W.widen (k := cells + 1) (n := slots + 6) (by omega) (by omega) ?_
    exact kk H locs ls 1 kp fl fd hP hD hS (lv_sub hl [2, 3, 4, 5, 6, 7] rfl)

theorem bot3 {dk : Nat → Int32} {x : Int32} (h : ¬ badR 0 2 x) : (if x = 0 then dk 0 else if x = 1 then dk 1 else dk 2) = dk x.toNatClampNeg := by
  have h1 : ¬ x < 0 := fun h9 => h (Or.inl h9)
  have h2 : ¬ 2 < x := fun h9 => h (Or.inr h9)
  obtain ⟨j, hj, rfl⟩ := nI_of h1
  have h3 : j ≤ 2 := Nat.not_lt.mp fun h9 => h2 ((nI_ltI (a := 2) (b := j) (by decide) hj).mpr h9)
  rw [nI_clamp (by omega)]
  rcases (show j = 0 ∨ j = 1 ∨ j = 2 by omega) with rfl | rfl | rfl
  · rfl
  · rfl
  · rfl

set_option maxHeartbeats 4000000 in
set_option maxRecDepth 100000 in
theorem lawc_15 {p : Program} {l : Launch} {e : Env} {s : State} {m : MethodId} {below : List Frame} {meth : Method} {c : Code} {H : Heap} {locs : List Loc} {cells slots : Nat} {Q : State → Prop} {D : va_G} {b L : Nat} {xs : Nat → Int32} {a : AD} {ls : Array Slot} (C : LC p l s m c D b L xs a) (n : Nat) (hn : n ≤ 8) (wm df yg : Int32) (q : UInt64) (wd zs : Nat → Int32) (h : Nat → UInt64) (dk : Nat → Int32) (u : TRW) (th : Int32) (kp : Nat → UInt64) (fl : Nat → Int64) (fd : Nat → UInt64) {j : Nat} (hj : j + 2 < L) 
    (hP : va_P D vwCl (OUa a fl fd ++ (LOa a n wm df yg q wd zs h dk u ++ MOa a n wm df yg q wd zs h dk th kp)) H) (hD : va_D (Ah s) (OUa a fl fd ++ (LOa a n wm df yg q wd zs h dk u ++ MOa a n wm df yg q wd zs h dk th kp))) (hS : va_S (Ah s) s.heap H locs) (hl : lv_has ls 10 (LOC a b j)) (hc1 : cells + 1 ≤ room_1.cells) (hs1 : slots + 6 ≤ room_1.slots)
    (kk : (∀ (H : Heap) (locs : List Loc) (ls : Array Slot) (th' : Int32) (kp' : Nat → UInt64) (fl' : Nat → Int64) (fd' : Nat → UInt64), va_P D vwCl (OUa a (fl') (fd') ++ (LOa a n wm df yg q wd zs h dk u ++ MOa a n wm df yg q wd zs h dk (th') (kp'))) H → va_D (Ah s) (OUa a (fl') (fd') ++ (LOa a n wm df yg q wd zs h dk u ++ MOa a n wm df yg q wd zs h dk (th') (kp'))) → va_S (Ah s) s.heap H locs → lv_has ls 10 (LOC a b j) → W p l e room_1 s m #[Value.ref b] below meth c H locs (cells + 1) (slots + 6) Q (F0 m 1124 ls []))) :
    W p l e room_1 s m #[Value.ref b] below meth c H locs cells slots Q (F0 m 960 ls []) := by
  obtain ⟨hx, hb, hml, hown, hts, hK, hX, hH, hst, hXs, hbl, hL⟩ := C
  have hA : ∀ q : Nat, s.heap.size ≤ q → Ah s q := fun _ h => h
  have hbA : ¬ Ah s b := Nat.not_le.mpr hbl
  have hc0 : cells + 0 ≤ room_1.cells := by omega
  have hs0 : slots + 0 ≤ room_1.slots := by omega
  have hl : lv_has ls 10 [(5, .int (nI j)), (4, .ref a.od), (3, .ref a.ol), (2, .ref a.y), (1, .ref a.x), (0, .ref b)] := hl
  refine lv_aload_n hx hb dL_law_960 rfl (lv_at hl 4 rfl) ?_
  refine lv_aload_n hx hb dL_law_961 rfl (lv_at hl 5 rfl) ?_
  refine lv_iload hx hb dL_law_962 (lv_at hl 0 rfl) ?_
  refine lv_iconst (v := 1) hx hb dL_law_964 (by decide) ?_
  refine lv_iadd hx hb dL_law_965 ?_
  refine kx_sld hx hb hXs hbl hbA hS (j := j + 1) (nI_1 j) (by omega) hL dL_law_966 ?_
  refine lv_aload_n hx hb dL_law_967 rfl (lv_at hl 2 rfl) ?_
  have hP2 : va_P D vwCl ([] ++ ((OUa a fl fd ++ LOa a n wm df yg q wd zs h dk u) ++ MOa a n wm df yg q wd zs h dk th kp)) H := by rw [← f12]; exact hP
  have hD2 : va_D (Ah s) ([] ++ ((OUa a fl fd ++ LOa a n wm df yg q wd zs h dk u) ++ MOa a n wm df yg q wd zs h dk th kp)) := by rw [← f12]; exact hD
  have hX9 : XP (Ah s) s H := hX.kept hS.2.1
  have hA9 : ∀ q : Nat, H.size ≤ q → Ah s q := fun q h9 => hA q (Nat.le_trans hS.1 h9)
  refine kh_i (w1 := []) (w3 := MOa a n wm df yg q wd zs h dk th kp) (vx_runSW (As := [.ref a.x, .int (xs (j + 1)), .ref a.ol]) (rest := []) ⟨hx, hb, hml, hown, hts⟩ (metL_bottles l hst D H.size a.x a.r a.t a.d yg a.la a.bs a.cA a.cI n hn wm df q wd zs h (rowW a.t a.lt a.bt a.cA (nI u.1) u.2.1 u.2.2.1 u.2.2.2.1 u.2.2.2.2.1 u.2.2.2.2.2.1 u.2.2.2.2.2.2) dk a.ol a.od a.cL a.cD fl fd (xs (j + 1)) ) (vx_cwSW 3 hts gL_law_L_bottles rfl rfl rfl (by decide +kernel) ⟨Nat.le_of_ble_eq_true rfl, Nat.le_of_ble_eq_true rfl⟩) (phS (vj_mP hP2) hK (vj_mD hD2) hX9 hH hA9) rfl rfl hl.1 rfl (lv_room (Nat.le_of_ble_eq_true rfl)) dL_law_968 ⟨hc1, hs1⟩) hP2 hD2 hS hA (fun r9 W9 H locs hp9 hP hD hS => ?_)
  rcases hp9 with ⟨hok9, rfl, rfl⟩ | ⟨hbad9, rfl, rfl⟩
  · rw [← f12] at hP hD
    have hP : va_P D vwCl (OUa a (vp_updL fl 0 (dk ((xs (j + 1))).toNatClampNeg).toInt64) fd ++ (LOa a n wm df yg q wd zs h dk u ++ MOa a n wm df yg q wd zs h dk th kp)) H := hP
    have hD : va_D (Ah s) (OUa a (vp_updL fl 0 (dk ((xs (j + 1))).toNatClampNeg).toInt64) fd ++ (LOa a n wm df yg q wd zs h dk u ++ MOa a n wm df yg q wd zs h dk th kp)) := hD
    refine lv_istore (lv' := [(6, .int 0), (5, .int (nI j)), (4, .ref a.od), (3, .ref a.ol), (2, .ref a.y), (1, .ref a.x), (0, .ref b)]) hx hb dL_law_971 hl (by decide) rfl (fun ls hl => ?_)
    refine lv_aload_n hx hb dL_law_973 rfl (lv_at hl 4 rfl) ?_
    refine lv_aload_n hx hb dL_law_974 rfl (lv_at hl 6 rfl) ?_
    refine lv_iload hx hb dL_law_975 (lv_at hl 1 rfl) ?_
    refine lv_iconst (v := 1) hx hb dL_law_977 (by decide) ?_
    refine lv_iadd hx hb dL_law_978 ?_
    refine kx_sld hx hb hXs hbl hbA hS (j := j + 1) (nI_1 j) (by omega) hL dL_law_979 ?_
    have hP3 : va_P D vwCl ((OUa a (vp_updL fl 0 (dk ((xs (j + 1))).toNatClampNeg).toInt64) fd ++ LOa a n wm df yg q wd zs h dk u) ++ (MOa a n wm df yg q wd zs h dk th kp ++ [])) H := by rw [← f13]; exact hP
    have hD3 : va_D (Ah s) ((OUa a (vp_updL fl 0 (dk ((xs (j + 1))).toNatClampNeg).toInt64) fd ++ LOa a n wm df yg q wd zs h dk u) ++ (MOa a n wm df yg q wd zs h dk th kp ++ [])) := by rw [← f13]; exact hD
    refine kc_i (w1 := OUa a (vp_updL fl 0 (dk ((xs (j + 1))).toNatClampNeg).toInt64) fd ++ LOa a n wm df yg q wd zs h dk u) (w3 := []) (va_runV (As := [.int (xs (j + 1))]) (rest := []) ⟨hx, hb, hml, hown, hts⟩ (metX3_bottles l D H.size a.y a.aw a.az a.ah a.ak a.cI a.cD n hn wm yg q df (dk 0) (dk 1) (dk 2) th wd zs h kp (xs (j + 1))) (cwV 1 hts gL_law_X3_bottles rfl rfl rfl (by decide +kernel) ⟨Nat.le_of_ble_eq_true rfl, Nat.le_of_ble_eq_true rfl⟩) (pmV 3 0 RX3 TX3 13 rfl rfl (vj_mP hP3) (hK.sub [1, 3] rfl) (vj_mD hD3)) rfl rfl hl.1 rfl (lv_room (Nat.le_of_ble_eq_true rfl)) dL_law_980 ⟨hc1, hs1⟩) hP3 hD3 hS hA (fun H locs hP hD hS => ?_)
    rw [← f13] at hP hD
    have e9 : thR 0 2 (xs (j + 1)) = 0 := thR_n hok9
    rw [e9] at hP hD
    try simp only [if_pos (rfl : (0 : Int32) = 0)] at hP hD
    have hP : va_P D vwCl (OUa a (vp_updL fl 0 (dk ((xs (j + 1))).toNatClampNeg).toInt64) fd ++ (LOa a n wm df yg q wd zs h dk u ++ MOa a n wm df yg q wd zs h dk 0 kp)) H := hP
    have hD : va_D (Ah s) (OUa a (vp_updL fl 0 (dk ((xs (j + 1))).toNatClampNeg).toInt64) fd ++ (LOa a n wm df yg q wd zs h dk u ++ MOa a n wm df yg q wd zs h dk 0 kp)) := hD
    refine ki_eq (show (if thR 0 2 (xs (j + 1)) = 0 then (if (xs (j + 1)) = 0 then dk 0 else if (xs (j + 1)) = 1 then dk 1 else dk 2) else 0) = dk ((xs (j + 1))).toNatClampNeg from by rw [e9, if_pos rfl]; exact bot3 hok9) ?_
    refine lv_istore (lv' := [(7, .int (dk ((xs (j + 1))).toNatClampNeg)), (6, .int 0), (5, .int (nI j)), (4, .ref a.od), (3, .ref a.ol), (2, .ref a.y), (1, .ref a.x), (0, .ref b)]) hx hb dL_law_983 hl (by decide) rfl (fun ls hl => ?_)
    refine lv_aload_n hx hb dL_law_985 rfl (lv_at hl 5 rfl) ?_
    have hP3 : va_P D vwCl ((OUa a (vp_updL fl 0 (dk ((xs (j + 1))).toNatClampNeg).toInt64) fd ++ LOa a n wm df yg q wd zs h dk u) ++ (MOa a n wm df yg q wd zs h dk 0 kp ++ [])) H := by rw [← f13]; exact hP
    refine kr_i (W.runV (As := []) (rest := []) ⟨hx, hb, hml, hown, hts⟩ (metX3_thrown l D a.y a.aw a.az a.ah a.ak a.cI a.cD n hn wm yg q df (dk 0) (dk 1) (dk 2) 0 wd zs h kp ) (cwV 0 hts gL_law_X3_thrown rfl rfl rfl (by decide +kernel) ⟨Nat.le_of_ble_eq_true rfl, Nat.le_of_ble_eq_true rfl⟩) (prV 3 0 RX3 TX3 13 rfl rfl (vj_mP hP3) (hK.sub [1, 3] rfl)) rfl rfl hl.1 rfl (lv_room (Nat.le_of_ble_eq_true rfl)) dL_law_986 ⟨hc1, hs1⟩) ?_
    refine lv_iload hx hb dL_law_989 (lv_at hl 1 rfl) ?_
    refine lv_icmp_eq (tgt := 996) hx hb dL_law_991 (by decide) (fun c991 => ?_) (fun c991 => absurd rfl c991)
    refine lv_iload hx hb dL_law_996 (lv_at hl 1 rfl) ?_
    refine lv_if_ne (tgt := 1013) hx hb dL_law_998 (by decide) (fun c998 => absurd c998 (fun h9 => h9 rfl)) (fun c998 => ?_)
    refine lv_aload_n hx hb dL_law_1001 rfl (lv_at hl 4 rfl) ?_
    refine lv_iconst (v := 0) hx hb dL_law_1002 (by decide) ?_
    refine va_lald hx hb hK (ws := OUa a (vp_updL fl 0 (dk ((xs (j + 1))).toNatClampNeg).toInt64) fd ++ (LOa a n wm df yg q wd zs h dk u ++ MOa a n wm df yg q wd zs h dk 0 kp)) hP 0 2 (f := vp_updL fl 0 (dk ((xs (j + 1))).toNatClampNeg).toInt64) rfl rfl (i := 0) (vp_in_nI (n := 0) (N := 1) (by decide) (by decide)) dL_law_1003 ?_
    refine W.eq (g2 := F0 m 1004 ls (.long ((dk ((xs (j + 1))).toNatClampNeg).toInt64) :: [])) (by rw [cl_0]; rfl) ?_
    refine lv_iload hx hb dL_law_1004 (lv_at hl 0 rfl) ?_
    refine lv_i2l (v := (dk ((xs (j + 1))).toNatClampNeg).toInt64) hx hb dL_law_1006 rfl ?_
    refine kl_cmp hx hb dL_law_1007 ?_
    refine lv_if_eq (tgt := 1013) hx hb dL_law_1008 (by decide) (fun c1008 => ?_) (fun c1008 => absurd rfl c1008)
    refine lv_goto (tgt := 1124) hx hb dL_law_1013 (by decide) ?_
    refine W.widen (k := cells + 1) (n := slots + 6) (by omega) (by omega) ?_
    exact kk H locs ls 0 kp (vp_updL fl 0 (dk ((xs (j + 1))).toNatClampNeg).toInt64) fd hP hD hS (lv_sub hl [2, 3, 4, 5, 6, 7] rfl)
  · rw [← f12] at hP hD
    have hP : va_P D vwCl (OUa a fl fd ++ (LOa a n wm df yg q wd zs h dk u ++ MOa a n wm df yg q wd zs h dk th kp)) H := hP
    have hD : va_D (Ah s) (OUa a fl fd ++ (LOa a n wm df yg q wd zs h dk u ++ MOa a n wm df yg q wd zs h dk th kp)) := hD
    refine lv_istore (lv' := [(6, .int 1), (5, .int (nI j)), (4, .ref a.od), (3, .ref a.ol), (2, .ref a.y), (1, .ref a.x), (0, .ref b)]) hx hb dL_law_971 hl (by decide) rfl (fun ls hl => ?_)
    refine lv_aload_n hx hb dL_law_973 rfl (lv_at hl 4 rfl) ?_
    refine lv_aload_n hx hb dL_law_974 rfl (lv_at hl 6 rfl) ?_
    refine lv_iload hx hb dL_law_975 (lv_at hl 1 rfl) ?_
    refine lv_iconst (v := 1) hx hb dL_law_977 (by decide) ?_
    refine lv_iadd hx hb dL_law_978 ?_
    refine kx_sld hx hb hXs hbl hbA hS (j := j + 1) (nI_1 j) (by omega) hL dL_law_979 ?_
    have hP3 : va_P D vwCl ((OUa a fl fd ++ LOa a n wm df yg q wd zs h dk u) ++ (MOa a n wm df yg q wd zs h dk th kp ++ [])) H := by rw [← f13]; exact hP
    have hD3 : va_D (Ah s) ((OUa a fl fd ++ LOa a n wm df yg q wd zs h dk u) ++ (MOa a n wm df yg q wd zs h dk th kp ++ [])) := by rw [← f13]; exact hD
    refine kc_i (w1 := OUa a fl fd ++ LOa a n wm df yg q wd zs h dk u) (w3 := []) (va_runV (As := [.int (xs (j + 1))]) (rest := []) ⟨hx, hb, hml, hown, hts⟩ (metX3_bottles l D H.size a.y a.aw a.az a.ah a.ak a.cI a.cD n hn wm yg q df (dk 0) (dk 1) (dk 2) th wd zs h kp (xs (j + 1))) (cwV 1 hts gL_law_X3_bottles rfl rfl rfl (by decide +kernel) ⟨Nat.le_of_ble_eq_true rfl, Nat.le_of_ble_eq_true rfl⟩) (pmV 3 0 RX3 TX3 13 rfl rfl (vj_mP hP3) (hK.sub [1, 3] rfl) (vj_mD hD3)) rfl rfl hl.1 rfl (lv_room (Nat.le_of_ble_eq_true rfl)) dL_law_980 ⟨hc1, hs1⟩) hP3 hD3 hS hA (fun H locs hP hD hS => ?_)
    rw [← f13] at hP hD
    have e9 : thR 0 2 (xs (j + 1)) = 1 := thR_y hbad9
    rw [e9] at hP hD
    try simp only [if_neg (show ¬ (1 : Int32) = 0 by decide)] at hP hD
    have hP : va_P D vwCl (OUa a fl fd ++ (LOa a n wm df yg q wd zs h dk u ++ MOa a n wm df yg q wd zs h dk 1 kp)) H := hP
    have hD : va_D (Ah s) (OUa a fl fd ++ (LOa a n wm df yg q wd zs h dk u ++ MOa a n wm df yg q wd zs h dk 1 kp)) := hD
    refine ki_eq (show (if thR 0 2 (xs (j + 1)) = 0 then (if (xs (j + 1)) = 0 then dk 0 else if (xs (j + 1)) = 1 then dk 1 else dk 2) else 0) = 0 from by rw [e9, if_neg (by decide)]) ?_
    refine lv_istore (lv' := [(7, .int 0), (6, .int 1), (5, .int (nI j)), (4, .ref a.od), (3, .ref a.ol), (2, .ref a.y), (1, .ref a.x), (0, .ref b)]) hx hb dL_law_983 hl (by decide) rfl (fun ls hl => ?_)
    refine lv_aload_n hx hb dL_law_985 rfl (lv_at hl 5 rfl) ?_
    have hP3 : va_P D vwCl ((OUa a fl fd ++ LOa a n wm df yg q wd zs h dk u) ++ (MOa a n wm df yg q wd zs h dk 1 kp ++ [])) H := by rw [← f13]; exact hP
    refine kr_i (W.runV (As := []) (rest := []) ⟨hx, hb, hml, hown, hts⟩ (metX3_thrown l D a.y a.aw a.az a.ah a.ak a.cI a.cD n hn wm yg q df (dk 0) (dk 1) (dk 2) 1 wd zs h kp ) (cwV 0 hts gL_law_X3_thrown rfl rfl rfl (by decide +kernel) ⟨Nat.le_of_ble_eq_true rfl, Nat.le_of_ble_eq_true rfl⟩) (prV 3 0 RX3 TX3 13 rfl rfl (vj_mP hP3) (hK.sub [1, 3] rfl)) rfl rfl hl.1 rfl (lv_room (Nat.le_of_ble_eq_true rfl)) dL_law_986 ⟨hc1, hs1⟩) ?_
    refine lv_iload hx hb dL_law_989 (lv_at hl 1 rfl) ?_
    refine lv_icmp_eq (tgt := 996) hx hb dL_law_991 (by decide) (fun c991 => ?_) (fun c991 => absurd rfl c991)
    refine lv_iload hx hb dL_law_996 (lv_at hl 1 rfl) ?_
    refine lv_if_ne (tgt := 1013) hx hb dL_law_998 (by decide) (fun c998 => ?_) (fun c998 => absurd c998 (by decide))
    refine lv_goto (tgt := 1124) hx hb dL_law_1013 (by decide) ?_
    refine W.widen (k := cells + 1) (n := slots + 6) (by omega) (by omega) ?_
    exact kk H locs ls 1 kp fl fd hP hD hS (lv_sub hl [2, 3, 4, 5, 6, 7] rfl)

set_option maxHeartbeats 4000000 in
set_option maxRecDepth 100000 in
theorem lawc_17 {p : Program} {l : Launch} {e : Env} {s : State} {m : MethodId} {below : List Frame} {meth : Method} {c : Code} {H : Heap} {locs : List Loc} {cells slots : Nat} {Q : State → Prop} {D : va_G} {b L : Nat} {xs : Nat → Int32} {a : AD} {ls : Array Slot} (C : LC p l s m c D b L xs a) (n : Nat) (hn : n ≤ 8) (wm df yg : Int32) (q : UInt64) (wd zs : Nat → Int32) (h : Nat → UInt64) (dk : Nat → Int32) (u : TRW) (th : Int32) (kp : Nat → UInt64) (fl : Nat → Int64) (fd : Nat → UInt64) {j : Nat} (hj : j + 2 < L) (hN : NNr n h) (hm : mnok 8 h n) (hmM : mnM 8 h n)
    (hP : va_P D vwCl (OUa a fl fd ++ (LOa a n wm df yg q wd zs h dk u ++ MOa a n wm df yg q wd zs h dk th kp)) H) (hD : va_D (Ah s) (OUa a fl fd ++ (LOa a n wm df yg q wd zs h dk u ++ MOa a n wm df yg q wd zs h dk th kp))) (hS : va_S (Ah s) s.heap H locs) (hl : lv_has ls 10 (LOC a b j)) (hc1 : cells + 1 ≤ room_1.cells) (hs1 : slots + 6 ≤ room_1.slots)
    (kk : (∀ (H : Heap) (locs : List Loc) (ls : Array Slot) (th' : Int32) (kp' : Nat → UInt64) (fl' : Nat → Int64) (fd' : Nat → UInt64), va_P D vwCl (OUa a (fl') (fd') ++ (LOa a n wm df yg q wd zs h dk u ++ MOa a n wm df yg q wd zs h dk (th') (kp'))) H → va_D (Ah s) (OUa a (fl') (fd') ++ (LOa a n wm df yg q wd zs h dk u ++ MOa a n wm df yg q wd zs h dk (th') (kp'))) → va_S (Ah s) s.heap H locs → lv_has ls 10 (LOC a b j) → W p l e room_1 s m #[Value.ref b] below meth c H locs (cells + 1) (slots + 6) Q (F0 m 1124 ls []))) :
    W p l e room_1 s m #[Value.ref b] below meth c H locs cells slots Q (F0 m 1029 ls []) := by
  obtain ⟨hx, hb, hml, hown, hts, hK, hX, hH, hst, hXs, hbl, hL⟩ := C
  have hA : ∀ q : Nat, s.heap.size ≤ q → Ah s q := fun _ h => h
  have hbA : ¬ Ah s b := Nat.not_le.mpr hbl
  have hc0 : cells + 0 ≤ room_1.cells := by omega
  have hs0 : slots + 0 ≤ room_1.slots := by omega
  have hl : lv_has ls 10 [(5, .int (nI j)), (4, .ref a.od), (3, .ref a.ol), (2, .ref a.y), (1, .ref a.x), (0, .ref b)] := hl
  refine lv_aload_n hx hb dL_law_1029 rfl (lv_at hl 4 rfl) ?_
  refine kr_d (W.runV (As := []) (rest := []) ⟨hx, hb, hml, hown, hts⟩ (metX2_meanAge l D a.x a.r a.t a.d yg a.la a.bs a.cA a.cI n hn wm df q wd zs h (TRa a dk u) hm) (cwV 0 hts gL_law_X2_meanAge rfl rfl rfl (by decide +kernel) ⟨Nat.le_of_ble_eq_true rfl, Nat.le_of_ble_eq_true rfl⟩) (prV 2 0 RX2 TX2 4 rfl rfl (vj_mP (w1 := OUa a fl fd) (w2 := LOa a n wm df yg q wd zs h dk u) (w3 := MOa a n wm df yg q wd zs h dk th kp) hP) (hK.sub [0, 1] rfl)) rfl rfl hl.1 rfl (lv_room (Nat.le_of_ble_eq_true rfl)) dL_law_1030 ⟨hc0, hs0⟩) ?_
  refine lv_dstore (lv' := [(6, .double (mnv 8 h n)), (5, .int (nI j)), (4, .ref a.od), (3, .ref a.ol), (2, .ref a.y), (1, .ref a.x), (0, .ref b)]) hx hb dL_law_1033 hl (by decide) rfl (fun ls hl => ?_)
  refine lv_aload_n hx hb dL_law_1035 rfl (lv_at hl 4 rfl) ?_
  have hP3 : va_P D vwCl ((OUa a fl fd ++ LOa a n wm df yg q wd zs h dk u) ++ (MOa a n wm df yg q wd zs h dk th kp ++ [])) H := by rw [← f13]; exact hP
  have hD3 : va_D (Ah s) ((OUa a fl fd ++ LOa a n wm df yg q wd zs h dk u) ++ (MOa a n wm df yg q wd zs h dk th kp ++ [])) := by rw [← f13]; exact hD
  refine kc_d (w1 := OUa a fl fd ++ LOa a n wm df yg q wd zs h dk u) (w3 := []) (va_runV (As := []) (rest := []) ⟨hx, hb, hml, hown, hts⟩ (metX3_meanAge l D H.size a.y a.aw a.az a.ah a.ak a.cI a.cD n hn wm yg q df (dk 0) (dk 1) (dk 2) th wd zs h kp hN hmM) (cwV 0 hts gL_law_X3_meanAge rfl rfl rfl (by decide +kernel) ⟨Nat.le_of_ble_eq_true rfl, Nat.le_of_ble_eq_true rfl⟩) (pmV 3 0 RX3 TX3 13 rfl rfl (vj_mP hP3) (hK.sub [1, 3] rfl) (vj_mD hD3)) rfl rfl hl.1 rfl (lv_room (Nat.le_of_ble_eq_true rfl)) dL_law_1036 ⟨hc0, hs0⟩) hP3 hD3 hS hA (fun H locs hP hD hS => ?_)
  rw [← f13] at hP hD
  have hP : va_P D vwCl (OUa a fl fd ++ (LOa a n wm df yg q wd zs h dk u ++ MOa a n wm df yg q wd zs h dk 0 kp)) H := hP
  have hD : va_D (Ah s) (OUa a fl fd ++ (LOa a n wm df yg q wd zs h dk u ++ MOa a n wm df yg q wd zs h dk 0 kp)) := hD
  refine lv_dstore (lv' := [(8, .double (mnv 8 h n)), (6, .double (mnv 8 h n)), (5, .int (nI j)), (4, .ref a.od), (3, .ref a.ol), (2, .ref a.y), (1, .ref a.x), (0, .ref b)]) hx hb dL_law_1039 hl (by decide) rfl (fun ls hl => ?_)
  refine lv_dload hx hb dL_law_1041 (lv_at hl 1 rfl) ?_
  refine lv_dload hx hb dL_law_1043 (lv_at hl 0 rfl) ?_
  by_cases cv : Op.cmpValue (FP.dcmp (mnv 8 h n) (mnv 8 h n)) .l = 0
  · refine lv_dcmp hx hb dL_law_1045 ?_
    refine lv_if_eq (tgt := 1067) hx hb dL_law_1046 (by decide) (fun _ => ?_) (fun h9 => absurd cv h9)
    refine lv_goto (tgt := 1124) hx hb dL_law_1067 (by decide) ?_
    refine W.widen (k := cells + 1) (n := slots + 6) (by omega) (by omega) ?_
    exact kk H locs ls 0 kp fl fd hP hD hS (lv_sub hl [2, 3, 4, 5, 6, 7] rfl)
  · refine lv_dcmp hx hb dL_law_1045 ?_
    refine lv_if_eq (tgt := 1067) hx hb dL_law_1046 (by decide) (fun h9 => absurd h9 cv) (fun _ => ?_)
    refine lv_dload hx hb dL_law_1049 (lv_at hl 1 rfl) ?_
    refine lv_dload hx hb dL_law_1051 (lv_at hl 1 rfl) ?_
    refine lv_dcmp hx hb dL_law_1053 ?_
    refine lv_if_eq (tgt := 1065) hx hb dL_law_1054 (by decide) (fun h9 => absurd h9 cv) (fun _ => ?_)
    refine lv_dload hx hb dL_law_1057 (lv_at hl 0 rfl) ?_
    refine lv_dload hx hb dL_law_1059 (lv_at hl 0 rfl) ?_
    refine lv_dcmp hx hb dL_law_1061 ?_
    refine lv_if_ne (tgt := 1067) hx hb dL_law_1062 (by decide) (fun _ => ?_) (fun h9 => absurd h9 cv)
    refine lv_goto (tgt := 1124) hx hb dL_law_1067 (by decide) ?_
    refine W.widen (k := cells + 1) (n := slots + 6) (by omega) (by omega) ?_
    exact kk H locs ls 0 kp fl fd hP hD hS (lv_sub hl [2, 3, 4, 5, 6, 7] rfl)

set_option maxHeartbeats 4000000 in
set_option maxRecDepth 100000 in
theorem lawc_18 {p : Program} {l : Launch} {e : Env} {s : State} {m : MethodId} {below : List Frame} {meth : Method} {c : Code} {H : Heap} {locs : List Loc} {cells slots : Nat} {Q : State → Prop} {D : va_G} {b L : Nat} {xs : Nat → Int32} {a : AD} {ls : Array Slot} (C : LC p l s m c D b L xs a) (n : Nat) (hn : n ≤ 8) (wm df yg : Int32) (q : UInt64) (wd zs : Nat → Int32) (h : Nat → UInt64) (dk : Nat → Int32) (u : TRW) (th : Int32) (kp : Nat → UInt64) (fl : Nat → Int64) (fd : Nat → UInt64) {j : Nat} (hj : j + 2 < L) (hN : NNr n h) (hm : mnok 24 h n) (hmM : mnM 24 h n)
    (hP : va_P D vwCl (OUa a fl fd ++ (LOa a n wm df yg q wd zs h dk u ++ MOa a n wm df yg q wd zs h dk th kp)) H) (hD : va_D (Ah s) (OUa a fl fd ++ (LOa a n wm df yg q wd zs h dk u ++ MOa a n wm df yg q wd zs h dk th kp))) (hS : va_S (Ah s) s.heap H locs) (hl : lv_has ls 10 (LOC a b j)) (hc1 : cells + 1 ≤ room_1.cells) (hs1 : slots + 6 ≤ room_1.slots)
    (kk : (∀ (H : Heap) (locs : List Loc) (ls : Array Slot) (th' : Int32) (kp' : Nat → UInt64) (fl' : Nat → Int64) (fd' : Nat → UInt64), va_P D vwCl (OUa a (fl') (fd') ++ (LOa a n wm df yg q wd zs h dk u ++ MOa a n wm df yg q wd zs h dk (th') (kp'))) H → va_D (Ah s) (OUa a (fl') (fd') ++ (LOa a n wm df yg q wd zs h dk u ++ MOa a n wm df yg q wd zs h dk (th') (kp'))) → va_S (Ah s) s.heap H locs → lv_has ls 10 (LOC a b j) → W p l e room_1 s m #[Value.ref b] below meth c H locs (cells + 1) (slots + 6) Q (F0 m 1124 ls []))) :
    W p l e room_1 s m #[Value.ref b] below meth c H locs cells slots Q (F0 m 1070 ls []) := by
  obtain ⟨hx, hb, hml, hown, hts, hK, hX, hH, hst, hXs, hbl, hL⟩ := C
  have hA : ∀ q : Nat, s.heap.size ≤ q → Ah s q := fun _ h => h
  have hbA : ¬ Ah s b := Nat.not_le.mpr hbl
  have hc0 : cells + 0 ≤ room_1.cells := by omega
  have hs0 : slots + 0 ≤ room_1.slots := by omega
  have hl : lv_has ls 10 [(5, .int (nI j)), (4, .ref a.od), (3, .ref a.ol), (2, .ref a.y), (1, .ref a.x), (0, .ref b)] := hl
  refine lv_aload_n hx hb dL_law_1070 rfl (lv_at hl 4 rfl) ?_
  refine kr_d (W.runV (As := []) (rest := []) ⟨hx, hb, hml, hown, hts⟩ (metX2_meanSugar l D a.x a.r a.t a.d yg a.la a.bs a.cA a.cI n hn wm df q wd zs h (TRa a dk u) hm) (cwV 0 hts gL_law_X2_meanSugar rfl rfl rfl (by decide +kernel) ⟨Nat.le_of_ble_eq_true rfl, Nat.le_of_ble_eq_true rfl⟩) (prV 2 0 RX2 TX2 4 rfl rfl (vj_mP (w1 := OUa a fl fd) (w2 := LOa a n wm df yg q wd zs h dk u) (w3 := MOa a n wm df yg q wd zs h dk th kp) hP) (hK.sub [0, 1] rfl)) rfl rfl hl.1 rfl (lv_room (Nat.le_of_ble_eq_true rfl)) dL_law_1071 ⟨hc0, hs0⟩) ?_
  refine lv_dstore (lv' := [(6, .double (mnv 24 h n)), (5, .int (nI j)), (4, .ref a.od), (3, .ref a.ol), (2, .ref a.y), (1, .ref a.x), (0, .ref b)]) hx hb dL_law_1074 hl (by decide) rfl (fun ls hl => ?_)
  refine lv_aload_n hx hb dL_law_1076 rfl (lv_at hl 4 rfl) ?_
  have hP3 : va_P D vwCl ((OUa a fl fd ++ LOa a n wm df yg q wd zs h dk u) ++ (MOa a n wm df yg q wd zs h dk th kp ++ [])) H := by rw [← f13]; exact hP
  have hD3 : va_D (Ah s) ((OUa a fl fd ++ LOa a n wm df yg q wd zs h dk u) ++ (MOa a n wm df yg q wd zs h dk th kp ++ [])) := by rw [← f13]; exact hD
  refine kc_d (w1 := OUa a fl fd ++ LOa a n wm df yg q wd zs h dk u) (w3 := []) (va_runV (As := []) (rest := []) ⟨hx, hb, hml, hown, hts⟩ (metX3_meanSugar l D H.size a.y a.aw a.az a.ah a.ak a.cI a.cD n hn wm yg q df (dk 0) (dk 1) (dk 2) th wd zs h kp hN hmM) (cwV 0 hts gL_law_X3_meanSugar rfl rfl rfl (by decide +kernel) ⟨Nat.le_of_ble_eq_true rfl, Nat.le_of_ble_eq_true rfl⟩) (pmV 3 0 RX3 TX3 13 rfl rfl (vj_mP hP3) (hK.sub [1, 3] rfl) (vj_mD hD3)) rfl rfl hl.1 rfl (lv_room (Nat.le_of_ble_eq_true rfl)) dL_law_1077 ⟨hc0, hs0⟩) hP3 hD3 hS hA (fun H locs hP hD hS => ?_)
  rw [← f13] at hP hD
  have hP : va_P D vwCl (OUa a fl fd ++ (LOa a n wm df yg q wd zs h dk u ++ MOa a n wm df yg q wd zs h dk 0 kp)) H := hP
  have hD : va_D (Ah s) (OUa a fl fd ++ (LOa a n wm df yg q wd zs h dk u ++ MOa a n wm df yg q wd zs h dk 0 kp)) := hD
  refine lv_dstore (lv' := [(8, .double (mnv 24 h n)), (6, .double (mnv 24 h n)), (5, .int (nI j)), (4, .ref a.od), (3, .ref a.ol), (2, .ref a.y), (1, .ref a.x), (0, .ref b)]) hx hb dL_law_1080 hl (by decide) rfl (fun ls hl => ?_)
  refine lv_dload hx hb dL_law_1082 (lv_at hl 1 rfl) ?_
  refine lv_dload hx hb dL_law_1084 (lv_at hl 0 rfl) ?_
  by_cases cv : Op.cmpValue (FP.dcmp (mnv 24 h n) (mnv 24 h n)) .l = 0
  · refine lv_dcmp hx hb dL_law_1086 ?_
    refine lv_if_eq (tgt := 1108) hx hb dL_law_1087 (by decide) (fun _ => ?_) (fun h9 => absurd cv h9)
    refine lv_goto (tgt := 1124) hx hb dL_law_1108 (by decide) ?_
    refine W.widen (k := cells + 1) (n := slots + 6) (by omega) (by omega) ?_
    exact kk H locs ls 0 kp fl fd hP hD hS (lv_sub hl [2, 3, 4, 5, 6, 7] rfl)
  · refine lv_dcmp hx hb dL_law_1086 ?_
    refine lv_if_eq (tgt := 1108) hx hb dL_law_1087 (by decide) (fun h9 => absurd h9 cv) (fun _ => ?_)
    refine lv_dload hx hb dL_law_1090 (lv_at hl 1 rfl) ?_
    refine lv_dload hx hb dL_law_1092 (lv_at hl 1 rfl) ?_
    refine lv_dcmp hx hb dL_law_1094 ?_
    refine lv_if_eq (tgt := 1106) hx hb dL_law_1095 (by decide) (fun h9 => absurd h9 cv) (fun _ => ?_)
    refine lv_dload hx hb dL_law_1098 (lv_at hl 0 rfl) ?_
    refine lv_dload hx hb dL_law_1100 (lv_at hl 0 rfl) ?_
    refine lv_dcmp hx hb dL_law_1102 ?_
    refine lv_if_ne (tgt := 1108) hx hb dL_law_1103 (by decide) (fun _ => ?_) (fun h9 => absurd h9 cv)
    refine lv_goto (tgt := 1124) hx hb dL_law_1108 (by decide) ?_
    refine W.widen (k := cells + 1) (n := slots + 6) (by omega) (by omega) ?_
    exact kk H locs ls 0 kp fl fd hP hD hS (lv_sub hl [2, 3, 4, 5, 6, 7] rfl)

set_option maxHeartbeats 4000000 in
set_option maxRecDepth 100000 in
theorem lawc_19 {p : Program} {l : Launch} {e : Env} {s : State} {m : MethodId} {below : List Frame} {meth : Method} {c : Code} {H : Heap} {locs : List Loc} {cells slots : Nat} {Q : State → Prop} {D : va_G} {b L : Nat} {xs : Nat → Int32} {a : AD} {ls : Array Slot} (C : LC p l s m c D b L xs a) (n : Nat) (hn : n ≤ 8) (wm df yg : Int32) (q : UInt64) (wd zs : Nat → Int32) (h : Nat → UInt64) (dk : Nat → Int32) (u : TRW) (th : Int32) (kp : Nat → UInt64) (fl : Nat → Int64) (fd : Nat → UInt64) {j : Nat} (hj : j + 2 < L) (hN : NNr n h) (hrd : rdok h n q) (hrm : rdM h n df q) (hok : ∀ i, i < 60 → stM wd zs wm n (stI wd zs wm n i h)) (hzt : ZT n u.1 u.2.2.2.2.1 u.2.2.2.2.2.1 u.2.2.2.2.2.2) (hz1 : zerI n wd) (hz2 : zerI n zs) (hz3 : ∀ k, zerH n (stI wd zs wm n k h))
    (hP : va_P D vwCl (OUa a fl fd ++ (LOa a n wm df yg q wd zs h dk u ++ MOa a n wm df yg q wd zs h dk th kp)) H) (hD : va_D (Ah s) (OUa a fl fd ++ (LOa a n wm df yg q wd zs h dk u ++ MOa a n wm df yg q wd zs h dk th kp))) (hS : va_S (Ah s) s.heap H locs) (hl : lv_has ls 10 (LOC a b j)) (hc1 : cells + 1 ≤ room_1.cells) (hs1 : slots + 6 ≤ room_1.slots)
    (kk : (∀ (H : Heap) (locs : List Loc) (ls : Array Slot) (u' : TRW) (th' : Int32) (kp' : Nat → UInt64) (fl' : Nat → Int64) (fd' : Nat → UInt64), va_P D vwCl (OUa a (fl') (fd') ++ (LOa a n wm df yg q wd zs h dk (u') ++ MOa a n wm df yg q wd zs h dk (th') (kp'))) H → va_D (Ah s) (OUa a (fl') (fd') ++ (LOa a n wm df yg q wd zs h dk (u') ++ MOa a n wm df yg q wd zs h dk (th') (kp'))) → va_S (Ah s) s.heap H locs → lv_has ls 10 (LOC a b j) → ZT n u'.1 u'.2.2.2.2.1 u'.2.2.2.2.2.1 u'.2.2.2.2.2.2 → W p l e room_1 s m #[Value.ref b] below meth c H locs (cells + 1) (slots + 6) Q (F0 m 1124 ls []))) :
    W p l e room_1 s m #[Value.ref b] below meth c H locs cells slots Q (F0 m 1111 ls []) := by
  obtain ⟨hx, hb, hml, hown, hts, hK, hX, hH, hst, hXs, hbl, hL⟩ := C
  have hA : ∀ q : Nat, s.heap.size ≤ q → Ah s q := fun _ h => h
  have hbA : ¬ Ah s b := Nat.not_le.mpr hbl
  have hc0 : cells + 0 ≤ room_1.cells := by omega
  have hs0 : slots + 0 ≤ room_1.slots := by omega
  have hl : lv_has ls 10 [(5, .int (nI j)), (4, .ref a.od), (3, .ref a.ol), (2, .ref a.y), (1, .ref a.x), (0, .ref b)] := hl
  refine lv_aload_n hx hb dL_law_1111 rfl (lv_at hl 4 rfl) ?_
  refine kJ_i (w1 := OUa a fl fd) (w3 := MOa a n wm df yg q wd zs h dk th kp) (va_runV (As := []) (rest := []) ⟨hx, hb, hml, hown, hts⟩ (metX2_firstBottleIn l D H.size a.x a.r a.t a.d yg a.la a.bs a.cA a.cI n hn wm df q wd zs h a.lt a.bt u.1 u.2.1 u.2.2.1 u.2.2.2.1 u.2.2.2.2.1 u.2.2.2.2.2.1 u.2.2.2.2.2.2 dk hN hrd (fun i hi => (hok i hi).1) hzt hz1 hz2 hz3) (cwV 0 hts gL_law_X2_firstBottleIn rfl rfl rfl (by decide +kernel) ⟨Nat.le_of_ble_eq_true rfl, Nat.le_of_ble_eq_true rfl⟩) (pmV 2 0 RX2 TX2 4 rfl rfl (vj_mP (w1 := OUa a fl fd) (w2 := LOa a n wm df yg q wd zs h dk u) (w3 := MOa a n wm df yg q wd zs h dk th kp) hP) (hK.sub [0, 1] rfl) (vj_mD (w1 := OUa a fl fd) (w2 := LOa a n wm df yg q wd zs h dk u) (w3 := MOa a n wm df yg q wd zs h dk th kp) hD)) rfl rfl hl.1 rfl (lv_room (Nat.le_of_ble_eq_true rfl)) dL_law_1112 ⟨hc0, hs0⟩) hP hD hS hA (fun r9 u' H locs hu' hP hD hS => ?_)
  obtain ⟨hr9', hzt'⟩ := hu'
  subst hr9'
  have hP : va_P D vwCl (OUa a fl fd ++ (LOa a n wm df yg q wd zs h dk (u') ++ MOa a n wm df yg q wd zs h dk th kp)) H := hP
  have hD : va_D (Ah s) (OUa a fl fd ++ (LOa a n wm df yg q wd zs h dk (u') ++ MOa a n wm df yg q wd zs h dk th kp)) := hD
  refine lv_aload_n hx hb dL_law_1115 rfl (lv_at hl 3 rfl) ?_
  have hP3 : va_P D vwCl ((OUa a fl fd ++ LOa a n wm df yg q wd zs h dk (u')) ++ (MOa a n wm df yg q wd zs h dk th kp ++ [])) H := by rw [← f13]; exact hP
  have hD3 : va_D (Ah s) ((OUa a fl fd ++ LOa a n wm df yg q wd zs h dk (u')) ++ (MOa a n wm df yg q wd zs h dk th kp ++ [])) := by rw [← f13]; exact hD
  refine kJ_i (w1 := OUa a fl fd ++ LOa a n wm df yg q wd zs h dk (u')) (w3 := []) (va_runV (As := []) (rest := [.int (fbv wd zs wm n h df q)]) ⟨hx, hb, hml, hown, hts⟩ (metX3_firstBottleIn l D H.size a.y a.aw a.az a.ah a.ak a.cI a.cD n hn wm yg q df (dk 0) (dk 1) (dk 2) th wd zs h kp hN hrd hrm hok hz3) (cwV 0 hts gL_law_X3_firstBottleIn rfl rfl rfl (by decide +kernel) ⟨Nat.le_of_ble_eq_true rfl, Nat.le_of_ble_eq_true rfl⟩) (pmV 3 0 RX3 TX3 13 rfl rfl (vj_mP hP3) (hK.sub [1, 3] rfl) (vj_mD hD3)) rfl rfl hl.1 rfl (lv_room (Nat.le_of_ble_eq_true rfl)) dL_law_1116 ⟨hc0, hs0⟩) hP3 hD3 hS hA (fun r9 kp' H locs hr9' hP hD hS => ?_)
  subst hr9'
  rw [← f13] at hP hD
  have hP : va_P D vwCl (OUa a fl fd ++ (LOa a n wm df yg q wd zs h dk (u') ++ MOa a n wm df yg q wd zs h dk 0 (kp'))) H := hP
  have hD : va_D (Ah s) (OUa a fl fd ++ (LOa a n wm df yg q wd zs h dk (u') ++ MOa a n wm df yg q wd zs h dk 0 (kp'))) := hD
  refine lv_icmp_eq (tgt := 1124) hx hb dL_law_1119 (by decide) (fun c1119 => ?_) (fun c1119 => absurd rfl c1119)
  refine W.widen (k := cells + 1) (n := slots + 6) (by omega) (by omega) ?_
  exact kk H locs ls (u') 0 (kp') fl fd hP hD hS (lv_sub hl [0, 1, 2, 3, 4, 5] rfl) hzt'

