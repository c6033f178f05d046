/-! VinegarLoft$Row: its methods, second half (laid by wip/p23/prog/x1b.py) -/
section ROWX
variable {r la : Nat} {bs : Nat → Nat} {cA : ClassId} {n wm df : Int32} {q : UInt64} {wd zs : Nat → Int32} {h : Nat → UInt64}
theorem rowW_tk {b : Nat} (hb : b < 8) (less : UInt64) : (rowW r la bs cA n wm df q wd zs h).set (2 + b) (bs b, tkE (wd b) (zs b) (h b) (h (8 + b)) (h (16 + b)) (h (24 + b)) less) = rowW r la bs cA n wm df q wd zs (tkH h b less) := by
  unfold tkE tkH
  split
  · exact rowW_sh hb _ _ _ _
  · exact rowW_sh hb _ _ _ _
/-- barrel k + 1 got from barrel k -/
theorem rowW_pa {k : Nat} (hk : k + 1 < 8) (hg : FP.dcmp (paG zs h k) 0 = some .gt) : ((rowW r la bs cA n wm df q wd zs h).set (2 + k) (bs k, EB (wd k) (zs k) (FP.dsub (h k) (paG zs h k)) (h (8 + k)) (h (16 + k)) (h (24 + k)))).set (2 + (k + 1)) (bs (k + 1), EB (wd (k + 1)) (zs (k + 1)) (FP.dadd (h (k + 1)) (paG zs h k)) (mixv (h (k + 1)) (h (8 + (k + 1))) (paG zs h k) (h (8 + k))) (mixv (h (k + 1)) (h (16 + (k + 1))) (paG zs h k) (h (16 + k))) (mixv (h (k + 1)) (h (24 + (k + 1))) (paG zs h k) (h (24 + k)))) = rowW r la bs cA n wm df q wd zs (paH zs h k) := by
  rw [List.set_comm _ _ (by omega), rowW_sh hk]
  unfold paH
  rw [if_pos hg]
  refine Eq.trans ?_ (rowW_sh (show k < 8 by omega) _ _ _ _)
  rfl
theorem rowW_id {i : Nat} (hi : i < 8) : (rowW r la bs cA n wm df q wd zs h).set (2 + i) (bs i, Bk wd zs h i) = rowW r la bs cA n wm df q wd zs h :=
  lt8 (P := fun i => (rowW r la bs cA n wm df q wd zs h).set (2 + i) (bs i, Bk wd zs h i) = rowW r la bs cA n wm df q wd zs h) rfl rfl rfl rfl rfl rfl rfl rfl hi
/-- two rows -/
theorem rowT_1 {w2 : va_W} {i : Nat} (hi : i < 8) : (rowW r la bs cA n wm df q wd zs h ++ w2)[2 + i]? = some (bs i, Bk wd zs h i) := vj_inA (rowW_b hi)
theorem rowT_2 {w1 : va_W} (h1 : w1.length = 10) {i : Nat} (hi : i < 8) : (w1 ++ rowW r la bs cA n wm df q wd zs h)[10 + (2 + i)]? = some (bs i, Bk wd zs h i) := by
  rw [List.getElem?_append_right (by omega), show 10 + (2 + i) - w1.length = 2 + i by omega]
  exact rowW_b hi
end ROWX
theorem rowT_cp {r la : Nat} {bs : Nat → Nat} {cA : ClassId} {n wm df : Int32} {q : UInt64} {wd zs : Nat → Int32} {h : Nat → UInt64} {r2 la2 : Nat} {bs2 : Nat → Nat} {n2 wm2 df2 : Int32} {q2 : UInt64} {wd2 zs2 : Nat → Int32} {h2 : Nat → UInt64} {i : Nat} (hi : i < 8) :
    ((rowW r la bs cA n wm df q wd zs h ++ rowW r2 la2 bs2 cA n2 wm2 df2 q2 wd2 zs2 h2).set (2 + i) (bs i, Bk wd2 zs2 h2 i)).set (10 + (2 + i)) (bs2 i, Bk wd2 zs2 h2 i) = rowW r la bs cA n wm df q (va_up wd i (wd2 i)) (va_up zs i (zs2 i)) (hset h i (h2 i) (h2 (8 + i)) (h2 (16 + i)) (h2 (24 + i))) ++ rowW r2 la2 bs2 cA n2 wm2 df2 q2 wd2 zs2 h2 := by
  have hl : ∀ (w : Nat → Int32) (z : Nat → Int32) (g : Nat → UInt64), (rowW r la bs cA n wm df q w z g).length = 10 := fun _ _ _ => rfl
  rw [List.set_append_left _ _ (by rw [hl]; omega)]
  rw [List.set_append_right _ _ (by rw [List.length_set, hl]; omega), List.length_set, hl, show 10 + (2 + i) - 10 = 2 + i by omega, rowW_id hi]
  congr 1
  refine Eq.trans ?_ (rowW_sh (wd := va_up wd i (wd2 i)) (zs := va_up zs i (zs2 i)) hi (h2 i) (h2 (8 + i)) (h2 (16 + i)) (h2 (24 + i)))
  rw [va_up_self, va_up_self, ← rowW_sw hi, ← rowW_sz hi]
  exact lt8 (P := fun i => (rowW r la bs cA n wm df q wd zs h).set (2 + i) (bs i, Bk wd2 zs2 h2 i) = (((rowW r la bs cA n wm df q wd zs h).set (2 + i) (bs i, EB (wd i) (zs2 i) (h i) (h (8 + i)) (h (16 + i)) (h (24 + i)))).set (2 + i) (bs i, EB (wd2 i) (va_up zs i (zs2 i) i) (h i) (h (8 + i)) (h (16 + i)) (h (24 + i)))).set (2 + i) (bs i, EB (wd2 i) (zs2 i) (h2 i) (h2 (8 + i)) (h2 (16 + i)) (h2 (24 + i)))) rfl rfl rfl rfl rfl rfl rfl rfl hi
set_option maxHeartbeats 4000000 in
set_option maxRecDepth 100000 in
/-- takeBottles(bottles), from the barrel b of the year -/
theorem metX1_takeBottles (l : Launch) (D : va_G) (sz : Nat) (r la : Nat) (bs : Nat → Nat) (cA : ClassId) (n : Nat) (hn : n ≤ 8) (wm : Int32) (q : UInt64) (wd zs : Nat → Int32) (h : Nat → UInt64) (b : Nat) (hbn : b < n) (x : Int32) (t0 : vf_n64 (botv x)) (t1 : vf_n64 (FP.dsub q (botv x))) (t2 : vf_n64 (FP.dsub (h b) (botv x))) (t3 : FP.dcmp (FP.dsub (h b) (botv x)) 0 ≠ none) : Met l yX1_takeBottles wsX1_takeBottles { frames := 2, cells := 0, slots := 0, locals := 42 } (Pm D [(cA, .object "VinegarLoft$Barrel")] [.ref r, .int x] (rowW r la bs cA (nI n) wm (nI b) q wd zs h) sz) (va_Qv (fun (_ : Unit) => True) (Bm D [(cA, .object "VinegarLoft$Barrel")] (va_A (rowW r la bs cA (nI n) wm (nI b) q wd zs h) sz) (rowW r la bs cA (nI n) wm (nI b) (FP.dsub q (botv x)) wd zs (tkH h b (botv x)))) (va_A (rowW r la bs cA (nI n) wm (nI b) q wd zs h) sz)) 0 0 (va_A (rowW r la bs cA (nI n) wm (nI b) q wd zs h) sz) := by
  refine Met.ofW (cc := cX1_takeBottles) (maxL := 4) (ret := none) (by decide) rfl ?_
  intro p e s m args below meth c s₁ B hml hv
  obtain ⟨rfl, hsz, hP, hK, hD0⟩ := hv
  have hx := B.exec
  have hb := B.bytes
  have hr := B.returns
  have hts := atoms_spec (ws := wsX1_takeBottles) B.pre
  have hown : s.vm.findClass RX1 = some m.cls := findClass_of_methodNamed B.named
  have hlocks := B.notSynchronized
  subst hsz
  have hD := hD0.self (sz := s.heap.size)
  generalize hAe : va_A (rowW r la bs cA (nI n) wm (nI b) q wd zs h) s.heap.size = A at hD ⊢
  have hA : ∀ q : Nat, s.heap.size ≤ q → A q := fun q h => by rw [← hAe]; exact Or.inr h
  refine kW_H (fun H hH => ?_)
  have hP : va_P D vwCl (rowW r la bs cA (nI n) wm (nI b) q wd zs h) H := by rw [hH]; exact hP
  have hS : va_S A s.heap H [] := by rw [hH]; exact va_S.rf
  have hl := lv_entry ([.ref r, .int x]) (n := 4) (Nat.le_of_ble_eq_true rfl)
  rw [lg_entry_eq]
  generalize (lg_sl ([.ref r, .int x]) ++ List.replicate (4 - (lg_sl ([.ref r, .int x])).length) Slot.unset).toArray = ls at hl ⊢
  have hl : lv_has ls 4 [(0, .ref r), (1, .int x)] := hl
  refine lv_aload_n hx hb dX1_takeBottles_0 rfl (lv_at hl 0 rfl) ?_
  refine va_get (D := D) (ci := 1) (v := .int (nI b)) (C := RX1) (T := TX1) (N := 5) hx hb hts (by decide +kernel) hown hK hP (0) rfl rfl 3 (by decide) (hts (.fieldLink RX1 25 "VinegarLoft$Row" "drawnFrom" "I") (by decide +kernel)) (fun _ h9 => h9) rfl dX1_takeBottles_1 ?_
  refine lv_iconst (v := (-1)) hx hb dX1_takeBottles_4 (by decide) ?_
  refine lv_icmp_ne (tgt := 9) hx hb dX1_takeBottles_5 (by decide) (fun c5 => ?_) (fun c5 => absurd c5 (nI_m1 (show b < 8 by omega)))
  refine lv_iload_n hx hb dX1_takeBottles_9 rfl (lv_at hl 1 rfl) ?_
  refine lv_i2d hx hb dX1_takeBottles_10 ?_
  refine lv_ldc2d hx hb hown (hts (.constantDouble RX1 104 4591870180066957722) (by decide +kernel)) dX1_takeBottles_11 ?_
  refine lv_dmul hx hb dX1_takeBottles_14 t0 ?_
  refine lv_dstore_n (lv' := [(2, .double (botv x)), (0, .ref r), (1, .int x)]) hx hb dX1_takeBottles_15 rfl hl (by decide) rfl (fun ls hl => ?_)
  refine lv_aload_n hx hb dX1_takeBottles_16 rfl (lv_at hl 1 rfl) ?_
  refine lv_aload_n hx hb dX1_takeBottles_17 rfl (lv_at hl 1 rfl) ?_
  refine va_get (D := D) (ci := 1) (v := .double q) (C := RX1) (T := TX1) (N := 5) hx hb hts (by decide +kernel) hown hK hP (0) rfl rfl 4 (by decide) (hts (.fieldLink RX1 28 "VinegarLoft$Row" "mayBeDrawn" "D") (by decide +kernel)) (fun _ h9 => h9) rfl dX1_takeBottles_18 ?_
  refine lv_dload_n hx hb dX1_takeBottles_21 rfl (lv_at hl 0 rfl) ?_
  refine lv_dsub hx hb dX1_takeBottles_22 t1 ?_
  refine va_put (D := D) (ci := 1) (v := .double (FP.dsub q (botv x))) (ty := .double) (C := RX1) (T := TX1) (N := 5) hx hb hts (by decide +kernel) tyX1 tyX1_ok nmX1 hown hK hP hD hS (0) rfl rfl 4 (by decide) (hts (.fieldLink RX1 28 "VinegarLoft$Row" "mayBeDrawn" "D") (by decide +kernel)) (fun _ h9 => h9) rfl (by decide +kernel) rfl rfl (Nat.le_of_ble_eq_true rfl) dX1_takeBottles_23 (fun H locs hP hD hS => ?_)
  have hP : va_P D vwCl (rowW r la bs cA (nI n) wm (nI b) (FP.dsub q (botv x)) wd zs h) H := hP
  have hD : va_D A (rowW r la bs cA (nI n) wm (nI b) (FP.dsub q (botv x)) wd zs h) := hD
  refine lv_aload_n hx hb dX1_takeBottles_26 rfl (lv_at hl 1 rfl) ?_
  refine va_get (D := D) (ci := 1) (v := .ref la) (C := RX1) (T := TX1) (N := 5) hx hb hts (by decide +kernel) hown hK hP (0) rfl rfl 0 (by decide) (hts (.fieldLink RX1 11 "VinegarLoft$Row" "line" "[LVinegarLoft$Barrel;") (by decide +kernel)) (fun _ h9 => h9) rfl dX1_takeBottles_27 ?_
  refine lv_aload_n hx hb dX1_takeBottles_30 rfl (lv_at hl 1 rfl) ?_
  refine va_get (D := D) (ci := 1) (v := .int (nI b)) (C := RX1) (T := TX1) (N := 5) hx hb hts (by decide +kernel) hown hK hP (0) rfl rfl 3 (by decide) (hts (.fieldLink RX1 25 "VinegarLoft$Row" "drawnFrom" "I") (by decide +kernel)) (fun _ h9 => h9) rfl dX1_takeBottles_31 ?_
  refine kx_ald hx hb hK hP (1) 0 rfl rfl (j := b) rfl (by omega) dX1_takeBottles_34 ?_
  refine lv_dload_n hx hb dX1_takeBottles_35 rfl (lv_at hl 0 rfl) ?_
  refine ko_v (va_runV (As := [.double (botv x)]) (rest := []) ⟨hx, hb, hml, hown, hts⟩ (metX0_takeOut l D H.size (bs b) (wd b) (zs b) (h b) (h (8 + b)) (h (16 + b)) (h (24 + b)) (botv x) t2 t3) (cwV 1 hts gX1_takeBottles_X0_takeOut rfl rfl rfl (by decide +kernel) ⟨Nat.le_of_ble_eq_true rfl, Nat.le_of_ble_eq_true rfl⟩) (pmV 0 0 RX0 TX0 6 rfl rfl (vj_oP (rowW_b (show b < 8 by omega)) hP) (hK.sub [] rfl) (vj_oD (rowW_b (show b < 8 by omega)) hD)) rfl rfl hl.1 rfl (lv_room (Nat.le_of_ble_eq_true rfl)) dX1_takeBottles_36 ⟨Nat.le_of_ble_eq_true rfl, Nat.le_of_ble_eq_true rfl⟩) (rowW_b (show b < 8 by omega)) hP hD hS hA (fun H locs hP hD hS => ?_)
  have hP : va_P D vwCl (rowW r la bs cA (nI n) wm (nI b) (FP.dsub q (botv x)) wd zs (tkH h b (botv x))) H := by rw [← rowW_tk (show b < 8 by omega)]; exact hP
  have hD : va_D A (rowW r la bs cA (nI n) wm (nI b) (FP.dsub q (botv x)) wd zs (tkH h b (botv x))) := by rw [← rowW_tk (show b < 8 by omega)]; exact hD
  exact W.vret hx hb hr (fun t ht hW => ⟨⟨(), rfl, trivial, by rw [ht]; exact hP, va_K.moved hW.alike hK, hD⟩, hS.F ht⟩) hS.2.2 dX1_takeBottles_39
theorem dadd_0 {a : UInt64} (h : NN a) : FP.dadd a 0 = a := by
  refine FP.Core.dadd_zero h.ne (fun e => ?_)
  have h1 := h.lt63
  rw [e] at h1
  exact absurd h1 (by decide +kernel)
set_option maxHeartbeats 4000000 in
set_option maxRecDepth 100000 in
/-- passDown() -/
theorem metX1_passDown (l : Launch) (D : va_G) (sz : Nat) (r la : Nat) (bs : Nat → Nat) (cA : ClassId) (n : Nat) (hn : n ≤ 8) (wm df : Int32) (q : UInt64) (wd zs : Nat → Int32) (h : Nat → UInt64) (ht : took zs (n - 1) h 0) : Met l yX1_passDown wsX1_passDown { frames := 3, cells := 0, slots := 0, locals := 84 } (Pm D [(cA, .object "VinegarLoft$Barrel")] [.ref r] (rowW r la bs cA (nI n) wm df q wd zs h) sz) (va_Qd (fun (r : UInt64) (_ : Unit) => r = toS zs (n - 1) h 0) (Bm D [(cA, .object "VinegarLoft$Barrel")] (va_A (rowW r la bs cA (nI n) wm df q wd zs h) sz) (rowW r la bs cA (nI n) wm df q wd zs (toH zs (n - 1) h))) (va_A (rowW r la bs cA (nI n) wm df q wd zs h) sz)) 0 0 (va_A (rowW r la bs cA (nI n) wm df q wd zs h) sz) := by
  refine Met.ofW (cc := cX1_passDown) (maxL := 4) (ret := (some .double)) (by decide) rfl ?_
  intro p e s m args below meth c s₁ B hml hv
  obtain ⟨rfl, hsz, hP, hK, hD0⟩ := hv
  have hx := B.exec
  have hb := B.bytes
  have hr := B.returns
  have hts := atoms_spec (ws := wsX1_passDown) B.pre
  have hown : s.vm.findClass RX1 = some m.cls := findClass_of_methodNamed B.named
  have hlocks := B.notSynchronized
  subst hsz
  have hD := hD0.self (sz := s.heap.size)
  generalize hAe : va_A (rowW r la bs cA (nI n) wm df q wd zs h) s.heap.size = A at hD ⊢
  have hA : ∀ q : Nat, s.heap.size ≤ q → A q := fun q h => by rw [← hAe]; exact Or.inr h
  refine kW_H (fun H hH => ?_)
  have hP : va_P D vwCl (rowW r la bs cA (nI n) wm df q wd zs h) H := by rw [hH]; exact hP
  have hS : va_S A s.heap H [] := by rw [hH]; exact va_S.rf
  have hl := lv_entry ([.ref r]) (n := 4) (Nat.le_of_ble_eq_true rfl)
  rw [lg_entry_eq]
  generalize (lg_sl ([.ref r]) ++ List.replicate (4 - (lg_sl ([.ref r])).length) Slot.unset).toArray = ls at hl ⊢
  have hl : lv_has ls 4 [(0, .ref r)] := hl
  refine kd_0 hx hb dX1_passDown_0 ?_
  refine lv_dstore_n (lv' := [(1, .double 0), (0, .ref r)]) hx hb dX1_passDown_1 rfl hl (by decide) rfl (fun ls hl => ?_)
  refine lv_aload_n hx hb dX1_passDown_2 rfl (lv_at hl 1 rfl) ?_
  refine va_get (D := D) (ci := 1) (v := .int (nI n)) (C := RX1) (T := TX1) (N := 5) hx hb hts (by decide +kernel) hown hK hP (0) rfl rfl 1 (by decide) (hts (.fieldLink RX1 18 "VinegarLoft$Row" "count" "I") (by decide +kernel)) (fun _ h9 => h9) rfl dX1_passDown_3 ?_
  refine lv_iconst (v := 1) hx hb dX1_passDown_6 (by decide) ?_
  refine lv_isub hx hb dX1_passDown_7 ?_
  refine lv_istore_n (lv' := [(3, .int ((nI n) - 1)), (1, .double 0), (0, .ref r)]) hx hb dX1_passDown_8 rfl hl (by decide) rfl (fun ls hl => ?_)
  by_cases h0 : n = 0
  · subst h0
    have hl : lv_has ls 4 [(3, .int (-1)), (1, .double 0), (0, .ref r)] := hl
    refine lv_iload_n hx hb dX1_passDown_9 rfl (lv_at hl 0 rfl) ?_
    refine lv_if_le (tgt := 39) hx hb dX1_passDown_10 (by decide) (fun c10 => ?_) (fun c10 => absurd (by decide) c10)
    refine lv_dload_n hx hb dX1_passDown_39 rfl (lv_at hl 1 rfl) ?_
    exact W.dret hx hb hr (fun t ht hW => ⟨⟨_, (), rfl, rfl, by rw [ht]; exact hP, va_K.moved hW.alike hK, hD⟩, hS.F ht⟩) hS.2.2 dX1_passDown_40
  have h0 : 0 < n := by omega
  rw [nI_p h0] at hl
  refine kW_dn (n - 1) (fun i H locs ls => ∃ (h' : Nat → UInt64) (s' : UInt64), toH zs i h' = toH zs (n - 1) h ∧ toS zs i h' s' = toS zs (n - 1) h 0 ∧ took zs i h' s' ∧ va_P D vwCl (rowW r la bs cA (nI n) wm df q wd zs (h')) H ∧ va_D A (rowW r la bs cA (nI n) wm df q wd zs (h')) ∧ va_S A s.heap H locs ∧ lv_has ls 4 [(3, .int (nI i)), (1, .double s'), (0, .ref r)]) (fun i H locs ls hi hI ih => ?_) (fun H locs ls hI => ?_) ⟨h, 0, rfl, rfl, ht, hP, hD, hS, lv_sub hl [0, 1, 2] rfl⟩
  · obtain ⟨h', s', e1, e2, e3, hP, hD, hS, hl⟩ := hI
    obtain ⟨⟨ok, hs, hv⟩, e3⟩ := e3
    refine lv_iload_n hx hb dX1_passDown_9 rfl (lv_at hl 0 rfl) ?_
    refine lv_if_le (tgt := 39) hx hb dX1_passDown_10 (by decide) (fun c10 => absurd c10 (nI_nle (by omega) (by omega))) (fun c10 => ?_)
    refine lv_dload_n hx hb dX1_passDown_13 rfl (lv_at hl 1 rfl) ?_
    refine lv_aload_n hx hb dX1_passDown_14 rfl (lv_at hl 2 rfl) ?_
    refine va_get (D := D) (ci := 1) (v := .ref la) (C := RX1) (T := TX1) (N := 5) hx hb hts (by decide +kernel) hown hK hP (0) rfl rfl 0 (by decide) (hts (.fieldLink RX1 11 "VinegarLoft$Row" "line" "[LVinegarLoft$Barrel;") (by decide +kernel)) (fun _ h9 => h9) rfl dX1_passDown_15 ?_
    refine lv_iload_n hx hb dX1_passDown_18 rfl (lv_at hl 0 rfl) ?_
    refine lv_iconst (v := 1) hx hb dX1_passDown_19 (by decide) ?_
    refine lv_isub hx hb dX1_passDown_20 ?_
    refine kx_ald hx hb hK hP (1) 0 rfl rfl (j := i) (nI_pred i) (by omega) dX1_passDown_21 ?_
    refine lv_aload_n hx hb dX1_passDown_22 rfl (lv_at hl 2 rfl) ?_
    refine va_get (D := D) (ci := 1) (v := .ref la) (C := RX1) (T := TX1) (N := 5) hx hb hts (by decide +kernel) hown hK hP (0) rfl rfl 0 (by decide) (hts (.fieldLink RX1 11 "VinegarLoft$Row" "line" "[LVinegarLoft$Barrel;") (by decide +kernel)) (fun _ h9 => h9) rfl dX1_passDown_23 ?_
    refine lv_iload_n hx hb dX1_passDown_26 rfl (lv_at hl 0 rfl) ?_
    refine kx_ald hx hb hK hP (1) 0 rfl rfl (j := i + 1) rfl (by omega) dX1_passDown_27 ?_
    by_cases g : FP.dcmp (paG zs h' i) 0 = some .gt
    · refine kt_d (k1 := 2 + i) (k2 := 2 + (i + 1)) (va_runS (As := [.ref (bs i), .ref (bs (i + 1))]) (rest := [.double s']) ⟨hx, hb, hml, hown, hts⟩ (metX1_passBetween_y l D H.size (bs i) (bs (i + 1)) (wd i) (zs i) ((h') i) ((h') (8 + i)) ((h') (16 + i)) ((h') (24 + i)) (wd (i + 1)) (zs (i + 1)) ((h') (i + 1)) ((h') (8 + (i + 1))) ((h') (16 + (i + 1))) ((h') (24 + (i + 1))) ok g) (va_cwS 2 hts gX1_passDown_X1_passBetween rfl rfl rfl (by decide +kernel) ⟨Nat.le_of_ble_eq_true rfl, Nat.le_of_ble_eq_true rfl⟩) (pmS (vj_tP (k1 := 2 + i) (k2 := 2 + (i + 1)) (rowW_b (show i < 8 by omega)) (rowW_b (show i + 1 < 8 by omega)) hP) (hK.sub [] rfl) (vj_tD (k1 := 2 + i) (k2 := 2 + (i + 1)) (rowW_b (show i < 8 by omega)) (rowW_b (show i + 1 < 8 by omega)) (by omega) hD)) rfl rfl hl.1 rfl (lv_room (Nat.le_of_ble_eq_true rfl)) dX1_passDown_28 ⟨Nat.le_of_ble_eq_true rfl, Nat.le_of_ble_eq_true rfl⟩) (rowW_b (show i < 8 by omega)) (rowW_b (show i + 1 < 8 by omega)) (by omega) hP hD hS hA (fun H locs hP hD hS => ?_)
      have hP : va_P D vwCl (rowW r la bs cA (nI n) wm df q wd zs (paH zs h' i)) H := by rw [← rowW_pa (show i + 1 < 8 by omega) g]; exact hP
      have hD : va_D A (rowW r la bs cA (nI n) wm df q wd zs (paH zs h' i)) := by rw [← rowW_pa (show i + 1 < 8 by omega) g]; exact hD
      have hv : vf_n64 (FP.dadd s' (paG zs h' i)) := hv g
      refine lv_dadd hx hb dX1_passDown_31 hv ?_
      refine kd_eq (show FP.dadd s' (paG zs h' i) = paS zs h' i s' from by unfold paS; rw [if_pos g]) ?_
      refine lv_dstore_n (lv' := [(1, .double (paS zs h' i s')), (3, .int (nI (i + 1))), (0, .ref r)]) hx hb dX1_passDown_32 rfl hl (by decide) rfl (fun ls hl => ?_)
      refine lv_iinc (v := nI i) (lv' := [(3, .int (nI i)), (1, .double (paS zs h' i s')), (0, .ref r)]) hx hb dX1_passDown_33 hl (k := 1) rfl (pk_m1 i) (by decide) rfl (fun ls hl => ?_)
      refine lv_goto (tgt := 9) hx hb dX1_passDown_36 (by decide) ?_
      exact ih H locs ls ⟨_, _, e1, e2, e3, hP, hD, hS, lv_sub hl [0, 1, 2] rfl⟩
    · refine kt_d (k1 := 2 + i) (k2 := 2 + (i + 1)) (va_runS (As := [.ref (bs i), .ref (bs (i + 1))]) (rest := [.double s']) ⟨hx, hb, hml, hown, hts⟩ (metX1_passBetween_n l D H.size (bs i) (bs (i + 1)) (wd i) (zs i) ((h') i) ((h') (8 + i)) ((h') (16 + i)) ((h') (24 + i)) (wd (i + 1)) (zs (i + 1)) ((h') (i + 1)) ((h') (8 + (i + 1))) ((h') (16 + (i + 1))) ((h') (24 + (i + 1))) ok g) (va_cwS 2 hts gX1_passDown_X1_passBetween rfl rfl rfl (by decide +kernel) ⟨Nat.le_of_ble_eq_true rfl, Nat.le_of_ble_eq_true rfl⟩) (pmS (vj_tP (k1 := 2 + i) (k2 := 2 + (i + 1)) (rowW_b (show i < 8 by omega)) (rowW_b (show i + 1 < 8 by omega)) hP) (hK.sub [] rfl) (vj_tD (k1 := 2 + i) (k2 := 2 + (i + 1)) (rowW_b (show i < 8 by omega)) (rowW_b (show i + 1 < 8 by omega)) (by omega) hD)) rfl rfl hl.1 rfl (lv_room (Nat.le_of_ble_eq_true rfl)) dX1_passDown_28 ⟨Nat.le_of_ble_eq_true rfl, Nat.le_of_ble_eq_true rfl⟩) (rowW_b (show i < 8 by omega)) (rowW_b (show i + 1 < 8 by omega)) (by omega) hP hD hS hA (fun H locs hP hD hS => ?_)
      rw [rowW_id (show i < 8 by omega), rowW_id (show i + 1 < 8 by omega)] at hP hD
      have hP : va_P D vwCl (rowW r la bs cA (nI n) wm df q wd zs (paH zs h' i)) H := by unfold paH; rw [if_neg g]; exact hP
      have hD : va_D A (rowW r la bs cA (nI n) wm df q wd zs (paH zs h' i)) := by unfold paH; rw [if_neg g]; exact hD
      have hv : vf_n64 (FP.dadd s' 0) := by rw [dadd_0 hs]; exact hs.n64
      refine lv_dadd hx hb dX1_passDown_31 hv ?_
      refine kd_eq (show FP.dadd s' 0 = paS zs h' i s' from by unfold paS; rw [if_neg g, dadd_0 hs]) ?_
      refine lv_dstore_n (lv' := [(1, .double (paS zs h' i s')), (3, .int (nI (i + 1))), (0, .ref r)]) hx hb dX1_passDown_32 rfl hl (by decide) rfl (fun ls hl => ?_)
      refine lv_iinc (v := nI i) (lv' := [(3, .int (nI i)), (1, .double (paS zs h' i s')), (0, .ref r)]) hx hb dX1_passDown_33 hl (k := 1) rfl (pk_m1 i) (by decide) rfl (fun ls hl => ?_)
      refine lv_goto (tgt := 9) hx hb dX1_passDown_36 (by decide) ?_
      exact ih H locs ls ⟨_, _, e1, e2, e3, hP, hD, hS, lv_sub hl [0, 1, 2] rfl⟩
  · obtain ⟨h', s', e1, e2, e3, hP, hD, hS, hl⟩ := hI
    refine lv_iload_n hx hb dX1_passDown_9 rfl (lv_at hl 0 rfl) ?_
    refine lv_if_le (tgt := 39) hx hb dX1_passDown_10 (by decide) (fun c10 => ?_) (fun c10 => absurd (by decide) c10)
    refine lv_dload_n hx hb dX1_passDown_39 rfl (lv_at hl 1 rfl) ?_
    have hP : va_P D vwCl (rowW r la bs cA (nI n) wm df q wd zs (toH zs (n - 1) h)) H := by rw [← e1]; exact hP
    have hD : va_D A (rowW r la bs cA (nI n) wm df q wd zs (toH zs (n - 1) h)) := by rw [← e1]; exact hD
    exact W.dret hx hb hr (fun t ht hW => ⟨⟨_, (), rfl, e2, by rw [ht]; exact hP, va_K.moved hW.alike hK, hD⟩, hS.F ht⟩) hS.2.2 dX1_passDown_40
set_option maxHeartbeats 4000000 in
set_option maxRecDepth 100000 in
/-- ageAll() -/
theorem metX1_ageAll (l : Launch) (D : va_G) (sz : Nat) (r la : Nat) (bs : Nat → Nat) (cA : ClassId) (n : Nat) (hn : n ≤ 8) (wm df : Int32) (q : UInt64) (wd zs : Nat → Int32) (h : Nat → UInt64) (hdr : drok wm) (hok : agok wd (drv wm) h n) (hN : NNr n (agH wd (drv wm) h n)) (hq : ∀ b, b < n → vf_n64 (FP.dmul 4598175219545276416 ((agH wd (drv wm) h n) b))) : Met l yX1_ageAll wsX1_ageAll { frames := 3, cells := 0, slots := 0, locals := 70 } (Pm D [(cA, .object "VinegarLoft$Barrel")] [.ref r] (rowW r la bs cA (nI n) wm df q wd zs h) sz) (va_Qd (fun (r : UInt64) (_ : Unit) => r = agS wd (drv wm) h n) (Bm D [(cA, .object "VinegarLoft$Barrel")] (va_A (rowW r la bs cA (nI n) wm df q wd zs h) sz) (rowW r la bs cA (nI n) wm (encO (elO (agH wd (drv wm) h n) n)) (quv (agH wd (drv wm) h n) (elO (agH wd (drv wm) h n) n)) wd zs (agH wd (drv wm) h n))) (va_A (rowW r la bs cA (nI n) wm df q wd zs h) sz)) 0 0 (va_A (rowW r la bs cA (nI n) wm df q wd zs h) sz) := by
  refine Met.ofW (cc := cX1_ageAll) (maxL := 6) (ret := (some .double)) (by decide) rfl ?_
  intro p e s m args below meth c s₁ B hml hv
  obtain ⟨rfl, hsz, hP, hK, hD0⟩ := hv
  have hx := B.exec
  have hb := B.bytes
  have hr := B.returns
  have hts := atoms_spec (ws := wsX1_ageAll) B.pre
  have hown : s.vm.findClass RX1 = some m.cls := findClass_of_methodNamed B.named
  have hlocks := B.notSynchronized
  subst hsz
  have hD := hD0.self (sz := s.heap.size)
  generalize hAe : va_A (rowW r la bs cA (nI n) wm df q wd zs h) s.heap.size = A at hD ⊢
  have hA : ∀ q : Nat, s.heap.size ≤ q → A q := fun q h => by rw [← hAe]; exact Or.inr h
  refine kW_H (fun H hH => ?_)
  have hP : va_P D vwCl (rowW r la bs cA (nI n) wm df q wd zs h) H := by rw [hH]; exact hP
  have hS : va_S A s.heap H [] := by rw [hH]; exact va_S.rf
  have hl := lv_entry ([.ref r]) (n := 6) (Nat.le_of_ble_eq_true rfl)
  rw [lg_entry_eq]
  generalize (lg_sl ([.ref r]) ++ List.replicate (6 - (lg_sl ([.ref r])).length) Slot.unset).toArray = ls at hl ⊢
  have hl : lv_has ls 6 [(0, .ref r)] := hl
  refine lv_aload_n hx hb dX1_ageAll_0 rfl (lv_at hl 0 rfl) ?_
  refine kr_d (W.runV (As := []) (rest := []) ⟨hx, hb, hml, hown, hts⟩ (metX1_draughtNow l D r la bs cA n hn wm df q wd zs h hdr) (cwV 0 hts gX1_ageAll_X1_draughtNow rfl rfl rfl (by decide +kernel) ⟨Nat.le_of_ble_eq_true rfl, Nat.le_of_ble_eq_true rfl⟩) (prV 1 0 RX1 TX1 5 rfl rfl hP hK) rfl rfl hl.1 rfl (lv_room (Nat.le_of_ble_eq_true rfl)) dX1_ageAll_1 ⟨Nat.le_of_ble_eq_true rfl, Nat.le_of_ble_eq_true rfl⟩) ?_
  refine lv_dstore_n (lv' := [(1, .double (drv wm)), (0, .ref r)]) hx hb dX1_ageAll_4 rfl hl (by decide) rfl (fun ls hl => ?_)
  refine kd_0 hx hb dX1_ageAll_5 ?_
  refine lv_dstore_n (lv' := [(3, .double 0), (1, .double (drv wm)), (0, .ref r)]) hx hb dX1_ageAll_6 rfl hl (by decide) rfl (fun ls hl => ?_)
  refine lv_iconst (v := 0) hx hb dX1_ageAll_7 (by decide) ?_
  refine lv_istore (lv' := [(5, .int 0), (3, .double 0), (1, .double (drv wm)), (0, .ref r)]) hx hb dX1_ageAll_8 hl (by decide) rfl (fun ls hl => ?_)
  refine kW_up (n) (fun i H locs ls => va_P D vwCl (rowW r la bs cA (nI n) wm df q wd zs (agH wd (drv wm) h i)) H ∧ va_D A (rowW r la bs cA (nI n) wm df q wd zs (agH wd (drv wm) h i)) ∧ va_S A s.heap H locs ∧ lv_has ls 6 [(5, .int (nI i)), (3, .double (agS wd (drv wm) h i)), (1, .double (drv wm)), (0, .ref r)]) (fun i H locs ls hi hI ih => ?_) (fun H locs ls hI => ?_) ⟨hP, hD, hS, lv_sub hl [0, 1, 2, 3] (rfl)⟩
  · obtain ⟨hP, hD, hS, hl⟩ := hI
    refine lv_iload hx hb dX1_ageAll_10 (lv_at hl 0 rfl) ?_
    refine lv_aload_n hx hb dX1_ageAll_12 rfl (lv_at hl 3 rfl) ?_
    refine va_get (D := D) (ci := 1) (v := .int (nI n)) (C := RX1) (T := TX1) (N := 5) hx hb hts (by decide +kernel) hown hK hP (0) rfl rfl 1 (by decide) (hts (.fieldLink RX1 18 "VinegarLoft$Row" "count" "I") (by decide +kernel)) (fun _ h9 => h9) rfl dX1_ageAll_13 ?_
    refine lv_icmp_ge (tgt := 52) hx hb dX1_ageAll_16 (by decide) (fun c16 => absurd c16 (nI_ge hi (by omega))) (fun c16 => ?_)
    refine lv_aload_n hx hb dX1_ageAll_19 rfl (lv_at hl 3 rfl) ?_
    refine va_get (D := D) (ci := 1) (v := .ref la) (C := RX1) (T := TX1) (N := 5) hx hb hts (by decide +kernel) hown hK hP (0) rfl rfl 0 (by decide) (hts (.fieldLink RX1 11 "VinegarLoft$Row" "line" "[LVinegarLoft$Barrel;") (by decide +kernel)) (fun _ h9 => h9) rfl dX1_ageAll_20 ?_
    refine lv_iload hx hb dX1_ageAll_23 (lv_at hl 0 rfl) ?_
    refine kx_ald hx hb hK hP (1) 0 rfl rfl (j := i) rfl (by omega) dX1_ageAll_25 ?_
    refine kr_i (W.runV (As := []) (rest := []) ⟨hx, hb, hml, hown, hts⟩ (metX0_isEmpty l D (bs i) (wd i) (zs i) ((agH wd (drv wm) h i) i) ((agH wd (drv wm) h i) (8 + i)) ((agH wd (drv wm) h i) (16 + i)) ((agH wd (drv wm) h i) (24 + i)) (hok i hi).1) (cwV 0 hts gX1_ageAll_X0_isEmpty rfl rfl rfl (by decide +kernel) ⟨Nat.le_of_ble_eq_true rfl, Nat.le_of_ble_eq_true rfl⟩) (prV 0 0 RX0 TX0 6 rfl rfl (vj_oP (rowW_b (show i < 8 by omega)) hP) (hK.sub [] rfl)) rfl rfl hl.1 rfl (lv_room (Nat.le_of_ble_eq_true rfl)) dX1_ageAll_26 ⟨Nat.le_of_ble_eq_true rfl, Nat.le_of_ble_eq_true rfl⟩) ?_
    refine lv_if_ne (tgt := 46) hx hb dX1_ageAll_29 (by decide) (fun c29 => ?_) (fun c29 => ?_)
    · refine lv_iinc (v := nI (i + 1)) (lv' := [(5, .int (nI (i + 1))), (3, .double (agS wd (drv wm) h i)), (1, .double (drv wm)), (0, .ref r)]) hx hb dX1_ageAll_46 hl (k := 0) rfl (nI_1 i) (by decide) rfl (fun ls hl => ?_)
      refine lv_goto (tgt := 10) hx hb dX1_ageAll_49 (by decide) ?_
      have g : FP.dcmp (agH wd (drv wm) h i i) 0 ≠ some .gt := fun h9 => c29 (emp0.mpr h9)
      have eH : agH wd (drv wm) h (i + 1) = agH wd (drv wm) h i := if_neg g
      have eS : agS wd (drv wm) h (i + 1) = agS wd (drv wm) h i := if_neg g
      have hP : va_P D vwCl (rowW r la bs cA (nI n) wm df q wd zs (agH wd (drv wm) h (i + 1))) H := by rw [eH]; exact hP
      have hD : va_D A (rowW r la bs cA (nI n) wm df q wd zs (agH wd (drv wm) h (i + 1))) := by rw [eH]; exact hD
      exact ih H locs ls ⟨hP, hD, hS, lv_sub hl [0, 1, 2, 3] (by rw [eS]; rfl)⟩
    · refine lv_dload_n hx hb dX1_ageAll_32 rfl (lv_at hl 1 rfl) ?_
      refine lv_aload_n hx hb dX1_ageAll_33 rfl (lv_at hl 3 rfl) ?_
      refine va_get (D := D) (ci := 1) (v := .ref la) (C := RX1) (T := TX1) (N := 5) hx hb hts (by decide +kernel) hown hK hP (0) rfl rfl 0 (by decide) (hts (.fieldLink RX1 11 "VinegarLoft$Row" "line" "[LVinegarLoft$Barrel;") (by decide +kernel)) (fun _ h9 => h9) rfl dX1_ageAll_34 ?_
      refine lv_iload hx hb dX1_ageAll_37 (lv_at hl 0 rfl) ?_
      refine kx_ald hx hb hK hP (1) 0 rfl rfl (j := i) rfl (by omega) dX1_ageAll_39 ?_
      refine lv_dload_n hx hb dX1_ageAll_40 rfl (lv_at hl 2 rfl) ?_
      have g := emp0.mp c29
      obtain ⟨ok1, ok2⟩ := (hok i hi).2 g
      refine ko_d (va_runV (As := [.double (drv wm)]) (rest := [.double (agS wd (drv wm) h i)]) ⟨hx, hb, hml, hown, hts⟩ (metX0_spendYear l D H.size (bs i) (wd i) (zs i) ((agH wd (drv wm) h i) i) ((agH wd (drv wm) h i) (8 + i)) ((agH wd (drv wm) h i) (16 + i)) ((agH wd (drv wm) h i) (24 + i)) (drv wm) ok1) (cwV 1 hts gX1_ageAll_X0_spendYear rfl rfl rfl (by decide +kernel) ⟨Nat.le_of_ble_eq_true rfl, Nat.le_of_ble_eq_true rfl⟩) (pmV 0 0 RX0 TX0 6 rfl rfl (vj_oP (rowW_b (show i < 8 by omega)) hP) (hK.sub [] rfl) (vj_oD (rowW_b (show i < 8 by omega)) hD)) rfl rfl hl.1 rfl (lv_room (Nat.le_of_ble_eq_true rfl)) dX1_ageAll_41 ⟨Nat.le_of_ble_eq_true rfl, Nat.le_of_ble_eq_true rfl⟩) (rowW_b (show i < 8 by omega)) hP hD hS hA (fun H locs hP hD hS => ?_)
      have eH : agH wd (drv wm) h (i + 1) = _ := if_pos g
      have hP : va_P D vwCl (rowW r la bs cA (nI n) wm df q wd zs (agH wd (drv wm) h (i + 1))) H := by rw [eH, ← rowW_sh (show i < 8 by omega)]; exact hP
      have hD : va_D A (rowW r la bs cA (nI n) wm df q wd zs (agH wd (drv wm) h (i + 1))) := by rw [eH, ← rowW_sh (show i < 8 by omega)]; exact hD
      refine lv_dadd hx hb dX1_ageAll_44 ok2 ?_
      refine kd_eq (show FP.dadd (agS wd (drv wm) h i) (losv (wd i) (agH wd (drv wm) h i i) (drv wm)) = agS wd (drv wm) h (i + 1) from (if_pos g).symm) ?_
      refine lv_dstore_n (lv' := [(3, .double (agS wd (drv wm) h (i + 1))), (5, .int (nI i)), (1, .double (drv wm)), (0, .ref r)]) hx hb dX1_ageAll_45 rfl hl (by decide) rfl (fun ls hl => ?_)
      refine lv_iinc (v := nI (i + 1)) (lv' := [(5, .int (nI (i + 1))), (3, .double (agS wd (drv wm) h (i + 1))), (1, .double (drv wm)), (0, .ref r)]) hx hb dX1_ageAll_46 hl (k := 1) rfl (nI_1 i) (by decide) rfl (fun ls hl => ?_)
      refine lv_goto (tgt := 10) hx hb dX1_ageAll_49 (by decide) ?_
      exact ih H locs ls ⟨hP, hD, hS, lv_sub hl [0, 1, 2, 3] (rfl)⟩
  · obtain ⟨hP, hD, hS, hl⟩ := hI
    refine lv_iload hx hb dX1_ageAll_10 (lv_at hl 0 rfl) ?_
    refine lv_aload_n hx hb dX1_ageAll_12 rfl (lv_at hl 3 rfl) ?_
    refine va_get (D := D) (ci := 1) (v := .int (nI n)) (C := RX1) (T := TX1) (N := 5) hx hb hts (by decide +kernel) hown hK hP (0) rfl rfl 1 (by decide) (hts (.fieldLink RX1 18 "VinegarLoft$Row" "count" "I") (by decide +kernel)) (fun _ h9 => h9) rfl dX1_ageAll_13 ?_
    refine lv_icmp_ge (tgt := 52) hx hb dX1_ageAll_16 (by decide) (fun c16 => ?_) (fun c16 => absurd (nI_le (Nat.le_refl n) (by omega)) c16)
    refine lv_aload_n hx hb dX1_ageAll_52 rfl (lv_at hl 3 rfl) ?_
    refine lv_aload_n hx hb dX1_ageAll_53 rfl (lv_at hl 3 rfl) ?_
    refine kr_i (W.runV (As := []) (rest := [.ref r]) ⟨hx, hb, hml, hown, hts⟩ (metX1_eldest l D r la bs cA n hn wm df q wd zs (agH wd (drv wm) h n) hN) (cwV 0 hts gX1_ageAll_X1_eldest rfl rfl rfl (by decide +kernel) ⟨Nat.le_of_ble_eq_true rfl, Nat.le_of_ble_eq_true rfl⟩) (prV 1 0 RX1 TX1 5 rfl rfl hP hK) rfl rfl hl.1 rfl (lv_room (Nat.le_of_ble_eq_true rfl)) dX1_ageAll_54 ⟨Nat.le_of_ble_eq_true rfl, Nat.le_of_ble_eq_true rfl⟩) ?_
    rcases ho : elO (agH wd (drv wm) h n) n with _ | b
    · have ho9 := ho
      refine va_put (D := D) (ci := 1) (v := .int (-1)) (ty := .int) (C := RX1) (T := TX1) (N := 5) hx hb hts (by decide +kernel) tyX1 tyX1_ok nmX1 hown hK hP hD hS (0) rfl rfl 3 (by decide) (hts (.fieldLink RX1 25 "VinegarLoft$Row" "drawnFrom" "I") (by decide +kernel)) (fun _ h9 => h9) rfl (by decide +kernel) rfl rfl (Nat.le_of_ble_eq_true rfl) dX1_ageAll_57 (fun H locs hP hD hS => ?_)
      have hP : va_P D vwCl (rowW r la bs cA (nI n) wm (-1) q wd zs (agH wd (drv wm) h n)) H := hP
      have hD : va_D A (rowW r la bs cA (nI n) wm (-1) q wd zs (agH wd (drv wm) h n)) := hD
      refine lv_aload_n hx hb dX1_ageAll_60 rfl (lv_at hl 3 rfl) ?_
      refine lv_aload_n hx hb dX1_ageAll_61 rfl (lv_at hl 3 rfl) ?_
      refine va_get (D := D) (ci := 1) (v := .int (-1)) (C := RX1) (T := TX1) (N := 5) hx hb hts (by decide +kernel) hown hK hP (0) rfl rfl 3 (by decide) (hts (.fieldLink RX1 25 "VinegarLoft$Row" "drawnFrom" "I") (by decide +kernel)) (fun _ h9 => h9) rfl dX1_ageAll_62 ?_
      refine lv_iconst (v := (-1)) hx hb dX1_ageAll_65 (by decide) ?_
      refine lv_icmp_ne (tgt := 73) hx hb dX1_ageAll_66 (by decide) (fun c66 => absurd c66 (fun h9 => h9 rfl)) (fun c66 => ?_)
      refine kd_0 hx hb dX1_ageAll_69 ?_
      refine lv_goto (tgt := 89) hx hb dX1_ageAll_70 (by decide) ?_
      refine va_put (D := D) (ci := 1) (v := .double 0) (ty := .double) (C := RX1) (T := TX1) (N := 5) hx hb hts (by decide +kernel) tyX1 tyX1_ok nmX1 hown hK hP hD hS (0) rfl rfl 4 (by decide) (hts (.fieldLink RX1 28 "VinegarLoft$Row" "mayBeDrawn" "D") (by decide +kernel)) (fun _ h9 => h9) rfl (by decide +kernel) rfl rfl (Nat.le_of_ble_eq_true rfl) dX1_ageAll_89 (fun H locs hP hD hS => ?_)
      have hP : va_P D vwCl (rowW r la bs cA (nI n) wm (-1) 0 wd zs (agH wd (drv wm) h n)) H := hP
      have hD : va_D A (rowW r la bs cA (nI n) wm (-1) 0 wd zs (agH wd (drv wm) h n)) := hD
      refine lv_dload_n hx hb dX1_ageAll_92 rfl (lv_at hl 1 rfl) ?_
      exact W.dret hx hb hr (fun t ht hW => ⟨⟨_, (), rfl, rfl, by rw [ht]; exact hP, va_K.moved hW.alike hK, hD⟩, hS.F ht⟩) hS.2.2 dX1_ageAll_93
    · have hbn : b < n := elO_lt (agH wd (drv wm) h n) n b ho
      refine va_put (D := D) (ci := 1) (v := .int (nI b)) (ty := .int) (C := RX1) (T := TX1) (N := 5) hx hb hts (by decide +kernel) tyX1 tyX1_ok nmX1 hown hK hP hD hS (0) rfl rfl 3 (by decide) (hts (.fieldLink RX1 25 "VinegarLoft$Row" "drawnFrom" "I") (by decide +kernel)) (fun _ h9 => h9) rfl (by decide +kernel) rfl rfl (Nat.le_of_ble_eq_true rfl) dX1_ageAll_57 (fun H locs hP hD hS => ?_)
      have hP : va_P D vwCl (rowW r la bs cA (nI n) wm (nI b) q wd zs (agH wd (drv wm) h n)) H := hP
      have hD : va_D A (rowW r la bs cA (nI n) wm (nI b) q wd zs (agH wd (drv wm) h n)) := hD
      refine lv_aload_n hx hb dX1_ageAll_60 rfl (lv_at hl 3 rfl) ?_
      refine lv_aload_n hx hb dX1_ageAll_61 rfl (lv_at hl 3 rfl) ?_
      refine va_get (D := D) (ci := 1) (v := .int (nI b)) (C := RX1) (T := TX1) (N := 5) hx hb hts (by decide +kernel) hown hK hP (0) rfl rfl 3 (by decide) (hts (.fieldLink RX1 25 "VinegarLoft$Row" "drawnFrom" "I") (by decide +kernel)) (fun _ h9 => h9) rfl dX1_ageAll_62 ?_
      refine lv_iconst (v := (-1)) hx hb dX1_ageAll_65 (by decide) ?_
      refine lv_icmp_ne (tgt := 73) hx hb dX1_ageAll_66 (by decide) (fun c66 => ?_) (fun c66 => absurd c66 (nI_m1 (by omega)))
      refine lv_ldc2d hx hb hown (hts (.constantDouble RX1 94 4598175219545276416) (by decide +kernel)) dX1_ageAll_73 ?_
      refine lv_aload_n hx hb dX1_ageAll_76 rfl (lv_at hl 3 rfl) ?_
      refine va_get (D := D) (ci := 1) (v := .ref la) (C := RX1) (T := TX1) (N := 5) hx hb hts (by decide +kernel) hown hK hP (0) rfl rfl 0 (by decide) (hts (.fieldLink RX1 11 "VinegarLoft$Row" "line" "[LVinegarLoft$Barrel;") (by decide +kernel)) (fun _ h9 => h9) rfl dX1_ageAll_77 ?_
      refine lv_aload_n hx hb dX1_ageAll_80 rfl (lv_at hl 3 rfl) ?_
      refine va_get (D := D) (ci := 1) (v := .int (nI b)) (C := RX1) (T := TX1) (N := 5) hx hb hts (by decide +kernel) hown hK hP (0) rfl rfl 3 (by decide) (hts (.fieldLink RX1 25 "VinegarLoft$Row" "drawnFrom" "I") (by decide +kernel)) (fun _ h9 => h9) rfl dX1_ageAll_81 ?_
      refine kx_ald hx hb hK hP (1) 0 rfl rfl (j := b) rfl (by omega) dX1_ageAll_84 ?_
      refine va_get (D := D) (ci := 0) (v := .double ((agH wd (drv wm) h n) b)) (C := RX0) (T := TX0) (N := 6) hx hb hts (by decide +kernel) hown hK hP (2 + b) (rowW_b (show b < 8 by omega)) rfl 2 (by decide) (hts (.fieldLink RX1 49 "VinegarLoft$Barrel" "litres" "D") (by decide +kernel)) (fun _ h9 => h9) rfl dX1_ageAll_85 ?_
      refine lv_dmul hx hb dX1_ageAll_88 (hq b hbn) ?_
      refine va_put (D := D) (ci := 1) (v := .double (FP.dmul 4598175219545276416 ((agH wd (drv wm) h n) b))) (ty := .double) (C := RX1) (T := TX1) (N := 5) hx hb hts (by decide +kernel) tyX1 tyX1_ok nmX1 hown hK hP hD hS (0) rfl rfl 4 (by decide) (hts (.fieldLink RX1 28 "VinegarLoft$Row" "mayBeDrawn" "D") (by decide +kernel)) (fun _ h9 => h9) rfl (by decide +kernel) rfl rfl (Nat.le_of_ble_eq_true rfl) dX1_ageAll_89 (fun H locs hP hD hS => ?_)
      have hP : va_P D vwCl (rowW r la bs cA (nI n) wm (nI b) (FP.dmul 4598175219545276416 ((agH wd (drv wm) h n) b)) wd zs (agH wd (drv wm) h n)) H := hP
      have hD : va_D A (rowW r la bs cA (nI n) wm (nI b) (FP.dmul 4598175219545276416 ((agH wd (drv wm) h n) b)) wd zs (agH wd (drv wm) h n)) := hD
      refine lv_dload_n hx hb dX1_ageAll_92 rfl (lv_at hl 1 rfl) ?_
      exact W.dret hx hb hr (fun t ht hW => ⟨⟨_, (), rfl, rfl, by rw [ht]; exact hP, va_K.moved hW.alike hK, hD⟩, hS.F ht⟩) hS.2.2 dX1_ageAll_93
set_option maxHeartbeats 4000000 in
set_option maxRecDepth 100000 in
/-- copyFrom(other) -/
theorem metX1_copyFrom (l : Launch) (D : va_G) (sz : Nat) (r la : Nat) (bs : Nat → Nat) (cA : ClassId) (n : Nat) (hn : n ≤ 8) (wm df : Int32) (q : UInt64) (wd zs : Nat → Int32) (h : Nat → UInt64) (r2 la2 : Nat) (bs2 : Nat → Nat) (n2 : Nat) (hn2 : n2 ≤ 8) (wm2 df2 : Int32) (q2 : UInt64) (wd2 zs2 : Nat → Int32) (h2 : Nat → UInt64)  : Met l yX1_copyFrom wsX1_copyFrom { frames := 1, cells := 0, slots := 0, locals := 21 } (Pm D [(cA, .object "VinegarLoft$Barrel")] [.ref r, .ref r2] (rowW r la bs cA (nI n) wm df q wd zs h ++ rowW r2 la2 bs2 cA (nI n2) wm2 df2 q2 wd2 zs2 h2) sz) (va_Qv (fun (_ : Unit) => True) (Bm D [(cA, .object "VinegarLoft$Barrel")] (va_A (rowW r la bs cA (nI n) wm df q wd zs h ++ rowW r2 la2 bs2 cA (nI n2) wm2 df2 q2 wd2 zs2 h2) sz) (rowW r la bs cA (nI n2) wm2 df2 q2 (cpI n2 wd wd2) (cpI n2 zs zs2) (cpH n2 h h2) ++ rowW r2 la2 bs2 cA (nI n2) wm2 df2 q2 wd2 zs2 h2)) (va_A (rowW r la bs cA (nI n) wm df q wd zs h ++ rowW r2 la2 bs2 cA (nI n2) wm2 df2 q2 wd2 zs2 h2) sz)) 0 0 (va_A (rowW r la bs cA (nI n) wm df q wd zs h ++ rowW r2 la2 bs2 cA (nI n2) wm2 df2 q2 wd2 zs2 h2) sz) := by
  refine Met.ofW (cc := cX1_copyFrom) (maxL := 3) (ret := none) (by decide) rfl ?_
  intro p e s m args below meth c s₁ B hml hv
  obtain ⟨rfl, hsz, hP, hK, hD0⟩ := hv
  have hx := B.exec
  have hb := B.bytes
  have hr := B.returns
  have hts := atoms_spec (ws := wsX1_copyFrom) B.pre
  have hown : s.vm.findClass RX1 = some m.cls := findClass_of_methodNamed B.named
  have hlocks := B.notSynchronized
  subst hsz
  have hD := hD0.self (sz := s.heap.size)
  generalize hAe : va_A (rowW r la bs cA (nI n) wm df q wd zs h ++ rowW r2 la2 bs2 cA (nI n2) wm2 df2 q2 wd2 zs2 h2) s.heap.size = A at hD ⊢
  have hA : ∀ q : Nat, s.heap.size ≤ q → A q := fun q h => by rw [← hAe]; exact Or.inr h
  refine kW_H (fun H hH => ?_)
  have hP : va_P D vwCl (rowW r la bs cA (nI n) wm df q wd zs h ++ rowW r2 la2 bs2 cA (nI n2) wm2 df2 q2 wd2 zs2 h2) H := by rw [hH]; exact hP
  have hS : va_S A s.heap H [] := by rw [hH]; exact va_S.rf
  have hl := lv_entry ([.ref r, .ref r2]) (n := 3) (Nat.le_of_ble_eq_true rfl)
  rw [lg_entry_eq]
  generalize (lg_sl ([.ref r, .ref r2]) ++ List.replicate (3 - (lg_sl ([.ref r, .ref r2])).length) Slot.unset).toArray = ls at hl ⊢
  have hl : lv_has ls 3 [(0, .ref r), (1, .ref r2)] := hl
  refine lv_aload_n hx hb dX1_copyFrom_0 rfl (lv_at hl 0 rfl) ?_
  refine lv_aload_n hx hb dX1_copyFrom_1 rfl (lv_at hl 1 rfl) ?_
  refine va_get (D := D) (ci := 1) (v := .int (nI n2)) (C := RX1) (T := TX1) (N := 5) hx hb hts (by decide +kernel) hown hK hP (10) rfl rfl 1 (by decide) (hts (.fieldLink RX1 18 "VinegarLoft$Row" "count" "I") (by decide +kernel)) (fun _ h9 => h9) rfl dX1_copyFrom_2 ?_
  refine va_put (D := D) (ci := 1) (v := .int (nI n2)) (ty := .int) (C := RX1) (T := TX1) (N := 5) hx hb hts (by decide +kernel) tyX1 tyX1_ok nmX1 hown hK hP hD hS (0) rfl rfl 1 (by decide) (hts (.fieldLink RX1 18 "VinegarLoft$Row" "count" "I") (by decide +kernel)) (fun _ h9 => h9) rfl (by decide +kernel) rfl rfl (Nat.le_of_ble_eq_true rfl) dX1_copyFrom_5 (fun H locs hP hD hS => ?_)
  have hP : va_P D vwCl (rowW r la bs cA (nI n2) wm df q wd zs h ++ rowW r2 la2 bs2 cA (nI n2) wm2 df2 q2 wd2 zs2 h2) H := hP
  have hD : va_D A (rowW r la bs cA (nI n2) wm df q wd zs h ++ rowW r2 la2 bs2 cA (nI n2) wm2 df2 q2 wd2 zs2 h2) := hD
  refine lv_aload_n hx hb dX1_copyFrom_8 rfl (lv_at hl 0 rfl) ?_
  refine lv_aload_n hx hb dX1_copyFrom_9 rfl (lv_at hl 1 rfl) ?_
  refine va_get (D := D) (ci := 1) (v := .int wm2) (C := RX1) (T := TX1) (N := 5) hx hb hts (by decide +kernel) hown hK hP (10) rfl rfl 2 (by decide) (hts (.fieldLink RX1 22 "VinegarLoft$Row" "warmth" "I") (by decide +kernel)) (fun _ h9 => h9) rfl dX1_copyFrom_10 ?_
  refine va_put (D := D) (ci := 1) (v := .int wm2) (ty := .int) (C := RX1) (T := TX1) (N := 5) hx hb hts (by decide +kernel) tyX1 tyX1_ok nmX1 hown hK hP hD hS (0) rfl rfl 2 (by decide) (hts (.fieldLink RX1 22 "VinegarLoft$Row" "warmth" "I") (by decide +kernel)) (fun _ h9 => h9) rfl (by decide +kernel) rfl rfl (Nat.le_of_ble_eq_true rfl) dX1_copyFrom_13 (fun H locs hP hD hS => ?_)
  have hP : va_P D vwCl (rowW r la bs cA (nI n2) wm2 df q wd zs h ++ rowW r2 la2 bs2 cA (nI n2) wm2 df2 q2 wd2 zs2 h2) H := hP
  have hD : va_D A (rowW r la bs cA (nI n2) wm2 df q wd zs h ++ rowW r2 la2 bs2 cA (nI n2) wm2 df2 q2 wd2 zs2 h2) := hD
  refine lv_aload_n hx hb dX1_copyFrom_16 rfl (lv_at hl 0 rfl) ?_
  refine lv_aload_n hx hb dX1_copyFrom_17 rfl (lv_at hl 1 rfl) ?_
  refine va_get (D := D) (ci := 1) (v := .int df2) (C := RX1) (T := TX1) (N := 5) hx hb hts (by decide +kernel) hown hK hP (10) rfl rfl 3 (by decide) (hts (.fieldLink RX1 25 "VinegarLoft$Row" "drawnFrom" "I") (by decide +kernel)) (fun _ h9 => h9) rfl dX1_copyFrom_18 ?_
  refine va_put (D := D) (ci := 1) (v := .int df2) (ty := .int) (C := RX1) (T := TX1) (N := 5) hx hb hts (by decide +kernel) tyX1 tyX1_ok nmX1 hown hK hP hD hS (0) rfl rfl 3 (by decide) (hts (.fieldLink RX1 25 "VinegarLoft$Row" "drawnFrom" "I") (by decide +kernel)) (fun _ h9 => h9) rfl (by decide +kernel) rfl rfl (Nat.le_of_ble_eq_true rfl) dX1_copyFrom_21 (fun H locs hP hD hS => ?_)
  have hP : va_P D vwCl (rowW r la bs cA (nI n2) wm2 df2 q wd zs h ++ rowW r2 la2 bs2 cA (nI n2) wm2 df2 q2 wd2 zs2 h2) H := hP
  have hD : va_D A (rowW r la bs cA (nI n2) wm2 df2 q wd zs h ++ rowW r2 la2 bs2 cA (nI n2) wm2 df2 q2 wd2 zs2 h2) := hD
  refine lv_aload_n hx hb dX1_copyFrom_24 rfl (lv_at hl 0 rfl) ?_
  refine lv_aload_n hx hb dX1_copyFrom_25 rfl (lv_at hl 1 rfl) ?_
  refine va_get (D := D) (ci := 1) (v := .double q2) (C := RX1) (T := TX1) (N := 5) hx hb hts (by decide +kernel) hown hK hP (10) rfl rfl 4 (by decide) (hts (.fieldLink RX1 28 "VinegarLoft$Row" "mayBeDrawn" "D") (by decide +kernel)) (fun _ h9 => h9) rfl dX1_copyFrom_26 ?_
  refine va_put (D := D) (ci := 1) (v := .double q2) (ty := .double) (C := RX1) (T := TX1) (N := 5) hx hb hts (by decide +kernel) tyX1 tyX1_ok nmX1 hown hK hP hD hS (0) rfl rfl 4 (by decide) (hts (.fieldLink RX1 28 "VinegarLoft$Row" "mayBeDrawn" "D") (by decide +kernel)) (fun _ h9 => h9) rfl (by decide +kernel) rfl rfl (Nat.le_of_ble_eq_true rfl) dX1_copyFrom_29 (fun H locs hP hD hS => ?_)
  have hP : va_P D vwCl (rowW r la bs cA (nI n2) wm2 df2 q2 wd zs h ++ rowW r2 la2 bs2 cA (nI n2) wm2 df2 q2 wd2 zs2 h2) H := hP
  have hD : va_D A (rowW r la bs cA (nI n2) wm2 df2 q2 wd zs h ++ rowW r2 la2 bs2 cA (nI n2) wm2 df2 q2 wd2 zs2 h2) := hD
  refine lv_iconst (v := 0) hx hb dX1_copyFrom_32 (by decide) ?_
  refine lv_istore_n (lv' := [(2, .int 0), (0, .ref r), (1, .ref r2)]) hx hb dX1_copyFrom_33 rfl hl (by decide) rfl (fun ls hl => ?_)
  have hP : va_P D vwCl (rowW r la bs cA (nI n2) wm2 df2 q2 (cpI 0 wd wd2) (cpI 0 zs zs2) (cpH 0 h h2) ++ rowW r2 la2 bs2 cA (nI n2) wm2 df2 q2 wd2 zs2 h2) H := by rw [cpI_0, cpI_0, cpH_0]; exact hP
  have hD : va_D A (rowW r la bs cA (nI n2) wm2 df2 q2 (cpI 0 wd wd2) (cpI 0 zs zs2) (cpH 0 h h2) ++ rowW r2 la2 bs2 cA (nI n2) wm2 df2 q2 wd2 zs2 h2) := by rw [cpI_0, cpI_0, cpH_0]; exact hD
  refine kW_up (n2) (fun i H locs ls => va_P D vwCl (rowW r la bs cA (nI n2) wm2 df2 q2 (cpI i wd wd2) (cpI i zs zs2) (cpH i h h2) ++ rowW r2 la2 bs2 cA (nI n2) wm2 df2 q2 wd2 zs2 h2) H ∧ va_D A (rowW r la bs cA (nI n2) wm2 df2 q2 (cpI i wd wd2) (cpI i zs zs2) (cpH i h h2) ++ rowW r2 la2 bs2 cA (nI n2) wm2 df2 q2 wd2 zs2 h2) ∧ va_S A s.heap H locs ∧ lv_has ls 3 [(2, .int (nI i)), (0, .ref r), (1, .ref r2)]) (fun i H locs ls hi hI ih => ?_) (fun H locs ls hI => ?_) ⟨hP, hD, hS, lv_sub hl [0, 1, 2] (rfl)⟩
  · obtain ⟨hP, hD, hS, hl⟩ := hI
    refine lv_iload_n hx hb dX1_copyFrom_34 rfl (lv_at hl 0 rfl) ?_
    refine lv_aload_n hx hb dX1_copyFrom_35 rfl (lv_at hl 1 rfl) ?_
    refine va_get (D := D) (ci := 1) (v := .int (nI n2)) (C := RX1) (T := TX1) (N := 5) hx hb hts (by decide +kernel) hown hK hP (0) rfl rfl 1 (by decide) (hts (.fieldLink RX1 18 "VinegarLoft$Row" "count" "I") (by decide +kernel)) (fun _ h9 => h9) rfl dX1_copyFrom_36 ?_
    refine lv_icmp_ge (tgt := 63) hx hb dX1_copyFrom_39 (by decide) (fun c39 => absurd c39 (nI_ge hi (by omega))) (fun c39 => ?_)
    refine lv_aload_n hx hb dX1_copyFrom_42 rfl (lv_at hl 1 rfl) ?_
    refine va_get (D := D) (ci := 1) (v := .ref la) (C := RX1) (T := TX1) (N := 5) hx hb hts (by decide +kernel) hown hK hP (0) rfl rfl 0 (by decide) (hts (.fieldLink RX1 11 "VinegarLoft$Row" "line" "[LVinegarLoft$Barrel;") (by decide +kernel)) (fun _ h9 => h9) rfl dX1_copyFrom_43 ?_
    refine lv_iload_n hx hb dX1_copyFrom_46 rfl (lv_at hl 0 rfl) ?_
    refine kx_ald hx hb hK hP 1 0 rfl rfl (j := i) rfl (by omega) dX1_copyFrom_47 ?_
    refine lv_aload_n hx hb dX1_copyFrom_48 rfl (lv_at hl 2 rfl) ?_
    refine va_get (D := D) (ci := 1) (v := .ref la2) (C := RX1) (T := TX1) (N := 5) hx hb hts (by decide +kernel) hown hK hP (10) rfl rfl 0 (by decide) (hts (.fieldLink RX1 11 "VinegarLoft$Row" "line" "[LVinegarLoft$Barrel;") (by decide +kernel)) (fun _ h9 => h9) rfl dX1_copyFrom_49 ?_
    refine lv_iload_n hx hb dX1_copyFrom_52 rfl (lv_at hl 0 rfl) ?_
    refine kx_ald hx hb hK hP 11 0 rfl rfl (j := i) rfl (by omega) dX1_copyFrom_53 ?_
    refine kt_v (k1 := 2 + i) (k2 := 10 + (2 + i)) (va_runV (As := [.ref (bs2 i)]) (rest := []) ⟨hx, hb, hml, hown, hts⟩ (metX0_copyFrom l D H.size (bs i) ((cpI i wd wd2) i) ((cpI i zs zs2) i) ((cpH i h h2) i) ((cpH i h h2) (8 + i)) ((cpH i h h2) (16 + i)) ((cpH i h h2) (24 + i)) (bs2 i) (wd2 i) (zs2 i) (h2 i) (h2 (8 + i)) (h2 (16 + i)) (h2 (24 + i))) (cwV 1 hts gX1_copyFrom_X0_copyFrom rfl rfl rfl (by decide +kernel) ⟨Nat.le_of_ble_eq_true rfl, Nat.le_of_ble_eq_true rfl⟩) (pmV 0 0 RX0 TX0 6 rfl rfl (vj_tP (k1 := 2 + i) (k2 := 10 + (2 + i)) (rowT_1 (show i < 8 by omega)) (rowT_2 rfl (show i < 8 by omega)) hP) (hK.sub [] rfl) (vj_tD (k1 := 2 + i) (k2 := 10 + (2 + i)) (rowT_1 (show i < 8 by omega)) (rowT_2 rfl (show i < 8 by omega)) (by omega) hD)) rfl rfl hl.1 rfl (lv_room (Nat.le_of_ble_eq_true rfl)) dX1_copyFrom_54 ⟨Nat.le_of_ble_eq_true rfl, Nat.le_of_ble_eq_true rfl⟩) (rowT_1 (show i < 8 by omega)) (rowT_2 rfl (show i < 8 by omega)) (by omega) hP hD hS hA (fun H locs hP hD hS => ?_)
    have hP : va_P D vwCl (rowW r la bs cA (nI n2) wm2 df2 q2 (cpI (i + 1) wd wd2) (cpI (i + 1) zs zs2) (cpH (i + 1) h h2) ++ rowW r2 la2 bs2 cA (nI n2) wm2 df2 q2 wd2 zs2 h2) H := by rw [← cpI_s, ← cpI_s, ← cpH_s (show i < 8 by omega), ← rowT_cp (show i < 8 by omega)]; exact hP
    have hD : va_D A (rowW r la bs cA (nI n2) wm2 df2 q2 (cpI (i + 1) wd wd2) (cpI (i + 1) zs zs2) (cpH (i + 1) h h2) ++ rowW r2 la2 bs2 cA (nI n2) wm2 df2 q2 wd2 zs2 h2) := by rw [← cpI_s, ← cpI_s, ← cpH_s (show i < 8 by omega), ← rowT_cp (show i < 8 by omega)]; exact hD
    refine lv_iinc (v := nI (i + 1)) (lv' := [(2, .int (nI (i + 1))), (0, .ref r), (1, .ref r2)]) hx hb dX1_copyFrom_57 hl (k := 0) rfl (nI_1 i) (by decide) rfl (fun ls hl => ?_)
    refine lv_goto (tgt := 34) hx hb dX1_copyFrom_60 (by decide) ?_
    exact ih H locs ls ⟨hP, hD, hS, lv_sub hl [0, 1, 2] (rfl)⟩
  · obtain ⟨hP, hD, hS, hl⟩ := hI
    refine lv_iload_n hx hb dX1_copyFrom_34 rfl (lv_at hl 0 rfl) ?_
    refine lv_aload_n hx hb dX1_copyFrom_35 rfl (lv_at hl 1 rfl) ?_
    refine va_get (D := D) (ci := 1) (v := .int (nI n2)) (C := RX1) (T := TX1) (N := 5) hx hb hts (by decide +kernel) hown hK hP (0) rfl rfl 1 (by decide) (hts (.fieldLink RX1 18 "VinegarLoft$Row" "count" "I") (by decide +kernel)) (fun _ h9 => h9) rfl dX1_copyFrom_36 ?_
    refine lv_icmp_ge (tgt := 63) hx hb dX1_copyFrom_39 (by decide) (fun c39 => ?_) (fun c39 => absurd (nI_le (Nat.le_refl n2) (by omega)) c39)
    exact W.vret hx hb hr (fun t ht hW => ⟨⟨(), rfl, trivial, by rw [ht]; exact hP, va_K.moved hW.alike hK, hD⟩, hS.F ht⟩) hS.2.2 dX1_copyFrom_63
