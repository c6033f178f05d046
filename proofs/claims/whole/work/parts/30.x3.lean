/-! the reference's world (laid by wip/whole/prog/x3.py) -/
def modW (y aw az ah ak : Nat) (cI cD : ClassId) (n wm ys : Int32) (q : UInt64) (qf yo ri ol th : Int32) (wd zs : Nat → Int32) (h kp : Nat → UInt64) : va_W :=
  [(y, .inr (3, [.ref aw, .ref az, .ref ah, .ref ak, .int n, .int wm, .int ys, .double q, .int qf, .int yo, .int ri, .int ol, .int th])), (aw, .inl (cI, (8, .inl wd))), (az, .inl (cI, (8, .inl zs))), (ah, .inl (cD, (32, .inr (.inr (.inr (.inl h)))))), (ak, .inl (cD, (32, .inr (.inr (.inr (.inl kp))))))]
theorem ixc (a b : Nat) : nI a + nI b = nI (a + b) := (Int32.ofNat_add a b).symm
theorem ix0 (b : Nat) : (0 : Int32) + nI b = nI b := by
  have := ixc 0 b
  rw [Nat.zero_add] at this
  exact this
theorem ixs (c k : Nat) : nI c + nI (k + 1) - 1 = nI (c + k) := by
  rw [ixc, ← Nat.add_assoc]; exact nI_p (n := c + k + 1) (by omega)
theorem ix0s (k : Nat) : (0 : Int32) + nI (k + 1) - 1 = nI k := by
  rw [ix0]; exact nI_p (n := k + 1) (by omega)
theorem vu_s {α : Type} {f : Nat → α} {k : Nat} {x : α} : vf_upd f k x k = x := if_pos rfl
theorem vu_n {α : Type} {f : Nat → α} {j k : Nat} {x : α} (h : j ≠ k) : vf_upd f k x j = f j := if_neg h
theorem hset_of {g h : Nat → UInt64} {b : Nat} (hb : b < 8) {li ag ac su : UInt64} (h1 : g b = li) (h2 : g (8 + b) = ag) (h3 : g (16 + b) = ac) (h4 : g (24 + b) = su) (h5 : ∀ k, k ≠ b → k ≠ 8 + b → k ≠ 16 + b → k ≠ 24 + b → g k = h k) : g = hset h b li ag ac su := by
  funext k
  unfold hset
  split
  · rename_i e; subst e; exact h1
  · split
    · rename_i e; subst e; exact h2
    · split
      · rename_i e; subst e; exact h3
      · split
        · rename_i e; subst e; exact h4
        · exact h5 k (by assumption) (by assumption) (by assumption) (by assumption)
section MROWS
variable {p : Program} {l : Launch} {e : Env} {R : Room} {s : State} {m : MethodId} {args : Array Value} {below : List Frame} {meth : Method} {c : Code} {H H0 : Heap} {locs : List Loc} {cells slots : Nat} {Q : State → Prop} {D : va_G} {A : Nat → Prop} {pc : Nat} {ls : Array Slot} {rest st0 : List Value} {ws ws' : va_W} {tys tc : List (ClassId × FieldType)} {cc : ByteArray} {mc ms : Nat} {aa : Array Value} {a : Nat} {cA : ClassId} {N : Nat}
theorem kx_dald (hexec : p.tables.exec = Jvm.exec) (hb : c.code = cc) (hK : va_K D vwCl tys s) (hP : va_P D vwCl ws H) (q0 t0 : Nat) {f : Nat → UInt64} (ha : ws[q0]? = some (a, .inl (cA, (N, .inr (.inr (.inr (.inl f))))))) (ht : tys[t0]? = some (cA, .double)) {i : Int32} {j : Nat} (hi : i = nI j) (hj : j < N) (hN : N < 2 ^ 31) (hdg : decode cc pc = .ok (.daload, 1))
    (kk : W p l e R s m args below meth c H locs cells slots Q (F0 m (pc + 1) ls (.double (f j) :: rest))) : W p l e R s m args below meth c H locs cells slots Q (F0 m pc ls (.int i :: .ref a :: rest)) := by
  subst hi
  refine va_dald hexec hb hK hP q0 t0 ha ht (vp_in_nI hj hN) hdg ?_
  rw [nI_clamp (by omega)]
  exact kk
theorem kx_iald (hexec : p.tables.exec = Jvm.exec) (hb : c.code = cc) (hK : va_K D vwCl tys s) (hP : va_P D vwCl ws H) (q0 t0 : Nat) {f : Nat → Int32} (ha : ws[q0]? = some (a, .inl (cA, (N, .inl f)))) (ht : tys[t0]? = some (cA, .int)) {i : Int32} {j : Nat} (hi : i = nI j) (hj : j < N) (hN : N < 2 ^ 31) (hdg : decode cc pc = .ok (.iaload, 1))
    (kk : W p l e R s m args below meth c H locs cells slots Q (F0 m (pc + 1) ls (.int (f j) :: rest))) : W p l e R s m args below meth c H locs cells slots Q (F0 m pc ls (.int i :: .ref a :: rest)) := by
  subst hi
  refine va_iald hexec hb hK hP q0 t0 ha ht (vp_in_nI hj hN) hdg ?_
  rw [nI_clamp (by omega)]
  exact kk
theorem kx_dast (hexec : p.tables.exec = Jvm.exec) (hb : c.code = cc) (hK : va_K D vwCl tys s) (hP : va_P D vwCl ws H) (hD : va_D A ws) (hS : va_S A H0 H locs) (q0 t0 : Nat) {f : Nat → UInt64} (ha : ws[q0]? = some (a, .inl (cA, (N, .inr (.inr (.inr (.inl f))))))) (ht : tys[t0]? = some (cA, .double)) {i : Int32} {x : UInt64} {j : Nat} (hi : i = nI j) (hj : j < N) (hN : N < 2 ^ 31) (hdg : decode cc pc = .ok (.dastore, 1))
    (kk : ∀ (H1 : Heap) (locs1 : List Loc), va_P D vwCl (ws.set q0 (a, .inl (cA, N, .inr (.inr (.inr (.inl (vf_upd f j x))))))) H1 → va_D A (ws.set q0 (a, .inl (cA, N, .inr (.inr (.inr (.inl (vf_upd f j x))))))) → va_S A H0 H1 locs1 → W p l e R s m args below meth c H1 locs1 cells slots Q (F0 m (pc + 1) ls rest)) : W p l e R s m args below meth c H locs cells slots Q (F0 m pc ls (.double x :: .int i :: .ref a :: rest)) := by
  subst hi
  refine va_dast hexec hb hK hP hD hS q0 t0 ha ht (vp_in_nI hj hN) hdg (fun H1 locs1 => ?_)
  rw [nI_clamp (by omega)]
  exact kk H1 locs1
theorem kx_iast (hexec : p.tables.exec = Jvm.exec) (hb : c.code = cc) (hK : va_K D vwCl tys s) (hP : va_P D vwCl ws H) (hD : va_D A ws) (hS : va_S A H0 H locs) (q0 t0 : Nat) {f : Nat → Int32} (ha : ws[q0]? = some (a, .inl (cA, (N, .inl f)))) (ht : tys[t0]? = some (cA, .int)) {i x : Int32} {j : Nat} (hi : i = nI j) (hj : j < N) (hN : N < 2 ^ 31) (hdg : decode cc pc = .ok (.iastore, 1))
    (kk : ∀ (H1 : Heap) (locs1 : List Loc), va_P D vwCl (ws.set q0 (a, .inl (cA, N, .inl (upd f j x)))) H1 → va_D A (ws.set q0 (a, .inl (cA, N, .inl (upd f j x)))) → va_S A H0 H1 locs1 → W p l e R s m args below meth c H1 locs1 cells slots Q (F0 m (pc + 1) ls rest)) : W p l e R s m args below meth c H locs cells slots Q (F0 m pc ls (.int x :: .int i :: .ref a :: rest)) := by
  subst hi
  refine va_iast hexec hb hK hP hD hS q0 t0 ha ht (vp_in_nI hj hN) hdg (fun H1 locs1 => ?_)
  rw [nI_clamp (by omega)]
  exact kk H1 locs1
/-! calls on the whole world -/
theorem kw_i {RES : Int32} (hr : va_Run p l e R s m args below meth c H locs cells slots mc ms (F0 m pc ls st0) rest (va_Qi (fun (r : Int32) (_ : Unit) => r = RES) (Bm D tc (va_A ws H.size) ws') (va_A ws H.size) aa) (va_A ws H.size)) (hP : va_P D vwCl ws H) (hD : va_D A ws) (hS : va_S A H0 H locs) (hA : ∀ q, H0.size ≤ q → A q)
    (kk : ∀ (H1 : Heap) (locs1 : List Loc), va_P D vwCl ws' H1 → va_D A ws' → va_S A H0 H1 locs1 → W p l e R s m args below meth c H1 locs1 (cells + mc) (slots + ms) Q (F0 m (pc + 3) ls (.int RES :: rest))) : W p l e R s m args below meth c H locs cells slots Q (F0 m pc ls st0) := by
  refine kc_i (w1 := []) (w3 := []) hr (by rw [List.append_nil]; exact hP) (by rw [List.append_nil]; exact hD) hS hA (fun H1 l1 h1 h2 h3 => ?_)
  rw [List.append_nil] at h1 h2
  exact kk H1 l1 h1 h2 h3
theorem kw_d {RES : UInt64} (hr : va_Run p l e R s m args below meth c H locs cells slots mc ms (F0 m pc ls st0) rest (va_Qd (fun (r : UInt64) (_ : Unit) => r = RES) (Bm D tc (va_A ws H.size) ws') (va_A ws H.size) aa) (va_A ws H.size)) (hP : va_P D vwCl ws H) (hD : va_D A ws) (hS : va_S A H0 H locs) (hA : ∀ q, H0.size ≤ q → A q)
    (kk : ∀ (H1 : Heap) (locs1 : List Loc), va_P D vwCl ws' H1 → va_D A ws' → va_S A H0 H1 locs1 → W p l e R s m args below meth c H1 locs1 (cells + mc) (slots + ms) Q (F0 m (pc + 3) ls (.double RES :: rest))) : W p l e R s m args below meth c H locs cells slots Q (F0 m pc ls st0) := by
  refine kc_d (w1 := []) (w3 := []) hr (by rw [List.append_nil]; exact hP) (by rw [List.append_nil]; exact hD) hS hA (fun H1 l1 h1 h2 h3 => ?_)
  rw [List.append_nil] at h1 h2
  exact kk H1 l1 h1 h2 h3
theorem kw_v (hr : va_Run p l e R s m args below meth c H locs cells slots mc ms (F0 m pc ls st0) rest (va_Qv (fun (_ : Unit) => True) (Bm D tc (va_A ws H.size) ws') (va_A ws H.size) aa) (va_A ws H.size)) (hP : va_P D vwCl ws H) (hD : va_D A ws) (hS : va_S A H0 H locs) (hA : ∀ q, H0.size ≤ q → A q)
    (kk : ∀ (H1 : Heap) (locs1 : List Loc), va_P D vwCl ws' H1 → va_D A ws' → va_S A H0 H1 locs1 → W p l e R s m args below meth c H1 locs1 (cells + mc) (slots + ms) Q (F0 m (pc + 3) ls rest)) : W p l e R s m args below meth c H locs cells slots Q (F0 m pc ls st0) := by
  refine kc_v (w1 := []) (w3 := []) hr (by rw [List.append_nil]; exact hP) (by rw [List.append_nil]; exact hD) hS hA (fun H1 l1 h1 h2 h3 => ?_)
  rw [List.append_nil] at h1 h2
  exact kk H1 l1 h1 h2 h3
end MROWS

/-- the thrown flag of a barrel's number -/
def thI (n : Nat) (x : Int32) : Int32 := if x < 0 ∨ nI n ≤ x then 1 else 0
/-- a barrel gets litres -/
def geH (h : Nat → UInt64) (b : Nat) (w ag ac su : UInt64) : Nat → UInt64 := if FP.dcmp w 0 = some .gt then hset h b (FP.dadd (h b) w) (mixv (h b) (h (8 + b)) w ag) (mixv (h b) (h (16 + b)) w ac) (mixv (h b) (h (24 + b)) w su) else h

set_option maxHeartbeats 4000000 in
set_option maxRecDepth 100000 in
theorem metX3_thrown (l : Launch) (D : va_G) (y aw az ah ak : Nat) (cI cD : ClassId) (n : Nat) (hn : n ≤ 8) (wm ys : Int32) (q : UInt64) (qf yo ri ol th : Int32) (wd zs : Nat → Int32) (h kp : Nat → UInt64)  : Met l yX3_thrown wsX3_thrown { frames := 0, cells := 0, slots := 0, locals := 0 } (Pr D [(cI, .int), (cD, .double)] [.ref y] (modW y aw az ah ak cI cD (nI n) wm ys q qf yo ri ol th wd zs h kp)) (vp_Si (fun r : Int32 => r = th)) 0 0 (fun _ => False) := by
  refine Met.ofW (cc := cX3_thrown) (maxL := 1) (ret := (some .int)) (by decide) rfl ?_
  intro p e s m args below meth c s₁ B hml hv
  obtain ⟨rfl, hP, hK⟩ := hv
  have hx := B.exec
  have hb := B.bytes
  have hr := B.returns
  have hts := atoms_spec (ws := wsX3_thrown) B.pre
  have hown : s.vm.findClass RX3 = some m.cls := findClass_of_methodNamed B.named
  have hlocks := B.notSynchronized
  have hl := lv_entry ([.ref y]) (n := 1) (Nat.le_of_ble_eq_true rfl)
  rw [lg_entry_eq]
  generalize (lg_sl ([.ref y]) ++ List.replicate (1 - (lg_sl ([.ref y])).length) Slot.unset).toArray = ls at hl ⊢
  have hl : lv_has ls 1 [(0, .ref y)] := hl
  refine lv_aload_n hx hb dX3_thrown_0 rfl (lv_at hl 0 rfl) ?_
  refine va_get (D := D) (ci := 3) (v := .int th) (C := RX3) (T := TX3) (N := 13) hx hb hts (by decide +kernel) hown hK hP (0) rfl rfl 12 (by decide) (hts (.fieldLink RX3 30 "VinegarLoftModel" "thrown" "I") (by decide +kernel)) (fun _ h9 => h9) rfl dX3_thrown_1 ?_
  exact W.iret hx hb hr (fun t ht hW => ⟨_, rfl, rfl, ht⟩) (fun q hq => absurd hq List.not_mem_nil) dX3_thrown_4

set_option maxHeartbeats 4000000 in
set_option maxRecDepth 100000 in
theorem metX3_isThere (l : Launch) (D : va_G) (sz : Nat) (y aw az ah ak : Nat) (cI cD : ClassId) (n : Nat) (hn : n ≤ 8) (wm ys : Int32) (q : UInt64) (qf yo ri ol th : Int32) (wd zs : Nat → Int32) (h kp : Nat → UInt64) (x : Int32)  : Met l yX3_isThere wsX3_isThere { frames := 0, cells := 0, slots := 0, locals := 0 } (Pm D [(cI, .int), (cD, .double)] [.ref y, .int x] (modW y aw az ah ak cI cD (nI n) wm ys q qf yo ri ol th wd zs h kp) sz) (va_Qi (fun (r : Int32) (_ : Unit) => r = (if thI n x = 0 then 1 else 0)) (Bm D [(cI, .int), (cD, .double)] (va_A (modW y aw az ah ak cI cD (nI n) wm ys q qf yo ri ol th wd zs h kp) sz) (modW y aw az ah ak cI cD (nI n) wm ys q qf yo ri ol (thI n x) wd zs h kp)) (va_A (modW y aw az ah ak cI cD (nI n) wm ys q qf yo ri ol th wd zs h kp) sz)) 0 0 (va_A (modW y aw az ah ak cI cD (nI n) wm ys q qf yo ri ol th wd zs h kp) sz) := by
  refine Met.ofW (cc := cX3_isThere) (maxL := 2) (ret := (some .boolean)) (by decide) rfl ?_
  intro p e s m args below meth c s₁ B hml hv
  obtain ⟨rfl, hsz, hP, hK, hD0⟩ := hv
  have hx := B.exec
  have hb := B.bytes
  have hr := B.returns
  have hts := atoms_spec (ws := wsX3_isThere) B.pre
  have hown : s.vm.findClass RX3 = some m.cls := findClass_of_methodNamed B.named
  have hlocks := B.notSynchronized
  subst hsz
  have hD := hD0.self (sz := s.heap.size)
  generalize hAe : va_A (modW y aw az ah ak cI cD (nI n) wm ys q qf yo ri ol th wd zs h kp) s.heap.size = A at hD ⊢
  have hA : ∀ q : Nat, s.heap.size ≤ q → A q := fun q h => by rw [← hAe]; exact Or.inr h
  refine kW_H (fun H hH => ?_)
  have hP : va_P D vwCl (modW y aw az ah ak cI cD (nI n) wm ys q qf yo ri ol th wd zs h kp) H := by rw [hH]; exact hP
  have hS : va_S A s.heap H [] := by rw [hH]; exact va_S.rf
  have hl := lv_entry ([.ref y, .int x]) (n := 2) (Nat.le_of_ble_eq_true rfl)
  rw [lg_entry_eq]
  generalize (lg_sl ([.ref y, .int x]) ++ List.replicate (2 - (lg_sl ([.ref y, .int x])).length) Slot.unset).toArray = ls at hl ⊢
  have hl : lv_has ls 2 [(0, .ref y), (1, .int x)] := hl
  refine lv_aload_n hx hb dX3_isThere_0 rfl (lv_at hl 0 rfl) ?_
  refine lv_iload_n hx hb dX3_isThere_1 rfl (lv_at hl 1 rfl) ?_
  refine lv_if_lt (tgt := 17) hx hb dX3_isThere_2 (by decide) (fun c2 => ?_) (fun c2 => ?_)
  · refine lv_iconst (v := 1) hx hb dX3_isThere_17 (by decide) ?_
    refine va_put (D := D) (ci := 3) (v := .int 1) (ty := .int) (C := RX3) (T := TX3) (N := 13) hx hb hts (by decide +kernel) tyX3 tyX3_ok nmX3 hown hK hP hD hS (0) rfl rfl 12 (by decide) (hts (.fieldLink RX3 30 "VinegarLoftModel" "thrown" "I") (by decide +kernel)) (fun _ h9 => h9) rfl (by decide +kernel) rfl rfl (Nat.le_of_ble_eq_true rfl) dX3_isThere_18 (fun H locs hP hD hS => ?_)
    have hP : va_P D vwCl (modW y aw az ah ak cI cD (nI n) wm ys q qf yo ri ol 1 wd zs h kp) H := hP
    have hD : va_D A (modW y aw az ah ak cI cD (nI n) wm ys q qf yo ri ol 1 wd zs h kp) := hD
    refine lv_aload_n hx hb dX3_isThere_21 rfl (lv_at hl 0 rfl) ?_
    refine va_get (D := D) (ci := 3) (v := .int 1) (C := RX3) (T := TX3) (N := 13) hx hb hts (by decide +kernel) hown hK hP (0) rfl rfl 12 (by decide) (hts (.fieldLink RX3 30 "VinegarLoftModel" "thrown" "I") (by decide +kernel)) (fun _ h9 => h9) rfl dX3_isThere_22 ?_
    refine lv_if_ne (tgt := 32) hx hb dX3_isThere_25 (by decide) (fun c25 => ?_) (fun c25 => absurd c25 (by decide))
    refine lv_iconst (v := 0) hx hb dX3_isThere_32 (by decide) ?_
    have hP : va_P D vwCl (modW y aw az ah ak cI cD (nI n) wm ys q qf yo ri ol (thI n x) wd zs h kp) H := by rw [show thI n x = 1 from if_pos (Or.inl c2)]; exact hP
    have hD : va_D A (modW y aw az ah ak cI cD (nI n) wm ys q qf yo ri ol (thI n x) wd zs h kp) := by rw [show thI n x = 1 from if_pos (Or.inl c2)]; exact hD
    exact W.zret hx hb hr (by first | rfl | decide) (fun t ht hW => ⟨⟨_, (), rfl, by rw [show thI n x = 1 from if_pos (Or.inl c2)]; rfl, by rw [ht]; exact hP, va_K.moved hW.alike hK, hD⟩, hS.F ht⟩) hS.2.2 dX3_isThere_33
  · refine lv_iload_n hx hb dX3_isThere_5 rfl (lv_at hl 1 rfl) ?_
    refine lv_aload_n hx hb dX3_isThere_6 rfl (lv_at hl 0 rfl) ?_
    refine va_get (D := D) (ci := 3) (v := .int (nI n)) (C := RX3) (T := TX3) (N := 13) hx hb hts (by decide +kernel) hown hK hP (0) rfl rfl 4 (by decide) (hts (.fieldLink RX3 33 "VinegarLoftModel" "many" "I") (by decide +kernel)) (fun _ h9 => h9) rfl dX3_isThere_7 ?_
    refine lv_icmp_ge (tgt := 17) hx hb dX3_isThere_10 (by decide) (fun c10 => ?_) (fun c10 => ?_)
    · refine lv_iconst (v := 1) hx hb dX3_isThere_17 (by decide) ?_
      refine va_put (D := D) (ci := 3) (v := .int 1) (ty := .int) (C := RX3) (T := TX3) (N := 13) hx hb hts (by decide +kernel) tyX3 tyX3_ok nmX3 hown hK hP hD hS (0) rfl rfl 12 (by decide) (hts (.fieldLink RX3 30 "VinegarLoftModel" "thrown" "I") (by decide +kernel)) (fun _ h9 => h9) rfl (by decide +kernel) rfl rfl (Nat.le_of_ble_eq_true rfl) dX3_isThere_18 (fun H locs hP hD hS => ?_)
      have hP : va_P D vwCl (modW y aw az ah ak cI cD (nI n) wm ys q qf yo ri ol 1 wd zs h kp) H := hP
      have hD : va_D A (modW y aw az ah ak cI cD (nI n) wm ys q qf yo ri ol 1 wd zs h kp) := hD
      refine lv_aload_n hx hb dX3_isThere_21 rfl (lv_at hl 0 rfl) ?_
      refine va_get (D := D) (ci := 3) (v := .int 1) (C := RX3) (T := TX3) (N := 13) hx hb hts (by decide +kernel) hown hK hP (0) rfl rfl 12 (by decide) (hts (.fieldLink RX3 30 "VinegarLoftModel" "thrown" "I") (by decide +kernel)) (fun _ h9 => h9) rfl dX3_isThere_22 ?_
      refine lv_if_ne (tgt := 32) hx hb dX3_isThere_25 (by decide) (fun c25 => ?_) (fun c25 => absurd c25 (by decide))
      refine lv_iconst (v := 0) hx hb dX3_isThere_32 (by decide) ?_
      have hP : va_P D vwCl (modW y aw az ah ak cI cD (nI n) wm ys q qf yo ri ol (thI n x) wd zs h kp) H := by rw [show thI n x = 1 from if_pos (Or.inr c10)]; exact hP
      have hD : va_D A (modW y aw az ah ak cI cD (nI n) wm ys q qf yo ri ol (thI n x) wd zs h kp) := by rw [show thI n x = 1 from if_pos (Or.inr c10)]; exact hD
      exact W.zret hx hb hr (by first | rfl | decide) (fun t ht hW => ⟨⟨_, (), rfl, by rw [show thI n x = 1 from if_pos (Or.inr c10)]; rfl, by rw [ht]; exact hP, va_K.moved hW.alike hK, hD⟩, hS.F ht⟩) hS.2.2 dX3_isThere_33
    · refine lv_iconst (v := 0) hx hb dX3_isThere_13 (by decide) ?_
      refine lv_goto (tgt := 18) hx hb dX3_isThere_14 (by decide) ?_
      refine va_put (D := D) (ci := 3) (v := .int 0) (ty := .int) (C := RX3) (T := TX3) (N := 13) hx hb hts (by decide +kernel) tyX3 tyX3_ok nmX3 hown hK hP hD hS (0) rfl rfl 12 (by decide) (hts (.fieldLink RX3 30 "VinegarLoftModel" "thrown" "I") (by decide +kernel)) (fun _ h9 => h9) rfl (by decide +kernel) rfl rfl (Nat.le_of_ble_eq_true rfl) dX3_isThere_18 (fun H locs hP hD hS => ?_)
      have hP : va_P D vwCl (modW y aw az ah ak cI cD (nI n) wm ys q qf yo ri ol 0 wd zs h kp) H := hP
      have hD : va_D A (modW y aw az ah ak cI cD (nI n) wm ys q qf yo ri ol 0 wd zs h kp) := hD
      refine lv_aload_n hx hb dX3_isThere_21 rfl (lv_at hl 0 rfl) ?_
      refine va_get (D := D) (ci := 3) (v := .int 0) (C := RX3) (T := TX3) (N := 13) hx hb hts (by decide +kernel) hown hK hP (0) rfl rfl 12 (by decide) (hts (.fieldLink RX3 30 "VinegarLoftModel" "thrown" "I") (by decide +kernel)) (fun _ h9 => h9) rfl dX3_isThere_22 ?_
      refine lv_if_ne (tgt := 32) hx hb dX3_isThere_25 (by decide) (fun c25 => absurd c25 (fun h9 => h9 rfl)) (fun c25 => ?_)
      refine lv_iconst (v := 1) hx hb dX3_isThere_28 (by decide) ?_
      refine lv_goto (tgt := 33) hx hb dX3_isThere_29 (by decide) ?_
      have hP : va_P D vwCl (modW y aw az ah ak cI cD (nI n) wm ys q qf yo ri ol (thI n x) wd zs h kp) H := by rw [show thI n x = 0 from if_neg (fun h9 => h9.elim c2 c10)]; exact hP
      have hD : va_D A (modW y aw az ah ak cI cD (nI n) wm ys q qf yo ri ol (thI n x) wd zs h kp) := by rw [show thI n x = 0 from if_neg (fun h9 => h9.elim c2 c10)]; exact hD
      exact W.zret hx hb hr (by first | rfl | decide) (fun t ht hW => ⟨⟨_, (), rfl, by rw [show thI n x = 0 from if_neg (fun h9 => h9.elim c2 c10)]; rfl, by rw [ht]; exact hP, va_K.moved hW.alike hK, hD⟩, hS.F ht⟩) hS.2.2 dX3_isThere_33

set_option maxHeartbeats 4000000 in
set_option maxRecDepth 100000 in
theorem metX3_isEmpty (l : Launch) (D : va_G) (y aw az ah ak : Nat) (cI cD : ClassId) (n : Nat) (hn : n ≤ 8) (wm ys : Int32) (q : UInt64) (qf yo ri ol th : Int32) (wd zs : Nat → Int32) (h kp : Nat → UInt64) (b : Nat) (hb8 : b < 8) (h0 : FP.dcmp (h b) 0 ≠ none) : Met l yX3_isEmpty wsX3_isEmpty { frames := 0, cells := 0, slots := 0, locals := 0 } (Pr D [(cI, .int), (cD, .double)] [.ref y, .int (nI b)] (modW y aw az ah ak cI cD (nI n) wm ys q qf yo ri ol th wd zs h kp)) (vp_Si (fun r : Int32 => r = emp (h b))) 0 0 (fun _ => False) := by
  refine Met.ofW (cc := cX3_isEmpty) (maxL := 2) (ret := (some .boolean)) (by decide) rfl ?_
  intro p e s m args below meth c s₁ B hml hv
  obtain ⟨rfl, hP, hK⟩ := hv
  have hx := B.exec
  have hb := B.bytes
  have hr := B.returns
  have hts := atoms_spec (ws := wsX3_isEmpty) B.pre
  have hown : s.vm.findClass RX3 = some m.cls := findClass_of_methodNamed B.named
  have hlocks := B.notSynchronized
  have hl := lv_entry ([.ref y, .int (nI b)]) (n := 2) (Nat.le_of_ble_eq_true rfl)
  rw [lg_entry_eq]
  generalize (lg_sl ([.ref y, .int (nI b)]) ++ List.replicate (2 - (lg_sl ([.ref y, .int (nI b)])).length) Slot.unset).toArray = ls at hl ⊢
  have hl : lv_has ls 2 [(0, .ref y), (1, .int (nI b))] := hl
  refine lv_aload_n hx hb dX3_isEmpty_0 rfl (lv_at hl 0 rfl) ?_
  refine va_get (D := D) (ci := 3) (v := .ref ah) (C := RX3) (T := TX3) (N := 13) hx hb hts (by decide +kernel) hown hK hP (0) rfl rfl 2 (by decide) (hts (.fieldLink RX3 16 "VinegarLoftModel" "holds" "[D") (by decide +kernel)) (fun _ h9 => h9) rfl dX3_isEmpty_1 ?_
  refine lv_iconst (v := 0) hx hb dX3_isEmpty_4 (by decide) ?_
  refine lv_iload_n hx hb dX3_isEmpty_5 rfl (lv_at hl 1 rfl) ?_
  refine lv_iadd hx hb dX3_isEmpty_6 ?_
  refine kx_dald hx hb hK hP 3 1 rfl rfl (j := b) (ix0 b) (show b < 32 by omega) (by decide) dX3_isEmpty_7 ?_
  refine kd_0 hx hb dX3_isEmpty_8 ?_
  refine kd_gt (tgt := 17) hx hb dX3_isEmpty_9 dX3_isEmpty_10 (by decide) h0 (fun c9 => ?_) (fun c9 => ?_)
  · refine lv_iconst (v := 0) hx hb dX3_isEmpty_17 (by decide) ?_
    exact W.zret hx hb hr (by first | rfl | decide) (fun t ht hW => ⟨_, rfl, by unfold emp; rw [if_pos c9], ht⟩) (fun q hq => absurd hq List.not_mem_nil) dX3_isEmpty_18
  · refine lv_iconst (v := 1) hx hb dX3_isEmpty_13 (by decide) ?_
    refine lv_goto (tgt := 18) hx hb dX3_isEmpty_14 (by decide) ?_
    exact W.zret hx hb hr (by first | rfl | decide) (fun t ht hW => ⟨_, rfl, by unfold emp; rw [if_neg c9], ht⟩) (fun q hq => absurd hq List.not_mem_nil) dX3_isEmpty_18

set_option maxHeartbeats 4000000 in
set_option maxRecDepth 100000 in
theorem metX3_lesser (l : Launch) (D : va_G) (a b : UInt64) (h0 : FP.dcmp a b ≠ none) : Met l yX3_lesser wsX3_lesser { frames := 0, cells := 0, slots := 0, locals := 0 } (Pr D [] [.double a, .double b] ([])) (vp_Sd (fun r : UInt64 => r = lesv a b)) 0 0 (fun _ => False) := by
  refine Met.ofW (cc := cX3_lesser) (maxL := 4) (ret := (some .double)) (by decide) rfl ?_
  intro p e s m args below meth c s₁ B hml hv
  obtain ⟨rfl, hP, hK⟩ := hv
  have hx := B.exec
  have hb := B.bytes
  have hr := B.returns
  have hts := atoms_spec (ws := wsX3_lesser) B.pre
  have hown : s.vm.findClass RX3 = some m.cls := findClass_of_methodNamed B.named
  have hlocks := B.notSynchronized
  have hl := lv_entry ([.double a, .double b]) (n := 4) (Nat.le_of_ble_eq_true rfl)
  rw [lg_entry_eq]
  generalize (lg_sl ([.double a, .double b]) ++ List.replicate (4 - (lg_sl ([.double a, .double b])).length) Slot.unset).toArray = ls at hl ⊢
  have hl : lv_has ls 4 [(0, .double a), (2, .double b)] := hl
  refine lv_dload_n hx hb dX3_lesser_0 rfl (lv_at hl 0 rfl) ?_
  refine lv_dload_n hx hb dX3_lesser_1 rfl (lv_at hl 1 rfl) ?_
  refine kd_ge (tgt := 10) hx hb dX3_lesser_2 dX3_lesser_3 (by decide) h0 (fun c2 => ?_) (fun c2 => ?_)
  · refine lv_dload_n hx hb dX3_lesser_10 rfl (lv_at hl 1 rfl) ?_
    exact W.dret hx hb hr (fun t ht hW => ⟨_, rfl, by unfold lesv; rw [if_neg c2], ht⟩) (fun q hq => absurd hq List.not_mem_nil) dX3_lesser_11
  · refine lv_dload_n hx hb dX3_lesser_6 rfl (lv_at hl 0 rfl) ?_
    refine lv_goto (tgt := 11) hx hb dX3_lesser_7 (by decide) ?_
    exact W.dret hx hb hr (fun t ht hW => ⟨_, rfl, by unfold lesv; rw [if_pos c2], ht⟩) (fun q hq => absurd hq List.not_mem_nil) dX3_lesser_11

set_option maxHeartbeats 4000000 in
set_option maxRecDepth 100000 in
theorem metX3_mixes (l : Launch) (D : va_G) (sz : Nat) (y aw az ah ak : Nat) (cI cD : ClassId) (n : Nat) (hn : n ≤ 8) (wm ys : Int32) (q : UInt64) (qf yo ri ol th : Int32) (wd zs : Nat → Int32) (h kp : Nat → UInt64) (b : Nat) (hb8 : b < 8) (o : Nat) (ho : o = 8 ∨ o = 16 ∨ o = 24) (w v : UInt64) (hm : mixok (h b) (h (o + b)) w v) : Met l yX3_mixes wsX3_mixes { frames := 0, cells := 0, slots := 0, locals := 0 } (Pm D [(cI, .int), (cD, .double)] [.ref y, .int (nI b), .int (nI o), .double w, .double v] (modW y aw az ah ak cI cD (nI n) wm ys q qf yo ri ol th wd zs h kp) sz) (va_Qv (fun (_ : Unit) => True) (Bm D [(cI, .int), (cD, .double)] (va_A (modW y aw az ah ak cI cD (nI n) wm ys q qf yo ri ol th wd zs h kp) sz) (modW y aw az ah ak cI cD (nI n) wm ys q qf yo ri ol th wd zs (vf_upd h (o + b) (mixv (h b) (h (o + b)) w v)) kp)) (va_A (modW y aw az ah ak cI cD (nI n) wm ys q qf yo ri ol th wd zs h kp) sz)) 0 0 (va_A (modW y aw az ah ak cI cD (nI n) wm ys q qf yo ri ol th wd zs h kp) sz) := by
  refine Met.ofW (cc := cX3_mixes) (maxL := 11) (ret := none) (by decide) rfl ?_
  intro p e s m args below meth c s₁ B hml hv
  obtain ⟨rfl, hsz, hP, hK, hD0⟩ := hv
  have hx := B.exec
  have hb := B.bytes
  have hr := B.returns
  have hts := atoms_spec (ws := wsX3_mixes) B.pre
  have hown : s.vm.findClass RX3 = some m.cls := findClass_of_methodNamed B.named
  have hlocks := B.notSynchronized
  subst hsz
  have hD := hD0.self (sz := s.heap.size)
  generalize hAe : va_A (modW y aw az ah ak cI cD (nI n) wm ys q qf yo ri ol th wd zs h kp) s.heap.size = A at hD ⊢
  have hA : ∀ q : Nat, s.heap.size ≤ q → A q := fun q h => by rw [← hAe]; exact Or.inr h
  refine kW_H (fun H hH => ?_)
  have hP : va_P D vwCl (modW y aw az ah ak cI cD (nI n) wm ys q qf yo ri ol th wd zs h kp) H := by rw [hH]; exact hP
  have hS : va_S A s.heap H [] := by rw [hH]; exact va_S.rf
  have hl := lv_entry ([.ref y, .int (nI b), .int (nI o), .double w, .double v]) (n := 11) (Nat.le_of_ble_eq_true rfl)
  rw [lg_entry_eq]
  generalize (lg_sl ([.ref y, .int (nI b), .int (nI o), .double w, .double v]) ++ List.replicate (11 - (lg_sl ([.ref y, .int (nI b), .int (nI o), .double w, .double v])).length) Slot.unset).toArray = ls at hl ⊢
  have hl : lv_has ls 11 [(0, .ref y), (1, .int (nI b)), (2, .int (nI o)), (3, .double w), (5, .double v)] := hl
  obtain ⟨m1, m2, m3, m4, m5, m6⟩ := hm
  refine lv_aload_n hx hb dX3_mixes_0 rfl (lv_at hl 0 rfl) ?_
  refine va_get (D := D) (ci := 3) (v := .ref ah) (C := RX3) (T := TX3) (N := 13) hx hb hts (by decide +kernel) hown hK hP (0) rfl rfl 2 (by decide) (hts (.fieldLink RX3 16 "VinegarLoftModel" "holds" "[D") (by decide +kernel)) (fun _ h9 => h9) rfl dX3_mixes_1 ?_
  refine lv_iconst (v := 0) hx hb dX3_mixes_4 (by decide) ?_
  refine lv_iload_n hx hb dX3_mixes_5 rfl (lv_at hl 1 rfl) ?_
  refine lv_iadd hx hb dX3_mixes_6 ?_
  refine kx_dald hx hb hK hP 3 1 rfl rfl (j := b) (ix0 b) (show b < 32 by omega) (by decide) dX3_mixes_7 ?_
  refine lv_dstore (lv' := [(7, .double (h b)), (0, .ref y), (1, .int (nI b)), (2, .int (nI o)), (3, .double w), (5, .double v)]) hx hb dX3_mixes_8 hl (by decide) rfl (fun ls hl => ?_)
  refine lv_aload_n hx hb dX3_mixes_10 rfl (lv_at hl 1 rfl) ?_
  refine va_get (D := D) (ci := 3) (v := .ref ah) (C := RX3) (T := TX3) (N := 13) hx hb hts (by decide +kernel) hown hK hP (0) rfl rfl 2 (by decide) (hts (.fieldLink RX3 16 "VinegarLoftModel" "holds" "[D") (by decide +kernel)) (fun _ h9 => h9) rfl dX3_mixes_11 ?_
  refine lv_iload_n hx hb dX3_mixes_14 rfl (lv_at hl 3 rfl) ?_
  refine lv_iload_n hx hb dX3_mixes_15 rfl (lv_at hl 2 rfl) ?_
  refine lv_iadd hx hb dX3_mixes_16 ?_
  refine kx_dald hx hb hK hP 3 1 rfl rfl (j := o + b) (ixc o b) (show o + b < 32 by omega) (by decide) dX3_mixes_17 ?_
  refine lv_dstore (lv' := [(9, .double (h (o + b))), (7, .double (h b)), (0, .ref y), (1, .int (nI b)), (2, .int (nI o)), (3, .double w), (5, .double v)]) hx hb dX3_mixes_18 hl (by decide) rfl (fun ls hl => ?_)
  refine lv_aload_n hx hb dX3_mixes_20 rfl (lv_at hl 2 rfl) ?_
  refine va_get (D := D) (ci := 3) (v := .ref ah) (C := RX3) (T := TX3) (N := 13) hx hb hts (by decide +kernel) hown hK hP (0) rfl rfl 2 (by decide) (hts (.fieldLink RX3 16 "VinegarLoftModel" "holds" "[D") (by decide +kernel)) (fun _ h9 => h9) rfl dX3_mixes_21 ?_
  refine lv_iload_n hx hb dX3_mixes_24 rfl (lv_at hl 4 rfl) ?_
  refine lv_iload_n hx hb dX3_mixes_25 rfl (lv_at hl 3 rfl) ?_
  refine lv_iadd hx hb dX3_mixes_26 ?_
  refine lv_dload hx hb dX3_mixes_27 (lv_at hl 1 rfl) ?_
  refine lv_dload hx hb dX3_mixes_29 (lv_at hl 0 rfl) ?_
  refine lv_dmul hx hb dX3_mixes_31 m3 ?_
  refine lv_dload_n hx hb dX3_mixes_32 rfl (lv_at hl 5 rfl) ?_
  refine lv_dload hx hb dX3_mixes_33 (lv_at hl 6 rfl) ?_
  refine lv_dmul hx hb dX3_mixes_35 m4 ?_
  refine lv_dadd hx hb dX3_mixes_36 m5 ?_
  refine lv_dload hx hb dX3_mixes_37 (lv_at hl 1 rfl) ?_
  refine lv_dload_n hx hb dX3_mixes_39 rfl (lv_at hl 5 rfl) ?_
  refine lv_dadd hx hb dX3_mixes_40 m1 ?_
  refine lv_ddiv hx hb dX3_mixes_41 m6 ?_
  refine kx_dast hx hb hK hP hD hS 3 1 rfl rfl (j := o + b) (ixc o b) (show o + b < 32 by omega) (by decide) dX3_mixes_42 (fun H locs hP hD hS => ?_)
  have hP : va_P D vwCl (modW y aw az ah ak cI cD (nI n) wm ys q qf yo ri ol th wd zs (vf_upd h (o + b) (FP.ddiv (FP.dadd (FP.dmul (h b) (h (o + b))) (FP.dmul w v)) (FP.dadd (h b) w))) kp) H := hP
  have hD : va_D A (modW y aw az ah ak cI cD (nI n) wm ys q qf yo ri ol th wd zs (vf_upd h (o + b) (FP.ddiv (FP.dadd (FP.dmul (h b) (h (o + b))) (FP.dmul w v)) (FP.dadd (h b) w))) kp) := hD
  have hP : va_P D vwCl (modW y aw az ah ak cI cD (nI n) wm ys q qf yo ri ol th wd zs (vf_upd h (o + b) (mixv (h b) (h (o + b)) w v)) kp) H := by unfold mixv; exact hP
  have hD : va_D A (modW y aw az ah ak cI cD (nI n) wm ys q qf yo ri ol th wd zs (vf_upd h (o + b) (mixv (h b) (h (o + b)) w v)) kp) := by unfold mixv; exact hD
  exact W.vret hx hb hr (fun t ht hW => ⟨⟨(), rfl, trivial, by rw [ht]; exact hP, va_K.moved hW.alike hK, hD⟩, hS.F ht⟩) hS.2.2 dX3_mixes_43

set_option maxHeartbeats 4000000 in
set_option maxRecDepth 100000 in
theorem metX3_gets (l : Launch) (D : va_G) (sz : Nat) (y aw az ah ak : Nat) (cI cD : ClassId) (n : Nat) (hn : n ≤ 8) (wm ys : Int32) (q : UInt64) (qf yo ri ol th : Int32) (wd zs : Nat → Int32) (h kp : Nat → UInt64) (b : Nat) (hb8 : b < 8) (w ag ac su : UInt64) (h0 : FP.dcmp w 0 ≠ none) (hm : FP.dcmp w 0 = some .gt → mixok3 h b w ag ac su) : Met l yX3_gets wsX3_gets { frames := 1, cells := 0, slots := 0, locals := 30 } (Pm D [(cI, .int), (cD, .double)] [.ref y, .int (nI b), .double w, .double ag, .double ac, .double su] (modW y aw az ah ak cI cD (nI n) wm ys q qf yo ri ol th wd zs h kp) sz) (va_Qv (fun (_ : Unit) => True) (Bm D [(cI, .int), (cD, .double)] (va_A (modW y aw az ah ak cI cD (nI n) wm ys q qf yo ri ol th wd zs h kp) sz) (modW y aw az ah ak cI cD (nI n) wm ys q qf yo ri ol th wd zs (geH h b w ag ac su) kp)) (va_A (modW y aw az ah ak cI cD (nI n) wm ys q qf yo ri ol th wd zs h kp) sz)) 0 0 (va_A (modW y aw az ah ak cI cD (nI n) wm ys q qf yo ri ol th wd zs h kp) sz) := by
  refine Met.ofW (cc := cX3_gets) (maxL := 10) (ret := none) (by decide) rfl ?_
  intro p e s m args below meth c s₁ B hml hv
  obtain ⟨rfl, hsz, hP, hK, hD0⟩ := hv
  have hx := B.exec
  have hb := B.bytes
  have hr := B.returns
  have hts := atoms_spec (ws := wsX3_gets) B.pre
  have hown : s.vm.findClass RX3 = some m.cls := findClass_of_methodNamed B.named
  have hlocks := B.notSynchronized
  subst hsz
  have hD := hD0.self (sz := s.heap.size)
  generalize hAe : va_A (modW y aw az ah ak cI cD (nI n) wm ys q qf yo ri ol th wd zs h kp) s.heap.size = A at hD ⊢
  have hA : ∀ q : Nat, s.heap.size ≤ q → A q := fun q h => by rw [← hAe]; exact Or.inr h
  refine kW_H (fun H hH => ?_)
  have hP : va_P D vwCl (modW y aw az ah ak cI cD (nI n) wm ys q qf yo ri ol th wd zs h kp) H := by rw [hH]; exact hP
  have hS : va_S A s.heap H [] := by rw [hH]; exact va_S.rf
  have hl := lv_entry ([.ref y, .int (nI b), .double w, .double ag, .double ac, .double su]) (n := 10) (Nat.le_of_ble_eq_true rfl)
  rw [lg_entry_eq]
  generalize (lg_sl ([.ref y, .int (nI b), .double w, .double ag, .double ac, .double su]) ++ List.replicate (10 - (lg_sl ([.ref y, .int (nI b), .double w, .double ag, .double ac, .double su])).length) Slot.unset).toArray = ls at hl ⊢
  have hl : lv_has ls 10 [(0, .ref y), (1, .int (nI b)), (2, .double w), (4, .double ag), (6, .double ac), (8, .double su)] := hl
  refine lv_dload_n hx hb dX3_gets_0 rfl (lv_at hl 2 rfl) ?_
  refine kd_0 hx hb dX3_gets_1 ?_
  refine kd_le (tgt := 54) hx hb dX3_gets_2 dX3_gets_3 (by decide) h0 (fun c2 => ?_) (fun c2 => ?_)
  · have hP : va_P D vwCl (modW y aw az ah ak cI cD (nI n) wm ys q qf yo ri ol th wd zs (geH h b w ag ac su) kp) H := by unfold geH; rw [if_neg c2]; exact hP
    have hD : va_D A (modW y aw az ah ak cI cD (nI n) wm ys q qf yo ri ol th wd zs (geH h b w ag ac su) kp) := by unfold geH; rw [if_neg c2]; exact hD
    exact W.vret hx hb hr (fun t ht hW => ⟨⟨(), rfl, trivial, by rw [ht]; exact hP, va_K.moved hW.alike hK, hD⟩, hS.F ht⟩) hS.2.2 dX3_gets_54
  · obtain ⟨m1, m2, m3⟩ := hm c2
    refine lv_aload_n hx hb dX3_gets_6 rfl (lv_at hl 0 rfl) ?_
    refine lv_iload_n hx hb dX3_gets_7 rfl (lv_at hl 1 rfl) ?_
    refine lv_bipush (v := 8) hx hb dX3_gets_8 (by decide) ?_
    refine lv_dload_n hx hb dX3_gets_10 rfl (lv_at hl 2 rfl) ?_
    refine lv_dload hx hb dX3_gets_11 (lv_at hl 3 rfl) ?_
    have hm9 : mixok (h b) (h (8 + b)) w ag := by exact m1
    refine kw_v (va_runV (As := [.int (nI b), .int 8, .double w, .double ag]) (rest := []) ⟨hx, hb, hml, hown, hts⟩ (metX3_mixes l D H.size y aw az ah ak cI cD n (by omega) wm ys q qf yo ri ol th wd zs h kp b hb8 8 (by decide) w ag hm9) (cwV 4 hts gX3_gets_X3_mixes rfl rfl rfl (by decide +kernel) ⟨Nat.le_of_ble_eq_true rfl, Nat.le_of_ble_eq_true rfl⟩) (pmV 3 0 RX3 TX3 13 rfl rfl hP hK hD) rfl rfl hl.1 rfl (lv_room (Nat.le_of_ble_eq_true rfl)) dX3_gets_13 ⟨Nat.le_of_ble_eq_true rfl, Nat.le_of_ble_eq_true rfl⟩) hP hD hS hA (fun H locs hP hD hS => ?_)
    have hP : va_P D vwCl (modW y aw az ah ak cI cD (nI n) wm ys q qf yo ri ol th wd zs (vf_upd h (8 + b) (mixv (h b) (h (8 + b)) w ag)) kp) H := hP
    have hD : va_D A (modW y aw az ah ak cI cD (nI n) wm ys q qf yo ri ol th wd zs (vf_upd h (8 + b) (mixv (h b) (h (8 + b)) w ag)) kp) := hD
    refine lv_aload_n hx hb dX3_gets_16 rfl (lv_at hl 0 rfl) ?_
    refine lv_iload_n hx hb dX3_gets_17 rfl (lv_at hl 1 rfl) ?_
    refine lv_bipush (v := 16) hx hb dX3_gets_18 (by decide) ?_
    refine lv_dload_n hx hb dX3_gets_20 rfl (lv_at hl 2 rfl) ?_
    refine lv_dload hx hb dX3_gets_21 (lv_at hl 4 rfl) ?_
    have hm9 : mixok ((vf_upd h (8 + b) (mixv (h b) (h (8 + b)) w ag)) b) ((vf_upd h (8 + b) (mixv (h b) (h (8 + b)) w ag)) (16 + b)) w ac := by rw [vu_n (show b ≠ 8 + b by omega), vu_n (show 16 + b ≠ 8 + b by omega)]; exact m2
    refine kw_v (va_runV (As := [.int (nI b), .int 16, .double w, .double ac]) (rest := []) ⟨hx, hb, hml, hown, hts⟩ (metX3_mixes l D H.size y aw az ah ak cI cD n (by omega) wm ys q qf yo ri ol th wd zs (vf_upd h (8 + b) (mixv (h b) (h (8 + b)) w ag)) kp b hb8 16 (by decide) w ac hm9) (cwV 4 hts gX3_gets_X3_mixes rfl rfl rfl (by decide +kernel) ⟨Nat.le_of_ble_eq_true rfl, Nat.le_of_ble_eq_true rfl⟩) (pmV 3 0 RX3 TX3 13 rfl rfl hP hK hD) rfl rfl hl.1 rfl (lv_room (Nat.le_of_ble_eq_true rfl)) dX3_gets_23 ⟨Nat.le_of_ble_eq_true rfl, Nat.le_of_ble_eq_true rfl⟩) hP hD hS hA (fun H locs hP hD hS => ?_)
    rw [vu_n (show b ≠ 8 + b by omega), vu_n (show 16 + b ≠ 8 + b by omega)] at hP hD
    have hP : va_P D vwCl (modW y aw az ah ak cI cD (nI n) wm ys q qf yo ri ol th wd zs (vf_upd (vf_upd h (8 + b) (mixv (h b) (h (8 + b)) w ag)) (16 + b) (mixv (h b) (h (16 + b)) w ac)) kp) H := hP
    have hD : va_D A (modW y aw az ah ak cI cD (nI n) wm ys q qf yo ri ol th wd zs (vf_upd (vf_upd h (8 + b) (mixv (h b) (h (8 + b)) w ag)) (16 + b) (mixv (h b) (h (16 + b)) w ac)) kp) := hD
    refine lv_aload_n hx hb dX3_gets_26 rfl (lv_at hl 0 rfl) ?_
    refine lv_iload_n hx hb dX3_gets_27 rfl (lv_at hl 1 rfl) ?_
    refine lv_bipush (v := 24) hx hb dX3_gets_28 (by decide) ?_
    refine lv_dload_n hx hb dX3_gets_30 rfl (lv_at hl 2 rfl) ?_
    refine lv_dload hx hb dX3_gets_31 (lv_at hl 5 rfl) ?_
    have hm9 : mixok ((vf_upd (vf_upd h (8 + b) (mixv (h b) (h (8 + b)) w ag)) (16 + b) (mixv (h b) (h (16 + b)) w ac)) b) ((vf_upd (vf_upd h (8 + b) (mixv (h b) (h (8 + b)) w ag)) (16 + b) (mixv (h b) (h (16 + b)) w ac)) (24 + b)) w su := by rw [vu_n (show b ≠ 16 + b by omega), vu_n (show b ≠ 8 + b by omega), vu_n (show 24 + b ≠ 16 + b by omega), vu_n (show 24 + b ≠ 8 + b by omega)]; exact m3
    refine kw_v (va_runV (As := [.int (nI b), .int 24, .double w, .double su]) (rest := []) ⟨hx, hb, hml, hown, hts⟩ (metX3_mixes l D H.size y aw az ah ak cI cD n (by omega) wm ys q qf yo ri ol th wd zs (vf_upd (vf_upd h (8 + b) (mixv (h b) (h (8 + b)) w ag)) (16 + b) (mixv (h b) (h (16 + b)) w ac)) kp b hb8 24 (by decide) w su hm9) (cwV 4 hts gX3_gets_X3_mixes rfl rfl rfl (by decide +kernel) ⟨Nat.le_of_ble_eq_true rfl, Nat.le_of_ble_eq_true rfl⟩) (pmV 3 0 RX3 TX3 13 rfl rfl hP hK hD) rfl rfl hl.1 rfl (lv_room (Nat.le_of_ble_eq_true rfl)) dX3_gets_33 ⟨Nat.le_of_ble_eq_true rfl, Nat.le_of_ble_eq_true rfl⟩) hP hD hS hA (fun H locs hP hD hS => ?_)
    rw [vu_n (show b ≠ 16 + b by omega), vu_n (show b ≠ 8 + b by omega), vu_n (show 24 + b ≠ 16 + b by omega), vu_n (show 24 + b ≠ 8 + b by omega)] at hP hD
    have hP : va_P D vwCl (modW y aw az ah ak cI cD (nI n) wm ys q qf yo ri ol th wd zs (vf_upd (vf_upd (vf_upd h (8 + b) (mixv (h b) (h (8 + b)) w ag)) (16 + b) (mixv (h b) (h (16 + b)) w ac)) (24 + b) (mixv (h b) (h (24 + b)) w su)) kp) H := hP
    have hD : va_D A (modW y aw az ah ak cI cD (nI n) wm ys q qf yo ri ol th wd zs (vf_upd (vf_upd (vf_upd h (8 + b) (mixv (h b) (h (8 + b)) w ag)) (16 + b) (mixv (h b) (h (16 + b)) w ac)) (24 + b) (mixv (h b) (h (24 + b)) w su)) kp) := hD
    refine lv_aload_n hx hb dX3_gets_36 rfl (lv_at hl 0 rfl) ?_
    refine va_get (D := D) (ci := 3) (v := .ref ah) (C := RX3) (T := TX3) (N := 13) hx hb hts (by decide +kernel) hown hK hP (0) rfl rfl 2 (by decide) (hts (.fieldLink RX3 16 "VinegarLoftModel" "holds" "[D") (by decide +kernel)) (fun _ h9 => h9) rfl dX3_gets_37 ?_
    refine lv_iconst (v := 0) hx hb dX3_gets_40 (by decide) ?_
    refine lv_iload_n hx hb dX3_gets_41 rfl (lv_at hl 1 rfl) ?_
    refine lv_iadd hx hb dX3_gets_42 ?_
    refine lv_aload_n hx hb dX3_gets_43 rfl (lv_at hl 0 rfl) ?_
    refine va_get (D := D) (ci := 3) (v := .ref ah) (C := RX3) (T := TX3) (N := 13) hx hb hts (by decide +kernel) hown hK hP (0) rfl rfl 2 (by decide) (hts (.fieldLink RX3 16 "VinegarLoftModel" "holds" "[D") (by decide +kernel)) (fun _ h9 => h9) rfl dX3_gets_44 ?_
    refine lv_iconst (v := 0) hx hb dX3_gets_47 (by decide) ?_
    refine lv_iload_n hx hb dX3_gets_48 rfl (lv_at hl 1 rfl) ?_
    refine lv_iadd hx hb dX3_gets_49 ?_
    refine kx_dald hx hb hK hP 3 1 rfl rfl (j := b) (ix0 b) (show b < 32 by omega) (by decide) dX3_gets_50 ?_
    refine kd_eq (show (vf_upd (vf_upd (vf_upd h (8 + b) (mixv (h b) (h (8 + b)) w ag)) (16 + b) (mixv (h b) (h (16 + b)) w ac)) (24 + b) (mixv (h b) (h (24 + b)) w su)) b = h b from by rw [vu_n (show b ≠ 24 + b by omega), vu_n (show b ≠ 16 + b by omega), vu_n (show b ≠ 8 + b by omega)]) ?_
    refine lv_dload_n hx hb dX3_gets_51 rfl (lv_at hl 2 rfl) ?_
    refine lv_dadd hx hb dX3_gets_52 m1.1 ?_
    refine kx_dast hx hb hK hP hD hS 3 1 rfl rfl (j := b) (ix0 b) (show b < 32 by omega) (by decide) dX3_gets_53 (fun H locs hP hD hS => ?_)
    have hP : va_P D vwCl (modW y aw az ah ak cI cD (nI n) wm ys q qf yo ri ol th wd zs (vf_upd (vf_upd (vf_upd (vf_upd h (8 + b) (mixv (h b) (h (8 + b)) w ag)) (16 + b) (mixv (h b) (h (16 + b)) w ac)) (24 + b) (mixv (h b) (h (24 + b)) w su)) b (FP.dadd (h b) w)) kp) H := hP
    have hD : va_D A (modW y aw az ah ak cI cD (nI n) wm ys q qf yo ri ol th wd zs (vf_upd (vf_upd (vf_upd (vf_upd h (8 + b) (mixv (h b) (h (8 + b)) w ag)) (16 + b) (mixv (h b) (h (16 + b)) w ac)) (24 + b) (mixv (h b) (h (24 + b)) w su)) b (FP.dadd (h b) w)) kp) := hD
    have hP : va_P D vwCl (modW y aw az ah ak cI cD (nI n) wm ys q qf yo ri ol th wd zs (geH h b w ag ac su) kp) H := by unfold geH; rw [if_pos c2]; rw [show hset h b (FP.dadd (h b) w) (mixv (h b) (h (8 + b)) w ag) (mixv (h b) (h (16 + b)) w ac) (mixv (h b) (h (24 + b)) w su) = vf_upd (vf_upd (vf_upd (vf_upd h (8 + b) (mixv (h b) (h (8 + b)) w ag)) (16 + b) (mixv (h b) (h (16 + b)) w ac)) (24 + b) (mixv (h b) (h (24 + b)) w su)) b (FP.dadd (h b) w) from (hset_of (show b < 8 by omega) (by rw [vu_s]) (by rw [vu_n (show 8 + b ≠ b by omega), vu_n (show 8 + b ≠ 24 + b by omega), vu_n (show 8 + b ≠ 16 + b by omega), vu_s]) (by rw [vu_n (show 16 + b ≠ b by omega), vu_n (show 16 + b ≠ 24 + b by omega), vu_s]) (by rw [vu_n (show 24 + b ≠ b by omega), vu_s]) (fun k k1 k2 k3 k4 => by rw [vu_n k1, vu_n k4, vu_n k3, vu_n k2])).symm]; exact hP
    have hD : va_D A (modW y aw az ah ak cI cD (nI n) wm ys q qf yo ri ol th wd zs (geH h b w ag ac su) kp) := by unfold geH; rw [if_pos c2]; rw [show hset h b (FP.dadd (h b) w) (mixv (h b) (h (8 + b)) w ag) (mixv (h b) (h (16 + b)) w ac) (mixv (h b) (h (24 + b)) w su) = vf_upd (vf_upd (vf_upd (vf_upd h (8 + b) (mixv (h b) (h (8 + b)) w ag)) (16 + b) (mixv (h b) (h (16 + b)) w ac)) (24 + b) (mixv (h b) (h (24 + b)) w su)) b (FP.dadd (h b) w) from (hset_of (show b < 8 by omega) (by rw [vu_s]) (by rw [vu_n (show 8 + b ≠ b by omega), vu_n (show 8 + b ≠ 24 + b by omega), vu_n (show 8 + b ≠ 16 + b by omega), vu_s]) (by rw [vu_n (show 16 + b ≠ b by omega), vu_n (show 16 + b ≠ 24 + b by omega), vu_s]) (by rw [vu_n (show 24 + b ≠ b by omega), vu_s]) (fun k k1 k2 k3 k4 => by rw [vu_n k1, vu_n k4, vu_n k3, vu_n k2])).symm]; exact hD
    exact W.vret hx hb hr (fun t ht hW => ⟨⟨(), rfl, trivial, by rw [ht]; exact hP, va_K.moved hW.alike hK, hD⟩, hS.F ht⟩) hS.2.2 dX3_gets_54

