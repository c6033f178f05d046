/-! the law's loop (laid by wip/whole/prog/loop.py) -/
/-- what always holds of the state -/
def IV (m n : Nat) (wm : Int32) (q : UInt64) (wd zs : Nat → Int32) (h : Nat → UInt64) : Prop := n ≤ 8 ∧ HB m n h ∧ (∀ i, i < n → ZB (zs i)) ∧ WB wm ∧ QB q ∧ zerI n wd ∧ zerI n zs
abbrev ZU (n : Nat) (u : TRW) : Prop := ZT n u.1 u.2.2.2.2.1 u.2.2.2.2.2.1 u.2.2.2.2.2.2
theorem IV.up {m n : Nat} {wm : Int32} {q : UInt64} {wd zs : Nat → Int32} {h : Nat → UInt64} (i : IV m n wm q wd zs h) : IV (m + 1) n wm q wd zs h := ⟨i.1, i.2.1.mono (by omega), i.2.2⟩
theorem rng_nat {lo hi : Nat} {x : Int32} (hh : hi < 2 ^ 31) (hx : ¬ badR (nI lo) (nI hi) x) (hl : lo ≤ hi) : ∃ k : Nat, lo ≤ k ∧ k ≤ hi ∧ x = nI k := by
  have h1 : ¬ x < nI lo := fun h => hx (Or.inl h)
  have h2 : ¬ nI hi < x := fun h => hx (Or.inr h)
  rw [Int32.lt_iff_toInt_lt, nI_toInt (by omega)] at h1 h2
  obtain ⟨k, hk, rfl⟩ := nI_of (x := x) (fun h9 => by
    rw [Int32.lt_iff_toInt_lt] at h9
    have : (0 : Int32).toInt = 0 := by decide
    omega)
  rw [nI_toInt hk] at h1 h2
  exact ⟨k, by omega, by omega, rfl⟩
theorem lit_100 {x : Int32} (hx : ¬ badR 1 100 x) : (FP.i2d x).toNat ≤ 4636737291354636288 := by
  obtain ⟨k, -, h2, rfl⟩ := rng_nat (lo := 1) (hi := 100) (by decide) hx (by decide)
  exact (sz_d h2).1
theorem wb_of {x : Int32} (hx : ¬ badR 0 40 x) : WB x := by
  obtain ⟨k, -, h2, rfl⟩ := rng_nat (lo := 0) (hi := 40) (by decide) hx (by decide)
  exact ⟨k, h2, rfl⟩
theorem zerH_up {n : Nat} {h : Nat → UInt64} (hz : zerH n h) : zerH (n + 1) h := fun k hk => hz k (by omega)
theorem IV_add {m n : Nat} {wm : Int32} {q : UInt64} {wd zs : Nat → Int32} {h : Nat → UInt64} {x z : Int32} (i : IV m n wm q wd zs h) (hb : ¬ badA1 zs n x z ∧ n < 8) : IV (m + 1) (n + 1) wm q (va_up wd n x) (va_up zs n z) h := by
  obtain ⟨h1, h2, h3, h4, h5, h6, h7⟩ := i
  refine ⟨hb.2, ⟨zerH_up h2.1, fun j hj => ?_⟩, fun j hj => ?_, h4, h5, fun k hk => ?_, fun k hk => ?_⟩
  · by_cases e : j < n
    · exact (h2.2 j e).mono (by omega)
    · have e : j = n := by omega
      subst e
      unfold BB
      rw [h2.1 j (Or.inr (by omega)), h2.1 (8 + j) (Or.inr (by omega)), h2.1 (16 + j) (Or.inr (by omega)), h2.1 (24 + j) (Or.inr (by omega))]
      exact ⟨by unfold LB; decide +kernel, vB_0, vB_0, vB_0⟩
  · by_cases e : j = n
    · subst e
      show ZB (if j = j then z else zs j)
      rw [if_pos rfl]
      have b1 : ¬ z < 10 := fun h => hb.1 (Or.inr (Or.inl h))
      have b2 : ¬ lgN zs j < z := fun h => hb.1 (Or.inr (Or.inr h))
      have b3 : ¬ badR (nI 10) (nI 100) z := by
        rintro (h | h)
        · exact b1 h
        · refine b2 ?_
          unfold lgN
          split
          · exact h
          · obtain ⟨k, k1, k2, e⟩ := h3 (j - 1) (by omega)
            rw [e, nI_p (by omega), Int32.lt_iff_toInt_lt, nI_toInt (by omega)]
            rw [Int32.lt_iff_toInt_lt, nI_toInt (by omega)] at h
            omega
      obtain ⟨k, k1, k2, e⟩ := rng_nat (lo := 10) (hi := 100) (by decide) b3 (by decide)
      exact ⟨k, k1, k2, e⟩
    · show ZB (if j = n then z else zs j)
      rw [if_neg e]
      exact h3 j (by omega)
  · show (if k = n then x else wd k) = 0
    rw [if_neg (by omega)]
    exact h6 k (by omega)
  · show (if k = n then z else zs k) = 0
    rw [if_neg (by omega)]
    exact h7 k (by omega)
theorem ZU_add {n : Nat} {u : TRW} (h : ZU n u) : ZU (n + 1) u := ⟨h.1, fun k hk => h.2.1 k (by omega), fun k hk => h.2.2.1 k (by omega), zerH_up h.2.2.2⟩
theorem len_3 {L : Nat} (hL : L ≤ 1536) : (Int32.ofNat L - 3).toInt = (L : Int) - 3 := by
  have h1 : (Int32.ofNat L).toInt = (L : Int) := nI_toInt (n := L) (by omega)
  have h3 : (3 : Int32).toInt = 3 := by decide
  rw [Int32.toInt_sub, h1, h3, Int.bmod_def]
  split <;> omega
theorem pour_HB {m n : Nat} {h : Nat → UInt64} {x : Int32} (hn : n ≤ 8) (hb : HB m n h) (hx : ¬ badI n x) : HB (m + 1) n (hset h x.toNatClampNeg 0 0 0 0) := by
  obtain ⟨j, hj, rfl⟩ := badI_nat hn hx
  rw [nI_clamp (by omega)]
  exact HB_set (hb.mono (by omega)) hj hn (by unfold LB; decide +kernel) vB_0 vB_0 vB_0
set_option maxHeartbeats 4000000 in
set_option maxRecDepth 100000 in
theorem law_loop {p : Program} {l : Launch} {e : Env} {s : State} {m : MethodId} {below : List Frame} {meth : Method} {c : Code} {Q : State → Prop} {D : va_G} {b L : Nat} {xs : Nat → Int32} {a : AD} (C : LC p l s m c D b L xs a)
    (kend : ∀ (H : Heap) (locs : List Loc) (ls : Array Slot) (cells slots : Nat), va_S (Ah s) s.heap H locs → cells ≤ 658678 → slots ≤ 7120069 → W p l e room_1 s m #[Value.ref b] below meth c H locs cells slots Q (F0 m 1130 ls [])) :
    ∀ (r k : Nat) (n : Nat) (wm df yg : Int32) (q : UInt64) (wd zs : Nat → Int32) (h : Nat → UInt64) (dk : Nat → Int32) (u : TRW) (th : Int32) (kp : Nat → UInt64) (fl : Nat → Int64) (fd : Nat → UInt64) (H : Heap) (locs : List Loc) (ls : Array Slot) (cells slots : Nat), L ≤ 3 * (k + r) + 2 → k ≤ 512 → cells ≤ 1000 + k → slots ≤ 1000 + 6 * k → IV (7 + k) n wm q wd zs h → ZU n u →
      va_P D vwCl (WLa a n wm df yg q wd zs h dk u th kp fl fd) H → va_D (Ah s) (WLa a n wm df yg q wd zs h dk u th kp fl fd) → va_S (Ah s) s.heap H locs → lv_has ls 10 (LOC a b (3 * k)) → W p l e room_1 s m #[Value.ref b] below meth c H locs cells slots Q (F0 m 28 ls []) := by
  obtain ⟨hx, hb, hml, hown, hts, hK, hX, hH, hst, hXs, hbl, hL⟩ := id C
  have hA : ∀ q : Nat, s.heap.size ≤ q → Ah s q := fun _ h => h
  have hbA : ¬ Ah s b := Nat.not_le.mpr hbl
  intro r
  induction r with
  | zero =>
    intro k n wm df yg q wd zs h dk u th kp fl fd H locs ls cells slots hr hk hcl hsl hI hu hP hD hS hl
    have hl : lv_has ls 10 [(5, .int (nI (3 * k))), (4, .ref a.od), (3, .ref a.ol), (2, .ref a.y), (1, .ref a.x), (0, .ref b)] := hl
    refine lv_iload hx hb dL_law_28 (lv_at hl 0 rfl) ?_
    refine lv_aload_n hx hb dL_law_30 rfl (lv_at hl 5 rfl) ?_
    refine va_slen hx hb hXs hbl hbA hS dL_law_31 ?_
    refine lv_iconst (v := 3) hx hb dL_law_32 (by decide) ?_
    refine lv_isub hx hb dL_law_33 ?_
    refine lv_icmp_gt (tgt := 1130) hx hb dL_law_34 (by decide) (fun c34 => kend H locs ls cells slots hS (by omega) (by omega)) (fun c34 => absurd ?_ c34)
    have h9 := len_3 hL
    have h8 := nI_toInt (n := 3 * k) (by omega)
    rw [Int32.lt_iff_toInt_lt, h9, h8]
    omega
  | succ r ih =>
    intro k n wm df yg q wd zs h dk u th kp fl fd H locs ls cells slots hr hk hcl hsl hI hu hP hD hS hl
    have hl : lv_has ls 10 [(5, .int (nI (3 * k))), (4, .ref a.od), (3, .ref a.ol), (2, .ref a.y), (1, .ref a.x), (0, .ref b)] := hl
    refine lv_iload hx hb dL_law_28 (lv_at hl 0 rfl) ?_
    refine lv_aload_n hx hb dL_law_30 rfl (lv_at hl 5 rfl) ?_
    refine va_slen hx hb hXs hbl hbA hS dL_law_31 ?_
    refine lv_iconst (v := 3) hx hb dL_law_32 (by decide) ?_
    refine lv_isub hx hb dL_law_33 ?_
    refine lv_icmp_gt (tgt := 1130) hx hb dL_law_34 (by decide) (fun c34 => kend H locs ls cells slots hS (by omega) (by omega)) (fun c34 => ?_)
    have hj : 3 * k + 2 < L := by
      have h9 := len_3 hL
      have h8 := nI_toInt (n := 3 * k) (by omega)
      rw [Int32.lt_iff_toInt_lt, h9, h8] at c34
      omega
    have hc1 : cells + 1 ≤ room_1.cells := by show cells + 1 ≤ 658678; omega
    have hs1 : slots + 6 ≤ room_1.slots := by show slots + 6 ≤ 7120069; omega
    obtain ⟨hn, hB, hz, hw, hq, hz1, hz2⟩ := hI
    have hI : IV (7 + k) n wm q wd zs h := ⟨hn, hB, hz, hw, hq, hz1, hz2⟩
    have hm7 : 7 ≤ 7 + k := by omega
    have hm8 : 7 + k ≤ 600 := by omega
    -- the end of a step
    have next : ∀ (n : Nat) (wm df yg : Int32) (q : UInt64) (wd zs : Nat → Int32) (h : Nat → UInt64) (dk : Nat → Int32) (u : TRW) (th : Int32) (kp : Nat → UInt64) (fl : Nat → Int64) (fd : Nat → UInt64) (H : Heap) (locs : List Loc) (ls : Array Slot), IV (7 + k + 1) n wm q wd zs h → ZU n u →
        va_P D vwCl (WLa a n wm df yg q wd zs h dk u th kp fl fd) H → va_D (Ah s) (WLa a n wm df yg q wd zs h dk u th kp fl fd) → va_S (Ah s) s.heap H locs → lv_has ls 10 (LOC a b (3 * k)) → W p l e room_1 s m #[Value.ref b] below meth c H locs (cells + 1) (slots + 6) Q (F0 m 1124 ls []) := by
      intro n wm df yg q wd zs h dk u th kp fl fd H locs ls hI hu hP hD hS hl
      refine lv_iinc (v := nI (3 * (k + 1))) (lv' := LOC a b (3 * (k + 1))) hx hb dL_law_1124 hl (k := 0) rfl (ixc (3 * k) 3) (by decide) rfl (fun ls hl => ?_)
      refine lv_goto (tgt := 28) hx hb dL_law_1127 (by decide) ?_
      exact ih (k + 1) n wm df yg q wd zs h dk u th kp fl fd H locs ls (cells + 1) (slots + 6) (by omega) (by omega) (by omega) (by omega) hI hu hP hD hS hl
    have stay : ∀ (u : TRW) (th : Int32) (kp : Nat → UInt64) (fl : Nat → Int64) (fd : Nat → UInt64) (H : Heap) (locs : List Loc) (ls : Array Slot), ZU n u →
        va_P D vwCl (WLa a n wm df yg q wd zs h dk u th kp fl fd) H → va_D (Ah s) (WLa a n wm df yg q wd zs h dk u th kp fl fd) → va_S (Ah s) s.heap H locs → lv_has ls 10 (LOC a b (3 * k)) → W p l e room_1 s m #[Value.ref b] below meth c H locs (cells + 1) (slots + 6) Q (F0 m 1124 ls []) :=
      fun u th kp fl fd H locs ls hu => next n wm df yg q wd zs h dk u th kp fl fd H locs ls hI.up hu
    refine lv_aload_n hx hb dL_law_37 rfl (lv_at hl 5 rfl) ?_
    refine lv_iload hx hb dL_law_38 (lv_at hl 0 rfl) ?_
    refine kx_sld hx hb hXs hbl hbA hS (j := 3 * k) rfl (by omega) hL dL_law_40 ?_
    refine lv_bipush (v := 31) hx hb dL_law_41 (by decide) ?_
    refine lv_iand hx hb dL_law_43 ?_
    rw [pk_and (xs (3 * k)) 5 (m := 31) (by decide)]
    generalize hv : (xs (3 * k)).toBitVec.toNat % 2 ^ 5 = v
    have hv32 : v < 32 := by omega
    have hvi : (nI v).toInt = (v : Int) := nI_toInt (by omega)
    by_cases hv20 : 20 ≤ v
    · refine lv_tableOut (tgt := 1124) hx hb dL_law_44 (Or.inr (by rw [hvi]; omega)) (by decide) ?_
      refine W.widen (k := cells + 1) (n := slots + 6) (by omega) (by omega) ?_
      exact stay u th kp fl fd H locs ls hu hP hD hS hl
    have e100 := hB.nnr
    have hrd := rd_ok hB hq
    have hrm := rd_M df hB hq
    obtain ⟨hto1, hto2, hto3⟩ := to_HB hz hn (by omega) hB
    obtain ⟨hy1, hy2, hy3, hy4⟩ := year_all (wd := wd) hn hB hw hm7 (by omega)
    have hkeep : ∀ (u' : TRW) (th' : Int32) (kp' : Nat → UInt64) (fl' : Nat → Int64) (fd' : Nat → UInt64), True := fun _ _ _ _ _ => trivial
    rcases (show v = 0 ∨ v = 1 ∨ v = 2 ∨ v = 3 ∨ v = 4 ∨ v = 5 ∨ v = 6 ∨ v = 7 ∨ v = 8 ∨ v = 9 ∨ v = 10 ∨ v = 11 ∨ v = 12 ∨ v = 13 ∨ v = 14 ∨ v = 15 ∨ v = 16 ∨ v = 17 ∨ v = 18 ∨ v = 19 by omega) with rfl | rfl | rfl | rfl | rfl | rfl | rfl | rfl | rfl | rfl | rfl | rfl | rfl | rfl | rfl | rfl | rfl | rfl | rfl | rfl
    · refine lv_tableIn (off := 96) (tgt := 140) hx hb dL_law_44 (by rw [hvi]; decide) (by rw [hvi]; decide) (by rw [hvi]; rfl) (by decide) ?_
      exact lawc_0 C n hn wm df yg q wd zs h dk u th kp fl fd hj (bad_eq hn hz) hB.1 hP hD hS hl hc1 hs1 (fun H locs ls th' kp' fl' fd' hP hD hS hl hok => next (n + 1) (wm) (df) (yg) (q) (va_up wd n (xs (3 * k + 1))) (va_up zs n (xs (3 * k + 2))) (h) (dk) u th' kp' fl' fd' H locs ls (IV_add hI hok) (ZU_add hu) hP hD hS hl) (fun H locs ls th' kp' fl' fd' hP hD hS hl => stay u th' kp' fl' fd' H locs ls hu hP hD hS hl)
    · refine lv_tableIn (off := 164) (tgt := 208) hx hb dL_law_44 (by rw [hvi]; decide) (by rw [hvi]; decide) (by rw [hvi]; rfl) (by decide) ?_
      exact lawc_1 C n hn wm df yg q wd zs h dk u th kp fl fd hj (fun h1 h0 => pook_of (hz 0 (by omega)) (hB.2 0 (by omega)) (lit_100 h1) hm7 (by omega)) hP hD hS hl hc1 hs1 (fun H locs ls th' kp' fl' fd' hP hD hS hl hok => next (n) (wm) (df) (yg) (q) (wd) (zs) (pmH n zs h (FP.i2d (xs (3 * k + 1)))) (dk) u th' kp' fl' fd' H locs ls ⟨hn, (pmH_HB hz hB hn (lit_100 hok) hm7 (by omega)), hz, hw, hq, hz1, hz2⟩ hu hP hD hS hl) (fun H locs ls th' kp' fl' fd' hP hD hS hl => stay u th' kp' fl' fd' H locs ls hu hP hD hS hl)
    · refine lv_tableIn (off := 241) (tgt := 285) hx hb dL_law_44 (by rw [hvi]; decide) (by rw [hvi]; decide) (by rw [hvi]; rfl) (by decide) ?_
      exact lawc_2 C n hn wm df yg q wd zs h dk u th kp fl fd hj hto1 hto2 hP hD hS hl hc1 hs1 (fun H locs ls th' kp' fl' fd' hP hD hS hl => next (n) (wm) (df) (yg) (q) (wd) (zs) (toH zs (n - 1) h) (dk) u th' kp' fl' fd' H locs ls ⟨hn, hto3, hz, hw, hq, hz1, hz2⟩ hu hP hD hS hl)
    · refine lv_tableIn (off := 282) (tgt := 326) hx hb dL_law_44 (by rw [hvi]; decide) (by rw [hvi]; decide) (by rw [hvi]; rfl) (by decide) ?_
      exact lawc_3 C n hn wm df yg q wd zs h dk u th kp fl fd hj hy1 hy2 hy3 hy4.nnr (quv_n64 hy4) hP hD hS hl hc1 hs1 (fun H locs ls th' kp' fl' fd' hP hD hS hl => next (n) (wm) (encO (elO (agH wd (drv wm) h n) n)) (yg + 1) (quv (agH wd (drv wm) h n) (elO (agH wd (drv wm) h n) n)) (wd) (zs) (agH wd (drv wm) h n) (dk) u th' kp' fl' fd' H locs ls ⟨hn, hy4, hz, hw, (quv_QB hy4), hz1, hz2⟩ hu hP hD hS hl)
    · refine lv_tableIn (off := 323) (tgt := 367) hx hb dL_law_44 (by rw [hvi]; decide) (by rw [hvi]; decide) (by rw [hvi]; rfl) (by decide) ?_
      exact lawc_4 C n hn wm df yg q wd zs h dk u th kp fl fd hj hB.nnr hrd hrm (fun h1 => dw_ok hB hq h1) hP hD hS hl hc1 hs1 (fun H locs ls th' kp' fl' fd' hP hD hS hl hok => next (n) (wm) (df) (yg) (drQ h n df q (xs (3 * k + 1))) (wd) (zs) (drH h n df q (xs (3 * k + 1))) (drK dk h n df q (xs (3 * k + 1))) u th' kp' fl' fd' H locs ls ⟨hn, ((dr_HB hn hB hq hok).1.mono (by omega)), hz, hw, (dr_HB hn hB hq hok).2, hz1, hz2⟩ hu hP hD hS hl) (fun H locs ls th' kp' fl' fd' hP hD hS hl => stay u th' kp' fl' fd' H locs ls hu hP hD hS hl)
    · refine lv_tableIn (off := 379) (tgt := 423) hx hb dL_law_44 (by rw [hvi]; decide) (by rw [hvi]; decide) (by rw [hvi]; rfl) (by decide) ?_
      exact lawc_5 C n hn wm df yg q wd zs h dk u th kp fl fd hj hP hD hS hl hc1 hs1 (fun H locs ls th' kp' fl' fd' hP hD hS hl hok => next (n) (wm) (df) (yg) (q) (wd) (zs) (hset h ((xs (3 * k + 1))).toNatClampNeg 0 0 0 0) (dk) u th' kp' fl' fd' H locs ls ⟨hn, (pour_HB hn hB hok), hz, hw, hq, hz1, hz2⟩ hu hP hD hS hl) (fun H locs ls th' kp' fl' fd' hP hD hS hl => stay u th' kp' fl' fd' H locs ls hu hP hD hS hl)
    · refine lv_tableIn (off := 456) (tgt := 500) hx hb dL_law_44 (by rw [hvi]; decide) (by rw [hvi]; decide) (by rw [hvi]; rfl) (by decide) ?_
      exact lawc_6 C n hn wm df yg q wd zs h dk u th kp fl fd hj hP hD hS hl hc1 hs1 (fun H locs ls th' kp' fl' fd' hP hD hS hl hok => next (n) ((xs (3 * k + 1))) (df) (yg) (q) (wd) (zs) (h) (dk) u th' kp' fl' fd' H locs ls ⟨hn, (hB.mono (by omega)), hz, (wb_of hok), hq, hz1, hz2⟩ hu hP hD hS hl) (fun H locs ls th' kp' fl' fd' hP hD hS hl => stay u th' kp' fl' fd' H locs ls hu hP hD hS hl)
    · refine lv_tableIn (off := 492) (tgt := 536) hx hb dL_law_44 (by rw [hvi]; decide) (by rw [hvi]; decide) (by rw [hvi]; rfl) (by decide) ?_
      exact lawc_7 C n hn wm df yg q wd zs h dk u th kp fl fd hj hP hD hS hl hc1 hs1 (fun H locs ls th' kp' fl' fd' hP hD hS hl => stay u th' kp' fl' fd' H locs ls hu hP hD hS hl)
    · refine lv_tableIn (off := 505) (tgt := 549) hx hb dL_law_44 (by rw [hvi]; decide) (by rw [hvi]; decide) (by rw [hvi]; rfl) (by decide) ?_
      exact lawc_8 C n hn wm df yg q wd zs h dk u th kp fl fd hj hP hD hS hl hc1 hs1 (fun H locs ls th' kp' fl' fd' hP hD hS hl => stay u th' kp' fl' fd' H locs ls hu hP hD hS hl)
    · refine lv_tableIn (off := 582) (tgt := 626) hx hb dL_law_44 (by rw [hvi]; decide) (by rw [hvi]; decide) (by rw [hvi]; rfl) (by decide) ?_
      exact lawc_9 C n hn wm df yg q wd zs h dk u th kp fl fd hj hP hD hS hl hc1 hs1 (fun H locs ls th' kp' fl' fd' hP hD hS hl => stay u th' kp' fl' fd' H locs ls hu hP hD hS hl)
    · refine lv_tableIn (off := 659) (tgt := 703) hx hb dL_law_44 (by rw [hvi]; decide) (by rw [hvi]; decide) (by rw [hvi]; rfl) (by decide) ?_
      exact lawc_10 C n hn wm df yg q wd zs h dk u th kp fl fd hj hP hD hS hl hc1 hs1 (fun H locs ls th' kp' fl' fd' hP hD hS hl => stay u th' kp' fl' fd' H locs ls hu hP hD hS hl)
    · refine lv_tableIn (off := 736) (tgt := 780) hx hb dL_law_44 (by rw [hvi]; decide) (by rw [hvi]; decide) (by rw [hvi]; rfl) (by decide) ?_
      exact lawc_11 C n hn wm df yg q wd zs h dk u th kp fl fd hj hP hD hS hl hc1 hs1 (fun H locs ls th' kp' fl' fd' hP hD hS hl => stay u th' kp' fl' fd' H locs ls hu hP hD hS hl)
    · refine lv_tableIn (off := 813) (tgt := 857) hx hb dL_law_44 (by rw [hvi]; decide) (by rw [hvi]; decide) (by rw [hvi]; rfl) (by decide) ?_
      exact lawc_12 C n hn wm df yg q wd zs h dk u th kp fl fd hj (tas_all hB hm7 (by omega)) hP hD hS hl hc1 hs1 (fun H locs ls th' kp' fl' fd' hP hD hS hl => stay u th' kp' fl' fd' H locs ls hu hP hD hS hl)
    · refine lv_tableIn (off := 890) (tgt := 934) hx hb dL_law_44 (by rw [hvi]; decide) (by rw [hvi]; decide) (by rw [hvi]; rfl) (by decide) ?_
      exact lawc_13 C n hn wm df yg q wd zs h dk u th kp fl fd hj hB.nnr hP hD hS hl hc1 hs1 (fun H locs ls th' kp' fl' fd' hP hD hS hl => stay u th' kp' fl' fd' H locs ls hu hP hD hS hl)
    · refine lv_tableIn (off := 903) (tgt := 947) hx hb dL_law_44 (by rw [hvi]; decide) (by rw [hvi]; decide) (by rw [hvi]; rfl) (by decide) ?_
      exact lawc_14 C n hn wm df yg q wd zs h dk u th kp fl fd hj hB.nnr hrd hrm hP hD hS hl hc1 hs1 (fun H locs ls th' kp' fl' fd' hP hD hS hl => stay u th' kp' fl' fd' H locs ls hu hP hD hS hl)
    · refine lv_tableIn (off := 916) (tgt := 960) hx hb dL_law_44 (by rw [hvi]; decide) (by rw [hvi]; decide) (by rw [hvi]; rfl) (by decide) ?_
      exact lawc_15 C n hn wm df yg q wd zs h dk u th kp fl fd hj hP hD hS hl hc1 hs1 (fun H locs ls th' kp' fl' fd' hP hD hS hl => stay u th' kp' fl' fd' H locs ls hu hP hD hS hl)
    · refine lv_tableIn (off := 972) (tgt := 1016) hx hb dL_law_44 (by rw [hvi]; decide) (by rw [hvi]; decide) (by rw [hvi]; rfl) (by decide) ?_
      exact lawc_16 C n hn wm df yg q wd zs h dk u th kp fl fd hj hP hD hS hl hc1 hs1 (fun H locs ls th' kp' fl' fd' hP hD hS hl => stay u th' kp' fl' fd' H locs ls hu hP hD hS hl)
    · refine lv_tableIn (off := 985) (tgt := 1029) hx hb dL_law_44 (by rw [hvi]; decide) (by rw [hvi]; decide) (by rw [hvi]; rfl) (by decide) ?_
      exact lawc_17 C n hn wm df yg q wd zs h dk u th kp fl fd hj hB.nnr (mn_ok (Or.inl rfl) hn hB).1 (mn_ok (Or.inl rfl) hn hB).2 hP hD hS hl hc1 hs1 (fun H locs ls th' kp' fl' fd' hP hD hS hl => stay u th' kp' fl' fd' H locs ls hu hP hD hS hl)
    · refine lv_tableIn (off := 1026) (tgt := 1070) hx hb dL_law_44 (by rw [hvi]; decide) (by rw [hvi]; decide) (by rw [hvi]; rfl) (by decide) ?_
      exact lawc_18 C n hn wm df yg q wd zs h dk u th kp fl fd hj hB.nnr (mn_ok (Or.inr rfl) hn hB).1 (mn_ok (Or.inr rfl) hn hB).2 hP hD hS hl hc1 hs1 (fun H locs ls th' kp' fl' fd' hP hD hS hl => stay u th' kp' fl' fd' H locs ls hu hP hD hS hl)
    · refine lv_tableIn (off := 1067) (tgt := 1111) hx hb dL_law_44 (by rw [hvi]; decide) (by rw [hvi]; decide) (by rw [hvi]; rfl) (by decide) ?_
      exact lawc_19 C n hn wm df yg q wd zs h dk u th kp fl fd hj hB.nnr hrd hrm (fb_ok hz hw hn hB hm7 hm8) hu hz1 hz2 (zer_st hn hB.1) hP hD hS hl hc1 hs1 (fun H locs ls u' th' kp' fl' fd' hP hD hS hl hu' => stay u' th' kp' fl' fd' H locs ls hu' hP hD hS hl)
