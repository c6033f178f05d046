/-! the law's checks, walked (laid by wip/p23/prog/y2.py) -/
/-- a ≤ b, a ≥ b, with no NaN -/
def clE (a b : UInt64) : Prop := FP.dcmp a b ≠ none ∧ FP.dcmp a b ≠ some .gt
def cgE (a b : UInt64) : Prop := FP.dcmp a b ≠ none ∧ FP.dcmp a b ≠ some .lt
theorem eq_ne {o : Option Ordering} (h : o = some .eq) : o ≠ none := by rw [h]; exact fun h => nomatch h
theorem i32_n1 : ¬ ((1 : Int32) = 0) := by decide
theorem i32_eqn {a : Int32} : ¬ ¬ a = a := fun h => h rfl
/-- what isFilled asks -/
def filF (n : Nat) (zs : Nat → Int32) (h : Nat → UInt64) (df : Int32) (q : UInt64) (w z : Int32) : Prop :=
  (¬ badR 1 100 w ∧ 0 < n ∧ suLok h n ∧ pook (zs 0) h (FP.i2d w)) ∧ cgE (pmR n zs h (FP.i2d w)) 0 ∧ clE (pmR n zs h (FP.i2d w)) (FP.i2d w) ∧
  (vf_n64 (FP.dadd (FP.i2d z) c6) ∧ clE (pmH n zs h (FP.i2d w) 0) (FP.dadd (FP.i2d z) c6)) ∧ suLok (pmH n zs h (FP.i2d w)) n ∧
  (vf_n64 (FP.dadd (suL h n) (pmR n zs h (FP.i2d w))) ∧ near (suL (pmH n zs h (FP.i2d w)) n) (FP.dadd (suL h n) (pmR n zs h (FP.i2d w)))) ∧
  (vf_n64 (FP.dadd (h 0) (pmR n zs h (FP.i2d w))) ∧ near (pmH n zs h (FP.i2d w) 0) (FP.dadd (h 0) (pmR n zs h (FP.i2d w)))) ∧
  (FP.dcmp (pmR n zs h (FP.i2d w)) (FP.i2d w) ≠ some .eq → near (pmH n zs h (FP.i2d w) 0) (FP.i2d z)) ∧
  NNr n (pmH n zs h (FP.i2d w)) ∧ rdok (pmH n zs h (FP.i2d w)) n q ∧ ¬ rdv (pmH n zs h (FP.i2d w)) n df q < 0
/-- what isMoved asks -/
def movF (n : Nat) (zs : Nat → Int32) (h : Nat → UInt64) : Prop :=
  (0 < n ∧ suLok h n ∧ suPok 16 h n ∧ mnok 8 h n ∧ mnok 24 h n ∧ (FP.dcmp (h 0) 0 ≠ none ∧ (FP.dcmp (h 0) 0 = some .gt → tasok (h (8 + 0)) (h (16 + 0)) (h (24 + 0)))) ∧ took zs (n - 1) h 0) ∧
  (suLok (toH zs (n - 1) h) n ∧ suPok 16 (toH zs (n - 1) h) n ∧ mnok 8 (toH zs (n - 1) h) n ∧ mnok 24 (toH zs (n - 1) h) n ∧ (FP.dcmp (toH zs (n - 1) h 0) 0 ≠ none ∧ (FP.dcmp (toH zs (n - 1) h 0) 0 = some .gt → tasok (toH zs (n - 1) h (8 + 0)) (toH zs (n - 1) h (16 + 0)) (toH zs (n - 1) h (24 + 0))))) ∧
  cgE (toS zs (n - 1) h 0) 0 ∧ near (suL (toH zs (n - 1) h) n) (suL h n) ∧ near (suP 16 (toH zs (n - 1) h) n) (suP 16 h n) ∧ near (mnv 8 (toH zs (n - 1) h) n) (mnv 8 h n) ∧ near (mnv 24 (toH zs (n - 1) h) n) (mnv 24 h n) ∧
  clE (toH zs (n - 1) h 0) (h 0) ∧ (vf_n64 (FP.dsub (h 0) (toH zs (n - 1) h 0)) ∧ vf_n64 (FP.dadd (toS zs (n - 1) h 0) c6) ∧ clE (FP.dsub (h 0) (toH zs (n - 1) h 0)) (FP.dadd (toS zs (n - 1) h 0) c6)) ∧
  FP.dcmp (tasv (toH zs (n - 1) h 0) (toH zs (n - 1) h (8 + 0)) (toH zs (n - 1) h (16 + 0)) (toH zs (n - 1) h (24 + 0))) (tasv (h 0) (h (8 + 0)) (h (16 + 0)) (h (24 + 0))) = some .eq ∧
  (FP.dcmp (toS zs (n - 1) h 0) 0 ≠ some .gt → FP.dcmp (toH zs (n - 1) h 0) (h 0) = some .eq)
/-- what isBottled asks -/
def botF (n : Nat) (h : Nat → UInt64) (df : Int32) (q : UInt64) (dk : Nat → Int32) (w : Int32) : Prop :=
  (¬ badR 1 1000 w ∧ suLok h n ∧ NNr n h ∧ rdok h n q ∧ dwok h n df q w) ∧ suLok (drH h n df q w) n ∧ NNr n (drH h n df q w) ∧ rdok (drH h n df q w) n (drQ h n df q w) ∧
  (drK dk h n df q w 0 + drK dk h n df q w 1) + drK dk h n df q w 2 = ((dk 0 + dk 1) + dk 2) + takv h n df q w ∧
  (vf_n64 (FP.dmul (FP.i2d (takv h n df q w)) 4591870180066957722) ∧ vf_n64 (FP.dadd (suL (drH h n df q w) n) (FP.dmul (FP.i2d (takv h n df q w)) 4591870180066957722)) ∧ near (FP.dadd (suL (drH h n df q w) n) (FP.dmul (FP.i2d (takv h n df q w)) 4591870180066957722)) (suL h n)) ∧
  ¬ (rdv h n df q - takv h n df q w) + 1 < rdv (drH h n df q w) n df (drQ h n df q w) ∧ ¬ rdv (drH h n df q w) n df (drQ h n df q w) < (rdv h n df q - takv h n df q w) - 1
/-- what isPoured asks -/
def pouF (n : Nat) (h : Nat → UInt64) (j : Nat) : Prop :=
  suLok h n ∧ FP.dcmp (h j) (h j) = some .eq ∧ suLok (hset h j 0 0 0 0) n ∧ (vf_n64 (FP.dadd (suL (hset h j 0 0 0 0) n) (h j)) ∧ near (FP.dadd (suL (hset h j 0 0 0 0) n) (h j)) (suL h n))
theorem d00 : FP.dcmp (0 : UInt64) 0 = some .eq := by decide +kernel
/-- the least and the greatest age of the first k barrels that hold something -/
def leastv (h : Nat → UInt64) : Nat → UInt64
  | 0 => 4651998512748167168
  | k + 1 => if FP.dcmp (h k) 0 = some .gt ∧ FP.dcmp (h (8 + k)) (leastv h k) = some .lt then h (8 + k) else leastv h k
def mostv (h : Nat → UInt64) : Nat → UInt64
  | 0 => 0
  | k + 1 => if FP.dcmp (h k) 0 = some .gt ∧ FP.dcmp (h (8 + k)) (mostv h k) = some .gt then h (8 + k) else mostv h k
/-- what isAsked asks -/
def askF (n : Nat) (wd zs : Nat → Int32) (wm : Int32) (h : Nat → UInt64) (df : Int32) (q : UInt64) : Prop :=
  (suLok h n ∧ mnok 8 h n ∧ NNr n h ∧ rdok h n q ∧ (∀ i, i < 60 → stok wd zs wm n (stI wd zs wm n i h)) ∧ zerI n wd ∧ zerI n zs ∧ (∀ k, zerH n (stI wd zs wm n k h))) ∧
  (∀ k, k < n → FP.dcmp (h k) 0 ≠ none ∧ FP.dcmp (h (8 + k)) (leastv h k) ≠ none ∧ FP.dcmp (h (8 + k)) (mostv h k) ≠ none) ∧
  (¬ fbv wd zs wm n h df q < -1 ∧ ¬ 60 < fbv wd zs wm n h df q ∧ (fbv wd zs wm n h df q = 0 ↔ 0 < rdv h n df q)) ∧ FP.dcmp (suL h n) (suL h n) = some .eq ∧ FP.dcmp (mnv 8 h n) (mnv 8 h n) = some .eq ∧ FP.dcmp (suL h n) 0 ≠ none ∧
  (FP.dcmp (suL h n) 0 = some .eq → FP.dcmp (mnv 8 h n) 0 = some .eq ∧ elO h n = none) ∧
  (FP.dcmp (suL h n) 0 ≠ some .eq → vf_n64 (FP.dsub (leastv h n) c6) ∧ FP.dcmp (mnv 8 h n) (FP.dsub (leastv h n) c6) = some .gt ∧ vf_n64 (FP.dadd (mostv h n) c6) ∧ FP.dcmp (mnv 8 h n) (FP.dadd (mostv h n) c6) = some .lt ∧ ∃ b, elO h n = some b ∧ b < n ∧ FP.dcmp (h (8 + b)) (mostv h n) = some .eq)
/-- what isAged asks -/
def ageF (n : Nat) (wd : Nat → Int32) (wm yg : Int32) (h : Nat → UInt64) : Prop :=
  let h' := agH wd (drv wm) h n
  (suLok h n ∧ NNr n h ∧ drok wm ∧ agok wd (drv wm) h n ∧ NNr n h' ∧ (∀ b, b < n → vf_n64 (FP.dmul 4598175219545276416 (h' b))) ∧ suLok h' n) ∧
  (vf_n64 (FP.dadd (suL h' n) (agS wd (drv wm) h n)) ∧ near (FP.dadd (suL h' n) (agS wd (drv wm) h n)) (suL h n)) ∧
  FP.dcmp (suL h n) 0 ≠ none ∧ FP.dcmp (agS wd (drv wm) h n) 0 ≠ none ∧
  (FP.dcmp (suL h n) 0 = some .eq → FP.dcmp (agS wd (drv wm) h n) 0 = some .eq) ∧
  (FP.dcmp (suL h n) 0 ≠ some .eq → FP.dcmp (agS wd (drv wm) h n) 0 = some .gt ∧ ∃ b, elO h' n = some b ∧ b < n ∧ vf_n64 (FP.dadd (elG h (elO h n)) c1) ∧ FP.dcmp (h' (8 + b)) (FP.dadd (elG h (elO h n)) c1) = some .eq) ∧
  (∀ i, i < n → clE (h' i) (h i) ∧ vf_n64 (FP.dmul 4606281698874543309 (h i)) ∧ cgE (h' i) (FP.dmul 4606281698874543309 (h i)) ∧ FP.dcmp (h i) 0 ≠ none ∧ (FP.dcmp (h i) 0 ≠ some .eq → FP.dcmp (h' i) (h i) = some .lt) ∧ clE (h' (24 + i)) 4634626229029306368 ∧ clE (h' (16 + i)) 4622945017495814144 ∧ (FP.dcmp (h i) 0 ≠ some .gt → FP.dcmp (h' (8 + i)) 0 = some .eq)) ∧
  mnok 8 h' n ∧ (vf_n64 (FP.dadd (FP.i2d (yg + 1)) c6) ∧ clE (mnv 8 h' n) (FP.dadd (FP.i2d (yg + 1)) c6)) ∧ rdok h' n (quv h' (elO h' n)) ∧
  (rdv h' n (encO (elO h' n)) (quv h' (elO h' n)) ≠ 0 → ∃ b, elO h' n = some b ∧ b < n ∧ cgE (h' (8 + b)) 4622945017495814144 ∧ cgE (h' (24 + b)) 4627730092099895296)
section KJ
variable {p : Program} {l : Launch} {e : Env} {R : Room} {s : State} {m : MethodId} {args : Array Value} {below : List Frame} {meth : Method} {c : Code} {H H0 : Heap} {locs : List Loc} {cells slots : Nat} {Q : State → Prop} {D : va_G} {A A0 : Nat → Prop} {pc : Nat} {ls : Array Slot} {rest st0 : List Value} {w1 w2 w3 : va_W} {mc ms : Nat} {aa : Array Value} {tc : List (ClassId × FieldType)}
theorem kJ_i {S : Type} {post : Int32 → S → Prop} {w2' : S → va_W} (hr : va_Run p l e R s m args below meth c H locs cells slots mc ms (F0 m pc ls st0) rest (va_Qi post (fun u t => va_P D vwCl (w2' u) t.heap ∧ va_K D vwCl tc t ∧ va_D (va_A w2 H.size) (w2' u)) (va_A w2 H.size) aa) (va_A w2 H.size)) (hP : va_P D vwCl (w1 ++ (w2 ++ w3)) H) (hD : va_D A0 (w1 ++ (w2 ++ w3))) (hS : va_S A0 H0 H locs) (hA : ∀ q, H0.size ≤ q → A0 q)
    (kk : ∀ (r : Int32) (u : S) (H1 : Heap) (locs1 : List Loc), post r u → va_P D vwCl (w1 ++ (w2' u ++ w3)) H1 → va_D A0 (w1 ++ (w2' u ++ w3)) → va_S A0 H0 H1 locs1 → W p l e R s m args below meth c H1 locs1 (cells + mc) (slots + ms) Q (F0 m (pc + 3) ls (.int r :: rest))) : W p l e R s m args below meth c H locs cells slots Q (F0 m pc ls st0) := by
  refine va_calli hr hS (fun q _ h => vj_mF hD hS hA q h) (vj_mF hD hS hA) (fun r u t H1 locs1 ht hvm hw hB hz hk hS1 => ?_)
  obtain ⟨hP1, hK1, hD1⟩ := hB
  rw [ht] at hP1
  obtain ⟨hP2, hD2⟩ := vj_mid hP hD hk (vj_mF hD hS hA) hP1 hD1
  exact kk r u H1 locs1 hw hP2 hD2 hS1
end KJ
theorem badI_j {n j : Nat} (hj : j < n) (hn : n ≤ 8) : ¬ badI n (nI j) := by
  rintro (h | h)
  · exact nI_pos (by omega) h
  · exact nI_ge hj (by omega) h
theorem hset_vals {h : Nat → UInt64} {j : Nat} : hset h j 0 0 0 0 j = 0 ∧ hset h j 0 0 0 0 (8 + j) = 0 ∧ hset h j 0 0 0 0 (16 + j) = 0 ∧ hset h j 0 0 0 0 (24 + j) = 0 := by
  unfold hset
  refine ⟨if_pos rfl, ?_, ?_, ?_⟩
  · rw [if_neg (by omega), if_pos rfl]
  · rw [if_neg (by omega), if_neg (by omega), if_pos rfl]
  · rw [if_neg (by omega), if_neg (by omega), if_neg (by omega), if_pos rfl]
theorem z5_t {a b c d : UInt64} (h : a = 0) : tasv a b c d = 0 := by
  unfold tasv
  rw [h, d00, if_neg (fun h => nomatch h)]
set_option maxHeartbeats 4000000 in
set_option maxRecDepth 100000 in
/-- isFilled -/
theorem metL_isFilled (l : Launch) (hst : l.stackTraces = false) (D : va_G) (sz : Nat) (x r t d : Nat) (yg : Int32) (la : Nat) (bs : Nat → Nat) (cA cI : ClassId) (n : Nat) (hn : n ≤ 8) (wm df : Int32) (q : UInt64) (wd zs : Nat → Int32) (h : Nat → UInt64) (w3 : va_W) (w z : Int32) (hF : filF n zs h df q w z) : Met l yL_isFilled wsL_isFilled { frames := 7, cells := 1, slots := 6, locals := 104 } (Pt D [(cA, .object "VinegarLoft$Barrel"), (cI, .int)] [.ref x, .int w, .int z] ([(x, EX r t d yg)] ++ (rowW r la bs cA (nI n) wm df q wd zs h ++ w3)) sz) (va_Qi (fun (r9 : Int32) (_ : Unit) => r9 = 1) (Bm D [(cA, .object "VinegarLoft$Barrel"), (cI, .int)] (va_A ([(x, EX r t d yg)] ++ (rowW r la bs cA (nI n) wm df q wd zs h ++ w3)) sz) ([(x, EX r t d yg)] ++ (rowW r la bs cA (nI n) wm df q wd zs (pmH n zs h (FP.i2d w)) ++ w3))) (va_A ([(x, EX r t d yg)] ++ (rowW r la bs cA (nI n) wm df q wd zs h ++ w3)) sz)) 1 6 (va_A ([(x, EX r t d yg)] ++ (rowW r la bs cA (nI n) wm df q wd zs h ++ w3)) sz) := by
  refine Met.ofW (cc := cL_isFilled) (maxL := 9) (ret := (some .boolean)) (by decide) rfl ?_
  intro p e s m args below meth c s₁ B hml hv
  obtain ⟨rfl, hsz, hP, hK, hD0, hX⟩ := hv
  have hx := B.exec
  have hb := B.bytes
  have hr := B.returns
  have hts := atoms_spec (ws := wsL_isFilled) B.pre
  have hown : s.vm.findClass RL = some m.cls := findClass_of_methodNamed B.named
  have hlocks := B.notSynchronized
  subst hsz
  have hD := hD0.self (sz := s.heap.size)
  generalize hAe : va_A ([(x, EX r t d yg)] ++ (rowW r la bs cA (nI n) wm df q wd zs h ++ w3)) s.heap.size = A at hD hX ⊢
  have hA : ∀ q : Nat, s.heap.size ≤ q → A q := fun q h => by rw [← hAe]; exact Or.inr h
  refine kW_H (fun H hH => ?_)
  have hP : va_P D vwCl ([(x, EX r t d yg)] ++ (rowW r la bs cA (nI n) wm df q wd zs h ++ w3)) H := by rw [hH]; exact hP
  have hS : va_S A s.heap H [] := by rw [hH]; exact va_S.rf
  have hl := lv_entry ([.ref x, .int w, .int z]) (n := 9) (Nat.le_of_ble_eq_true rfl)
  rw [lg_entry_eq]
  generalize (lg_sl ([.ref x, .int w, .int z]) ++ List.replicate (9 - (lg_sl ([.ref x, .int w, .int z])).length) Slot.unset).toArray = ls at hl ⊢
  have hl : lv_has ls 9 [(0, .ref x), (1, .int w), (2, .int z)] := hl
  obtain ⟨⟨f1, hn0, f2, f3⟩, f4, f5, ⟨f6, f7⟩, f8, ⟨f9, f10⟩, ⟨f11, f12⟩, f13, f14, f15, f16⟩ := hF
  refine lv_aload_n hx hb dL_isFilled_0 rfl (lv_at hl 0 rfl) ?_
  refine kr_d (W.runS (As := [.ref x]) (rest := []) ⟨hx, hb, hml, hown, hts⟩ (metL_litres l D x r t d yg la bs cA cI n hn wm df q wd zs h w3 f2) (va_cwS 1 hts gL_isFilled_L_litres rfl rfl rfl (by decide +kernel) ⟨Nat.le_of_ble_eq_true rfl, Nat.le_of_ble_eq_true rfl⟩) (prS (ws := [(x, EX r t d yg)] ++ (rowW r la bs cA (nI n) wm df q wd zs h ++ w3)) hP (hK.sub [0, 1] rfl)) rfl rfl hl.1 rfl (lv_room (Nat.le_of_ble_eq_true rfl)) dL_isFilled_1 ⟨Nat.le_of_ble_eq_true rfl, Nat.le_of_ble_eq_true rfl⟩) ?_
  refine lv_dstore_n (lv' := [(3, .double (suL h n)), (0, .ref x), (1, .int w), (2, .int z)]) hx hb dL_isFilled_4 rfl hl (by decide) rfl (fun ls hl => ?_)
  refine lv_aload_n hx hb dL_isFilled_5 rfl (lv_at hl 1 rfl) ?_
  refine lv_iconst (v := 0) hx hb dL_isFilled_6 (by decide) ?_
  -- [.int 0]
  refine kr_d (W.runV (As := [.int (nI 0)]) (rest := []) ⟨hx, hb, hml, hown, hts⟩ (metR_litresIn l D x r t d yg la bs cA cI n hn wm df q wd zs h w3 0 hn0 ) (cwV 1 hts gL_isFilled_X2_litresIn rfl rfl rfl (by decide +kernel) ⟨Nat.le_of_ble_eq_true rfl, Nat.le_of_ble_eq_true rfl⟩) (prV 2 0 RX2 TX2 4 rfl rfl (ws := [(x, EX r t d yg)] ++ (rowW r la bs cA (nI n) wm df q wd zs h ++ w3)) hP (hK.sub [0, 1] rfl)) rfl rfl hl.1 rfl (lv_room (Nat.le_of_ble_eq_true rfl)) dL_isFilled_7 ⟨Nat.le_of_ble_eq_true rfl, Nat.le_of_ble_eq_true rfl⟩) ?_
  refine lv_dstore (lv' := [(5, .double (h 0)), (3, .double (suL h n)), (0, .ref x), (1, .int w), (2, .int z)]) hx hb dL_isFilled_10 hl (by decide) rfl (fun ls hl => ?_)
  refine lv_aload_n hx hb dL_isFilled_12 rfl (lv_at hl 2 rfl) ?_
  refine lv_iload_n hx hb dL_isFilled_13 rfl (lv_at hl 3 rfl) ?_
  have hX9 : XP A s H := hX.kept hS.2.1
  have hA9 : ∀ q : Nat, H.size ≤ q → A q := fun q h9 => hA q (Nat.le_trans hS.1 h9)
  refine kq_d (w1 := []) (w2 := [(x, EX r t d yg)] ++ (rowW r la bs cA (nI n) wm df q wd zs h ++ w3)) (w3 := []) (vx_runV (As := [.int w]) (rest := []) ⟨hx, hb, hml, hown, hts⟩ (metX2_fill l hst D H.size x r t d yg la bs cA cI n hn wm df q wd zs h w3 w (fun _ _ => f3)) (cwV 1 hts gL_isFilled_X2_fill rfl rfl rfl (by decide +kernel) ⟨Nat.le_of_ble_eq_true rfl, Nat.le_of_ble_eq_true rfl⟩) (ptV 2 0 RX2 TX2 4 rfl rfl hP (hK.sub [0, 1] rfl) hD hX9 hA9) rfl rfl hl.1 rfl (lv_room (Nat.le_of_ble_eq_true rfl)) dL_isFilled_14 ⟨Nat.le_of_ble_eq_true rfl, Nat.le_of_ble_eq_true rfl⟩) (by rw [List.nil_append, List.append_nil]; exact hP) (by rw [List.nil_append, List.append_nil]; exact hD) hS hA (fun E ce q9 H locs hB hP hD hS hce hcv hcl => ((fun h9 => f1 h9.2) hB).elim) (fun H locs hok hP hD hS => ?_)
  rw [List.nil_append, List.append_nil] at hP hD
  have hP : va_P D vwCl ([(x, EX r t d yg)] ++ (rowW r la bs cA (nI n) wm df q wd zs (pmH n zs h (FP.i2d w)) ++ w3)) H := hP
  have hD : va_D A ([(x, EX r t d yg)] ++ (rowW r la bs cA (nI n) wm df q wd zs (pmH n zs h (FP.i2d w)) ++ w3)) := hD
  refine lv_dstore (lv' := [(7, .double (pmR n zs h (FP.i2d w))), (5, .double (h 0)), (3, .double (suL h n)), (0, .ref x), (1, .int w), (2, .int z)]) hx hb dL_isFilled_17 hl (by decide) rfl (fun ls hl => ?_)
  refine lv_dload hx hb dL_isFilled_19 (lv_at hl 0 rfl) ?_
  refine kd_0 hx hb dL_isFilled_21 ?_
  refine kd_lt (tgt := 111) hx hb dL_isFilled_22 dL_isFilled_23 (by decide) f4.1 (fun c22 => (f4.2 c22).elim) (fun c22 => ?_)
  refine lv_dload hx hb dL_isFilled_26 (lv_at hl 0 rfl) ?_
  refine lv_iload_n hx hb dL_isFilled_28 rfl (lv_at hl 4 rfl) ?_
  refine lv_i2d hx hb dL_isFilled_29 ?_
  refine kd_gt (tgt := 111) hx hb dL_isFilled_30 dL_isFilled_31 (by decide) f5.1 (fun c30 => (f5.2 c30).elim) (fun c30 => ?_)
  refine lv_aload_n hx hb dL_isFilled_34 rfl (lv_at hl 3 rfl) ?_
  refine lv_iconst (v := 0) hx hb dL_isFilled_35 (by decide) ?_
  -- [.int 0]
  refine kr_d (W.runV (As := [.int (nI 0)]) (rest := []) ⟨hx, hb, hml, hown, hts⟩ (metR_litresIn l D x r t d yg la bs cA cI n hn wm df q wd zs (pmH n zs h (FP.i2d w)) w3 0 hn0 ) (cwV 1 hts gL_isFilled_X2_litresIn rfl rfl rfl (by decide +kernel) ⟨Nat.le_of_ble_eq_true rfl, Nat.le_of_ble_eq_true rfl⟩) (prV 2 0 RX2 TX2 4 rfl rfl (ws := [(x, EX r t d yg)] ++ (rowW r la bs cA (nI n) wm df q wd zs (pmH n zs h (FP.i2d w)) ++ w3)) hP (hK.sub [0, 1] rfl)) rfl rfl hl.1 rfl (lv_room (Nat.le_of_ble_eq_true rfl)) dL_isFilled_36 ⟨Nat.le_of_ble_eq_true rfl, Nat.le_of_ble_eq_true rfl⟩) ?_
  refine lv_iload_n hx hb dL_isFilled_39 rfl (lv_at hl 5 rfl) ?_
  refine lv_i2d hx hb dL_isFilled_40 ?_
  refine lv_ldc2d hx hb hown (hts (.constantDouble RL 8 4517329193108106637) (by decide +kernel)) dL_isFilled_41 ?_
  refine lv_dadd hx hb dL_isFilled_44 f6 ?_
  refine kd_gt (tgt := 111) hx hb dL_isFilled_45 dL_isFilled_46 (by decide) f7.1 (fun c45 => (f7.2 c45).elim) (fun c45 => ?_)
  refine lv_aload_n hx hb dL_isFilled_49 rfl (lv_at hl 3 rfl) ?_
  refine kr_d (W.runS (As := [.ref x]) (rest := []) ⟨hx, hb, hml, hown, hts⟩ (metL_litres l D x r t d yg la bs cA cI n hn wm df q wd zs (pmH n zs h (FP.i2d w)) w3 f8) (va_cwS 1 hts gL_isFilled_L_litres rfl rfl rfl (by decide +kernel) ⟨Nat.le_of_ble_eq_true rfl, Nat.le_of_ble_eq_true rfl⟩) (prS (ws := [(x, EX r t d yg)] ++ (rowW r la bs cA (nI n) wm df q wd zs (pmH n zs h (FP.i2d w)) ++ w3)) hP (hK.sub [0, 1] rfl)) rfl rfl hl.1 rfl (lv_room (Nat.le_of_ble_eq_true rfl)) dL_isFilled_50 ⟨Nat.le_of_ble_eq_true rfl, Nat.le_of_ble_eq_true rfl⟩) ?_
  refine lv_dload_n hx hb dL_isFilled_53 rfl (lv_at hl 2 rfl) ?_
  refine lv_dload hx hb dL_isFilled_54 (lv_at hl 0 rfl) ?_
  refine lv_dadd hx hb dL_isFilled_56 f9 ?_
  refine kr_i (W.runS (As := [.double (suL (pmH n zs h (FP.i2d w)) n), .double (FP.dadd (suL h n) (pmR n zs h (FP.i2d w)))]) (rest := []) ⟨hx, hb, hml, hown, hts⟩ (metL_isNear l D (suL (pmH n zs h (FP.i2d w)) n) (FP.dadd (suL h n) (pmR n zs h (FP.i2d w))) f10) (va_cwS 2 hts gL_isFilled_L_isNear rfl rfl rfl (by decide +kernel) ⟨Nat.le_of_ble_eq_true rfl, Nat.le_of_ble_eq_true rfl⟩) (prS (ws := []) (tys := []) (fun k q h => by simp at h) (hK.sub [] rfl)) rfl rfl hl.1 rfl (lv_room (Nat.le_of_ble_eq_true rfl)) dL_isFilled_57 ⟨Nat.le_of_ble_eq_true rfl, Nat.le_of_ble_eq_true rfl⟩) ?_
  refine lv_if_eq (tgt := 111) hx hb dL_isFilled_60 (by decide) (fun c60 => (i32_n1 c60).elim) (fun c60 => ?_)
  refine lv_aload_n hx hb dL_isFilled_63 rfl (lv_at hl 3 rfl) ?_
  refine lv_iconst (v := 0) hx hb dL_isFilled_64 (by decide) ?_
  -- [.int 0]
  refine kr_d (W.runV (As := [.int (nI 0)]) (rest := []) ⟨hx, hb, hml, hown, hts⟩ (metR_litresIn l D x r t d yg la bs cA cI n hn wm df q wd zs (pmH n zs h (FP.i2d w)) w3 0 hn0 ) (cwV 1 hts gL_isFilled_X2_litresIn rfl rfl rfl (by decide +kernel) ⟨Nat.le_of_ble_eq_true rfl, Nat.le_of_ble_eq_true rfl⟩) (prV 2 0 RX2 TX2 4 rfl rfl (ws := [(x, EX r t d yg)] ++ (rowW r la bs cA (nI n) wm df q wd zs (pmH n zs h (FP.i2d w)) ++ w3)) hP (hK.sub [0, 1] rfl)) rfl rfl hl.1 rfl (lv_room (Nat.le_of_ble_eq_true rfl)) dL_isFilled_65 ⟨Nat.le_of_ble_eq_true rfl, Nat.le_of_ble_eq_true rfl⟩) ?_
  refine lv_dload hx hb dL_isFilled_68 (lv_at hl 1 rfl) ?_
  refine lv_dload hx hb dL_isFilled_70 (lv_at hl 0 rfl) ?_
  refine lv_dadd hx hb dL_isFilled_72 f11 ?_
  refine kr_i (W.runS (As := [.double ((pmH n zs h (FP.i2d w)) 0), .double (FP.dadd (h 0) (pmR n zs h (FP.i2d w)))]) (rest := []) ⟨hx, hb, hml, hown, hts⟩ (metL_isNear l D ((pmH n zs h (FP.i2d w)) 0) (FP.dadd (h 0) (pmR n zs h (FP.i2d w))) f12) (va_cwS 2 hts gL_isFilled_L_isNear rfl rfl rfl (by decide +kernel) ⟨Nat.le_of_ble_eq_true rfl, Nat.le_of_ble_eq_true rfl⟩) (prS (ws := []) (tys := []) (fun k q h => by simp at h) (hK.sub [] rfl)) rfl rfl hl.1 rfl (lv_room (Nat.le_of_ble_eq_true rfl)) dL_isFilled_73 ⟨Nat.le_of_ble_eq_true rfl, Nat.le_of_ble_eq_true rfl⟩) ?_
  refine lv_if_eq (tgt := 111) hx hb dL_isFilled_76 (by decide) (fun c76 => (i32_n1 c76).elim) (fun c76 => ?_)
  refine lv_dload hx hb dL_isFilled_79 (lv_at hl 0 rfl) ?_
  refine lv_iload_n hx hb dL_isFilled_81 rfl (lv_at hl 4 rfl) ?_
  refine lv_i2d hx hb dL_isFilled_82 ?_
  refine kd_zeq (tgt := 100) hx hb dL_isFilled_83 dL_isFilled_84 (by decide) f5.1 (fun c83 => ?_) (fun c83 => ?_)
  · refine lv_aload_n hx hb dL_isFilled_100 rfl (lv_at hl 3 rfl) ?_
    refine kr_i (W.runV (As := []) (rest := []) ⟨hx, hb, hml, hown, hts⟩ (metX2_drawable l D x r t d yg la bs cA cI n hn wm df q wd zs (pmH n zs h (FP.i2d w)) w3 f14 f15) (cwV 0 hts gL_isFilled_X2_drawable rfl rfl rfl (by decide +kernel) ⟨Nat.le_of_ble_eq_true rfl, Nat.le_of_ble_eq_true rfl⟩) (prV 2 0 RX2 TX2 4 rfl rfl (ws := [(x, EX r t d yg)] ++ (rowW r la bs cA (nI n) wm df q wd zs (pmH n zs h (FP.i2d w)) ++ w3)) hP (hK.sub [0, 1] rfl)) rfl rfl hl.1 rfl (lv_room (Nat.le_of_ble_eq_true rfl)) dL_isFilled_101 ⟨Nat.le_of_ble_eq_true rfl, Nat.le_of_ble_eq_true rfl⟩) ?_
    refine lv_if_lt (tgt := 111) hx hb dL_isFilled_104 (by decide) (fun c104 => (f16 c104).elim) (fun c104 => ?_)
    refine lv_iconst (v := 1) hx hb dL_isFilled_107 (by decide) ?_
    refine lv_goto (tgt := 112) hx hb dL_isFilled_108 (by decide) ?_
    have hP : va_P D vwCl ([(x, EX r t d yg)] ++ (rowW r la bs cA (nI n) wm df q wd zs (pmH n zs h (FP.i2d w)) ++ w3)) H := hP
    have hD : va_D A ([(x, EX r t d yg)] ++ (rowW r la bs cA (nI n) wm df q wd zs (pmH n zs h (FP.i2d w)) ++ w3)) := hD
    refine W.widen (k := 1) (n := 6) (Nat.le_of_ble_eq_true rfl) (Nat.le_of_ble_eq_true rfl) ?_
    exact W.zret hx hb hr (by first | rfl | decide) (fun t9 ht9 hW => ⟨⟨_, (), rfl, rfl, by rw [ht9]; exact hP, va_K.moved hW.alike hK, hD⟩, hS.F ht9⟩) hS.2.2 dL_isFilled_112
  · refine lv_aload_n hx hb dL_isFilled_87 rfl (lv_at hl 3 rfl) ?_
    refine lv_iconst (v := 0) hx hb dL_isFilled_88 (by decide) ?_
    -- [.int 0]
    refine kr_d (W.runV (As := [.int (nI 0)]) (rest := []) ⟨hx, hb, hml, hown, hts⟩ (metR_litresIn l D x r t d yg la bs cA cI n hn wm df q wd zs (pmH n zs h (FP.i2d w)) w3 0 hn0 ) (cwV 1 hts gL_isFilled_X2_litresIn rfl rfl rfl (by decide +kernel) ⟨Nat.le_of_ble_eq_true rfl, Nat.le_of_ble_eq_true rfl⟩) (prV 2 0 RX2 TX2 4 rfl rfl (ws := [(x, EX r t d yg)] ++ (rowW r la bs cA (nI n) wm df q wd zs (pmH n zs h (FP.i2d w)) ++ w3)) hP (hK.sub [0, 1] rfl)) rfl rfl hl.1 rfl (lv_room (Nat.le_of_ble_eq_true rfl)) dL_isFilled_89 ⟨Nat.le_of_ble_eq_true rfl, Nat.le_of_ble_eq_true rfl⟩) ?_
    refine lv_iload_n hx hb dL_isFilled_92 rfl (lv_at hl 5 rfl) ?_
    refine lv_i2d hx hb dL_isFilled_93 ?_
    refine kr_i (W.runS (As := [.double ((pmH n zs h (FP.i2d w)) 0), .double (FP.i2d z)]) (rest := []) ⟨hx, hb, hml, hown, hts⟩ (metL_isNear l D ((pmH n zs h (FP.i2d w)) 0) (FP.i2d z) (f13 c83)) (va_cwS 2 hts gL_isFilled_L_isNear rfl rfl rfl (by decide +kernel) ⟨Nat.le_of_ble_eq_true rfl, Nat.le_of_ble_eq_true rfl⟩) (prS (ws := []) (tys := []) (fun k q h => by simp at h) (hK.sub [] rfl)) rfl rfl hl.1 rfl (lv_room (Nat.le_of_ble_eq_true rfl)) dL_isFilled_94 ⟨Nat.le_of_ble_eq_true rfl, Nat.le_of_ble_eq_true rfl⟩) ?_
    refine lv_if_eq (tgt := 111) hx hb dL_isFilled_97 (by decide) (fun c97 => (i32_n1 c97).elim) (fun c97 => ?_)
    refine lv_aload_n hx hb dL_isFilled_100 rfl (lv_at hl 3 rfl) ?_
    refine kr_i (W.runV (As := []) (rest := []) ⟨hx, hb, hml, hown, hts⟩ (metX2_drawable l D x r t d yg la bs cA cI n hn wm df q wd zs (pmH n zs h (FP.i2d w)) w3 f14 f15) (cwV 0 hts gL_isFilled_X2_drawable rfl rfl rfl (by decide +kernel) ⟨Nat.le_of_ble_eq_true rfl, Nat.le_of_ble_eq_true rfl⟩) (prV 2 0 RX2 TX2 4 rfl rfl (ws := [(x, EX r t d yg)] ++ (rowW r la bs cA (nI n) wm df q wd zs (pmH n zs h (FP.i2d w)) ++ w3)) hP (hK.sub [0, 1] rfl)) rfl rfl hl.1 rfl (lv_room (Nat.le_of_ble_eq_true rfl)) dL_isFilled_101 ⟨Nat.le_of_ble_eq_true rfl, Nat.le_of_ble_eq_true rfl⟩) ?_
    refine lv_if_lt (tgt := 111) hx hb dL_isFilled_104 (by decide) (fun c104 => (f16 c104).elim) (fun c104 => ?_)
    refine lv_iconst (v := 1) hx hb dL_isFilled_107 (by decide) ?_
    refine lv_goto (tgt := 112) hx hb dL_isFilled_108 (by decide) ?_
    have hP : va_P D vwCl ([(x, EX r t d yg)] ++ (rowW r la bs cA (nI n) wm df q wd zs (pmH n zs h (FP.i2d w)) ++ w3)) H := hP
    have hD : va_D A ([(x, EX r t d yg)] ++ (rowW r la bs cA (nI n) wm df q wd zs (pmH n zs h (FP.i2d w)) ++ w3)) := hD
    refine W.widen (k := 1) (n := 6) (Nat.le_of_ble_eq_true rfl) (Nat.le_of_ble_eq_true rfl) ?_
    exact W.zret hx hb hr (by first | rfl | decide) (fun t9 ht9 hW => ⟨⟨_, (), rfl, rfl, by rw [ht9]; exact hP, va_K.moved hW.alike hK, hD⟩, hS.F ht9⟩) hS.2.2 dL_isFilled_112

set_option maxHeartbeats 4000000 in
set_option maxRecDepth 100000 in
/-- isMoved -/
theorem metL_isMoved (l : Launch) (D : va_G) (sz : Nat) (x r t d : Nat) (yg : Int32) (la : Nat) (bs : Nat → Nat) (cA cI : ClassId) (n : Nat) (hn : n ≤ 8) (wm df : Int32) (q : UInt64) (wd zs : Nat → Int32) (h : Nat → UInt64) (w3 : va_W) (hF : movF n zs h) : Met l yL_isMoved wsL_isMoved { frames := 5, cells := 0, slots := 0, locals := 127 } (Pm D [(cA, .object "VinegarLoft$Barrel"), (cI, .int)] [.ref x] ([(x, EX r t d yg)] ++ (rowW r la bs cA (nI n) wm df q wd zs h ++ w3)) sz) (va_Qi (fun (r9 : Int32) (_ : Unit) => r9 = 1) (Bm D [(cA, .object "VinegarLoft$Barrel"), (cI, .int)] (va_A ([(x, EX r t d yg)] ++ (rowW r la bs cA (nI n) wm df q wd zs h ++ w3)) sz) ([(x, EX r t d yg)] ++ (rowW r la bs cA (nI n) wm df q wd zs (toH zs (n - 1) h) ++ w3))) (va_A ([(x, EX r t d yg)] ++ (rowW r la bs cA (nI n) wm df q wd zs h ++ w3)) sz)) 0 0 (va_A ([(x, EX r t d yg)] ++ (rowW r la bs cA (nI n) wm df q wd zs h ++ w3)) sz) := by
  refine Met.ofW (cc := cL_isMoved) (maxL := 16) (ret := (some .boolean)) (by decide) rfl ?_
  intro p e s m args below meth c s₁ B hml hv
  obtain ⟨rfl, hsz, hP, hK, hD0⟩ := hv
  have hx := B.exec
  have hb := B.bytes
  have hr := B.returns
  have hts := atoms_spec (ws := wsL_isMoved) B.pre
  have hown : s.vm.findClass RL = some m.cls := findClass_of_methodNamed B.named
  have hlocks := B.notSynchronized
  subst hsz
  have hD := hD0.self (sz := s.heap.size)
  generalize hAe : va_A ([(x, EX r t d yg)] ++ (rowW r la bs cA (nI n) wm df q wd zs h ++ w3)) s.heap.size = A at hD ⊢
  have hA : ∀ q : Nat, s.heap.size ≤ q → A q := fun q h => by rw [← hAe]; exact Or.inr h
  refine kW_H (fun H hH => ?_)
  have hP : va_P D vwCl ([(x, EX r t d yg)] ++ (rowW r la bs cA (nI n) wm df q wd zs h ++ w3)) H := by rw [hH]; exact hP
  have hS : va_S A s.heap H [] := by rw [hH]; exact va_S.rf
  have hl := lv_entry ([.ref x]) (n := 16) (Nat.le_of_ble_eq_true rfl)
  rw [lg_entry_eq]
  generalize (lg_sl ([.ref x]) ++ List.replicate (16 - (lg_sl ([.ref x])).length) Slot.unset).toArray = ls at hl ⊢
  have hl : lv_has ls 16 [(0, .ref x)] := hl
  obtain ⟨⟨hn0, a1, a2, a3, a4, a5, a6⟩, ⟨b1, b2, b3, b4, b5⟩, f1, f2, f3, f4, f5, f6, ⟨f7, f8, f9⟩, f10, f11⟩ := hF
  refine lv_aload_n hx hb dL_isMoved_0 rfl (lv_at hl 0 rfl) ?_
  refine kr_d (W.runS (As := [.ref x]) (rest := []) ⟨hx, hb, hml, hown, hts⟩ (metL_litres l D x r t d yg la bs cA cI n hn wm df q wd zs h w3 a1) (va_cwS 1 hts gL_isMoved_L_litres rfl rfl rfl (by decide +kernel) ⟨Nat.le_of_ble_eq_true rfl, Nat.le_of_ble_eq_true rfl⟩) (prS (ws := [(x, EX r t d yg)] ++ (rowW r la bs cA (nI n) wm df q wd zs h ++ w3)) hP (hK.sub [0, 1] rfl)) rfl rfl hl.1 rfl (lv_room (Nat.le_of_ble_eq_true rfl)) dL_isMoved_1 ⟨Nat.le_of_ble_eq_true rfl, Nat.le_of_ble_eq_true rfl⟩) ?_
  refine lv_dstore_n (lv' := [(1, .double (suL h n)), (0, .ref x)]) hx hb dL_isMoved_4 rfl hl (by decide) rfl (fun ls hl => ?_)
  refine lv_aload_n hx hb dL_isMoved_5 rfl (lv_at hl 1 rfl) ?_
  refine kr_d (W.runS (As := [.ref x]) (rest := []) ⟨hx, hb, hml, hown, hts⟩ (metL_acid l D x r t d yg la bs cA cI n hn wm df q wd zs h w3 a2) (va_cwS 1 hts gL_isMoved_L_acid rfl rfl rfl (by decide +kernel) ⟨Nat.le_of_ble_eq_true rfl, Nat.le_of_ble_eq_true rfl⟩) (prS (ws := [(x, EX r t d yg)] ++ (rowW r la bs cA (nI n) wm df q wd zs h ++ w3)) hP (hK.sub [0, 1] rfl)) rfl rfl hl.1 rfl (lv_room (Nat.le_of_ble_eq_true rfl)) dL_isMoved_6 ⟨Nat.le_of_ble_eq_true rfl, Nat.le_of_ble_eq_true rfl⟩) ?_
  refine lv_dstore_n (lv' := [(3, .double (suP 16 h n)), (1, .double (suL h n)), (0, .ref x)]) hx hb dL_isMoved_9 rfl hl (by decide) rfl (fun ls hl => ?_)
  refine lv_aload_n hx hb dL_isMoved_10 rfl (lv_at hl 2 rfl) ?_
  refine kr_d (W.runV (As := []) (rest := []) ⟨hx, hb, hml, hown, hts⟩ (metX2_meanAge l D x r t d yg la bs cA cI n hn wm df q wd zs h w3 a3) (cwV 0 hts gL_isMoved_X2_meanAge rfl rfl rfl (by decide +kernel) ⟨Nat.le_of_ble_eq_true rfl, Nat.le_of_ble_eq_true rfl⟩) (prV 2 0 RX2 TX2 4 rfl rfl (ws := [(x, EX r t d yg)] ++ (rowW r la bs cA (nI n) wm df q wd zs h ++ w3)) hP (hK.sub [0, 1] rfl)) rfl rfl hl.1 rfl (lv_room (Nat.le_of_ble_eq_true rfl)) dL_isMoved_11 ⟨Nat.le_of_ble_eq_true rfl, Nat.le_of_ble_eq_true rfl⟩) ?_
  refine lv_dstore (lv' := [(5, .double (mnv 8 h n)), (3, .double (suP 16 h n)), (1, .double (suL h n)), (0, .ref x)]) hx hb dL_isMoved_14 hl (by decide) rfl (fun ls hl => ?_)
  refine lv_aload_n hx hb dL_isMoved_16 rfl (lv_at hl 3 rfl) ?_
  refine kr_d (W.runV (As := []) (rest := []) ⟨hx, hb, hml, hown, hts⟩ (metX2_meanSugar l D x r t d yg la bs cA cI n hn wm df q wd zs h w3 a4) (cwV 0 hts gL_isMoved_X2_meanSugar rfl rfl rfl (by decide +kernel) ⟨Nat.le_of_ble_eq_true rfl, Nat.le_of_ble_eq_true rfl⟩) (prV 2 0 RX2 TX2 4 rfl rfl (ws := [(x, EX r t d yg)] ++ (rowW r la bs cA (nI n) wm df q wd zs h ++ w3)) hP (hK.sub [0, 1] rfl)) rfl rfl hl.1 rfl (lv_room (Nat.le_of_ble_eq_true rfl)) dL_isMoved_17 ⟨Nat.le_of_ble_eq_true rfl, Nat.le_of_ble_eq_true rfl⟩) ?_
  refine lv_dstore (lv' := [(7, .double (mnv 24 h n)), (5, .double (mnv 8 h n)), (3, .double (suP 16 h n)), (1, .double (suL h n)), (0, .ref x)]) hx hb dL_isMoved_20 hl (by decide) rfl (fun ls hl => ?_)
  refine lv_aload_n hx hb dL_isMoved_22 rfl (lv_at hl 4 rfl) ?_
  refine lv_iconst (v := 0) hx hb dL_isMoved_23 (by decide) ?_
  -- [.int 0]
  refine kr_d (W.runV (As := [.int (nI 0)]) (rest := []) ⟨hx, hb, hml, hown, hts⟩ (metR_litresIn l D x r t d yg la bs cA cI n hn wm df q wd zs h w3 0 hn0 ) (cwV 1 hts gL_isMoved_X2_litresIn rfl rfl rfl (by decide +kernel) ⟨Nat.le_of_ble_eq_true rfl, Nat.le_of_ble_eq_true rfl⟩) (prV 2 0 RX2 TX2 4 rfl rfl (ws := [(x, EX r t d yg)] ++ (rowW r la bs cA (nI n) wm df q wd zs h ++ w3)) hP (hK.sub [0, 1] rfl)) rfl rfl hl.1 rfl (lv_room (Nat.le_of_ble_eq_true rfl)) dL_isMoved_24 ⟨Nat.le_of_ble_eq_true rfl, Nat.le_of_ble_eq_true rfl⟩) ?_
  refine lv_dstore (lv' := [(9, .double (h 0)), (7, .double (mnv 24 h n)), (5, .double (mnv 8 h n)), (3, .double (suP 16 h n)), (1, .double (suL h n)), (0, .ref x)]) hx hb dL_isMoved_27 hl (by decide) rfl (fun ls hl => ?_)
  refine lv_aload_n hx hb dL_isMoved_29 rfl (lv_at hl 5 rfl) ?_
  refine lv_iconst (v := 0) hx hb dL_isMoved_30 (by decide) ?_
  -- [.int 0]
  refine kr_d (W.runV (As := [.int (nI 0)]) (rest := []) ⟨hx, hb, hml, hown, hts⟩ (metR_tasteOf l D x r t d yg la bs cA cI n hn wm df q wd zs h w3 0 hn0 a5) (cwV 1 hts gL_isMoved_X2_tasteOf rfl rfl rfl (by decide +kernel) ⟨Nat.le_of_ble_eq_true rfl, Nat.le_of_ble_eq_true rfl⟩) (prV 2 0 RX2 TX2 4 rfl rfl (ws := [(x, EX r t d yg)] ++ (rowW r la bs cA (nI n) wm df q wd zs h ++ w3)) hP (hK.sub [0, 1] rfl)) rfl rfl hl.1 rfl (lv_room (Nat.le_of_ble_eq_true rfl)) dL_isMoved_31 ⟨Nat.le_of_ble_eq_true rfl, Nat.le_of_ble_eq_true rfl⟩) ?_
  refine lv_dstore (lv' := [(11, .double (tasv (h 0) (h (8 + 0)) (h (16 + 0)) (h (24 + 0)))), (9, .double (h 0)), (7, .double (mnv 24 h n)), (5, .double (mnv 8 h n)), (3, .double (suP 16 h n)), (1, .double (suL h n)), (0, .ref x)]) hx hb dL_isMoved_34 hl (by decide) rfl (fun ls hl => ?_)
  refine lv_aload_n hx hb dL_isMoved_36 rfl (lv_at hl 6 rfl) ?_
  refine kc_d (w1 := []) (w2 := [(x, EX r t d yg)] ++ (rowW r la bs cA (nI n) wm df q wd zs h ++ w3)) (w3 := []) (va_runV (As := []) (rest := []) ⟨hx, hb, hml, hown, hts⟩ (metX2_topUp l D H.size x r t d yg la bs cA cI n hn wm df q wd zs h w3 a6) (cwV 0 hts gL_isMoved_X2_topUp rfl rfl rfl (by decide +kernel) ⟨Nat.le_of_ble_eq_true rfl, Nat.le_of_ble_eq_true rfl⟩) (pmV 2 0 RX2 TX2 4 rfl rfl hP (hK.sub [0, 1] rfl) hD) rfl rfl hl.1 rfl (lv_room (Nat.le_of_ble_eq_true rfl)) dL_isMoved_37 ⟨Nat.le_of_ble_eq_true rfl, Nat.le_of_ble_eq_true rfl⟩) (by rw [List.nil_append, List.append_nil]; exact hP) (by rw [List.nil_append, List.append_nil]; exact hD) hS hA (fun H locs hP hD hS => ?_)
  rw [List.nil_append, List.append_nil] at hP hD
  have hP : va_P D vwCl ([(x, EX r t d yg)] ++ (rowW r la bs cA (nI n) wm df q wd zs (toH zs (n - 1) h) ++ w3)) H := hP
  have hD : va_D A ([(x, EX r t d yg)] ++ (rowW r la bs cA (nI n) wm df q wd zs (toH zs (n - 1) h) ++ w3)) := hD
  refine lv_dstore (lv' := [(13, .double (toS zs (n - 1) h 0)), (11, .double (tasv (h 0) (h (8 + 0)) (h (16 + 0)) (h (24 + 0)))), (9, .double (h 0)), (7, .double (mnv 24 h n)), (5, .double (mnv 8 h n)), (3, .double (suP 16 h n)), (1, .double (suL h n)), (0, .ref x)]) hx hb dL_isMoved_40 hl (by decide) rfl (fun ls hl => ?_)
  refine lv_dload hx hb dL_isMoved_42 (lv_at hl 0 rfl) ?_
  refine kd_0 hx hb dL_isMoved_44 ?_
  refine kd_lt (tgt := 139) hx hb dL_isMoved_45 dL_isMoved_46 (by decide) f1.1 (fun c45 => (f1.2 c45).elim) (fun c45 => ?_)
  refine lv_aload_n hx hb dL_isMoved_49 rfl (lv_at hl 7 rfl) ?_
  refine kr_d (W.runS (As := [.ref x]) (rest := []) ⟨hx, hb, hml, hown, hts⟩ (metL_litres l D x r t d yg la bs cA cI n hn wm df q wd zs (toH zs (n - 1) h) w3 b1) (va_cwS 1 hts gL_isMoved_L_litres rfl rfl rfl (by decide +kernel) ⟨Nat.le_of_ble_eq_true rfl, Nat.le_of_ble_eq_true rfl⟩) (prS (ws := [(x, EX r t d yg)] ++ (rowW r la bs cA (nI n) wm df q wd zs (toH zs (n - 1) h) ++ w3)) hP (hK.sub [0, 1] rfl)) rfl rfl hl.1 rfl (lv_room (Nat.le_of_ble_eq_true rfl)) dL_isMoved_50 ⟨Nat.le_of_ble_eq_true rfl, Nat.le_of_ble_eq_true rfl⟩) ?_
  refine lv_dload_n hx hb dL_isMoved_53 rfl (lv_at hl 6 rfl) ?_
  refine kr_i (W.runS (As := [.double (suL (toH zs (n - 1) h) n), .double (suL h n)]) (rest := []) ⟨hx, hb, hml, hown, hts⟩ (metL_isNear l D (suL (toH zs (n - 1) h) n) (suL h n) f2) (va_cwS 2 hts gL_isMoved_L_isNear rfl rfl rfl (by decide +kernel) ⟨Nat.le_of_ble_eq_true rfl, Nat.le_of_ble_eq_true rfl⟩) (prS (ws := []) (tys := []) (fun k q h => by simp at h) (hK.sub [] rfl)) rfl rfl hl.1 rfl (lv_room (Nat.le_of_ble_eq_true rfl)) dL_isMoved_54 ⟨Nat.le_of_ble_eq_true rfl, Nat.le_of_ble_eq_true rfl⟩) ?_
  refine lv_if_eq (tgt := 139) hx hb dL_isMoved_57 (by decide) (fun c57 => (i32_n1 c57).elim) (fun c57 => ?_)
  refine lv_aload_n hx hb dL_isMoved_60 rfl (lv_at hl 7 rfl) ?_
  refine kr_d (W.runS (As := [.ref x]) (rest := []) ⟨hx, hb, hml, hown, hts⟩ (metL_acid l D x r t d yg la bs cA cI n hn wm df q wd zs (toH zs (n - 1) h) w3 b2) (va_cwS 1 hts gL_isMoved_L_acid rfl rfl rfl (by decide +kernel) ⟨Nat.le_of_ble_eq_true rfl, Nat.le_of_ble_eq_true rfl⟩) (prS (ws := [(x, EX r t d yg)] ++ (rowW r la bs cA (nI n) wm df q wd zs (toH zs (n - 1) h) ++ w3)) hP (hK.sub [0, 1] rfl)) rfl rfl hl.1 rfl (lv_room (Nat.le_of_ble_eq_true rfl)) dL_isMoved_61 ⟨Nat.le_of_ble_eq_true rfl, Nat.le_of_ble_eq_true rfl⟩) ?_
  refine lv_dload_n hx hb dL_isMoved_64 rfl (lv_at hl 5 rfl) ?_
  refine kr_i (W.runS (As := [.double (suP 16 (toH zs (n - 1) h) n), .double (suP 16 h n)]) (rest := []) ⟨hx, hb, hml, hown, hts⟩ (metL_isNear l D (suP 16 (toH zs (n - 1) h) n) (suP 16 h n) f3) (va_cwS 2 hts gL_isMoved_L_isNear rfl rfl rfl (by decide +kernel) ⟨Nat.le_of_ble_eq_true rfl, Nat.le_of_ble_eq_true rfl⟩) (prS (ws := []) (tys := []) (fun k q h => by simp at h) (hK.sub [] rfl)) rfl rfl hl.1 rfl (lv_room (Nat.le_of_ble_eq_true rfl)) dL_isMoved_65 ⟨Nat.le_of_ble_eq_true rfl, Nat.le_of_ble_eq_true rfl⟩) ?_
  refine lv_if_eq (tgt := 139) hx hb dL_isMoved_68 (by decide) (fun c68 => (i32_n1 c68).elim) (fun c68 => ?_)
  refine lv_aload_n hx hb dL_isMoved_71 rfl (lv_at hl 7 rfl) ?_
  refine kr_d (W.runV (As := []) (rest := []) ⟨hx, hb, hml, hown, hts⟩ (metX2_meanAge l D x r t d yg la bs cA cI n hn wm df q wd zs (toH zs (n - 1) h) w3 b3) (cwV 0 hts gL_isMoved_X2_meanAge rfl rfl rfl (by decide +kernel) ⟨Nat.le_of_ble_eq_true rfl, Nat.le_of_ble_eq_true rfl⟩) (prV 2 0 RX2 TX2 4 rfl rfl (ws := [(x, EX r t d yg)] ++ (rowW r la bs cA (nI n) wm df q wd zs (toH zs (n - 1) h) ++ w3)) hP (hK.sub [0, 1] rfl)) rfl rfl hl.1 rfl (lv_room (Nat.le_of_ble_eq_true rfl)) dL_isMoved_72 ⟨Nat.le_of_ble_eq_true rfl, Nat.le_of_ble_eq_true rfl⟩) ?_
  refine lv_dload hx hb dL_isMoved_75 (lv_at hl 4 rfl) ?_
  refine kr_i (W.runS (As := [.double (mnv 8 (toH zs (n - 1) h) n), .double (mnv 8 h n)]) (rest := []) ⟨hx, hb, hml, hown, hts⟩ (metL_isNear l D (mnv 8 (toH zs (n - 1) h) n) (mnv 8 h n) f4) (va_cwS 2 hts gL_isMoved_L_isNear rfl rfl rfl (by decide +kernel) ⟨Nat.le_of_ble_eq_true rfl, Nat.le_of_ble_eq_true rfl⟩) (prS (ws := []) (tys := []) (fun k q h => by simp at h) (hK.sub [] rfl)) rfl rfl hl.1 rfl (lv_room (Nat.le_of_ble_eq_true rfl)) dL_isMoved_77 ⟨Nat.le_of_ble_eq_true rfl, Nat.le_of_ble_eq_true rfl⟩) ?_
  refine lv_if_eq (tgt := 139) hx hb dL_isMoved_80 (by decide) (fun c80 => (i32_n1 c80).elim) (fun c80 => ?_)
  refine lv_aload_n hx hb dL_isMoved_83 rfl (lv_at hl 7 rfl) ?_
  refine kr_d (W.runV (As := []) (rest := []) ⟨hx, hb, hml, hown, hts⟩ (metX2_meanSugar l D x r t d yg la bs cA cI n hn wm df q wd zs (toH zs (n - 1) h) w3 b4) (cwV 0 hts gL_isMoved_X2_meanSugar rfl rfl rfl (by decide +kernel) ⟨Nat.le_of_ble_eq_true rfl, Nat.le_of_ble_eq_true rfl⟩) (prV 2 0 RX2 TX2 4 rfl rfl (ws := [(x, EX r t d yg)] ++ (rowW r la bs cA (nI n) wm df q wd zs (toH zs (n - 1) h) ++ w3)) hP (hK.sub [0, 1] rfl)) rfl rfl hl.1 rfl (lv_room (Nat.le_of_ble_eq_true rfl)) dL_isMoved_84 ⟨Nat.le_of_ble_eq_true rfl, Nat.le_of_ble_eq_true rfl⟩) ?_
  refine lv_dload hx hb dL_isMoved_87 (lv_at hl 3 rfl) ?_
  refine kr_i (W.runS (As := [.double (mnv 24 (toH zs (n - 1) h) n), .double (mnv 24 h n)]) (rest := []) ⟨hx, hb, hml, hown, hts⟩ (metL_isNear l D (mnv 24 (toH zs (n - 1) h) n) (mnv 24 h n) f5) (va_cwS 2 hts gL_isMoved_L_isNear rfl rfl rfl (by decide +kernel) ⟨Nat.le_of_ble_eq_true rfl, Nat.le_of_ble_eq_true rfl⟩) (prS (ws := []) (tys := []) (fun k q h => by simp at h) (hK.sub [] rfl)) rfl rfl hl.1 rfl (lv_room (Nat.le_of_ble_eq_true rfl)) dL_isMoved_89 ⟨Nat.le_of_ble_eq_true rfl, Nat.le_of_ble_eq_true rfl⟩) ?_
  refine lv_if_eq (tgt := 139) hx hb dL_isMoved_92 (by decide) (fun c92 => (i32_n1 c92).elim) (fun c92 => ?_)
  refine lv_aload_n hx hb dL_isMoved_95 rfl (lv_at hl 7 rfl) ?_
  refine lv_iconst (v := 0) hx hb dL_isMoved_96 (by decide) ?_
  -- [.int 0]
  refine kr_d (W.runV (As := [.int (nI 0)]) (rest := []) ⟨hx, hb, hml, hown, hts⟩ (metR_litresIn l D x r t d yg la bs cA cI n hn wm df q wd zs (toH zs (n - 1) h) w3 0 hn0 ) (cwV 1 hts gL_isMoved_X2_litresIn rfl rfl rfl (by decide +kernel) ⟨Nat.le_of_ble_eq_true rfl, Nat.le_of_ble_eq_true rfl⟩) (prV 2 0 RX2 TX2 4 rfl rfl (ws := [(x, EX r t d yg)] ++ (rowW r la bs cA (nI n) wm df q wd zs (toH zs (n - 1) h) ++ w3)) hP (hK.sub [0, 1] rfl)) rfl rfl hl.1 rfl (lv_room (Nat.le_of_ble_eq_true rfl)) dL_isMoved_97 ⟨Nat.le_of_ble_eq_true rfl, Nat.le_of_ble_eq_true rfl⟩) ?_
  refine lv_dload hx hb dL_isMoved_100 (lv_at hl 2 rfl) ?_
  refine kd_gt (tgt := 139) hx hb dL_isMoved_102 dL_isMoved_103 (by decide) f6.1 (fun c102 => (f6.2 c102).elim) (fun c102 => ?_)
  refine lv_dload hx hb dL_isMoved_106 (lv_at hl 2 rfl) ?_
  refine lv_aload_n hx hb dL_isMoved_108 rfl (lv_at hl 7 rfl) ?_
  refine lv_iconst (v := 0) hx hb dL_isMoved_109 (by decide) ?_
  -- [.int 0]
  refine kr_d (W.runV (As := [.int (nI 0)]) (rest := [.double (h 0)]) ⟨hx, hb, hml, hown, hts⟩ (metR_litresIn l D x r t d yg la bs cA cI n hn wm df q wd zs (toH zs (n - 1) h) w3 0 hn0 ) (cwV 1 hts gL_isMoved_X2_litresIn rfl rfl rfl (by decide +kernel) ⟨Nat.le_of_ble_eq_true rfl, Nat.le_of_ble_eq_true rfl⟩) (prV 2 0 RX2 TX2 4 rfl rfl (ws := [(x, EX r t d yg)] ++ (rowW r la bs cA (nI n) wm df q wd zs (toH zs (n - 1) h) ++ w3)) hP (hK.sub [0, 1] rfl)) rfl rfl hl.1 rfl (lv_room (Nat.le_of_ble_eq_true rfl)) dL_isMoved_110 ⟨Nat.le_of_ble_eq_true rfl, Nat.le_of_ble_eq_true rfl⟩) ?_
  refine lv_dsub hx hb dL_isMoved_113 f7 ?_
  refine lv_dload hx hb dL_isMoved_114 (lv_at hl 0 rfl) ?_
  refine lv_ldc2d hx hb hown (hts (.constantDouble RL 8 4517329193108106637) (by decide +kernel)) dL_isMoved_116 ?_
  refine lv_dadd hx hb dL_isMoved_119 f8 ?_
  refine kd_gt (tgt := 139) hx hb dL_isMoved_120 dL_isMoved_121 (by decide) f9.1 (fun c120 => (f9.2 c120).elim) (fun c120 => ?_)
  refine lv_aload_n hx hb dL_isMoved_124 rfl (lv_at hl 7 rfl) ?_
  refine lv_iconst (v := 0) hx hb dL_isMoved_125 (by decide) ?_
  -- [.int 0]
  refine kr_d (W.runV (As := [.int (nI 0)]) (rest := []) ⟨hx, hb, hml, hown, hts⟩ (metR_tasteOf l D x r t d yg la bs cA cI n hn wm df q wd zs (toH zs (n - 1) h) w3 0 hn0 b5) (cwV 1 hts gL_isMoved_X2_tasteOf rfl rfl rfl (by decide +kernel) ⟨Nat.le_of_ble_eq_true rfl, Nat.le_of_ble_eq_true rfl⟩) (prV 2 0 RX2 TX2 4 rfl rfl (ws := [(x, EX r t d yg)] ++ (rowW r la bs cA (nI n) wm df q wd zs (toH zs (n - 1) h) ++ w3)) hP (hK.sub [0, 1] rfl)) rfl rfl hl.1 rfl (lv_room (Nat.le_of_ble_eq_true rfl)) dL_isMoved_126 ⟨Nat.le_of_ble_eq_true rfl, Nat.le_of_ble_eq_true rfl⟩) ?_
  refine lv_dload hx hb dL_isMoved_129 (lv_at hl 1 rfl) ?_
  refine kd_zne (tgt := 139) hx hb dL_isMoved_131 dL_isMoved_132 (by decide) (eq_ne f10) (fun c131 => (c131 f10).elim) (fun c131 => ?_)
  refine lv_iconst (v := 1) hx hb dL_isMoved_135 (by decide) ?_
  refine lv_goto (tgt := 140) hx hb dL_isMoved_136 (by decide) ?_
  refine lv_istore (lv' := [(15, .int 1), (13, .double (toS zs (n - 1) h 0)), (11, .double (tasv (h 0) (h (8 + 0)) (h (16 + 0)) (h (24 + 0)))), (9, .double (h 0)), (7, .double (mnv 24 h n)), (5, .double (mnv 8 h n)), (3, .double (suP 16 h n)), (1, .double (suL h n)), (0, .ref x)]) hx hb dL_isMoved_140 hl (by decide) rfl (fun ls hl => ?_)
  refine lv_iload hx hb dL_isMoved_142 (lv_at hl 0 rfl) ?_
  refine lv_if_eq (tgt := 169) hx hb dL_isMoved_144 (by decide) (fun c144 => (i32_n1 c144).elim) (fun c144 => ?_)
  refine lv_dload hx hb dL_isMoved_147 (lv_at hl 1 rfl) ?_
  refine kd_0 hx hb dL_isMoved_149 ?_
  refine kd_gt (tgt := 165) hx hb dL_isMoved_150 dL_isMoved_151 (by decide) f1.1 (fun c150 => ?_) (fun c150 => ?_)
  · refine lv_iconst (v := 1) hx hb dL_isMoved_165 (by decide) ?_
    refine lv_goto (tgt := 170) hx hb dL_isMoved_166 (by decide) ?_
    have hP : va_P D vwCl ([(x, EX r t d yg)] ++ (rowW r la bs cA (nI n) wm df q wd zs (toH zs (n - 1) h) ++ w3)) H := hP
    have hD : va_D A ([(x, EX r t d yg)] ++ (rowW r la bs cA (nI n) wm df q wd zs (toH zs (n - 1) h) ++ w3)) := hD
    exact W.zret hx hb hr (by first | rfl | decide) (fun t9 ht9 hW => ⟨⟨_, (), rfl, rfl, by rw [ht9]; exact hP, va_K.moved hW.alike hK, hD⟩, hS.F ht9⟩) hS.2.2 dL_isMoved_170
  · refine lv_aload_n hx hb dL_isMoved_154 rfl (lv_at hl 8 rfl) ?_
    refine lv_iconst (v := 0) hx hb dL_isMoved_155 (by decide) ?_
    -- [.int 0]
    refine kr_d (W.runV (As := [.int (nI 0)]) (rest := []) ⟨hx, hb, hml, hown, hts⟩ (metR_litresIn l D x r t d yg la bs cA cI n hn wm df q wd zs (toH zs (n - 1) h) w3 0 hn0 ) (cwV 1 hts gL_isMoved_X2_litresIn rfl rfl rfl (by decide +kernel) ⟨Nat.le_of_ble_eq_true rfl, Nat.le_of_ble_eq_true rfl⟩) (prV 2 0 RX2 TX2 4 rfl rfl (ws := [(x, EX r t d yg)] ++ (rowW r la bs cA (nI n) wm df q wd zs (toH zs (n - 1) h) ++ w3)) hP (hK.sub [0, 1] rfl)) rfl rfl hl.1 rfl (lv_room (Nat.le_of_ble_eq_true rfl)) dL_isMoved_156 ⟨Nat.le_of_ble_eq_true rfl, Nat.le_of_ble_eq_true rfl⟩) ?_
    refine lv_dload hx hb dL_isMoved_159 (lv_at hl 3 rfl) ?_
    refine kd_zne (tgt := 169) hx hb dL_isMoved_161 dL_isMoved_162 (by decide) (eq_ne (f11 c150)) (fun c161 => (c161 (f11 c150)).elim) (fun c161 => ?_)
    refine lv_iconst (v := 1) hx hb dL_isMoved_165 (by decide) ?_
    refine lv_goto (tgt := 170) hx hb dL_isMoved_166 (by decide) ?_
    have hP : va_P D vwCl ([(x, EX r t d yg)] ++ (rowW r la bs cA (nI n) wm df q wd zs (toH zs (n - 1) h) ++ w3)) H := hP
    have hD : va_D A ([(x, EX r t d yg)] ++ (rowW r la bs cA (nI n) wm df q wd zs (toH zs (n - 1) h) ++ w3)) := hD
    exact W.zret hx hb hr (by first | rfl | decide) (fun t9 ht9 hW => ⟨⟨_, (), rfl, rfl, by rw [ht9]; exact hP, va_K.moved hW.alike hK, hD⟩, hS.F ht9⟩) hS.2.2 dL_isMoved_170

set_option maxHeartbeats 4000000 in
set_option maxRecDepth 100000 in
/-- isBottled -/
theorem metL_isBottled (l : Launch) (hst : l.stackTraces = false) (D : va_G) (sz : Nat) (x r t d : Nat) (yg : Int32) (la : Nat) (bs : Nat → Nat) (cA cI : ClassId) (n : Nat) (hn : n ≤ 8) (wm df : Int32) (q : UInt64) (wd zs : Nat → Int32) (h : Nat → UInt64) (w4 : va_W) (dk : Nat → Int32) (w : Int32) (hF : botF n h df q dk w) : Met l yL_isBottled wsL_isBottled { frames := 7, cells := 1, slots := 6, locals := 105 } (Pt D [(cA, .object "VinegarLoft$Barrel"), (cI, .int)] [.ref x, .int w] ([(x, EX r t d yg)] ++ (rowW r la bs cA (nI n) wm df q wd zs h ++ (w4 ++ [(d, ED cI dk)]))) sz) (va_Qi (fun (r9 : Int32) (_ : Unit) => r9 = 1) (Bm D [(cA, .object "VinegarLoft$Barrel"), (cI, .int)] (va_A ([(x, EX r t d yg)] ++ (rowW r la bs cA (nI n) wm df q wd zs h ++ (w4 ++ [(d, ED cI dk)]))) sz) ([(x, EX r t d yg)] ++ (rowW r la bs cA (nI n) wm df (drQ h n df q w) wd zs (drH h n df q w) ++ (w4 ++ [(d, ED cI (drK dk h n df q w))])))) (va_A ([(x, EX r t d yg)] ++ (rowW r la bs cA (nI n) wm df q wd zs h ++ (w4 ++ [(d, ED cI dk)]))) sz)) 1 6 (va_A ([(x, EX r t d yg)] ++ (rowW r la bs cA (nI n) wm df q wd zs h ++ (w4 ++ [(d, ED cI dk)]))) sz) := by
  refine Met.ofW (cc := cL_isBottled) (maxL := 7) (ret := (some .boolean)) (by decide) rfl ?_
  intro p e s m args below meth c s₁ B hml hv
  obtain ⟨rfl, hsz, hP, hK, hD0, hX⟩ := hv
  have hx := B.exec
  have hb := B.bytes
  have hr := B.returns
  have hts := atoms_spec (ws := wsL_isBottled) B.pre
  have hown : s.vm.findClass RL = some m.cls := findClass_of_methodNamed B.named
  have hlocks := B.notSynchronized
  subst hsz
  have hD := hD0.self (sz := s.heap.size)
  generalize hAe : va_A ([(x, EX r t d yg)] ++ (rowW r la bs cA (nI n) wm df q wd zs h ++ (w4 ++ [(d, ED cI dk)]))) s.heap.size = A at hD hX ⊢
  have hA : ∀ q : Nat, s.heap.size ≤ q → A q := fun q h => by rw [← hAe]; exact Or.inr h
  refine kW_H (fun H hH => ?_)
  have hP : va_P D vwCl ([(x, EX r t d yg)] ++ (rowW r la bs cA (nI n) wm df q wd zs h ++ (w4 ++ [(d, ED cI dk)]))) H := by rw [hH]; exact hP
  have hS : va_S A s.heap H [] := by rw [hH]; exact va_S.rf
  have hl := lv_entry ([.ref x, .int w]) (n := 7) (Nat.le_of_ble_eq_true rfl)
  rw [lg_entry_eq]
  generalize (lg_sl ([.ref x, .int w]) ++ List.replicate (7 - (lg_sl ([.ref x, .int w])).length) Slot.unset).toArray = ls at hl ⊢
  have hl : lv_has ls 7 [(0, .ref x), (1, .int w)] := hl
  obtain ⟨⟨f1, a1, a2, a3, a4⟩, b1, b2, b3, f2, ⟨f3, f4, f5⟩, f6, f7⟩ := hF
  refine lv_aload_n hx hb dL_isBottled_0 rfl (lv_at hl 0 rfl) ?_
  refine kr_i (W.runV (As := []) (rest := []) ⟨hx, hb, hml, hown, hts⟩ (metX2_drawable l D x r t d yg la bs cA cI n hn wm df q wd zs h (w4 ++ [(d, ED cI dk)]) a2 a3) (cwV 0 hts gL_isBottled_X2_drawable rfl rfl rfl (by decide +kernel) ⟨Nat.le_of_ble_eq_true rfl, Nat.le_of_ble_eq_true rfl⟩) (prV 2 0 RX2 TX2 4 rfl rfl (ws := [(x, EX r t d yg)] ++ (rowW r la bs cA (nI n) wm df q wd zs h ++ (w4 ++ [(d, ED cI dk)]))) hP (hK.sub [0, 1] rfl)) rfl rfl hl.1 rfl (lv_room (Nat.le_of_ble_eq_true rfl)) dL_isBottled_1 ⟨Nat.le_of_ble_eq_true rfl, Nat.le_of_ble_eq_true rfl⟩) ?_
  refine lv_istore_n (lv' := [(2, .int (rdv h n df q)), (0, .ref x), (1, .int w)]) hx hb dL_isBottled_4 rfl hl (by decide) rfl (fun ls hl => ?_)
  refine lv_aload_n hx hb dL_isBottled_5 rfl (lv_at hl 1 rfl) ?_
  refine lv_iconst (v := 0) hx hb dL_isBottled_6 (by decide) ?_
  refine kr_i (W.runV (As := [.int (nI 0)]) (rest := []) ⟨hx, hb, hml, hown, hts⟩ (metR_bottles l D x r t d yg la bs cA cI n hn wm df q wd zs h w4 dk 0 (by decide)) (cwV 1 hts gL_isBottled_X2_bottles rfl rfl rfl (by decide +kernel) ⟨Nat.le_of_ble_eq_true rfl, Nat.le_of_ble_eq_true rfl⟩) (prV 2 0 RX2 TX2 4 rfl rfl (ws := [(x, EX r t d yg)] ++ (rowW r la bs cA (nI n) wm df q wd zs h ++ (w4 ++ [(d, ED cI dk)]))) hP (hK.sub [0, 1] rfl)) rfl rfl hl.1 rfl (lv_room (Nat.le_of_ble_eq_true rfl)) dL_isBottled_7 ⟨Nat.le_of_ble_eq_true rfl, Nat.le_of_ble_eq_true rfl⟩) ?_
  refine lv_aload_n hx hb dL_isBottled_10 rfl (lv_at hl 1 rfl) ?_
  refine lv_iconst (v := 1) hx hb dL_isBottled_11 (by decide) ?_
  refine kr_i (W.runV (As := [.int (nI 1)]) (rest := [.int (dk 0)]) ⟨hx, hb, hml, hown, hts⟩ (metR_bottles l D x r t d yg la bs cA cI n hn wm df q wd zs h w4 dk 1 (by decide)) (cwV 1 hts gL_isBottled_X2_bottles rfl rfl rfl (by decide +kernel) ⟨Nat.le_of_ble_eq_true rfl, Nat.le_of_ble_eq_true rfl⟩) (prV 2 0 RX2 TX2 4 rfl rfl (ws := [(x, EX r t d yg)] ++ (rowW r la bs cA (nI n) wm df q wd zs h ++ (w4 ++ [(d, ED cI dk)]))) hP (hK.sub [0, 1] rfl)) rfl rfl hl.1 rfl (lv_room (Nat.le_of_ble_eq_true rfl)) dL_isBottled_12 ⟨Nat.le_of_ble_eq_true rfl, Nat.le_of_ble_eq_true rfl⟩) ?_
  refine lv_iadd hx hb dL_isBottled_15 ?_
  refine lv_aload_n hx hb dL_isBottled_16 rfl (lv_at hl 1 rfl) ?_
  refine lv_iconst (v := 2) hx hb dL_isBottled_17 (by decide) ?_
  refine kr_i (W.runV (As := [.int (nI 2)]) (rest := [.int ((dk 0) + (dk 1))]) ⟨hx, hb, hml, hown, hts⟩ (metR_bottles l D x r t d yg la bs cA cI n hn wm df q wd zs h w4 dk 2 (by decide)) (cwV 1 hts gL_isBottled_X2_bottles rfl rfl rfl (by decide +kernel) ⟨Nat.le_of_ble_eq_true rfl, Nat.le_of_ble_eq_true rfl⟩) (prV 2 0 RX2 TX2 4 rfl rfl (ws := [(x, EX r t d yg)] ++ (rowW r la bs cA (nI n) wm df q wd zs h ++ (w4 ++ [(d, ED cI dk)]))) hP (hK.sub [0, 1] rfl)) rfl rfl hl.1 rfl (lv_room (Nat.le_of_ble_eq_true rfl)) dL_isBottled_18 ⟨Nat.le_of_ble_eq_true rfl, Nat.le_of_ble_eq_true rfl⟩) ?_
  refine lv_iadd hx hb dL_isBottled_21 ?_
  refine lv_istore_n (lv' := [(3, .int (((dk 0) + (dk 1)) + (dk 2))), (2, .int (rdv h n df q)), (0, .ref x), (1, .int w)]) hx hb dL_isBottled_22 rfl hl (by decide) rfl (fun ls hl => ?_)
  refine lv_aload_n hx hb dL_isBottled_23 rfl (lv_at hl 2 rfl) ?_
  refine kr_d (W.runS (As := [.ref x]) (rest := []) ⟨hx, hb, hml, hown, hts⟩ (metL_litres l D x r t d yg la bs cA cI n hn wm df q wd zs h (w4 ++ [(d, ED cI dk)]) a1) (va_cwS 1 hts gL_isBottled_L_litres rfl rfl rfl (by decide +kernel) ⟨Nat.le_of_ble_eq_true rfl, Nat.le_of_ble_eq_true rfl⟩) (prS (ws := [(x, EX r t d yg)] ++ (rowW r la bs cA (nI n) wm df q wd zs h ++ (w4 ++ [(d, ED cI dk)]))) hP (hK.sub [0, 1] rfl)) rfl rfl hl.1 rfl (lv_room (Nat.le_of_ble_eq_true rfl)) dL_isBottled_24 ⟨Nat.le_of_ble_eq_true rfl, Nat.le_of_ble_eq_true rfl⟩) ?_
  refine lv_dstore (lv' := [(4, .double (suL h n)), (3, .int (((dk 0) + (dk 1)) + (dk 2))), (2, .int (rdv h n df q)), (0, .ref x), (1, .int w)]) hx hb dL_isBottled_27 hl (by decide) rfl (fun ls hl => ?_)
  refine lv_aload_n hx hb dL_isBottled_29 rfl (lv_at hl 3 rfl) ?_
  refine lv_iload_n hx hb dL_isBottled_30 rfl (lv_at hl 4 rfl) ?_
  have hX9 : XP A s H := hX.kept hS.2.1
  have hA9 : ∀ q : Nat, H.size ≤ q → A q := fun q h9 => hA q (Nat.le_trans hS.1 h9)
  refine kq_i (w1 := []) (w2 := [(x, EX r t d yg)] ++ (rowW r la bs cA (nI n) wm df q wd zs h ++ (w4 ++ [(d, ED cI dk)]))) (w3 := []) (vx_runV (As := [.int w]) (rest := []) ⟨hx, hb, hml, hown, hts⟩ (metX2_draw l hst D H.size x r t d yg la bs cA cI n hn wm df q wd zs h w4 dk w a2 a3 (fun _ => a4)) (cwV 1 hts gL_isBottled_X2_draw rfl rfl rfl (by decide +kernel) ⟨Nat.le_of_ble_eq_true rfl, Nat.le_of_ble_eq_true rfl⟩) (ptV 2 0 RX2 TX2 4 rfl rfl hP (hK.sub [0, 1] rfl) hD hX9 hA9) rfl rfl hl.1 rfl (lv_room (Nat.le_of_ble_eq_true rfl)) dL_isBottled_31 ⟨Nat.le_of_ble_eq_true rfl, Nat.le_of_ble_eq_true rfl⟩) (by rw [List.nil_append, List.append_nil]; exact hP) (by rw [List.nil_append, List.append_nil]; exact hD) hS hA (fun E ce q9 H locs hB hP hD hS hce hcv hcl => ((fun h9 => f1 h9.2) hB).elim) (fun H locs hok hP hD hS => ?_)
  rw [List.nil_append, List.append_nil] at hP hD
  have hP : va_P D vwCl ([(x, EX r t d yg)] ++ (rowW r la bs cA (nI n) wm df (drQ h n df q w) wd zs (drH h n df q w) ++ (w4 ++ [(d, ED cI (drK dk h n df q w))]))) H := hP
  have hD : va_D A ([(x, EX r t d yg)] ++ (rowW r la bs cA (nI n) wm df (drQ h n df q w) wd zs (drH h n df q w) ++ (w4 ++ [(d, ED cI (drK dk h n df q w))]))) := hD
  refine lv_istore (lv' := [(6, .int (takv h n df q w)), (4, .double (suL h n)), (3, .int (((dk 0) + (dk 1)) + (dk 2))), (2, .int (rdv h n df q)), (0, .ref x), (1, .int w)]) hx hb dL_isBottled_34 hl (by decide) rfl (fun ls hl => ?_)
  refine lv_iload hx hb dL_isBottled_36 (lv_at hl 0 rfl) ?_
  refine lv_iload_n hx hb dL_isBottled_38 rfl (lv_at hl 5 rfl) ?_
  refine lv_iload_n hx hb dL_isBottled_39 rfl (lv_at hl 3 rfl) ?_
  refine lv_icmp_ge (tgt := 47) hx hb dL_isBottled_40 (by decide) (fun c40 => ?_) (fun c40 => ?_)
  · refine lv_iload_n hx hb dL_isBottled_47 rfl (lv_at hl 3 rfl) ?_
    refine ki_eq (show (rdv h n df q) = takv h n df q w from by unfold takv; rw [if_neg (i32_le_nlt c40)]) ?_
    refine lv_icmp_ne (tgt := 125) hx hb dL_isBottled_48 (by decide) (fun c48 => (c48 rfl).elim) (fun c48 => ?_)
    refine lv_aload_n hx hb dL_isBottled_51 rfl (lv_at hl 4 rfl) ?_
    refine lv_iconst (v := 0) hx hb dL_isBottled_52 (by decide) ?_
    refine kr_i (W.runV (As := [.int (nI 0)]) (rest := []) ⟨hx, hb, hml, hown, hts⟩ (metR_bottles l D x r t d yg la bs cA cI n hn wm df (drQ h n df q w) wd zs (drH h n df q w) w4 (drK dk h n df q w) 0 (by decide)) (cwV 1 hts gL_isBottled_X2_bottles rfl rfl rfl (by decide +kernel) ⟨Nat.le_of_ble_eq_true rfl, Nat.le_of_ble_eq_true rfl⟩) (prV 2 0 RX2 TX2 4 rfl rfl (ws := [(x, EX r t d yg)] ++ (rowW r la bs cA (nI n) wm df (drQ h n df q w) wd zs (drH h n df q w) ++ (w4 ++ [(d, ED cI (drK dk h n df q w))]))) hP (hK.sub [0, 1] rfl)) rfl rfl hl.1 rfl (lv_room (Nat.le_of_ble_eq_true rfl)) dL_isBottled_53 ⟨Nat.le_of_ble_eq_true rfl, Nat.le_of_ble_eq_true rfl⟩) ?_
    refine lv_aload_n hx hb dL_isBottled_56 rfl (lv_at hl 4 rfl) ?_
    refine lv_iconst (v := 1) hx hb dL_isBottled_57 (by decide) ?_
    refine kr_i (W.runV (As := [.int (nI 1)]) (rest := [.int ((drK dk h n df q w) 0)]) ⟨hx, hb, hml, hown, hts⟩ (metR_bottles l D x r t d yg la bs cA cI n hn wm df (drQ h n df q w) wd zs (drH h n df q w) w4 (drK dk h n df q w) 1 (by decide)) (cwV 1 hts gL_isBottled_X2_bottles rfl rfl rfl (by decide +kernel) ⟨Nat.le_of_ble_eq_true rfl, Nat.le_of_ble_eq_true rfl⟩) (prV 2 0 RX2 TX2 4 rfl rfl (ws := [(x, EX r t d yg)] ++ (rowW r la bs cA (nI n) wm df (drQ h n df q w) wd zs (drH h n df q w) ++ (w4 ++ [(d, ED cI (drK dk h n df q w))]))) hP (hK.sub [0, 1] rfl)) rfl rfl hl.1 rfl (lv_room (Nat.le_of_ble_eq_true rfl)) dL_isBottled_58 ⟨Nat.le_of_ble_eq_true rfl, Nat.le_of_ble_eq_true rfl⟩) ?_
    refine lv_iadd hx hb dL_isBottled_61 ?_
    refine lv_aload_n hx hb dL_isBottled_62 rfl (lv_at hl 4 rfl) ?_
    refine lv_iconst (v := 2) hx hb dL_isBottled_63 (by decide) ?_
    refine kr_i (W.runV (As := [.int (nI 2)]) (rest := [.int (((drK dk h n df q w) 0) + ((drK dk h n df q w) 1))]) ⟨hx, hb, hml, hown, hts⟩ (metR_bottles l D x r t d yg la bs cA cI n hn wm df (drQ h n df q w) wd zs (drH h n df q w) w4 (drK dk h n df q w) 2 (by decide)) (cwV 1 hts gL_isBottled_X2_bottles rfl rfl rfl (by decide +kernel) ⟨Nat.le_of_ble_eq_true rfl, Nat.le_of_ble_eq_true rfl⟩) (prV 2 0 RX2 TX2 4 rfl rfl (ws := [(x, EX r t d yg)] ++ (rowW r la bs cA (nI n) wm df (drQ h n df q w) wd zs (drH h n df q w) ++ (w4 ++ [(d, ED cI (drK dk h n df q w))]))) hP (hK.sub [0, 1] rfl)) rfl rfl hl.1 rfl (lv_room (Nat.le_of_ble_eq_true rfl)) dL_isBottled_64 ⟨Nat.le_of_ble_eq_true rfl, Nat.le_of_ble_eq_true rfl⟩) ?_
    refine lv_iadd hx hb dL_isBottled_67 ?_
    refine lv_iload_n hx hb dL_isBottled_68 rfl (lv_at hl 2 rfl) ?_
    refine lv_iload hx hb dL_isBottled_69 (lv_at hl 0 rfl) ?_
    refine lv_iadd hx hb dL_isBottled_71 ?_
    refine lv_icmp_ne (tgt := 125) hx hb dL_isBottled_72 (by decide) (fun c72 => (c72 f2).elim) (fun c72 => ?_)
    refine lv_aload_n hx hb dL_isBottled_75 rfl (lv_at hl 4 rfl) ?_
    refine kr_d (W.runS (As := [.ref x]) (rest := []) ⟨hx, hb, hml, hown, hts⟩ (metL_litres l D x r t d yg la bs cA cI n hn wm df (drQ h n df q w) wd zs (drH h n df q w) (w4 ++ [(d, ED cI (drK dk h n df q w))]) b1) (va_cwS 1 hts gL_isBottled_L_litres rfl rfl rfl (by decide +kernel) ⟨Nat.le_of_ble_eq_true rfl, Nat.le_of_ble_eq_true rfl⟩) (prS (ws := [(x, EX r t d yg)] ++ (rowW r la bs cA (nI n) wm df (drQ h n df q w) wd zs (drH h n df q w) ++ (w4 ++ [(d, ED cI (drK dk h n df q w))]))) hP (hK.sub [0, 1] rfl)) rfl rfl hl.1 rfl (lv_room (Nat.le_of_ble_eq_true rfl)) dL_isBottled_76 ⟨Nat.le_of_ble_eq_true rfl, Nat.le_of_ble_eq_true rfl⟩) ?_
    refine lv_iload hx hb dL_isBottled_79 (lv_at hl 0 rfl) ?_
    refine lv_i2d hx hb dL_isBottled_81 ?_
    refine lv_ldc2d hx hb hown (hts (.constantDouble RL 85 4591870180066957722) (by decide +kernel)) dL_isBottled_82 ?_
    refine lv_dmul hx hb dL_isBottled_85 f3 ?_
    refine lv_dadd hx hb dL_isBottled_86 f4 ?_
    refine lv_dload hx hb dL_isBottled_87 (lv_at hl 1 rfl) ?_
    refine kr_i (W.runS (As := [.double (FP.dadd (suL (drH h n df q w) n) (FP.dmul (FP.i2d (takv h n df q w)) 4591870180066957722)), .double (suL h n)]) (rest := []) ⟨hx, hb, hml, hown, hts⟩ (metL_isNear l D (FP.dadd (suL (drH h n df q w) n) (FP.dmul (FP.i2d (takv h n df q w)) 4591870180066957722)) (suL h n) f5) (va_cwS 2 hts gL_isBottled_L_isNear rfl rfl rfl (by decide +kernel) ⟨Nat.le_of_ble_eq_true rfl, Nat.le_of_ble_eq_true rfl⟩) (prS (ws := []) (tys := []) (fun k q h => by simp at h) (hK.sub [] rfl)) rfl rfl hl.1 rfl (lv_room (Nat.le_of_ble_eq_true rfl)) dL_isBottled_89 ⟨Nat.le_of_ble_eq_true rfl, Nat.le_of_ble_eq_true rfl⟩) ?_
    refine lv_if_eq (tgt := 125) hx hb dL_isBottled_92 (by decide) (fun c92 => (i32_n1 c92).elim) (fun c92 => ?_)
    refine lv_aload_n hx hb dL_isBottled_95 rfl (lv_at hl 4 rfl) ?_
    refine kr_i (W.runV (As := []) (rest := []) ⟨hx, hb, hml, hown, hts⟩ (metX2_drawable l D x r t d yg la bs cA cI n hn wm df (drQ h n df q w) wd zs (drH h n df q w) (w4 ++ [(d, ED cI (drK dk h n df q w))]) b2 b3) (cwV 0 hts gL_isBottled_X2_drawable rfl rfl rfl (by decide +kernel) ⟨Nat.le_of_ble_eq_true rfl, Nat.le_of_ble_eq_true rfl⟩) (prV 2 0 RX2 TX2 4 rfl rfl (ws := [(x, EX r t d yg)] ++ (rowW r la bs cA (nI n) wm df (drQ h n df q w) wd zs (drH h n df q w) ++ (w4 ++ [(d, ED cI (drK dk h n df q w))]))) hP (hK.sub [0, 1] rfl)) rfl rfl hl.1 rfl (lv_room (Nat.le_of_ble_eq_true rfl)) dL_isBottled_96 ⟨Nat.le_of_ble_eq_true rfl, Nat.le_of_ble_eq_true rfl⟩) ?_
    refine lv_iload_n hx hb dL_isBottled_99 rfl (lv_at hl 3 rfl) ?_
    refine lv_iload hx hb dL_isBottled_100 (lv_at hl 0 rfl) ?_
    refine lv_isub hx hb dL_isBottled_102 ?_
    refine lv_iconst (v := 1) hx hb dL_isBottled_103 (by decide) ?_
    refine lv_iadd hx hb dL_isBottled_104 ?_
    refine lv_icmp_gt (tgt := 125) hx hb dL_isBottled_105 (by decide) (fun c105 => (f6 c105).elim) (fun c105 => ?_)
    refine lv_aload_n hx hb dL_isBottled_108 rfl (lv_at hl 4 rfl) ?_
    refine kr_i (W.runV (As := []) (rest := []) ⟨hx, hb, hml, hown, hts⟩ (metX2_drawable l D x r t d yg la bs cA cI n hn wm df (drQ h n df q w) wd zs (drH h n df q w) (w4 ++ [(d, ED cI (drK dk h n df q w))]) b2 b3) (cwV 0 hts gL_isBottled_X2_drawable rfl rfl rfl (by decide +kernel) ⟨Nat.le_of_ble_eq_true rfl, Nat.le_of_ble_eq_true rfl⟩) (prV 2 0 RX2 TX2 4 rfl rfl (ws := [(x, EX r t d yg)] ++ (rowW r la bs cA (nI n) wm df (drQ h n df q w) wd zs (drH h n df q w) ++ (w4 ++ [(d, ED cI (drK dk h n df q w))]))) hP (hK.sub [0, 1] rfl)) rfl rfl hl.1 rfl (lv_room (Nat.le_of_ble_eq_true rfl)) dL_isBottled_109 ⟨Nat.le_of_ble_eq_true rfl, Nat.le_of_ble_eq_true rfl⟩) ?_
    refine lv_iload_n hx hb dL_isBottled_112 rfl (lv_at hl 3 rfl) ?_
    refine lv_iload hx hb dL_isBottled_113 (lv_at hl 0 rfl) ?_
    refine lv_isub hx hb dL_isBottled_115 ?_
    refine lv_iconst (v := 1) hx hb dL_isBottled_116 (by decide) ?_
    refine lv_isub hx hb dL_isBottled_117 ?_
    refine lv_icmp_lt (tgt := 125) hx hb dL_isBottled_118 (by decide) (fun c118 => (f7 c118).elim) (fun c118 => ?_)
    refine lv_iconst (v := 1) hx hb dL_isBottled_121 (by decide) ?_
    refine lv_goto (tgt := 126) hx hb dL_isBottled_122 (by decide) ?_
    have hP : va_P D vwCl ([(x, EX r t d yg)] ++ (rowW r la bs cA (nI n) wm df (drQ h n df q w) wd zs (drH h n df q w) ++ (w4 ++ [(d, ED cI (drK dk h n df q w))]))) H := hP
    have hD : va_D A ([(x, EX r t d yg)] ++ (rowW r la bs cA (nI n) wm df (drQ h n df q w) wd zs (drH h n df q w) ++ (w4 ++ [(d, ED cI (drK dk h n df q w))]))) := hD
    refine W.widen (k := 1) (n := 6) (Nat.le_of_ble_eq_true rfl) (Nat.le_of_ble_eq_true rfl) ?_
    exact W.zret hx hb hr (by first | rfl | decide) (fun t9 ht9 hW => ⟨⟨_, (), rfl, rfl, by rw [ht9]; exact hP, va_K.moved hW.alike hK, hD⟩, hS.F ht9⟩) hS.2.2 dL_isBottled_126
  · refine lv_iload_n hx hb dL_isBottled_43 rfl (lv_at hl 5 rfl) ?_
    refine lv_goto (tgt := 48) hx hb dL_isBottled_44 (by decide) ?_
    refine ki_eq (show w = takv h n df q w from by unfold takv; rw [if_pos (fa_nle c40)]) ?_
    refine lv_icmp_ne (tgt := 125) hx hb dL_isBottled_48 (by decide) (fun c48 => (c48 rfl).elim) (fun c48 => ?_)
    refine lv_aload_n hx hb dL_isBottled_51 rfl (lv_at hl 4 rfl) ?_
    refine lv_iconst (v := 0) hx hb dL_isBottled_52 (by decide) ?_
    refine kr_i (W.runV (As := [.int (nI 0)]) (rest := []) ⟨hx, hb, hml, hown, hts⟩ (metR_bottles l D x r t d yg la bs cA cI n hn wm df (drQ h n df q w) wd zs (drH h n df q w) w4 (drK dk h n df q w) 0 (by decide)) (cwV 1 hts gL_isBottled_X2_bottles rfl rfl rfl (by decide +kernel) ⟨Nat.le_of_ble_eq_true rfl, Nat.le_of_ble_eq_true rfl⟩) (prV 2 0 RX2 TX2 4 rfl rfl (ws := [(x, EX r t d yg)] ++ (rowW r la bs cA (nI n) wm df (drQ h n df q w) wd zs (drH h n df q w) ++ (w4 ++ [(d, ED cI (drK dk h n df q w))]))) hP (hK.sub [0, 1] rfl)) rfl rfl hl.1 rfl (lv_room (Nat.le_of_ble_eq_true rfl)) dL_isBottled_53 ⟨Nat.le_of_ble_eq_true rfl, Nat.le_of_ble_eq_true rfl⟩) ?_
    refine lv_aload_n hx hb dL_isBottled_56 rfl (lv_at hl 4 rfl) ?_
    refine lv_iconst (v := 1) hx hb dL_isBottled_57 (by decide) ?_
    refine kr_i (W.runV (As := [.int (nI 1)]) (rest := [.int ((drK dk h n df q w) 0)]) ⟨hx, hb, hml, hown, hts⟩ (metR_bottles l D x r t d yg la bs cA cI n hn wm df (drQ h n df q w) wd zs (drH h n df q w) w4 (drK dk h n df q w) 1 (by decide)) (cwV 1 hts gL_isBottled_X2_bottles rfl rfl rfl (by decide +kernel) ⟨Nat.le_of_ble_eq_true rfl, Nat.le_of_ble_eq_true rfl⟩) (prV 2 0 RX2 TX2 4 rfl rfl (ws := [(x, EX r t d yg)] ++ (rowW r la bs cA (nI n) wm df (drQ h n df q w) wd zs (drH h n df q w) ++ (w4 ++ [(d, ED cI (drK dk h n df q w))]))) hP (hK.sub [0, 1] rfl)) rfl rfl hl.1 rfl (lv_room (Nat.le_of_ble_eq_true rfl)) dL_isBottled_58 ⟨Nat.le_of_ble_eq_true rfl, Nat.le_of_ble_eq_true rfl⟩) ?_
    refine lv_iadd hx hb dL_isBottled_61 ?_
    refine lv_aload_n hx hb dL_isBottled_62 rfl (lv_at hl 4 rfl) ?_
    refine lv_iconst (v := 2) hx hb dL_isBottled_63 (by decide) ?_
    refine kr_i (W.runV (As := [.int (nI 2)]) (rest := [.int (((drK dk h n df q w) 0) + ((drK dk h n df q w) 1))]) ⟨hx, hb, hml, hown, hts⟩ (metR_bottles l D x r t d yg la bs cA cI n hn wm df (drQ h n df q w) wd zs (drH h n df q w) w4 (drK dk h n df q w) 2 (by decide)) (cwV 1 hts gL_isBottled_X2_bottles rfl rfl rfl (by decide +kernel) ⟨Nat.le_of_ble_eq_true rfl, Nat.le_of_ble_eq_true rfl⟩) (prV 2 0 RX2 TX2 4 rfl rfl (ws := [(x, EX r t d yg)] ++ (rowW r la bs cA (nI n) wm df (drQ h n df q w) wd zs (drH h n df q w) ++ (w4 ++ [(d, ED cI (drK dk h n df q w))]))) hP (hK.sub [0, 1] rfl)) rfl rfl hl.1 rfl (lv_room (Nat.le_of_ble_eq_true rfl)) dL_isBottled_64 ⟨Nat.le_of_ble_eq_true rfl, Nat.le_of_ble_eq_true rfl⟩) ?_
    refine lv_iadd hx hb dL_isBottled_67 ?_
    refine lv_iload_n hx hb dL_isBottled_68 rfl (lv_at hl 2 rfl) ?_
    refine lv_iload hx hb dL_isBottled_69 (lv_at hl 0 rfl) ?_
    refine lv_iadd hx hb dL_isBottled_71 ?_
    refine lv_icmp_ne (tgt := 125) hx hb dL_isBottled_72 (by decide) (fun c72 => (c72 f2).elim) (fun c72 => ?_)
    refine lv_aload_n hx hb dL_isBottled_75 rfl (lv_at hl 4 rfl) ?_
    refine kr_d (W.runS (As := [.ref x]) (rest := []) ⟨hx, hb, hml, hown, hts⟩ (metL_litres l D x r t d yg la bs cA cI n hn wm df (drQ h n df q w) wd zs (drH h n df q w) (w4 ++ [(d, ED cI (drK dk h n df q w))]) b1) (va_cwS 1 hts gL_isBottled_L_litres rfl rfl rfl (by decide +kernel) ⟨Nat.le_of_ble_eq_true rfl, Nat.le_of_ble_eq_true rfl⟩) (prS (ws := [(x, EX r t d yg)] ++ (rowW r la bs cA (nI n) wm df (drQ h n df q w) wd zs (drH h n df q w) ++ (w4 ++ [(d, ED cI (drK dk h n df q w))]))) hP (hK.sub [0, 1] rfl)) rfl rfl hl.1 rfl (lv_room (Nat.le_of_ble_eq_true rfl)) dL_isBottled_76 ⟨Nat.le_of_ble_eq_true rfl, Nat.le_of_ble_eq_true rfl⟩) ?_
    refine lv_iload hx hb dL_isBottled_79 (lv_at hl 0 rfl) ?_
    refine lv_i2d hx hb dL_isBottled_81 ?_
    refine lv_ldc2d hx hb hown (hts (.constantDouble RL 85 4591870180066957722) (by decide +kernel)) dL_isBottled_82 ?_
    refine lv_dmul hx hb dL_isBottled_85 f3 ?_
    refine lv_dadd hx hb dL_isBottled_86 f4 ?_
    refine lv_dload hx hb dL_isBottled_87 (lv_at hl 1 rfl) ?_
    refine kr_i (W.runS (As := [.double (FP.dadd (suL (drH h n df q w) n) (FP.dmul (FP.i2d (takv h n df q w)) 4591870180066957722)), .double (suL h n)]) (rest := []) ⟨hx, hb, hml, hown, hts⟩ (metL_isNear l D (FP.dadd (suL (drH h n df q w) n) (FP.dmul (FP.i2d (takv h n df q w)) 4591870180066957722)) (suL h n) f5) (va_cwS 2 hts gL_isBottled_L_isNear rfl rfl rfl (by decide +kernel) ⟨Nat.le_of_ble_eq_true rfl, Nat.le_of_ble_eq_true rfl⟩) (prS (ws := []) (tys := []) (fun k q h => by simp at h) (hK.sub [] rfl)) rfl rfl hl.1 rfl (lv_room (Nat.le_of_ble_eq_true rfl)) dL_isBottled_89 ⟨Nat.le_of_ble_eq_true rfl, Nat.le_of_ble_eq_true rfl⟩) ?_
    refine lv_if_eq (tgt := 125) hx hb dL_isBottled_92 (by decide) (fun c92 => (i32_n1 c92).elim) (fun c92 => ?_)
    refine lv_aload_n hx hb dL_isBottled_95 rfl (lv_at hl 4 rfl) ?_
    refine kr_i (W.runV (As := []) (rest := []) ⟨hx, hb, hml, hown, hts⟩ (metX2_drawable l D x r t d yg la bs cA cI n hn wm df (drQ h n df q w) wd zs (drH h n df q w) (w4 ++ [(d, ED cI (drK dk h n df q w))]) b2 b3) (cwV 0 hts gL_isBottled_X2_drawable rfl rfl rfl (by decide +kernel) ⟨Nat.le_of_ble_eq_true rfl, Nat.le_of_ble_eq_true rfl⟩) (prV 2 0 RX2 TX2 4 rfl rfl (ws := [(x, EX r t d yg)] ++ (rowW r la bs cA (nI n) wm df (drQ h n df q w) wd zs (drH h n df q w) ++ (w4 ++ [(d, ED cI (drK dk h n df q w))]))) hP (hK.sub [0, 1] rfl)) rfl rfl hl.1 rfl (lv_room (Nat.le_of_ble_eq_true rfl)) dL_isBottled_96 ⟨Nat.le_of_ble_eq_true rfl, Nat.le_of_ble_eq_true rfl⟩) ?_
    refine lv_iload_n hx hb dL_isBottled_99 rfl (lv_at hl 3 rfl) ?_
    refine lv_iload hx hb dL_isBottled_100 (lv_at hl 0 rfl) ?_
    refine lv_isub hx hb dL_isBottled_102 ?_
    refine lv_iconst (v := 1) hx hb dL_isBottled_103 (by decide) ?_
    refine lv_iadd hx hb dL_isBottled_104 ?_
    refine lv_icmp_gt (tgt := 125) hx hb dL_isBottled_105 (by decide) (fun c105 => (f6 c105).elim) (fun c105 => ?_)
    refine lv_aload_n hx hb dL_isBottled_108 rfl (lv_at hl 4 rfl) ?_
    refine kr_i (W.runV (As := []) (rest := []) ⟨hx, hb, hml, hown, hts⟩ (metX2_drawable l D x r t d yg la bs cA cI n hn wm df (drQ h n df q w) wd zs (drH h n df q w) (w4 ++ [(d, ED cI (drK dk h n df q w))]) b2 b3) (cwV 0 hts gL_isBottled_X2_drawable rfl rfl rfl (by decide +kernel) ⟨Nat.le_of_ble_eq_true rfl, Nat.le_of_ble_eq_true rfl⟩) (prV 2 0 RX2 TX2 4 rfl rfl (ws := [(x, EX r t d yg)] ++ (rowW r la bs cA (nI n) wm df (drQ h n df q w) wd zs (drH h n df q w) ++ (w4 ++ [(d, ED cI (drK dk h n df q w))]))) hP (hK.sub [0, 1] rfl)) rfl rfl hl.1 rfl (lv_room (Nat.le_of_ble_eq_true rfl)) dL_isBottled_109 ⟨Nat.le_of_ble_eq_true rfl, Nat.le_of_ble_eq_true rfl⟩) ?_
    refine lv_iload_n hx hb dL_isBottled_112 rfl (lv_at hl 3 rfl) ?_
    refine lv_iload hx hb dL_isBottled_113 (lv_at hl 0 rfl) ?_
    refine lv_isub hx hb dL_isBottled_115 ?_
    refine lv_iconst (v := 1) hx hb dL_isBottled_116 (by decide) ?_
    refine lv_isub hx hb dL_isBottled_117 ?_
    refine lv_icmp_lt (tgt := 125) hx hb dL_isBottled_118 (by decide) (fun c118 => (f7 c118).elim) (fun c118 => ?_)
    refine lv_iconst (v := 1) hx hb dL_isBottled_121 (by decide) ?_
    refine lv_goto (tgt := 126) hx hb dL_isBottled_122 (by decide) ?_
    have hP : va_P D vwCl ([(x, EX r t d yg)] ++ (rowW r la bs cA (nI n) wm df (drQ h n df q w) wd zs (drH h n df q w) ++ (w4 ++ [(d, ED cI (drK dk h n df q w))]))) H := hP
    have hD : va_D A ([(x, EX r t d yg)] ++ (rowW r la bs cA (nI n) wm df (drQ h n df q w) wd zs (drH h n df q w) ++ (w4 ++ [(d, ED cI (drK dk h n df q w))]))) := hD
    refine W.widen (k := 1) (n := 6) (Nat.le_of_ble_eq_true rfl) (Nat.le_of_ble_eq_true rfl) ?_
    exact W.zret hx hb hr (by first | rfl | decide) (fun t9 ht9 hW => ⟨⟨_, (), rfl, rfl, by rw [ht9]; exact hP, va_K.moved hW.alike hK, hD⟩, hS.F ht9⟩) hS.2.2 dL_isBottled_126

set_option maxHeartbeats 4000000 in
set_option maxRecDepth 100000 in
/-- isPoured -/
theorem metL_isPoured (l : Launch) (hst : l.stackTraces = false) (D : va_G) (sz : Nat) (x r t d : Nat) (yg : Int32) (la : Nat) (bs : Nat → Nat) (cA cI : ClassId) (n : Nat) (hn : n ≤ 8) (wm df : Int32) (q : UInt64) (wd zs : Nat → Int32) (h : Nat → UInt64) (w3 : va_W) (j : Nat) (hj : j < n) (hF : pouF n h j) : Met l yL_isPoured wsL_isPoured { frames := 8, cells := 2, slots := 12, locals := 127 } (Pt D [(cA, .object "VinegarLoft$Barrel"), (cI, .int)] [.ref x, .int (nI j)] ([(x, EX r t d yg)] ++ (rowW r la bs cA (nI n) wm df q wd zs h ++ w3)) sz) (va_Qi (fun (r9 : Int32) (_ : Unit) => r9 = 1) (Bm D [(cA, .object "VinegarLoft$Barrel"), (cI, .int)] (va_A ([(x, EX r t d yg)] ++ (rowW r la bs cA (nI n) wm df q wd zs h ++ w3)) sz) ([(x, EX r t d yg)] ++ (rowW r la bs cA (nI n) wm df q wd zs (hset (hset h j 0 0 0 0) j 0 0 0 0) ++ w3))) (va_A ([(x, EX r t d yg)] ++ (rowW r la bs cA (nI n) wm df q wd zs h ++ w3)) sz)) 2 12 (va_A ([(x, EX r t d yg)] ++ (rowW r la bs cA (nI n) wm df q wd zs h ++ w3)) sz) := by
  refine Met.ofW (cc := cL_isPoured) (maxL := 6) (ret := (some .boolean)) (by decide) rfl ?_
  intro p e s m args below meth c s₁ B hml hv
  obtain ⟨rfl, hsz, hP, hK, hD0, hX⟩ := hv
  have hx := B.exec
  have hb := B.bytes
  have hr := B.returns
  have hts := atoms_spec (ws := wsL_isPoured) B.pre
  have hown : s.vm.findClass RL = some m.cls := findClass_of_methodNamed B.named
  have hlocks := B.notSynchronized
  subst hsz
  have hD := hD0.self (sz := s.heap.size)
  generalize hAe : va_A ([(x, EX r t d yg)] ++ (rowW r la bs cA (nI n) wm df q wd zs h ++ w3)) s.heap.size = A at hD hX ⊢
  have hA : ∀ q : Nat, s.heap.size ≤ q → A q := fun q h => by rw [← hAe]; exact Or.inr h
  refine kW_H (fun H hH => ?_)
  have hP : va_P D vwCl ([(x, EX r t d yg)] ++ (rowW r la bs cA (nI n) wm df q wd zs h ++ w3)) H := by rw [hH]; exact hP
  have hS : va_S A s.heap H [] := by rw [hH]; exact va_S.rf
  have hl := lv_entry ([.ref x, .int (nI j)]) (n := 6) (Nat.le_of_ble_eq_true rfl)
  rw [lg_entry_eq]
  generalize (lg_sl ([.ref x, .int (nI j)]) ++ List.replicate (6 - (lg_sl ([.ref x, .int (nI j)])).length) Slot.unset).toArray = ls at hl ⊢
  have hl : lv_has ls 6 [(0, .ref x), (1, .int (nI j))] := hl
  obtain ⟨f1, f2, f3, f4, f5⟩ := hF
  obtain ⟨z1, z2, z3, z4⟩ := hset_vals (h := h) (j := j)
  refine lv_aload_n hx hb dL_isPoured_0 rfl (lv_at hl 0 rfl) ?_
  refine kr_d (W.runS (As := [.ref x]) (rest := []) ⟨hx, hb, hml, hown, hts⟩ (metL_litres l D x r t d yg la bs cA cI n hn wm df q wd zs h w3 f1) (va_cwS 1 hts gL_isPoured_L_litres rfl rfl rfl (by decide +kernel) ⟨Nat.le_of_ble_eq_true rfl, Nat.le_of_ble_eq_true rfl⟩) (prS (ws := [(x, EX r t d yg)] ++ (rowW r la bs cA (nI n) wm df q wd zs h ++ w3)) hP (hK.sub [0, 1] rfl)) rfl rfl hl.1 rfl (lv_room (Nat.le_of_ble_eq_true rfl)) dL_isPoured_1 ⟨Nat.le_of_ble_eq_true rfl, Nat.le_of_ble_eq_true rfl⟩) ?_
  refine lv_dstore_n (lv' := [(2, .double (suL h n)), (0, .ref x), (1, .int (nI j))]) hx hb dL_isPoured_4 rfl hl (by decide) rfl (fun ls hl => ?_)
  refine lv_aload_n hx hb dL_isPoured_5 rfl (lv_at hl 1 rfl) ?_
  refine lv_iload_n hx hb dL_isPoured_6 rfl (lv_at hl 2 rfl) ?_
  refine kr_d (W.runV (As := [.int (nI j)]) (rest := []) ⟨hx, hb, hml, hown, hts⟩ (metR_litresIn l D x r t d yg la bs cA cI n hn wm df q wd zs h w3 j hj ) (cwV 1 hts gL_isPoured_X2_litresIn rfl rfl rfl (by decide +kernel) ⟨Nat.le_of_ble_eq_true rfl, Nat.le_of_ble_eq_true rfl⟩) (prV 2 0 RX2 TX2 4 rfl rfl (ws := [(x, EX r t d yg)] ++ (rowW r la bs cA (nI n) wm df q wd zs h ++ w3)) hP (hK.sub [0, 1] rfl)) rfl rfl hl.1 rfl (lv_room (Nat.le_of_ble_eq_true rfl)) dL_isPoured_7 ⟨Nat.le_of_ble_eq_true rfl, Nat.le_of_ble_eq_true rfl⟩) ?_
  refine lv_dstore (lv' := [(4, .double (h j)), (2, .double (suL h n)), (0, .ref x), (1, .int (nI j))]) hx hb dL_isPoured_10 hl (by decide) rfl (fun ls hl => ?_)
  refine lv_aload_n hx hb dL_isPoured_12 rfl (lv_at hl 2 rfl) ?_
  refine lv_iload_n hx hb dL_isPoured_13 rfl (lv_at hl 3 rfl) ?_
  have hX9 : XP A s H := hX.kept hS.2.1
  have hA9 : ∀ q : Nat, H.size ≤ q → A q := fun q h9 => hA q (Nat.le_trans hS.1 h9)
  refine kq_d (w1 := []) (w2 := [(x, EX r t d yg)] ++ (rowW r la bs cA (nI n) wm df q wd zs h ++ w3)) (w3 := []) (vx_runV (As := [.int (nI j)]) (rest := []) ⟨hx, hb, hml, hown, hts⟩ (metX2_pourAway l hst D H.size x r t d yg la bs cA cI n hn wm df q wd zs h w3 (nI j)) (cwV 1 hts gL_isPoured_X2_pourAway rfl rfl rfl (by decide +kernel) ⟨Nat.le_of_ble_eq_true rfl, Nat.le_of_ble_eq_true rfl⟩) (ptV 2 0 RX2 TX2 4 rfl rfl hP (hK.sub [0, 1] rfl) hD hX9 hA9) rfl rfl hl.1 rfl (lv_room (Nat.le_of_ble_eq_true rfl)) dL_isPoured_14 ⟨Nat.le_of_ble_eq_true rfl, Nat.le_of_ble_eq_true rfl⟩) (by rw [List.nil_append, List.append_nil]; exact hP) (by rw [List.nil_append, List.append_nil]; exact hD) hS hA (fun E ce q9 H locs hB hP hD hS hce hcv hcl => ((fun h9 => badI_j hj hn h9.2) hB).elim) (fun H locs hok hP hD hS => ?_)
  rw [List.nil_append, List.append_nil] at hP hD
  rw [show (nI j).toNatClampNeg = j from nI_clamp (by omega)] at hP hD ⊢
  have hP : va_P D vwCl ([(x, EX r t d yg)] ++ (rowW r la bs cA (nI n) wm df q wd zs (hset h j 0 0 0 0) ++ w3)) H := hP
  have hD : va_D A ([(x, EX r t d yg)] ++ (rowW r la bs cA (nI n) wm df q wd zs (hset h j 0 0 0 0) ++ w3)) := hD
  refine lv_dload hx hb dL_isPoured_17 (lv_at hl 0 rfl) ?_
  refine kd_zne (tgt := 81) hx hb dL_isPoured_19 dL_isPoured_20 (by decide) (eq_ne f2) (fun c19 => (c19 f2).elim) (fun c19 => ?_)
  refine lv_aload_n hx hb dL_isPoured_23 rfl (lv_at hl 2 rfl) ?_
  refine lv_iload_n hx hb dL_isPoured_24 rfl (lv_at hl 3 rfl) ?_
  refine kr_d (W.runV (As := [.int (nI j)]) (rest := []) ⟨hx, hb, hml, hown, hts⟩ (metR_litresIn l D x r t d yg la bs cA cI n hn wm df q wd zs (hset h j 0 0 0 0) w3 j hj ) (cwV 1 hts gL_isPoured_X2_litresIn rfl rfl rfl (by decide +kernel) ⟨Nat.le_of_ble_eq_true rfl, Nat.le_of_ble_eq_true rfl⟩) (prV 2 0 RX2 TX2 4 rfl rfl (ws := [(x, EX r t d yg)] ++ (rowW r la bs cA (nI n) wm df q wd zs (hset h j 0 0 0 0) ++ w3)) hP (hK.sub [0, 1] rfl)) rfl rfl hl.1 rfl (lv_room (Nat.le_of_ble_eq_true rfl)) dL_isPoured_25 ⟨Nat.le_of_ble_eq_true rfl, Nat.le_of_ble_eq_true rfl⟩) ?_
  refine kd_0 hx hb dL_isPoured_28 ?_
  refine kd_zne (tgt := 81) hx hb dL_isPoured_29 dL_isPoured_30 (by decide) (by rw [z1]; exact eq_ne d00) (fun c29 => (c29 (by rw [z1]; exact d00)).elim) (fun c29 => ?_)
  refine lv_aload_n hx hb dL_isPoured_33 rfl (lv_at hl 2 rfl) ?_
  refine lv_iload_n hx hb dL_isPoured_34 rfl (lv_at hl 3 rfl) ?_
  refine kr_d (W.runV (As := [.int (nI j)]) (rest := []) ⟨hx, hb, hml, hown, hts⟩ (metR_acidOf l D x r t d yg la bs cA cI n hn wm df q wd zs (hset h j 0 0 0 0) w3 j hj ) (cwV 1 hts gL_isPoured_X2_acidOf rfl rfl rfl (by decide +kernel) ⟨Nat.le_of_ble_eq_true rfl, Nat.le_of_ble_eq_true rfl⟩) (prV 2 0 RX2 TX2 4 rfl rfl (ws := [(x, EX r t d yg)] ++ (rowW r la bs cA (nI n) wm df q wd zs (hset h j 0 0 0 0) ++ w3)) hP (hK.sub [0, 1] rfl)) rfl rfl hl.1 rfl (lv_room (Nat.le_of_ble_eq_true rfl)) dL_isPoured_35 ⟨Nat.le_of_ble_eq_true rfl, Nat.le_of_ble_eq_true rfl⟩) ?_
  refine kd_0 hx hb dL_isPoured_38 ?_
  refine kd_zne (tgt := 81) hx hb dL_isPoured_39 dL_isPoured_40 (by decide) (by rw [z3]; exact eq_ne d00) (fun c39 => (c39 (by rw [z3]; exact d00)).elim) (fun c39 => ?_)
  refine lv_aload_n hx hb dL_isPoured_43 rfl (lv_at hl 2 rfl) ?_
  refine lv_iload_n hx hb dL_isPoured_44 rfl (lv_at hl 3 rfl) ?_
  refine kr_d (W.runV (As := [.int (nI j)]) (rest := []) ⟨hx, hb, hml, hown, hts⟩ (metR_tasteOf l D x r t d yg la bs cA cI n hn wm df q wd zs (hset h j 0 0 0 0) w3 j hj ⟨by rw [z1]; exact eq_ne d00, fun h9 => by rw [z1, d00] at h9; exact nomatch h9⟩) (cwV 1 hts gL_isPoured_X2_tasteOf rfl rfl rfl (by decide +kernel) ⟨Nat.le_of_ble_eq_true rfl, Nat.le_of_ble_eq_true rfl⟩) (prV 2 0 RX2 TX2 4 rfl rfl (ws := [(x, EX r t d yg)] ++ (rowW r la bs cA (nI n) wm df q wd zs (hset h j 0 0 0 0) ++ w3)) hP (hK.sub [0, 1] rfl)) rfl rfl hl.1 rfl (lv_room (Nat.le_of_ble_eq_true rfl)) dL_isPoured_45 ⟨Nat.le_of_ble_eq_true rfl, Nat.le_of_ble_eq_true rfl⟩) ?_
  refine kd_0 hx hb dL_isPoured_48 ?_
  refine kd_zne (tgt := 81) hx hb dL_isPoured_49 dL_isPoured_50 (by decide) (by rw [z5_t z1]; exact eq_ne d00) (fun c49 => (c49 (by rw [z5_t z1]; exact d00)).elim) (fun c49 => ?_)
  refine lv_aload_n hx hb dL_isPoured_53 rfl (lv_at hl 2 rfl) ?_
  refine kr_d (W.runS (As := [.ref x]) (rest := []) ⟨hx, hb, hml, hown, hts⟩ (metL_litres l D x r t d yg la bs cA cI n hn wm df q wd zs (hset h j 0 0 0 0) w3 f3) (va_cwS 1 hts gL_isPoured_L_litres rfl rfl rfl (by decide +kernel) ⟨Nat.le_of_ble_eq_true rfl, Nat.le_of_ble_eq_true rfl⟩) (prS (ws := [(x, EX r t d yg)] ++ (rowW r la bs cA (nI n) wm df q wd zs (hset h j 0 0 0 0) ++ w3)) hP (hK.sub [0, 1] rfl)) rfl rfl hl.1 rfl (lv_room (Nat.le_of_ble_eq_true rfl)) dL_isPoured_54 ⟨Nat.le_of_ble_eq_true rfl, Nat.le_of_ble_eq_true rfl⟩) ?_
  refine lv_dload hx hb dL_isPoured_57 (lv_at hl 0 rfl) ?_
  refine lv_dadd hx hb dL_isPoured_59 f4 ?_
  refine lv_dload_n hx hb dL_isPoured_60 rfl (lv_at hl 1 rfl) ?_
  refine kr_i (W.runS (As := [.double (FP.dadd (suL (hset h j 0 0 0 0) n) (h j)), .double (suL h n)]) (rest := []) ⟨hx, hb, hml, hown, hts⟩ (metL_isNear l D (FP.dadd (suL (hset h j 0 0 0 0) n) (h j)) (suL h n) f5) (va_cwS 2 hts gL_isPoured_L_isNear rfl rfl rfl (by decide +kernel) ⟨Nat.le_of_ble_eq_true rfl, Nat.le_of_ble_eq_true rfl⟩) (prS (ws := []) (tys := []) (fun k q h => by simp at h) (hK.sub [] rfl)) rfl rfl hl.1 rfl (lv_room (Nat.le_of_ble_eq_true rfl)) dL_isPoured_61 ⟨Nat.le_of_ble_eq_true rfl, Nat.le_of_ble_eq_true rfl⟩) ?_
  refine lv_if_eq (tgt := 81) hx hb dL_isPoured_64 (by decide) (fun c64 => (i32_n1 c64).elim) (fun c64 => ?_)
  refine lv_aload_n hx hb dL_isPoured_67 rfl (lv_at hl 2 rfl) ?_
  refine lv_iload_n hx hb dL_isPoured_68 rfl (lv_at hl 3 rfl) ?_
  have hX9 : XP A s H := hX.kept hS.2.1
  have hA9 : ∀ q : Nat, H.size ≤ q → A q := fun q h9 => hA q (Nat.le_trans hS.1 h9)
  refine kq_d (w1 := []) (w2 := [(x, EX r t d yg)] ++ (rowW r la bs cA (nI n) wm df q wd zs (hset h j 0 0 0 0) ++ w3)) (w3 := []) (vx_runV (As := [.int (nI j)]) (rest := []) ⟨hx, hb, hml, hown, hts⟩ (metX2_pourAway l hst D H.size x r t d yg la bs cA cI n hn wm df q wd zs (hset h j 0 0 0 0) w3 (nI j)) (cwV 1 hts gL_isPoured_X2_pourAway rfl rfl rfl (by decide +kernel) ⟨Nat.le_of_ble_eq_true rfl, Nat.le_of_ble_eq_true rfl⟩) (ptV 2 0 RX2 TX2 4 rfl rfl hP (hK.sub [0, 1] rfl) hD hX9 hA9) rfl rfl hl.1 rfl (lv_room (Nat.le_of_ble_eq_true rfl)) dL_isPoured_69 ⟨Nat.le_of_ble_eq_true rfl, Nat.le_of_ble_eq_true rfl⟩) (by rw [List.nil_append, List.append_nil]; exact hP) (by rw [List.nil_append, List.append_nil]; exact hD) hS hA (fun E ce q9 H locs hB hP hD hS hce hcv hcl => ((fun h9 => badI_j hj hn h9.2) hB).elim) (fun H locs hok hP hD hS => ?_)
  rw [List.nil_append, List.append_nil] at hP hD
  rw [show (nI j).toNatClampNeg = j from nI_clamp (by omega)] at hP hD ⊢
  have hP : va_P D vwCl ([(x, EX r t d yg)] ++ (rowW r la bs cA (nI n) wm df q wd zs (hset (hset h j 0 0 0 0) j 0 0 0 0) ++ w3)) H := hP
  have hD : va_D A ([(x, EX r t d yg)] ++ (rowW r la bs cA (nI n) wm df q wd zs (hset (hset h j 0 0 0 0) j 0 0 0 0) ++ w3)) := hD
  refine kd_0 hx hb dL_isPoured_72 ?_
  refine kd_zne (tgt := 81) hx hb dL_isPoured_73 dL_isPoured_74 (by decide) (by rw [z1]; exact eq_ne d00) (fun c73 => (c73 (by rw [z1]; exact d00)).elim) (fun c73 => ?_)
  refine lv_iconst (v := 1) hx hb dL_isPoured_77 (by decide) ?_
  refine lv_goto (tgt := 82) hx hb dL_isPoured_78 (by decide) ?_
  have hP : va_P D vwCl ([(x, EX r t d yg)] ++ (rowW r la bs cA (nI n) wm df q wd zs (hset (hset h j 0 0 0 0) j 0 0 0 0) ++ w3)) H := hP
  have hD : va_D A ([(x, EX r t d yg)] ++ (rowW r la bs cA (nI n) wm df q wd zs (hset (hset h j 0 0 0 0) j 0 0 0 0) ++ w3)) := hD
  refine W.widen (k := 2) (n := 12) (Nat.le_of_ble_eq_true rfl) (Nat.le_of_ble_eq_true rfl) ?_
  exact W.zret hx hb hr (by first | rfl | decide) (fun t9 ht9 hW => ⟨⟨_, (), rfl, rfl, by rw [ht9]; exact hP, va_K.moved hW.alike hK, hD⟩, hS.F ht9⟩) hS.2.2 dL_isPoured_82

