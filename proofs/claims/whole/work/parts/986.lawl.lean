/-! THE LAW'S LOOP -/
section LAWL
variable {p : Program} {l : Launch} {e : Env} {s : State} {m : MethodId} {below : List Frame} {meth : Method} {c : Code} {D : va_G} {cy : Nat → ClassId} {b L : Nat} {xs : Nat → Int32} {cells slots : Nat} {d : Nat → Int → UInt64} {i9 j9 : Nat → Int → Int} {h h' : HH} {k : Int}
theorem cs_meanPay (hLC : LC p l s m b meth c D cy L xs) (k0 : 0 ≤ k) (k1 : k + 6 ≤ L) (hr : cells + 20 ≤ 601024 ∧ slots + 100 ≤ 7293034) (i : INV h h') (nx : NX p l e s m b below meth c D cy k cells slots) : LG p l e s m b below meth c D cy 2773 (lcE k) [] (wW d i9 j9 h h') cells slots := by
  have hL := hLC.2.2.2.2
  obtain ⟨r, er, r', er', hq, iq⟩ := op_meanPay i
  have hM := mct_c (mX11_meanPay (gc_ok (d := d) (i9 := i9) (j9 := j9) (h' := h')) er)
  have hN : MCT 267 [] [aR 71] (wW d i9 j9 h h') (.inl (some (aD r'.1))) (wW d i9 j9 h r'.2) := mX12_meanPay gm_ok er'
  have c0 : cells + mC 151 + mC 267 ≤ cells + 20 ∧ slots + mS 151 + mS 267 ≤ slots + 100 := ⟨roomD (by decide +kernel), roomD (by decide +kernel)⟩
  have hy : r'.1 = r := hq.2
  generalize hz : r'.1 = z at hN hy
  have eC : ∀ (y z : UInt64) (c9 s9 : Nat) (f : AL → AS → SW → Option Unit), segL L xs clN csL_law (cuC 28 f cuN) 200 2783 [(6, aD y), (0, aR 1), (1, aR 2), (2, aR 71), (3, aR 120), (4, aR 121), (5, aI k)] [aD z] (wW d i9 j9 h r'.2, c9, s9) = if (Op.cmpValue (FP.dcmp y z) .l).toInt = 0 then gd (R32 (k + 6)) (f [(5, aI (k + 6)), (8, aD z), (6, aD y), (0, aR 1), (1, aR 2), (2, aR 71), (3, aR 120), (4, aR 121)] [] (wW d i9 j9 h r'.2, c9, s9)) else if (Op.cmpValue (FP.dcmp y y) .l).toInt = 0 then gd ((0 : Int) ≤ 0 ∧ (0 : Int) ≤ 1) (krL (some (aI 0)) (wW d i9 j9 h r'.2, c9, s9)) else if (Op.cmpValue (FP.dcmp z z) .l).toInt = 0 then gd ((0 : Int) ≤ 0 ∧ (0 : Int) ≤ 1) (krL (some (aI 0)) (wW d i9 j9 h r'.2, c9, s9)) else gd (R32 (k + 6)) (f [(5, aI (k + 6)), (8, aD z), (6, aD y), (0, aR 1), (1, aR 2), (2, aR 71), (3, aR 120), (4, aR 121)] [] (wW d i9 j9 h r'.2, c9, s9)) := fun _ _ _ _ _ => rfl
  have lC : LG p l e s m b below meth c D cy 2783 [(6, aD r), (0, aR 1), (1, aR 2), (2, aR 71), (3, aR 120), (4, aR 121), (5, aI k)] [aD z] (wW d i9 j9 h r'.2) (cells + mC 151 + mC 267) (slots + mS 151 + mS 267) := by
    refine segQ hLC (pc2 := 28) (N := 200) (LG_wid (nx d i9 j9 h r'.2 [(5, aI (k + 6)), (8, aD z), (6, aD r), (0, aR 1), (1, aR 2), (2, aR 71), (3, aR 120), (4, aR 121)] iq lcN_s) c0 hr) ?_
    rw [eC, hy]
    rcases dcmp_self r with w | w
    · rw [if_pos w, gd_t ⟨by omega, by omega⟩]
      exact cuQ_t
    · rw [if_neg (by omega), if_neg (by omega), if_neg (by omega), gd_t ⟨by omega, by omega⟩]
      exact cuQ_t
  have eB : ∀ (y : UInt64) (c9 s9 : Nat) (f : AL → AS → SW → Option Unit), segL L xs clN csL_law (cuC 2780 f cuN) 200 2777 [(0, aR 1), (1, aR 2), (2, aR 71), (3, aR 120), (4, aR 121), (5, aI k)] [aD y] (wW d i9 j9 h h', c9, s9) = f [(6, aD y), (0, aR 1), (1, aR 2), (2, aR 71), (3, aR 120), (4, aR 121), (5, aI k)] [aR 71] (wW d i9 j9 h h', c9, s9) := fun _ _ _ _ => rfl
  have lB : LG p l e s m b below meth c D cy 2777 [(0, aR 1), (1, aR 2), (2, aR 71), (3, aR 120), (4, aR 121), (5, aI k)] [aD r] (wW d i9 j9 h h') (cells + mC 151) (slots + mS 151) := by
    refine segQ hLC (pc2 := 2780) (N := 200) (callV_lg hLC (n := 267) (a := 71) (as := []) (rest := []) (by decide +kernel) (rowsB_at rwL_law (pc := 2780) (r := (3, .invokevirtual 281, 267, 1, 12)) rfl).1 (by decide +kernel) rfl ⟨by decide, by show 71 ≤ 121; omega⟩ (by decide +kernel) (by decide +kernel) (by decide +kernel) hN ⟨by omega, by omega⟩ lC) ?_
    show segL L xs clN csL_law _ 200 2777 [(0, aR 1), (1, aR 2), (2, aR 71), (3, aR 120), (4, aR 121), (5, aI k)] _ _ = some ()
    rw [eB]
    exact cuQ_t
  have eA : ∀ (f : AL → AS → SW → Option Unit), segL L xs clN csL_law (cuC 2774 f cuN) 200 2773 [(0, aR 1), (1, aR 2), (2, aR 71), (3, aR 120), (4, aR 121), (5, aI k)] [] (wW d i9 j9 h h', cells, slots) = f [(0, aR 1), (1, aR 2), (2, aR 71), (3, aR 120), (4, aR 121), (5, aI k)] [aR 2] (wW d i9 j9 h h', cells, slots) := fun _ => rfl
  refine segQ hLC (pc2 := 2774) (N := 200) (callV_lg hLC (n := 151) (a := 2) (as := []) (rest := []) (by decide +kernel) (rowsB_at rwL_law (pc := 2774) (r := (3, .invokevirtual 277, 151, 1, 11)) rfl).1 (by decide +kernel) rfl ⟨by decide, by show 2 ≤ 121; omega⟩ (by decide +kernel) (by decide +kernel) (by decide +kernel) hM ⟨by omega, by omega⟩ lB) ?_
  show segL L xs clN csL_law _ 200 2773 [(0, aR 1), (1, aR 2), (2, aR 71), (3, aR 120), (4, aR 121), (5, aI k)] [] _ = some ()
  rw [eA]
  exact cuQ_t
theorem cs_end (hLC : LC p l s m b meth c D cy L xs) (k0 : 0 ≤ k) (k1 : k + 6 ≤ L) (hr : cells + 20 ≤ 601024 ∧ slots + 100 ≤ 7293034) (i : INV h h') (nx : NX p l e s m b below meth c D cy k cells slots) : LG p l e s m b below meth c D cy 2905 (lcE k) [] (wW d i9 j9 h h') cells slots := by
  have hL := hLC.2.2.2.2
  have eC : ∀ (f : AL → AS → SW → Option Unit), segL L xs clN csL_law (cuC 28 f cuN) 200 2905 [(0, aR 1), (1, aR 2), (2, aR 71), (3, aR 120), (4, aR 121), (5, aI k)] [] (wW d i9 j9 h h', cells, slots) = gd (R32 (k + 6)) (f [(5, aI (k + 6)), (0, aR 1), (1, aR 2), (2, aR 71), (3, aR 120), (4, aR 121)] [] (wW d i9 j9 h h', cells, slots)) := fun _ => rfl
  refine segQ hLC (pc2 := 28) (N := 200) (LG_wid (nx d i9 j9 h h' [(5, aI (k + 6)), (0, aR 1), (1, aR 2), (2, aR 71), (3, aR 120), (4, aR 121)] i lcN0_s) ⟨by omega, by omega⟩ hr) ?_
  show segL L xs clN csL_law _ 200 2905 [(0, aR 1), (1, aR 2), (2, aR 71), (3, aR 120), (4, aR 121), (5, aI k)] [] _ = some ()
  rw [eC, gd_t ⟨by omega, by omega⟩]
  exact cuQ_t
theorem swt_of {β : Type} {x : Int} {dd : Option β} {kk : Nat → Option β} {b : β} {pc : Nat} : ∀ {os : List Int} {lo : Int}, dd = some b → (∀ o ∈ os, kk ((pc : Int) + o).toNat = some b) → swt x dd kk pc lo os = some b
  | [], _, h1, _ => h1
  | o :: os, lo, h1, h2 => by
    unfold swt
    by_cases c : x = lo
    · rw [if_pos c]; exact h2 o List.mem_cons_self
    · rw [if_neg c]; exact swt_of h1 (fun o ho => h2 o (List.mem_cons_of_mem _ ho))
def tsL : List Nat := [228, 332, 400, 480, 560, 640, 720, 812, 892, 972, 1028, 1108, 1200, 1256, 1312, 1368, 1424, 1480, 1548, 1616, 1672, 1740, 1784, 1864, 1932, 1945, 1986, 2042, 2126, 2194, 2262, 2330, 2343, 2427, 2483, 2539, 2583, 2651, 2718, 2773, 2814, 2892, 2905]
def osL : List Int := [183, 287, 355, 435, 515, 595, 675, 767, 847, 927, 983, 1063, 1155, 1211, 1267, 1323, 1379, 1435, 1503, 1571, 1627, 1695, 1739, 1819, 1887, 1900, 1941, 1997, 2081, 2149, 2217, 2285, 2298, 2382, 2438, 2494, 2538, 2606, 2673, 2728, 2769, 2847]
theorem os_ts : ∀ o ∈ osL, (((45 : Nat) : Int) + o).toNat ∈ tsL := by decide +kernel
noncomputable def cuTS (l0 : AL) (s0 : SW) : Nat → Option (AL → AS → SW → Option Unit) := fun q => if q ∈ tsL then some (cuQ l0 [] s0 ()) else none
/-- each operation -/
theorem cs_all (hLC : LC p l s m b meth c D cy L xs) (k0 : 0 ≤ k) (k1 : k + 6 ≤ L) (hr : cells + 20 ≤ 601024 ∧ slots + 100 ≤ 7293034) (i : INV h h') (nx : NX p l e s m b below meth c D cy k cells slots) : ∀ q ∈ tsL, LG p l e s m b below meth c D cy q (lcE k) [] (wW d i9 j9 h h') cells slots :=
  List.forall_mem_cons.mpr ⟨cs_street hLC k0 k1 hr i nx, List.forall_mem_cons.mpr ⟨cs_factor hLC k0 k1 hr i nx, List.forall_mem_cons.mpr ⟨cs_way hLC k0 k1 hr i nx, List.forall_mem_cons.mpr ⟨cs_arrival hLC k0 k1 hr i nx, List.forall_mem_cons.mpr ⟨cs_clock hLC k0 k1 hr i nx, List.forall_mem_cons.mpr ⟨cs_parcel hLC k0 k1 hr i nx, List.forall_mem_cons.mpr ⟨cs_window hLC k0 k1 hr i nx, List.forall_mem_cons.mpr ⟨cs_van hLC k0 k1 hr i nx, List.forall_mem_cons.mpr ⟨cs_put hLC k0 k1 hr i nx, List.forall_mem_cons.mpr ⟨cs_takeOut hLC k0 k1 hr i nx, List.forall_mem_cons.mpr ⟨cs_turned hLC k0 k1 hr i nx, List.forall_mem_cons.mpr ⟨cs_swapEnds hLC k0 k1 hr i nx, List.forall_mem_cons.mpr ⟨cs_savings hLC k0 k1 hr i nx, List.forall_mem_cons.mpr ⟨cs_putIn hLC k0 k1 hr i nx, List.forall_mem_cons.mpr ⟨cs_putInCost hLC k0 k1 hr i nx, List.forall_mem_cons.mpr ⟨cs_better hLC k0 k1 hr i nx, List.forall_mem_cons.mpr ⟨cs_exact hLC k0 k1 hr i nx, List.forall_mem_cons.mpr ⟨cs_roundAt hLC k0 k1 hr i nx, List.forall_mem_cons.mpr ⟨cs_ofRound hLC k0 k1 hr i nx, List.forall_mem_cons.mpr ⟨cs_served hLC k0 k1 hr i nx, List.forall_mem_cons.mpr ⟨cs_does hLC k0 k1 hr i nx, List.forall_mem_cons.mpr ⟨cs_undo hLC k0 k1 hr i nx, List.forall_mem_cons.mpr ⟨cs_rules hLC k0 k1 hr i nx, List.forall_mem_cons.mpr ⟨cs_piece hLC k0 k1 hr i nx, List.forall_mem_cons.mpr ⟨cs_unlawful hLC k0 k1 hr i nx, List.forall_mem_cons.mpr ⟨cs_mayDrive hLC k0 k1 hr i nx, List.forall_mem_cons.mpr ⟨cs_leastTime hLC k0 k1 hr i nx, List.forall_mem_cons.mpr ⟨cs_door hLC k0 k1 hr i nx, List.forall_mem_cons.mpr ⟨cs_locker hLC k0 k1 hr i nx, List.forall_mem_cons.mpr ⟨cs_parcelAt hLC k0 k1 hr i nx, List.forall_mem_cons.mpr ⟨cs_setZone hLC k0 k1 hr i nx, List.forall_mem_cons.mpr ⟨cs_balance hLC k0 k1 hr i nx, List.forall_mem_cons.mpr ⟨cs_zone hLC k0 k1 hr i nx, List.forall_mem_cons.mpr ⟨cs_together hLC k0 k1 hr i nx, List.forall_mem_cons.mpr ⟨cs_share hLC k0 k1 hr i nx, List.forall_mem_cons.mpr ⟨cs_blocks hLC k0 k1 hr i nx, List.forall_mem_cons.mpr ⟨cs_rates hLC k0 k1 hr i nx, List.forall_mem_cons.mpr ⟨cs_pay hLC k0 k1 hr i nx, List.forall_mem_cons.mpr ⟨cs_books hLC k0 k1 hr i nx, List.forall_mem_cons.mpr ⟨cs_meanPay hLC k0 k1 hr i nx, List.forall_mem_cons.mpr ⟨cs_filled hLC k0 k1 hr i nx, List.forall_mem_cons.mpr ⟨cs_errors hLC k0 k1 hr i nx, List.forall_mem_cons.mpr ⟨cs_end hLC k0 k1 hr i nx, (fun _ z => absurd z List.not_mem_nil)⟩⟩⟩⟩⟩⟩⟩⟩⟩⟩⟩⟩⟩⟩⟩⟩⟩⟩⟩⟩⟩⟩⟩⟩⟩⟩⟩⟩⟩⟩⟩⟩⟩⟩⟩⟩⟩⟩⟩⟩⟩⟩⟩
theorem cs_head (hLC : LC p l s m b meth c D cy L xs) {lc : AL} (k0 : 0 ≤ k) (hlc : ∀ q ∈ lcE k, q ∈ lc) (hc : cells ≤ 601024 ∧ slots ≤ 7293034) (kk : k + 6 ≤ L → ∀ q ∈ tsL, LG p l e s m b below meth c D cy q (lcE k) [] (wW d i9 j9 h h') cells slots) : LG p l e s m b below meth c D cy 28 lc [] (wW d i9 j9 h h') cells slots := by
  have hL := hLC.2.2.2.2
  have hl1 : lnL L 1 = (L : Int) := rfl
  refine LG_less (lc' := lcE k) ?_ hlc
  have eH : ∀ (f : AL → AS → SW → Option Unit), segL L xs clN csL_law (cuC 45 f cuN) 200 28 [(0, aR 1), (1, aR 2), (2, aR 71), (3, aR 120), (4, aR 121), (5, aI k)] [] (wW d i9 j9 h h', cells, slots) = gd (R32 (lnL L 1 - 6)) (if lnL L 1 - 6 < k then gd ((0 : Int) ≤ 1 ∧ (1 : Int) ≤ 1) (krL (some (aI 1)) (wW d i9 j9 h h', cells, slots)) else gd ((0 : Int) ≤ k ∧ k < lnL L 1) (f [(0, aR 1), (1, aR 2), (2, aR 71), (3, aR 120), (4, aR 121), (5, aI k)] [aI (andI (xs k.toNat).toInt 63)] (wW d i9 j9 h h', cells, slots))) := fun _ => rfl
  by_cases c1 : (L : Int) - 6 < k
  · refine seg_lg hLC CLK_N rwL_law ct_N 200 28 (lcE k) [] (wW d i9 j9 h h', cells, slots) ?_
    have eH0 : segL L xs clN csL_law cuN 200 28 [(0, aR 1), (1, aR 2), (2, aR 71), (3, aR 120), (4, aR 121), (5, aI k)] [] (wW d i9 j9 h h', cells, slots) = gd (R32 (lnL L 1 - 6)) (if lnL L 1 - 6 < k then gd ((0 : Int) ≤ 1 ∧ (1 : Int) ≤ 1) (krL (some (aI 1)) (wW d i9 j9 h h', cells, slots)) else segL L xs clN csL_law cuN 194 38 [(0, aR 1), (1, aR 2), (2, aR 71), (3, aR 120), (4, aR 121), (5, aI k)] [] (wW d i9 j9 h h', cells, slots)) := rfl
    show segL L xs clN csL_law cuN 200 28 [(0, aR 1), (1, aR 2), (2, aR 71), (3, aR 120), (4, aR 121), (5, aI k)] [] _ = some ()
    rw [eH0, hl1, gd_t ⟨by omega, by omega⟩, if_pos c1, gd_t ⟨by omega, by omega⟩]
    exact gd_t ⟨rfl, hc.1, hc.2⟩
  · have hall := kk (by omega)
    have l45 : LG p l e s m b below meth c D cy 45 (lcE k) [aI (andI (xs k.toNat).toInt 63)] (wW d i9 j9 h h') cells slots := by
      refine seg_lg hLC CLK_N rwL_law (cut := cuTS (lcE k) (wW d i9 j9 h h', cells, slots)) (fun pc f hf lc st s1 hs => ?_) 200 45 (lcE k) [aI (andI (xs k.toNat).toInt 63)] (wW d i9 j9 h h', cells, slots) ?_
      · unfold cuTS at hf
        split at hf
        · rename_i hin
          cases hf
          obtain ⟨rfl, rfl, rfl⟩ := cuQ_of hs
          exact hall pc hin
        · cases hf
      · have hcut : ∀ q ∈ tsL, cuTS (lcE k) (wW d i9 j9 h h', cells, slots) q = some (cuQ (lcE k) [] (wW d i9 j9 h h', cells, slots) ()) := fun q hq => if_pos hq
        have hc45 : fnd2 csL_law 45 = some (183, .tableswitch 2860 0 41 #[183, 287, 355, 435, 515, 595, 675, 767, 847, 927, 983, 1063, 1155, 1211, 1267, 1323, 1379, 1435, 1503, 1571, 1627, 1695, 1739, 1819, 1887, 1900, 1941, 1997, 2081, 2149, 2217, 2285, 2298, 2382, 2438, 2494, 2538, 2606, 2673, 2728, 2769, 2847], 0, 0, 0) := rfl
        unfold segL seg
        rw [hc45]
        show swt _ _ _ 45 0 osL = some ()
        refine swt_of ?_ (fun o ho => ?_)
        · have hin : (((45 : Nat) : Int) + 2860).toNat ∈ tsL := by decide +kernel
          generalize (((45 : Nat) : Int) + 2860).toNat = q at hin
          dsimp only
          rw [hcut q hin]
          exact cuQ_t
        · have hin := os_ts o ho
          generalize (((45 : Nat) : Int) + o).toNat = q at hin
          dsimp only
          rw [hcut q hin]
          exact cuQ_t
    refine segQ hLC (pc2 := 45) (N := 200) l45 ?_
    show segL L xs clN csL_law _ 200 28 [(0, aR 1), (1, aR 2), (2, aR 71), (3, aR 120), (4, aR 121), (5, aI k)] [] _ = some ()
    rw [eH, hl1, gd_t ⟨by omega, by omega⟩, if_neg c1, gd_t ⟨by omega, by omega⟩]
    exact cuQ_t
theorem law_loop (hLC : LC p l s m b meth c D cy L xs) : ∀ (r : Nat) (k : Int) (cells slots : Nat) (d : Nat → Int → UInt64) (i9 j9 : Nat → Int → Int) (h h' : HH) (lc : AL), 0 ≤ k → (L : Int) < k + 6 + 6 * r → cells + 20 * r ≤ 601024 ∧ slots + 100 * r ≤ 7293034 → INV h h' → (∀ q ∈ lcE k, q ∈ lc) → LG p l e s m b below meth c D cy 28 lc [] (wW d i9 j9 h h') cells slots := by
  intro r
  induction r with
  | zero =>
    intro k cells slots d i9 j9 h h' lc k0 k1 hr i hlc
    exact cs_head hLC k0 hlc ⟨by omega, by omega⟩ (fun z => absurd z (by omega))
  | succ r ih =>
    intro k cells slots d i9 j9 h h' lc k0 k1 hr i hlc
    exact cs_head hLC k0 hlc ⟨by omega, by omega⟩ (fun z => cs_all hLC k0 z ⟨by omega, by omega⟩ i (fun d i9 j9 h h' lc i hlc => ih (k + 6) (cells + 20) (slots + 100) d i9 j9 h h' lc (by omega) (by omega) ⟨by omega, by omega⟩ i hlc))
end LAWL
