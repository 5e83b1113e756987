/-! THE LAW'S BODY from its entry -/
theorem abH_wW {d : Nat → Int → UInt64} {i j : Nat → Int → Int} : wW d i j (i, j) (i, j) = (121, rRK, i, j, d) := by
  have e : ∀ (lo hi : Nat) (f : Nat → Int → Int), mrg lo hi f f = f := fun lo hi f => by
    funext k x
    unfold mrg
    split <;> rfl
  unfold wW abH
  simp only [e]
theorem ha_12 {i j : Nat → Int → Int} {d : Nat → Int → UInt64} : aX12_0 (71, rZ12, i, j, d) = (119, RX12_54, (aX12_0 (71, rZ12, i, j, d)).2.2.1, (aX12_0 (71, rZ12, i, j, d)).2.2.2.1, (aX12_0 (71, rZ12, i, j, d)).2.2.2.2) := Prod.ext a12_ok.1 (Prod.ext a12_r rfl)
theorem st_K {xs : Nat → Int32} {b : HH} {j : Nat → Int → Int} (f : Fr sWm (iB xs, j) b) (hw : WY (gD b.1) (gT b.1) (gL b.1) (iB xs) 0) (ht : TB (gD b.1) (gT b.1) (gL b.1)) (h0 : ∀ x y, 0 ≤ x → x ≤ 15 → 0 ≤ y → y ≤ 15 → 0 ≤ b.1 78 (16 * x + y)) : ST0 xs (upC (upC (mrg 71 119 b.1 (iB xs)) 120 (fun _ => 0)) 121 (fun _ => 0)) := by
  have e : ∀ c x, c ≤ 119 → upC (upC (mrg 71 119 b.1 (iB xs)) 120 (fun _ => 0)) 121 (fun _ => 0) c x = mrg 71 119 b.1 (iB xs) c x := fun c x hc => by rw [upC_ne (by omega), upC_ne (by omega)]
  have e78 : ∀ c x, 78 ≤ c ∧ c ≤ 80 → upC (upC (mrg 71 119 b.1 (iB xs)) 120 (fun _ => 0)) 121 (fun _ => 0) c x = b.1 c x := fun c x hc => by rw [e c x (by omega), mrg_in (by omega)]
  generalize upC (upC (mrg 71 119 b.1 (iB xs)) 120 (fun _ => 0)) 121 (fun _ => 0) = K at e e78
  have k78 : K 78 = b.1 78 := by funext x; exact e78 78 x (by omega)
  have k79 : K 79 = b.1 79 := by funext x; exact e78 79 x (by omega)
  have k80 : K 80 = b.1 80 := by funext x; exact e78 80 x (by omega)
  refine ⟨fun c x hc hs => ?_, ?_, ?_, ?_⟩
  · rw [e c x hc]
    show (if 71 ≤ c ∧ c ≤ 119 then b.1 c x else iB xs c x) = iB xs c x
    by_cases z : 71 ≤ c ∧ c ≤ 119
    · rw [if_pos z]
      exact f.2 c x (by dsimp only [sWm]; omega)
    · rw [if_neg z]
  · unfold gD gT gL at hw ⊢
    rw [k78, k79, k80]
    exact hw
  · unfold gD gT gL at ht ⊢
    rw [k78, k79, k80]
    exact ht
  · rw [k78]
    exact h0
section BODY
variable {p : Program} {l : Launch} {e : Env} {s : State} {m : MethodId} {below : List Frame} {meth : Method} {c : Code} {D : va_G} {cy : Nat → ClassId} {b L : Nat} {xs : Nat → Int32}
theorem LG_swap {pc : Nat} {lc : AL} {st : AS} {σ : SG} {cells slots : Nat} {r2 : Nat → Int → Nat} (hs : sameR σ.1 σ.2.1 r2) (hw : ∀ k i, r2 k i ≤ σ.1) (hK : σ.1 ≤ 121) (q : LG p l e s m b below meth c D cy pc lc st (σ.1, r2, σ.2.2) cells slots) : LG p l e s m b below meth c D cy pc lc st σ cells slots :=
  g_swap hs hw (fun k k2 kK => tg_ok k2 (by omega)) q
theorem segQw (hLC : LC p l s m b meth c D cy L xs) {pc pc2 N : Nat} {l0 lc : AL} {st0 st : AS} {σ σ1 : SG} {cells slots c1 s1 : Nat} (q : LG p l e s m b below meth c D cy pc2 l0 st0 σ1 c1 s1) (hs : ∀ f : AL → AS → SW → Option Unit, segL L xs clN csL_law (cuC pc2 f cuN) N pc lc st (σ, cells, slots) = f l0 st0 (σ1, c1, s1)) : LG p l e s m b below meth c D cy pc lc st σ cells slots :=
  seg_lg hLC CLK_N rwL_law (ct_C (g := cuQ l0 st0 (σ1, c1, s1) ()) (fun lc st s1 z => by
    obtain ⟨rfl, rfl, rfl⟩ := cuQ_of z
    exact q) ct_N) N pc lc st (σ, cells, slots) ((hs _).trans cuQ_t)
set_option maxRecDepth 100000 in
theorem law_body (hLC : LC p l s m b meth c D cy L xs) : LG p l e s m b below meth c D cy 0 [(0, aR 1)] [] (σE xs) 0 0 := by
  have hL := hLC.2.2.2.2
  obtain ⟨wb, b1, b2, b3, b4, b5⟩ := ways_ex (i := iB xs) (j := jB xs) iB_71_9
  -- behind both constructors
  have l28 : LG p l e s m b below meth c D cy 28 [(5, aI 0), (4, aR 121), (3, aR 120), (2, aR 71), (1, aR 2), (0, aR 1)] [] (uN (uN (abH 71 119 (119, rRK, iB xs, jB xs, (σM xs).2.2.2.2) wb))) 121 25602 := by
    refine LG_swap (r2 := rRK) (sameB_ok same_R) (fun k i => Nat.le_trans (rRK_le k i) (by show 119 ≤ 121; omega)) (by show 121 ≤ 121; omega) ?_
    have hI := st_inv (J := upC (upC (mrg 71 119 wb.2 (jB xs)) 120 (fun _ => 0)) 121 (fun _ => 0)) (st_K b2 b3 b4 b5) (by
      show mrg 71 119 wb.2 (jB xs) 67 5 = 0
      unfold mrg
      rw [if_neg (by omega)]
      exact jB_67)
    have q := law_loop (below := below) (e := e) hLC 512 0 121 25602 (upC (upC (σM xs).2.2.2.2 120 (fun _ => 0)) 121 (fun _ => 0)) (upC (upC (mrg 71 119 wb.1 (iB xs)) 120 (fun _ => 0)) 121 (fun _ => 0)) (upC (upC (mrg 71 119 wb.2 (jB xs)) 120 (fun _ => 0)) 121 (fun _ => 0)) _ _ [(5, aI 0), (4, aR 121), (3, aR 120), (2, aR 71), (1, aR 2), (0, aR 1)] (by omega) (by omega) (by omega) hI (fun q hq => by
      unfold lcE at hq
      simp only [List.mem_cons, List.not_mem_nil, or_false] at hq ⊢
      rcases hq with z | z | z | z | z | z
      · exact Or.inr (Or.inr (Or.inr (Or.inr (Or.inr z))))
      · exact Or.inr (Or.inr (Or.inr (Or.inr (Or.inl z))))
      · exact Or.inr (Or.inr (Or.inr (Or.inl z)))
      · exact Or.inr (Or.inr (Or.inl z))
      · exact Or.inr (Or.inl z)
      · exact Or.inl z)
    rw [abH_wW] at q
    exact q
  have l15 : LG p l e s m b below meth c D cy 15 [(1, aR 2), (0, aR 1)] [aR 71] (abH 71 119 (119, rRK, iB xs, jB xs, (σM xs).2.2.2.2) wb) 118 25600 := by
    have eq : ∀ f : AL → AS → SW → Option Unit, segL L xs clN csL_law (cuC 28 f cuN) 200 15 [(1, aR 2), (0, aR 1)] [aR 71] (abH 71 119 (119, rRK, iB xs, jB xs, (σM xs).2.2.2.2) wb, 118, 25600) = f [(5, aI 0), (4, aR 121), (3, aR 120), (2, aR 71), (1, aR 2), (0, aR 1)] [] (uN (uN (abH 71 119 (119, rRK, iB xs, jB xs, (σM xs).2.2.2.2) wb)), 120, 25602) := fun _ => rfl
    exact segQw hLC (pc2 := 28) (N := 200) (LG_wid l28 (cells := 120) (slots := 25602) ⟨by omega, by omega⟩ ⟨by omega, by omega⟩) eq
  -- the model
  have hM := mcX12 (i := upC (σC xs).2.2.1 71 (fun _ => 0)) (j := upC (σC xs).2.2.2.1 71 (fun _ => 0)) (d := upC (σC xs).2.2.2.2 71 (fun _ => 0)) ha_12 b1
  have l8 : LG p l e s m b below meth c D cy 8 [(1, aR 2), (0, aR 1)] [] (70, rC70, (σC xs).2.2.1, (σC xs).2.2.2.1, (σC xs).2.2.2.2) 69 12004 := by
    have eq : ∀ f : AL → AS → SW → Option Unit, segL L xs clN csL_law (cuC 12 f cuN) 200 8 [(1, aR 2), (0, aR 1)] [] ((70, rC70, (σC xs).2.2.1, (σC xs).2.2.2.1, (σC xs).2.2.2.2), 69, 12004) = f [(1, aR 2), (0, aR 1)] [aR 71, aR 71] ((71, rZ12, upC (σC xs).2.2.1 71 (fun _ => 0), upC (σC xs).2.2.2.1 71 (fun _ => 0), upC (σC xs).2.2.2.2 71 (fun _ => 0)), 70, 12083) := fun _ => rfl
    have l12 : LG p l e s m b below meth c D cy 12 [(1, aR 2), (0, aR 1)] [aR 71, aR 71] (71, rZ12, upC (σC xs).2.2.1 71 (fun _ => 0), upC (σC xs).2.2.2.1 71 (fun _ => 0), upC (σC xs).2.2.2.2 71 (fun _ => 0)) 70 12083 := by
      refine g_callI (n := 169) (as := []) (a := 71) (rest := [aR 71]) hLC.1 (Or.inl ⟨by decide +kernel, callB_ok (by decide +kernel)⟩) (by decide +kernel) (rowsB_at rwL_law (pc := 12) (r := (3, .invokespecial 142, 169, 1, 12)) rfl).1 rfl (by decide +kernel) hM ⟨Nat.le_of_ble_eq_true rfl, Nat.le_of_ble_eq_true rfl⟩ ?_
      exact LG_wid l15 ⟨Nat.le_of_ble_eq_true rfl, Nat.le_of_ble_eq_true rfl⟩ ⟨by omega, by omega⟩
    exact segQw hLC (pc2 := 12) (N := 200) l12 eq
  -- the class
  have l8' : LG p l e s m b below meth c D cy 8 [(1, aR 2), (0, aR 1)] [] (σC xs) 69 12004 := LG_swap (σ := σC xs) (r2 := rC70) (same_E xs) rC70_le (by show 70 ≤ 121; omega) l8
  have eq : ∀ f : AL → AS → SW → Option Unit, segL L xs (clC 111 (clI 601024 7293034 111 2 [aR 2] wX11) clN) csL_law (cuC 8 f cuN) 200 0 [(0, aR 1)] [] (σE xs, 0, 0) = f [(1, aR 2), (0, aR 1)] [] (σC xs, 69, 12004) := fun _ => rfl
  refine seg_lg hLC (CLK_C (CLK1_I (by decide +kernel) (fun σ h => mcX11 h)) CLK_N) rwL_law (cut := cuC 8 (cuQ [(1, aR 2), (0, aR 1)] [] (σC xs, 69, 12004) ()) cuN) (ct_C (fun lc st s1 z => by
    obtain ⟨rfl, rfl, rfl⟩ := cuQ_of z
    exact l8') ct_N) 200 0 [(0, aR 1)] [] (σE xs, 0, 0) ?_
  rw [eq]
  exact cuQ_t
end BODY
theorem whole_start {p : Program} {e : Env} {s : State} {m : MethodId} {below : List Frame} {meth : Method} {c : Code} (l : Launch) (hflags : l.flags = flags0) {b L : Nat} {xs : Nat → Int32} (hL : L ≤ 3072) (C0 : lw_At p s m meth c b L xs) : W p l e room_1 s m #[Value.ref b] below meth c s.heap [] 0 0 (lw_Z below #[Value.ref b] s) (entryFrame m ([Value.ref b] : List Value).toArray 10) :=
  law_start hflags hL C0 (fun D cy hC => law_body ⟨hC, C0.2.2.1, C0.2.2.2.2.2.2.1, C0.2.2.2.2.2.2.2.1, hL⟩)
