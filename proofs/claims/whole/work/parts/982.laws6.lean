/-! THE LAW'S LOOP: cases -/
section LAWS
variable {p : Program} {l : Launch} {e : Env} {s : State} {m : MethodId} {below : List Frame} {meth : Method} {c : Code} {D : va_G} {cy : Nat → ClassId} {b L : Nat} {xs : Nat → Int32} {cells slots : Nat} {d : Nat → Int → UInt64} {i9 j9 : Nat → Int → Int} {h h' : HH} {k : Int}
theorem cs_share (hLC : LC p l s m b meth c D cy L xs) (k0 : 0 ≤ k) (k1 : k + 6 ≤ L) (hr : cells + 20 ≤ 601024 ∧ slots + 100 ≤ 7293034) (i : INV h h') (nx : NX p l e s m b below meth c D cy k cells slots) : LG p l e s m b below meth c D cy 2483 (lcE k) [] (wW d i9 j9 h h') cells slots := by
  have hL := hLC.2.2.2.2
  have hl1 : lnL L 1 = (L : Int) := rfl
  obtain ⟨r, er, r', er', hq, iq⟩ := op_share i (xa xs k 1)
  have hM := mct_c (mX11_share (gc_ok (d := d) (i9 := i9) (j9 := j9) (h' := h')) er)
  have mid : ∀ (cd : Int) (j8 : Nat → Int → Int), r'.2.1 71 10 = cd → (cd = 0 → j8 120 0 = r'.1) → LG p l e s m b below meth c D cy 2494 (lcE k) [aI cd] (wW d i9 j8 r.2.1 h') (cells + mC 307) (slots + mS 307) := fun cd j8 hcd hy => by
    have hN : MCT 261 [] [aR 71, aI (xa xs k 1)] (wW d i9 j8 r.2.1 h') (.inl (some (aI r'.1))) (wW d i9 j8 r.2.1 r'.2) := mX12_share gm_ok er'
    have hT : MCT 170 [] [aR 71] (wW d i9 j8 r.2.1 r'.2) (.inl (some (aI (r'.2.1 71 10)))) (wW d i9 j8 r.2.1 r'.2) := mX12_thrown gm_ok (sX12_thrown (h := r'.2))
    have c0 : cells + mC 307 + mC 261 + mC 170 ≤ cells + 20 ∧ slots + mS 307 + mS 261 + mS 170 ≤ slots + 100 := ⟨roomC (by decide +kernel), roomC (by decide +kernel)⟩
    generalize hz : r'.1 = z at hN hy
    generalize ht : r'.2.1 71 10 = t at hT
    have htc : t = cd := by rw [← ht]; exact hcd
    generalize cells + mC 307 = c1 at *
    generalize slots + mS 307 = s1 at *
    have eD : ∀ (t : Int) (c9 s9 : Nat) (f : AL → AS → SW → Option Unit), segL L xs clN csL_law (cuC 28 f cuN) 200 2512 [(7, aI z), (6, aI cd), (0, aR 1), (1, aR 2), (2, aR 71), (3, aR 120), (4, aR 121), (5, aI k)] [aI t] (wW d i9 j8 r.2.1 r'.2, c9, s9) = if t = cd then (if cd = 0 then gd ((0 : Int) ≤ 0 ∧ (0 : Int) < lnL L 120) (if cmpI ((wW d i9 j8 r.2.1 r'.2).2.2.2.1 120 0) z = 0 then gd (R32 (k + 6)) (f [(5, aI (k + 6)), (7, aI z), (6, aI cd), (0, aR 1), (1, aR 2), (2, aR 71), (3, aR 120), (4, aR 121)] [] (wW d i9 j8 r.2.1 r'.2, c9, s9)) else gd ((0 : Int) ≤ 0 ∧ (0 : Int) ≤ 1) (krL (some (aI 0)) (wW d i9 j8 r.2.1 r'.2, c9, s9))) else gd (R32 (k + 6)) (f [(5, aI (k + 6)), (7, aI z), (6, aI cd), (0, aR 1), (1, aR 2), (2, aR 71), (3, aR 120), (4, aR 121)] [] (wW d i9 j8 r.2.1 r'.2, c9, s9))) else gd ((0 : Int) ≤ 0 ∧ (0 : Int) ≤ 1) (krL (some (aI 0)) (wW d i9 j8 r.2.1 r'.2, c9, s9)) := fun _ _ _ _ => rfl
    have lD : ∀ c9 s9 : Nat, c9 ≤ cells + 20 ∧ s9 ≤ slots + 100 → LG p l e s m b below meth c D cy 2512 [(7, aI z), (6, aI cd), (0, aR 1), (1, aR 2), (2, aR 71), (3, aR 120), (4, aR 121), (5, aI k)] [aI t] (wW d i9 j8 r.2.1 r'.2) c9 s9 := fun c9 s9 hc => by
      refine segQ hLC (pc2 := 28) (N := 200) (LG_wid (nx d i9 j8 r.2.1 r'.2 [(5, aI (k + 6)), (7, aI z), (6, aI cd), (0, aR 1), (1, aR 2), (2, aR 71), (3, aR 120), (4, aR 121)] iq lcN_s) hc hr) ?_
      rw [eD, if_pos htc]
      by_cases cz : cd = 0
      · rw [if_pos cz, gd_t ⟨Int.le_refl _, show (0 : Int) < 1 by decide⟩, wWj0, hy cz, cmp_self, if_pos rfl, gd_t ⟨by omega, by omega⟩]
        exact cuQ_t
      · rw [if_neg cz, gd_t ⟨by omega, by omega⟩]
        exact cuQ_t
    have eC : ∀ (z : Int) (c9 s9 : Nat) (f : AL → AS → SW → Option Unit), segL L xs clN csL_law (cuC 2509 f cuN) 200 2506 [(6, aI cd), (0, aR 1), (1, aR 2), (2, aR 71), (3, aR 120), (4, aR 121), (5, aI k)] [aI z] (wW d i9 j8 r.2.1 r'.2, c9, s9) = f [(7, aI z), (6, aI cd), (0, aR 1), (1, aR 2), (2, aR 71), (3, aR 120), (4, aR 121), (5, aI k)] [aR 71] (wW d i9 j8 r.2.1 r'.2, c9, s9) := fun _ _ _ _ => rfl
    have lC : ∀ c9 s9 : Nat, c9 + mC 170 ≤ cells + 20 ∧ s9 + mS 170 ≤ slots + 100 → LG p l e s m b below meth c D cy 2506 [(6, aI cd), (0, aR 1), (1, aR 2), (2, aR 71), (3, aR 120), (4, aR 121), (5, aI k)] [aI z] (wW d i9 j8 r.2.1 r'.2) c9 s9 := fun c9 s9 hc => by
      refine segQ hLC (pc2 := 2509) (N := 200) (callV_lg hLC (n := 170) (a := 71) (as := []) (rest := []) (by decide +kernel) (rowsB_at rwL_law (pc := 2509) (r := (3, .invokevirtual 149, 170, 1, 12)) rfl).1 (by decide +kernel) rfl ⟨by decide, by show 71 ≤ 121; omega⟩ (by decide +kernel) (by decide +kernel) (by decide +kernel) hT ⟨by omega, by omega⟩ (lD _ _ hc)) ?_
      rw [eC]
      exact cuQ_t
    have eB : ∀ (c9 s9 : Nat) (f : AL → AS → SW → Option Unit), segL L xs clN csL_law (cuC 2503 f cuN) 200 2494 [(0, aR 1), (1, aR 2), (2, aR 71), (3, aR 120), (4, aR 121), (5, aI k)] [aI cd] (wW d i9 j8 r.2.1 h', c9, s9) = gd (R32 (k + 1)) (gd ((0 : Int) ≤ (k + 1) ∧ (k + 1) < lnL L 1) (f [(6, aI cd), (0, aR 1), (1, aR 2), (2, aR 71), (3, aR 120), (4, aR 121), (5, aI k)] [aI (xa xs k 1), aR 71] (wW d i9 j8 r.2.1 h', c9, s9))) := fun _ _ _ => rfl
    refine segQ hLC (pc2 := 2503) (N := 200) (callV_lg hLC (n := 261) (a := 71) (as := [aI (xa xs k 1)]) (rest := []) (by decide +kernel) (rowsB_at rwL_law (pc := 2503) (r := (3, .invokevirtual 264, 261, 2, 12)) rfl).1 (by decide +kernel) rfl ⟨by decide, by show 71 ≤ 121; omega⟩ (by decide +kernel) (by decide +kernel) (by decide +kernel) hN ⟨by omega, by omega⟩ (lC _ _ c0)) ?_
    show segL L xs clN csL_law _ 200 2494 [(0, aR 1), (1, aR 2), (2, aR 71), (3, aR 120), (4, aR 121), (5, aI k)] [aI cd] _ = some ()
    rw [eB, hl1, gd_t ⟨by omega, by omega⟩, gd_t ⟨by omega, by omega⟩]
    exact cuQ_t
  have eA : ∀ (f : AL → AS → SW → Option Unit), segL L xs clN csL_law (cuC 2491 f cuN) 200 2483 [(0, aR 1), (1, aR 2), (2, aR 71), (3, aR 120), (4, aR 121), (5, aI k)] [] (wW d i9 j9 h h', cells, slots) = gd (R32 (k + 1)) (gd ((0 : Int) ≤ (k + 1) ∧ (k + 1) < lnL L 1) (f [(0, aR 1), (1, aR 2), (2, aR 71), (3, aR 120), (4, aR 121), (5, aI k)] [aR 120, aI (xa xs k 1), aR 2] (wW d i9 j9 h h', cells, slots))) := fun _ => rfl
  have sA : segL L xs clN csL_law (cuC 2491 (cuQ [(0, aR 1), (1, aR 2), (2, aR 71), (3, aR 120), (4, aR 121), (5, aI k)] [aR 120, aI (xa xs k 1), aR 2] (wW d i9 j9 h h', cells, slots) ()) cuN) 200 2483 [(0, aR 1), (1, aR 2), (2, aR 71), (3, aR 120), (4, aR 121), (5, aI k)] [] (wW d i9 j9 h h', cells, slots) = some () := by
    rw [eA, hl1, gd_t ⟨by omega, by omega⟩, gd_t ⟨by omega, by omega⟩]
    exact cuQ_t
  have c0 : cells + mC 307 ≤ 601024 ∧ slots + mS 307 ≤ 7293034 := ⟨roomA (n := 20) (by decide +kernel) hr.1, roomA (n := 100) (by decide +kernel) hr.2⟩
  have call : ∀ {v : Option AV} {σ1 : SG}, MCT 307 hhL_share [aR 2, aI (xa xs k 1), aR 120] (wW d i9 j9 h h') (.inl v) σ1 → LG p l e s m b below meth c D cy 2494 (lcE k) (v.toList ++ []) σ1 (cells + mC 307) (slots + mS 307) → LG p l e s m b below meth c D cy 2483 (lcE k) [] (wW d i9 j9 h h') cells slots := fun hct kk => segQ hLC (callH_lg hLC (n := 307) (as := [aR 2, aI (xa xs k 1), aR 120]) (rest := []) (by decide +kernel) (rowsB_at rwL_law (pc := 2491) (r := (3, .invokestatic 262, 307, 3, 0)) rfl).1 (by decide +kernel) hwL_share rfl (by decide +kernel) hct c0 kk) sA
  obtain ⟨o, hu⟩ := r
  cases o with
  | inl y =>
    obtain ⟨q1, q2⟩ := hq
    exact call (mct_j (hL_share_0 (by show 121 ≤ 121; omega) hM)) (mid 0 (up2 j9 120 0 y) q1 (fun _ => by rw [up2_same]; exact q2.symm))
  | inr ex =>
    obtain ⟨q1, q2⟩ := hq
    rcases (by omega : ex = 0 ∨ ex = 1 ∨ ex = 2 ∨ ex = 3 ∨ 4 ≤ ex) with z | z | z | z | z
    · subst z
      exact call (hL_share_1 (by show 121 ≤ 121; omega) hM) (mid 1 j9 q2 (fun w => by cases w))
    · exact absurd (by rw [z]; rfl) q1
    · subst z
      exact call (hL_share_2 (by show 121 ≤ 121; omega) hM) (mid 2 j9 q2 (fun w => by cases w))
    · subst z
      exact call (hL_share_3 (by show 121 ≤ 121; omega) hM) (mid 3 j9 q2 (fun w => by cases w))
    · refine absurd ?_ q1
      show cdX 1 0 2 3 ex = 0
      unfold cdX
      rw [if_neg (by omega), if_neg (by omega), if_neg (by omega), if_neg (by omega)]
theorem cs_blocks (hLC : LC p l s m b meth c D cy L xs) (k0 : 0 ≤ k) (k1 : k + 6 ≤ L) (hr : cells + 20 ≤ 601024 ∧ slots + 100 ≤ 7293034) (i : INV h h') (nx : NX p l e s m b below meth c D cy k cells slots) : LG p l e s m b below meth c D cy 2539 (lcE k) [] (wW d i9 j9 h h') cells slots := by
  have hL := hLC.2.2.2.2
  have hl1 : lnL L 1 = (L : Int) := rfl
  obtain ⟨r, er, r', er', hq, iq⟩ := op_blocks i
  have hM := mct_c (mX11_blocks (gc_ok (d := d) (i9 := i9) (j9 := j9) (h' := h')) er)
  have mid : ∀ (cd : Int) (j8 : Nat → Int → Int), r'.2.1 71 10 = cd → (cd = 0 → j8 120 0 = r'.1) → LG p l e s m b below meth c D cy 2544 (lcE k) [aI cd] (wW d i9 j8 r.2.1 h') (cells + mC 308) (slots + mS 308) := fun cd j8 hcd hy => by
    have hN : MCT 262 [] [aR 71] (wW d i9 j8 r.2.1 h') (.inl (some (aI r'.1))) (wW d i9 j8 r.2.1 r'.2) := mX12_blocks gm_ok er'
    have hT : MCT 170 [] [aR 71] (wW d i9 j8 r.2.1 r'.2) (.inl (some (aI (r'.2.1 71 10)))) (wW d i9 j8 r.2.1 r'.2) := mX12_thrown gm_ok (sX12_thrown (h := r'.2))
    have c0 : cells + mC 308 + mC 262 + mC 170 ≤ cells + 20 ∧ slots + mS 308 + mS 262 + mS 170 ≤ slots + 100 := ⟨roomC (by decide +kernel), roomC (by decide +kernel)⟩
    generalize hz : r'.1 = z at hN hy
    generalize ht : r'.2.1 71 10 = t at hT
    have htc : t = cd := by rw [← ht]; exact hcd
    generalize cells + mC 308 = c1 at *
    generalize slots + mS 308 = s1 at *
    have eD : ∀ (t : Int) (c9 s9 : Nat) (f : AL → AS → SW → Option Unit), segL L xs clN csL_law (cuC 28 f cuN) 200 2556 [(7, aI z), (6, aI cd), (0, aR 1), (1, aR 2), (2, aR 71), (3, aR 120), (4, aR 121), (5, aI k)] [aI t] (wW d i9 j8 r.2.1 r'.2, c9, s9) = if t = cd then (if cd = 0 then gd ((0 : Int) ≤ 0 ∧ (0 : Int) < lnL L 120) (if cmpI ((wW d i9 j8 r.2.1 r'.2).2.2.2.1 120 0) z = 0 then gd (R32 (k + 6)) (f [(5, aI (k + 6)), (7, aI z), (6, aI cd), (0, aR 1), (1, aR 2), (2, aR 71), (3, aR 120), (4, aR 121)] [] (wW d i9 j8 r.2.1 r'.2, c9, s9)) else gd ((0 : Int) ≤ 0 ∧ (0 : Int) ≤ 1) (krL (some (aI 0)) (wW d i9 j8 r.2.1 r'.2, c9, s9))) else gd (R32 (k + 6)) (f [(5, aI (k + 6)), (7, aI z), (6, aI cd), (0, aR 1), (1, aR 2), (2, aR 71), (3, aR 120), (4, aR 121)] [] (wW d i9 j8 r.2.1 r'.2, c9, s9))) else gd ((0 : Int) ≤ 0 ∧ (0 : Int) ≤ 1) (krL (some (aI 0)) (wW d i9 j8 r.2.1 r'.2, c9, s9)) := fun _ _ _ _ => rfl
    have lD : ∀ c9 s9 : Nat, c9 ≤ cells + 20 ∧ s9 ≤ slots + 100 → LG p l e s m b below meth c D cy 2556 [(7, aI z), (6, aI cd), (0, aR 1), (1, aR 2), (2, aR 71), (3, aR 120), (4, aR 121), (5, aI k)] [aI t] (wW d i9 j8 r.2.1 r'.2) c9 s9 := fun c9 s9 hc => by
      refine segQ hLC (pc2 := 28) (N := 200) (LG_wid (nx d i9 j8 r.2.1 r'.2 [(5, aI (k + 6)), (7, aI z), (6, aI cd), (0, aR 1), (1, aR 2), (2, aR 71), (3, aR 120), (4, aR 121)] iq lcN_s) hc hr) ?_
      rw [eD, if_pos htc]
      by_cases cz : cd = 0
      · rw [if_pos cz, gd_t ⟨Int.le_refl _, show (0 : Int) < 1 by decide⟩, wWj0, hy cz, cmp_self, if_pos rfl, gd_t ⟨by omega, by omega⟩]
        exact cuQ_t
      · rw [if_neg cz, gd_t ⟨by omega, by omega⟩]
        exact cuQ_t
    have eC : ∀ (z : Int) (c9 s9 : Nat) (f : AL → AS → SW → Option Unit), segL L xs clN csL_law (cuC 2553 f cuN) 200 2550 [(6, aI cd), (0, aR 1), (1, aR 2), (2, aR 71), (3, aR 120), (4, aR 121), (5, aI k)] [aI z] (wW d i9 j8 r.2.1 r'.2, c9, s9) = f [(7, aI z), (6, aI cd), (0, aR 1), (1, aR 2), (2, aR 71), (3, aR 120), (4, aR 121), (5, aI k)] [aR 71] (wW d i9 j8 r.2.1 r'.2, c9, s9) := fun _ _ _ _ => rfl
    have lC : ∀ c9 s9 : Nat, c9 + mC 170 ≤ cells + 20 ∧ s9 + mS 170 ≤ slots + 100 → LG p l e s m b below meth c D cy 2550 [(6, aI cd), (0, aR 1), (1, aR 2), (2, aR 71), (3, aR 120), (4, aR 121), (5, aI k)] [aI z] (wW d i9 j8 r.2.1 r'.2) c9 s9 := fun c9 s9 hc => by
      refine segQ hLC (pc2 := 2553) (N := 200) (callV_lg hLC (n := 170) (a := 71) (as := []) (rest := []) (by decide +kernel) (rowsB_at rwL_law (pc := 2553) (r := (3, .invokevirtual 149, 170, 1, 12)) rfl).1 (by decide +kernel) rfl ⟨by decide, by show 71 ≤ 121; omega⟩ (by decide +kernel) (by decide +kernel) (by decide +kernel) hT ⟨by omega, by omega⟩ (lD _ _ hc)) ?_
      rw [eC]
      exact cuQ_t
    have eB : ∀ (c9 s9 : Nat) (f : AL → AS → SW → Option Unit), segL L xs clN csL_law (cuC 2547 f cuN) 200 2544 [(0, aR 1), (1, aR 2), (2, aR 71), (3, aR 120), (4, aR 121), (5, aI k)] [aI cd] (wW d i9 j8 r.2.1 h', c9, s9) = f [(6, aI cd), (0, aR 1), (1, aR 2), (2, aR 71), (3, aR 120), (4, aR 121), (5, aI k)] [aR 71] (wW d i9 j8 r.2.1 h', c9, s9) := fun _ _ _ => rfl
    refine segQ hLC (pc2 := 2547) (N := 200) (callV_lg hLC (n := 262) (a := 71) (as := []) (rest := []) (by decide +kernel) (rowsB_at rwL_law (pc := 2547) (r := (3, .invokevirtual 267, 262, 1, 12)) rfl).1 (by decide +kernel) rfl ⟨by decide, by show 71 ≤ 121; omega⟩ (by decide +kernel) (by decide +kernel) (by decide +kernel) hN ⟨by omega, by omega⟩ (lC _ _ c0)) ?_
    show segL L xs clN csL_law _ 200 2544 [(0, aR 1), (1, aR 2), (2, aR 71), (3, aR 120), (4, aR 121), (5, aI k)] [aI cd] _ = some ()
    rw [eB]
    exact cuQ_t
  have eA : ∀ (f : AL → AS → SW → Option Unit), segL L xs clN csL_law (cuC 2541 f cuN) 200 2539 [(0, aR 1), (1, aR 2), (2, aR 71), (3, aR 120), (4, aR 121), (5, aI k)] [] (wW d i9 j9 h h', cells, slots) = f [(0, aR 1), (1, aR 2), (2, aR 71), (3, aR 120), (4, aR 121), (5, aI k)] [aR 120, aR 2] (wW d i9 j9 h h', cells, slots) := fun _ => rfl
  have sA : segL L xs clN csL_law (cuC 2541 (cuQ [(0, aR 1), (1, aR 2), (2, aR 71), (3, aR 120), (4, aR 121), (5, aI k)] [aR 120, aR 2] (wW d i9 j9 h h', cells, slots) ()) cuN) 200 2539 [(0, aR 1), (1, aR 2), (2, aR 71), (3, aR 120), (4, aR 121), (5, aI k)] [] (wW d i9 j9 h h', cells, slots) = some () := by
    rw [eA]
    exact cuQ_t
  have c0 : cells + mC 308 ≤ 601024 ∧ slots + mS 308 ≤ 7293034 := ⟨roomA (n := 20) (by decide +kernel) hr.1, roomA (n := 100) (by decide +kernel) hr.2⟩
  have call : ∀ {v : Option AV} {σ1 : SG}, MCT 308 hhL_blocks [aR 2, aR 120] (wW d i9 j9 h h') (.inl v) σ1 → LG p l e s m b below meth c D cy 2544 (lcE k) (v.toList ++ []) σ1 (cells + mC 308) (slots + mS 308) → LG p l e s m b below meth c D cy 2539 (lcE k) [] (wW d i9 j9 h h') cells slots := fun hct kk => segQ hLC (callH_lg hLC (n := 308) (as := [aR 2, aR 120]) (rest := []) (by decide +kernel) (rowsB_at rwL_law (pc := 2541) (r := (3, .invokestatic 265, 308, 2, 0)) rfl).1 (by decide +kernel) hwL_blocks rfl (by decide +kernel) hct c0 kk) sA
  obtain ⟨o, hu⟩ := r
  cases o with
  | inl y =>
    obtain ⟨q1, q2⟩ := hq
    exact call (mct_j (hL_blocks_0 (by show 121 ≤ 121; omega) hM)) (mid 0 (up2 j9 120 0 y) q1 (fun _ => by rw [up2_same]; exact q2.symm))
  | inr ex =>
    obtain ⟨q1, q2⟩ := hq
    rcases (by omega : ex = 0 ∨ ex = 1 ∨ ex = 2 ∨ ex = 3 ∨ 4 ≤ ex) with z | z | z | z | z
    · exact absurd (by rw [z]; rfl) q1
    · exact absurd (by rw [z]; rfl) q1
    · subst z
      exact call (hL_blocks_1 (by show 121 ≤ 121; omega) hM) (mid 1 j9 q2 (fun w => by cases w))
    · subst z
      exact call (hL_blocks_2 (by show 121 ≤ 121; omega) hM) (mid 2 j9 q2 (fun w => by cases w))
    · refine absurd ?_ q1
      show cdX 0 0 1 2 ex = 0
      unfold cdX
      rw [if_neg (by omega), if_neg (by omega), if_neg (by omega), if_neg (by omega)]
theorem cs_rates (hLC : LC p l s m b meth c D cy L xs) (k0 : 0 ≤ k) (k1 : k + 6 ≤ L) (hr : cells + 20 ≤ 601024 ∧ slots + 100 ≤ 7293034) (i : INV h h') (nx : NX p l e s m b below meth c D cy k cells slots) : LG p l e s m b below meth c D cy 2583 (lcE k) [] (wW d i9 j9 h h') cells slots := by
  have hL := hLC.2.2.2.2
  have hl1 : lnL L 1 = (L : Int) := rfl
  obtain ⟨r, er, r', er', hq, iq⟩ := op_rates i (xa xs k 1) (xa xs k 2)
  have hM := mct_c (mX11_rates (gc_ok (d := d) (i9 := i9) (j9 := j9) (h' := h')) er)
  have mid : ∀ (cd : Int) (j8 : Nat → Int → Int), r'.2.1 71 10 = cd → (cd = 0 → j8 120 0 = r'.1) → LG p l e s m b below meth c D cy 2600 (lcE k) [aI cd] (wW d i9 j8 r.2.1 h') (cells + mC 309) (slots + mS 309) := fun cd j8 hcd hy => by
    have hN : MCT 263 [] [aR 71, aI (xa xs k 1), aI (xa xs k 2)] (wW d i9 j8 r.2.1 h') (.inl (some (aI r'.1))) (wW d i9 j8 r.2.1 r'.2) := mX12_rates gm_ok er'
    have hT : MCT 170 [] [aR 71] (wW d i9 j8 r.2.1 r'.2) (.inl (some (aI (r'.2.1 71 10)))) (wW d i9 j8 r.2.1 r'.2) := mX12_thrown gm_ok (sX12_thrown (h := r'.2))
    have c0 : cells + mC 309 + mC 263 + mC 170 ≤ cells + 20 ∧ slots + mS 309 + mS 263 + mS 170 ≤ slots + 100 := ⟨roomC (by decide +kernel), roomC (by decide +kernel)⟩
    generalize hz : r'.1 = z at hN hy
    generalize ht : r'.2.1 71 10 = t at hT
    have htc : t = cd := by rw [← ht]; exact hcd
    generalize cells + mC 309 = c1 at *
    generalize slots + mS 309 = s1 at *
    have eD : ∀ (t : Int) (c9 s9 : Nat) (f : AL → AS → SW → Option Unit), segL L xs clN csL_law (cuC 28 f cuN) 200 2624 [(7, aI z), (6, aI cd), (0, aR 1), (1, aR 2), (2, aR 71), (3, aR 120), (4, aR 121), (5, aI k)] [aI t] (wW d i9 j8 r.2.1 r'.2, c9, s9) = if t = cd then (if cd = 0 then gd ((0 : Int) ≤ 0 ∧ (0 : Int) < lnL L 120) (if cmpI ((wW d i9 j8 r.2.1 r'.2).2.2.2.1 120 0) z = 0 then gd (R32 (k + 6)) (f [(5, aI (k + 6)), (7, aI z), (6, aI cd), (0, aR 1), (1, aR 2), (2, aR 71), (3, aR 120), (4, aR 121)] [] (wW d i9 j8 r.2.1 r'.2, c9, s9)) else gd ((0 : Int) ≤ 0 ∧ (0 : Int) ≤ 1) (krL (some (aI 0)) (wW d i9 j8 r.2.1 r'.2, c9, s9))) else gd (R32 (k + 6)) (f [(5, aI (k + 6)), (7, aI z), (6, aI cd), (0, aR 1), (1, aR 2), (2, aR 71), (3, aR 120), (4, aR 121)] [] (wW d i9 j8 r.2.1 r'.2, c9, s9))) else gd ((0 : Int) ≤ 0 ∧ (0 : Int) ≤ 1) (krL (some (aI 0)) (wW d i9 j8 r.2.1 r'.2, c9, s9)) := fun _ _ _ _ => rfl
    have lD : ∀ c9 s9 : Nat, c9 ≤ cells + 20 ∧ s9 ≤ slots + 100 → LG p l e s m b below meth c D cy 2624 [(7, aI z), (6, aI cd), (0, aR 1), (1, aR 2), (2, aR 71), (3, aR 120), (4, aR 121), (5, aI k)] [aI t] (wW d i9 j8 r.2.1 r'.2) c9 s9 := fun c9 s9 hc => by
      refine segQ hLC (pc2 := 28) (N := 200) (LG_wid (nx d i9 j8 r.2.1 r'.2 [(5, aI (k + 6)), (7, aI z), (6, aI cd), (0, aR 1), (1, aR 2), (2, aR 71), (3, aR 120), (4, aR 121)] iq lcN_s) hc hr) ?_
      rw [eD, if_pos htc]
      by_cases cz : cd = 0
      · rw [if_pos cz, gd_t ⟨Int.le_refl _, show (0 : Int) < 1 by decide⟩, wWj0, hy cz, cmp_self, if_pos rfl, gd_t ⟨by omega, by omega⟩]
        exact cuQ_t
      · rw [if_neg cz, gd_t ⟨by omega, by omega⟩]
        exact cuQ_t
    have eC : ∀ (z : Int) (c9 s9 : Nat) (f : AL → AS → SW → Option Unit), segL L xs clN csL_law (cuC 2621 f cuN) 200 2618 [(6, aI cd), (0, aR 1), (1, aR 2), (2, aR 71), (3, aR 120), (4, aR 121), (5, aI k)] [aI z] (wW d i9 j8 r.2.1 r'.2, c9, s9) = f [(7, aI z), (6, aI cd), (0, aR 1), (1, aR 2), (2, aR 71), (3, aR 120), (4, aR 121), (5, aI k)] [aR 71] (wW d i9 j8 r.2.1 r'.2, c9, s9) := fun _ _ _ _ => rfl
    have lC : ∀ c9 s9 : Nat, c9 + mC 170 ≤ cells + 20 ∧ s9 + mS 170 ≤ slots + 100 → LG p l e s m b below meth c D cy 2618 [(6, aI cd), (0, aR 1), (1, aR 2), (2, aR 71), (3, aR 120), (4, aR 121), (5, aI k)] [aI z] (wW d i9 j8 r.2.1 r'.2) c9 s9 := fun c9 s9 hc => by
      refine segQ hLC (pc2 := 2621) (N := 200) (callV_lg hLC (n := 170) (a := 71) (as := []) (rest := []) (by decide +kernel) (rowsB_at rwL_law (pc := 2621) (r := (3, .invokevirtual 149, 170, 1, 12)) rfl).1 (by decide +kernel) rfl ⟨by decide, by show 71 ≤ 121; omega⟩ (by decide +kernel) (by decide +kernel) (by decide +kernel) hT ⟨by omega, by omega⟩ (lD _ _ hc)) ?_
      rw [eC]
      exact cuQ_t
    have eB : ∀ (c9 s9 : Nat) (f : AL → AS → SW → Option Unit), segL L xs clN csL_law (cuC 2615 f cuN) 200 2600 [(0, aR 1), (1, aR 2), (2, aR 71), (3, aR 120), (4, aR 121), (5, aI k)] [aI cd] (wW d i9 j8 r.2.1 h', c9, s9) = gd (R32 (k + 1)) (gd ((0 : Int) ≤ (k + 1) ∧ (k + 1) < lnL L 1) (gd (R32 (k + 2)) (gd ((0 : Int) ≤ (k + 2) ∧ (k + 2) < lnL L 1) (f [(6, aI cd), (0, aR 1), (1, aR 2), (2, aR 71), (3, aR 120), (4, aR 121), (5, aI k)] [aI (xa xs k 2), aI (xa xs k 1), aR 71] (wW d i9 j8 r.2.1 h', c9, s9))))) := fun _ _ _ => rfl
    refine segQ hLC (pc2 := 2615) (N := 200) (callV_lg hLC (n := 263) (a := 71) (as := [aI (xa xs k 1), aI (xa xs k 2)]) (rest := []) (by decide +kernel) (rowsB_at rwL_law (pc := 2615) (r := (3, .invokevirtual 270, 263, 3, 12)) rfl).1 (by decide +kernel) rfl ⟨by decide, by show 71 ≤ 121; omega⟩ (by decide +kernel) (by decide +kernel) (by decide +kernel) hN ⟨by omega, by omega⟩ (lC _ _ c0)) ?_
    show segL L xs clN csL_law _ 200 2600 [(0, aR 1), (1, aR 2), (2, aR 71), (3, aR 120), (4, aR 121), (5, aI k)] [aI cd] _ = some ()
    rw [eB, hl1, gd_t ⟨by omega, by omega⟩, gd_t ⟨by omega, by omega⟩, gd_t ⟨by omega, by omega⟩, gd_t ⟨by omega, by omega⟩]
    exact cuQ_t
  have eA : ∀ (f : AL → AS → SW → Option Unit), segL L xs clN csL_law (cuC 2597 f cuN) 200 2583 [(0, aR 1), (1, aR 2), (2, aR 71), (3, aR 120), (4, aR 121), (5, aI k)] [] (wW d i9 j9 h h', cells, slots) = gd (R32 (k + 1)) (gd ((0 : Int) ≤ (k + 1) ∧ (k + 1) < lnL L 1) (gd (R32 (k + 2)) (gd ((0 : Int) ≤ (k + 2) ∧ (k + 2) < lnL L 1) (f [(0, aR 1), (1, aR 2), (2, aR 71), (3, aR 120), (4, aR 121), (5, aI k)] [aR 120, aI (xa xs k 2), aI (xa xs k 1), aR 2] (wW d i9 j9 h h', cells, slots))))) := fun _ => rfl
  have sA : segL L xs clN csL_law (cuC 2597 (cuQ [(0, aR 1), (1, aR 2), (2, aR 71), (3, aR 120), (4, aR 121), (5, aI k)] [aR 120, aI (xa xs k 2), aI (xa xs k 1), aR 2] (wW d i9 j9 h h', cells, slots) ()) cuN) 200 2583 [(0, aR 1), (1, aR 2), (2, aR 71), (3, aR 120), (4, aR 121), (5, aI k)] [] (wW d i9 j9 h h', cells, slots) = some () := by
    rw [eA, hl1, gd_t ⟨by omega, by omega⟩, gd_t ⟨by omega, by omega⟩, gd_t ⟨by omega, by omega⟩, gd_t ⟨by omega, by omega⟩]
    exact cuQ_t
  have c0 : cells + mC 309 ≤ 601024 ∧ slots + mS 309 ≤ 7293034 := ⟨roomA (n := 20) (by decide +kernel) hr.1, roomA (n := 100) (by decide +kernel) hr.2⟩
  have call : ∀ {v : Option AV} {σ1 : SG}, MCT 309 hhL_rates [aR 2, aI (xa xs k 1), aI (xa xs k 2), aR 120] (wW d i9 j9 h h') (.inl v) σ1 → LG p l e s m b below meth c D cy 2600 (lcE k) (v.toList ++ []) σ1 (cells + mC 309) (slots + mS 309) → LG p l e s m b below meth c D cy 2583 (lcE k) [] (wW d i9 j9 h h') cells slots := fun hct kk => segQ hLC (callH_lg hLC (n := 309) (as := [aR 2, aI (xa xs k 1), aI (xa xs k 2), aR 120]) (rest := []) (by decide +kernel) (rowsB_at rwL_law (pc := 2597) (r := (3, .invokestatic 268, 309, 4, 0)) rfl).1 (by decide +kernel) hwL_rates rfl (by decide +kernel) hct c0 kk) sA
  obtain ⟨o, hu⟩ := r
  cases o with
  | inl y =>
    obtain ⟨q1, q2⟩ := hq
    exact call (mct_j (hL_rates_0 (by show 121 ≤ 121; omega) hM)) (mid 0 (up2 j9 120 0 y) q1 (fun _ => by rw [up2_same]; exact q2.symm))
  | inr ex =>
    obtain ⟨q1, q2⟩ := hq
    rcases (by omega : ex = 0 ∨ ex = 1 ∨ ex = 2 ∨ ex = 3 ∨ 4 ≤ ex) with z | z | z | z | z
    · exact absurd (by rw [z]; rfl) q1
    · subst z
      exact call (hL_rates_1 (by show 121 ≤ 121; omega) hM) (mid 1 j9 q2 (fun w => by cases w))
    · exact absurd (by rw [z]; rfl) q1
    · exact absurd (by rw [z]; rfl) q1
    · refine absurd ?_ q1
      show cdX 0 1 0 0 ex = 0
      unfold cdX
      rw [if_neg (by omega), if_neg (by omega), if_neg (by omega), if_neg (by omega)]
theorem cs_pay (hLC : LC p l s m b meth c D cy L xs) (k0 : 0 ≤ k) (k1 : k + 6 ≤ L) (hr : cells + 20 ≤ 601024 ∧ slots + 100 ≤ 7293034) (i : INV h h') (nx : NX p l e s m b below meth c D cy k cells slots) : LG p l e s m b below meth c D cy 2651 (lcE k) [] (wW d i9 j9 h h') cells slots := by
  have hL := hLC.2.2.2.2
  have hl1 : lnL L 1 = (L : Int) := rfl
  obtain ⟨r, er, r', er', hq, iq⟩ := op_pay i (xa xs k 1) (xa xs k 2)
  have hM := mct_c (mX11_pay (gc_ok (d := d) (i9 := i9) (j9 := j9) (h' := h')) er)
  have mid : ∀ (cd : Int) (j8 : Nat → Int → Int), r'.2.1 71 10 = cd → (cd = 0 → j8 120 0 = r'.1) → LG p l e s m b below meth c D cy 2668 (lcE k) [aI cd] (wW d i9 j8 r.2.1 h') (cells + mC 310) (slots + mS 310) := fun cd j8 hcd hy => by
    have hN : MCT 264 [] [aR 71, aI (xa xs k 1), aI (xa xs k 2)] (wW d i9 j8 r.2.1 h') (.inl (some (aJ r'.1))) (wW d i9 j8 r.2.1 r'.2) := mX12_pay gm_ok er'
    have hT : MCT 170 [] [aR 71] (wW d i9 j8 r.2.1 r'.2) (.inl (some (aI (r'.2.1 71 10)))) (wW d i9 j8 r.2.1 r'.2) := mX12_thrown gm_ok (sX12_thrown (h := r'.2))
    have c0 : cells + mC 310 + mC 264 + mC 170 ≤ cells + 20 ∧ slots + mS 310 + mS 264 + mS 170 ≤ slots + 100 := ⟨roomC (by decide +kernel), roomC (by decide +kernel)⟩
    generalize hz : r'.1 = z at hN hy
    generalize ht : r'.2.1 71 10 = t at hT
    have htc : t = cd := by rw [← ht]; exact hcd
    generalize cells + mC 310 = c1 at *
    generalize slots + mS 310 = s1 at *
    have eD : ∀ (t : Int) (c9 s9 : Nat) (f : AL → AS → SW → Option Unit), segL L xs clN csL_law (cuC 28 f cuN) 200 2692 [(7, aJ z), (6, aI cd), (0, aR 1), (1, aR 2), (2, aR 71), (3, aR 120), (4, aR 121), (5, aI k)] [aI t] (wW d i9 j8 r.2.1 r'.2, c9, s9) = if t = cd then (if cd = 0 then gd ((0 : Int) ≤ 0 ∧ (0 : Int) < lnL L 120) (if cmpI ((wW d i9 j8 r.2.1 r'.2).2.2.2.1 120 0) z = 0 then gd (R32 (k + 6)) (f [(5, aI (k + 6)), (7, aJ z), (6, aI cd), (0, aR 1), (1, aR 2), (2, aR 71), (3, aR 120), (4, aR 121)] [] (wW d i9 j8 r.2.1 r'.2, c9, s9)) else gd ((0 : Int) ≤ 0 ∧ (0 : Int) ≤ 1) (krL (some (aI 0)) (wW d i9 j8 r.2.1 r'.2, c9, s9))) else gd (R32 (k + 6)) (f [(5, aI (k + 6)), (7, aJ z), (6, aI cd), (0, aR 1), (1, aR 2), (2, aR 71), (3, aR 120), (4, aR 121)] [] (wW d i9 j8 r.2.1 r'.2, c9, s9))) else gd ((0 : Int) ≤ 0 ∧ (0 : Int) ≤ 1) (krL (some (aI 0)) (wW d i9 j8 r.2.1 r'.2, c9, s9)) := fun _ _ _ _ => rfl
    have lD : ∀ c9 s9 : Nat, c9 ≤ cells + 20 ∧ s9 ≤ slots + 100 → LG p l e s m b below meth c D cy 2692 [(7, aJ z), (6, aI cd), (0, aR 1), (1, aR 2), (2, aR 71), (3, aR 120), (4, aR 121), (5, aI k)] [aI t] (wW d i9 j8 r.2.1 r'.2) c9 s9 := fun c9 s9 hc => by
      refine segQ hLC (pc2 := 28) (N := 200) (LG_wid (nx d i9 j8 r.2.1 r'.2 [(5, aI (k + 6)), (7, aJ z), (6, aI cd), (0, aR 1), (1, aR 2), (2, aR 71), (3, aR 120), (4, aR 121)] iq lcN_s) hc hr) ?_
      rw [eD, if_pos htc]
      by_cases cz : cd = 0
      · rw [if_pos cz, gd_t ⟨Int.le_refl _, show (0 : Int) < 1 by decide⟩, wWj0, hy cz, cmp_self, if_pos rfl, gd_t ⟨by omega, by omega⟩]
        exact cuQ_t
      · rw [if_neg cz, gd_t ⟨by omega, by omega⟩]
        exact cuQ_t
    have eC : ∀ (z : Int) (c9 s9 : Nat) (f : AL → AS → SW → Option Unit), segL L xs clN csL_law (cuC 2689 f cuN) 200 2686 [(6, aI cd), (0, aR 1), (1, aR 2), (2, aR 71), (3, aR 120), (4, aR 121), (5, aI k)] [aJ z] (wW d i9 j8 r.2.1 r'.2, c9, s9) = f [(7, aJ z), (6, aI cd), (0, aR 1), (1, aR 2), (2, aR 71), (3, aR 120), (4, aR 121), (5, aI k)] [aR 71] (wW d i9 j8 r.2.1 r'.2, c9, s9) := fun _ _ _ _ => rfl
    have lC : ∀ c9 s9 : Nat, c9 + mC 170 ≤ cells + 20 ∧ s9 + mS 170 ≤ slots + 100 → LG p l e s m b below meth c D cy 2686 [(6, aI cd), (0, aR 1), (1, aR 2), (2, aR 71), (3, aR 120), (4, aR 121), (5, aI k)] [aJ z] (wW d i9 j8 r.2.1 r'.2) c9 s9 := fun c9 s9 hc => by
      refine segQ hLC (pc2 := 2689) (N := 200) (callV_lg hLC (n := 170) (a := 71) (as := []) (rest := []) (by decide +kernel) (rowsB_at rwL_law (pc := 2689) (r := (3, .invokevirtual 149, 170, 1, 12)) rfl).1 (by decide +kernel) rfl ⟨by decide, by show 71 ≤ 121; omega⟩ (by decide +kernel) (by decide +kernel) (by decide +kernel) hT ⟨by omega, by omega⟩ (lD _ _ hc)) ?_
      rw [eC]
      exact cuQ_t
    have eB : ∀ (c9 s9 : Nat) (f : AL → AS → SW → Option Unit), segL L xs clN csL_law (cuC 2683 f cuN) 200 2668 [(0, aR 1), (1, aR 2), (2, aR 71), (3, aR 120), (4, aR 121), (5, aI k)] [aI cd] (wW d i9 j8 r.2.1 h', c9, s9) = gd (R32 (k + 1)) (gd ((0 : Int) ≤ (k + 1) ∧ (k + 1) < lnL L 1) (gd (R32 (k + 2)) (gd ((0 : Int) ≤ (k + 2) ∧ (k + 2) < lnL L 1) (f [(6, aI cd), (0, aR 1), (1, aR 2), (2, aR 71), (3, aR 120), (4, aR 121), (5, aI k)] [aI (xa xs k 2), aI (xa xs k 1), aR 71] (wW d i9 j8 r.2.1 h', c9, s9))))) := fun _ _ _ => rfl
    refine segQ hLC (pc2 := 2683) (N := 200) (callV_lg hLC (n := 264) (a := 71) (as := [aI (xa xs k 1), aI (xa xs k 2)]) (rest := []) (by decide +kernel) (rowsB_at rwL_law (pc := 2683) (r := (3, .invokevirtual 273, 264, 3, 12)) rfl).1 (by decide +kernel) rfl ⟨by decide, by show 71 ≤ 121; omega⟩ (by decide +kernel) (by decide +kernel) (by decide +kernel) hN ⟨by omega, by omega⟩ (lC _ _ c0)) ?_
    show segL L xs clN csL_law _ 200 2668 [(0, aR 1), (1, aR 2), (2, aR 71), (3, aR 120), (4, aR 121), (5, aI k)] [aI cd] _ = some ()
    rw [eB, hl1, gd_t ⟨by omega, by omega⟩, gd_t ⟨by omega, by omega⟩, gd_t ⟨by omega, by omega⟩, gd_t ⟨by omega, by omega⟩]
    exact cuQ_t
  have eA : ∀ (f : AL → AS → SW → Option Unit), segL L xs clN csL_law (cuC 2665 f cuN) 200 2651 [(0, aR 1), (1, aR 2), (2, aR 71), (3, aR 120), (4, aR 121), (5, aI k)] [] (wW d i9 j9 h h', cells, slots) = gd (R32 (k + 1)) (gd ((0 : Int) ≤ (k + 1) ∧ (k + 1) < lnL L 1) (gd (R32 (k + 2)) (gd ((0 : Int) ≤ (k + 2) ∧ (k + 2) < lnL L 1) (f [(0, aR 1), (1, aR 2), (2, aR 71), (3, aR 120), (4, aR 121), (5, aI k)] [aR 120, aI (xa xs k 2), aI (xa xs k 1), aR 2] (wW d i9 j9 h h', cells, slots))))) := fun _ => rfl
  have sA : segL L xs clN csL_law (cuC 2665 (cuQ [(0, aR 1), (1, aR 2), (2, aR 71), (3, aR 120), (4, aR 121), (5, aI k)] [aR 120, aI (xa xs k 2), aI (xa xs k 1), aR 2] (wW d i9 j9 h h', cells, slots) ()) cuN) 200 2651 [(0, aR 1), (1, aR 2), (2, aR 71), (3, aR 120), (4, aR 121), (5, aI k)] [] (wW d i9 j9 h h', cells, slots) = some () := by
    rw [eA, hl1, gd_t ⟨by omega, by omega⟩, gd_t ⟨by omega, by omega⟩, gd_t ⟨by omega, by omega⟩, gd_t ⟨by omega, by omega⟩]
    exact cuQ_t
  have c0 : cells + mC 310 ≤ 601024 ∧ slots + mS 310 ≤ 7293034 := ⟨roomA (n := 20) (by decide +kernel) hr.1, roomA (n := 100) (by decide +kernel) hr.2⟩
  have call : ∀ {v : Option AV} {σ1 : SG}, MCT 310 hhL_pay [aR 2, aI (xa xs k 1), aI (xa xs k 2), aR 120] (wW d i9 j9 h h') (.inl v) σ1 → LG p l e s m b below meth c D cy 2668 (lcE k) (v.toList ++ []) σ1 (cells + mC 310) (slots + mS 310) → LG p l e s m b below meth c D cy 2651 (lcE k) [] (wW d i9 j9 h h') cells slots := fun hct kk => segQ hLC (callH_lg hLC (n := 310) (as := [aR 2, aI (xa xs k 1), aI (xa xs k 2), aR 120]) (rest := []) (by decide +kernel) (rowsB_at rwL_law (pc := 2665) (r := (3, .invokestatic 271, 310, 4, 0)) rfl).1 (by decide +kernel) hwL_pay rfl (by decide +kernel) hct c0 kk) sA
  obtain ⟨o, hu⟩ := r
  cases o with
  | inl y =>
    obtain ⟨q1, q2⟩ := hq
    exact call (mct_j (hL_pay_0 (by show 121 ≤ 121; omega) hM)) (mid 0 (up2 j9 120 0 y) q1 (fun _ => by rw [up2_same]; exact q2.symm))
  | inr ex =>
    obtain ⟨q1, q2⟩ := hq
    rcases (by omega : ex = 0 ∨ ex = 1 ∨ ex = 2 ∨ ex = 3 ∨ 4 ≤ ex) with z | z | z | z | z
    · exact absurd (by rw [z]; rfl) q1
    · subst z
      exact call (hL_pay_1 (by show 121 ≤ 121; omega) hM) (mid 1 j9 q2 (fun w => by cases w))
    · subst z
      exact call (hL_pay_2 (by show 121 ≤ 121; omega) hM) (mid 2 j9 q2 (fun w => by cases w))
    · exact absurd (by rw [z]; rfl) q1
    · refine absurd ?_ q1
      show cdX 0 1 2 0 ex = 0
      unfold cdX
      rw [if_neg (by omega), if_neg (by omega), if_neg (by omega), if_neg (by omega)]
theorem cs_books (hLC : LC p l s m b meth c D cy L xs) (k0 : 0 ≤ k) (k1 : k + 6 ≤ L) (hr : cells + 20 ≤ 601024 ∧ slots + 100 ≤ 7293034) (i : INV h h') (nx : NX p l e s m b below meth c D cy k cells slots) : LG p l e s m b below meth c D cy 2718 (lcE k) [] (wW d i9 j9 h h') cells slots := by
  have hL := hLC.2.2.2.2
  have hl1 : lnL L 1 = (L : Int) := rfl
  obtain ⟨r, er, r', er', hq, iq⟩ := op_books i (xa xs k 1) xa_R
  have hM := mct_c (mX11_books (gc_ok (d := d) (i9 := i9) (j9 := j9) (h' := h')) er)
  have mid : ∀ (cd : Int) (j8 : Nat → Int → Int), r'.2.1 71 10 = cd → (cd = 0 → j8 120 0 = r'.1) → LG p l e s m b below meth c D cy 2729 (lcE k) [aI cd] (wW d i9 j8 r.2.1 h') (cells + mC 311) (slots + mS 311) := fun cd j8 hcd hy => by
    have hN : MCT 266 [] [aR 71, aI (xa xs k 1)] (wW d i9 j8 r.2.1 h') (.inl (some (aJ r'.1))) (wW d i9 j8 r.2.1 r'.2) := mX12_books gm_ok er'
    have hT : MCT 170 [] [aR 71] (wW d i9 j8 r.2.1 r'.2) (.inl (some (aI (r'.2.1 71 10)))) (wW d i9 j8 r.2.1 r'.2) := mX12_thrown gm_ok (sX12_thrown (h := r'.2))
    have c0 : cells + mC 311 + mC 266 + mC 170 ≤ cells + 20 ∧ slots + mS 311 + mS 266 + mS 170 ≤ slots + 100 := ⟨roomC (by decide +kernel), roomC (by decide +kernel)⟩
    generalize hz : r'.1 = z at hN hy
    generalize ht : r'.2.1 71 10 = t at hT
    have htc : t = cd := by rw [← ht]; exact hcd
    generalize cells + mC 311 = c1 at *
    generalize slots + mS 311 = s1 at *
    have eD : ∀ (t : Int) (c9 s9 : Nat) (f : AL → AS → SW → Option Unit), segL L xs clN csL_law (cuC 28 f cuN) 200 2747 [(7, aJ z), (6, aI cd), (0, aR 1), (1, aR 2), (2, aR 71), (3, aR 120), (4, aR 121), (5, aI k)] [aI t] (wW d i9 j8 r.2.1 r'.2, c9, s9) = if t = cd then (if cd = 0 then gd ((0 : Int) ≤ 0 ∧ (0 : Int) < lnL L 120) (if cmpI ((wW d i9 j8 r.2.1 r'.2).2.2.2.1 120 0) z = 0 then gd (R32 (k + 6)) (f [(5, aI (k + 6)), (7, aJ z), (6, aI cd), (0, aR 1), (1, aR 2), (2, aR 71), (3, aR 120), (4, aR 121)] [] (wW d i9 j8 r.2.1 r'.2, c9, s9)) else gd ((0 : Int) ≤ 0 ∧ (0 : Int) ≤ 1) (krL (some (aI 0)) (wW d i9 j8 r.2.1 r'.2, c9, s9))) else gd (R32 (k + 6)) (f [(5, aI (k + 6)), (7, aJ z), (6, aI cd), (0, aR 1), (1, aR 2), (2, aR 71), (3, aR 120), (4, aR 121)] [] (wW d i9 j8 r.2.1 r'.2, c9, s9))) else gd ((0 : Int) ≤ 0 ∧ (0 : Int) ≤ 1) (krL (some (aI 0)) (wW d i9 j8 r.2.1 r'.2, c9, s9)) := fun _ _ _ _ => rfl
    have lD : ∀ c9 s9 : Nat, c9 ≤ cells + 20 ∧ s9 ≤ slots + 100 → LG p l e s m b below meth c D cy 2747 [(7, aJ z), (6, aI cd), (0, aR 1), (1, aR 2), (2, aR 71), (3, aR 120), (4, aR 121), (5, aI k)] [aI t] (wW d i9 j8 r.2.1 r'.2) c9 s9 := fun c9 s9 hc => by
      refine segQ hLC (pc2 := 28) (N := 200) (LG_wid (nx d i9 j8 r.2.1 r'.2 [(5, aI (k + 6)), (7, aJ z), (6, aI cd), (0, aR 1), (1, aR 2), (2, aR 71), (3, aR 120), (4, aR 121)] iq lcN_s) hc hr) ?_
      rw [eD, if_pos htc]
      by_cases cz : cd = 0
      · rw [if_pos cz, gd_t ⟨Int.le_refl _, show (0 : Int) < 1 by decide⟩, wWj0, hy cz, cmp_self, if_pos rfl, gd_t ⟨by omega, by omega⟩]
        exact cuQ_t
      · rw [if_neg cz, gd_t ⟨by omega, by omega⟩]
        exact cuQ_t
    have eC : ∀ (z : Int) (c9 s9 : Nat) (f : AL → AS → SW → Option Unit), segL L xs clN csL_law (cuC 2744 f cuN) 200 2741 [(6, aI cd), (0, aR 1), (1, aR 2), (2, aR 71), (3, aR 120), (4, aR 121), (5, aI k)] [aJ z] (wW d i9 j8 r.2.1 r'.2, c9, s9) = f [(7, aJ z), (6, aI cd), (0, aR 1), (1, aR 2), (2, aR 71), (3, aR 120), (4, aR 121), (5, aI k)] [aR 71] (wW d i9 j8 r.2.1 r'.2, c9, s9) := fun _ _ _ _ => rfl
    have lC : ∀ c9 s9 : Nat, c9 + mC 170 ≤ cells + 20 ∧ s9 + mS 170 ≤ slots + 100 → LG p l e s m b below meth c D cy 2741 [(6, aI cd), (0, aR 1), (1, aR 2), (2, aR 71), (3, aR 120), (4, aR 121), (5, aI k)] [aJ z] (wW d i9 j8 r.2.1 r'.2) c9 s9 := fun c9 s9 hc => by
      refine segQ hLC (pc2 := 2744) (N := 200) (callV_lg hLC (n := 170) (a := 71) (as := []) (rest := []) (by decide +kernel) (rowsB_at rwL_law (pc := 2744) (r := (3, .invokevirtual 149, 170, 1, 12)) rfl).1 (by decide +kernel) rfl ⟨by decide, by show 71 ≤ 121; omega⟩ (by decide +kernel) (by decide +kernel) (by decide +kernel) hT ⟨by omega, by omega⟩ (lD _ _ hc)) ?_
      rw [eC]
      exact cuQ_t
    have eB : ∀ (c9 s9 : Nat) (f : AL → AS → SW → Option Unit), segL L xs clN csL_law (cuC 2738 f cuN) 200 2729 [(0, aR 1), (1, aR 2), (2, aR 71), (3, aR 120), (4, aR 121), (5, aI k)] [aI cd] (wW d i9 j8 r.2.1 h', c9, s9) = gd (R32 (k + 1)) (gd ((0 : Int) ≤ (k + 1) ∧ (k + 1) < lnL L 1) (f [(6, aI cd), (0, aR 1), (1, aR 2), (2, aR 71), (3, aR 120), (4, aR 121), (5, aI k)] [aI (xa xs k 1), aR 71] (wW d i9 j8 r.2.1 h', c9, s9))) := fun _ _ _ => rfl
    refine segQ hLC (pc2 := 2738) (N := 200) (callV_lg hLC (n := 266) (a := 71) (as := [aI (xa xs k 1)]) (rest := []) (by decide +kernel) (rowsB_at rwL_law (pc := 2738) (r := (3, .invokevirtual 276, 266, 2, 12)) rfl).1 (by decide +kernel) rfl ⟨by decide, by show 71 ≤ 121; omega⟩ (by decide +kernel) (by decide +kernel) (by decide +kernel) hN ⟨by omega, by omega⟩ (lC _ _ c0)) ?_
    show segL L xs clN csL_law _ 200 2729 [(0, aR 1), (1, aR 2), (2, aR 71), (3, aR 120), (4, aR 121), (5, aI k)] [aI cd] _ = some ()
    rw [eB, hl1, gd_t ⟨by omega, by omega⟩, gd_t ⟨by omega, by omega⟩]
    exact cuQ_t
  have eA : ∀ (f : AL → AS → SW → Option Unit), segL L xs clN csL_law (cuC 2726 f cuN) 200 2718 [(0, aR 1), (1, aR 2), (2, aR 71), (3, aR 120), (4, aR 121), (5, aI k)] [] (wW d i9 j9 h h', cells, slots) = gd (R32 (k + 1)) (gd ((0 : Int) ≤ (k + 1) ∧ (k + 1) < lnL L 1) (f [(0, aR 1), (1, aR 2), (2, aR 71), (3, aR 120), (4, aR 121), (5, aI k)] [aR 120, aI (xa xs k 1), aR 2] (wW d i9 j9 h h', cells, slots))) := fun _ => rfl
  have sA : segL L xs clN csL_law (cuC 2726 (cuQ [(0, aR 1), (1, aR 2), (2, aR 71), (3, aR 120), (4, aR 121), (5, aI k)] [aR 120, aI (xa xs k 1), aR 2] (wW d i9 j9 h h', cells, slots) ()) cuN) 200 2718 [(0, aR 1), (1, aR 2), (2, aR 71), (3, aR 120), (4, aR 121), (5, aI k)] [] (wW d i9 j9 h h', cells, slots) = some () := by
    rw [eA, hl1, gd_t ⟨by omega, by omega⟩, gd_t ⟨by omega, by omega⟩]
    exact cuQ_t
  have c0 : cells + mC 311 ≤ 601024 ∧ slots + mS 311 ≤ 7293034 := ⟨roomA (n := 20) (by decide +kernel) hr.1, roomA (n := 100) (by decide +kernel) hr.2⟩
  have call : ∀ {v : Option AV} {σ1 : SG}, MCT 311 hhL_books [aR 2, aI (xa xs k 1), aR 120] (wW d i9 j9 h h') (.inl v) σ1 → LG p l e s m b below meth c D cy 2729 (lcE k) (v.toList ++ []) σ1 (cells + mC 311) (slots + mS 311) → LG p l e s m b below meth c D cy 2718 (lcE k) [] (wW d i9 j9 h h') cells slots := fun hct kk => segQ hLC (callH_lg hLC (n := 311) (as := [aR 2, aI (xa xs k 1), aR 120]) (rest := []) (by decide +kernel) (rowsB_at rwL_law (pc := 2726) (r := (3, .invokestatic 274, 311, 3, 0)) rfl).1 (by decide +kernel) hwL_books rfl (by decide +kernel) hct c0 kk) sA
  obtain ⟨o, hu⟩ := r
  cases o with
  | inl y =>
    obtain ⟨q1, q2⟩ := hq
    exact call (mct_j (hL_books_0 (by show 121 ≤ 121; omega) hM)) (mid 0 (up2 j9 120 0 y) q1 (fun _ => by rw [up2_same]; exact q2.symm))
  | inr ex =>
    obtain ⟨q1, q2⟩ := hq
    rcases (by omega : ex = 0 ∨ ex = 1 ∨ ex = 2 ∨ ex = 3 ∨ 4 ≤ ex) with z | z | z | z | z
    · exact absurd (by rw [z]; rfl) q1
    · exact absurd (by rw [z]; rfl) q1
    · exact absurd (by rw [z]; rfl) q1
    · subst z
      exact call (hL_books_1 (by show 121 ≤ 121; omega) hM) (mid 1 j9 q2 (fun w => by cases w))
    · refine absurd ?_ q1
      show cdX 0 0 0 1 ex = 0
      unfold cdX
      rw [if_neg (by omega), if_neg (by omega), if_neg (by omega), if_neg (by omega)]
theorem cs_door_b0 (hLC : LC p l s m b meth c D cy L xs) (k0 : 0 ≤ k) (k1 : k + 6 ≤ L) (hr : cells + 20 ≤ 601024 ∧ slots + 100 ≤ 7293034) (i : INV h h') (nx : NX p l e s m b below meth c D cy k cells slots) (cb : xa xs k 2 = 0) : LG p l e s m b below meth c D cy 2042 (lcE k) [] (wW d i9 j9 h h') cells slots := by
  have hL := hLC.2.2.2.2
  have hl1 : lnL L 1 = (L : Int) := rfl
  obtain ⟨r, er, r', er', hq, iq⟩ := op_door i (xa xs k 1) 0
  have hM := mct_c (mX11_door (gc_ok (d := d) (i9 := i9) (j9 := j9) (h' := h')) er)
  have mid : ∀ (cd : Int) (j8 : Nat → Int → Int), r'.2.1 71 10 = cd → (cd = 0 → j8 120 0 = r'.1) → LG p l e s m b below meth c D cy 2067 (lcE k) [aI cd] (wW d i9 j8 r.2.1 h') (cells + mC 301) (slots + mS 301) := fun cd j8 hcd hy => by
    have hN : MCT 244 [] [aR 71, aI (xa xs k 1), aI 0] (wW d i9 j8 r.2.1 h') (.inl (some (aI r'.1))) (wW d i9 j8 r.2.1 r'.2) := mX12_door gm_ok er'
    have hT : MCT 170 [] [aR 71] (wW d i9 j8 r.2.1 r'.2) (.inl (some (aI (r'.2.1 71 10)))) (wW d i9 j8 r.2.1 r'.2) := mX12_thrown gm_ok (sX12_thrown (h := r'.2))
    have c0 : cells + mC 301 + mC 244 + mC 170 ≤ cells + 20 ∧ slots + mS 301 + mS 244 + mS 170 ≤ slots + 100 := ⟨roomC (by decide +kernel), roomC (by decide +kernel)⟩
    generalize hz : r'.1 = z at hN hy
    generalize ht : r'.2.1 71 10 = t at hT
    have htc : t = cd := by rw [← ht]; exact hcd
    generalize cells + mC 301 = c1 at *
    generalize slots + mS 301 = s1 at *
    have eD : ∀ (t : Int) (c9 s9 : Nat) (f : AL → AS → SW → Option Unit), segL L xs clN csL_law (cuC 28 f cuN) 200 2099 [(7, aI z), (6, aI cd), (0, aR 1), (1, aR 2), (2, aR 71), (3, aR 120), (4, aR 121), (5, aI k)] [aI t] (wW d i9 j8 r.2.1 r'.2, c9, s9) = if t = cd then (if cd = 0 then gd ((0 : Int) ≤ 0 ∧ (0 : Int) < lnL L 120) (if cmpI ((wW d i9 j8 r.2.1 r'.2).2.2.2.1 120 0) z = 0 then gd (R32 (k + 6)) (f [(5, aI (k + 6)), (7, aI z), (6, aI cd), (0, aR 1), (1, aR 2), (2, aR 71), (3, aR 120), (4, aR 121)] [] (wW d i9 j8 r.2.1 r'.2, c9, s9)) else gd ((0 : Int) ≤ 0 ∧ (0 : Int) ≤ 1) (krL (some (aI 0)) (wW d i9 j8 r.2.1 r'.2, c9, s9))) else gd (R32 (k + 6)) (f [(5, aI (k + 6)), (7, aI z), (6, aI cd), (0, aR 1), (1, aR 2), (2, aR 71), (3, aR 120), (4, aR 121)] [] (wW d i9 j8 r.2.1 r'.2, c9, s9))) else gd ((0 : Int) ≤ 0 ∧ (0 : Int) ≤ 1) (krL (some (aI 0)) (wW d i9 j8 r.2.1 r'.2, c9, s9)) := fun _ _ _ _ => rfl
    have lD : ∀ c9 s9 : Nat, c9 ≤ cells + 20 ∧ s9 ≤ slots + 100 → LG p l e s m b below meth c D cy 2099 [(7, aI z), (6, aI cd), (0, aR 1), (1, aR 2), (2, aR 71), (3, aR 120), (4, aR 121), (5, aI k)] [aI t] (wW d i9 j8 r.2.1 r'.2) c9 s9 := fun c9 s9 hc => by
      refine segQ hLC (pc2 := 28) (N := 200) (LG_wid (nx d i9 j8 r.2.1 r'.2 [(5, aI (k + 6)), (7, aI z), (6, aI cd), (0, aR 1), (1, aR 2), (2, aR 71), (3, aR 120), (4, aR 121)] iq lcN_s) hc hr) ?_
      rw [eD, if_pos htc]
      by_cases cz : cd = 0
      · rw [if_pos cz, gd_t ⟨Int.le_refl _, show (0 : Int) < 1 by decide⟩, wWj0, hy cz, cmp_self, if_pos rfl, gd_t ⟨by omega, by omega⟩]
        exact cuQ_t
      · rw [if_neg cz, gd_t ⟨by omega, by omega⟩]
        exact cuQ_t
    have eC : ∀ (z : Int) (c9 s9 : Nat) (f : AL → AS → SW → Option Unit), segL L xs clN csL_law (cuC 2096 f cuN) 200 2093 [(6, aI cd), (0, aR 1), (1, aR 2), (2, aR 71), (3, aR 120), (4, aR 121), (5, aI k)] [aI z] (wW d i9 j8 r.2.1 r'.2, c9, s9) = f [(7, aI z), (6, aI cd), (0, aR 1), (1, aR 2), (2, aR 71), (3, aR 120), (4, aR 121), (5, aI k)] [aR 71] (wW d i9 j8 r.2.1 r'.2, c9, s9) := fun _ _ _ _ => rfl
    have lC : ∀ c9 s9 : Nat, c9 + mC 170 ≤ cells + 20 ∧ s9 + mS 170 ≤ slots + 100 → LG p l e s m b below meth c D cy 2093 [(6, aI cd), (0, aR 1), (1, aR 2), (2, aR 71), (3, aR 120), (4, aR 121), (5, aI k)] [aI z] (wW d i9 j8 r.2.1 r'.2) c9 s9 := fun c9 s9 hc => by
      refine segQ hLC (pc2 := 2096) (N := 200) (callV_lg hLC (n := 170) (a := 71) (as := []) (rest := []) (by decide +kernel) (rowsB_at rwL_law (pc := 2096) (r := (3, .invokevirtual 149, 170, 1, 12)) rfl).1 (by decide +kernel) rfl ⟨by decide, by show 71 ≤ 121; omega⟩ (by decide +kernel) (by decide +kernel) (by decide +kernel) hT ⟨by omega, by omega⟩ (lD _ _ hc)) ?_
      rw [eC]
      exact cuQ_t
    have eB : ∀ (c9 s9 : Nat) (f : AL → AS → SW → Option Unit), segL L xs clN csL_law (cuC 2090 f cuN) 200 2067 [(0, aR 1), (1, aR 2), (2, aR 71), (3, aR 120), (4, aR 121), (5, aI k)] [aI cd] (wW d i9 j8 r.2.1 h', c9, s9) = gd (R32 (k + 1)) (gd ((0 : Int) ≤ (k + 1) ∧ (k + 1) < lnL L 1) (gd (R32 (k + 2)) (gd ((0 : Int) ≤ (k + 2) ∧ (k + 2) < lnL L 1) (if xa xs k 2 = 0 then f [(6, aI cd), (0, aR 1), (1, aR 2), (2, aR 71), (3, aR 120), (4, aR 121), (5, aI k)] [aI 0, aI (xa xs k 1), aR 71] (wW d i9 j8 r.2.1 h', c9, s9) else f [(6, aI cd), (0, aR 1), (1, aR 2), (2, aR 71), (3, aR 120), (4, aR 121), (5, aI k)] [aI 1, aI (xa xs k 1), aR 71] (wW d i9 j8 r.2.1 h', c9, s9))))) := fun _ _ _ => rfl
    refine segQ hLC (pc2 := 2090) (N := 200) (callV_lg hLC (n := 244) (a := 71) (as := [aI (xa xs k 1), aI 0]) (rest := []) (by decide +kernel) (rowsB_at rwL_law (pc := 2090) (r := (3, .invokevirtual 241, 244, 3, 12)) rfl).1 (by decide +kernel) rfl ⟨by decide, by show 71 ≤ 121; omega⟩ (by decide +kernel) (by decide +kernel) (by decide +kernel) hN ⟨by omega, by omega⟩ (lC _ _ c0)) ?_
    show segL L xs clN csL_law _ 200 2067 [(0, aR 1), (1, aR 2), (2, aR 71), (3, aR 120), (4, aR 121), (5, aI k)] [aI cd] _ = some ()
    rw [eB, hl1, gd_t ⟨by omega, by omega⟩, gd_t ⟨by omega, by omega⟩, gd_t ⟨by omega, by omega⟩, gd_t ⟨by omega, by omega⟩, if_pos cb]
    exact cuQ_t
  have eA : ∀ (f : AL → AS → SW → Option Unit), segL L xs clN csL_law (cuC 2064 f cuN) 200 2042 [(0, aR 1), (1, aR 2), (2, aR 71), (3, aR 120), (4, aR 121), (5, aI k)] [] (wW d i9 j9 h h', cells, slots) = gd (R32 (k + 1)) (gd ((0 : Int) ≤ (k + 1) ∧ (k + 1) < lnL L 1) (gd (R32 (k + 2)) (gd ((0 : Int) ≤ (k + 2) ∧ (k + 2) < lnL L 1) (if xa xs k 2 = 0 then f [(0, aR 1), (1, aR 2), (2, aR 71), (3, aR 120), (4, aR 121), (5, aI k)] [aR 120, aI 0, aI (xa xs k 1), aR 2] (wW d i9 j9 h h', cells, slots) else f [(0, aR 1), (1, aR 2), (2, aR 71), (3, aR 120), (4, aR 121), (5, aI k)] [aR 120, aI 1, aI (xa xs k 1), aR 2] (wW d i9 j9 h h', cells, slots))))) := fun _ => rfl
  have sA : segL L xs clN csL_law (cuC 2064 (cuQ [(0, aR 1), (1, aR 2), (2, aR 71), (3, aR 120), (4, aR 121), (5, aI k)] [aR 120, aI 0, aI (xa xs k 1), aR 2] (wW d i9 j9 h h', cells, slots) ()) cuN) 200 2042 [(0, aR 1), (1, aR 2), (2, aR 71), (3, aR 120), (4, aR 121), (5, aI k)] [] (wW d i9 j9 h h', cells, slots) = some () := by
    rw [eA, hl1, gd_t ⟨by omega, by omega⟩, gd_t ⟨by omega, by omega⟩, gd_t ⟨by omega, by omega⟩, gd_t ⟨by omega, by omega⟩, if_pos cb]
    exact cuQ_t
  have c0 : cells + mC 301 ≤ 601024 ∧ slots + mS 301 ≤ 7293034 := ⟨roomA (n := 20) (by decide +kernel) hr.1, roomA (n := 100) (by decide +kernel) hr.2⟩
  have call : ∀ {v : Option AV} {σ1 : SG}, MCT 301 hhL_door [aR 2, aI (xa xs k 1), aI 0, aR 120] (wW d i9 j9 h h') (.inl v) σ1 → LG p l e s m b below meth c D cy 2067 (lcE k) (v.toList ++ []) σ1 (cells + mC 301) (slots + mS 301) → LG p l e s m b below meth c D cy 2042 (lcE k) [] (wW d i9 j9 h h') cells slots := fun hct kk => segQ hLC (callH_lg hLC (n := 301) (as := [aR 2, aI (xa xs k 1), aI 0, aR 120]) (rest := []) (by decide +kernel) (rowsB_at rwL_law (pc := 2064) (r := (3, .invokestatic 238, 301, 4, 0)) rfl).1 (by decide +kernel) hwL_door rfl (by decide +kernel) hct c0 kk) sA
  obtain ⟨o, hu⟩ := r
  cases o with
  | inl y =>
    obtain ⟨q1, q2⟩ := hq
    exact call (mct_j (hL_door_0 (by show 121 ≤ 121; omega) hM)) (mid 0 (up2 j9 120 0 y) q1 (fun _ => by rw [up2_same]; exact q2.symm))
  | inr ex =>
    obtain ⟨q1, q2⟩ := hq
    rcases (by omega : ex = 0 ∨ ex = 1 ∨ ex = 2 ∨ ex = 3 ∨ 4 ≤ ex) with z | z | z | z | z
    · subst z
      exact call (hL_door_1 (by show 121 ≤ 121; omega) hM) (mid 1 j9 q2 (fun w => by cases w))
    · exact absurd (by rw [z]; rfl) q1
    · subst z
      exact call (hL_door_2 (by show 121 ≤ 121; omega) hM) (mid 2 j9 q2 (fun w => by cases w))
    · exact absurd (by rw [z]; rfl) q1
    · refine absurd ?_ q1
      show cdX 1 0 2 0 ex = 0
      unfold cdX
      rw [if_neg (by omega), if_neg (by omega), if_neg (by omega), if_neg (by omega)]
theorem cs_door_b1 (hLC : LC p l s m b meth c D cy L xs) (k0 : 0 ≤ k) (k1 : k + 6 ≤ L) (hr : cells + 20 ≤ 601024 ∧ slots + 100 ≤ 7293034) (i : INV h h') (nx : NX p l e s m b below meth c D cy k cells slots) (cb : ¬ xa xs k 2 = 0) : LG p l e s m b below meth c D cy 2042 (lcE k) [] (wW d i9 j9 h h') cells slots := by
  have hL := hLC.2.2.2.2
  have hl1 : lnL L 1 = (L : Int) := rfl
  obtain ⟨r, er, r', er', hq, iq⟩ := op_door i (xa xs k 1) 1
  have hM := mct_c (mX11_door (gc_ok (d := d) (i9 := i9) (j9 := j9) (h' := h')) er)
  have mid : ∀ (cd : Int) (j8 : Nat → Int → Int), r'.2.1 71 10 = cd → (cd = 0 → j8 120 0 = r'.1) → LG p l e s m b below meth c D cy 2067 (lcE k) [aI cd] (wW d i9 j8 r.2.1 h') (cells + mC 301) (slots + mS 301) := fun cd j8 hcd hy => by
    have hN : MCT 244 [] [aR 71, aI (xa xs k 1), aI 1] (wW d i9 j8 r.2.1 h') (.inl (some (aI r'.1))) (wW d i9 j8 r.2.1 r'.2) := mX12_door gm_ok er'
    have hT : MCT 170 [] [aR 71] (wW d i9 j8 r.2.1 r'.2) (.inl (some (aI (r'.2.1 71 10)))) (wW d i9 j8 r.2.1 r'.2) := mX12_thrown gm_ok (sX12_thrown (h := r'.2))
    have c0 : cells + mC 301 + mC 244 + mC 170 ≤ cells + 20 ∧ slots + mS 301 + mS 244 + mS 170 ≤ slots + 100 := ⟨roomC (by decide +kernel), roomC (by decide +kernel)⟩
    generalize hz : r'.1 = z at hN hy
    generalize ht : r'.2.1 71 10 = t at hT
    have htc : t = cd := by rw [← ht]; exact hcd
    generalize cells + mC 301 = c1 at *
    generalize slots + mS 301 = s1 at *
    have eD : ∀ (t : Int) (c9 s9 : Nat) (f : AL → AS → SW → Option Unit), segL L xs clN csL_law (cuC 28 f cuN) 200 2099 [(7, aI z), (6, aI cd), (0, aR 1), (1, aR 2), (2, aR 71), (3, aR 120), (4, aR 121), (5, aI k)] [aI t] (wW d i9 j8 r.2.1 r'.2, c9, s9) = if t = cd then (if cd = 0 then gd ((0 : Int) ≤ 0 ∧ (0 : Int) < lnL L 120) (if cmpI ((wW d i9 j8 r.2.1 r'.2).2.2.2.1 120 0) z = 0 then gd (R32 (k + 6)) (f [(5, aI (k + 6)), (7, aI z), (6, aI cd), (0, aR 1), (1, aR 2), (2, aR 71), (3, aR 120), (4, aR 121)] [] (wW d i9 j8 r.2.1 r'.2, c9, s9)) else gd ((0 : Int) ≤ 0 ∧ (0 : Int) ≤ 1) (krL (some (aI 0)) (wW d i9 j8 r.2.1 r'.2, c9, s9))) else gd (R32 (k + 6)) (f [(5, aI (k + 6)), (7, aI z), (6, aI cd), (0, aR 1), (1, aR 2), (2, aR 71), (3, aR 120), (4, aR 121)] [] (wW d i9 j8 r.2.1 r'.2, c9, s9))) else gd ((0 : Int) ≤ 0 ∧ (0 : Int) ≤ 1) (krL (some (aI 0)) (wW d i9 j8 r.2.1 r'.2, c9, s9)) := fun _ _ _ _ => rfl
    have lD : ∀ c9 s9 : Nat, c9 ≤ cells + 20 ∧ s9 ≤ slots + 100 → LG p l e s m b below meth c D cy 2099 [(7, aI z), (6, aI cd), (0, aR 1), (1, aR 2), (2, aR 71), (3, aR 120), (4, aR 121), (5, aI k)] [aI t] (wW d i9 j8 r.2.1 r'.2) c9 s9 := fun c9 s9 hc => by
      refine segQ hLC (pc2 := 28) (N := 200) (LG_wid (nx d i9 j8 r.2.1 r'.2 [(5, aI (k + 6)), (7, aI z), (6, aI cd), (0, aR 1), (1, aR 2), (2, aR 71), (3, aR 120), (4, aR 121)] iq lcN_s) hc hr) ?_
      rw [eD, if_pos htc]
      by_cases cz : cd = 0
      · rw [if_pos cz, gd_t ⟨Int.le_refl _, show (0 : Int) < 1 by decide⟩, wWj0, hy cz, cmp_self, if_pos rfl, gd_t ⟨by omega, by omega⟩]
        exact cuQ_t
      · rw [if_neg cz, gd_t ⟨by omega, by omega⟩]
        exact cuQ_t
    have eC : ∀ (z : Int) (c9 s9 : Nat) (f : AL → AS → SW → Option Unit), segL L xs clN csL_law (cuC 2096 f cuN) 200 2093 [(6, aI cd), (0, aR 1), (1, aR 2), (2, aR 71), (3, aR 120), (4, aR 121), (5, aI k)] [aI z] (wW d i9 j8 r.2.1 r'.2, c9, s9) = f [(7, aI z), (6, aI cd), (0, aR 1), (1, aR 2), (2, aR 71), (3, aR 120), (4, aR 121), (5, aI k)] [aR 71] (wW d i9 j8 r.2.1 r'.2, c9, s9) := fun _ _ _ _ => rfl
    have lC : ∀ c9 s9 : Nat, c9 + mC 170 ≤ cells + 20 ∧ s9 + mS 170 ≤ slots + 100 → LG p l e s m b below meth c D cy 2093 [(6, aI cd), (0, aR 1), (1, aR 2), (2, aR 71), (3, aR 120), (4, aR 121), (5, aI k)] [aI z] (wW d i9 j8 r.2.1 r'.2) c9 s9 := fun c9 s9 hc => by
      refine segQ hLC (pc2 := 2096) (N := 200) (callV_lg hLC (n := 170) (a := 71) (as := []) (rest := []) (by decide +kernel) (rowsB_at rwL_law (pc := 2096) (r := (3, .invokevirtual 149, 170, 1, 12)) rfl).1 (by decide +kernel) rfl ⟨by decide, by show 71 ≤ 121; omega⟩ (by decide +kernel) (by decide +kernel) (by decide +kernel) hT ⟨by omega, by omega⟩ (lD _ _ hc)) ?_
      rw [eC]
      exact cuQ_t
    have eB : ∀ (c9 s9 : Nat) (f : AL → AS → SW → Option Unit), segL L xs clN csL_law (cuC 2090 f cuN) 200 2067 [(0, aR 1), (1, aR 2), (2, aR 71), (3, aR 120), (4, aR 121), (5, aI k)] [aI cd] (wW d i9 j8 r.2.1 h', c9, s9) = gd (R32 (k + 1)) (gd ((0 : Int) ≤ (k + 1) ∧ (k + 1) < lnL L 1) (gd (R32 (k + 2)) (gd ((0 : Int) ≤ (k + 2) ∧ (k + 2) < lnL L 1) (if xa xs k 2 = 0 then f [(6, aI cd), (0, aR 1), (1, aR 2), (2, aR 71), (3, aR 120), (4, aR 121), (5, aI k)] [aI 0, aI (xa xs k 1), aR 71] (wW d i9 j8 r.2.1 h', c9, s9) else f [(6, aI cd), (0, aR 1), (1, aR 2), (2, aR 71), (3, aR 120), (4, aR 121), (5, aI k)] [aI 1, aI (xa xs k 1), aR 71] (wW d i9 j8 r.2.1 h', c9, s9))))) := fun _ _ _ => rfl
    refine segQ hLC (pc2 := 2090) (N := 200) (callV_lg hLC (n := 244) (a := 71) (as := [aI (xa xs k 1), aI 1]) (rest := []) (by decide +kernel) (rowsB_at rwL_law (pc := 2090) (r := (3, .invokevirtual 241, 244, 3, 12)) rfl).1 (by decide +kernel) rfl ⟨by decide, by show 71 ≤ 121; omega⟩ (by decide +kernel) (by decide +kernel) (by decide +kernel) hN ⟨by omega, by omega⟩ (lC _ _ c0)) ?_
    show segL L xs clN csL_law _ 200 2067 [(0, aR 1), (1, aR 2), (2, aR 71), (3, aR 120), (4, aR 121), (5, aI k)] [aI cd] _ = some ()
    rw [eB, hl1, gd_t ⟨by omega, by omega⟩, gd_t ⟨by omega, by omega⟩, gd_t ⟨by omega, by omega⟩, gd_t ⟨by omega, by omega⟩, if_neg cb]
    exact cuQ_t
  have eA : ∀ (f : AL → AS → SW → Option Unit), segL L xs clN csL_law (cuC 2064 f cuN) 200 2042 [(0, aR 1), (1, aR 2), (2, aR 71), (3, aR 120), (4, aR 121), (5, aI k)] [] (wW d i9 j9 h h', cells, slots) = gd (R32 (k + 1)) (gd ((0 : Int) ≤ (k + 1) ∧ (k + 1) < lnL L 1) (gd (R32 (k + 2)) (gd ((0 : Int) ≤ (k + 2) ∧ (k + 2) < lnL L 1) (if xa xs k 2 = 0 then f [(0, aR 1), (1, aR 2), (2, aR 71), (3, aR 120), (4, aR 121), (5, aI k)] [aR 120, aI 0, aI (xa xs k 1), aR 2] (wW d i9 j9 h h', cells, slots) else f [(0, aR 1), (1, aR 2), (2, aR 71), (3, aR 120), (4, aR 121), (5, aI k)] [aR 120, aI 1, aI (xa xs k 1), aR 2] (wW d i9 j9 h h', cells, slots))))) := fun _ => rfl
  have sA : segL L xs clN csL_law (cuC 2064 (cuQ [(0, aR 1), (1, aR 2), (2, aR 71), (3, aR 120), (4, aR 121), (5, aI k)] [aR 120, aI 1, aI (xa xs k 1), aR 2] (wW d i9 j9 h h', cells, slots) ()) cuN) 200 2042 [(0, aR 1), (1, aR 2), (2, aR 71), (3, aR 120), (4, aR 121), (5, aI k)] [] (wW d i9 j9 h h', cells, slots) = some () := by
    rw [eA, hl1, gd_t ⟨by omega, by omega⟩, gd_t ⟨by omega, by omega⟩, gd_t ⟨by omega, by omega⟩, gd_t ⟨by omega, by omega⟩, if_neg cb]
    exact cuQ_t
  have c0 : cells + mC 301 ≤ 601024 ∧ slots + mS 301 ≤ 7293034 := ⟨roomA (n := 20) (by decide +kernel) hr.1, roomA (n := 100) (by decide +kernel) hr.2⟩
  have call : ∀ {v : Option AV} {σ1 : SG}, MCT 301 hhL_door [aR 2, aI (xa xs k 1), aI 1, aR 120] (wW d i9 j9 h h') (.inl v) σ1 → LG p l e s m b below meth c D cy 2067 (lcE k) (v.toList ++ []) σ1 (cells + mC 301) (slots + mS 301) → LG p l e s m b below meth c D cy 2042 (lcE k) [] (wW d i9 j9 h h') cells slots := fun hct kk => segQ hLC (callH_lg hLC (n := 301) (as := [aR 2, aI (xa xs k 1), aI 1, aR 120]) (rest := []) (by decide +kernel) (rowsB_at rwL_law (pc := 2064) (r := (3, .invokestatic 238, 301, 4, 0)) rfl).1 (by decide +kernel) hwL_door rfl (by decide +kernel) hct c0 kk) sA
  obtain ⟨o, hu⟩ := r
  cases o with
  | inl y =>
    obtain ⟨q1, q2⟩ := hq
    exact call (mct_j (hL_door_0 (by show 121 ≤ 121; omega) hM)) (mid 0 (up2 j9 120 0 y) q1 (fun _ => by rw [up2_same]; exact q2.symm))
  | inr ex =>
    obtain ⟨q1, q2⟩ := hq
    rcases (by omega : ex = 0 ∨ ex = 1 ∨ ex = 2 ∨ ex = 3 ∨ 4 ≤ ex) with z | z | z | z | z
    · subst z
      exact call (hL_door_1 (by show 121 ≤ 121; omega) hM) (mid 1 j9 q2 (fun w => by cases w))
    · exact absurd (by rw [z]; rfl) q1
    · subst z
      exact call (hL_door_2 (by show 121 ≤ 121; omega) hM) (mid 2 j9 q2 (fun w => by cases w))
    · exact absurd (by rw [z]; rfl) q1
    · refine absurd ?_ q1
      show cdX 1 0 2 0 ex = 0
      unfold cdX
      rw [if_neg (by omega), if_neg (by omega), if_neg (by omega), if_neg (by omega)]
theorem cs_door (hLC : LC p l s m b meth c D cy L xs) (k0 : 0 ≤ k) (k1 : k + 6 ≤ L) (hr : cells + 20 ≤ 601024 ∧ slots + 100 ≤ 7293034) (i : INV h h') (nx : NX p l e s m b below meth c D cy k cells slots) : LG p l e s m b below meth c D cy 2042 (lcE k) [] (wW d i9 j9 h h') cells slots := by
  by_cases cb : xa xs k 2 = 0
  · exact cs_door_b0 hLC k0 k1 hr i nx cb
  · exact cs_door_b1 hLC k0 k1 hr i nx cb
end LAWS
