/-! THE LAW'S LOOP: cases -/
section LAWS
variable {p : Program} {l : Launch} {e : Env} {s : State} {m : MethodId} {below : List Frame} {meth : Method} {c : Code} {D : va_G} {cy : Nat → ClassId} {b L : Nat} {xs : Nat → Int32} {cells slots : Nat} {d : Nat → Int → UInt64} {i9 j9 : Nat → Int → Int} {h h' : HH} {k : Int}
theorem cs_window (hLC : LC p l s m b meth c D cy L xs) (k0 : 0 ≤ k) (k1 : k + 6 ≤ L) (hr : cells + 20 ≤ 601024 ∧ slots + 100 ≤ 7293034) (i : INV h h') (nx : NX p l e s m b below meth c D cy k cells slots) : LG p l e s m b below meth c D cy 720 (lcE k) [] (wW d i9 j9 h h') cells slots := by
  have hL := hLC.2.2.2.2
  have hl1 : lnL L 1 = (L : Int) := rfl
  obtain ⟨r, er, r', er', hq, iq⟩ := op_window i (xa xs k 1) (xa xs k 2) (xa xs k 3) (xa xs k 4)
  have hM := mct_c (mX11_window (gc_ok (d := d) (i9 := i9) (j9 := j9) (h' := h')) er)
  have mid : ∀ (cd : Int) (j8 : Nat → Int → Int), r'.2.1 71 10 = cd → (cd = 0 → j8 120 0 = r'.1) → LG p l e s m b below meth c D cy 749 (lcE k) [aI cd] (wW d i9 j8 r.2.1 h') (cells + mC 282) (slots + mS 282) := fun cd j8 hcd hy => by
    have hN : MCT 190 [] [aR 71, aI (xa xs k 1), aI (xa xs k 2), aI (xa xs k 3), aI (xa xs k 4)] (wW d i9 j8 r.2.1 h') (.inl (some (aI r'.1))) (wW d i9 j8 r.2.1 r'.2) := mX12_window gm_ok er'
    have hT : MCT 170 [] [aR 71] (wW d i9 j8 r.2.1 r'.2) (.inl (some (aI (r'.2.1 71 10)))) (wW d i9 j8 r.2.1 r'.2) := mX12_thrown gm_ok (sX12_thrown (h := r'.2))
    have c0 : cells + mC 282 + mC 190 + mC 170 ≤ cells + 20 ∧ slots + mS 282 + mS 190 + mS 170 ≤ slots + 100 := ⟨roomC (by decide +kernel), roomC (by decide +kernel)⟩
    generalize hz : r'.1 = z at hN hy
    generalize ht : r'.2.1 71 10 = t at hT
    have htc : t = cd := by rw [← ht]; exact hcd
    generalize cells + mC 282 = c1 at *
    generalize slots + mS 282 = s1 at *
    have eD : ∀ (t : Int) (c9 s9 : Nat) (f : AL → AS → SW → Option Unit), segL L xs clN csL_law (cuC 28 f cuN) 200 785 [(7, aI z), (6, aI cd), (0, aR 1), (1, aR 2), (2, aR 71), (3, aR 120), (4, aR 121), (5, aI k)] [aI t] (wW d i9 j8 r.2.1 r'.2, c9, s9) = if t = cd then (if cd = 0 then gd ((0 : Int) ≤ 0 ∧ (0 : Int) < lnL L 120) (if cmpI ((wW d i9 j8 r.2.1 r'.2).2.2.2.1 120 0) z = 0 then gd (R32 (k + 6)) (f [(5, aI (k + 6)), (7, aI z), (6, aI cd), (0, aR 1), (1, aR 2), (2, aR 71), (3, aR 120), (4, aR 121)] [] (wW d i9 j8 r.2.1 r'.2, c9, s9)) else gd ((0 : Int) ≤ 0 ∧ (0 : Int) ≤ 1) (krL (some (aI 0)) (wW d i9 j8 r.2.1 r'.2, c9, s9))) else gd (R32 (k + 6)) (f [(5, aI (k + 6)), (7, aI z), (6, aI cd), (0, aR 1), (1, aR 2), (2, aR 71), (3, aR 120), (4, aR 121)] [] (wW d i9 j8 r.2.1 r'.2, c9, s9))) else gd ((0 : Int) ≤ 0 ∧ (0 : Int) ≤ 1) (krL (some (aI 0)) (wW d i9 j8 r.2.1 r'.2, c9, s9)) := fun _ _ _ _ => rfl
    have lD : ∀ c9 s9 : Nat, c9 ≤ cells + 20 ∧ s9 ≤ slots + 100 → LG p l e s m b below meth c D cy 785 [(7, aI z), (6, aI cd), (0, aR 1), (1, aR 2), (2, aR 71), (3, aR 120), (4, aR 121), (5, aI k)] [aI t] (wW d i9 j8 r.2.1 r'.2) c9 s9 := fun c9 s9 hc => by
      refine segQ hLC (pc2 := 28) (N := 200) (LG_wid (nx d i9 j8 r.2.1 r'.2 [(5, aI (k + 6)), (7, aI z), (6, aI cd), (0, aR 1), (1, aR 2), (2, aR 71), (3, aR 120), (4, aR 121)] iq lcN_s) hc hr) ?_
      rw [eD, if_pos htc]
      by_cases cz : cd = 0
      · rw [if_pos cz, gd_t ⟨Int.le_refl _, show (0 : Int) < 1 by decide⟩, wWj0, hy cz, cmp_self, if_pos rfl, gd_t ⟨by omega, by omega⟩]
        exact cuQ_t
      · rw [if_neg cz, gd_t ⟨by omega, by omega⟩]
        exact cuQ_t
    have eC : ∀ (z : Int) (c9 s9 : Nat) (f : AL → AS → SW → Option Unit), segL L xs clN csL_law (cuC 782 f cuN) 200 779 [(6, aI cd), (0, aR 1), (1, aR 2), (2, aR 71), (3, aR 120), (4, aR 121), (5, aI k)] [aI z] (wW d i9 j8 r.2.1 r'.2, c9, s9) = f [(7, aI z), (6, aI cd), (0, aR 1), (1, aR 2), (2, aR 71), (3, aR 120), (4, aR 121), (5, aI k)] [aR 71] (wW d i9 j8 r.2.1 r'.2, c9, s9) := fun _ _ _ _ => rfl
    have lC : ∀ c9 s9 : Nat, c9 + mC 170 ≤ cells + 20 ∧ s9 + mS 170 ≤ slots + 100 → LG p l e s m b below meth c D cy 779 [(6, aI cd), (0, aR 1), (1, aR 2), (2, aR 71), (3, aR 120), (4, aR 121), (5, aI k)] [aI z] (wW d i9 j8 r.2.1 r'.2) c9 s9 := fun c9 s9 hc => by
      refine segQ hLC (pc2 := 782) (N := 200) (callV_lg hLC (n := 170) (a := 71) (as := []) (rest := []) (by decide +kernel) (rowsB_at rwL_law (pc := 782) (r := (3, .invokevirtual 149, 170, 1, 12)) rfl).1 (by decide +kernel) rfl ⟨by decide, by show 71 ≤ 121; omega⟩ (by decide +kernel) (by decide +kernel) (by decide +kernel) hT ⟨by omega, by omega⟩ (lD _ _ hc)) ?_
      rw [eC]
      exact cuQ_t
    have eB : ∀ (c9 s9 : Nat) (f : AL → AS → SW → Option Unit), segL L xs clN csL_law (cuC 776 f cuN) 200 749 [(0, aR 1), (1, aR 2), (2, aR 71), (3, aR 120), (4, aR 121), (5, aI k)] [aI cd] (wW d i9 j8 r.2.1 h', c9, s9) = gd (R32 (k + 1)) (gd ((0 : Int) ≤ (k + 1) ∧ (k + 1) < lnL L 1) (gd (R32 (k + 2)) (gd ((0 : Int) ≤ (k + 2) ∧ (k + 2) < lnL L 1) (gd (R32 (k + 3)) (gd ((0 : Int) ≤ (k + 3) ∧ (k + 3) < lnL L 1) (gd (R32 (k + 4)) (gd ((0 : Int) ≤ (k + 4) ∧ (k + 4) < lnL L 1) (f [(6, aI cd), (0, aR 1), (1, aR 2), (2, aR 71), (3, aR 120), (4, aR 121), (5, aI k)] [aI (xa xs k 4), aI (xa xs k 3), aI (xa xs k 2), aI (xa xs k 1), aR 71] (wW d i9 j8 r.2.1 h', c9, s9))))))))) := fun _ _ _ => rfl
    refine segQ hLC (pc2 := 776) (N := 200) (callV_lg hLC (n := 190) (a := 71) (as := [aI (xa xs k 1), aI (xa xs k 2), aI (xa xs k 3), aI (xa xs k 4)]) (rest := []) (by decide +kernel) (rowsB_at rwL_law (pc := 776) (r := (3, .invokevirtual 172, 190, 5, 12)) rfl).1 (by decide +kernel) rfl ⟨by decide, by show 71 ≤ 121; omega⟩ (by decide +kernel) (by decide +kernel) (by decide +kernel) hN ⟨by omega, by omega⟩ (lC _ _ c0)) ?_
    show segL L xs clN csL_law _ 200 749 [(0, aR 1), (1, aR 2), (2, aR 71), (3, aR 120), (4, aR 121), (5, aI k)] [aI cd] _ = some ()
    rw [eB, hl1, gd_t ⟨by omega, by omega⟩, gd_t ⟨by omega, by omega⟩, gd_t ⟨by omega, by omega⟩, gd_t ⟨by omega, by omega⟩, gd_t ⟨by omega, by omega⟩, gd_t ⟨by omega, by omega⟩, gd_t ⟨by omega, by omega⟩, gd_t ⟨by omega, by omega⟩]
    exact cuQ_t
  have eA : ∀ (f : AL → AS → SW → Option Unit), segL L xs clN csL_law (cuC 746 f cuN) 200 720 [(0, aR 1), (1, aR 2), (2, aR 71), (3, aR 120), (4, aR 121), (5, aI k)] [] (wW d i9 j9 h h', cells, slots) = gd (R32 (k + 1)) (gd ((0 : Int) ≤ (k + 1) ∧ (k + 1) < lnL L 1) (gd (R32 (k + 2)) (gd ((0 : Int) ≤ (k + 2) ∧ (k + 2) < lnL L 1) (gd (R32 (k + 3)) (gd ((0 : Int) ≤ (k + 3) ∧ (k + 3) < lnL L 1) (gd (R32 (k + 4)) (gd ((0 : Int) ≤ (k + 4) ∧ (k + 4) < lnL L 1) (f [(0, aR 1), (1, aR 2), (2, aR 71), (3, aR 120), (4, aR 121), (5, aI k)] [aR 120, aI (xa xs k 4), aI (xa xs k 3), aI (xa xs k 2), aI (xa xs k 1), aR 2] (wW d i9 j9 h h', cells, slots))))))))) := fun _ => rfl
  have sA : segL L xs clN csL_law (cuC 746 (cuQ [(0, aR 1), (1, aR 2), (2, aR 71), (3, aR 120), (4, aR 121), (5, aI k)] [aR 120, aI (xa xs k 4), aI (xa xs k 3), aI (xa xs k 2), aI (xa xs k 1), aR 2] (wW d i9 j9 h h', cells, slots) ()) cuN) 200 720 [(0, aR 1), (1, aR 2), (2, aR 71), (3, aR 120), (4, aR 121), (5, aI k)] [] (wW d i9 j9 h h', cells, slots) = some () := by
    rw [eA, hl1, gd_t ⟨by omega, by omega⟩, gd_t ⟨by omega, by omega⟩, gd_t ⟨by omega, by omega⟩, gd_t ⟨by omega, by omega⟩, gd_t ⟨by omega, by omega⟩, gd_t ⟨by omega, by omega⟩, gd_t ⟨by omega, by omega⟩, gd_t ⟨by omega, by omega⟩]
    exact cuQ_t
  have c0 : cells + mC 282 ≤ 601024 ∧ slots + mS 282 ≤ 7293034 := ⟨roomA (n := 20) (by decide +kernel) hr.1, roomA (n := 100) (by decide +kernel) hr.2⟩
  have call : ∀ {v : Option AV} {σ1 : SG}, MCT 282 hhL_window [aR 2, aI (xa xs k 1), aI (xa xs k 2), aI (xa xs k 3), aI (xa xs k 4), aR 120] (wW d i9 j9 h h') (.inl v) σ1 → LG p l e s m b below meth c D cy 749 (lcE k) (v.toList ++ []) σ1 (cells + mC 282) (slots + mS 282) → LG p l e s m b below meth c D cy 720 (lcE k) [] (wW d i9 j9 h h') cells slots := fun hct kk => segQ hLC (callH_lg hLC (n := 282) (as := [aR 2, aI (xa xs k 1), aI (xa xs k 2), aI (xa xs k 3), aI (xa xs k 4), aR 120]) (rest := []) (by decide +kernel) (rowsB_at rwL_law (pc := 746) (r := (3, .invokestatic 169, 282, 6, 0)) rfl).1 (by decide +kernel) hwL_window rfl (by decide +kernel) hct c0 kk) sA
  obtain ⟨o, hu⟩ := r
  cases o with
  | inl y =>
    obtain ⟨q1, q2⟩ := hq
    exact call (mct_j (hL_window_0 (by show 121 ≤ 121; omega) hM)) (mid 0 (up2 j9 120 0 y) q1 (fun _ => by rw [up2_same]; exact q2.symm))
  | inr ex =>
    obtain ⟨q1, q2⟩ := hq
    rcases (by omega : ex = 0 ∨ ex = 1 ∨ ex = 2 ∨ ex = 3 ∨ 4 ≤ ex) with z | z | z | z | z
    · subst z
      exact call (hL_window_1 (by show 121 ≤ 121; omega) hM) (mid 1 j9 q2 (fun w => by cases w))
    · subst z
      exact call (hL_window_2 (by show 121 ≤ 121; omega) hM) (mid 2 j9 q2 (fun w => by cases w))
    · subst z
      exact call (hL_window_3 (by show 121 ≤ 121; omega) hM) (mid 3 j9 q2 (fun w => by cases w))
    · exact absurd (by rw [z]; rfl) q1
    · refine absurd ?_ q1
      show cdX 1 2 3 0 ex = 0
      unfold cdX
      rw [if_neg (by omega), if_neg (by omega), if_neg (by omega), if_neg (by omega)]
theorem cs_van (hLC : LC p l s m b meth c D cy L xs) (k0 : 0 ≤ k) (k1 : k + 6 ≤ L) (hr : cells + 20 ≤ 601024 ∧ slots + 100 ≤ 7293034) (i : INV h h') (nx : NX p l e s m b below meth c D cy k cells slots) : LG p l e s m b below meth c D cy 812 (lcE k) [] (wW d i9 j9 h h') cells slots := by
  have hL := hLC.2.2.2.2
  have hl1 : lnL L 1 = (L : Int) := rfl
  obtain ⟨r, er, r', er', hq, iq⟩ := op_van i (xa xs k 1) (xa xs k 2) (xa xs k 3)
  have hM := mct_c (mX11_van (gc_ok (d := d) (i9 := i9) (j9 := j9) (h' := h')) er)
  have mid : ∀ (cd : Int) (j8 : Nat → Int → Int), r'.2.1 71 10 = cd → (cd = 0 → j8 120 0 = r'.1) → LG p l e s m b below meth c D cy 835 (lcE k) [aI cd] (wW d i9 j8 r.2.1 h') (cells + mC 283) (slots + mS 283) := fun cd j8 hcd hy => by
    have hN : MCT 191 [] [aR 71, aI (xa xs k 1), aI (xa xs k 2), aI (xa xs k 3)] (wW d i9 j8 r.2.1 h') (.inl (some (aI r'.1))) (wW d i9 j8 r.2.1 r'.2) := mX12_van gm_ok er'
    have hT : MCT 170 [] [aR 71] (wW d i9 j8 r.2.1 r'.2) (.inl (some (aI (r'.2.1 71 10)))) (wW d i9 j8 r.2.1 r'.2) := mX12_thrown gm_ok (sX12_thrown (h := r'.2))
    have c0 : cells + mC 283 + mC 191 + mC 170 ≤ cells + 20 ∧ slots + mS 283 + mS 191 + mS 170 ≤ slots + 100 := ⟨roomC (by decide +kernel), roomC (by decide +kernel)⟩
    generalize hz : r'.1 = z at hN hy
    generalize ht : r'.2.1 71 10 = t at hT
    have htc : t = cd := by rw [← ht]; exact hcd
    generalize cells + mC 283 = c1 at *
    generalize slots + mS 283 = s1 at *
    have eD : ∀ (t : Int) (c9 s9 : Nat) (f : AL → AS → SW → Option Unit), segL L xs clN csL_law (cuC 28 f cuN) 200 865 [(7, aI z), (6, aI cd), (0, aR 1), (1, aR 2), (2, aR 71), (3, aR 120), (4, aR 121), (5, aI k)] [aI t] (wW d i9 j8 r.2.1 r'.2, c9, s9) = if t = cd then (if cd = 0 then gd ((0 : Int) ≤ 0 ∧ (0 : Int) < lnL L 120) (if cmpI ((wW d i9 j8 r.2.1 r'.2).2.2.2.1 120 0) z = 0 then gd (R32 (k + 6)) (f [(5, aI (k + 6)), (7, aI z), (6, aI cd), (0, aR 1), (1, aR 2), (2, aR 71), (3, aR 120), (4, aR 121)] [] (wW d i9 j8 r.2.1 r'.2, c9, s9)) else gd ((0 : Int) ≤ 0 ∧ (0 : Int) ≤ 1) (krL (some (aI 0)) (wW d i9 j8 r.2.1 r'.2, c9, s9))) else gd (R32 (k + 6)) (f [(5, aI (k + 6)), (7, aI z), (6, aI cd), (0, aR 1), (1, aR 2), (2, aR 71), (3, aR 120), (4, aR 121)] [] (wW d i9 j8 r.2.1 r'.2, c9, s9))) else gd ((0 : Int) ≤ 0 ∧ (0 : Int) ≤ 1) (krL (some (aI 0)) (wW d i9 j8 r.2.1 r'.2, c9, s9)) := fun _ _ _ _ => rfl
    have lD : ∀ c9 s9 : Nat, c9 ≤ cells + 20 ∧ s9 ≤ slots + 100 → LG p l e s m b below meth c D cy 865 [(7, aI z), (6, aI cd), (0, aR 1), (1, aR 2), (2, aR 71), (3, aR 120), (4, aR 121), (5, aI k)] [aI t] (wW d i9 j8 r.2.1 r'.2) c9 s9 := fun c9 s9 hc => by
      refine segQ hLC (pc2 := 28) (N := 200) (LG_wid (nx d i9 j8 r.2.1 r'.2 [(5, aI (k + 6)), (7, aI z), (6, aI cd), (0, aR 1), (1, aR 2), (2, aR 71), (3, aR 120), (4, aR 121)] iq lcN_s) hc hr) ?_
      rw [eD, if_pos htc]
      by_cases cz : cd = 0
      · rw [if_pos cz, gd_t ⟨Int.le_refl _, show (0 : Int) < 1 by decide⟩, wWj0, hy cz, cmp_self, if_pos rfl, gd_t ⟨by omega, by omega⟩]
        exact cuQ_t
      · rw [if_neg cz, gd_t ⟨by omega, by omega⟩]
        exact cuQ_t
    have eC : ∀ (z : Int) (c9 s9 : Nat) (f : AL → AS → SW → Option Unit), segL L xs clN csL_law (cuC 862 f cuN) 200 859 [(6, aI cd), (0, aR 1), (1, aR 2), (2, aR 71), (3, aR 120), (4, aR 121), (5, aI k)] [aI z] (wW d i9 j8 r.2.1 r'.2, c9, s9) = f [(7, aI z), (6, aI cd), (0, aR 1), (1, aR 2), (2, aR 71), (3, aR 120), (4, aR 121), (5, aI k)] [aR 71] (wW d i9 j8 r.2.1 r'.2, c9, s9) := fun _ _ _ _ => rfl
    have lC : ∀ c9 s9 : Nat, c9 + mC 170 ≤ cells + 20 ∧ s9 + mS 170 ≤ slots + 100 → LG p l e s m b below meth c D cy 859 [(6, aI cd), (0, aR 1), (1, aR 2), (2, aR 71), (3, aR 120), (4, aR 121), (5, aI k)] [aI z] (wW d i9 j8 r.2.1 r'.2) c9 s9 := fun c9 s9 hc => by
      refine segQ hLC (pc2 := 862) (N := 200) (callV_lg hLC (n := 170) (a := 71) (as := []) (rest := []) (by decide +kernel) (rowsB_at rwL_law (pc := 862) (r := (3, .invokevirtual 149, 170, 1, 12)) rfl).1 (by decide +kernel) rfl ⟨by decide, by show 71 ≤ 121; omega⟩ (by decide +kernel) (by decide +kernel) (by decide +kernel) hT ⟨by omega, by omega⟩ (lD _ _ hc)) ?_
      rw [eC]
      exact cuQ_t
    have eB : ∀ (c9 s9 : Nat) (f : AL → AS → SW → Option Unit), segL L xs clN csL_law (cuC 856 f cuN) 200 835 [(0, aR 1), (1, aR 2), (2, aR 71), (3, aR 120), (4, aR 121), (5, aI k)] [aI cd] (wW d i9 j8 r.2.1 h', c9, s9) = gd (R32 (k + 1)) (gd ((0 : Int) ≤ (k + 1) ∧ (k + 1) < lnL L 1) (gd (R32 (k + 2)) (gd ((0 : Int) ≤ (k + 2) ∧ (k + 2) < lnL L 1) (gd (R32 (k + 3)) (gd ((0 : Int) ≤ (k + 3) ∧ (k + 3) < lnL L 1) (f [(6, aI cd), (0, aR 1), (1, aR 2), (2, aR 71), (3, aR 120), (4, aR 121), (5, aI k)] [aI (xa xs k 3), aI (xa xs k 2), aI (xa xs k 1), aR 71] (wW d i9 j8 r.2.1 h', c9, s9))))))) := fun _ _ _ => rfl
    refine segQ hLC (pc2 := 856) (N := 200) (callV_lg hLC (n := 191) (a := 71) (as := [aI (xa xs k 1), aI (xa xs k 2), aI (xa xs k 3)]) (rest := []) (by decide +kernel) (rowsB_at rwL_law (pc := 856) (r := (3, .invokevirtual 175, 191, 4, 12)) rfl).1 (by decide +kernel) rfl ⟨by decide, by show 71 ≤ 121; omega⟩ (by decide +kernel) (by decide +kernel) (by decide +kernel) hN ⟨by omega, by omega⟩ (lC _ _ c0)) ?_
    show segL L xs clN csL_law _ 200 835 [(0, aR 1), (1, aR 2), (2, aR 71), (3, aR 120), (4, aR 121), (5, aI k)] [aI cd] _ = some ()
    rw [eB, hl1, gd_t ⟨by omega, by omega⟩, gd_t ⟨by omega, by omega⟩, gd_t ⟨by omega, by omega⟩, gd_t ⟨by omega, by omega⟩, gd_t ⟨by omega, by omega⟩, gd_t ⟨by omega, by omega⟩]
    exact cuQ_t
  have eA : ∀ (f : AL → AS → SW → Option Unit), segL L xs clN csL_law (cuC 832 f cuN) 200 812 [(0, aR 1), (1, aR 2), (2, aR 71), (3, aR 120), (4, aR 121), (5, aI k)] [] (wW d i9 j9 h h', cells, slots) = gd (R32 (k + 1)) (gd ((0 : Int) ≤ (k + 1) ∧ (k + 1) < lnL L 1) (gd (R32 (k + 2)) (gd ((0 : Int) ≤ (k + 2) ∧ (k + 2) < lnL L 1) (gd (R32 (k + 3)) (gd ((0 : Int) ≤ (k + 3) ∧ (k + 3) < lnL L 1) (f [(0, aR 1), (1, aR 2), (2, aR 71), (3, aR 120), (4, aR 121), (5, aI k)] [aR 120, aI (xa xs k 3), aI (xa xs k 2), aI (xa xs k 1), aR 2] (wW d i9 j9 h h', cells, slots))))))) := fun _ => rfl
  have sA : segL L xs clN csL_law (cuC 832 (cuQ [(0, aR 1), (1, aR 2), (2, aR 71), (3, aR 120), (4, aR 121), (5, aI k)] [aR 120, aI (xa xs k 3), aI (xa xs k 2), aI (xa xs k 1), aR 2] (wW d i9 j9 h h', cells, slots) ()) cuN) 200 812 [(0, aR 1), (1, aR 2), (2, aR 71), (3, aR 120), (4, aR 121), (5, aI k)] [] (wW d i9 j9 h h', cells, slots) = some () := by
    rw [eA, hl1, gd_t ⟨by omega, by omega⟩, gd_t ⟨by omega, by omega⟩, gd_t ⟨by omega, by omega⟩, gd_t ⟨by omega, by omega⟩, gd_t ⟨by omega, by omega⟩, gd_t ⟨by omega, by omega⟩]
    exact cuQ_t
  have c0 : cells + mC 283 ≤ 601024 ∧ slots + mS 283 ≤ 7293034 := ⟨roomA (n := 20) (by decide +kernel) hr.1, roomA (n := 100) (by decide +kernel) hr.2⟩
  have call : ∀ {v : Option AV} {σ1 : SG}, MCT 283 hhL_van [aR 2, aI (xa xs k 1), aI (xa xs k 2), aI (xa xs k 3), aR 120] (wW d i9 j9 h h') (.inl v) σ1 → LG p l e s m b below meth c D cy 835 (lcE k) (v.toList ++ []) σ1 (cells + mC 283) (slots + mS 283) → LG p l e s m b below meth c D cy 812 (lcE k) [] (wW d i9 j9 h h') cells slots := fun hct kk => segQ hLC (callH_lg hLC (n := 283) (as := [aR 2, aI (xa xs k 1), aI (xa xs k 2), aI (xa xs k 3), aR 120]) (rest := []) (by decide +kernel) (rowsB_at rwL_law (pc := 832) (r := (3, .invokestatic 173, 283, 5, 0)) rfl).1 (by decide +kernel) hwL_van rfl (by decide +kernel) hct c0 kk) sA
  obtain ⟨o, hu⟩ := r
  cases o with
  | inl y =>
    obtain ⟨q1, q2⟩ := hq
    exact call (mct_j (hL_van_0 (by show 121 ≤ 121; omega) hM)) (mid 0 (up2 j9 120 0 y) q1 (fun _ => by rw [up2_same]; exact q2.symm))
  | inr ex =>
    obtain ⟨q1, q2⟩ := hq
    rcases (by omega : ex = 0 ∨ ex = 1 ∨ ex = 2 ∨ ex = 3 ∨ 4 ≤ ex) with z | z | z | z | z
    · exact absurd (by rw [z]; rfl) q1
    · subst z
      exact call (hL_van_1 (by show 121 ≤ 121; omega) hM) (mid 1 j9 q2 (fun w => by cases w))
    · subst z
      exact call (hL_van_2 (by show 121 ≤ 121; omega) hM) (mid 2 j9 q2 (fun w => by cases w))
    · exact absurd (by rw [z]; rfl) q1
    · refine absurd ?_ q1
      show cdX 0 1 2 0 ex = 0
      unfold cdX
      rw [if_neg (by omega), if_neg (by omega), if_neg (by omega), if_neg (by omega)]
theorem cs_put (hLC : LC p l s m b meth c D cy L xs) (k0 : 0 ≤ k) (k1 : k + 6 ≤ L) (hr : cells + 20 ≤ 601024 ∧ slots + 100 ≤ 7293034) (i : INV h h') (nx : NX p l e s m b below meth c D cy k cells slots) : LG p l e s m b below meth c D cy 892 (lcE k) [] (wW d i9 j9 h h') cells slots := by
  have hL := hLC.2.2.2.2
  have hl1 : lnL L 1 = (L : Int) := rfl
  obtain ⟨r, er, r', er', hq, iq⟩ := op_put i (xa xs k 1) (xa xs k 2) (xa xs k 3)
  have hM := mct_c (mX11_put (gc_ok (d := d) (i9 := i9) (j9 := j9) (h' := h')) er)
  have mid : ∀ (cd : Int) (j8 : Nat → Int → Int), r'.2.1 71 10 = cd → (cd = 0 → j8 120 0 = r'.1) → LG p l e s m b below meth c D cy 915 (lcE k) [aI cd] (wW d i9 j8 r.2.1 h') (cells + mC 284) (slots + mS 284) := fun cd j8 hcd hy => by
    have hN : MCT 202 [] [aR 71, aI (xa xs k 1), aI (xa xs k 2), aI (xa xs k 3)] (wW d i9 j8 r.2.1 h') (.inl (some (aI r'.1))) (wW d i9 j8 r.2.1 r'.2) := mX12_put gm_ok er'
    have hT : MCT 170 [] [aR 71] (wW d i9 j8 r.2.1 r'.2) (.inl (some (aI (r'.2.1 71 10)))) (wW d i9 j8 r.2.1 r'.2) := mX12_thrown gm_ok (sX12_thrown (h := r'.2))
    have c0 : cells + mC 284 + mC 202 + mC 170 ≤ cells + 20 ∧ slots + mS 284 + mS 202 + mS 170 ≤ slots + 100 := ⟨roomC (by decide +kernel), roomC (by decide +kernel)⟩
    generalize hz : r'.1 = z at hN hy
    generalize ht : r'.2.1 71 10 = t at hT
    have htc : t = cd := by rw [← ht]; exact hcd
    generalize cells + mC 284 = c1 at *
    generalize slots + mS 284 = s1 at *
    have eD : ∀ (t : Int) (c9 s9 : Nat) (f : AL → AS → SW → Option Unit), segL L xs clN csL_law (cuC 28 f cuN) 200 945 [(7, aI z), (6, aI cd), (0, aR 1), (1, aR 2), (2, aR 71), (3, aR 120), (4, aR 121), (5, aI k)] [aI t] (wW d i9 j8 r.2.1 r'.2, c9, s9) = if t = cd then (if cd = 0 then gd ((0 : Int) ≤ 0 ∧ (0 : Int) < lnL L 120) (if cmpI ((wW d i9 j8 r.2.1 r'.2).2.2.2.1 120 0) z = 0 then gd (R32 (k + 6)) (f [(5, aI (k + 6)), (7, aI z), (6, aI cd), (0, aR 1), (1, aR 2), (2, aR 71), (3, aR 120), (4, aR 121)] [] (wW d i9 j8 r.2.1 r'.2, c9, s9)) else gd ((0 : Int) ≤ 0 ∧ (0 : Int) ≤ 1) (krL (some (aI 0)) (wW d i9 j8 r.2.1 r'.2, c9, s9))) else gd (R32 (k + 6)) (f [(5, aI (k + 6)), (7, aI z), (6, aI cd), (0, aR 1), (1, aR 2), (2, aR 71), (3, aR 120), (4, aR 121)] [] (wW d i9 j8 r.2.1 r'.2, c9, s9))) else gd ((0 : Int) ≤ 0 ∧ (0 : Int) ≤ 1) (krL (some (aI 0)) (wW d i9 j8 r.2.1 r'.2, c9, s9)) := fun _ _ _ _ => rfl
    have lD : ∀ c9 s9 : Nat, c9 ≤ cells + 20 ∧ s9 ≤ slots + 100 → LG p l e s m b below meth c D cy 945 [(7, aI z), (6, aI cd), (0, aR 1), (1, aR 2), (2, aR 71), (3, aR 120), (4, aR 121), (5, aI k)] [aI t] (wW d i9 j8 r.2.1 r'.2) c9 s9 := fun c9 s9 hc => by
      refine segQ hLC (pc2 := 28) (N := 200) (LG_wid (nx d i9 j8 r.2.1 r'.2 [(5, aI (k + 6)), (7, aI z), (6, aI cd), (0, aR 1), (1, aR 2), (2, aR 71), (3, aR 120), (4, aR 121)] iq lcN_s) hc hr) ?_
      rw [eD, if_pos htc]
      by_cases cz : cd = 0
      · rw [if_pos cz, gd_t ⟨Int.le_refl _, show (0 : Int) < 1 by decide⟩, wWj0, hy cz, cmp_self, if_pos rfl, gd_t ⟨by omega, by omega⟩]
        exact cuQ_t
      · rw [if_neg cz, gd_t ⟨by omega, by omega⟩]
        exact cuQ_t
    have eC : ∀ (z : Int) (c9 s9 : Nat) (f : AL → AS → SW → Option Unit), segL L xs clN csL_law (cuC 942 f cuN) 200 939 [(6, aI cd), (0, aR 1), (1, aR 2), (2, aR 71), (3, aR 120), (4, aR 121), (5, aI k)] [aI z] (wW d i9 j8 r.2.1 r'.2, c9, s9) = f [(7, aI z), (6, aI cd), (0, aR 1), (1, aR 2), (2, aR 71), (3, aR 120), (4, aR 121), (5, aI k)] [aR 71] (wW d i9 j8 r.2.1 r'.2, c9, s9) := fun _ _ _ _ => rfl
    have lC : ∀ c9 s9 : Nat, c9 + mC 170 ≤ cells + 20 ∧ s9 + mS 170 ≤ slots + 100 → LG p l e s m b below meth c D cy 939 [(6, aI cd), (0, aR 1), (1, aR 2), (2, aR 71), (3, aR 120), (4, aR 121), (5, aI k)] [aI z] (wW d i9 j8 r.2.1 r'.2) c9 s9 := fun c9 s9 hc => by
      refine segQ hLC (pc2 := 942) (N := 200) (callV_lg hLC (n := 170) (a := 71) (as := []) (rest := []) (by decide +kernel) (rowsB_at rwL_law (pc := 942) (r := (3, .invokevirtual 149, 170, 1, 12)) rfl).1 (by decide +kernel) rfl ⟨by decide, by show 71 ≤ 121; omega⟩ (by decide +kernel) (by decide +kernel) (by decide +kernel) hT ⟨by omega, by omega⟩ (lD _ _ hc)) ?_
      rw [eC]
      exact cuQ_t
    have eB : ∀ (c9 s9 : Nat) (f : AL → AS → SW → Option Unit), segL L xs clN csL_law (cuC 936 f cuN) 200 915 [(0, aR 1), (1, aR 2), (2, aR 71), (3, aR 120), (4, aR 121), (5, aI k)] [aI cd] (wW d i9 j8 r.2.1 h', c9, s9) = gd (R32 (k + 1)) (gd ((0 : Int) ≤ (k + 1) ∧ (k + 1) < lnL L 1) (gd (R32 (k + 2)) (gd ((0 : Int) ≤ (k + 2) ∧ (k + 2) < lnL L 1) (gd (R32 (k + 3)) (gd ((0 : Int) ≤ (k + 3) ∧ (k + 3) < lnL L 1) (f [(6, aI cd), (0, aR 1), (1, aR 2), (2, aR 71), (3, aR 120), (4, aR 121), (5, aI k)] [aI (xa xs k 3), aI (xa xs k 2), aI (xa xs k 1), aR 71] (wW d i9 j8 r.2.1 h', c9, s9))))))) := fun _ _ _ => rfl
    refine segQ hLC (pc2 := 936) (N := 200) (callV_lg hLC (n := 202) (a := 71) (as := [aI (xa xs k 1), aI (xa xs k 2), aI (xa xs k 3)]) (rest := []) (by decide +kernel) (rowsB_at rwL_law (pc := 936) (r := (3, .invokevirtual 178, 202, 4, 12)) rfl).1 (by decide +kernel) rfl ⟨by decide, by show 71 ≤ 121; omega⟩ (by decide +kernel) (by decide +kernel) (by decide +kernel) hN ⟨by omega, by omega⟩ (lC _ _ c0)) ?_
    show segL L xs clN csL_law _ 200 915 [(0, aR 1), (1, aR 2), (2, aR 71), (3, aR 120), (4, aR 121), (5, aI k)] [aI cd] _ = some ()
    rw [eB, hl1, gd_t ⟨by omega, by omega⟩, gd_t ⟨by omega, by omega⟩, gd_t ⟨by omega, by omega⟩, gd_t ⟨by omega, by omega⟩, gd_t ⟨by omega, by omega⟩, gd_t ⟨by omega, by omega⟩]
    exact cuQ_t
  have eA : ∀ (f : AL → AS → SW → Option Unit), segL L xs clN csL_law (cuC 912 f cuN) 200 892 [(0, aR 1), (1, aR 2), (2, aR 71), (3, aR 120), (4, aR 121), (5, aI k)] [] (wW d i9 j9 h h', cells, slots) = gd (R32 (k + 1)) (gd ((0 : Int) ≤ (k + 1) ∧ (k + 1) < lnL L 1) (gd (R32 (k + 2)) (gd ((0 : Int) ≤ (k + 2) ∧ (k + 2) < lnL L 1) (gd (R32 (k + 3)) (gd ((0 : Int) ≤ (k + 3) ∧ (k + 3) < lnL L 1) (f [(0, aR 1), (1, aR 2), (2, aR 71), (3, aR 120), (4, aR 121), (5, aI k)] [aR 120, aI (xa xs k 3), aI (xa xs k 2), aI (xa xs k 1), aR 2] (wW d i9 j9 h h', cells, slots))))))) := fun _ => rfl
  have sA : segL L xs clN csL_law (cuC 912 (cuQ [(0, aR 1), (1, aR 2), (2, aR 71), (3, aR 120), (4, aR 121), (5, aI k)] [aR 120, aI (xa xs k 3), aI (xa xs k 2), aI (xa xs k 1), aR 2] (wW d i9 j9 h h', cells, slots) ()) cuN) 200 892 [(0, aR 1), (1, aR 2), (2, aR 71), (3, aR 120), (4, aR 121), (5, aI k)] [] (wW d i9 j9 h h', cells, slots) = some () := by
    rw [eA, hl1, gd_t ⟨by omega, by omega⟩, gd_t ⟨by omega, by omega⟩, gd_t ⟨by omega, by omega⟩, gd_t ⟨by omega, by omega⟩, gd_t ⟨by omega, by omega⟩, gd_t ⟨by omega, by omega⟩]
    exact cuQ_t
  have c0 : cells + mC 284 ≤ 601024 ∧ slots + mS 284 ≤ 7293034 := ⟨roomA (n := 20) (by decide +kernel) hr.1, roomA (n := 100) (by decide +kernel) hr.2⟩
  have call : ∀ {v : Option AV} {σ1 : SG}, MCT 284 hhL_put [aR 2, aI (xa xs k 1), aI (xa xs k 2), aI (xa xs k 3), aR 120] (wW d i9 j9 h h') (.inl v) σ1 → LG p l e s m b below meth c D cy 915 (lcE k) (v.toList ++ []) σ1 (cells + mC 284) (slots + mS 284) → LG p l e s m b below meth c D cy 892 (lcE k) [] (wW d i9 j9 h h') cells slots := fun hct kk => segQ hLC (callH_lg hLC (n := 284) (as := [aR 2, aI (xa xs k 1), aI (xa xs k 2), aI (xa xs k 3), aR 120]) (rest := []) (by decide +kernel) (rowsB_at rwL_law (pc := 912) (r := (3, .invokestatic 176, 284, 5, 0)) rfl).1 (by decide +kernel) hwL_put rfl (by decide +kernel) hct c0 kk) sA
  obtain ⟨o, hu⟩ := r
  cases o with
  | inl y =>
    obtain ⟨q1, q2⟩ := hq
    exact call (mct_j (hL_put_0 (by show 121 ≤ 121; omega) hM)) (mid 0 (up2 j9 120 0 y) q1 (fun _ => by rw [up2_same]; exact q2.symm))
  | inr ex =>
    obtain ⟨q1, q2⟩ := hq
    rcases (by omega : ex = 0 ∨ ex = 1 ∨ ex = 2 ∨ ex = 3 ∨ 4 ≤ ex) with z | z | z | z | z
    · subst z
      exact call (hL_put_1 (by show 121 ≤ 121; omega) hM) (mid 1 j9 q2 (fun w => by cases w))
    · exact absurd (by rw [z]; rfl) q1
    · subst z
      exact call (hL_put_2 (by show 121 ≤ 121; omega) hM) (mid 2 j9 q2 (fun w => by cases w))
    · exact absurd (by rw [z]; rfl) q1
    · refine absurd ?_ q1
      show cdX 1 0 2 0 ex = 0
      unfold cdX
      rw [if_neg (by omega), if_neg (by omega), if_neg (by omega), if_neg (by omega)]
theorem cs_takeOut (hLC : LC p l s m b meth c D cy L xs) (k0 : 0 ≤ k) (k1 : k + 6 ≤ L) (hr : cells + 20 ≤ 601024 ∧ slots + 100 ≤ 7293034) (i : INV h h') (nx : NX p l e s m b below meth c D cy k cells slots) : LG p l e s m b below meth c D cy 972 (lcE k) [] (wW d i9 j9 h h') cells slots := by
  have hL := hLC.2.2.2.2
  have hl1 : lnL L 1 = (L : Int) := rfl
  obtain ⟨r, er, r', er', hq, iq⟩ := op_takeOut i (xa xs k 1)
  have hM := mct_c (mX11_takeOut (gc_ok (d := d) (i9 := i9) (j9 := j9) (h' := h')) er)
  have mid : ∀ (cd : Int) (j8 : Nat → Int → Int), r'.2.1 71 10 = cd → (cd = 0 → j8 120 0 = r'.1) → LG p l e s m b below meth c D cy 983 (lcE k) [aI cd] (wW d i9 j8 r.2.1 h') (cells + mC 285) (slots + mS 285) := fun cd j8 hcd hy => by
    have hN : MCT 203 [] [aR 71, aI (xa xs k 1)] (wW d i9 j8 r.2.1 h') (.inl (some (aI r'.1))) (wW d i9 j8 r.2.1 r'.2) := mX12_takeOut gm_ok er'
    have hT : MCT 170 [] [aR 71] (wW d i9 j8 r.2.1 r'.2) (.inl (some (aI (r'.2.1 71 10)))) (wW d i9 j8 r.2.1 r'.2) := mX12_thrown gm_ok (sX12_thrown (h := r'.2))
    have c0 : cells + mC 285 + mC 203 + mC 170 ≤ cells + 20 ∧ slots + mS 285 + mS 203 + mS 170 ≤ slots + 100 := ⟨roomC (by decide +kernel), roomC (by decide +kernel)⟩
    generalize hz : r'.1 = z at hN hy
    generalize ht : r'.2.1 71 10 = t at hT
    have htc : t = cd := by rw [← ht]; exact hcd
    generalize cells + mC 285 = c1 at *
    generalize slots + mS 285 = s1 at *
    have eD : ∀ (t : Int) (c9 s9 : Nat) (f : AL → AS → SW → Option Unit), segL L xs clN csL_law (cuC 28 f cuN) 200 1001 [(7, aI z), (6, aI cd), (0, aR 1), (1, aR 2), (2, aR 71), (3, aR 120), (4, aR 121), (5, aI k)] [aI t] (wW d i9 j8 r.2.1 r'.2, c9, s9) = if t = cd then (if cd = 0 then gd ((0 : Int) ≤ 0 ∧ (0 : Int) < lnL L 120) (if cmpI ((wW d i9 j8 r.2.1 r'.2).2.2.2.1 120 0) z = 0 then gd (R32 (k + 6)) (f [(5, aI (k + 6)), (7, aI z), (6, aI cd), (0, aR 1), (1, aR 2), (2, aR 71), (3, aR 120), (4, aR 121)] [] (wW d i9 j8 r.2.1 r'.2, c9, s9)) else gd ((0 : Int) ≤ 0 ∧ (0 : Int) ≤ 1) (krL (some (aI 0)) (wW d i9 j8 r.2.1 r'.2, c9, s9))) else gd (R32 (k + 6)) (f [(5, aI (k + 6)), (7, aI z), (6, aI cd), (0, aR 1), (1, aR 2), (2, aR 71), (3, aR 120), (4, aR 121)] [] (wW d i9 j8 r.2.1 r'.2, c9, s9))) else gd ((0 : Int) ≤ 0 ∧ (0 : Int) ≤ 1) (krL (some (aI 0)) (wW d i9 j8 r.2.1 r'.2, c9, s9)) := fun _ _ _ _ => rfl
    have lD : ∀ c9 s9 : Nat, c9 ≤ cells + 20 ∧ s9 ≤ slots + 100 → LG p l e s m b below meth c D cy 1001 [(7, aI z), (6, aI cd), (0, aR 1), (1, aR 2), (2, aR 71), (3, aR 120), (4, aR 121), (5, aI k)] [aI t] (wW d i9 j8 r.2.1 r'.2) c9 s9 := fun c9 s9 hc => by
      refine segQ hLC (pc2 := 28) (N := 200) (LG_wid (nx d i9 j8 r.2.1 r'.2 [(5, aI (k + 6)), (7, aI z), (6, aI cd), (0, aR 1), (1, aR 2), (2, aR 71), (3, aR 120), (4, aR 121)] iq lcN_s) hc hr) ?_
      rw [eD, if_pos htc]
      by_cases cz : cd = 0
      · rw [if_pos cz, gd_t ⟨Int.le_refl _, show (0 : Int) < 1 by decide⟩, wWj0, hy cz, cmp_self, if_pos rfl, gd_t ⟨by omega, by omega⟩]
        exact cuQ_t
      · rw [if_neg cz, gd_t ⟨by omega, by omega⟩]
        exact cuQ_t
    have eC : ∀ (z : Int) (c9 s9 : Nat) (f : AL → AS → SW → Option Unit), segL L xs clN csL_law (cuC 998 f cuN) 200 995 [(6, aI cd), (0, aR 1), (1, aR 2), (2, aR 71), (3, aR 120), (4, aR 121), (5, aI k)] [aI z] (wW d i9 j8 r.2.1 r'.2, c9, s9) = f [(7, aI z), (6, aI cd), (0, aR 1), (1, aR 2), (2, aR 71), (3, aR 120), (4, aR 121), (5, aI k)] [aR 71] (wW d i9 j8 r.2.1 r'.2, c9, s9) := fun _ _ _ _ => rfl
    have lC : ∀ c9 s9 : Nat, c9 + mC 170 ≤ cells + 20 ∧ s9 + mS 170 ≤ slots + 100 → LG p l e s m b below meth c D cy 995 [(6, aI cd), (0, aR 1), (1, aR 2), (2, aR 71), (3, aR 120), (4, aR 121), (5, aI k)] [aI z] (wW d i9 j8 r.2.1 r'.2) c9 s9 := fun c9 s9 hc => by
      refine segQ hLC (pc2 := 998) (N := 200) (callV_lg hLC (n := 170) (a := 71) (as := []) (rest := []) (by decide +kernel) (rowsB_at rwL_law (pc := 998) (r := (3, .invokevirtual 149, 170, 1, 12)) rfl).1 (by decide +kernel) rfl ⟨by decide, by show 71 ≤ 121; omega⟩ (by decide +kernel) (by decide +kernel) (by decide +kernel) hT ⟨by omega, by omega⟩ (lD _ _ hc)) ?_
      rw [eC]
      exact cuQ_t
    have eB : ∀ (c9 s9 : Nat) (f : AL → AS → SW → Option Unit), segL L xs clN csL_law (cuC 992 f cuN) 200 983 [(0, aR 1), (1, aR 2), (2, aR 71), (3, aR 120), (4, aR 121), (5, aI k)] [aI cd] (wW d i9 j8 r.2.1 h', c9, s9) = gd (R32 (k + 1)) (gd ((0 : Int) ≤ (k + 1) ∧ (k + 1) < lnL L 1) (f [(6, aI cd), (0, aR 1), (1, aR 2), (2, aR 71), (3, aR 120), (4, aR 121), (5, aI k)] [aI (xa xs k 1), aR 71] (wW d i9 j8 r.2.1 h', c9, s9))) := fun _ _ _ => rfl
    refine segQ hLC (pc2 := 992) (N := 200) (callV_lg hLC (n := 203) (a := 71) (as := [aI (xa xs k 1)]) (rest := []) (by decide +kernel) (rowsB_at rwL_law (pc := 992) (r := (3, .invokevirtual 182, 203, 2, 12)) rfl).1 (by decide +kernel) rfl ⟨by decide, by show 71 ≤ 121; omega⟩ (by decide +kernel) (by decide +kernel) (by decide +kernel) hN ⟨by omega, by omega⟩ (lC _ _ c0)) ?_
    show segL L xs clN csL_law _ 200 983 [(0, aR 1), (1, aR 2), (2, aR 71), (3, aR 120), (4, aR 121), (5, aI k)] [aI cd] _ = some ()
    rw [eB, hl1, gd_t ⟨by omega, by omega⟩, gd_t ⟨by omega, by omega⟩]
    exact cuQ_t
  have eA : ∀ (f : AL → AS → SW → Option Unit), segL L xs clN csL_law (cuC 980 f cuN) 200 972 [(0, aR 1), (1, aR 2), (2, aR 71), (3, aR 120), (4, aR 121), (5, aI k)] [] (wW d i9 j9 h h', cells, slots) = gd (R32 (k + 1)) (gd ((0 : Int) ≤ (k + 1) ∧ (k + 1) < lnL L 1) (f [(0, aR 1), (1, aR 2), (2, aR 71), (3, aR 120), (4, aR 121), (5, aI k)] [aR 120, aI (xa xs k 1), aR 2] (wW d i9 j9 h h', cells, slots))) := fun _ => rfl
  have sA : segL L xs clN csL_law (cuC 980 (cuQ [(0, aR 1), (1, aR 2), (2, aR 71), (3, aR 120), (4, aR 121), (5, aI k)] [aR 120, aI (xa xs k 1), aR 2] (wW d i9 j9 h h', cells, slots) ()) cuN) 200 972 [(0, aR 1), (1, aR 2), (2, aR 71), (3, aR 120), (4, aR 121), (5, aI k)] [] (wW d i9 j9 h h', cells, slots) = some () := by
    rw [eA, hl1, gd_t ⟨by omega, by omega⟩, gd_t ⟨by omega, by omega⟩]
    exact cuQ_t
  have c0 : cells + mC 285 ≤ 601024 ∧ slots + mS 285 ≤ 7293034 := ⟨roomA (n := 20) (by decide +kernel) hr.1, roomA (n := 100) (by decide +kernel) hr.2⟩
  have call : ∀ {v : Option AV} {σ1 : SG}, MCT 285 hhL_takeOut [aR 2, aI (xa xs k 1), aR 120] (wW d i9 j9 h h') (.inl v) σ1 → LG p l e s m b below meth c D cy 983 (lcE k) (v.toList ++ []) σ1 (cells + mC 285) (slots + mS 285) → LG p l e s m b below meth c D cy 972 (lcE k) [] (wW d i9 j9 h h') cells slots := fun hct kk => segQ hLC (callH_lg hLC (n := 285) (as := [aR 2, aI (xa xs k 1), aR 120]) (rest := []) (by decide +kernel) (rowsB_at rwL_law (pc := 980) (r := (3, .invokestatic 179, 285, 3, 0)) rfl).1 (by decide +kernel) hwL_takeOut rfl (by decide +kernel) hct c0 kk) sA
  obtain ⟨o, hu⟩ := r
  cases o with
  | inl y =>
    obtain ⟨q1, q2⟩ := hq
    exact call (mct_j (hL_takeOut_0 (by show 121 ≤ 121; omega) hM)) (mid 0 (up2 j9 120 0 y) q1 (fun _ => by rw [up2_same]; exact q2.symm))
  | inr ex =>
    obtain ⟨q1, q2⟩ := hq
    rcases (by omega : ex = 0 ∨ ex = 1 ∨ ex = 2 ∨ ex = 3 ∨ 4 ≤ ex) with z | z | z | z | z
    · subst z
      exact call (hL_takeOut_1 (by show 121 ≤ 121; omega) hM) (mid 1 j9 q2 (fun w => by cases w))
    · exact absurd (by rw [z]; rfl) q1
    · subst z
      exact call (hL_takeOut_2 (by show 121 ≤ 121; omega) hM) (mid 2 j9 q2 (fun w => by cases w))
    · exact absurd (by rw [z]; rfl) q1
    · refine absurd ?_ q1
      show cdX 1 0 2 0 ex = 0
      unfold cdX
      rw [if_neg (by omega), if_neg (by omega), if_neg (by omega), if_neg (by omega)]
theorem cs_turned (hLC : LC p l s m b meth c D cy L xs) (k0 : 0 ≤ k) (k1 : k + 6 ≤ L) (hr : cells + 20 ≤ 601024 ∧ slots + 100 ≤ 7293034) (i : INV h h') (nx : NX p l e s m b below meth c D cy k cells slots) : LG p l e s m b below meth c D cy 1028 (lcE k) [] (wW d i9 j9 h h') cells slots := by
  have hL := hLC.2.2.2.2
  have hl1 : lnL L 1 = (L : Int) := rfl
  obtain ⟨r, er, r', er', hq, iq⟩ := op_turned i (xa xs k 1) (xa xs k 2) (xa xs k 3)
  have hM := mct_c (mX11_turned (gc_ok (d := d) (i9 := i9) (j9 := j9) (h' := h')) er)
  have mid : ∀ (cd : Int) (j8 : Nat → Int → Int), r'.2.1 71 10 = cd → (cd = 0 → j8 120 0 = r'.1) → LG p l e s m b below meth c D cy 1051 (lcE k) [aI cd] (wW d i9 j8 r.2.1 h') (cells + mC 286) (slots + mS 286) := fun cd j8 hcd hy => by
    have hN : MCT 205 [] [aR 71, aI (xa xs k 1), aI (xa xs k 2), aI (xa xs k 3)] (wW d i9 j8 r.2.1 h') (.inl (some (aI r'.1))) (wW d i9 j8 r.2.1 r'.2) := mX12_turned gm_ok er'
    have hT : MCT 170 [] [aR 71] (wW d i9 j8 r.2.1 r'.2) (.inl (some (aI (r'.2.1 71 10)))) (wW d i9 j8 r.2.1 r'.2) := mX12_thrown gm_ok (sX12_thrown (h := r'.2))
    have c0 : cells + mC 286 + mC 205 + mC 170 ≤ cells + 20 ∧ slots + mS 286 + mS 205 + mS 170 ≤ slots + 100 := ⟨roomC (by decide +kernel), roomC (by decide +kernel)⟩
    generalize hz : r'.1 = z at hN hy
    generalize ht : r'.2.1 71 10 = t at hT
    have htc : t = cd := by rw [← ht]; exact hcd
    generalize cells + mC 286 = c1 at *
    generalize slots + mS 286 = s1 at *
    have eD : ∀ (t : Int) (c9 s9 : Nat) (f : AL → AS → SW → Option Unit), segL L xs clN csL_law (cuC 28 f cuN) 200 1081 [(7, aI z), (6, aI cd), (0, aR 1), (1, aR 2), (2, aR 71), (3, aR 120), (4, aR 121), (5, aI k)] [aI t] (wW d i9 j8 r.2.1 r'.2, c9, s9) = if t = cd then (if cd = 0 then gd ((0 : Int) ≤ 0 ∧ (0 : Int) < lnL L 120) (if cmpI ((wW d i9 j8 r.2.1 r'.2).2.2.2.1 120 0) z = 0 then gd (R32 (k + 6)) (f [(5, aI (k + 6)), (7, aI z), (6, aI cd), (0, aR 1), (1, aR 2), (2, aR 71), (3, aR 120), (4, aR 121)] [] (wW d i9 j8 r.2.1 r'.2, c9, s9)) else gd ((0 : Int) ≤ 0 ∧ (0 : Int) ≤ 1) (krL (some (aI 0)) (wW d i9 j8 r.2.1 r'.2, c9, s9))) else gd (R32 (k + 6)) (f [(5, aI (k + 6)), (7, aI z), (6, aI cd), (0, aR 1), (1, aR 2), (2, aR 71), (3, aR 120), (4, aR 121)] [] (wW d i9 j8 r.2.1 r'.2, c9, s9))) else gd ((0 : Int) ≤ 0 ∧ (0 : Int) ≤ 1) (krL (some (aI 0)) (wW d i9 j8 r.2.1 r'.2, c9, s9)) := fun _ _ _ _ => rfl
    have lD : ∀ c9 s9 : Nat, c9 ≤ cells + 20 ∧ s9 ≤ slots + 100 → LG p l e s m b below meth c D cy 1081 [(7, aI z), (6, aI cd), (0, aR 1), (1, aR 2), (2, aR 71), (3, aR 120), (4, aR 121), (5, aI k)] [aI t] (wW d i9 j8 r.2.1 r'.2) c9 s9 := fun c9 s9 hc => by
      refine segQ hLC (pc2 := 28) (N := 200) (LG_wid (nx d i9 j8 r.2.1 r'.2 [(5, aI (k + 6)), (7, aI z), (6, aI cd), (0, aR 1), (1, aR 2), (2, aR 71), (3, aR 120), (4, aR 121)] iq lcN_s) hc hr) ?_
      rw [eD, if_pos htc]
      by_cases cz : cd = 0
      · rw [if_pos cz, gd_t ⟨Int.le_refl _, show (0 : Int) < 1 by decide⟩, wWj0, hy cz, cmp_self, if_pos rfl, gd_t ⟨by omega, by omega⟩]
        exact cuQ_t
      · rw [if_neg cz, gd_t ⟨by omega, by omega⟩]
        exact cuQ_t
    have eC : ∀ (z : Int) (c9 s9 : Nat) (f : AL → AS → SW → Option Unit), segL L xs clN csL_law (cuC 1078 f cuN) 200 1075 [(6, aI cd), (0, aR 1), (1, aR 2), (2, aR 71), (3, aR 120), (4, aR 121), (5, aI k)] [aI z] (wW d i9 j8 r.2.1 r'.2, c9, s9) = f [(7, aI z), (6, aI cd), (0, aR 1), (1, aR 2), (2, aR 71), (3, aR 120), (4, aR 121), (5, aI k)] [aR 71] (wW d i9 j8 r.2.1 r'.2, c9, s9) := fun _ _ _ _ => rfl
    have lC : ∀ c9 s9 : Nat, c9 + mC 170 ≤ cells + 20 ∧ s9 + mS 170 ≤ slots + 100 → LG p l e s m b below meth c D cy 1075 [(6, aI cd), (0, aR 1), (1, aR 2), (2, aR 71), (3, aR 120), (4, aR 121), (5, aI k)] [aI z] (wW d i9 j8 r.2.1 r'.2) c9 s9 := fun c9 s9 hc => by
      refine segQ hLC (pc2 := 1078) (N := 200) (callV_lg hLC (n := 170) (a := 71) (as := []) (rest := []) (by decide +kernel) (rowsB_at rwL_law (pc := 1078) (r := (3, .invokevirtual 149, 170, 1, 12)) rfl).1 (by decide +kernel) rfl ⟨by decide, by show 71 ≤ 121; omega⟩ (by decide +kernel) (by decide +kernel) (by decide +kernel) hT ⟨by omega, by omega⟩ (lD _ _ hc)) ?_
      rw [eC]
      exact cuQ_t
    have eB : ∀ (c9 s9 : Nat) (f : AL → AS → SW → Option Unit), segL L xs clN csL_law (cuC 1072 f cuN) 200 1051 [(0, aR 1), (1, aR 2), (2, aR 71), (3, aR 120), (4, aR 121), (5, aI k)] [aI cd] (wW d i9 j8 r.2.1 h', c9, s9) = gd (R32 (k + 1)) (gd ((0 : Int) ≤ (k + 1) ∧ (k + 1) < lnL L 1) (gd (R32 (k + 2)) (gd ((0 : Int) ≤ (k + 2) ∧ (k + 2) < lnL L 1) (gd (R32 (k + 3)) (gd ((0 : Int) ≤ (k + 3) ∧ (k + 3) < lnL L 1) (f [(6, aI cd), (0, aR 1), (1, aR 2), (2, aR 71), (3, aR 120), (4, aR 121), (5, aI k)] [aI (xa xs k 3), aI (xa xs k 2), aI (xa xs k 1), aR 71] (wW d i9 j8 r.2.1 h', c9, s9))))))) := fun _ _ _ => rfl
    refine segQ hLC (pc2 := 1072) (N := 200) (callV_lg hLC (n := 205) (a := 71) (as := [aI (xa xs k 1), aI (xa xs k 2), aI (xa xs k 3)]) (rest := []) (by decide +kernel) (rowsB_at rwL_law (pc := 1072) (r := (3, .invokevirtual 185, 205, 4, 12)) rfl).1 (by decide +kernel) rfl ⟨by decide, by show 71 ≤ 121; omega⟩ (by decide +kernel) (by decide +kernel) (by decide +kernel) hN ⟨by omega, by omega⟩ (lC _ _ c0)) ?_
    show segL L xs clN csL_law _ 200 1051 [(0, aR 1), (1, aR 2), (2, aR 71), (3, aR 120), (4, aR 121), (5, aI k)] [aI cd] _ = some ()
    rw [eB, hl1, gd_t ⟨by omega, by omega⟩, gd_t ⟨by omega, by omega⟩, gd_t ⟨by omega, by omega⟩, gd_t ⟨by omega, by omega⟩, gd_t ⟨by omega, by omega⟩, gd_t ⟨by omega, by omega⟩]
    exact cuQ_t
  have eA : ∀ (f : AL → AS → SW → Option Unit), segL L xs clN csL_law (cuC 1048 f cuN) 200 1028 [(0, aR 1), (1, aR 2), (2, aR 71), (3, aR 120), (4, aR 121), (5, aI k)] [] (wW d i9 j9 h h', cells, slots) = gd (R32 (k + 1)) (gd ((0 : Int) ≤ (k + 1) ∧ (k + 1) < lnL L 1) (gd (R32 (k + 2)) (gd ((0 : Int) ≤ (k + 2) ∧ (k + 2) < lnL L 1) (gd (R32 (k + 3)) (gd ((0 : Int) ≤ (k + 3) ∧ (k + 3) < lnL L 1) (f [(0, aR 1), (1, aR 2), (2, aR 71), (3, aR 120), (4, aR 121), (5, aI k)] [aR 120, aI (xa xs k 3), aI (xa xs k 2), aI (xa xs k 1), aR 2] (wW d i9 j9 h h', cells, slots))))))) := fun _ => rfl
  have sA : segL L xs clN csL_law (cuC 1048 (cuQ [(0, aR 1), (1, aR 2), (2, aR 71), (3, aR 120), (4, aR 121), (5, aI k)] [aR 120, aI (xa xs k 3), aI (xa xs k 2), aI (xa xs k 1), aR 2] (wW d i9 j9 h h', cells, slots) ()) cuN) 200 1028 [(0, aR 1), (1, aR 2), (2, aR 71), (3, aR 120), (4, aR 121), (5, aI k)] [] (wW d i9 j9 h h', cells, slots) = some () := by
    rw [eA, hl1, gd_t ⟨by omega, by omega⟩, gd_t ⟨by omega, by omega⟩, gd_t ⟨by omega, by omega⟩, gd_t ⟨by omega, by omega⟩, gd_t ⟨by omega, by omega⟩, gd_t ⟨by omega, by omega⟩]
    exact cuQ_t
  have c0 : cells + mC 286 ≤ 601024 ∧ slots + mS 286 ≤ 7293034 := ⟨roomA (n := 20) (by decide +kernel) hr.1, roomA (n := 100) (by decide +kernel) hr.2⟩
  have call : ∀ {v : Option AV} {σ1 : SG}, MCT 286 hhL_turned [aR 2, aI (xa xs k 1), aI (xa xs k 2), aI (xa xs k 3), aR 120] (wW d i9 j9 h h') (.inl v) σ1 → LG p l e s m b below meth c D cy 1051 (lcE k) (v.toList ++ []) σ1 (cells + mC 286) (slots + mS 286) → LG p l e s m b below meth c D cy 1028 (lcE k) [] (wW d i9 j9 h h') cells slots := fun hct kk => segQ hLC (callH_lg hLC (n := 286) (as := [aR 2, aI (xa xs k 1), aI (xa xs k 2), aI (xa xs k 3), aR 120]) (rest := []) (by decide +kernel) (rowsB_at rwL_law (pc := 1048) (r := (3, .invokestatic 183, 286, 5, 0)) rfl).1 (by decide +kernel) hwL_turned rfl (by decide +kernel) hct c0 kk) sA
  obtain ⟨o, hu⟩ := r
  cases o with
  | inl y =>
    obtain ⟨q1, q2⟩ := hq
    exact call (mct_j (hL_turned_0 (by show 121 ≤ 121; omega) hM)) (mid 0 (up2 j9 120 0 y) q1 (fun _ => by rw [up2_same]; exact q2.symm))
  | inr ex =>
    obtain ⟨q1, q2⟩ := hq
    rcases (by omega : ex = 0 ∨ ex = 1 ∨ ex = 2 ∨ ex = 3 ∨ 4 ≤ ex) with z | z | z | z | z
    · subst z
      exact call (hL_turned_1 (by show 121 ≤ 121; omega) hM) (mid 1 j9 q2 (fun w => by cases w))
    · exact absurd (by rw [z]; rfl) q1
    · subst z
      exact call (hL_turned_2 (by show 121 ≤ 121; omega) hM) (mid 2 j9 q2 (fun w => by cases w))
    · exact absurd (by rw [z]; rfl) q1
    · refine absurd ?_ q1
      show cdX 1 0 2 0 ex = 0
      unfold cdX
      rw [if_neg (by omega), if_neg (by omega), if_neg (by omega), if_neg (by omega)]
theorem cs_swapEnds (hLC : LC p l s m b meth c D cy L xs) (k0 : 0 ≤ k) (k1 : k + 6 ≤ L) (hr : cells + 20 ≤ 601024 ∧ slots + 100 ≤ 7293034) (i : INV h h') (nx : NX p l e s m b below meth c D cy k cells slots) : LG p l e s m b below meth c D cy 1108 (lcE k) [] (wW d i9 j9 h h') cells slots := by
  have hL := hLC.2.2.2.2
  have hl1 : lnL L 1 = (L : Int) := rfl
  obtain ⟨r, er, r', er', hq, iq⟩ := op_swapEnds i (xa xs k 1) (xa xs k 2) (xa xs k 3) (xa xs k 4)
  have hM := mct_c (mX11_swapEnds (gc_ok (d := d) (i9 := i9) (j9 := j9) (h' := h')) er)
  have mid : ∀ (cd : Int) (j8 : Nat → Int → Int), r'.2.1 71 10 = cd → (cd = 0 → j8 120 0 = r'.1) → LG p l e s m b below meth c D cy 1137 (lcE k) [aI cd] (wW d i9 j8 r.2.1 h') (cells + mC 287) (slots + mS 287) := fun cd j8 hcd hy => by
    have hN : MCT 207 [] [aR 71, aI (xa xs k 1), aI (xa xs k 2), aI (xa xs k 3), aI (xa xs k 4)] (wW d i9 j8 r.2.1 h') (.inl (some (aI r'.1))) (wW d i9 j8 r.2.1 r'.2) := mX12_swapEnds gm_ok er'
    have hT : MCT 170 [] [aR 71] (wW d i9 j8 r.2.1 r'.2) (.inl (some (aI (r'.2.1 71 10)))) (wW d i9 j8 r.2.1 r'.2) := mX12_thrown gm_ok (sX12_thrown (h := r'.2))
    have c0 : cells + mC 287 + mC 207 + mC 170 ≤ cells + 20 ∧ slots + mS 287 + mS 207 + mS 170 ≤ slots + 100 := ⟨roomC (by decide +kernel), roomC (by decide +kernel)⟩
    generalize hz : r'.1 = z at hN hy
    generalize ht : r'.2.1 71 10 = t at hT
    have htc : t = cd := by rw [← ht]; exact hcd
    generalize cells + mC 287 = c1 at *
    generalize slots + mS 287 = s1 at *
    have eD : ∀ (t : Int) (c9 s9 : Nat) (f : AL → AS → SW → Option Unit), segL L xs clN csL_law (cuC 28 f cuN) 200 1173 [(7, aI z), (6, aI cd), (0, aR 1), (1, aR 2), (2, aR 71), (3, aR 120), (4, aR 121), (5, aI k)] [aI t] (wW d i9 j8 r.2.1 r'.2, c9, s9) = if t = cd then (if cd = 0 then gd ((0 : Int) ≤ 0 ∧ (0 : Int) < lnL L 120) (if cmpI ((wW d i9 j8 r.2.1 r'.2).2.2.2.1 120 0) z = 0 then gd (R32 (k + 6)) (f [(5, aI (k + 6)), (7, aI z), (6, aI cd), (0, aR 1), (1, aR 2), (2, aR 71), (3, aR 120), (4, aR 121)] [] (wW d i9 j8 r.2.1 r'.2, c9, s9)) else gd ((0 : Int) ≤ 0 ∧ (0 : Int) ≤ 1) (krL (some (aI 0)) (wW d i9 j8 r.2.1 r'.2, c9, s9))) else gd (R32 (k + 6)) (f [(5, aI (k + 6)), (7, aI z), (6, aI cd), (0, aR 1), (1, aR 2), (2, aR 71), (3, aR 120), (4, aR 121)] [] (wW d i9 j8 r.2.1 r'.2, c9, s9))) else gd ((0 : Int) ≤ 0 ∧ (0 : Int) ≤ 1) (krL (some (aI 0)) (wW d i9 j8 r.2.1 r'.2, c9, s9)) := fun _ _ _ _ => rfl
    have lD : ∀ c9 s9 : Nat, c9 ≤ cells + 20 ∧ s9 ≤ slots + 100 → LG p l e s m b below meth c D cy 1173 [(7, aI z), (6, aI cd), (0, aR 1), (1, aR 2), (2, aR 71), (3, aR 120), (4, aR 121), (5, aI k)] [aI t] (wW d i9 j8 r.2.1 r'.2) c9 s9 := fun c9 s9 hc => by
      refine segQ hLC (pc2 := 28) (N := 200) (LG_wid (nx d i9 j8 r.2.1 r'.2 [(5, aI (k + 6)), (7, aI z), (6, aI cd), (0, aR 1), (1, aR 2), (2, aR 71), (3, aR 120), (4, aR 121)] iq lcN_s) hc hr) ?_
      rw [eD, if_pos htc]
      by_cases cz : cd = 0
      · rw [if_pos cz, gd_t ⟨Int.le_refl _, show (0 : Int) < 1 by decide⟩, wWj0, hy cz, cmp_self, if_pos rfl, gd_t ⟨by omega, by omega⟩]
        exact cuQ_t
      · rw [if_neg cz, gd_t ⟨by omega, by omega⟩]
        exact cuQ_t
    have eC : ∀ (z : Int) (c9 s9 : Nat) (f : AL → AS → SW → Option Unit), segL L xs clN csL_law (cuC 1170 f cuN) 200 1167 [(6, aI cd), (0, aR 1), (1, aR 2), (2, aR 71), (3, aR 120), (4, aR 121), (5, aI k)] [aI z] (wW d i9 j8 r.2.1 r'.2, c9, s9) = f [(7, aI z), (6, aI cd), (0, aR 1), (1, aR 2), (2, aR 71), (3, aR 120), (4, aR 121), (5, aI k)] [aR 71] (wW d i9 j8 r.2.1 r'.2, c9, s9) := fun _ _ _ _ => rfl
    have lC : ∀ c9 s9 : Nat, c9 + mC 170 ≤ cells + 20 ∧ s9 + mS 170 ≤ slots + 100 → LG p l e s m b below meth c D cy 1167 [(6, aI cd), (0, aR 1), (1, aR 2), (2, aR 71), (3, aR 120), (4, aR 121), (5, aI k)] [aI z] (wW d i9 j8 r.2.1 r'.2) c9 s9 := fun c9 s9 hc => by
      refine segQ hLC (pc2 := 1170) (N := 200) (callV_lg hLC (n := 170) (a := 71) (as := []) (rest := []) (by decide +kernel) (rowsB_at rwL_law (pc := 1170) (r := (3, .invokevirtual 149, 170, 1, 12)) rfl).1 (by decide +kernel) rfl ⟨by decide, by show 71 ≤ 121; omega⟩ (by decide +kernel) (by decide +kernel) (by decide +kernel) hT ⟨by omega, by omega⟩ (lD _ _ hc)) ?_
      rw [eC]
      exact cuQ_t
    have eB : ∀ (c9 s9 : Nat) (f : AL → AS → SW → Option Unit), segL L xs clN csL_law (cuC 1164 f cuN) 200 1137 [(0, aR 1), (1, aR 2), (2, aR 71), (3, aR 120), (4, aR 121), (5, aI k)] [aI cd] (wW d i9 j8 r.2.1 h', c9, s9) = gd (R32 (k + 1)) (gd ((0 : Int) ≤ (k + 1) ∧ (k + 1) < lnL L 1) (gd (R32 (k + 2)) (gd ((0 : Int) ≤ (k + 2) ∧ (k + 2) < lnL L 1) (gd (R32 (k + 3)) (gd ((0 : Int) ≤ (k + 3) ∧ (k + 3) < lnL L 1) (gd (R32 (k + 4)) (gd ((0 : Int) ≤ (k + 4) ∧ (k + 4) < lnL L 1) (f [(6, aI cd), (0, aR 1), (1, aR 2), (2, aR 71), (3, aR 120), (4, aR 121), (5, aI k)] [aI (xa xs k 4), aI (xa xs k 3), aI (xa xs k 2), aI (xa xs k 1), aR 71] (wW d i9 j8 r.2.1 h', c9, s9))))))))) := fun _ _ _ => rfl
    refine segQ hLC (pc2 := 1164) (N := 200) (callV_lg hLC (n := 207) (a := 71) (as := [aI (xa xs k 1), aI (xa xs k 2), aI (xa xs k 3), aI (xa xs k 4)]) (rest := []) (by decide +kernel) (rowsB_at rwL_law (pc := 1164) (r := (3, .invokevirtual 188, 207, 5, 12)) rfl).1 (by decide +kernel) rfl ⟨by decide, by show 71 ≤ 121; omega⟩ (by decide +kernel) (by decide +kernel) (by decide +kernel) hN ⟨by omega, by omega⟩ (lC _ _ c0)) ?_
    show segL L xs clN csL_law _ 200 1137 [(0, aR 1), (1, aR 2), (2, aR 71), (3, aR 120), (4, aR 121), (5, aI k)] [aI cd] _ = some ()
    rw [eB, hl1, gd_t ⟨by omega, by omega⟩, gd_t ⟨by omega, by omega⟩, gd_t ⟨by omega, by omega⟩, gd_t ⟨by omega, by omega⟩, gd_t ⟨by omega, by omega⟩, gd_t ⟨by omega, by omega⟩, gd_t ⟨by omega, by omega⟩, gd_t ⟨by omega, by omega⟩]
    exact cuQ_t
  have eA : ∀ (f : AL → AS → SW → Option Unit), segL L xs clN csL_law (cuC 1134 f cuN) 200 1108 [(0, aR 1), (1, aR 2), (2, aR 71), (3, aR 120), (4, aR 121), (5, aI k)] [] (wW d i9 j9 h h', cells, slots) = gd (R32 (k + 1)) (gd ((0 : Int) ≤ (k + 1) ∧ (k + 1) < lnL L 1) (gd (R32 (k + 2)) (gd ((0 : Int) ≤ (k + 2) ∧ (k + 2) < lnL L 1) (gd (R32 (k + 3)) (gd ((0 : Int) ≤ (k + 3) ∧ (k + 3) < lnL L 1) (gd (R32 (k + 4)) (gd ((0 : Int) ≤ (k + 4) ∧ (k + 4) < lnL L 1) (f [(0, aR 1), (1, aR 2), (2, aR 71), (3, aR 120), (4, aR 121), (5, aI k)] [aR 120, aI (xa xs k 4), aI (xa xs k 3), aI (xa xs k 2), aI (xa xs k 1), aR 2] (wW d i9 j9 h h', cells, slots))))))))) := fun _ => rfl
  have sA : segL L xs clN csL_law (cuC 1134 (cuQ [(0, aR 1), (1, aR 2), (2, aR 71), (3, aR 120), (4, aR 121), (5, aI k)] [aR 120, aI (xa xs k 4), aI (xa xs k 3), aI (xa xs k 2), aI (xa xs k 1), aR 2] (wW d i9 j9 h h', cells, slots) ()) cuN) 200 1108 [(0, aR 1), (1, aR 2), (2, aR 71), (3, aR 120), (4, aR 121), (5, aI k)] [] (wW d i9 j9 h h', cells, slots) = some () := by
    rw [eA, hl1, gd_t ⟨by omega, by omega⟩, gd_t ⟨by omega, by omega⟩, gd_t ⟨by omega, by omega⟩, gd_t ⟨by omega, by omega⟩, gd_t ⟨by omega, by omega⟩, gd_t ⟨by omega, by omega⟩, gd_t ⟨by omega, by omega⟩, gd_t ⟨by omega, by omega⟩]
    exact cuQ_t
  have c0 : cells + mC 287 ≤ 601024 ∧ slots + mS 287 ≤ 7293034 := ⟨roomA (n := 20) (by decide +kernel) hr.1, roomA (n := 100) (by decide +kernel) hr.2⟩
  have call : ∀ {v : Option AV} {σ1 : SG}, MCT 287 hhL_swapEnds [aR 2, aI (xa xs k 1), aI (xa xs k 2), aI (xa xs k 3), aI (xa xs k 4), aR 120] (wW d i9 j9 h h') (.inl v) σ1 → LG p l e s m b below meth c D cy 1137 (lcE k) (v.toList ++ []) σ1 (cells + mC 287) (slots + mS 287) → LG p l e s m b below meth c D cy 1108 (lcE k) [] (wW d i9 j9 h h') cells slots := fun hct kk => segQ hLC (callH_lg hLC (n := 287) (as := [aR 2, aI (xa xs k 1), aI (xa xs k 2), aI (xa xs k 3), aI (xa xs k 4), aR 120]) (rest := []) (by decide +kernel) (rowsB_at rwL_law (pc := 1134) (r := (3, .invokestatic 186, 287, 6, 0)) rfl).1 (by decide +kernel) hwL_swapEnds rfl (by decide +kernel) hct c0 kk) sA
  obtain ⟨o, hu⟩ := r
  cases o with
  | inl y =>
    obtain ⟨q1, q2⟩ := hq
    exact call (mct_j (hL_swapEnds_0 (by show 121 ≤ 121; omega) hM)) (mid 0 (up2 j9 120 0 y) q1 (fun _ => by rw [up2_same]; exact q2.symm))
  | inr ex =>
    obtain ⟨q1, q2⟩ := hq
    rcases (by omega : ex = 0 ∨ ex = 1 ∨ ex = 2 ∨ ex = 3 ∨ 4 ≤ ex) with z | z | z | z | z
    · subst z
      exact call (hL_swapEnds_1 (by show 121 ≤ 121; omega) hM) (mid 1 j9 q2 (fun w => by cases w))
    · subst z
      exact call (hL_swapEnds_2 (by show 121 ≤ 121; omega) hM) (mid 2 j9 q2 (fun w => by cases w))
    · subst z
      exact call (hL_swapEnds_3 (by show 121 ≤ 121; omega) hM) (mid 3 j9 q2 (fun w => by cases w))
    · exact absurd (by rw [z]; rfl) q1
    · refine absurd ?_ q1
      show cdX 1 2 3 0 ex = 0
      unfold cdX
      rw [if_neg (by omega), if_neg (by omega), if_neg (by omega), if_neg (by omega)]
end LAWS
