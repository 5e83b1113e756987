/-! THE LAW'S LOOP: cases -/
section LAWS
variable {p : Program} {l : Launch} {e : Env} {s : State} {m : MethodId} {below : List Frame} {meth : Method} {c : Code} {D : va_G} {cy : Nat → ClassId} {b L : Nat} {xs : Nat → Int32} {cells slots : Nat} {d : Nat → Int → UInt64} {i9 j9 : Nat → Int → Int} {h h' : HH} {k : Int}
theorem cs_ofRound (hLC : LC p l s m b meth c D cy L xs) (k0 : 0 ≤ k) (k1 : k + 6 ≤ L) (hr : cells + 20 ≤ 601024 ∧ slots + 100 ≤ 7293034) (i : INV h h') (nx : NX p l e s m b below meth c D cy k cells slots) : LG p l e s m b below meth c D cy 1548 (lcE k) [] (wW d i9 j9 h h') cells slots := by
  have hL := hLC.2.2.2.2
  have hl1 : lnL L 1 = (L : Int) := rfl
  obtain ⟨r, er, r', er', hq, iq⟩ := op_ofRound i (xa xs k 1) (xa xs k 2)
  have hM := mct_c (mX11_ofRound (gc_ok (d := d) (i9 := i9) (j9 := j9) (h' := h')) er)
  have mid : ∀ (cd : Int) (j8 : Nat → Int → Int), r'.2.1 71 10 = cd → (cd = 0 → j8 120 0 = r'.1) → LG p l e s m b below meth c D cy 1565 (lcE k) [aI cd] (wW d i9 j8 r.2.1 h') (cells + mC 294) (slots + mS 294) := fun cd j8 hcd hy => by
    have hN : MCT 230 [] [aR 71, aI (xa xs k 1), aI (xa xs k 2)] (wW d i9 j8 r.2.1 h') (.inl (some (aI r'.1))) (wW d i9 j8 r.2.1 r'.2) := mX12_ofRound gm_ok er'
    have hT : MCT 170 [] [aR 71] (wW d i9 j8 r.2.1 r'.2) (.inl (some (aI (r'.2.1 71 10)))) (wW d i9 j8 r.2.1 r'.2) := mX12_thrown gm_ok (sX12_thrown (h := r'.2))
    have c0 : cells + mC 294 + mC 230 + mC 170 ≤ cells + 20 ∧ slots + mS 294 + mS 230 + mS 170 ≤ slots + 100 := ⟨roomC (by decide +kernel), roomC (by decide +kernel)⟩
    generalize hz : r'.1 = z at hN hy
    generalize ht : r'.2.1 71 10 = t at hT
    have htc : t = cd := by rw [← ht]; exact hcd
    generalize cells + mC 294 = c1 at *
    generalize slots + mS 294 = s1 at *
    have eD : ∀ (t : Int) (c9 s9 : Nat) (f : AL → AS → SW → Option Unit), segL L xs clN csL_law (cuC 28 f cuN) 200 1589 [(7, aI z), (6, aI cd), (0, aR 1), (1, aR 2), (2, aR 71), (3, aR 120), (4, aR 121), (5, aI k)] [aI t] (wW d i9 j8 r.2.1 r'.2, c9, s9) = if t = cd then (if cd = 0 then gd ((0 : Int) ≤ 0 ∧ (0 : Int) < lnL L 120) (if cmpI ((wW d i9 j8 r.2.1 r'.2).2.2.2.1 120 0) z = 0 then gd (R32 (k + 6)) (f [(5, aI (k + 6)), (7, aI z), (6, aI cd), (0, aR 1), (1, aR 2), (2, aR 71), (3, aR 120), (4, aR 121)] [] (wW d i9 j8 r.2.1 r'.2, c9, s9)) else gd ((0 : Int) ≤ 0 ∧ (0 : Int) ≤ 1) (krL (some (aI 0)) (wW d i9 j8 r.2.1 r'.2, c9, s9))) else gd (R32 (k + 6)) (f [(5, aI (k + 6)), (7, aI z), (6, aI cd), (0, aR 1), (1, aR 2), (2, aR 71), (3, aR 120), (4, aR 121)] [] (wW d i9 j8 r.2.1 r'.2, c9, s9))) else gd ((0 : Int) ≤ 0 ∧ (0 : Int) ≤ 1) (krL (some (aI 0)) (wW d i9 j8 r.2.1 r'.2, c9, s9)) := fun _ _ _ _ => rfl
    have lD : ∀ c9 s9 : Nat, c9 ≤ cells + 20 ∧ s9 ≤ slots + 100 → LG p l e s m b below meth c D cy 1589 [(7, aI z), (6, aI cd), (0, aR 1), (1, aR 2), (2, aR 71), (3, aR 120), (4, aR 121), (5, aI k)] [aI t] (wW d i9 j8 r.2.1 r'.2) c9 s9 := fun c9 s9 hc => by
      refine segQ hLC (pc2 := 28) (N := 200) (LG_wid (nx d i9 j8 r.2.1 r'.2 [(5, aI (k + 6)), (7, aI z), (6, aI cd), (0, aR 1), (1, aR 2), (2, aR 71), (3, aR 120), (4, aR 121)] iq lcN_s) hc hr) ?_
      rw [eD, if_pos htc]
      by_cases cz : cd = 0
      · rw [if_pos cz, gd_t ⟨Int.le_refl _, show (0 : Int) < 1 by decide⟩, wWj0, hy cz, cmp_self, if_pos rfl, gd_t ⟨by omega, by omega⟩]
        exact cuQ_t
      · rw [if_neg cz, gd_t ⟨by omega, by omega⟩]
        exact cuQ_t
    have eC : ∀ (z : Int) (c9 s9 : Nat) (f : AL → AS → SW → Option Unit), segL L xs clN csL_law (cuC 1586 f cuN) 200 1583 [(6, aI cd), (0, aR 1), (1, aR 2), (2, aR 71), (3, aR 120), (4, aR 121), (5, aI k)] [aI z] (wW d i9 j8 r.2.1 r'.2, c9, s9) = f [(7, aI z), (6, aI cd), (0, aR 1), (1, aR 2), (2, aR 71), (3, aR 120), (4, aR 121), (5, aI k)] [aR 71] (wW d i9 j8 r.2.1 r'.2, c9, s9) := fun _ _ _ _ => rfl
    have lC : ∀ c9 s9 : Nat, c9 + mC 170 ≤ cells + 20 ∧ s9 + mS 170 ≤ slots + 100 → LG p l e s m b below meth c D cy 1583 [(6, aI cd), (0, aR 1), (1, aR 2), (2, aR 71), (3, aR 120), (4, aR 121), (5, aI k)] [aI z] (wW d i9 j8 r.2.1 r'.2) c9 s9 := fun c9 s9 hc => by
      refine segQ hLC (pc2 := 1586) (N := 200) (callV_lg hLC (n := 170) (a := 71) (as := []) (rest := []) (by decide +kernel) (rowsB_at rwL_law (pc := 1586) (r := (3, .invokevirtual 149, 170, 1, 12)) rfl).1 (by decide +kernel) rfl ⟨by decide, by show 71 ≤ 121; omega⟩ (by decide +kernel) (by decide +kernel) (by decide +kernel) hT ⟨by omega, by omega⟩ (lD _ _ hc)) ?_
      rw [eC]
      exact cuQ_t
    have eB : ∀ (c9 s9 : Nat) (f : AL → AS → SW → Option Unit), segL L xs clN csL_law (cuC 1580 f cuN) 200 1565 [(0, aR 1), (1, aR 2), (2, aR 71), (3, aR 120), (4, aR 121), (5, aI k)] [aI cd] (wW d i9 j8 r.2.1 h', c9, s9) = gd (R32 (k + 1)) (gd ((0 : Int) ≤ (k + 1) ∧ (k + 1) < lnL L 1) (gd (R32 (k + 2)) (gd ((0 : Int) ≤ (k + 2) ∧ (k + 2) < lnL L 1) (f [(6, aI cd), (0, aR 1), (1, aR 2), (2, aR 71), (3, aR 120), (4, aR 121), (5, aI k)] [aI (xa xs k 2), aI (xa xs k 1), aR 71] (wW d i9 j8 r.2.1 h', c9, s9))))) := fun _ _ _ => rfl
    refine segQ hLC (pc2 := 1580) (N := 200) (callV_lg hLC (n := 230) (a := 71) (as := [aI (xa xs k 1), aI (xa xs k 2)]) (rest := []) (by decide +kernel) (rowsB_at rwL_law (pc := 1580) (r := (3, .invokevirtual 209, 230, 3, 12)) rfl).1 (by decide +kernel) rfl ⟨by decide, by show 71 ≤ 121; omega⟩ (by decide +kernel) (by decide +kernel) (by decide +kernel) hN ⟨by omega, by omega⟩ (lC _ _ c0)) ?_
    show segL L xs clN csL_law _ 200 1565 [(0, aR 1), (1, aR 2), (2, aR 71), (3, aR 120), (4, aR 121), (5, aI k)] [aI cd] _ = some ()
    rw [eB, hl1, gd_t ⟨by omega, by omega⟩, gd_t ⟨by omega, by omega⟩, gd_t ⟨by omega, by omega⟩, gd_t ⟨by omega, by omega⟩]
    exact cuQ_t
  have eA : ∀ (f : AL → AS → SW → Option Unit), segL L xs clN csL_law (cuC 1562 f cuN) 200 1548 [(0, aR 1), (1, aR 2), (2, aR 71), (3, aR 120), (4, aR 121), (5, aI k)] [] (wW d i9 j9 h h', cells, slots) = gd (R32 (k + 1)) (gd ((0 : Int) ≤ (k + 1) ∧ (k + 1) < lnL L 1) (gd (R32 (k + 2)) (gd ((0 : Int) ≤ (k + 2) ∧ (k + 2) < lnL L 1) (f [(0, aR 1), (1, aR 2), (2, aR 71), (3, aR 120), (4, aR 121), (5, aI k)] [aR 120, aI (xa xs k 2), aI (xa xs k 1), aR 2] (wW d i9 j9 h h', cells, slots))))) := fun _ => rfl
  have sA : segL L xs clN csL_law (cuC 1562 (cuQ [(0, aR 1), (1, aR 2), (2, aR 71), (3, aR 120), (4, aR 121), (5, aI k)] [aR 120, aI (xa xs k 2), aI (xa xs k 1), aR 2] (wW d i9 j9 h h', cells, slots) ()) cuN) 200 1548 [(0, aR 1), (1, aR 2), (2, aR 71), (3, aR 120), (4, aR 121), (5, aI k)] [] (wW d i9 j9 h h', cells, slots) = some () := by
    rw [eA, hl1, gd_t ⟨by omega, by omega⟩, gd_t ⟨by omega, by omega⟩, gd_t ⟨by omega, by omega⟩, gd_t ⟨by omega, by omega⟩]
    exact cuQ_t
  have c0 : cells + mC 294 ≤ 601024 ∧ slots + mS 294 ≤ 7293034 := ⟨roomA (n := 20) (by decide +kernel) hr.1, roomA (n := 100) (by decide +kernel) hr.2⟩
  have call : ∀ {v : Option AV} {σ1 : SG}, MCT 294 hhL_ofRound [aR 2, aI (xa xs k 1), aI (xa xs k 2), aR 120] (wW d i9 j9 h h') (.inl v) σ1 → LG p l e s m b below meth c D cy 1565 (lcE k) (v.toList ++ []) σ1 (cells + mC 294) (slots + mS 294) → LG p l e s m b below meth c D cy 1548 (lcE k) [] (wW d i9 j9 h h') cells slots := fun hct kk => segQ hLC (callH_lg hLC (n := 294) (as := [aR 2, aI (xa xs k 1), aI (xa xs k 2), aR 120]) (rest := []) (by decide +kernel) (rowsB_at rwL_law (pc := 1562) (r := (3, .invokestatic 207, 294, 4, 0)) rfl).1 (by decide +kernel) hwL_ofRound rfl (by decide +kernel) hct c0 kk) sA
  obtain ⟨o, hu⟩ := r
  cases o with
  | inl y =>
    obtain ⟨q1, q2⟩ := hq
    exact call (mct_j (hL_ofRound_0 (by show 121 ≤ 121; omega) hM)) (mid 0 (up2 j9 120 0 y) q1 (fun _ => by rw [up2_same]; exact q2.symm))
  | inr ex =>
    obtain ⟨q1, q2⟩ := hq
    rcases (by omega : ex = 0 ∨ ex = 1 ∨ ex = 2 ∨ ex = 3 ∨ 4 ≤ ex) with z | z | z | z | z
    · subst z
      exact call (hL_ofRound_1 (by show 121 ≤ 121; omega) hM) (mid 1 j9 q2 (fun w => by cases w))
    · subst z
      exact call (hL_ofRound_2 (by show 121 ≤ 121; omega) hM) (mid 2 j9 q2 (fun w => by cases w))
    · exact absurd (by rw [z]; rfl) q1
    · exact absurd (by rw [z]; rfl) q1
    · refine absurd ?_ q1
      show cdX 1 2 0 0 ex = 0
      unfold cdX
      rw [if_neg (by omega), if_neg (by omega), if_neg (by omega), if_neg (by omega)]
theorem cs_served (hLC : LC p l s m b meth c D cy L xs) (k0 : 0 ≤ k) (k1 : k + 6 ≤ L) (hr : cells + 20 ≤ 601024 ∧ slots + 100 ≤ 7293034) (i : INV h h') (nx : NX p l e s m b below meth c D cy k cells slots) : LG p l e s m b below meth c D cy 1616 (lcE k) [] (wW d i9 j9 h h') cells slots := by
  have hL := hLC.2.2.2.2
  have hl1 : lnL L 1 = (L : Int) := rfl
  obtain ⟨r, er, r', er', hq, iq⟩ := op_served i (xa xs k 1)
  have hM := mct_c (mX11_served (gc_ok (d := d) (i9 := i9) (j9 := j9) (h' := h')) er)
  have mid : ∀ (cd : Int) (j8 : Nat → Int → Int), r'.2.1 71 10 = cd → (cd = 0 → j8 120 0 = r'.1) → LG p l e s m b below meth c D cy 1627 (lcE k) [aI cd] (wW d i9 j8 r.2.1 h') (cells + mC 295) (slots + mS 295) := fun cd j8 hcd hy => by
    have hN : MCT 231 [] [aR 71, aI (xa xs k 1)] (wW d i9 j8 r.2.1 h') (.inl (some (aI r'.1))) (wW d i9 j8 r.2.1 r'.2) := mX12_served gm_ok er'
    have hT : MCT 170 [] [aR 71] (wW d i9 j8 r.2.1 r'.2) (.inl (some (aI (r'.2.1 71 10)))) (wW d i9 j8 r.2.1 r'.2) := mX12_thrown gm_ok (sX12_thrown (h := r'.2))
    have c0 : cells + mC 295 + mC 231 + mC 170 ≤ cells + 20 ∧ slots + mS 295 + mS 231 + mS 170 ≤ slots + 100 := ⟨roomC (by decide +kernel), roomC (by decide +kernel)⟩
    generalize hz : r'.1 = z at hN hy
    generalize ht : r'.2.1 71 10 = t at hT
    have htc : t = cd := by rw [← ht]; exact hcd
    generalize cells + mC 295 = c1 at *
    generalize slots + mS 295 = s1 at *
    have eD : ∀ (t : Int) (c9 s9 : Nat) (f : AL → AS → SW → Option Unit), segL L xs clN csL_law (cuC 28 f cuN) 200 1645 [(7, aI z), (6, aI cd), (0, aR 1), (1, aR 2), (2, aR 71), (3, aR 120), (4, aR 121), (5, aI k)] [aI t] (wW d i9 j8 r.2.1 r'.2, c9, s9) = if t = cd then (if cd = 0 then gd ((0 : Int) ≤ 0 ∧ (0 : Int) < lnL L 120) (if cmpI ((wW d i9 j8 r.2.1 r'.2).2.2.2.1 120 0) z = 0 then gd (R32 (k + 6)) (f [(5, aI (k + 6)), (7, aI z), (6, aI cd), (0, aR 1), (1, aR 2), (2, aR 71), (3, aR 120), (4, aR 121)] [] (wW d i9 j8 r.2.1 r'.2, c9, s9)) else gd ((0 : Int) ≤ 0 ∧ (0 : Int) ≤ 1) (krL (some (aI 0)) (wW d i9 j8 r.2.1 r'.2, c9, s9))) else gd (R32 (k + 6)) (f [(5, aI (k + 6)), (7, aI z), (6, aI cd), (0, aR 1), (1, aR 2), (2, aR 71), (3, aR 120), (4, aR 121)] [] (wW d i9 j8 r.2.1 r'.2, c9, s9))) else gd ((0 : Int) ≤ 0 ∧ (0 : Int) ≤ 1) (krL (some (aI 0)) (wW d i9 j8 r.2.1 r'.2, c9, s9)) := fun _ _ _ _ => rfl
    have lD : ∀ c9 s9 : Nat, c9 ≤ cells + 20 ∧ s9 ≤ slots + 100 → LG p l e s m b below meth c D cy 1645 [(7, aI z), (6, aI cd), (0, aR 1), (1, aR 2), (2, aR 71), (3, aR 120), (4, aR 121), (5, aI k)] [aI t] (wW d i9 j8 r.2.1 r'.2) c9 s9 := fun c9 s9 hc => by
      refine segQ hLC (pc2 := 28) (N := 200) (LG_wid (nx d i9 j8 r.2.1 r'.2 [(5, aI (k + 6)), (7, aI z), (6, aI cd), (0, aR 1), (1, aR 2), (2, aR 71), (3, aR 120), (4, aR 121)] iq lcN_s) hc hr) ?_
      rw [eD, if_pos htc]
      by_cases cz : cd = 0
      · rw [if_pos cz, gd_t ⟨Int.le_refl _, show (0 : Int) < 1 by decide⟩, wWj0, hy cz, cmp_self, if_pos rfl, gd_t ⟨by omega, by omega⟩]
        exact cuQ_t
      · rw [if_neg cz, gd_t ⟨by omega, by omega⟩]
        exact cuQ_t
    have eC : ∀ (z : Int) (c9 s9 : Nat) (f : AL → AS → SW → Option Unit), segL L xs clN csL_law (cuC 1642 f cuN) 200 1639 [(6, aI cd), (0, aR 1), (1, aR 2), (2, aR 71), (3, aR 120), (4, aR 121), (5, aI k)] [aI z] (wW d i9 j8 r.2.1 r'.2, c9, s9) = f [(7, aI z), (6, aI cd), (0, aR 1), (1, aR 2), (2, aR 71), (3, aR 120), (4, aR 121), (5, aI k)] [aR 71] (wW d i9 j8 r.2.1 r'.2, c9, s9) := fun _ _ _ _ => rfl
    have lC : ∀ c9 s9 : Nat, c9 + mC 170 ≤ cells + 20 ∧ s9 + mS 170 ≤ slots + 100 → LG p l e s m b below meth c D cy 1639 [(6, aI cd), (0, aR 1), (1, aR 2), (2, aR 71), (3, aR 120), (4, aR 121), (5, aI k)] [aI z] (wW d i9 j8 r.2.1 r'.2) c9 s9 := fun c9 s9 hc => by
      refine segQ hLC (pc2 := 1642) (N := 200) (callV_lg hLC (n := 170) (a := 71) (as := []) (rest := []) (by decide +kernel) (rowsB_at rwL_law (pc := 1642) (r := (3, .invokevirtual 149, 170, 1, 12)) rfl).1 (by decide +kernel) rfl ⟨by decide, by show 71 ≤ 121; omega⟩ (by decide +kernel) (by decide +kernel) (by decide +kernel) hT ⟨by omega, by omega⟩ (lD _ _ hc)) ?_
      rw [eC]
      exact cuQ_t
    have eB : ∀ (c9 s9 : Nat) (f : AL → AS → SW → Option Unit), segL L xs clN csL_law (cuC 1636 f cuN) 200 1627 [(0, aR 1), (1, aR 2), (2, aR 71), (3, aR 120), (4, aR 121), (5, aI k)] [aI cd] (wW d i9 j8 r.2.1 h', c9, s9) = gd (R32 (k + 1)) (gd ((0 : Int) ≤ (k + 1) ∧ (k + 1) < lnL L 1) (f [(6, aI cd), (0, aR 1), (1, aR 2), (2, aR 71), (3, aR 120), (4, aR 121), (5, aI k)] [aI (xa xs k 1), aR 71] (wW d i9 j8 r.2.1 h', c9, s9))) := fun _ _ _ => rfl
    refine segQ hLC (pc2 := 1636) (N := 200) (callV_lg hLC (n := 231) (a := 71) (as := [aI (xa xs k 1)]) (rest := []) (by decide +kernel) (rowsB_at rwL_law (pc := 1636) (r := (3, .invokevirtual 212, 231, 2, 12)) rfl).1 (by decide +kernel) rfl ⟨by decide, by show 71 ≤ 121; omega⟩ (by decide +kernel) (by decide +kernel) (by decide +kernel) hN ⟨by omega, by omega⟩ (lC _ _ c0)) ?_
    show segL L xs clN csL_law _ 200 1627 [(0, aR 1), (1, aR 2), (2, aR 71), (3, aR 120), (4, aR 121), (5, aI k)] [aI cd] _ = some ()
    rw [eB, hl1, gd_t ⟨by omega, by omega⟩, gd_t ⟨by omega, by omega⟩]
    exact cuQ_t
  have eA : ∀ (f : AL → AS → SW → Option Unit), segL L xs clN csL_law (cuC 1624 f cuN) 200 1616 [(0, aR 1), (1, aR 2), (2, aR 71), (3, aR 120), (4, aR 121), (5, aI k)] [] (wW d i9 j9 h h', cells, slots) = gd (R32 (k + 1)) (gd ((0 : Int) ≤ (k + 1) ∧ (k + 1) < lnL L 1) (f [(0, aR 1), (1, aR 2), (2, aR 71), (3, aR 120), (4, aR 121), (5, aI k)] [aR 120, aI (xa xs k 1), aR 2] (wW d i9 j9 h h', cells, slots))) := fun _ => rfl
  have sA : segL L xs clN csL_law (cuC 1624 (cuQ [(0, aR 1), (1, aR 2), (2, aR 71), (3, aR 120), (4, aR 121), (5, aI k)] [aR 120, aI (xa xs k 1), aR 2] (wW d i9 j9 h h', cells, slots) ()) cuN) 200 1616 [(0, aR 1), (1, aR 2), (2, aR 71), (3, aR 120), (4, aR 121), (5, aI k)] [] (wW d i9 j9 h h', cells, slots) = some () := by
    rw [eA, hl1, gd_t ⟨by omega, by omega⟩, gd_t ⟨by omega, by omega⟩]
    exact cuQ_t
  have c0 : cells + mC 295 ≤ 601024 ∧ slots + mS 295 ≤ 7293034 := ⟨roomA (n := 20) (by decide +kernel) hr.1, roomA (n := 100) (by decide +kernel) hr.2⟩
  have call : ∀ {v : Option AV} {σ1 : SG}, MCT 295 hhL_served [aR 2, aI (xa xs k 1), aR 120] (wW d i9 j9 h h') (.inl v) σ1 → LG p l e s m b below meth c D cy 1627 (lcE k) (v.toList ++ []) σ1 (cells + mC 295) (slots + mS 295) → LG p l e s m b below meth c D cy 1616 (lcE k) [] (wW d i9 j9 h h') cells slots := fun hct kk => segQ hLC (callH_lg hLC (n := 295) (as := [aR 2, aI (xa xs k 1), aR 120]) (rest := []) (by decide +kernel) (rowsB_at rwL_law (pc := 1624) (r := (3, .invokestatic 210, 295, 3, 0)) rfl).1 (by decide +kernel) hwL_served rfl (by decide +kernel) hct c0 kk) sA
  obtain ⟨o, hu⟩ := r
  cases o with
  | inl y =>
    obtain ⟨q1, q2⟩ := hq
    exact call (mct_j (hL_served_0 (by show 121 ≤ 121; omega) hM)) (mid 0 (up2 j9 120 0 y) q1 (fun _ => by rw [up2_same]; exact q2.symm))
  | inr ex =>
    obtain ⟨q1, q2⟩ := hq
    rcases (by omega : ex = 0 ∨ ex = 1 ∨ ex = 2 ∨ ex = 3 ∨ 4 ≤ ex) with z | z | z | z | z
    · subst z
      exact call (hL_served_1 (by show 121 ≤ 121; omega) hM) (mid 1 j9 q2 (fun w => by cases w))
    · exact absurd (by rw [z]; rfl) q1
    · subst z
      exact call (hL_served_2 (by show 121 ≤ 121; omega) hM) (mid 2 j9 q2 (fun w => by cases w))
    · exact absurd (by rw [z]; rfl) q1
    · refine absurd ?_ q1
      show cdX 1 0 2 0 ex = 0
      unfold cdX
      rw [if_neg (by omega), if_neg (by omega), if_neg (by omega), if_neg (by omega)]
theorem cs_does (hLC : LC p l s m b meth c D cy L xs) (k0 : 0 ≤ k) (k1 : k + 6 ≤ L) (hr : cells + 20 ≤ 601024 ∧ slots + 100 ≤ 7293034) (i : INV h h') (nx : NX p l e s m b below meth c D cy k cells slots) : LG p l e s m b below meth c D cy 1672 (lcE k) [] (wW d i9 j9 h h') cells slots := by
  have hL := hLC.2.2.2.2
  have hl1 : lnL L 1 = (L : Int) := rfl
  obtain ⟨r, er, r', er', hq, iq⟩ := op_does i (xa xs k 1) (xa xs k 2) xa_R
  have hM := mct_c (mX11_does (gc_ok (d := d) (i9 := i9) (j9 := j9) (h' := h')) er)
  have mid : ∀ (cd : Int) (j8 : Nat → Int → Int), r'.2.1 71 10 = cd → (cd = 0 → j8 120 0 = r'.1) → LG p l e s m b below meth c D cy 1689 (lcE k) [aI cd] (wW d i9 j8 r.2.1 h') (cells + mC 296) (slots + mS 296) := fun cd j8 hcd hy => by
    have hN : MCT 232 [] [aR 71, aI (xa xs k 1), aI (xa xs k 2)] (wW d i9 j8 r.2.1 h') (.inl (some (aI r'.1))) (wW d i9 j8 r.2.1 r'.2) := mX12_does gm_ok er'
    have hT : MCT 170 [] [aR 71] (wW d i9 j8 r.2.1 r'.2) (.inl (some (aI (r'.2.1 71 10)))) (wW d i9 j8 r.2.1 r'.2) := mX12_thrown gm_ok (sX12_thrown (h := r'.2))
    have c0 : cells + mC 296 + mC 232 + mC 170 ≤ cells + 20 ∧ slots + mS 296 + mS 232 + mS 170 ≤ slots + 100 := ⟨roomC (by decide +kernel), roomC (by decide +kernel)⟩
    generalize hz : r'.1 = z at hN hy
    generalize ht : r'.2.1 71 10 = t at hT
    have htc : t = cd := by rw [← ht]; exact hcd
    generalize cells + mC 296 = c1 at *
    generalize slots + mS 296 = s1 at *
    have eD : ∀ (t : Int) (c9 s9 : Nat) (f : AL → AS → SW → Option Unit), segL L xs clN csL_law (cuC 28 f cuN) 200 1713 [(7, aI z), (6, aI cd), (0, aR 1), (1, aR 2), (2, aR 71), (3, aR 120), (4, aR 121), (5, aI k)] [aI t] (wW d i9 j8 r.2.1 r'.2, c9, s9) = if t = cd then (if cd = 0 then gd ((0 : Int) ≤ 0 ∧ (0 : Int) < lnL L 120) (if cmpI ((wW d i9 j8 r.2.1 r'.2).2.2.2.1 120 0) z = 0 then gd (R32 (k + 6)) (f [(5, aI (k + 6)), (7, aI z), (6, aI cd), (0, aR 1), (1, aR 2), (2, aR 71), (3, aR 120), (4, aR 121)] [] (wW d i9 j8 r.2.1 r'.2, c9, s9)) else gd ((0 : Int) ≤ 0 ∧ (0 : Int) ≤ 1) (krL (some (aI 0)) (wW d i9 j8 r.2.1 r'.2, c9, s9))) else gd (R32 (k + 6)) (f [(5, aI (k + 6)), (7, aI z), (6, aI cd), (0, aR 1), (1, aR 2), (2, aR 71), (3, aR 120), (4, aR 121)] [] (wW d i9 j8 r.2.1 r'.2, c9, s9))) else gd ((0 : Int) ≤ 0 ∧ (0 : Int) ≤ 1) (krL (some (aI 0)) (wW d i9 j8 r.2.1 r'.2, c9, s9)) := fun _ _ _ _ => rfl
    have lD : ∀ c9 s9 : Nat, c9 ≤ cells + 20 ∧ s9 ≤ slots + 100 → LG p l e s m b below meth c D cy 1713 [(7, aI z), (6, aI cd), (0, aR 1), (1, aR 2), (2, aR 71), (3, aR 120), (4, aR 121), (5, aI k)] [aI t] (wW d i9 j8 r.2.1 r'.2) c9 s9 := fun c9 s9 hc => by
      refine segQ hLC (pc2 := 28) (N := 200) (LG_wid (nx d i9 j8 r.2.1 r'.2 [(5, aI (k + 6)), (7, aI z), (6, aI cd), (0, aR 1), (1, aR 2), (2, aR 71), (3, aR 120), (4, aR 121)] iq lcN_s) hc hr) ?_
      rw [eD, if_pos htc]
      by_cases cz : cd = 0
      · rw [if_pos cz, gd_t ⟨Int.le_refl _, show (0 : Int) < 1 by decide⟩, wWj0, hy cz, cmp_self, if_pos rfl, gd_t ⟨by omega, by omega⟩]
        exact cuQ_t
      · rw [if_neg cz, gd_t ⟨by omega, by omega⟩]
        exact cuQ_t
    have eC : ∀ (z : Int) (c9 s9 : Nat) (f : AL → AS → SW → Option Unit), segL L xs clN csL_law (cuC 1710 f cuN) 200 1707 [(6, aI cd), (0, aR 1), (1, aR 2), (2, aR 71), (3, aR 120), (4, aR 121), (5, aI k)] [aI z] (wW d i9 j8 r.2.1 r'.2, c9, s9) = f [(7, aI z), (6, aI cd), (0, aR 1), (1, aR 2), (2, aR 71), (3, aR 120), (4, aR 121), (5, aI k)] [aR 71] (wW d i9 j8 r.2.1 r'.2, c9, s9) := fun _ _ _ _ => rfl
    have lC : ∀ c9 s9 : Nat, c9 + mC 170 ≤ cells + 20 ∧ s9 + mS 170 ≤ slots + 100 → LG p l e s m b below meth c D cy 1707 [(6, aI cd), (0, aR 1), (1, aR 2), (2, aR 71), (3, aR 120), (4, aR 121), (5, aI k)] [aI z] (wW d i9 j8 r.2.1 r'.2) c9 s9 := fun c9 s9 hc => by
      refine segQ hLC (pc2 := 1710) (N := 200) (callV_lg hLC (n := 170) (a := 71) (as := []) (rest := []) (by decide +kernel) (rowsB_at rwL_law (pc := 1710) (r := (3, .invokevirtual 149, 170, 1, 12)) rfl).1 (by decide +kernel) rfl ⟨by decide, by show 71 ≤ 121; omega⟩ (by decide +kernel) (by decide +kernel) (by decide +kernel) hT ⟨by omega, by omega⟩ (lD _ _ hc)) ?_
      rw [eC]
      exact cuQ_t
    have eB : ∀ (c9 s9 : Nat) (f : AL → AS → SW → Option Unit), segL L xs clN csL_law (cuC 1704 f cuN) 200 1689 [(0, aR 1), (1, aR 2), (2, aR 71), (3, aR 120), (4, aR 121), (5, aI k)] [aI cd] (wW d i9 j8 r.2.1 h', c9, s9) = gd (R32 (k + 1)) (gd ((0 : Int) ≤ (k + 1) ∧ (k + 1) < lnL L 1) (gd (R32 (k + 2)) (gd ((0 : Int) ≤ (k + 2) ∧ (k + 2) < lnL L 1) (f [(6, aI cd), (0, aR 1), (1, aR 2), (2, aR 71), (3, aR 120), (4, aR 121), (5, aI k)] [aI (xa xs k 2), aI (xa xs k 1), aR 71] (wW d i9 j8 r.2.1 h', c9, s9))))) := fun _ _ _ => rfl
    refine segQ hLC (pc2 := 1704) (N := 200) (callV_lg hLC (n := 232) (a := 71) (as := [aI (xa xs k 1), aI (xa xs k 2)]) (rest := []) (by decide +kernel) (rowsB_at rwL_law (pc := 1704) (r := (3, .invokevirtual 215, 232, 3, 12)) rfl).1 (by decide +kernel) rfl ⟨by decide, by show 71 ≤ 121; omega⟩ (by decide +kernel) (by decide +kernel) (by decide +kernel) hN ⟨by omega, by omega⟩ (lC _ _ c0)) ?_
    show segL L xs clN csL_law _ 200 1689 [(0, aR 1), (1, aR 2), (2, aR 71), (3, aR 120), (4, aR 121), (5, aI k)] [aI cd] _ = some ()
    rw [eB, hl1, gd_t ⟨by omega, by omega⟩, gd_t ⟨by omega, by omega⟩, gd_t ⟨by omega, by omega⟩, gd_t ⟨by omega, by omega⟩]
    exact cuQ_t
  have eA : ∀ (f : AL → AS → SW → Option Unit), segL L xs clN csL_law (cuC 1686 f cuN) 200 1672 [(0, aR 1), (1, aR 2), (2, aR 71), (3, aR 120), (4, aR 121), (5, aI k)] [] (wW d i9 j9 h h', cells, slots) = gd (R32 (k + 1)) (gd ((0 : Int) ≤ (k + 1) ∧ (k + 1) < lnL L 1) (gd (R32 (k + 2)) (gd ((0 : Int) ≤ (k + 2) ∧ (k + 2) < lnL L 1) (f [(0, aR 1), (1, aR 2), (2, aR 71), (3, aR 120), (4, aR 121), (5, aI k)] [aR 120, aI (xa xs k 2), aI (xa xs k 1), aR 2] (wW d i9 j9 h h', cells, slots))))) := fun _ => rfl
  have sA : segL L xs clN csL_law (cuC 1686 (cuQ [(0, aR 1), (1, aR 2), (2, aR 71), (3, aR 120), (4, aR 121), (5, aI k)] [aR 120, aI (xa xs k 2), aI (xa xs k 1), aR 2] (wW d i9 j9 h h', cells, slots) ()) cuN) 200 1672 [(0, aR 1), (1, aR 2), (2, aR 71), (3, aR 120), (4, aR 121), (5, aI k)] [] (wW d i9 j9 h h', cells, slots) = some () := by
    rw [eA, hl1, gd_t ⟨by omega, by omega⟩, gd_t ⟨by omega, by omega⟩, gd_t ⟨by omega, by omega⟩, gd_t ⟨by omega, by omega⟩]
    exact cuQ_t
  have c0 : cells + mC 296 ≤ 601024 ∧ slots + mS 296 ≤ 7293034 := ⟨roomA (n := 20) (by decide +kernel) hr.1, roomA (n := 100) (by decide +kernel) hr.2⟩
  have call : ∀ {v : Option AV} {σ1 : SG}, MCT 296 hhL_does [aR 2, aI (xa xs k 1), aI (xa xs k 2), aR 120] (wW d i9 j9 h h') (.inl v) σ1 → LG p l e s m b below meth c D cy 1689 (lcE k) (v.toList ++ []) σ1 (cells + mC 296) (slots + mS 296) → LG p l e s m b below meth c D cy 1672 (lcE k) [] (wW d i9 j9 h h') cells slots := fun hct kk => segQ hLC (callH_lg hLC (n := 296) (as := [aR 2, aI (xa xs k 1), aI (xa xs k 2), aR 120]) (rest := []) (by decide +kernel) (rowsB_at rwL_law (pc := 1686) (r := (3, .invokestatic 213, 296, 4, 0)) rfl).1 (by decide +kernel) hwL_does rfl (by decide +kernel) hct c0 kk) sA
  obtain ⟨o, hu⟩ := r
  cases o with
  | inl y =>
    obtain ⟨q1, q2⟩ := hq
    exact call (mct_j (hL_does_0 (by show 121 ≤ 121; omega) hM)) (mid 0 (up2 j9 120 0 y) q1 (fun _ => by rw [up2_same]; exact q2.symm))
  | inr ex =>
    obtain ⟨q1, q2⟩ := hq
    rcases (by omega : ex = 0 ∨ ex = 1 ∨ ex = 2 ∨ ex = 3 ∨ 4 ≤ ex) with z | z | z | z | z
    · subst z
      exact call (hL_does_1 (by show 121 ≤ 121; omega) hM) (mid 1 j9 q2 (fun w => by cases w))
    · exact absurd (by rw [z]; rfl) q1
    · exact absurd (by rw [z]; rfl) q1
    · exact absurd (by rw [z]; rfl) q1
    · refine absurd ?_ q1
      show cdX 1 0 0 0 ex = 0
      unfold cdX
      rw [if_neg (by omega), if_neg (by omega), if_neg (by omega), if_neg (by omega)]
theorem cs_undo (hLC : LC p l s m b meth c D cy L xs) (k0 : 0 ≤ k) (k1 : k + 6 ≤ L) (hr : cells + 20 ≤ 601024 ∧ slots + 100 ≤ 7293034) (i : INV h h') (nx : NX p l e s m b below meth c D cy k cells slots) : LG p l e s m b below meth c D cy 1740 (lcE k) [] (wW d i9 j9 h h') cells slots := by
  have hL := hLC.2.2.2.2
  have hl1 : lnL L 1 = (L : Int) := rfl
  obtain ⟨r, er, r', er', hq, iq⟩ := op_undo i
  have hM := mct_c (mX11_undo (gc_ok (d := d) (i9 := i9) (j9 := j9) (h' := h')) er)
  have mid : ∀ (cd : Int) (j8 : Nat → Int → Int), r'.2.1 71 10 = cd → (cd = 0 → j8 120 0 = r'.1) → LG p l e s m b below meth c D cy 1745 (lcE k) [aI cd] (wW d i9 j8 r.2.1 h') (cells + mC 297) (slots + mS 297) := fun cd j8 hcd hy => by
    have hN : MCT 201 [] [aR 71] (wW d i9 j8 r.2.1 h') (.inl (some (aI r'.1))) (wW d i9 j8 r.2.1 r'.2) := mX12_undo gm_ok er'
    have hT : MCT 170 [] [aR 71] (wW d i9 j8 r.2.1 r'.2) (.inl (some (aI (r'.2.1 71 10)))) (wW d i9 j8 r.2.1 r'.2) := mX12_thrown gm_ok (sX12_thrown (h := r'.2))
    have c0 : cells + mC 297 + mC 201 + mC 170 ≤ cells + 20 ∧ slots + mS 297 + mS 201 + mS 170 ≤ slots + 100 := ⟨roomC (by decide +kernel), roomC (by decide +kernel)⟩
    generalize hz : r'.1 = z at hN hy
    generalize ht : r'.2.1 71 10 = t at hT
    have htc : t = cd := by rw [← ht]; exact hcd
    generalize cells + mC 297 = c1 at *
    generalize slots + mS 297 = s1 at *
    have eD : ∀ (t : Int) (c9 s9 : Nat) (f : AL → AS → SW → Option Unit), segL L xs clN csL_law (cuC 28 f cuN) 200 1757 [(7, aI z), (6, aI cd), (0, aR 1), (1, aR 2), (2, aR 71), (3, aR 120), (4, aR 121), (5, aI k)] [aI t] (wW d i9 j8 r.2.1 r'.2, c9, s9) = if t = cd then (if cd = 0 then gd ((0 : Int) ≤ 0 ∧ (0 : Int) < lnL L 120) (if cmpI ((wW d i9 j8 r.2.1 r'.2).2.2.2.1 120 0) z = 0 then gd (R32 (k + 6)) (f [(5, aI (k + 6)), (7, aI z), (6, aI cd), (0, aR 1), (1, aR 2), (2, aR 71), (3, aR 120), (4, aR 121)] [] (wW d i9 j8 r.2.1 r'.2, c9, s9)) else gd ((0 : Int) ≤ 0 ∧ (0 : Int) ≤ 1) (krL (some (aI 0)) (wW d i9 j8 r.2.1 r'.2, c9, s9))) else gd (R32 (k + 6)) (f [(5, aI (k + 6)), (7, aI z), (6, aI cd), (0, aR 1), (1, aR 2), (2, aR 71), (3, aR 120), (4, aR 121)] [] (wW d i9 j8 r.2.1 r'.2, c9, s9))) else gd ((0 : Int) ≤ 0 ∧ (0 : Int) ≤ 1) (krL (some (aI 0)) (wW d i9 j8 r.2.1 r'.2, c9, s9)) := fun _ _ _ _ => rfl
    have lD : ∀ c9 s9 : Nat, c9 ≤ cells + 20 ∧ s9 ≤ slots + 100 → LG p l e s m b below meth c D cy 1757 [(7, aI z), (6, aI cd), (0, aR 1), (1, aR 2), (2, aR 71), (3, aR 120), (4, aR 121), (5, aI k)] [aI t] (wW d i9 j8 r.2.1 r'.2) c9 s9 := fun c9 s9 hc => by
      refine segQ hLC (pc2 := 28) (N := 200) (LG_wid (nx d i9 j8 r.2.1 r'.2 [(5, aI (k + 6)), (7, aI z), (6, aI cd), (0, aR 1), (1, aR 2), (2, aR 71), (3, aR 120), (4, aR 121)] iq lcN_s) hc hr) ?_
      rw [eD, if_pos htc]
      by_cases cz : cd = 0
      · rw [if_pos cz, gd_t ⟨Int.le_refl _, show (0 : Int) < 1 by decide⟩, wWj0, hy cz, cmp_self, if_pos rfl, gd_t ⟨by omega, by omega⟩]
        exact cuQ_t
      · rw [if_neg cz, gd_t ⟨by omega, by omega⟩]
        exact cuQ_t
    have eC : ∀ (z : Int) (c9 s9 : Nat) (f : AL → AS → SW → Option Unit), segL L xs clN csL_law (cuC 1754 f cuN) 200 1751 [(6, aI cd), (0, aR 1), (1, aR 2), (2, aR 71), (3, aR 120), (4, aR 121), (5, aI k)] [aI z] (wW d i9 j8 r.2.1 r'.2, c9, s9) = f [(7, aI z), (6, aI cd), (0, aR 1), (1, aR 2), (2, aR 71), (3, aR 120), (4, aR 121), (5, aI k)] [aR 71] (wW d i9 j8 r.2.1 r'.2, c9, s9) := fun _ _ _ _ => rfl
    have lC : ∀ c9 s9 : Nat, c9 + mC 170 ≤ cells + 20 ∧ s9 + mS 170 ≤ slots + 100 → LG p l e s m b below meth c D cy 1751 [(6, aI cd), (0, aR 1), (1, aR 2), (2, aR 71), (3, aR 120), (4, aR 121), (5, aI k)] [aI z] (wW d i9 j8 r.2.1 r'.2) c9 s9 := fun c9 s9 hc => by
      refine segQ hLC (pc2 := 1754) (N := 200) (callV_lg hLC (n := 170) (a := 71) (as := []) (rest := []) (by decide +kernel) (rowsB_at rwL_law (pc := 1754) (r := (3, .invokevirtual 149, 170, 1, 12)) rfl).1 (by decide +kernel) rfl ⟨by decide, by show 71 ≤ 121; omega⟩ (by decide +kernel) (by decide +kernel) (by decide +kernel) hT ⟨by omega, by omega⟩ (lD _ _ hc)) ?_
      rw [eC]
      exact cuQ_t
    have eB : ∀ (c9 s9 : Nat) (f : AL → AS → SW → Option Unit), segL L xs clN csL_law (cuC 1748 f cuN) 200 1745 [(0, aR 1), (1, aR 2), (2, aR 71), (3, aR 120), (4, aR 121), (5, aI k)] [aI cd] (wW d i9 j8 r.2.1 h', c9, s9) = f [(6, aI cd), (0, aR 1), (1, aR 2), (2, aR 71), (3, aR 120), (4, aR 121), (5, aI k)] [aR 71] (wW d i9 j8 r.2.1 h', c9, s9) := fun _ _ _ => rfl
    refine segQ hLC (pc2 := 1748) (N := 200) (callV_lg hLC (n := 201) (a := 71) (as := []) (rest := []) (by decide +kernel) (rowsB_at rwL_law (pc := 1748) (r := (3, .invokevirtual 219, 201, 1, 12)) rfl).1 (by decide +kernel) rfl ⟨by decide, by show 71 ≤ 121; omega⟩ (by decide +kernel) (by decide +kernel) (by decide +kernel) hN ⟨by omega, by omega⟩ (lC _ _ c0)) ?_
    show segL L xs clN csL_law _ 200 1745 [(0, aR 1), (1, aR 2), (2, aR 71), (3, aR 120), (4, aR 121), (5, aI k)] [aI cd] _ = some ()
    rw [eB]
    exact cuQ_t
  have eA : ∀ (f : AL → AS → SW → Option Unit), segL L xs clN csL_law (cuC 1742 f cuN) 200 1740 [(0, aR 1), (1, aR 2), (2, aR 71), (3, aR 120), (4, aR 121), (5, aI k)] [] (wW d i9 j9 h h', cells, slots) = f [(0, aR 1), (1, aR 2), (2, aR 71), (3, aR 120), (4, aR 121), (5, aI k)] [aR 120, aR 2] (wW d i9 j9 h h', cells, slots) := fun _ => rfl
  have sA : segL L xs clN csL_law (cuC 1742 (cuQ [(0, aR 1), (1, aR 2), (2, aR 71), (3, aR 120), (4, aR 121), (5, aI k)] [aR 120, aR 2] (wW d i9 j9 h h', cells, slots) ()) cuN) 200 1740 [(0, aR 1), (1, aR 2), (2, aR 71), (3, aR 120), (4, aR 121), (5, aI k)] [] (wW d i9 j9 h h', cells, slots) = some () := by
    rw [eA]
    exact cuQ_t
  have c0 : cells + mC 297 ≤ 601024 ∧ slots + mS 297 ≤ 7293034 := ⟨roomA (n := 20) (by decide +kernel) hr.1, roomA (n := 100) (by decide +kernel) hr.2⟩
  have call : ∀ {v : Option AV} {σ1 : SG}, MCT 297 hhL_undo [aR 2, aR 120] (wW d i9 j9 h h') (.inl v) σ1 → LG p l e s m b below meth c D cy 1745 (lcE k) (v.toList ++ []) σ1 (cells + mC 297) (slots + mS 297) → LG p l e s m b below meth c D cy 1740 (lcE k) [] (wW d i9 j9 h h') cells slots := fun hct kk => segQ hLC (callH_lg hLC (n := 297) (as := [aR 2, aR 120]) (rest := []) (by decide +kernel) (rowsB_at rwL_law (pc := 1742) (r := (3, .invokestatic 216, 297, 2, 0)) rfl).1 (by decide +kernel) hwL_undo rfl (by decide +kernel) hct c0 kk) sA
  obtain ⟨o, hu⟩ := r
  cases o with
  | inl y =>
    obtain ⟨q1, q2⟩ := hq
    exact call (mct_j (hL_undo_0 (by show 121 ≤ 121; omega) hM)) (mid 0 (up2 j9 120 0 y) q1 (fun _ => by rw [up2_same]; exact q2.symm))
  | inr ex =>
    obtain ⟨q1, q2⟩ := hq
    rcases (by omega : ex = 0 ∨ ex = 1 ∨ ex = 2 ∨ ex = 3 ∨ 4 ≤ ex) with z | z | z | z | z
    · exact absurd (by rw [z]; rfl) q1
    · exact absurd (by rw [z]; rfl) q1
    · exact absurd (by rw [z]; rfl) q1
    · subst z
      exact call (hL_undo_1 (by show 121 ≤ 121; omega) hM) (mid 1 j9 q2 (fun w => by cases w))
    · refine absurd ?_ q1
      show cdX 0 0 0 1 ex = 0
      unfold cdX
      rw [if_neg (by omega), if_neg (by omega), if_neg (by omega), if_neg (by omega)]
theorem cs_rules (hLC : LC p l s m b meth c D cy L xs) (k0 : 0 ≤ k) (k1 : k + 6 ≤ L) (hr : cells + 20 ≤ 601024 ∧ slots + 100 ≤ 7293034) (i : INV h h') (nx : NX p l e s m b below meth c D cy k cells slots) : LG p l e s m b below meth c D cy 1784 (lcE k) [] (wW d i9 j9 h h') cells slots := by
  have hL := hLC.2.2.2.2
  have hl1 : lnL L 1 = (L : Int) := rfl
  obtain ⟨r, er, r', er', hq, iq⟩ := op_rules i (xa xs k 1) (xa xs k 2) (xa xs k 3)
  have hM := mct_c (mX11_rules (gc_ok (d := d) (i9 := i9) (j9 := j9) (h' := h')) er)
  have mid : ∀ (cd : Int) (j8 : Nat → Int → Int), r'.2.1 71 10 = cd → (cd = 0 → j8 120 0 = r'.1) → LG p l e s m b below meth c D cy 1807 (lcE k) [aI cd] (wW d i9 j8 r.2.1 h') (cells + mC 298) (slots + mS 298) := fun cd j8 hcd hy => by
    have hN : MCT 233 [] [aR 71, aI (xa xs k 1), aI (xa xs k 2), aI (xa xs k 3)] (wW d i9 j8 r.2.1 h') (.inl (some (aI r'.1))) (wW d i9 j8 r.2.1 r'.2) := mX12_rules gm_ok er'
    have hT : MCT 170 [] [aR 71] (wW d i9 j8 r.2.1 r'.2) (.inl (some (aI (r'.2.1 71 10)))) (wW d i9 j8 r.2.1 r'.2) := mX12_thrown gm_ok (sX12_thrown (h := r'.2))
    have c0 : cells + mC 298 + mC 233 + mC 170 ≤ cells + 20 ∧ slots + mS 298 + mS 233 + mS 170 ≤ slots + 100 := ⟨roomC (by decide +kernel), roomC (by decide +kernel)⟩
    generalize hz : r'.1 = z at hN hy
    generalize ht : r'.2.1 71 10 = t at hT
    have htc : t = cd := by rw [← ht]; exact hcd
    generalize cells + mC 298 = c1 at *
    generalize slots + mS 298 = s1 at *
    have eD : ∀ (t : Int) (c9 s9 : Nat) (f : AL → AS → SW → Option Unit), segL L xs clN csL_law (cuC 28 f cuN) 200 1837 [(7, aI z), (6, aI cd), (0, aR 1), (1, aR 2), (2, aR 71), (3, aR 120), (4, aR 121), (5, aI k)] [aI t] (wW d i9 j8 r.2.1 r'.2, c9, s9) = if t = cd then (if cd = 0 then gd ((0 : Int) ≤ 0 ∧ (0 : Int) < lnL L 120) (if cmpI ((wW d i9 j8 r.2.1 r'.2).2.2.2.1 120 0) z = 0 then gd (R32 (k + 6)) (f [(5, aI (k + 6)), (7, aI z), (6, aI cd), (0, aR 1), (1, aR 2), (2, aR 71), (3, aR 120), (4, aR 121)] [] (wW d i9 j8 r.2.1 r'.2, c9, s9)) else gd ((0 : Int) ≤ 0 ∧ (0 : Int) ≤ 1) (krL (some (aI 0)) (wW d i9 j8 r.2.1 r'.2, c9, s9))) else gd (R32 (k + 6)) (f [(5, aI (k + 6)), (7, aI z), (6, aI cd), (0, aR 1), (1, aR 2), (2, aR 71), (3, aR 120), (4, aR 121)] [] (wW d i9 j8 r.2.1 r'.2, c9, s9))) else gd ((0 : Int) ≤ 0 ∧ (0 : Int) ≤ 1) (krL (some (aI 0)) (wW d i9 j8 r.2.1 r'.2, c9, s9)) := fun _ _ _ _ => rfl
    have lD : ∀ c9 s9 : Nat, c9 ≤ cells + 20 ∧ s9 ≤ slots + 100 → LG p l e s m b below meth c D cy 1837 [(7, aI z), (6, aI cd), (0, aR 1), (1, aR 2), (2, aR 71), (3, aR 120), (4, aR 121), (5, aI k)] [aI t] (wW d i9 j8 r.2.1 r'.2) c9 s9 := fun c9 s9 hc => by
      refine segQ hLC (pc2 := 28) (N := 200) (LG_wid (nx d i9 j8 r.2.1 r'.2 [(5, aI (k + 6)), (7, aI z), (6, aI cd), (0, aR 1), (1, aR 2), (2, aR 71), (3, aR 120), (4, aR 121)] iq lcN_s) hc hr) ?_
      rw [eD, if_pos htc]
      by_cases cz : cd = 0
      · rw [if_pos cz, gd_t ⟨Int.le_refl _, show (0 : Int) < 1 by decide⟩, wWj0, hy cz, cmp_self, if_pos rfl, gd_t ⟨by omega, by omega⟩]
        exact cuQ_t
      · rw [if_neg cz, gd_t ⟨by omega, by omega⟩]
        exact cuQ_t
    have eC : ∀ (z : Int) (c9 s9 : Nat) (f : AL → AS → SW → Option Unit), segL L xs clN csL_law (cuC 1834 f cuN) 200 1831 [(6, aI cd), (0, aR 1), (1, aR 2), (2, aR 71), (3, aR 120), (4, aR 121), (5, aI k)] [aI z] (wW d i9 j8 r.2.1 r'.2, c9, s9) = f [(7, aI z), (6, aI cd), (0, aR 1), (1, aR 2), (2, aR 71), (3, aR 120), (4, aR 121), (5, aI k)] [aR 71] (wW d i9 j8 r.2.1 r'.2, c9, s9) := fun _ _ _ _ => rfl
    have lC : ∀ c9 s9 : Nat, c9 + mC 170 ≤ cells + 20 ∧ s9 + mS 170 ≤ slots + 100 → LG p l e s m b below meth c D cy 1831 [(6, aI cd), (0, aR 1), (1, aR 2), (2, aR 71), (3, aR 120), (4, aR 121), (5, aI k)] [aI z] (wW d i9 j8 r.2.1 r'.2) c9 s9 := fun c9 s9 hc => by
      refine segQ hLC (pc2 := 1834) (N := 200) (callV_lg hLC (n := 170) (a := 71) (as := []) (rest := []) (by decide +kernel) (rowsB_at rwL_law (pc := 1834) (r := (3, .invokevirtual 149, 170, 1, 12)) rfl).1 (by decide +kernel) rfl ⟨by decide, by show 71 ≤ 121; omega⟩ (by decide +kernel) (by decide +kernel) (by decide +kernel) hT ⟨by omega, by omega⟩ (lD _ _ hc)) ?_
      rw [eC]
      exact cuQ_t
    have eB : ∀ (c9 s9 : Nat) (f : AL → AS → SW → Option Unit), segL L xs clN csL_law (cuC 1828 f cuN) 200 1807 [(0, aR 1), (1, aR 2), (2, aR 71), (3, aR 120), (4, aR 121), (5, aI k)] [aI cd] (wW d i9 j8 r.2.1 h', c9, s9) = gd (R32 (k + 1)) (gd ((0 : Int) ≤ (k + 1) ∧ (k + 1) < lnL L 1) (gd (R32 (k + 2)) (gd ((0 : Int) ≤ (k + 2) ∧ (k + 2) < lnL L 1) (gd (R32 (k + 3)) (gd ((0 : Int) ≤ (k + 3) ∧ (k + 3) < lnL L 1) (f [(6, aI cd), (0, aR 1), (1, aR 2), (2, aR 71), (3, aR 120), (4, aR 121), (5, aI k)] [aI (xa xs k 3), aI (xa xs k 2), aI (xa xs k 1), aR 71] (wW d i9 j8 r.2.1 h', c9, s9))))))) := fun _ _ _ => rfl
    refine segQ hLC (pc2 := 1828) (N := 200) (callV_lg hLC (n := 233) (a := 71) (as := [aI (xa xs k 1), aI (xa xs k 2), aI (xa xs k 3)]) (rest := []) (by decide +kernel) (rowsB_at rwL_law (pc := 1828) (r := (3, .invokevirtual 222, 233, 4, 12)) rfl).1 (by decide +kernel) rfl ⟨by decide, by show 71 ≤ 121; omega⟩ (by decide +kernel) (by decide +kernel) (by decide +kernel) hN ⟨by omega, by omega⟩ (lC _ _ c0)) ?_
    show segL L xs clN csL_law _ 200 1807 [(0, aR 1), (1, aR 2), (2, aR 71), (3, aR 120), (4, aR 121), (5, aI k)] [aI cd] _ = some ()
    rw [eB, hl1, gd_t ⟨by omega, by omega⟩, gd_t ⟨by omega, by omega⟩, gd_t ⟨by omega, by omega⟩, gd_t ⟨by omega, by omega⟩, gd_t ⟨by omega, by omega⟩, gd_t ⟨by omega, by omega⟩]
    exact cuQ_t
  have eA : ∀ (f : AL → AS → SW → Option Unit), segL L xs clN csL_law (cuC 1804 f cuN) 200 1784 [(0, aR 1), (1, aR 2), (2, aR 71), (3, aR 120), (4, aR 121), (5, aI k)] [] (wW d i9 j9 h h', cells, slots) = gd (R32 (k + 1)) (gd ((0 : Int) ≤ (k + 1) ∧ (k + 1) < lnL L 1) (gd (R32 (k + 2)) (gd ((0 : Int) ≤ (k + 2) ∧ (k + 2) < lnL L 1) (gd (R32 (k + 3)) (gd ((0 : Int) ≤ (k + 3) ∧ (k + 3) < lnL L 1) (f [(0, aR 1), (1, aR 2), (2, aR 71), (3, aR 120), (4, aR 121), (5, aI k)] [aR 120, aI (xa xs k 3), aI (xa xs k 2), aI (xa xs k 1), aR 2] (wW d i9 j9 h h', cells, slots))))))) := fun _ => rfl
  have sA : segL L xs clN csL_law (cuC 1804 (cuQ [(0, aR 1), (1, aR 2), (2, aR 71), (3, aR 120), (4, aR 121), (5, aI k)] [aR 120, aI (xa xs k 3), aI (xa xs k 2), aI (xa xs k 1), aR 2] (wW d i9 j9 h h', cells, slots) ()) cuN) 200 1784 [(0, aR 1), (1, aR 2), (2, aR 71), (3, aR 120), (4, aR 121), (5, aI k)] [] (wW d i9 j9 h h', cells, slots) = some () := by
    rw [eA, hl1, gd_t ⟨by omega, by omega⟩, gd_t ⟨by omega, by omega⟩, gd_t ⟨by omega, by omega⟩, gd_t ⟨by omega, by omega⟩, gd_t ⟨by omega, by omega⟩, gd_t ⟨by omega, by omega⟩]
    exact cuQ_t
  have c0 : cells + mC 298 ≤ 601024 ∧ slots + mS 298 ≤ 7293034 := ⟨roomA (n := 20) (by decide +kernel) hr.1, roomA (n := 100) (by decide +kernel) hr.2⟩
  have call : ∀ {v : Option AV} {σ1 : SG}, MCT 298 hhL_rules [aR 2, aI (xa xs k 1), aI (xa xs k 2), aI (xa xs k 3), aR 120] (wW d i9 j9 h h') (.inl v) σ1 → LG p l e s m b below meth c D cy 1807 (lcE k) (v.toList ++ []) σ1 (cells + mC 298) (slots + mS 298) → LG p l e s m b below meth c D cy 1784 (lcE k) [] (wW d i9 j9 h h') cells slots := fun hct kk => segQ hLC (callH_lg hLC (n := 298) (as := [aR 2, aI (xa xs k 1), aI (xa xs k 2), aI (xa xs k 3), aR 120]) (rest := []) (by decide +kernel) (rowsB_at rwL_law (pc := 1804) (r := (3, .invokestatic 220, 298, 5, 0)) rfl).1 (by decide +kernel) hwL_rules rfl (by decide +kernel) hct c0 kk) sA
  obtain ⟨o, hu⟩ := r
  cases o with
  | inl y =>
    obtain ⟨q1, q2⟩ := hq
    exact call (mct_j (hL_rules_0 (by show 121 ≤ 121; omega) hM)) (mid 0 (up2 j9 120 0 y) q1 (fun _ => by rw [up2_same]; exact q2.symm))
  | inr ex =>
    obtain ⟨q1, q2⟩ := hq
    rcases (by omega : ex = 0 ∨ ex = 1 ∨ ex = 2 ∨ ex = 3 ∨ 4 ≤ ex) with z | z | z | z | z
    · exact absurd (by rw [z]; rfl) q1
    · subst z
      exact call (hL_rules_1 (by show 121 ≤ 121; omega) hM) (mid 1 j9 q2 (fun w => by cases w))
    · exact absurd (by rw [z]; rfl) q1
    · exact absurd (by rw [z]; rfl) q1
    · refine absurd ?_ q1
      show cdX 0 1 0 0 ex = 0
      unfold cdX
      rw [if_neg (by omega), if_neg (by omega), if_neg (by omega), if_neg (by omega)]
theorem cs_piece (hLC : LC p l s m b meth c D cy L xs) (k0 : 0 ≤ k) (k1 : k + 6 ≤ L) (hr : cells + 20 ≤ 601024 ∧ slots + 100 ≤ 7293034) (i : INV h h') (nx : NX p l e s m b below meth c D cy k cells slots) : LG p l e s m b below meth c D cy 1864 (lcE k) [] (wW d i9 j9 h h') cells slots := by
  have hL := hLC.2.2.2.2
  have hl1 : lnL L 1 = (L : Int) := rfl
  obtain ⟨r, er, r', er', hq, iq⟩ := op_piece i (xa xs k 1) (xa xs k 2)
  have hM := mct_c (mX11_piece (gc_ok (d := d) (i9 := i9) (j9 := j9) (h' := h')) er)
  have mid : ∀ (cd : Int) (j8 : Nat → Int → Int), r'.2.1 71 10 = cd → (cd = 0 → j8 120 0 = r'.1) → LG p l e s m b below meth c D cy 1881 (lcE k) [aI cd] (wW d i9 j8 r.2.1 h') (cells + mC 299) (slots + mS 299) := fun cd j8 hcd hy => by
    have hN : MCT 235 [] [aR 71, aI (xa xs k 1), aI (xa xs k 2)] (wW d i9 j8 r.2.1 h') (.inl (some (aI r'.1))) (wW d i9 j8 r.2.1 r'.2) := mX12_piece gm_ok er'
    have hT : MCT 170 [] [aR 71] (wW d i9 j8 r.2.1 r'.2) (.inl (some (aI (r'.2.1 71 10)))) (wW d i9 j8 r.2.1 r'.2) := mX12_thrown gm_ok (sX12_thrown (h := r'.2))
    have c0 : cells + mC 299 + mC 235 + mC 170 ≤ cells + 20 ∧ slots + mS 299 + mS 235 + mS 170 ≤ slots + 100 := ⟨roomC (by decide +kernel), roomC (by decide +kernel)⟩
    generalize hz : r'.1 = z at hN hy
    generalize ht : r'.2.1 71 10 = t at hT
    have htc : t = cd := by rw [← ht]; exact hcd
    generalize cells + mC 299 = c1 at *
    generalize slots + mS 299 = s1 at *
    have eD : ∀ (t : Int) (c9 s9 : Nat) (f : AL → AS → SW → Option Unit), segL L xs clN csL_law (cuC 28 f cuN) 200 1905 [(7, aI z), (6, aI cd), (0, aR 1), (1, aR 2), (2, aR 71), (3, aR 120), (4, aR 121), (5, aI k)] [aI t] (wW d i9 j8 r.2.1 r'.2, c9, s9) = if t = cd then (if cd = 0 then gd ((0 : Int) ≤ 0 ∧ (0 : Int) < lnL L 120) (if cmpI ((wW d i9 j8 r.2.1 r'.2).2.2.2.1 120 0) z = 0 then gd (R32 (k + 6)) (f [(5, aI (k + 6)), (7, aI z), (6, aI cd), (0, aR 1), (1, aR 2), (2, aR 71), (3, aR 120), (4, aR 121)] [] (wW d i9 j8 r.2.1 r'.2, c9, s9)) else gd ((0 : Int) ≤ 0 ∧ (0 : Int) ≤ 1) (krL (some (aI 0)) (wW d i9 j8 r.2.1 r'.2, c9, s9))) else gd (R32 (k + 6)) (f [(5, aI (k + 6)), (7, aI z), (6, aI cd), (0, aR 1), (1, aR 2), (2, aR 71), (3, aR 120), (4, aR 121)] [] (wW d i9 j8 r.2.1 r'.2, c9, s9))) else gd ((0 : Int) ≤ 0 ∧ (0 : Int) ≤ 1) (krL (some (aI 0)) (wW d i9 j8 r.2.1 r'.2, c9, s9)) := fun _ _ _ _ => rfl
    have lD : ∀ c9 s9 : Nat, c9 ≤ cells + 20 ∧ s9 ≤ slots + 100 → LG p l e s m b below meth c D cy 1905 [(7, aI z), (6, aI cd), (0, aR 1), (1, aR 2), (2, aR 71), (3, aR 120), (4, aR 121), (5, aI k)] [aI t] (wW d i9 j8 r.2.1 r'.2) c9 s9 := fun c9 s9 hc => by
      refine segQ hLC (pc2 := 28) (N := 200) (LG_wid (nx d i9 j8 r.2.1 r'.2 [(5, aI (k + 6)), (7, aI z), (6, aI cd), (0, aR 1), (1, aR 2), (2, aR 71), (3, aR 120), (4, aR 121)] iq lcN_s) hc hr) ?_
      rw [eD, if_pos htc]
      by_cases cz : cd = 0
      · rw [if_pos cz, gd_t ⟨Int.le_refl _, show (0 : Int) < 1 by decide⟩, wWj0, hy cz, cmp_self, if_pos rfl, gd_t ⟨by omega, by omega⟩]
        exact cuQ_t
      · rw [if_neg cz, gd_t ⟨by omega, by omega⟩]
        exact cuQ_t
    have eC : ∀ (z : Int) (c9 s9 : Nat) (f : AL → AS → SW → Option Unit), segL L xs clN csL_law (cuC 1902 f cuN) 200 1899 [(6, aI cd), (0, aR 1), (1, aR 2), (2, aR 71), (3, aR 120), (4, aR 121), (5, aI k)] [aI z] (wW d i9 j8 r.2.1 r'.2, c9, s9) = f [(7, aI z), (6, aI cd), (0, aR 1), (1, aR 2), (2, aR 71), (3, aR 120), (4, aR 121), (5, aI k)] [aR 71] (wW d i9 j8 r.2.1 r'.2, c9, s9) := fun _ _ _ _ => rfl
    have lC : ∀ c9 s9 : Nat, c9 + mC 170 ≤ cells + 20 ∧ s9 + mS 170 ≤ slots + 100 → LG p l e s m b below meth c D cy 1899 [(6, aI cd), (0, aR 1), (1, aR 2), (2, aR 71), (3, aR 120), (4, aR 121), (5, aI k)] [aI z] (wW d i9 j8 r.2.1 r'.2) c9 s9 := fun c9 s9 hc => by
      refine segQ hLC (pc2 := 1902) (N := 200) (callV_lg hLC (n := 170) (a := 71) (as := []) (rest := []) (by decide +kernel) (rowsB_at rwL_law (pc := 1902) (r := (3, .invokevirtual 149, 170, 1, 12)) rfl).1 (by decide +kernel) rfl ⟨by decide, by show 71 ≤ 121; omega⟩ (by decide +kernel) (by decide +kernel) (by decide +kernel) hT ⟨by omega, by omega⟩ (lD _ _ hc)) ?_
      rw [eC]
      exact cuQ_t
    have eB : ∀ (c9 s9 : Nat) (f : AL → AS → SW → Option Unit), segL L xs clN csL_law (cuC 1896 f cuN) 200 1881 [(0, aR 1), (1, aR 2), (2, aR 71), (3, aR 120), (4, aR 121), (5, aI k)] [aI cd] (wW d i9 j8 r.2.1 h', c9, s9) = gd (R32 (k + 1)) (gd ((0 : Int) ≤ (k + 1) ∧ (k + 1) < lnL L 1) (gd (R32 (k + 2)) (gd ((0 : Int) ≤ (k + 2) ∧ (k + 2) < lnL L 1) (f [(6, aI cd), (0, aR 1), (1, aR 2), (2, aR 71), (3, aR 120), (4, aR 121), (5, aI k)] [aI (xa xs k 2), aI (xa xs k 1), aR 71] (wW d i9 j8 r.2.1 h', c9, s9))))) := fun _ _ _ => rfl
    refine segQ hLC (pc2 := 1896) (N := 200) (callV_lg hLC (n := 235) (a := 71) (as := [aI (xa xs k 1), aI (xa xs k 2)]) (rest := []) (by decide +kernel) (rowsB_at rwL_law (pc := 1896) (r := (3, .invokevirtual 225, 235, 3, 12)) rfl).1 (by decide +kernel) rfl ⟨by decide, by show 71 ≤ 121; omega⟩ (by decide +kernel) (by decide +kernel) (by decide +kernel) hN ⟨by omega, by omega⟩ (lC _ _ c0)) ?_
    show segL L xs clN csL_law _ 200 1881 [(0, aR 1), (1, aR 2), (2, aR 71), (3, aR 120), (4, aR 121), (5, aI k)] [aI cd] _ = some ()
    rw [eB, hl1, gd_t ⟨by omega, by omega⟩, gd_t ⟨by omega, by omega⟩, gd_t ⟨by omega, by omega⟩, gd_t ⟨by omega, by omega⟩]
    exact cuQ_t
  have eA : ∀ (f : AL → AS → SW → Option Unit), segL L xs clN csL_law (cuC 1878 f cuN) 200 1864 [(0, aR 1), (1, aR 2), (2, aR 71), (3, aR 120), (4, aR 121), (5, aI k)] [] (wW d i9 j9 h h', cells, slots) = gd (R32 (k + 1)) (gd ((0 : Int) ≤ (k + 1) ∧ (k + 1) < lnL L 1) (gd (R32 (k + 2)) (gd ((0 : Int) ≤ (k + 2) ∧ (k + 2) < lnL L 1) (f [(0, aR 1), (1, aR 2), (2, aR 71), (3, aR 120), (4, aR 121), (5, aI k)] [aR 120, aI (xa xs k 2), aI (xa xs k 1), aR 2] (wW d i9 j9 h h', cells, slots))))) := fun _ => rfl
  have sA : segL L xs clN csL_law (cuC 1878 (cuQ [(0, aR 1), (1, aR 2), (2, aR 71), (3, aR 120), (4, aR 121), (5, aI k)] [aR 120, aI (xa xs k 2), aI (xa xs k 1), aR 2] (wW d i9 j9 h h', cells, slots) ()) cuN) 200 1864 [(0, aR 1), (1, aR 2), (2, aR 71), (3, aR 120), (4, aR 121), (5, aI k)] [] (wW d i9 j9 h h', cells, slots) = some () := by
    rw [eA, hl1, gd_t ⟨by omega, by omega⟩, gd_t ⟨by omega, by omega⟩, gd_t ⟨by omega, by omega⟩, gd_t ⟨by omega, by omega⟩]
    exact cuQ_t
  have c0 : cells + mC 299 ≤ 601024 ∧ slots + mS 299 ≤ 7293034 := ⟨roomA (n := 20) (by decide +kernel) hr.1, roomA (n := 100) (by decide +kernel) hr.2⟩
  have call : ∀ {v : Option AV} {σ1 : SG}, MCT 299 hhL_piece [aR 2, aI (xa xs k 1), aI (xa xs k 2), aR 120] (wW d i9 j9 h h') (.inl v) σ1 → LG p l e s m b below meth c D cy 1881 (lcE k) (v.toList ++ []) σ1 (cells + mC 299) (slots + mS 299) → LG p l e s m b below meth c D cy 1864 (lcE k) [] (wW d i9 j9 h h') cells slots := fun hct kk => segQ hLC (callH_lg hLC (n := 299) (as := [aR 2, aI (xa xs k 1), aI (xa xs k 2), aR 120]) (rest := []) (by decide +kernel) (rowsB_at rwL_law (pc := 1878) (r := (3, .invokestatic 223, 299, 4, 0)) rfl).1 (by decide +kernel) hwL_piece rfl (by decide +kernel) hct c0 kk) sA
  obtain ⟨o, hu⟩ := r
  cases o with
  | inl y =>
    obtain ⟨q1, q2⟩ := hq
    exact call (mct_j (hL_piece_0 (by show 121 ≤ 121; omega) hM)) (mid 0 (up2 j9 120 0 y) q1 (fun _ => by rw [up2_same]; exact q2.symm))
  | inr ex =>
    obtain ⟨q1, q2⟩ := hq
    rcases (by omega : ex = 0 ∨ ex = 1 ∨ ex = 2 ∨ ex = 3 ∨ 4 ≤ ex) with z | z | z | z | z
    · exact absurd (by rw [z]; rfl) q1
    · subst z
      exact call (hL_piece_1 (by show 121 ≤ 121; omega) hM) (mid 1 j9 q2 (fun w => by cases w))
    · subst z
      exact call (hL_piece_2 (by show 121 ≤ 121; omega) hM) (mid 2 j9 q2 (fun w => by cases w))
    · exact absurd (by rw [z]; rfl) q1
    · refine absurd ?_ q1
      show cdX 0 1 2 0 ex = 0
      unfold cdX
      rw [if_neg (by omega), if_neg (by omega), if_neg (by omega), if_neg (by omega)]
end LAWS
