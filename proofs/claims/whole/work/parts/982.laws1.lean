/-! THE LAW'S LOOP: cases -/
section LAWS
variable {p : Program} {l : Launch} {e : Env} {s : State} {m : MethodId} {below : List Frame} {meth : Method} {c : Code} {D : va_G} {cy : Nat → ClassId} {b L : Nat} {xs : Nat → Int32} {cells slots : Nat} {d : Nat → Int → UInt64} {i9 j9 : Nat → Int → Int} {h h' : HH} {k : Int}
theorem cs_street (hLC : LC p l s m b meth c D cy L xs) (k0 : 0 ≤ k) (k1 : k + 6 ≤ L) (hr : cells + 20 ≤ 601024 ∧ slots + 100 ≤ 7293034) (i : INV h h') (nx : NX p l e s m b below meth c D cy k cells slots) : LG p l e s m b below meth c D cy 228 (lcE k) [] (wW d i9 j9 h h') cells slots := by
  have hL := hLC.2.2.2.2
  have hl1 : lnL L 1 = (L : Int) := rfl
  obtain ⟨r, er, r', er', hq, iq⟩ := op_street i (xa xs k 1) (xa xs k 2) (xa xs k 3) (xa xs k 4) (xa xs k 5)
  have hM := mct_c (mX11_street (gc_ok (d := d) (i9 := i9) (j9 := j9) (h' := h')) er)
  have mid : ∀ (cd : Int) (j8 : Nat → Int → Int), r'.2.1 71 10 = cd → (cd = 0 → j8 120 0 = r'.1) → LG p l e s m b below meth c D cy 263 (lcE k) [aI cd] (wW d i9 j8 r.2.1 h') (cells + mC 276) (slots + mS 276) := fun cd j8 hcd hy => by
    have hN : MCT 183 [] [aR 71, aI (xa xs k 1), aI (xa xs k 2), aI (xa xs k 3), aI (xa xs k 4), aI (xa xs k 5)] (wW d i9 j8 r.2.1 h') (.inl (some (aI r'.1))) (wW d i9 j8 r.2.1 r'.2) := mX12_street gm_ok er'
    have hT : MCT 170 [] [aR 71] (wW d i9 j8 r.2.1 r'.2) (.inl (some (aI (r'.2.1 71 10)))) (wW d i9 j8 r.2.1 r'.2) := mX12_thrown gm_ok (sX12_thrown (h := r'.2))
    have c0 : cells + mC 276 + mC 183 + mC 170 ≤ cells + 20 ∧ slots + mS 276 + mS 183 + mS 170 ≤ slots + 100 := ⟨roomC (by decide +kernel), roomC (by decide +kernel)⟩
    generalize hz : r'.1 = z at hN hy
    generalize ht : r'.2.1 71 10 = t at hT
    have htc : t = cd := by rw [← ht]; exact hcd
    generalize cells + mC 276 = c1 at *
    generalize slots + mS 276 = s1 at *
    have eD : ∀ (t : Int) (c9 s9 : Nat) (f : AL → AS → SW → Option Unit), segL L xs clN csL_law (cuC 28 f cuN) 200 305 [(7, aI z), (6, aI cd), (0, aR 1), (1, aR 2), (2, aR 71), (3, aR 120), (4, aR 121), (5, aI k)] [aI t] (wW d i9 j8 r.2.1 r'.2, c9, s9) = if t = cd then (if cd = 0 then gd ((0 : Int) ≤ 0 ∧ (0 : Int) < lnL L 120) (if cmpI ((wW d i9 j8 r.2.1 r'.2).2.2.2.1 120 0) z = 0 then gd (R32 (k + 6)) (f [(5, aI (k + 6)), (7, aI z), (6, aI cd), (0, aR 1), (1, aR 2), (2, aR 71), (3, aR 120), (4, aR 121)] [] (wW d i9 j8 r.2.1 r'.2, c9, s9)) else gd ((0 : Int) ≤ 0 ∧ (0 : Int) ≤ 1) (krL (some (aI 0)) (wW d i9 j8 r.2.1 r'.2, c9, s9))) else gd (R32 (k + 6)) (f [(5, aI (k + 6)), (7, aI z), (6, aI cd), (0, aR 1), (1, aR 2), (2, aR 71), (3, aR 120), (4, aR 121)] [] (wW d i9 j8 r.2.1 r'.2, c9, s9))) else gd ((0 : Int) ≤ 0 ∧ (0 : Int) ≤ 1) (krL (some (aI 0)) (wW d i9 j8 r.2.1 r'.2, c9, s9)) := fun _ _ _ _ => rfl
    have lD : ∀ c9 s9 : Nat, c9 ≤ cells + 20 ∧ s9 ≤ slots + 100 → LG p l e s m b below meth c D cy 305 [(7, aI z), (6, aI cd), (0, aR 1), (1, aR 2), (2, aR 71), (3, aR 120), (4, aR 121), (5, aI k)] [aI t] (wW d i9 j8 r.2.1 r'.2) c9 s9 := fun c9 s9 hc => by
      refine segQ hLC (pc2 := 28) (N := 200) (LG_wid (nx d i9 j8 r.2.1 r'.2 [(5, aI (k + 6)), (7, aI z), (6, aI cd), (0, aR 1), (1, aR 2), (2, aR 71), (3, aR 120), (4, aR 121)] iq lcN_s) hc hr) ?_
      rw [eD, if_pos htc]
      by_cases cz : cd = 0
      · rw [if_pos cz, gd_t ⟨Int.le_refl _, show (0 : Int) < 1 by decide⟩, wWj0, hy cz, cmp_self, if_pos rfl, gd_t ⟨by omega, by omega⟩]
        exact cuQ_t
      · rw [if_neg cz, gd_t ⟨by omega, by omega⟩]
        exact cuQ_t
    have eC : ∀ (z : Int) (c9 s9 : Nat) (f : AL → AS → SW → Option Unit), segL L xs clN csL_law (cuC 302 f cuN) 200 299 [(6, aI cd), (0, aR 1), (1, aR 2), (2, aR 71), (3, aR 120), (4, aR 121), (5, aI k)] [aI z] (wW d i9 j8 r.2.1 r'.2, c9, s9) = f [(7, aI z), (6, aI cd), (0, aR 1), (1, aR 2), (2, aR 71), (3, aR 120), (4, aR 121), (5, aI k)] [aR 71] (wW d i9 j8 r.2.1 r'.2, c9, s9) := fun _ _ _ _ => rfl
    have lC : ∀ c9 s9 : Nat, c9 + mC 170 ≤ cells + 20 ∧ s9 + mS 170 ≤ slots + 100 → LG p l e s m b below meth c D cy 299 [(6, aI cd), (0, aR 1), (1, aR 2), (2, aR 71), (3, aR 120), (4, aR 121), (5, aI k)] [aI z] (wW d i9 j8 r.2.1 r'.2) c9 s9 := fun c9 s9 hc => by
      refine segQ hLC (pc2 := 302) (N := 200) (callV_lg hLC (n := 170) (a := 71) (as := []) (rest := []) (by decide +kernel) (rowsB_at rwL_law (pc := 302) (r := (3, .invokevirtual 149, 170, 1, 12)) rfl).1 (by decide +kernel) rfl ⟨by decide, by show 71 ≤ 121; omega⟩ (by decide +kernel) (by decide +kernel) (by decide +kernel) hT ⟨by omega, by omega⟩ (lD _ _ hc)) ?_
      rw [eC]
      exact cuQ_t
    have eB : ∀ (c9 s9 : Nat) (f : AL → AS → SW → Option Unit), segL L xs clN csL_law (cuC 296 f cuN) 200 263 [(0, aR 1), (1, aR 2), (2, aR 71), (3, aR 120), (4, aR 121), (5, aI k)] [aI cd] (wW d i9 j8 r.2.1 h', c9, s9) = gd (R32 (k + 1)) (gd ((0 : Int) ≤ (k + 1) ∧ (k + 1) < lnL L 1) (gd (R32 (k + 2)) (gd ((0 : Int) ≤ (k + 2) ∧ (k + 2) < lnL L 1) (gd (R32 (k + 3)) (gd ((0 : Int) ≤ (k + 3) ∧ (k + 3) < lnL L 1) (gd (R32 (k + 4)) (gd ((0 : Int) ≤ (k + 4) ∧ (k + 4) < lnL L 1) (gd (R32 (k + 5)) (gd ((0 : Int) ≤ (k + 5) ∧ (k + 5) < lnL L 1) (f [(6, aI cd), (0, aR 1), (1, aR 2), (2, aR 71), (3, aR 120), (4, aR 121), (5, aI k)] [aI (xa xs k 5), aI (xa xs k 4), aI (xa xs k 3), aI (xa xs k 2), aI (xa xs k 1), aR 71] (wW d i9 j8 r.2.1 h', c9, s9))))))))))) := fun _ _ _ => rfl
    refine segQ hLC (pc2 := 296) (N := 200) (callV_lg hLC (n := 183) (a := 71) (as := [aI (xa xs k 1), aI (xa xs k 2), aI (xa xs k 3), aI (xa xs k 4), aI (xa xs k 5)]) (rest := []) (by decide +kernel) (rowsB_at rwL_law (pc := 296) (r := (3, .invokevirtual 148, 183, 6, 12)) rfl).1 (by decide +kernel) rfl ⟨by decide, by show 71 ≤ 121; omega⟩ (by decide +kernel) (by decide +kernel) (by decide +kernel) hN ⟨by omega, by omega⟩ (lC _ _ c0)) ?_
    show segL L xs clN csL_law _ 200 263 [(0, aR 1), (1, aR 2), (2, aR 71), (3, aR 120), (4, aR 121), (5, aI k)] [aI cd] _ = some ()
    rw [eB, hl1, gd_t ⟨by omega, by omega⟩, gd_t ⟨by omega, by omega⟩, gd_t ⟨by omega, by omega⟩, gd_t ⟨by omega, by omega⟩, gd_t ⟨by omega, by omega⟩, gd_t ⟨by omega, by omega⟩, gd_t ⟨by omega, by omega⟩, gd_t ⟨by omega, by omega⟩, gd_t ⟨by omega, by omega⟩, gd_t ⟨by omega, by omega⟩]
    exact cuQ_t
  have eA : ∀ (f : AL → AS → SW → Option Unit), segL L xs clN csL_law (cuC 260 f cuN) 200 228 [(0, aR 1), (1, aR 2), (2, aR 71), (3, aR 120), (4, aR 121), (5, aI k)] [] (wW d i9 j9 h h', cells, slots) = gd (R32 (k + 1)) (gd ((0 : Int) ≤ (k + 1) ∧ (k + 1) < lnL L 1) (gd (R32 (k + 2)) (gd ((0 : Int) ≤ (k + 2) ∧ (k + 2) < lnL L 1) (gd (R32 (k + 3)) (gd ((0 : Int) ≤ (k + 3) ∧ (k + 3) < lnL L 1) (gd (R32 (k + 4)) (gd ((0 : Int) ≤ (k + 4) ∧ (k + 4) < lnL L 1) (gd (R32 (k + 5)) (gd ((0 : Int) ≤ (k + 5) ∧ (k + 5) < lnL L 1) (f [(0, aR 1), (1, aR 2), (2, aR 71), (3, aR 120), (4, aR 121), (5, aI k)] [aR 120, aI (xa xs k 5), aI (xa xs k 4), aI (xa xs k 3), aI (xa xs k 2), aI (xa xs k 1), aR 2] (wW d i9 j9 h h', cells, slots))))))))))) := fun _ => rfl
  have sA : segL L xs clN csL_law (cuC 260 (cuQ [(0, aR 1), (1, aR 2), (2, aR 71), (3, aR 120), (4, aR 121), (5, aI k)] [aR 120, aI (xa xs k 5), aI (xa xs k 4), aI (xa xs k 3), aI (xa xs k 2), aI (xa xs k 1), aR 2] (wW d i9 j9 h h', cells, slots) ()) cuN) 200 228 [(0, aR 1), (1, aR 2), (2, aR 71), (3, aR 120), (4, aR 121), (5, aI k)] [] (wW d i9 j9 h h', cells, slots) = some () := by
    rw [eA, hl1, gd_t ⟨by omega, by omega⟩, gd_t ⟨by omega, by omega⟩, gd_t ⟨by omega, by omega⟩, gd_t ⟨by omega, by omega⟩, gd_t ⟨by omega, by omega⟩, gd_t ⟨by omega, by omega⟩, gd_t ⟨by omega, by omega⟩, gd_t ⟨by omega, by omega⟩, gd_t ⟨by omega, by omega⟩, gd_t ⟨by omega, by omega⟩]
    exact cuQ_t
  have c0 : cells + mC 276 ≤ 601024 ∧ slots + mS 276 ≤ 7293034 := ⟨roomA (n := 20) (by decide +kernel) hr.1, roomA (n := 100) (by decide +kernel) hr.2⟩
  have call : ∀ {v : Option AV} {σ1 : SG}, MCT 276 hhL_street [aR 2, aI (xa xs k 1), aI (xa xs k 2), aI (xa xs k 3), aI (xa xs k 4), aI (xa xs k 5), aR 120] (wW d i9 j9 h h') (.inl v) σ1 → LG p l e s m b below meth c D cy 263 (lcE k) (v.toList ++ []) σ1 (cells + mC 276) (slots + mS 276) → LG p l e s m b below meth c D cy 228 (lcE k) [] (wW d i9 j9 h h') cells slots := fun hct kk => segQ hLC (callH_lg hLC (n := 276) (as := [aR 2, aI (xa xs k 1), aI (xa xs k 2), aI (xa xs k 3), aI (xa xs k 4), aI (xa xs k 5), aR 120]) (rest := []) (by decide +kernel) (rowsB_at rwL_law (pc := 260) (r := (3, .invokestatic 143, 276, 7, 0)) rfl).1 (by decide +kernel) hwL_street rfl (by decide +kernel) hct c0 kk) sA
  obtain ⟨o, hu⟩ := r
  cases o with
  | inl y =>
    obtain ⟨q1, q2⟩ := hq
    exact call (mct_j (hL_street_0 (by show 121 ≤ 121; omega) hM)) (mid 0 (up2 j9 120 0 y) q1 (fun _ => by rw [up2_same]; exact q2.symm))
  | inr ex =>
    obtain ⟨q1, q2⟩ := hq
    rcases (by omega : ex = 0 ∨ ex = 1 ∨ ex = 2 ∨ ex = 3 ∨ 4 ≤ ex) with z | z | z | z | z
    · subst z
      exact call (hL_street_1 (by show 121 ≤ 121; omega) hM) (mid 1 j9 q2 (fun w => by cases w))
    · subst z
      exact call (hL_street_2 (by show 121 ≤ 121; omega) hM) (mid 2 j9 q2 (fun w => by cases w))
    · subst z
      exact call (hL_street_3 (by show 121 ≤ 121; omega) hM) (mid 3 j9 q2 (fun w => by cases w))
    · exact absurd (by rw [z]; rfl) q1
    · refine absurd ?_ q1
      show cdX 1 2 3 0 ex = 0
      unfold cdX
      rw [if_neg (by omega), if_neg (by omega), if_neg (by omega), if_neg (by omega)]
theorem cs_factor (hLC : LC p l s m b meth c D cy L xs) (k0 : 0 ≤ k) (k1 : k + 6 ≤ L) (hr : cells + 20 ≤ 601024 ∧ slots + 100 ≤ 7293034) (i : INV h h') (nx : NX p l e s m b below meth c D cy k cells slots) : LG p l e s m b below meth c D cy 332 (lcE k) [] (wW d i9 j9 h h') cells slots := by
  have hL := hLC.2.2.2.2
  have hl1 : lnL L 1 = (L : Int) := rfl
  obtain ⟨r, er, r', er', hq, iq⟩ := op_factor i (xa xs k 1) (xa xs k 2)
  have hM := mct_c (mX11_factor (gc_ok (d := d) (i9 := i9) (j9 := j9) (h' := h')) er)
  have mid : ∀ (cd : Int) (j8 : Nat → Int → Int), r'.2.1 71 10 = cd → (cd = 0 → j8 120 0 = r'.1) → LG p l e s m b below meth c D cy 349 (lcE k) [aI cd] (wW d i9 j8 r.2.1 h') (cells + mC 277) (slots + mS 277) := fun cd j8 hcd hy => by
    have hN : MCT 184 [] [aR 71, aI (xa xs k 1), aI (xa xs k 2)] (wW d i9 j8 r.2.1 h') (.inl (some (aI r'.1))) (wW d i9 j8 r.2.1 r'.2) := mX12_factor gm_ok er'
    have hT : MCT 170 [] [aR 71] (wW d i9 j8 r.2.1 r'.2) (.inl (some (aI (r'.2.1 71 10)))) (wW d i9 j8 r.2.1 r'.2) := mX12_thrown gm_ok (sX12_thrown (h := r'.2))
    have c0 : cells + mC 277 + mC 184 + mC 170 ≤ cells + 20 ∧ slots + mS 277 + mS 184 + mS 170 ≤ slots + 100 := ⟨roomC (by decide +kernel), roomC (by decide +kernel)⟩
    generalize hz : r'.1 = z at hN hy
    generalize ht : r'.2.1 71 10 = t at hT
    have htc : t = cd := by rw [← ht]; exact hcd
    generalize cells + mC 277 = c1 at *
    generalize slots + mS 277 = s1 at *
    have eD : ∀ (t : Int) (c9 s9 : Nat) (f : AL → AS → SW → Option Unit), segL L xs clN csL_law (cuC 28 f cuN) 200 373 [(7, aI z), (6, aI cd), (0, aR 1), (1, aR 2), (2, aR 71), (3, aR 120), (4, aR 121), (5, aI k)] [aI t] (wW d i9 j8 r.2.1 r'.2, c9, s9) = if t = cd then (if cd = 0 then gd ((0 : Int) ≤ 0 ∧ (0 : Int) < lnL L 120) (if cmpI ((wW d i9 j8 r.2.1 r'.2).2.2.2.1 120 0) z = 0 then gd (R32 (k + 6)) (f [(5, aI (k + 6)), (7, aI z), (6, aI cd), (0, aR 1), (1, aR 2), (2, aR 71), (3, aR 120), (4, aR 121)] [] (wW d i9 j8 r.2.1 r'.2, c9, s9)) else gd ((0 : Int) ≤ 0 ∧ (0 : Int) ≤ 1) (krL (some (aI 0)) (wW d i9 j8 r.2.1 r'.2, c9, s9))) else gd (R32 (k + 6)) (f [(5, aI (k + 6)), (7, aI z), (6, aI cd), (0, aR 1), (1, aR 2), (2, aR 71), (3, aR 120), (4, aR 121)] [] (wW d i9 j8 r.2.1 r'.2, c9, s9))) else gd ((0 : Int) ≤ 0 ∧ (0 : Int) ≤ 1) (krL (some (aI 0)) (wW d i9 j8 r.2.1 r'.2, c9, s9)) := fun _ _ _ _ => rfl
    have lD : ∀ c9 s9 : Nat, c9 ≤ cells + 20 ∧ s9 ≤ slots + 100 → LG p l e s m b below meth c D cy 373 [(7, aI z), (6, aI cd), (0, aR 1), (1, aR 2), (2, aR 71), (3, aR 120), (4, aR 121), (5, aI k)] [aI t] (wW d i9 j8 r.2.1 r'.2) c9 s9 := fun c9 s9 hc => by
      refine segQ hLC (pc2 := 28) (N := 200) (LG_wid (nx d i9 j8 r.2.1 r'.2 [(5, aI (k + 6)), (7, aI z), (6, aI cd), (0, aR 1), (1, aR 2), (2, aR 71), (3, aR 120), (4, aR 121)] iq lcN_s) hc hr) ?_
      rw [eD, if_pos htc]
      by_cases cz : cd = 0
      · rw [if_pos cz, gd_t ⟨Int.le_refl _, show (0 : Int) < 1 by decide⟩, wWj0, hy cz, cmp_self, if_pos rfl, gd_t ⟨by omega, by omega⟩]
        exact cuQ_t
      · rw [if_neg cz, gd_t ⟨by omega, by omega⟩]
        exact cuQ_t
    have eC : ∀ (z : Int) (c9 s9 : Nat) (f : AL → AS → SW → Option Unit), segL L xs clN csL_law (cuC 370 f cuN) 200 367 [(6, aI cd), (0, aR 1), (1, aR 2), (2, aR 71), (3, aR 120), (4, aR 121), (5, aI k)] [aI z] (wW d i9 j8 r.2.1 r'.2, c9, s9) = f [(7, aI z), (6, aI cd), (0, aR 1), (1, aR 2), (2, aR 71), (3, aR 120), (4, aR 121), (5, aI k)] [aR 71] (wW d i9 j8 r.2.1 r'.2, c9, s9) := fun _ _ _ _ => rfl
    have lC : ∀ c9 s9 : Nat, c9 + mC 170 ≤ cells + 20 ∧ s9 + mS 170 ≤ slots + 100 → LG p l e s m b below meth c D cy 367 [(6, aI cd), (0, aR 1), (1, aR 2), (2, aR 71), (3, aR 120), (4, aR 121), (5, aI k)] [aI z] (wW d i9 j8 r.2.1 r'.2) c9 s9 := fun c9 s9 hc => by
      refine segQ hLC (pc2 := 370) (N := 200) (callV_lg hLC (n := 170) (a := 71) (as := []) (rest := []) (by decide +kernel) (rowsB_at rwL_law (pc := 370) (r := (3, .invokevirtual 149, 170, 1, 12)) rfl).1 (by decide +kernel) rfl ⟨by decide, by show 71 ≤ 121; omega⟩ (by decide +kernel) (by decide +kernel) (by decide +kernel) hT ⟨by omega, by omega⟩ (lD _ _ hc)) ?_
      rw [eC]
      exact cuQ_t
    have eB : ∀ (c9 s9 : Nat) (f : AL → AS → SW → Option Unit), segL L xs clN csL_law (cuC 364 f cuN) 200 349 [(0, aR 1), (1, aR 2), (2, aR 71), (3, aR 120), (4, aR 121), (5, aI k)] [aI cd] (wW d i9 j8 r.2.1 h', c9, s9) = gd (R32 (k + 1)) (gd ((0 : Int) ≤ (k + 1) ∧ (k + 1) < lnL L 1) (gd (R32 (k + 2)) (gd ((0 : Int) ≤ (k + 2) ∧ (k + 2) < lnL L 1) (f [(6, aI cd), (0, aR 1), (1, aR 2), (2, aR 71), (3, aR 120), (4, aR 121), (5, aI k)] [aI (xa xs k 2), aI (xa xs k 1), aR 71] (wW d i9 j8 r.2.1 h', c9, s9))))) := fun _ _ _ => rfl
    refine segQ hLC (pc2 := 364) (N := 200) (callV_lg hLC (n := 184) (a := 71) (as := [aI (xa xs k 1), aI (xa xs k 2)]) (rest := []) (by decide +kernel) (rowsB_at rwL_law (pc := 364) (r := (3, .invokevirtual 155, 184, 3, 12)) rfl).1 (by decide +kernel) rfl ⟨by decide, by show 71 ≤ 121; omega⟩ (by decide +kernel) (by decide +kernel) (by decide +kernel) hN ⟨by omega, by omega⟩ (lC _ _ c0)) ?_
    show segL L xs clN csL_law _ 200 349 [(0, aR 1), (1, aR 2), (2, aR 71), (3, aR 120), (4, aR 121), (5, aI k)] [aI cd] _ = some ()
    rw [eB, hl1, gd_t ⟨by omega, by omega⟩, gd_t ⟨by omega, by omega⟩, gd_t ⟨by omega, by omega⟩, gd_t ⟨by omega, by omega⟩]
    exact cuQ_t
  have eA : ∀ (f : AL → AS → SW → Option Unit), segL L xs clN csL_law (cuC 346 f cuN) 200 332 [(0, aR 1), (1, aR 2), (2, aR 71), (3, aR 120), (4, aR 121), (5, aI k)] [] (wW d i9 j9 h h', cells, slots) = gd (R32 (k + 1)) (gd ((0 : Int) ≤ (k + 1) ∧ (k + 1) < lnL L 1) (gd (R32 (k + 2)) (gd ((0 : Int) ≤ (k + 2) ∧ (k + 2) < lnL L 1) (f [(0, aR 1), (1, aR 2), (2, aR 71), (3, aR 120), (4, aR 121), (5, aI k)] [aR 120, aI (xa xs k 2), aI (xa xs k 1), aR 2] (wW d i9 j9 h h', cells, slots))))) := fun _ => rfl
  have sA : segL L xs clN csL_law (cuC 346 (cuQ [(0, aR 1), (1, aR 2), (2, aR 71), (3, aR 120), (4, aR 121), (5, aI k)] [aR 120, aI (xa xs k 2), aI (xa xs k 1), aR 2] (wW d i9 j9 h h', cells, slots) ()) cuN) 200 332 [(0, aR 1), (1, aR 2), (2, aR 71), (3, aR 120), (4, aR 121), (5, aI k)] [] (wW d i9 j9 h h', cells, slots) = some () := by
    rw [eA, hl1, gd_t ⟨by omega, by omega⟩, gd_t ⟨by omega, by omega⟩, gd_t ⟨by omega, by omega⟩, gd_t ⟨by omega, by omega⟩]
    exact cuQ_t
  have c0 : cells + mC 277 ≤ 601024 ∧ slots + mS 277 ≤ 7293034 := ⟨roomA (n := 20) (by decide +kernel) hr.1, roomA (n := 100) (by decide +kernel) hr.2⟩
  have call : ∀ {v : Option AV} {σ1 : SG}, MCT 277 hhL_factor [aR 2, aI (xa xs k 1), aI (xa xs k 2), aR 120] (wW d i9 j9 h h') (.inl v) σ1 → LG p l e s m b below meth c D cy 349 (lcE k) (v.toList ++ []) σ1 (cells + mC 277) (slots + mS 277) → LG p l e s m b below meth c D cy 332 (lcE k) [] (wW d i9 j9 h h') cells slots := fun hct kk => segQ hLC (callH_lg hLC (n := 277) (as := [aR 2, aI (xa xs k 1), aI (xa xs k 2), aR 120]) (rest := []) (by decide +kernel) (rowsB_at rwL_law (pc := 346) (r := (3, .invokestatic 152, 277, 4, 0)) rfl).1 (by decide +kernel) hwL_factor rfl (by decide +kernel) hct c0 kk) sA
  obtain ⟨o, hu⟩ := r
  cases o with
  | inl y =>
    obtain ⟨q1, q2⟩ := hq
    exact call (mct_j (hL_factor_0 (by show 121 ≤ 121; omega) hM)) (mid 0 (up2 j9 120 0 y) q1 (fun _ => by rw [up2_same]; exact q2.symm))
  | inr ex =>
    obtain ⟨q1, q2⟩ := hq
    rcases (by omega : ex = 0 ∨ ex = 1 ∨ ex = 2 ∨ ex = 3 ∨ 4 ≤ ex) with z | z | z | z | z
    · exact absurd (by rw [z]; rfl) q1
    · subst z
      exact call (hL_factor_1 (by show 121 ≤ 121; omega) hM) (mid 1 j9 q2 (fun w => by cases w))
    · exact absurd (by rw [z]; rfl) q1
    · exact absurd (by rw [z]; rfl) q1
    · refine absurd ?_ q1
      show cdX 0 1 0 0 ex = 0
      unfold cdX
      rw [if_neg (by omega), if_neg (by omega), if_neg (by omega), if_neg (by omega)]
theorem cs_way (hLC : LC p l s m b meth c D cy L xs) (k0 : 0 ≤ k) (k1 : k + 6 ≤ L) (hr : cells + 20 ≤ 601024 ∧ slots + 100 ≤ 7293034) (i : INV h h') (nx : NX p l e s m b below meth c D cy k cells slots) : LG p l e s m b below meth c D cy 400 (lcE k) [] (wW d i9 j9 h h') cells slots := by
  have hL := hLC.2.2.2.2
  have hl1 : lnL L 1 = (L : Int) := rfl
  obtain ⟨r, er, r', er', hq, iq⟩ := op_way i (xa xs k 1) (xa xs k 2) (xa xs k 3)
  have hM := mct_c (mX11_way (gc_ok (d := d) (i9 := i9) (j9 := j9) (h' := h')) er)
  have mid : ∀ (cd : Int) (j8 : Nat → Int → Int), r'.2.1 71 10 = cd → (cd = 0 → j8 120 0 = r'.1) → LG p l e s m b below meth c D cy 423 (lcE k) [aI cd] (wW d i9 j8 r.2.1 h') (cells + mC 278) (slots + mS 278) := fun cd j8 hcd hy => by
    have hN : MCT 185 [] [aR 71, aI (xa xs k 1), aI (xa xs k 2), aI (xa xs k 3)] (wW d i9 j8 r.2.1 h') (.inl (some (aI r'.1))) (wW d i9 j8 r.2.1 r'.2) := mX12_way gm_ok er'
    have hT : MCT 170 [] [aR 71] (wW d i9 j8 r.2.1 r'.2) (.inl (some (aI (r'.2.1 71 10)))) (wW d i9 j8 r.2.1 r'.2) := mX12_thrown gm_ok (sX12_thrown (h := r'.2))
    have c0 : cells + mC 278 + mC 185 + mC 170 ≤ cells + 20 ∧ slots + mS 278 + mS 185 + mS 170 ≤ slots + 100 := ⟨roomC (by decide +kernel), roomC (by decide +kernel)⟩
    generalize hz : r'.1 = z at hN hy
    generalize ht : r'.2.1 71 10 = t at hT
    have htc : t = cd := by rw [← ht]; exact hcd
    generalize cells + mC 278 = c1 at *
    generalize slots + mS 278 = s1 at *
    have eD : ∀ (t : Int) (c9 s9 : Nat) (f : AL → AS → SW → Option Unit), segL L xs clN csL_law (cuC 28 f cuN) 200 453 [(7, aI z), (6, aI cd), (0, aR 1), (1, aR 2), (2, aR 71), (3, aR 120), (4, aR 121), (5, aI k)] [aI t] (wW d i9 j8 r.2.1 r'.2, c9, s9) = if t = cd then (if cd = 0 then gd ((0 : Int) ≤ 0 ∧ (0 : Int) < lnL L 120) (if cmpI ((wW d i9 j8 r.2.1 r'.2).2.2.2.1 120 0) z = 0 then gd (R32 (k + 6)) (f [(5, aI (k + 6)), (7, aI z), (6, aI cd), (0, aR 1), (1, aR 2), (2, aR 71), (3, aR 120), (4, aR 121)] [] (wW d i9 j8 r.2.1 r'.2, c9, s9)) else gd ((0 : Int) ≤ 0 ∧ (0 : Int) ≤ 1) (krL (some (aI 0)) (wW d i9 j8 r.2.1 r'.2, c9, s9))) else gd (R32 (k + 6)) (f [(5, aI (k + 6)), (7, aI z), (6, aI cd), (0, aR 1), (1, aR 2), (2, aR 71), (3, aR 120), (4, aR 121)] [] (wW d i9 j8 r.2.1 r'.2, c9, s9))) else gd ((0 : Int) ≤ 0 ∧ (0 : Int) ≤ 1) (krL (some (aI 0)) (wW d i9 j8 r.2.1 r'.2, c9, s9)) := fun _ _ _ _ => rfl
    have lD : ∀ c9 s9 : Nat, c9 ≤ cells + 20 ∧ s9 ≤ slots + 100 → LG p l e s m b below meth c D cy 453 [(7, aI z), (6, aI cd), (0, aR 1), (1, aR 2), (2, aR 71), (3, aR 120), (4, aR 121), (5, aI k)] [aI t] (wW d i9 j8 r.2.1 r'.2) c9 s9 := fun c9 s9 hc => by
      refine segQ hLC (pc2 := 28) (N := 200) (LG_wid (nx d i9 j8 r.2.1 r'.2 [(5, aI (k + 6)), (7, aI z), (6, aI cd), (0, aR 1), (1, aR 2), (2, aR 71), (3, aR 120), (4, aR 121)] iq lcN_s) hc hr) ?_
      rw [eD, if_pos htc]
      by_cases cz : cd = 0
      · rw [if_pos cz, gd_t ⟨Int.le_refl _, show (0 : Int) < 1 by decide⟩, wWj0, hy cz, cmp_self, if_pos rfl, gd_t ⟨by omega, by omega⟩]
        exact cuQ_t
      · rw [if_neg cz, gd_t ⟨by omega, by omega⟩]
        exact cuQ_t
    have eC : ∀ (z : Int) (c9 s9 : Nat) (f : AL → AS → SW → Option Unit), segL L xs clN csL_law (cuC 450 f cuN) 200 447 [(6, aI cd), (0, aR 1), (1, aR 2), (2, aR 71), (3, aR 120), (4, aR 121), (5, aI k)] [aI z] (wW d i9 j8 r.2.1 r'.2, c9, s9) = f [(7, aI z), (6, aI cd), (0, aR 1), (1, aR 2), (2, aR 71), (3, aR 120), (4, aR 121), (5, aI k)] [aR 71] (wW d i9 j8 r.2.1 r'.2, c9, s9) := fun _ _ _ _ => rfl
    have lC : ∀ c9 s9 : Nat, c9 + mC 170 ≤ cells + 20 ∧ s9 + mS 170 ≤ slots + 100 → LG p l e s m b below meth c D cy 447 [(6, aI cd), (0, aR 1), (1, aR 2), (2, aR 71), (3, aR 120), (4, aR 121), (5, aI k)] [aI z] (wW d i9 j8 r.2.1 r'.2) c9 s9 := fun c9 s9 hc => by
      refine segQ hLC (pc2 := 450) (N := 200) (callV_lg hLC (n := 170) (a := 71) (as := []) (rest := []) (by decide +kernel) (rowsB_at rwL_law (pc := 450) (r := (3, .invokevirtual 149, 170, 1, 12)) rfl).1 (by decide +kernel) rfl ⟨by decide, by show 71 ≤ 121; omega⟩ (by decide +kernel) (by decide +kernel) (by decide +kernel) hT ⟨by omega, by omega⟩ (lD _ _ hc)) ?_
      rw [eC]
      exact cuQ_t
    have eB : ∀ (c9 s9 : Nat) (f : AL → AS → SW → Option Unit), segL L xs clN csL_law (cuC 444 f cuN) 200 423 [(0, aR 1), (1, aR 2), (2, aR 71), (3, aR 120), (4, aR 121), (5, aI k)] [aI cd] (wW d i9 j8 r.2.1 h', c9, s9) = gd (R32 (k + 1)) (gd ((0 : Int) ≤ (k + 1) ∧ (k + 1) < lnL L 1) (gd (R32 (k + 2)) (gd ((0 : Int) ≤ (k + 2) ∧ (k + 2) < lnL L 1) (gd (R32 (k + 3)) (gd ((0 : Int) ≤ (k + 3) ∧ (k + 3) < lnL L 1) (f [(6, aI cd), (0, aR 1), (1, aR 2), (2, aR 71), (3, aR 120), (4, aR 121), (5, aI k)] [aI (xa xs k 3), aI (xa xs k 2), aI (xa xs k 1), aR 71] (wW d i9 j8 r.2.1 h', c9, s9))))))) := fun _ _ _ => rfl
    refine segQ hLC (pc2 := 444) (N := 200) (callV_lg hLC (n := 185) (a := 71) (as := [aI (xa xs k 1), aI (xa xs k 2), aI (xa xs k 3)]) (rest := []) (by decide +kernel) (rowsB_at rwL_law (pc := 444) (r := (3, .invokevirtual 159, 185, 4, 12)) rfl).1 (by decide +kernel) rfl ⟨by decide, by show 71 ≤ 121; omega⟩ (by decide +kernel) (by decide +kernel) (by decide +kernel) hN ⟨by omega, by omega⟩ (lC _ _ c0)) ?_
    show segL L xs clN csL_law _ 200 423 [(0, aR 1), (1, aR 2), (2, aR 71), (3, aR 120), (4, aR 121), (5, aI k)] [aI cd] _ = some ()
    rw [eB, hl1, gd_t ⟨by omega, by omega⟩, gd_t ⟨by omega, by omega⟩, gd_t ⟨by omega, by omega⟩, gd_t ⟨by omega, by omega⟩, gd_t ⟨by omega, by omega⟩, gd_t ⟨by omega, by omega⟩]
    exact cuQ_t
  have eA : ∀ (f : AL → AS → SW → Option Unit), segL L xs clN csL_law (cuC 420 f cuN) 200 400 [(0, aR 1), (1, aR 2), (2, aR 71), (3, aR 120), (4, aR 121), (5, aI k)] [] (wW d i9 j9 h h', cells, slots) = gd (R32 (k + 1)) (gd ((0 : Int) ≤ (k + 1) ∧ (k + 1) < lnL L 1) (gd (R32 (k + 2)) (gd ((0 : Int) ≤ (k + 2) ∧ (k + 2) < lnL L 1) (gd (R32 (k + 3)) (gd ((0 : Int) ≤ (k + 3) ∧ (k + 3) < lnL L 1) (f [(0, aR 1), (1, aR 2), (2, aR 71), (3, aR 120), (4, aR 121), (5, aI k)] [aR 120, aI (xa xs k 3), aI (xa xs k 2), aI (xa xs k 1), aR 2] (wW d i9 j9 h h', cells, slots))))))) := fun _ => rfl
  have sA : segL L xs clN csL_law (cuC 420 (cuQ [(0, aR 1), (1, aR 2), (2, aR 71), (3, aR 120), (4, aR 121), (5, aI k)] [aR 120, aI (xa xs k 3), aI (xa xs k 2), aI (xa xs k 1), aR 2] (wW d i9 j9 h h', cells, slots) ()) cuN) 200 400 [(0, aR 1), (1, aR 2), (2, aR 71), (3, aR 120), (4, aR 121), (5, aI k)] [] (wW d i9 j9 h h', cells, slots) = some () := by
    rw [eA, hl1, gd_t ⟨by omega, by omega⟩, gd_t ⟨by omega, by omega⟩, gd_t ⟨by omega, by omega⟩, gd_t ⟨by omega, by omega⟩, gd_t ⟨by omega, by omega⟩, gd_t ⟨by omega, by omega⟩]
    exact cuQ_t
  have c0 : cells + mC 278 ≤ 601024 ∧ slots + mS 278 ≤ 7293034 := ⟨roomA (n := 20) (by decide +kernel) hr.1, roomA (n := 100) (by decide +kernel) hr.2⟩
  have call : ∀ {v : Option AV} {σ1 : SG}, MCT 278 hhL_way [aR 2, aI (xa xs k 1), aI (xa xs k 2), aI (xa xs k 3), aR 120] (wW d i9 j9 h h') (.inl v) σ1 → LG p l e s m b below meth c D cy 423 (lcE k) (v.toList ++ []) σ1 (cells + mC 278) (slots + mS 278) → LG p l e s m b below meth c D cy 400 (lcE k) [] (wW d i9 j9 h h') cells slots := fun hct kk => segQ hLC (callH_lg hLC (n := 278) (as := [aR 2, aI (xa xs k 1), aI (xa xs k 2), aI (xa xs k 3), aR 120]) (rest := []) (by decide +kernel) (rowsB_at rwL_law (pc := 420) (r := (3, .invokestatic 156, 278, 5, 0)) rfl).1 (by decide +kernel) hwL_way rfl (by decide +kernel) hct c0 kk) sA
  obtain ⟨o, hu⟩ := r
  cases o with
  | inl y =>
    obtain ⟨q1, q2⟩ := hq
    exact call (mct_j (hL_way_0 (by show 121 ≤ 121; omega) hM)) (mid 0 (up2 j9 120 0 y) q1 (fun _ => by rw [up2_same]; exact q2.symm))
  | inr ex =>
    obtain ⟨q1, q2⟩ := hq
    rcases (by omega : ex = 0 ∨ ex = 1 ∨ ex = 2 ∨ ex = 3 ∨ 4 ≤ ex) with z | z | z | z | z
    · subst z
      exact call (hL_way_1 (by show 121 ≤ 121; omega) hM) (mid 1 j9 q2 (fun w => by cases w))
    · subst z
      exact call (hL_way_2 (by show 121 ≤ 121; omega) hM) (mid 2 j9 q2 (fun w => by cases w))
    · exact absurd (by rw [z]; rfl) q1
    · exact absurd (by rw [z]; rfl) q1
    · refine absurd ?_ q1
      show cdX 1 2 0 0 ex = 0
      unfold cdX
      rw [if_neg (by omega), if_neg (by omega), if_neg (by omega), if_neg (by omega)]
theorem cs_arrival (hLC : LC p l s m b meth c D cy L xs) (k0 : 0 ≤ k) (k1 : k + 6 ≤ L) (hr : cells + 20 ≤ 601024 ∧ slots + 100 ≤ 7293034) (i : INV h h') (nx : NX p l e s m b below meth c D cy k cells slots) : LG p l e s m b below meth c D cy 480 (lcE k) [] (wW d i9 j9 h h') cells slots := by
  have hL := hLC.2.2.2.2
  have hl1 : lnL L 1 = (L : Int) := rfl
  obtain ⟨r, er, r', er', hq, iq⟩ := op_arrival i (xa xs k 1) (xa xs k 2) (xa xs k 3)
  have hM := mct_c (mX11_arrival (gc_ok (d := d) (i9 := i9) (j9 := j9) (h' := h')) er)
  have mid : ∀ (cd : Int) (j8 : Nat → Int → Int), r'.2.1 71 10 = cd → (cd = 0 → j8 120 0 = r'.1) → LG p l e s m b below meth c D cy 503 (lcE k) [aI cd] (wW d i9 j8 r.2.1 h') (cells + mC 279) (slots + mS 279) := fun cd j8 hcd hy => by
    have hN : MCT 187 [] [aR 71, aI (xa xs k 1), aI (xa xs k 2), aI (xa xs k 3)] (wW d i9 j8 r.2.1 h') (.inl (some (aI r'.1))) (wW d i9 j8 r.2.1 r'.2) := mX12_arrival gm_ok er'
    have hT : MCT 170 [] [aR 71] (wW d i9 j8 r.2.1 r'.2) (.inl (some (aI (r'.2.1 71 10)))) (wW d i9 j8 r.2.1 r'.2) := mX12_thrown gm_ok (sX12_thrown (h := r'.2))
    have c0 : cells + mC 279 + mC 187 + mC 170 ≤ cells + 20 ∧ slots + mS 279 + mS 187 + mS 170 ≤ slots + 100 := ⟨roomC (by decide +kernel), roomC (by decide +kernel)⟩
    generalize hz : r'.1 = z at hN hy
    generalize ht : r'.2.1 71 10 = t at hT
    have htc : t = cd := by rw [← ht]; exact hcd
    generalize cells + mC 279 = c1 at *
    generalize slots + mS 279 = s1 at *
    have eD : ∀ (t : Int) (c9 s9 : Nat) (f : AL → AS → SW → Option Unit), segL L xs clN csL_law (cuC 28 f cuN) 200 533 [(7, aI z), (6, aI cd), (0, aR 1), (1, aR 2), (2, aR 71), (3, aR 120), (4, aR 121), (5, aI k)] [aI t] (wW d i9 j8 r.2.1 r'.2, c9, s9) = if t = cd then (if cd = 0 then gd ((0 : Int) ≤ 0 ∧ (0 : Int) < lnL L 120) (if cmpI ((wW d i9 j8 r.2.1 r'.2).2.2.2.1 120 0) z = 0 then gd (R32 (k + 6)) (f [(5, aI (k + 6)), (7, aI z), (6, aI cd), (0, aR 1), (1, aR 2), (2, aR 71), (3, aR 120), (4, aR 121)] [] (wW d i9 j8 r.2.1 r'.2, c9, s9)) else gd ((0 : Int) ≤ 0 ∧ (0 : Int) ≤ 1) (krL (some (aI 0)) (wW d i9 j8 r.2.1 r'.2, c9, s9))) else gd (R32 (k + 6)) (f [(5, aI (k + 6)), (7, aI z), (6, aI cd), (0, aR 1), (1, aR 2), (2, aR 71), (3, aR 120), (4, aR 121)] [] (wW d i9 j8 r.2.1 r'.2, c9, s9))) else gd ((0 : Int) ≤ 0 ∧ (0 : Int) ≤ 1) (krL (some (aI 0)) (wW d i9 j8 r.2.1 r'.2, c9, s9)) := fun _ _ _ _ => rfl
    have lD : ∀ c9 s9 : Nat, c9 ≤ cells + 20 ∧ s9 ≤ slots + 100 → LG p l e s m b below meth c D cy 533 [(7, aI z), (6, aI cd), (0, aR 1), (1, aR 2), (2, aR 71), (3, aR 120), (4, aR 121), (5, aI k)] [aI t] (wW d i9 j8 r.2.1 r'.2) c9 s9 := fun c9 s9 hc => by
      refine segQ hLC (pc2 := 28) (N := 200) (LG_wid (nx d i9 j8 r.2.1 r'.2 [(5, aI (k + 6)), (7, aI z), (6, aI cd), (0, aR 1), (1, aR 2), (2, aR 71), (3, aR 120), (4, aR 121)] iq lcN_s) hc hr) ?_
      rw [eD, if_pos htc]
      by_cases cz : cd = 0
      · rw [if_pos cz, gd_t ⟨Int.le_refl _, show (0 : Int) < 1 by decide⟩, wWj0, hy cz, cmp_self, if_pos rfl, gd_t ⟨by omega, by omega⟩]
        exact cuQ_t
      · rw [if_neg cz, gd_t ⟨by omega, by omega⟩]
        exact cuQ_t
    have eC : ∀ (z : Int) (c9 s9 : Nat) (f : AL → AS → SW → Option Unit), segL L xs clN csL_law (cuC 530 f cuN) 200 527 [(6, aI cd), (0, aR 1), (1, aR 2), (2, aR 71), (3, aR 120), (4, aR 121), (5, aI k)] [aI z] (wW d i9 j8 r.2.1 r'.2, c9, s9) = f [(7, aI z), (6, aI cd), (0, aR 1), (1, aR 2), (2, aR 71), (3, aR 120), (4, aR 121), (5, aI k)] [aR 71] (wW d i9 j8 r.2.1 r'.2, c9, s9) := fun _ _ _ _ => rfl
    have lC : ∀ c9 s9 : Nat, c9 + mC 170 ≤ cells + 20 ∧ s9 + mS 170 ≤ slots + 100 → LG p l e s m b below meth c D cy 527 [(6, aI cd), (0, aR 1), (1, aR 2), (2, aR 71), (3, aR 120), (4, aR 121), (5, aI k)] [aI z] (wW d i9 j8 r.2.1 r'.2) c9 s9 := fun c9 s9 hc => by
      refine segQ hLC (pc2 := 530) (N := 200) (callV_lg hLC (n := 170) (a := 71) (as := []) (rest := []) (by decide +kernel) (rowsB_at rwL_law (pc := 530) (r := (3, .invokevirtual 149, 170, 1, 12)) rfl).1 (by decide +kernel) rfl ⟨by decide, by show 71 ≤ 121; omega⟩ (by decide +kernel) (by decide +kernel) (by decide +kernel) hT ⟨by omega, by omega⟩ (lD _ _ hc)) ?_
      rw [eC]
      exact cuQ_t
    have eB : ∀ (c9 s9 : Nat) (f : AL → AS → SW → Option Unit), segL L xs clN csL_law (cuC 524 f cuN) 200 503 [(0, aR 1), (1, aR 2), (2, aR 71), (3, aR 120), (4, aR 121), (5, aI k)] [aI cd] (wW d i9 j8 r.2.1 h', c9, s9) = gd (R32 (k + 1)) (gd ((0 : Int) ≤ (k + 1) ∧ (k + 1) < lnL L 1) (gd (R32 (k + 2)) (gd ((0 : Int) ≤ (k + 2) ∧ (k + 2) < lnL L 1) (gd (R32 (k + 3)) (gd ((0 : Int) ≤ (k + 3) ∧ (k + 3) < lnL L 1) (f [(6, aI cd), (0, aR 1), (1, aR 2), (2, aR 71), (3, aR 120), (4, aR 121), (5, aI k)] [aI (xa xs k 3), aI (xa xs k 2), aI (xa xs k 1), aR 71] (wW d i9 j8 r.2.1 h', c9, s9))))))) := fun _ _ _ => rfl
    refine segQ hLC (pc2 := 524) (N := 200) (callV_lg hLC (n := 187) (a := 71) (as := [aI (xa xs k 1), aI (xa xs k 2), aI (xa xs k 3)]) (rest := []) (by decide +kernel) (rowsB_at rwL_law (pc := 524) (r := (3, .invokevirtual 162, 187, 4, 12)) rfl).1 (by decide +kernel) rfl ⟨by decide, by show 71 ≤ 121; omega⟩ (by decide +kernel) (by decide +kernel) (by decide +kernel) hN ⟨by omega, by omega⟩ (lC _ _ c0)) ?_
    show segL L xs clN csL_law _ 200 503 [(0, aR 1), (1, aR 2), (2, aR 71), (3, aR 120), (4, aR 121), (5, aI k)] [aI cd] _ = some ()
    rw [eB, hl1, gd_t ⟨by omega, by omega⟩, gd_t ⟨by omega, by omega⟩, gd_t ⟨by omega, by omega⟩, gd_t ⟨by omega, by omega⟩, gd_t ⟨by omega, by omega⟩, gd_t ⟨by omega, by omega⟩]
    exact cuQ_t
  have eA : ∀ (f : AL → AS → SW → Option Unit), segL L xs clN csL_law (cuC 500 f cuN) 200 480 [(0, aR 1), (1, aR 2), (2, aR 71), (3, aR 120), (4, aR 121), (5, aI k)] [] (wW d i9 j9 h h', cells, slots) = gd (R32 (k + 1)) (gd ((0 : Int) ≤ (k + 1) ∧ (k + 1) < lnL L 1) (gd (R32 (k + 2)) (gd ((0 : Int) ≤ (k + 2) ∧ (k + 2) < lnL L 1) (gd (R32 (k + 3)) (gd ((0 : Int) ≤ (k + 3) ∧ (k + 3) < lnL L 1) (f [(0, aR 1), (1, aR 2), (2, aR 71), (3, aR 120), (4, aR 121), (5, aI k)] [aR 120, aI (xa xs k 3), aI (xa xs k 2), aI (xa xs k 1), aR 2] (wW d i9 j9 h h', cells, slots))))))) := fun _ => rfl
  have sA : segL L xs clN csL_law (cuC 500 (cuQ [(0, aR 1), (1, aR 2), (2, aR 71), (3, aR 120), (4, aR 121), (5, aI k)] [aR 120, aI (xa xs k 3), aI (xa xs k 2), aI (xa xs k 1), aR 2] (wW d i9 j9 h h', cells, slots) ()) cuN) 200 480 [(0, aR 1), (1, aR 2), (2, aR 71), (3, aR 120), (4, aR 121), (5, aI k)] [] (wW d i9 j9 h h', cells, slots) = some () := by
    rw [eA, hl1, gd_t ⟨by omega, by omega⟩, gd_t ⟨by omega, by omega⟩, gd_t ⟨by omega, by omega⟩, gd_t ⟨by omega, by omega⟩, gd_t ⟨by omega, by omega⟩, gd_t ⟨by omega, by omega⟩]
    exact cuQ_t
  have c0 : cells + mC 279 ≤ 601024 ∧ slots + mS 279 ≤ 7293034 := ⟨roomA (n := 20) (by decide +kernel) hr.1, roomA (n := 100) (by decide +kernel) hr.2⟩
  have call : ∀ {v : Option AV} {σ1 : SG}, MCT 279 hhL_arrival [aR 2, aI (xa xs k 1), aI (xa xs k 2), aI (xa xs k 3), aR 120] (wW d i9 j9 h h') (.inl v) σ1 → LG p l e s m b below meth c D cy 503 (lcE k) (v.toList ++ []) σ1 (cells + mC 279) (slots + mS 279) → LG p l e s m b below meth c D cy 480 (lcE k) [] (wW d i9 j9 h h') cells slots := fun hct kk => segQ hLC (callH_lg hLC (n := 279) (as := [aR 2, aI (xa xs k 1), aI (xa xs k 2), aI (xa xs k 3), aR 120]) (rest := []) (by decide +kernel) (rowsB_at rwL_law (pc := 500) (r := (3, .invokestatic 160, 279, 5, 0)) rfl).1 (by decide +kernel) hwL_arrival rfl (by decide +kernel) hct c0 kk) sA
  obtain ⟨o, hu⟩ := r
  cases o with
  | inl y =>
    obtain ⟨q1, q2⟩ := hq
    exact call (mct_j (hL_arrival_0 (by show 121 ≤ 121; omega) hM)) (mid 0 (up2 j9 120 0 y) q1 (fun _ => by rw [up2_same]; exact q2.symm))
  | inr ex =>
    obtain ⟨q1, q2⟩ := hq
    rcases (by omega : ex = 0 ∨ ex = 1 ∨ ex = 2 ∨ ex = 3 ∨ 4 ≤ ex) with z | z | z | z | z
    · subst z
      exact call (hL_arrival_1 (by show 121 ≤ 121; omega) hM) (mid 1 j9 q2 (fun w => by cases w))
    · subst z
      exact call (hL_arrival_2 (by show 121 ≤ 121; omega) hM) (mid 2 j9 q2 (fun w => by cases w))
    · exact absurd (by rw [z]; rfl) q1
    · exact absurd (by rw [z]; rfl) q1
    · refine absurd ?_ q1
      show cdX 1 2 0 0 ex = 0
      unfold cdX
      rw [if_neg (by omega), if_neg (by omega), if_neg (by omega), if_neg (by omega)]
theorem cs_clock (hLC : LC p l s m b meth c D cy L xs) (k0 : 0 ≤ k) (k1 : k + 6 ≤ L) (hr : cells + 20 ≤ 601024 ∧ slots + 100 ≤ 7293034) (i : INV h h') (nx : NX p l e s m b below meth c D cy k cells slots) : LG p l e s m b below meth c D cy 560 (lcE k) [] (wW d i9 j9 h h') cells slots := by
  have hL := hLC.2.2.2.2
  have hl1 : lnL L 1 = (L : Int) := rfl
  obtain ⟨r, er, r', er', hq, iq⟩ := op_clock i (xa xs k 1) (xa xs k 2) (xa xs k 3)
  have hM := mct_c (mX11_clock (gc_ok (d := d) (i9 := i9) (j9 := j9) (h' := h')) er)
  have mid : ∀ (cd : Int) (j8 : Nat → Int → Int), r'.2.1 71 10 = cd → (cd = 0 → j8 120 0 = r'.1) → LG p l e s m b below meth c D cy 583 (lcE k) [aI cd] (wW d i9 j8 r.2.1 h') (cells + mC 280) (slots + mS 280) := fun cd j8 hcd hy => by
    have hN : MCT 188 [] [aR 71, aI (xa xs k 1), aI (xa xs k 2), aI (xa xs k 3)] (wW d i9 j8 r.2.1 h') (.inl (some (aI r'.1))) (wW d i9 j8 r.2.1 r'.2) := mX12_clock gm_ok er'
    have hT : MCT 170 [] [aR 71] (wW d i9 j8 r.2.1 r'.2) (.inl (some (aI (r'.2.1 71 10)))) (wW d i9 j8 r.2.1 r'.2) := mX12_thrown gm_ok (sX12_thrown (h := r'.2))
    have c0 : cells + mC 280 + mC 188 + mC 170 ≤ cells + 20 ∧ slots + mS 280 + mS 188 + mS 170 ≤ slots + 100 := ⟨roomC (by decide +kernel), roomC (by decide +kernel)⟩
    generalize hz : r'.1 = z at hN hy
    generalize ht : r'.2.1 71 10 = t at hT
    have htc : t = cd := by rw [← ht]; exact hcd
    generalize cells + mC 280 = c1 at *
    generalize slots + mS 280 = s1 at *
    have eD : ∀ (t : Int) (c9 s9 : Nat) (f : AL → AS → SW → Option Unit), segL L xs clN csL_law (cuC 28 f cuN) 200 613 [(7, aI z), (6, aI cd), (0, aR 1), (1, aR 2), (2, aR 71), (3, aR 120), (4, aR 121), (5, aI k)] [aI t] (wW d i9 j8 r.2.1 r'.2, c9, s9) = if t = cd then (if cd = 0 then gd ((0 : Int) ≤ 0 ∧ (0 : Int) < lnL L 120) (if cmpI ((wW d i9 j8 r.2.1 r'.2).2.2.2.1 120 0) z = 0 then gd (R32 (k + 6)) (f [(5, aI (k + 6)), (7, aI z), (6, aI cd), (0, aR 1), (1, aR 2), (2, aR 71), (3, aR 120), (4, aR 121)] [] (wW d i9 j8 r.2.1 r'.2, c9, s9)) else gd ((0 : Int) ≤ 0 ∧ (0 : Int) ≤ 1) (krL (some (aI 0)) (wW d i9 j8 r.2.1 r'.2, c9, s9))) else gd (R32 (k + 6)) (f [(5, aI (k + 6)), (7, aI z), (6, aI cd), (0, aR 1), (1, aR 2), (2, aR 71), (3, aR 120), (4, aR 121)] [] (wW d i9 j8 r.2.1 r'.2, c9, s9))) else gd ((0 : Int) ≤ 0 ∧ (0 : Int) ≤ 1) (krL (some (aI 0)) (wW d i9 j8 r.2.1 r'.2, c9, s9)) := fun _ _ _ _ => rfl
    have lD : ∀ c9 s9 : Nat, c9 ≤ cells + 20 ∧ s9 ≤ slots + 100 → LG p l e s m b below meth c D cy 613 [(7, aI z), (6, aI cd), (0, aR 1), (1, aR 2), (2, aR 71), (3, aR 120), (4, aR 121), (5, aI k)] [aI t] (wW d i9 j8 r.2.1 r'.2) c9 s9 := fun c9 s9 hc => by
      refine segQ hLC (pc2 := 28) (N := 200) (LG_wid (nx d i9 j8 r.2.1 r'.2 [(5, aI (k + 6)), (7, aI z), (6, aI cd), (0, aR 1), (1, aR 2), (2, aR 71), (3, aR 120), (4, aR 121)] iq lcN_s) hc hr) ?_
      rw [eD, if_pos htc]
      by_cases cz : cd = 0
      · rw [if_pos cz, gd_t ⟨Int.le_refl _, show (0 : Int) < 1 by decide⟩, wWj0, hy cz, cmp_self, if_pos rfl, gd_t ⟨by omega, by omega⟩]
        exact cuQ_t
      · rw [if_neg cz, gd_t ⟨by omega, by omega⟩]
        exact cuQ_t
    have eC : ∀ (z : Int) (c9 s9 : Nat) (f : AL → AS → SW → Option Unit), segL L xs clN csL_law (cuC 610 f cuN) 200 607 [(6, aI cd), (0, aR 1), (1, aR 2), (2, aR 71), (3, aR 120), (4, aR 121), (5, aI k)] [aI z] (wW d i9 j8 r.2.1 r'.2, c9, s9) = f [(7, aI z), (6, aI cd), (0, aR 1), (1, aR 2), (2, aR 71), (3, aR 120), (4, aR 121), (5, aI k)] [aR 71] (wW d i9 j8 r.2.1 r'.2, c9, s9) := fun _ _ _ _ => rfl
    have lC : ∀ c9 s9 : Nat, c9 + mC 170 ≤ cells + 20 ∧ s9 + mS 170 ≤ slots + 100 → LG p l e s m b below meth c D cy 607 [(6, aI cd), (0, aR 1), (1, aR 2), (2, aR 71), (3, aR 120), (4, aR 121), (5, aI k)] [aI z] (wW d i9 j8 r.2.1 r'.2) c9 s9 := fun c9 s9 hc => by
      refine segQ hLC (pc2 := 610) (N := 200) (callV_lg hLC (n := 170) (a := 71) (as := []) (rest := []) (by decide +kernel) (rowsB_at rwL_law (pc := 610) (r := (3, .invokevirtual 149, 170, 1, 12)) rfl).1 (by decide +kernel) rfl ⟨by decide, by show 71 ≤ 121; omega⟩ (by decide +kernel) (by decide +kernel) (by decide +kernel) hT ⟨by omega, by omega⟩ (lD _ _ hc)) ?_
      rw [eC]
      exact cuQ_t
    have eB : ∀ (c9 s9 : Nat) (f : AL → AS → SW → Option Unit), segL L xs clN csL_law (cuC 604 f cuN) 200 583 [(0, aR 1), (1, aR 2), (2, aR 71), (3, aR 120), (4, aR 121), (5, aI k)] [aI cd] (wW d i9 j8 r.2.1 h', c9, s9) = gd (R32 (k + 1)) (gd ((0 : Int) ≤ (k + 1) ∧ (k + 1) < lnL L 1) (gd (R32 (k + 2)) (gd ((0 : Int) ≤ (k + 2) ∧ (k + 2) < lnL L 1) (gd (R32 (k + 3)) (gd ((0 : Int) ≤ (k + 3) ∧ (k + 3) < lnL L 1) (f [(6, aI cd), (0, aR 1), (1, aR 2), (2, aR 71), (3, aR 120), (4, aR 121), (5, aI k)] [aI (xa xs k 3), aI (xa xs k 2), aI (xa xs k 1), aR 71] (wW d i9 j8 r.2.1 h', c9, s9))))))) := fun _ _ _ => rfl
    refine segQ hLC (pc2 := 604) (N := 200) (callV_lg hLC (n := 188) (a := 71) (as := [aI (xa xs k 1), aI (xa xs k 2), aI (xa xs k 3)]) (rest := []) (by decide +kernel) (rowsB_at rwL_law (pc := 604) (r := (3, .invokevirtual 165, 188, 4, 12)) rfl).1 (by decide +kernel) rfl ⟨by decide, by show 71 ≤ 121; omega⟩ (by decide +kernel) (by decide +kernel) (by decide +kernel) hN ⟨by omega, by omega⟩ (lC _ _ c0)) ?_
    show segL L xs clN csL_law _ 200 583 [(0, aR 1), (1, aR 2), (2, aR 71), (3, aR 120), (4, aR 121), (5, aI k)] [aI cd] _ = some ()
    rw [eB, hl1, gd_t ⟨by omega, by omega⟩, gd_t ⟨by omega, by omega⟩, gd_t ⟨by omega, by omega⟩, gd_t ⟨by omega, by omega⟩, gd_t ⟨by omega, by omega⟩, gd_t ⟨by omega, by omega⟩]
    exact cuQ_t
  have eA : ∀ (f : AL → AS → SW → Option Unit), segL L xs clN csL_law (cuC 580 f cuN) 200 560 [(0, aR 1), (1, aR 2), (2, aR 71), (3, aR 120), (4, aR 121), (5, aI k)] [] (wW d i9 j9 h h', cells, slots) = gd (R32 (k + 1)) (gd ((0 : Int) ≤ (k + 1) ∧ (k + 1) < lnL L 1) (gd (R32 (k + 2)) (gd ((0 : Int) ≤ (k + 2) ∧ (k + 2) < lnL L 1) (gd (R32 (k + 3)) (gd ((0 : Int) ≤ (k + 3) ∧ (k + 3) < lnL L 1) (f [(0, aR 1), (1, aR 2), (2, aR 71), (3, aR 120), (4, aR 121), (5, aI k)] [aR 120, aI (xa xs k 3), aI (xa xs k 2), aI (xa xs k 1), aR 2] (wW d i9 j9 h h', cells, slots))))))) := fun _ => rfl
  have sA : segL L xs clN csL_law (cuC 580 (cuQ [(0, aR 1), (1, aR 2), (2, aR 71), (3, aR 120), (4, aR 121), (5, aI k)] [aR 120, aI (xa xs k 3), aI (xa xs k 2), aI (xa xs k 1), aR 2] (wW d i9 j9 h h', cells, slots) ()) cuN) 200 560 [(0, aR 1), (1, aR 2), (2, aR 71), (3, aR 120), (4, aR 121), (5, aI k)] [] (wW d i9 j9 h h', cells, slots) = some () := by
    rw [eA, hl1, gd_t ⟨by omega, by omega⟩, gd_t ⟨by omega, by omega⟩, gd_t ⟨by omega, by omega⟩, gd_t ⟨by omega, by omega⟩, gd_t ⟨by omega, by omega⟩, gd_t ⟨by omega, by omega⟩]
    exact cuQ_t
  have c0 : cells + mC 280 ≤ 601024 ∧ slots + mS 280 ≤ 7293034 := ⟨roomA (n := 20) (by decide +kernel) hr.1, roomA (n := 100) (by decide +kernel) hr.2⟩
  have call : ∀ {v : Option AV} {σ1 : SG}, MCT 280 hhL_clock [aR 2, aI (xa xs k 1), aI (xa xs k 2), aI (xa xs k 3), aR 120] (wW d i9 j9 h h') (.inl v) σ1 → LG p l e s m b below meth c D cy 583 (lcE k) (v.toList ++ []) σ1 (cells + mC 280) (slots + mS 280) → LG p l e s m b below meth c D cy 560 (lcE k) [] (wW d i9 j9 h h') cells slots := fun hct kk => segQ hLC (callH_lg hLC (n := 280) (as := [aR 2, aI (xa xs k 1), aI (xa xs k 2), aI (xa xs k 3), aR 120]) (rest := []) (by decide +kernel) (rowsB_at rwL_law (pc := 580) (r := (3, .invokestatic 163, 280, 5, 0)) rfl).1 (by decide +kernel) hwL_clock rfl (by decide +kernel) hct c0 kk) sA
  obtain ⟨o, hu⟩ := r
  cases o with
  | inl y =>
    obtain ⟨q1, q2⟩ := hq
    exact call (mct_j (hL_clock_0 (by show 121 ≤ 121; omega) hM)) (mid 0 (up2 j9 120 0 y) q1 (fun _ => by rw [up2_same]; exact q2.symm))
  | inr ex =>
    obtain ⟨q1, q2⟩ := hq
    rcases (by omega : ex = 0 ∨ ex = 1 ∨ ex = 2 ∨ ex = 3 ∨ 4 ≤ ex) with z | z | z | z | z
    · exact absurd (by rw [z]; rfl) q1
    · subst z
      exact call (hL_clock_1 (by show 121 ≤ 121; omega) hM) (mid 1 j9 q2 (fun w => by cases w))
    · exact absurd (by rw [z]; rfl) q1
    · exact absurd (by rw [z]; rfl) q1
    · refine absurd ?_ q1
      show cdX 0 1 0 0 ex = 0
      unfold cdX
      rw [if_neg (by omega), if_neg (by omega), if_neg (by omega), if_neg (by omega)]
theorem cs_parcel (hLC : LC p l s m b meth c D cy L xs) (k0 : 0 ≤ k) (k1 : k + 6 ≤ L) (hr : cells + 20 ≤ 601024 ∧ slots + 100 ≤ 7293034) (i : INV h h') (nx : NX p l e s m b below meth c D cy k cells slots) : LG p l e s m b below meth c D cy 640 (lcE k) [] (wW d i9 j9 h h') cells slots := by
  have hL := hLC.2.2.2.2
  have hl1 : lnL L 1 = (L : Int) := rfl
  obtain ⟨r, er, r', er', hq, iq⟩ := op_parcel i (xa xs k 1) (xa xs k 2) (xa xs k 3)
  have hM := mct_c (mX11_parcel (gc_ok (d := d) (i9 := i9) (j9 := j9) (h' := h')) er)
  have mid : ∀ (cd : Int) (j8 : Nat → Int → Int), r'.2.1 71 10 = cd → (cd = 0 → j8 120 0 = r'.1) → LG p l e s m b below meth c D cy 663 (lcE k) [aI cd] (wW d i9 j8 r.2.1 h') (cells + mC 281) (slots + mS 281) := fun cd j8 hcd hy => by
    have hN : MCT 189 [] [aR 71, aI (xa xs k 1), aI (xa xs k 2), aI (xa xs k 3)] (wW d i9 j8 r.2.1 h') (.inl (some (aI r'.1))) (wW d i9 j8 r.2.1 r'.2) := mX12_parcel gm_ok er'
    have hT : MCT 170 [] [aR 71] (wW d i9 j8 r.2.1 r'.2) (.inl (some (aI (r'.2.1 71 10)))) (wW d i9 j8 r.2.1 r'.2) := mX12_thrown gm_ok (sX12_thrown (h := r'.2))
    have c0 : cells + mC 281 + mC 189 + mC 170 ≤ cells + 20 ∧ slots + mS 281 + mS 189 + mS 170 ≤ slots + 100 := ⟨roomC (by decide +kernel), roomC (by decide +kernel)⟩
    generalize hz : r'.1 = z at hN hy
    generalize ht : r'.2.1 71 10 = t at hT
    have htc : t = cd := by rw [← ht]; exact hcd
    generalize cells + mC 281 = c1 at *
    generalize slots + mS 281 = s1 at *
    have eD : ∀ (t : Int) (c9 s9 : Nat) (f : AL → AS → SW → Option Unit), segL L xs clN csL_law (cuC 28 f cuN) 200 693 [(7, aI z), (6, aI cd), (0, aR 1), (1, aR 2), (2, aR 71), (3, aR 120), (4, aR 121), (5, aI k)] [aI t] (wW d i9 j8 r.2.1 r'.2, c9, s9) = if t = cd then (if cd = 0 then gd ((0 : Int) ≤ 0 ∧ (0 : Int) < lnL L 120) (if cmpI ((wW d i9 j8 r.2.1 r'.2).2.2.2.1 120 0) z = 0 then gd (R32 (k + 6)) (f [(5, aI (k + 6)), (7, aI z), (6, aI cd), (0, aR 1), (1, aR 2), (2, aR 71), (3, aR 120), (4, aR 121)] [] (wW d i9 j8 r.2.1 r'.2, c9, s9)) else gd ((0 : Int) ≤ 0 ∧ (0 : Int) ≤ 1) (krL (some (aI 0)) (wW d i9 j8 r.2.1 r'.2, c9, s9))) else gd (R32 (k + 6)) (f [(5, aI (k + 6)), (7, aI z), (6, aI cd), (0, aR 1), (1, aR 2), (2, aR 71), (3, aR 120), (4, aR 121)] [] (wW d i9 j8 r.2.1 r'.2, c9, s9))) else gd ((0 : Int) ≤ 0 ∧ (0 : Int) ≤ 1) (krL (some (aI 0)) (wW d i9 j8 r.2.1 r'.2, c9, s9)) := fun _ _ _ _ => rfl
    have lD : ∀ c9 s9 : Nat, c9 ≤ cells + 20 ∧ s9 ≤ slots + 100 → LG p l e s m b below meth c D cy 693 [(7, aI z), (6, aI cd), (0, aR 1), (1, aR 2), (2, aR 71), (3, aR 120), (4, aR 121), (5, aI k)] [aI t] (wW d i9 j8 r.2.1 r'.2) c9 s9 := fun c9 s9 hc => by
      refine segQ hLC (pc2 := 28) (N := 200) (LG_wid (nx d i9 j8 r.2.1 r'.2 [(5, aI (k + 6)), (7, aI z), (6, aI cd), (0, aR 1), (1, aR 2), (2, aR 71), (3, aR 120), (4, aR 121)] iq lcN_s) hc hr) ?_
      rw [eD, if_pos htc]
      by_cases cz : cd = 0
      · rw [if_pos cz, gd_t ⟨Int.le_refl _, show (0 : Int) < 1 by decide⟩, wWj0, hy cz, cmp_self, if_pos rfl, gd_t ⟨by omega, by omega⟩]
        exact cuQ_t
      · rw [if_neg cz, gd_t ⟨by omega, by omega⟩]
        exact cuQ_t
    have eC : ∀ (z : Int) (c9 s9 : Nat) (f : AL → AS → SW → Option Unit), segL L xs clN csL_law (cuC 690 f cuN) 200 687 [(6, aI cd), (0, aR 1), (1, aR 2), (2, aR 71), (3, aR 120), (4, aR 121), (5, aI k)] [aI z] (wW d i9 j8 r.2.1 r'.2, c9, s9) = f [(7, aI z), (6, aI cd), (0, aR 1), (1, aR 2), (2, aR 71), (3, aR 120), (4, aR 121), (5, aI k)] [aR 71] (wW d i9 j8 r.2.1 r'.2, c9, s9) := fun _ _ _ _ => rfl
    have lC : ∀ c9 s9 : Nat, c9 + mC 170 ≤ cells + 20 ∧ s9 + mS 170 ≤ slots + 100 → LG p l e s m b below meth c D cy 687 [(6, aI cd), (0, aR 1), (1, aR 2), (2, aR 71), (3, aR 120), (4, aR 121), (5, aI k)] [aI z] (wW d i9 j8 r.2.1 r'.2) c9 s9 := fun c9 s9 hc => by
      refine segQ hLC (pc2 := 690) (N := 200) (callV_lg hLC (n := 170) (a := 71) (as := []) (rest := []) (by decide +kernel) (rowsB_at rwL_law (pc := 690) (r := (3, .invokevirtual 149, 170, 1, 12)) rfl).1 (by decide +kernel) rfl ⟨by decide, by show 71 ≤ 121; omega⟩ (by decide +kernel) (by decide +kernel) (by decide +kernel) hT ⟨by omega, by omega⟩ (lD _ _ hc)) ?_
      rw [eC]
      exact cuQ_t
    have eB : ∀ (c9 s9 : Nat) (f : AL → AS → SW → Option Unit), segL L xs clN csL_law (cuC 684 f cuN) 200 663 [(0, aR 1), (1, aR 2), (2, aR 71), (3, aR 120), (4, aR 121), (5, aI k)] [aI cd] (wW d i9 j8 r.2.1 h', c9, s9) = gd (R32 (k + 1)) (gd ((0 : Int) ≤ (k + 1) ∧ (k + 1) < lnL L 1) (gd (R32 (k + 2)) (gd ((0 : Int) ≤ (k + 2) ∧ (k + 2) < lnL L 1) (gd (R32 (k + 3)) (gd ((0 : Int) ≤ (k + 3) ∧ (k + 3) < lnL L 1) (f [(6, aI cd), (0, aR 1), (1, aR 2), (2, aR 71), (3, aR 120), (4, aR 121), (5, aI k)] [aI (xa xs k 3), aI (xa xs k 2), aI (xa xs k 1), aR 71] (wW d i9 j8 r.2.1 h', c9, s9))))))) := fun _ _ _ => rfl
    refine segQ hLC (pc2 := 684) (N := 200) (callV_lg hLC (n := 189) (a := 71) (as := [aI (xa xs k 1), aI (xa xs k 2), aI (xa xs k 3)]) (rest := []) (by decide +kernel) (rowsB_at rwL_law (pc := 684) (r := (3, .invokevirtual 168, 189, 4, 12)) rfl).1 (by decide +kernel) rfl ⟨by decide, by show 71 ≤ 121; omega⟩ (by decide +kernel) (by decide +kernel) (by decide +kernel) hN ⟨by omega, by omega⟩ (lC _ _ c0)) ?_
    show segL L xs clN csL_law _ 200 663 [(0, aR 1), (1, aR 2), (2, aR 71), (3, aR 120), (4, aR 121), (5, aI k)] [aI cd] _ = some ()
    rw [eB, hl1, gd_t ⟨by omega, by omega⟩, gd_t ⟨by omega, by omega⟩, gd_t ⟨by omega, by omega⟩, gd_t ⟨by omega, by omega⟩, gd_t ⟨by omega, by omega⟩, gd_t ⟨by omega, by omega⟩]
    exact cuQ_t
  have eA : ∀ (f : AL → AS → SW → Option Unit), segL L xs clN csL_law (cuC 660 f cuN) 200 640 [(0, aR 1), (1, aR 2), (2, aR 71), (3, aR 120), (4, aR 121), (5, aI k)] [] (wW d i9 j9 h h', cells, slots) = gd (R32 (k + 1)) (gd ((0 : Int) ≤ (k + 1) ∧ (k + 1) < lnL L 1) (gd (R32 (k + 2)) (gd ((0 : Int) ≤ (k + 2) ∧ (k + 2) < lnL L 1) (gd (R32 (k + 3)) (gd ((0 : Int) ≤ (k + 3) ∧ (k + 3) < lnL L 1) (f [(0, aR 1), (1, aR 2), (2, aR 71), (3, aR 120), (4, aR 121), (5, aI k)] [aR 120, aI (xa xs k 3), aI (xa xs k 2), aI (xa xs k 1), aR 2] (wW d i9 j9 h h', cells, slots))))))) := fun _ => rfl
  have sA : segL L xs clN csL_law (cuC 660 (cuQ [(0, aR 1), (1, aR 2), (2, aR 71), (3, aR 120), (4, aR 121), (5, aI k)] [aR 120, aI (xa xs k 3), aI (xa xs k 2), aI (xa xs k 1), aR 2] (wW d i9 j9 h h', cells, slots) ()) cuN) 200 640 [(0, aR 1), (1, aR 2), (2, aR 71), (3, aR 120), (4, aR 121), (5, aI k)] [] (wW d i9 j9 h h', cells, slots) = some () := by
    rw [eA, hl1, gd_t ⟨by omega, by omega⟩, gd_t ⟨by omega, by omega⟩, gd_t ⟨by omega, by omega⟩, gd_t ⟨by omega, by omega⟩, gd_t ⟨by omega, by omega⟩, gd_t ⟨by omega, by omega⟩]
    exact cuQ_t
  have c0 : cells + mC 281 ≤ 601024 ∧ slots + mS 281 ≤ 7293034 := ⟨roomA (n := 20) (by decide +kernel) hr.1, roomA (n := 100) (by decide +kernel) hr.2⟩
  have call : ∀ {v : Option AV} {σ1 : SG}, MCT 281 hhL_parcel [aR 2, aI (xa xs k 1), aI (xa xs k 2), aI (xa xs k 3), aR 120] (wW d i9 j9 h h') (.inl v) σ1 → LG p l e s m b below meth c D cy 663 (lcE k) (v.toList ++ []) σ1 (cells + mC 281) (slots + mS 281) → LG p l e s m b below meth c D cy 640 (lcE k) [] (wW d i9 j9 h h') cells slots := fun hct kk => segQ hLC (callH_lg hLC (n := 281) (as := [aR 2, aI (xa xs k 1), aI (xa xs k 2), aI (xa xs k 3), aR 120]) (rest := []) (by decide +kernel) (rowsB_at rwL_law (pc := 660) (r := (3, .invokestatic 166, 281, 5, 0)) rfl).1 (by decide +kernel) hwL_parcel rfl (by decide +kernel) hct c0 kk) sA
  obtain ⟨o, hu⟩ := r
  cases o with
  | inl y =>
    obtain ⟨q1, q2⟩ := hq
    exact call (mct_j (hL_parcel_0 (by show 121 ≤ 121; omega) hM)) (mid 0 (up2 j9 120 0 y) q1 (fun _ => by rw [up2_same]; exact q2.symm))
  | inr ex =>
    obtain ⟨q1, q2⟩ := hq
    rcases (by omega : ex = 0 ∨ ex = 1 ∨ ex = 2 ∨ ex = 3 ∨ 4 ≤ ex) with z | z | z | z | z
    · subst z
      exact call (hL_parcel_1 (by show 121 ≤ 121; omega) hM) (mid 1 j9 q2 (fun w => by cases w))
    · subst z
      exact call (hL_parcel_2 (by show 121 ≤ 121; omega) hM) (mid 2 j9 q2 (fun w => by cases w))
    · subst z
      exact call (hL_parcel_3 (by show 121 ≤ 121; omega) hM) (mid 3 j9 q2 (fun w => by cases w))
    · exact absurd (by rw [z]; rfl) q1
    · refine absurd ?_ q1
      show cdX 1 2 3 0 ex = 0
      unfold cdX
      rw [if_neg (by omega), if_neg (by omega), if_neg (by omega), if_neg (by omega)]
end LAWS
