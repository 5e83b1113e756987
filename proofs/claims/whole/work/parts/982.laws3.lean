/-! THE LAW'S LOOP: cases -/
section LAWS
variable {p : Program} {l : Launch} {e : Env} {s : State} {m : MethodId} {below : List Frame} {meth : Method} {c : Code} {D : va_G} {cy : Nat → ClassId} {b L : Nat} {xs : Nat → Int32} {cells slots : Nat} {d : Nat → Int → UInt64} {i9 j9 : Nat → Int → Int} {h h' : HH} {k : Int}
theorem cs_savings (hLC : LC p l s m b meth c D cy L xs) (k0 : 0 ≤ k) (k1 : k + 6 ≤ L) (hr : cells + 20 ≤ 601024 ∧ slots + 100 ≤ 7293034) (i : INV h h') (nx : NX p l e s m b below meth c D cy k cells slots) : LG p l e s m b below meth c D cy 1200 (lcE k) [] (wW d i9 j9 h h') cells slots := by
  have hL := hLC.2.2.2.2
  have hl1 : lnL L 1 = (L : Int) := rfl
  obtain ⟨r, er, r', er', hq, iq⟩ := op_savings i (xa xs k 1)
  have hM := mct_c (mX11_savings (gc_ok (d := d) (i9 := i9) (j9 := j9) (h' := h')) er)
  have mid : ∀ (cd : Int) (j8 : Nat → Int → Int), r'.2.1 71 10 = cd → (cd = 0 → j8 120 0 = r'.1) → LG p l e s m b below meth c D cy 1211 (lcE k) [aI cd] (wW d i9 j8 r.2.1 h') (cells + mC 288) (slots + mS 288) := fun cd j8 hcd hy => by
    have hN : MCT 215 [] [aR 71, aI (xa xs k 1)] (wW d i9 j8 r.2.1 h') (.inl (some (aI r'.1))) (wW d i9 j8 r.2.1 r'.2) := mX12_savings gm_ok er'
    have hT : MCT 170 [] [aR 71] (wW d i9 j8 r.2.1 r'.2) (.inl (some (aI (r'.2.1 71 10)))) (wW d i9 j8 r.2.1 r'.2) := mX12_thrown gm_ok (sX12_thrown (h := r'.2))
    have c0 : cells + mC 288 + mC 215 + mC 170 ≤ cells + 20 ∧ slots + mS 288 + mS 215 + mS 170 ≤ slots + 100 := ⟨roomC (by decide +kernel), roomC (by decide +kernel)⟩
    generalize hz : r'.1 = z at hN hy
    generalize ht : r'.2.1 71 10 = t at hT
    have htc : t = cd := by rw [← ht]; exact hcd
    generalize cells + mC 288 = c1 at *
    generalize slots + mS 288 = s1 at *
    have eD : ∀ (t : Int) (c9 s9 : Nat) (f : AL → AS → SW → Option Unit), segL L xs clN csL_law (cuC 28 f cuN) 200 1229 [(7, aI z), (6, aI cd), (0, aR 1), (1, aR 2), (2, aR 71), (3, aR 120), (4, aR 121), (5, aI k)] [aI t] (wW d i9 j8 r.2.1 r'.2, c9, s9) = if t = cd then (if cd = 0 then gd ((0 : Int) ≤ 0 ∧ (0 : Int) < lnL L 120) (if cmpI ((wW d i9 j8 r.2.1 r'.2).2.2.2.1 120 0) z = 0 then gd (R32 (k + 6)) (f [(5, aI (k + 6)), (7, aI z), (6, aI cd), (0, aR 1), (1, aR 2), (2, aR 71), (3, aR 120), (4, aR 121)] [] (wW d i9 j8 r.2.1 r'.2, c9, s9)) else gd ((0 : Int) ≤ 0 ∧ (0 : Int) ≤ 1) (krL (some (aI 0)) (wW d i9 j8 r.2.1 r'.2, c9, s9))) else gd (R32 (k + 6)) (f [(5, aI (k + 6)), (7, aI z), (6, aI cd), (0, aR 1), (1, aR 2), (2, aR 71), (3, aR 120), (4, aR 121)] [] (wW d i9 j8 r.2.1 r'.2, c9, s9))) else gd ((0 : Int) ≤ 0 ∧ (0 : Int) ≤ 1) (krL (some (aI 0)) (wW d i9 j8 r.2.1 r'.2, c9, s9)) := fun _ _ _ _ => rfl
    have lD : ∀ c9 s9 : Nat, c9 ≤ cells + 20 ∧ s9 ≤ slots + 100 → LG p l e s m b below meth c D cy 1229 [(7, aI z), (6, aI cd), (0, aR 1), (1, aR 2), (2, aR 71), (3, aR 120), (4, aR 121), (5, aI k)] [aI t] (wW d i9 j8 r.2.1 r'.2) c9 s9 := fun c9 s9 hc => by
      refine segQ hLC (pc2 := 28) (N := 200) (LG_wid (nx d i9 j8 r.2.1 r'.2 [(5, aI (k + 6)), (7, aI z), (6, aI cd), (0, aR 1), (1, aR 2), (2, aR 71), (3, aR 120), (4, aR 121)] iq lcN_s) hc hr) ?_
      rw [eD, if_pos htc]
      by_cases cz : cd = 0
      · rw [if_pos cz, gd_t ⟨Int.le_refl _, show (0 : Int) < 1 by decide⟩, wWj0, hy cz, cmp_self, if_pos rfl, gd_t ⟨by omega, by omega⟩]
        exact cuQ_t
      · rw [if_neg cz, gd_t ⟨by omega, by omega⟩]
        exact cuQ_t
    have eC : ∀ (z : Int) (c9 s9 : Nat) (f : AL → AS → SW → Option Unit), segL L xs clN csL_law (cuC 1226 f cuN) 200 1223 [(6, aI cd), (0, aR 1), (1, aR 2), (2, aR 71), (3, aR 120), (4, aR 121), (5, aI k)] [aI z] (wW d i9 j8 r.2.1 r'.2, c9, s9) = f [(7, aI z), (6, aI cd), (0, aR 1), (1, aR 2), (2, aR 71), (3, aR 120), (4, aR 121), (5, aI k)] [aR 71] (wW d i9 j8 r.2.1 r'.2, c9, s9) := fun _ _ _ _ => rfl
    have lC : ∀ c9 s9 : Nat, c9 + mC 170 ≤ cells + 20 ∧ s9 + mS 170 ≤ slots + 100 → LG p l e s m b below meth c D cy 1223 [(6, aI cd), (0, aR 1), (1, aR 2), (2, aR 71), (3, aR 120), (4, aR 121), (5, aI k)] [aI z] (wW d i9 j8 r.2.1 r'.2) c9 s9 := fun c9 s9 hc => by
      refine segQ hLC (pc2 := 1226) (N := 200) (callV_lg hLC (n := 170) (a := 71) (as := []) (rest := []) (by decide +kernel) (rowsB_at rwL_law (pc := 1226) (r := (3, .invokevirtual 149, 170, 1, 12)) rfl).1 (by decide +kernel) rfl ⟨by decide, by show 71 ≤ 121; omega⟩ (by decide +kernel) (by decide +kernel) (by decide +kernel) hT ⟨by omega, by omega⟩ (lD _ _ hc)) ?_
      rw [eC]
      exact cuQ_t
    have eB : ∀ (c9 s9 : Nat) (f : AL → AS → SW → Option Unit), segL L xs clN csL_law (cuC 1220 f cuN) 200 1211 [(0, aR 1), (1, aR 2), (2, aR 71), (3, aR 120), (4, aR 121), (5, aI k)] [aI cd] (wW d i9 j8 r.2.1 h', c9, s9) = gd (R32 (k + 1)) (gd ((0 : Int) ≤ (k + 1) ∧ (k + 1) < lnL L 1) (f [(6, aI cd), (0, aR 1), (1, aR 2), (2, aR 71), (3, aR 120), (4, aR 121), (5, aI k)] [aI (xa xs k 1), aR 71] (wW d i9 j8 r.2.1 h', c9, s9))) := fun _ _ _ => rfl
    refine segQ hLC (pc2 := 1220) (N := 200) (callV_lg hLC (n := 215) (a := 71) (as := [aI (xa xs k 1)]) (rest := []) (by decide +kernel) (rowsB_at rwL_law (pc := 1220) (r := (3, .invokevirtual 191, 215, 2, 12)) rfl).1 (by decide +kernel) rfl ⟨by decide, by show 71 ≤ 121; omega⟩ (by decide +kernel) (by decide +kernel) (by decide +kernel) hN ⟨by omega, by omega⟩ (lC _ _ c0)) ?_
    show segL L xs clN csL_law _ 200 1211 [(0, aR 1), (1, aR 2), (2, aR 71), (3, aR 120), (4, aR 121), (5, aI k)] [aI cd] _ = some ()
    rw [eB, hl1, gd_t ⟨by omega, by omega⟩, gd_t ⟨by omega, by omega⟩]
    exact cuQ_t
  have eA : ∀ (f : AL → AS → SW → Option Unit), segL L xs clN csL_law (cuC 1208 f cuN) 200 1200 [(0, aR 1), (1, aR 2), (2, aR 71), (3, aR 120), (4, aR 121), (5, aI k)] [] (wW d i9 j9 h h', cells, slots) = gd (R32 (k + 1)) (gd ((0 : Int) ≤ (k + 1) ∧ (k + 1) < lnL L 1) (f [(0, aR 1), (1, aR 2), (2, aR 71), (3, aR 120), (4, aR 121), (5, aI k)] [aR 120, aI (xa xs k 1), aR 2] (wW d i9 j9 h h', cells, slots))) := fun _ => rfl
  have sA : segL L xs clN csL_law (cuC 1208 (cuQ [(0, aR 1), (1, aR 2), (2, aR 71), (3, aR 120), (4, aR 121), (5, aI k)] [aR 120, aI (xa xs k 1), aR 2] (wW d i9 j9 h h', cells, slots) ()) cuN) 200 1200 [(0, aR 1), (1, aR 2), (2, aR 71), (3, aR 120), (4, aR 121), (5, aI k)] [] (wW d i9 j9 h h', cells, slots) = some () := by
    rw [eA, hl1, gd_t ⟨by omega, by omega⟩, gd_t ⟨by omega, by omega⟩]
    exact cuQ_t
  have c0 : cells + mC 288 ≤ 601024 ∧ slots + mS 288 ≤ 7293034 := ⟨roomA (n := 20) (by decide +kernel) hr.1, roomA (n := 100) (by decide +kernel) hr.2⟩
  have call : ∀ {v : Option AV} {σ1 : SG}, MCT 288 hhL_savings [aR 2, aI (xa xs k 1), aR 120] (wW d i9 j9 h h') (.inl v) σ1 → LG p l e s m b below meth c D cy 1211 (lcE k) (v.toList ++ []) σ1 (cells + mC 288) (slots + mS 288) → LG p l e s m b below meth c D cy 1200 (lcE k) [] (wW d i9 j9 h h') cells slots := fun hct kk => segQ hLC (callH_lg hLC (n := 288) (as := [aR 2, aI (xa xs k 1), aR 120]) (rest := []) (by decide +kernel) (rowsB_at rwL_law (pc := 1208) (r := (3, .invokestatic 189, 288, 3, 0)) rfl).1 (by decide +kernel) hwL_savings rfl (by decide +kernel) hct c0 kk) sA
  obtain ⟨o, hu⟩ := r
  cases o with
  | inl y =>
    obtain ⟨q1, q2⟩ := hq
    exact call (mct_j (hL_savings_0 (by show 121 ≤ 121; omega) hM)) (mid 0 (up2 j9 120 0 y) q1 (fun _ => by rw [up2_same]; exact q2.symm))
  | inr ex =>
    obtain ⟨q1, q2⟩ := hq
    rcases (by omega : ex = 0 ∨ ex = 1 ∨ ex = 2 ∨ ex = 3 ∨ 4 ≤ ex) with z | z | z | z | z
    · subst z
      exact call (hL_savings_1 (by show 121 ≤ 121; omega) hM) (mid 1 j9 q2 (fun w => by cases w))
    · exact absurd (by rw [z]; rfl) q1
    · subst z
      exact call (hL_savings_2 (by show 121 ≤ 121; omega) hM) (mid 2 j9 q2 (fun w => by cases w))
    · exact absurd (by rw [z]; rfl) q1
    · refine absurd ?_ q1
      show cdX 1 0 2 0 ex = 0
      unfold cdX
      rw [if_neg (by omega), if_neg (by omega), if_neg (by omega), if_neg (by omega)]
theorem cs_putIn (hLC : LC p l s m b meth c D cy L xs) (k0 : 0 ≤ k) (k1 : k + 6 ≤ L) (hr : cells + 20 ≤ 601024 ∧ slots + 100 ≤ 7293034) (i : INV h h') (nx : NX p l e s m b below meth c D cy k cells slots) : LG p l e s m b below meth c D cy 1256 (lcE k) [] (wW d i9 j9 h h') cells slots := by
  have hL := hLC.2.2.2.2
  have hl1 : lnL L 1 = (L : Int) := rfl
  obtain ⟨r, er, r', er', hq, iq⟩ := op_putIn i (xa xs k 1)
  have hM := mct_c (mX11_putIn (gc_ok (d := d) (i9 := i9) (j9 := j9) (h' := h')) er)
  have mid : ∀ (cd : Int) (j8 : Nat → Int → Int), r'.2.1 71 10 = cd → (cd = 0 → j8 120 0 = r'.1) → LG p l e s m b below meth c D cy 1267 (lcE k) [aI cd] (wW d i9 j8 r.2.1 h') (cells + mC 289) (slots + mS 289) := fun cd j8 hcd hy => by
    have hN : MCT 217 [] [aR 71, aI (xa xs k 1)] (wW d i9 j8 r.2.1 h') (.inl (some (aI r'.1))) (wW d i9 j8 r.2.1 r'.2) := mX12_putIn gm_ok er'
    have hT : MCT 170 [] [aR 71] (wW d i9 j8 r.2.1 r'.2) (.inl (some (aI (r'.2.1 71 10)))) (wW d i9 j8 r.2.1 r'.2) := mX12_thrown gm_ok (sX12_thrown (h := r'.2))
    have c0 : cells + mC 289 + mC 217 + mC 170 ≤ cells + 20 ∧ slots + mS 289 + mS 217 + mS 170 ≤ slots + 100 := ⟨roomC (by decide +kernel), roomC (by decide +kernel)⟩
    generalize hz : r'.1 = z at hN hy
    generalize ht : r'.2.1 71 10 = t at hT
    have htc : t = cd := by rw [← ht]; exact hcd
    generalize cells + mC 289 = c1 at *
    generalize slots + mS 289 = s1 at *
    have eD : ∀ (t : Int) (c9 s9 : Nat) (f : AL → AS → SW → Option Unit), segL L xs clN csL_law (cuC 28 f cuN) 200 1285 [(7, aI z), (6, aI cd), (0, aR 1), (1, aR 2), (2, aR 71), (3, aR 120), (4, aR 121), (5, aI k)] [aI t] (wW d i9 j8 r.2.1 r'.2, c9, s9) = if t = cd then (if cd = 0 then gd ((0 : Int) ≤ 0 ∧ (0 : Int) < lnL L 120) (if cmpI ((wW d i9 j8 r.2.1 r'.2).2.2.2.1 120 0) z = 0 then gd (R32 (k + 6)) (f [(5, aI (k + 6)), (7, aI z), (6, aI cd), (0, aR 1), (1, aR 2), (2, aR 71), (3, aR 120), (4, aR 121)] [] (wW d i9 j8 r.2.1 r'.2, c9, s9)) else gd ((0 : Int) ≤ 0 ∧ (0 : Int) ≤ 1) (krL (some (aI 0)) (wW d i9 j8 r.2.1 r'.2, c9, s9))) else gd (R32 (k + 6)) (f [(5, aI (k + 6)), (7, aI z), (6, aI cd), (0, aR 1), (1, aR 2), (2, aR 71), (3, aR 120), (4, aR 121)] [] (wW d i9 j8 r.2.1 r'.2, c9, s9))) else gd ((0 : Int) ≤ 0 ∧ (0 : Int) ≤ 1) (krL (some (aI 0)) (wW d i9 j8 r.2.1 r'.2, c9, s9)) := fun _ _ _ _ => rfl
    have lD : ∀ c9 s9 : Nat, c9 ≤ cells + 20 ∧ s9 ≤ slots + 100 → LG p l e s m b below meth c D cy 1285 [(7, aI z), (6, aI cd), (0, aR 1), (1, aR 2), (2, aR 71), (3, aR 120), (4, aR 121), (5, aI k)] [aI t] (wW d i9 j8 r.2.1 r'.2) c9 s9 := fun c9 s9 hc => by
      refine segQ hLC (pc2 := 28) (N := 200) (LG_wid (nx d i9 j8 r.2.1 r'.2 [(5, aI (k + 6)), (7, aI z), (6, aI cd), (0, aR 1), (1, aR 2), (2, aR 71), (3, aR 120), (4, aR 121)] iq lcN_s) hc hr) ?_
      rw [eD, if_pos htc]
      by_cases cz : cd = 0
      · rw [if_pos cz, gd_t ⟨Int.le_refl _, show (0 : Int) < 1 by decide⟩, wWj0, hy cz, cmp_self, if_pos rfl, gd_t ⟨by omega, by omega⟩]
        exact cuQ_t
      · rw [if_neg cz, gd_t ⟨by omega, by omega⟩]
        exact cuQ_t
    have eC : ∀ (z : Int) (c9 s9 : Nat) (f : AL → AS → SW → Option Unit), segL L xs clN csL_law (cuC 1282 f cuN) 200 1279 [(6, aI cd), (0, aR 1), (1, aR 2), (2, aR 71), (3, aR 120), (4, aR 121), (5, aI k)] [aI z] (wW d i9 j8 r.2.1 r'.2, c9, s9) = f [(7, aI z), (6, aI cd), (0, aR 1), (1, aR 2), (2, aR 71), (3, aR 120), (4, aR 121), (5, aI k)] [aR 71] (wW d i9 j8 r.2.1 r'.2, c9, s9) := fun _ _ _ _ => rfl
    have lC : ∀ c9 s9 : Nat, c9 + mC 170 ≤ cells + 20 ∧ s9 + mS 170 ≤ slots + 100 → LG p l e s m b below meth c D cy 1279 [(6, aI cd), (0, aR 1), (1, aR 2), (2, aR 71), (3, aR 120), (4, aR 121), (5, aI k)] [aI z] (wW d i9 j8 r.2.1 r'.2) c9 s9 := fun c9 s9 hc => by
      refine segQ hLC (pc2 := 1282) (N := 200) (callV_lg hLC (n := 170) (a := 71) (as := []) (rest := []) (by decide +kernel) (rowsB_at rwL_law (pc := 1282) (r := (3, .invokevirtual 149, 170, 1, 12)) rfl).1 (by decide +kernel) rfl ⟨by decide, by show 71 ≤ 121; omega⟩ (by decide +kernel) (by decide +kernel) (by decide +kernel) hT ⟨by omega, by omega⟩ (lD _ _ hc)) ?_
      rw [eC]
      exact cuQ_t
    have eB : ∀ (c9 s9 : Nat) (f : AL → AS → SW → Option Unit), segL L xs clN csL_law (cuC 1276 f cuN) 200 1267 [(0, aR 1), (1, aR 2), (2, aR 71), (3, aR 120), (4, aR 121), (5, aI k)] [aI cd] (wW d i9 j8 r.2.1 h', c9, s9) = gd (R32 (k + 1)) (gd ((0 : Int) ≤ (k + 1) ∧ (k + 1) < lnL L 1) (f [(6, aI cd), (0, aR 1), (1, aR 2), (2, aR 71), (3, aR 120), (4, aR 121), (5, aI k)] [aI (xa xs k 1), aR 71] (wW d i9 j8 r.2.1 h', c9, s9))) := fun _ _ _ => rfl
    refine segQ hLC (pc2 := 1276) (N := 200) (callV_lg hLC (n := 217) (a := 71) (as := [aI (xa xs k 1)]) (rest := []) (by decide +kernel) (rowsB_at rwL_law (pc := 1276) (r := (3, .invokevirtual 194, 217, 2, 12)) rfl).1 (by decide +kernel) rfl ⟨by decide, by show 71 ≤ 121; omega⟩ (by decide +kernel) (by decide +kernel) (by decide +kernel) hN ⟨by omega, by omega⟩ (lC _ _ c0)) ?_
    show segL L xs clN csL_law _ 200 1267 [(0, aR 1), (1, aR 2), (2, aR 71), (3, aR 120), (4, aR 121), (5, aI k)] [aI cd] _ = some ()
    rw [eB, hl1, gd_t ⟨by omega, by omega⟩, gd_t ⟨by omega, by omega⟩]
    exact cuQ_t
  have eA : ∀ (f : AL → AS → SW → Option Unit), segL L xs clN csL_law (cuC 1264 f cuN) 200 1256 [(0, aR 1), (1, aR 2), (2, aR 71), (3, aR 120), (4, aR 121), (5, aI k)] [] (wW d i9 j9 h h', cells, slots) = gd (R32 (k + 1)) (gd ((0 : Int) ≤ (k + 1) ∧ (k + 1) < lnL L 1) (f [(0, aR 1), (1, aR 2), (2, aR 71), (3, aR 120), (4, aR 121), (5, aI k)] [aR 120, aI (xa xs k 1), aR 2] (wW d i9 j9 h h', cells, slots))) := fun _ => rfl
  have sA : segL L xs clN csL_law (cuC 1264 (cuQ [(0, aR 1), (1, aR 2), (2, aR 71), (3, aR 120), (4, aR 121), (5, aI k)] [aR 120, aI (xa xs k 1), aR 2] (wW d i9 j9 h h', cells, slots) ()) cuN) 200 1256 [(0, aR 1), (1, aR 2), (2, aR 71), (3, aR 120), (4, aR 121), (5, aI k)] [] (wW d i9 j9 h h', cells, slots) = some () := by
    rw [eA, hl1, gd_t ⟨by omega, by omega⟩, gd_t ⟨by omega, by omega⟩]
    exact cuQ_t
  have c0 : cells + mC 289 ≤ 601024 ∧ slots + mS 289 ≤ 7293034 := ⟨roomA (n := 20) (by decide +kernel) hr.1, roomA (n := 100) (by decide +kernel) hr.2⟩
  have call : ∀ {v : Option AV} {σ1 : SG}, MCT 289 hhL_putIn [aR 2, aI (xa xs k 1), aR 120] (wW d i9 j9 h h') (.inl v) σ1 → LG p l e s m b below meth c D cy 1267 (lcE k) (v.toList ++ []) σ1 (cells + mC 289) (slots + mS 289) → LG p l e s m b below meth c D cy 1256 (lcE k) [] (wW d i9 j9 h h') cells slots := fun hct kk => segQ hLC (callH_lg hLC (n := 289) (as := [aR 2, aI (xa xs k 1), aR 120]) (rest := []) (by decide +kernel) (rowsB_at rwL_law (pc := 1264) (r := (3, .invokestatic 192, 289, 3, 0)) rfl).1 (by decide +kernel) hwL_putIn rfl (by decide +kernel) hct c0 kk) sA
  obtain ⟨o, hu⟩ := r
  cases o with
  | inl y =>
    obtain ⟨q1, q2⟩ := hq
    exact call (mct_j (hL_putIn_0 (by show 121 ≤ 121; omega) hM)) (mid 0 (up2 j9 120 0 y) q1 (fun _ => by rw [up2_same]; exact q2.symm))
  | inr ex =>
    obtain ⟨q1, q2⟩ := hq
    rcases (by omega : ex = 0 ∨ ex = 1 ∨ ex = 2 ∨ ex = 3 ∨ 4 ≤ ex) with z | z | z | z | z
    · subst z
      exact call (hL_putIn_1 (by show 121 ≤ 121; omega) hM) (mid 1 j9 q2 (fun w => by cases w))
    · exact absurd (by rw [z]; rfl) q1
    · subst z
      exact call (hL_putIn_2 (by show 121 ≤ 121; omega) hM) (mid 2 j9 q2 (fun w => by cases w))
    · subst z
      exact call (hL_putIn_3 (by show 121 ≤ 121; omega) hM) (mid 3 j9 q2 (fun w => by cases w))
    · refine absurd ?_ q1
      show cdX 1 0 2 3 ex = 0
      unfold cdX
      rw [if_neg (by omega), if_neg (by omega), if_neg (by omega), if_neg (by omega)]
theorem cs_putInCost (hLC : LC p l s m b meth c D cy L xs) (k0 : 0 ≤ k) (k1 : k + 6 ≤ L) (hr : cells + 20 ≤ 601024 ∧ slots + 100 ≤ 7293034) (i : INV h h') (nx : NX p l e s m b below meth c D cy k cells slots) : LG p l e s m b below meth c D cy 1312 (lcE k) [] (wW d i9 j9 h h') cells slots := by
  have hL := hLC.2.2.2.2
  have hl1 : lnL L 1 = (L : Int) := rfl
  obtain ⟨r, er, r', er', hq, iq⟩ := op_putInCost i (xa xs k 1)
  have hM := mct_c (mX11_putInCost (gc_ok (d := d) (i9 := i9) (j9 := j9) (h' := h')) er)
  have mid : ∀ (cd : Int) (j8 : Nat → Int → Int), r'.2.1 71 10 = cd → (cd = 0 → j8 120 0 = r'.1) → LG p l e s m b below meth c D cy 1323 (lcE k) [aI cd] (wW d i9 j8 r.2.1 h') (cells + mC 290) (slots + mS 290) := fun cd j8 hcd hy => by
    have hN : MCT 218 [] [aR 71, aI (xa xs k 1)] (wW d i9 j8 r.2.1 h') (.inl (some (aI r'.1))) (wW d i9 j8 r.2.1 r'.2) := mX12_putInCost gm_ok er'
    have hT : MCT 170 [] [aR 71] (wW d i9 j8 r.2.1 r'.2) (.inl (some (aI (r'.2.1 71 10)))) (wW d i9 j8 r.2.1 r'.2) := mX12_thrown gm_ok (sX12_thrown (h := r'.2))
    have c0 : cells + mC 290 + mC 218 + mC 170 ≤ cells + 20 ∧ slots + mS 290 + mS 218 + mS 170 ≤ slots + 100 := ⟨roomC (by decide +kernel), roomC (by decide +kernel)⟩
    generalize hz : r'.1 = z at hN hy
    generalize ht : r'.2.1 71 10 = t at hT
    have htc : t = cd := by rw [← ht]; exact hcd
    generalize cells + mC 290 = c1 at *
    generalize slots + mS 290 = s1 at *
    have eD : ∀ (t : Int) (c9 s9 : Nat) (f : AL → AS → SW → Option Unit), segL L xs clN csL_law (cuC 28 f cuN) 200 1341 [(7, aI z), (6, aI cd), (0, aR 1), (1, aR 2), (2, aR 71), (3, aR 120), (4, aR 121), (5, aI k)] [aI t] (wW d i9 j8 r.2.1 r'.2, c9, s9) = if t = cd then (if cd = 0 then gd ((0 : Int) ≤ 0 ∧ (0 : Int) < lnL L 120) (if cmpI ((wW d i9 j8 r.2.1 r'.2).2.2.2.1 120 0) z = 0 then gd (R32 (k + 6)) (f [(5, aI (k + 6)), (7, aI z), (6, aI cd), (0, aR 1), (1, aR 2), (2, aR 71), (3, aR 120), (4, aR 121)] [] (wW d i9 j8 r.2.1 r'.2, c9, s9)) else gd ((0 : Int) ≤ 0 ∧ (0 : Int) ≤ 1) (krL (some (aI 0)) (wW d i9 j8 r.2.1 r'.2, c9, s9))) else gd (R32 (k + 6)) (f [(5, aI (k + 6)), (7, aI z), (6, aI cd), (0, aR 1), (1, aR 2), (2, aR 71), (3, aR 120), (4, aR 121)] [] (wW d i9 j8 r.2.1 r'.2, c9, s9))) else gd ((0 : Int) ≤ 0 ∧ (0 : Int) ≤ 1) (krL (some (aI 0)) (wW d i9 j8 r.2.1 r'.2, c9, s9)) := fun _ _ _ _ => rfl
    have lD : ∀ c9 s9 : Nat, c9 ≤ cells + 20 ∧ s9 ≤ slots + 100 → LG p l e s m b below meth c D cy 1341 [(7, aI z), (6, aI cd), (0, aR 1), (1, aR 2), (2, aR 71), (3, aR 120), (4, aR 121), (5, aI k)] [aI t] (wW d i9 j8 r.2.1 r'.2) c9 s9 := fun c9 s9 hc => by
      refine segQ hLC (pc2 := 28) (N := 200) (LG_wid (nx d i9 j8 r.2.1 r'.2 [(5, aI (k + 6)), (7, aI z), (6, aI cd), (0, aR 1), (1, aR 2), (2, aR 71), (3, aR 120), (4, aR 121)] iq lcN_s) hc hr) ?_
      rw [eD, if_pos htc]
      by_cases cz : cd = 0
      · rw [if_pos cz, gd_t ⟨Int.le_refl _, show (0 : Int) < 1 by decide⟩, wWj0, hy cz, cmp_self, if_pos rfl, gd_t ⟨by omega, by omega⟩]
        exact cuQ_t
      · rw [if_neg cz, gd_t ⟨by omega, by omega⟩]
        exact cuQ_t
    have eC : ∀ (z : Int) (c9 s9 : Nat) (f : AL → AS → SW → Option Unit), segL L xs clN csL_law (cuC 1338 f cuN) 200 1335 [(6, aI cd), (0, aR 1), (1, aR 2), (2, aR 71), (3, aR 120), (4, aR 121), (5, aI k)] [aI z] (wW d i9 j8 r.2.1 r'.2, c9, s9) = f [(7, aI z), (6, aI cd), (0, aR 1), (1, aR 2), (2, aR 71), (3, aR 120), (4, aR 121), (5, aI k)] [aR 71] (wW d i9 j8 r.2.1 r'.2, c9, s9) := fun _ _ _ _ => rfl
    have lC : ∀ c9 s9 : Nat, c9 + mC 170 ≤ cells + 20 ∧ s9 + mS 170 ≤ slots + 100 → LG p l e s m b below meth c D cy 1335 [(6, aI cd), (0, aR 1), (1, aR 2), (2, aR 71), (3, aR 120), (4, aR 121), (5, aI k)] [aI z] (wW d i9 j8 r.2.1 r'.2) c9 s9 := fun c9 s9 hc => by
      refine segQ hLC (pc2 := 1338) (N := 200) (callV_lg hLC (n := 170) (a := 71) (as := []) (rest := []) (by decide +kernel) (rowsB_at rwL_law (pc := 1338) (r := (3, .invokevirtual 149, 170, 1, 12)) rfl).1 (by decide +kernel) rfl ⟨by decide, by show 71 ≤ 121; omega⟩ (by decide +kernel) (by decide +kernel) (by decide +kernel) hT ⟨by omega, by omega⟩ (lD _ _ hc)) ?_
      rw [eC]
      exact cuQ_t
    have eB : ∀ (c9 s9 : Nat) (f : AL → AS → SW → Option Unit), segL L xs clN csL_law (cuC 1332 f cuN) 200 1323 [(0, aR 1), (1, aR 2), (2, aR 71), (3, aR 120), (4, aR 121), (5, aI k)] [aI cd] (wW d i9 j8 r.2.1 h', c9, s9) = gd (R32 (k + 1)) (gd ((0 : Int) ≤ (k + 1) ∧ (k + 1) < lnL L 1) (f [(6, aI cd), (0, aR 1), (1, aR 2), (2, aR 71), (3, aR 120), (4, aR 121), (5, aI k)] [aI (xa xs k 1), aR 71] (wW d i9 j8 r.2.1 h', c9, s9))) := fun _ _ _ => rfl
    refine segQ hLC (pc2 := 1332) (N := 200) (callV_lg hLC (n := 218) (a := 71) (as := [aI (xa xs k 1)]) (rest := []) (by decide +kernel) (rowsB_at rwL_law (pc := 1332) (r := (3, .invokevirtual 197, 218, 2, 12)) rfl).1 (by decide +kernel) rfl ⟨by decide, by show 71 ≤ 121; omega⟩ (by decide +kernel) (by decide +kernel) (by decide +kernel) hN ⟨by omega, by omega⟩ (lC _ _ c0)) ?_
    show segL L xs clN csL_law _ 200 1323 [(0, aR 1), (1, aR 2), (2, aR 71), (3, aR 120), (4, aR 121), (5, aI k)] [aI cd] _ = some ()
    rw [eB, hl1, gd_t ⟨by omega, by omega⟩, gd_t ⟨by omega, by omega⟩]
    exact cuQ_t
  have eA : ∀ (f : AL → AS → SW → Option Unit), segL L xs clN csL_law (cuC 1320 f cuN) 200 1312 [(0, aR 1), (1, aR 2), (2, aR 71), (3, aR 120), (4, aR 121), (5, aI k)] [] (wW d i9 j9 h h', cells, slots) = gd (R32 (k + 1)) (gd ((0 : Int) ≤ (k + 1) ∧ (k + 1) < lnL L 1) (f [(0, aR 1), (1, aR 2), (2, aR 71), (3, aR 120), (4, aR 121), (5, aI k)] [aR 120, aI (xa xs k 1), aR 2] (wW d i9 j9 h h', cells, slots))) := fun _ => rfl
  have sA : segL L xs clN csL_law (cuC 1320 (cuQ [(0, aR 1), (1, aR 2), (2, aR 71), (3, aR 120), (4, aR 121), (5, aI k)] [aR 120, aI (xa xs k 1), aR 2] (wW d i9 j9 h h', cells, slots) ()) cuN) 200 1312 [(0, aR 1), (1, aR 2), (2, aR 71), (3, aR 120), (4, aR 121), (5, aI k)] [] (wW d i9 j9 h h', cells, slots) = some () := by
    rw [eA, hl1, gd_t ⟨by omega, by omega⟩, gd_t ⟨by omega, by omega⟩]
    exact cuQ_t
  have c0 : cells + mC 290 ≤ 601024 ∧ slots + mS 290 ≤ 7293034 := ⟨roomA (n := 20) (by decide +kernel) hr.1, roomA (n := 100) (by decide +kernel) hr.2⟩
  have call : ∀ {v : Option AV} {σ1 : SG}, MCT 290 hhL_putInCost [aR 2, aI (xa xs k 1), aR 120] (wW d i9 j9 h h') (.inl v) σ1 → LG p l e s m b below meth c D cy 1323 (lcE k) (v.toList ++ []) σ1 (cells + mC 290) (slots + mS 290) → LG p l e s m b below meth c D cy 1312 (lcE k) [] (wW d i9 j9 h h') cells slots := fun hct kk => segQ hLC (callH_lg hLC (n := 290) (as := [aR 2, aI (xa xs k 1), aR 120]) (rest := []) (by decide +kernel) (rowsB_at rwL_law (pc := 1320) (r := (3, .invokestatic 195, 290, 3, 0)) rfl).1 (by decide +kernel) hwL_putInCost rfl (by decide +kernel) hct c0 kk) sA
  obtain ⟨o, hu⟩ := r
  cases o with
  | inl y =>
    obtain ⟨q1, q2⟩ := hq
    exact call (mct_j (hL_putInCost_0 (by show 121 ≤ 121; omega) hM)) (mid 0 (up2 j9 120 0 y) q1 (fun _ => by rw [up2_same]; exact q2.symm))
  | inr ex =>
    obtain ⟨q1, q2⟩ := hq
    rcases (by omega : ex = 0 ∨ ex = 1 ∨ ex = 2 ∨ ex = 3 ∨ 4 ≤ ex) with z | z | z | z | z
    · subst z
      exact call (hL_putInCost_1 (by show 121 ≤ 121; omega) hM) (mid 1 j9 q2 (fun w => by cases w))
    · exact absurd (by rw [z]; rfl) q1
    · subst z
      exact call (hL_putInCost_2 (by show 121 ≤ 121; omega) hM) (mid 2 j9 q2 (fun w => by cases w))
    · exact absurd (by rw [z]; rfl) q1
    · refine absurd ?_ q1
      show cdX 1 0 2 0 ex = 0
      unfold cdX
      rw [if_neg (by omega), if_neg (by omega), if_neg (by omega), if_neg (by omega)]
theorem cs_better (hLC : LC p l s m b meth c D cy L xs) (k0 : 0 ≤ k) (k1 : k + 6 ≤ L) (hr : cells + 20 ≤ 601024 ∧ slots + 100 ≤ 7293034) (i : INV h h') (nx : NX p l e s m b below meth c D cy k cells slots) : LG p l e s m b below meth c D cy 1368 (lcE k) [] (wW d i9 j9 h h') cells slots := by
  have hL := hLC.2.2.2.2
  have hl1 : lnL L 1 = (L : Int) := rfl
  obtain ⟨r, er, r', er', hq, iq⟩ := op_better i (xa xs k 1)
  have hM := mct_c (mX11_better (gc_ok (d := d) (i9 := i9) (j9 := j9) (h' := h')) er)
  have mid : ∀ (cd : Int) (j8 : Nat → Int → Int), r'.2.1 71 10 = cd → (cd = 0 → j8 120 0 = r'.1) → LG p l e s m b below meth c D cy 1379 (lcE k) [aI cd] (wW d i9 j8 r.2.1 h') (cells + mC 291) (slots + mS 291) := fun cd j8 hcd hy => by
    have hN : MCT 220 [] [aR 71, aI (xa xs k 1)] (wW d i9 j8 r.2.1 h') (.inl (some (aI r'.1))) (wW d i9 j8 r.2.1 r'.2) := mX12_better gm_ok er'
    have hT : MCT 170 [] [aR 71] (wW d i9 j8 r.2.1 r'.2) (.inl (some (aI (r'.2.1 71 10)))) (wW d i9 j8 r.2.1 r'.2) := mX12_thrown gm_ok (sX12_thrown (h := r'.2))
    have c0 : cells + mC 291 + mC 220 + mC 170 ≤ cells + 20 ∧ slots + mS 291 + mS 220 + mS 170 ≤ slots + 100 := ⟨roomC (by decide +kernel), roomC (by decide +kernel)⟩
    generalize hz : r'.1 = z at hN hy
    generalize ht : r'.2.1 71 10 = t at hT
    have htc : t = cd := by rw [← ht]; exact hcd
    generalize cells + mC 291 = c1 at *
    generalize slots + mS 291 = s1 at *
    have eD : ∀ (t : Int) (c9 s9 : Nat) (f : AL → AS → SW → Option Unit), segL L xs clN csL_law (cuC 28 f cuN) 200 1397 [(7, aI z), (6, aI cd), (0, aR 1), (1, aR 2), (2, aR 71), (3, aR 120), (4, aR 121), (5, aI k)] [aI t] (wW d i9 j8 r.2.1 r'.2, c9, s9) = if t = cd then (if cd = 0 then gd ((0 : Int) ≤ 0 ∧ (0 : Int) < lnL L 120) (if cmpI ((wW d i9 j8 r.2.1 r'.2).2.2.2.1 120 0) z = 0 then gd (R32 (k + 6)) (f [(5, aI (k + 6)), (7, aI z), (6, aI cd), (0, aR 1), (1, aR 2), (2, aR 71), (3, aR 120), (4, aR 121)] [] (wW d i9 j8 r.2.1 r'.2, c9, s9)) else gd ((0 : Int) ≤ 0 ∧ (0 : Int) ≤ 1) (krL (some (aI 0)) (wW d i9 j8 r.2.1 r'.2, c9, s9))) else gd (R32 (k + 6)) (f [(5, aI (k + 6)), (7, aI z), (6, aI cd), (0, aR 1), (1, aR 2), (2, aR 71), (3, aR 120), (4, aR 121)] [] (wW d i9 j8 r.2.1 r'.2, c9, s9))) else gd ((0 : Int) ≤ 0 ∧ (0 : Int) ≤ 1) (krL (some (aI 0)) (wW d i9 j8 r.2.1 r'.2, c9, s9)) := fun _ _ _ _ => rfl
    have lD : ∀ c9 s9 : Nat, c9 ≤ cells + 20 ∧ s9 ≤ slots + 100 → LG p l e s m b below meth c D cy 1397 [(7, aI z), (6, aI cd), (0, aR 1), (1, aR 2), (2, aR 71), (3, aR 120), (4, aR 121), (5, aI k)] [aI t] (wW d i9 j8 r.2.1 r'.2) c9 s9 := fun c9 s9 hc => by
      refine segQ hLC (pc2 := 28) (N := 200) (LG_wid (nx d i9 j8 r.2.1 r'.2 [(5, aI (k + 6)), (7, aI z), (6, aI cd), (0, aR 1), (1, aR 2), (2, aR 71), (3, aR 120), (4, aR 121)] iq lcN_s) hc hr) ?_
      rw [eD, if_pos htc]
      by_cases cz : cd = 0
      · rw [if_pos cz, gd_t ⟨Int.le_refl _, show (0 : Int) < 1 by decide⟩, wWj0, hy cz, cmp_self, if_pos rfl, gd_t ⟨by omega, by omega⟩]
        exact cuQ_t
      · rw [if_neg cz, gd_t ⟨by omega, by omega⟩]
        exact cuQ_t
    have eC : ∀ (z : Int) (c9 s9 : Nat) (f : AL → AS → SW → Option Unit), segL L xs clN csL_law (cuC 1394 f cuN) 200 1391 [(6, aI cd), (0, aR 1), (1, aR 2), (2, aR 71), (3, aR 120), (4, aR 121), (5, aI k)] [aI z] (wW d i9 j8 r.2.1 r'.2, c9, s9) = f [(7, aI z), (6, aI cd), (0, aR 1), (1, aR 2), (2, aR 71), (3, aR 120), (4, aR 121), (5, aI k)] [aR 71] (wW d i9 j8 r.2.1 r'.2, c9, s9) := fun _ _ _ _ => rfl
    have lC : ∀ c9 s9 : Nat, c9 + mC 170 ≤ cells + 20 ∧ s9 + mS 170 ≤ slots + 100 → LG p l e s m b below meth c D cy 1391 [(6, aI cd), (0, aR 1), (1, aR 2), (2, aR 71), (3, aR 120), (4, aR 121), (5, aI k)] [aI z] (wW d i9 j8 r.2.1 r'.2) c9 s9 := fun c9 s9 hc => by
      refine segQ hLC (pc2 := 1394) (N := 200) (callV_lg hLC (n := 170) (a := 71) (as := []) (rest := []) (by decide +kernel) (rowsB_at rwL_law (pc := 1394) (r := (3, .invokevirtual 149, 170, 1, 12)) rfl).1 (by decide +kernel) rfl ⟨by decide, by show 71 ≤ 121; omega⟩ (by decide +kernel) (by decide +kernel) (by decide +kernel) hT ⟨by omega, by omega⟩ (lD _ _ hc)) ?_
      rw [eC]
      exact cuQ_t
    have eB : ∀ (c9 s9 : Nat) (f : AL → AS → SW → Option Unit), segL L xs clN csL_law (cuC 1388 f cuN) 200 1379 [(0, aR 1), (1, aR 2), (2, aR 71), (3, aR 120), (4, aR 121), (5, aI k)] [aI cd] (wW d i9 j8 r.2.1 h', c9, s9) = gd (R32 (k + 1)) (gd ((0 : Int) ≤ (k + 1) ∧ (k + 1) < lnL L 1) (f [(6, aI cd), (0, aR 1), (1, aR 2), (2, aR 71), (3, aR 120), (4, aR 121), (5, aI k)] [aI (xa xs k 1), aR 71] (wW d i9 j8 r.2.1 h', c9, s9))) := fun _ _ _ => rfl
    refine segQ hLC (pc2 := 1388) (N := 200) (callV_lg hLC (n := 220) (a := 71) (as := [aI (xa xs k 1)]) (rest := []) (by decide +kernel) (rowsB_at rwL_law (pc := 1388) (r := (3, .invokevirtual 200, 220, 2, 12)) rfl).1 (by decide +kernel) rfl ⟨by decide, by show 71 ≤ 121; omega⟩ (by decide +kernel) (by decide +kernel) (by decide +kernel) hN ⟨by omega, by omega⟩ (lC _ _ c0)) ?_
    show segL L xs clN csL_law _ 200 1379 [(0, aR 1), (1, aR 2), (2, aR 71), (3, aR 120), (4, aR 121), (5, aI k)] [aI cd] _ = some ()
    rw [eB, hl1, gd_t ⟨by omega, by omega⟩, gd_t ⟨by omega, by omega⟩]
    exact cuQ_t
  have eA : ∀ (f : AL → AS → SW → Option Unit), segL L xs clN csL_law (cuC 1376 f cuN) 200 1368 [(0, aR 1), (1, aR 2), (2, aR 71), (3, aR 120), (4, aR 121), (5, aI k)] [] (wW d i9 j9 h h', cells, slots) = gd (R32 (k + 1)) (gd ((0 : Int) ≤ (k + 1) ∧ (k + 1) < lnL L 1) (f [(0, aR 1), (1, aR 2), (2, aR 71), (3, aR 120), (4, aR 121), (5, aI k)] [aR 120, aI (xa xs k 1), aR 2] (wW d i9 j9 h h', cells, slots))) := fun _ => rfl
  have sA : segL L xs clN csL_law (cuC 1376 (cuQ [(0, aR 1), (1, aR 2), (2, aR 71), (3, aR 120), (4, aR 121), (5, aI k)] [aR 120, aI (xa xs k 1), aR 2] (wW d i9 j9 h h', cells, slots) ()) cuN) 200 1368 [(0, aR 1), (1, aR 2), (2, aR 71), (3, aR 120), (4, aR 121), (5, aI k)] [] (wW d i9 j9 h h', cells, slots) = some () := by
    rw [eA, hl1, gd_t ⟨by omega, by omega⟩, gd_t ⟨by omega, by omega⟩]
    exact cuQ_t
  have c0 : cells + mC 291 ≤ 601024 ∧ slots + mS 291 ≤ 7293034 := ⟨roomA (n := 20) (by decide +kernel) hr.1, roomA (n := 100) (by decide +kernel) hr.2⟩
  have call : ∀ {v : Option AV} {σ1 : SG}, MCT 291 hhL_better [aR 2, aI (xa xs k 1), aR 120] (wW d i9 j9 h h') (.inl v) σ1 → LG p l e s m b below meth c D cy 1379 (lcE k) (v.toList ++ []) σ1 (cells + mC 291) (slots + mS 291) → LG p l e s m b below meth c D cy 1368 (lcE k) [] (wW d i9 j9 h h') cells slots := fun hct kk => segQ hLC (callH_lg hLC (n := 291) (as := [aR 2, aI (xa xs k 1), aR 120]) (rest := []) (by decide +kernel) (rowsB_at rwL_law (pc := 1376) (r := (3, .invokestatic 198, 291, 3, 0)) rfl).1 (by decide +kernel) hwL_better rfl (by decide +kernel) hct c0 kk) sA
  obtain ⟨o, hu⟩ := r
  cases o with
  | inl y =>
    obtain ⟨q1, q2⟩ := hq
    exact call (mct_j (hL_better_0 (by show 121 ≤ 121; omega) hM)) (mid 0 (up2 j9 120 0 y) q1 (fun _ => by rw [up2_same]; exact q2.symm))
  | inr ex =>
    obtain ⟨q1, q2⟩ := hq
    rcases (by omega : ex = 0 ∨ ex = 1 ∨ ex = 2 ∨ ex = 3 ∨ 4 ≤ ex) with z | z | z | z | z
    · subst z
      exact call (hL_better_1 (by show 121 ≤ 121; omega) hM) (mid 1 j9 q2 (fun w => by cases w))
    · exact absurd (by rw [z]; rfl) q1
    · exact absurd (by rw [z]; rfl) q1
    · exact absurd (by rw [z]; rfl) q1
    · refine absurd ?_ q1
      show cdX 1 0 0 0 ex = 0
      unfold cdX
      rw [if_neg (by omega), if_neg (by omega), if_neg (by omega), if_neg (by omega)]
theorem cs_exact (hLC : LC p l s m b meth c D cy L xs) (k0 : 0 ≤ k) (k1 : k + 6 ≤ L) (hr : cells + 20 ≤ 601024 ∧ slots + 100 ≤ 7293034) (i : INV h h') (nx : NX p l e s m b below meth c D cy k cells slots) : LG p l e s m b below meth c D cy 1424 (lcE k) [] (wW d i9 j9 h h') cells slots := by
  have hL := hLC.2.2.2.2
  have hl1 : lnL L 1 = (L : Int) := rfl
  obtain ⟨r, er, r', er', hq, iq⟩ := op_exact i (xa xs k 1)
  have hM := mct_c (mX11_exact (gc_ok (d := d) (i9 := i9) (j9 := j9) (h' := h')) er)
  have mid : ∀ (cd : Int) (j8 : Nat → Int → Int), r'.2.1 71 10 = cd → (cd = 0 → j8 120 0 = r'.1) → LG p l e s m b below meth c D cy 1435 (lcE k) [aI cd] (wW d i9 j8 r.2.1 h') (cells + mC 292) (slots + mS 292) := fun cd j8 hcd hy => by
    have hN : MCT 223 [] [aR 71, aI (xa xs k 1)] (wW d i9 j8 r.2.1 h') (.inl (some (aI r'.1))) (wW d i9 j8 r.2.1 r'.2) := mX12_exact gm_ok er'
    have hT : MCT 170 [] [aR 71] (wW d i9 j8 r.2.1 r'.2) (.inl (some (aI (r'.2.1 71 10)))) (wW d i9 j8 r.2.1 r'.2) := mX12_thrown gm_ok (sX12_thrown (h := r'.2))
    have c0 : cells + mC 292 + mC 223 + mC 170 ≤ cells + 20 ∧ slots + mS 292 + mS 223 + mS 170 ≤ slots + 100 := ⟨roomC (by decide +kernel), roomC (by decide +kernel)⟩
    generalize hz : r'.1 = z at hN hy
    generalize ht : r'.2.1 71 10 = t at hT
    have htc : t = cd := by rw [← ht]; exact hcd
    generalize cells + mC 292 = c1 at *
    generalize slots + mS 292 = s1 at *
    have eD : ∀ (t : Int) (c9 s9 : Nat) (f : AL → AS → SW → Option Unit), segL L xs clN csL_law (cuC 28 f cuN) 200 1453 [(7, aI z), (6, aI cd), (0, aR 1), (1, aR 2), (2, aR 71), (3, aR 120), (4, aR 121), (5, aI k)] [aI t] (wW d i9 j8 r.2.1 r'.2, c9, s9) = if t = cd then (if cd = 0 then gd ((0 : Int) ≤ 0 ∧ (0 : Int) < lnL L 120) (if cmpI ((wW d i9 j8 r.2.1 r'.2).2.2.2.1 120 0) z = 0 then gd (R32 (k + 6)) (f [(5, aI (k + 6)), (7, aI z), (6, aI cd), (0, aR 1), (1, aR 2), (2, aR 71), (3, aR 120), (4, aR 121)] [] (wW d i9 j8 r.2.1 r'.2, c9, s9)) else gd ((0 : Int) ≤ 0 ∧ (0 : Int) ≤ 1) (krL (some (aI 0)) (wW d i9 j8 r.2.1 r'.2, c9, s9))) else gd (R32 (k + 6)) (f [(5, aI (k + 6)), (7, aI z), (6, aI cd), (0, aR 1), (1, aR 2), (2, aR 71), (3, aR 120), (4, aR 121)] [] (wW d i9 j8 r.2.1 r'.2, c9, s9))) else gd ((0 : Int) ≤ 0 ∧ (0 : Int) ≤ 1) (krL (some (aI 0)) (wW d i9 j8 r.2.1 r'.2, c9, s9)) := fun _ _ _ _ => rfl
    have lD : ∀ c9 s9 : Nat, c9 ≤ cells + 20 ∧ s9 ≤ slots + 100 → LG p l e s m b below meth c D cy 1453 [(7, aI z), (6, aI cd), (0, aR 1), (1, aR 2), (2, aR 71), (3, aR 120), (4, aR 121), (5, aI k)] [aI t] (wW d i9 j8 r.2.1 r'.2) c9 s9 := fun c9 s9 hc => by
      refine segQ hLC (pc2 := 28) (N := 200) (LG_wid (nx d i9 j8 r.2.1 r'.2 [(5, aI (k + 6)), (7, aI z), (6, aI cd), (0, aR 1), (1, aR 2), (2, aR 71), (3, aR 120), (4, aR 121)] iq lcN_s) hc hr) ?_
      rw [eD, if_pos htc]
      by_cases cz : cd = 0
      · rw [if_pos cz, gd_t ⟨Int.le_refl _, show (0 : Int) < 1 by decide⟩, wWj0, hy cz, cmp_self, if_pos rfl, gd_t ⟨by omega, by omega⟩]
        exact cuQ_t
      · rw [if_neg cz, gd_t ⟨by omega, by omega⟩]
        exact cuQ_t
    have eC : ∀ (z : Int) (c9 s9 : Nat) (f : AL → AS → SW → Option Unit), segL L xs clN csL_law (cuC 1450 f cuN) 200 1447 [(6, aI cd), (0, aR 1), (1, aR 2), (2, aR 71), (3, aR 120), (4, aR 121), (5, aI k)] [aI z] (wW d i9 j8 r.2.1 r'.2, c9, s9) = f [(7, aI z), (6, aI cd), (0, aR 1), (1, aR 2), (2, aR 71), (3, aR 120), (4, aR 121), (5, aI k)] [aR 71] (wW d i9 j8 r.2.1 r'.2, c9, s9) := fun _ _ _ _ => rfl
    have lC : ∀ c9 s9 : Nat, c9 + mC 170 ≤ cells + 20 ∧ s9 + mS 170 ≤ slots + 100 → LG p l e s m b below meth c D cy 1447 [(6, aI cd), (0, aR 1), (1, aR 2), (2, aR 71), (3, aR 120), (4, aR 121), (5, aI k)] [aI z] (wW d i9 j8 r.2.1 r'.2) c9 s9 := fun c9 s9 hc => by
      refine segQ hLC (pc2 := 1450) (N := 200) (callV_lg hLC (n := 170) (a := 71) (as := []) (rest := []) (by decide +kernel) (rowsB_at rwL_law (pc := 1450) (r := (3, .invokevirtual 149, 170, 1, 12)) rfl).1 (by decide +kernel) rfl ⟨by decide, by show 71 ≤ 121; omega⟩ (by decide +kernel) (by decide +kernel) (by decide +kernel) hT ⟨by omega, by omega⟩ (lD _ _ hc)) ?_
      rw [eC]
      exact cuQ_t
    have eB : ∀ (c9 s9 : Nat) (f : AL → AS → SW → Option Unit), segL L xs clN csL_law (cuC 1444 f cuN) 200 1435 [(0, aR 1), (1, aR 2), (2, aR 71), (3, aR 120), (4, aR 121), (5, aI k)] [aI cd] (wW d i9 j8 r.2.1 h', c9, s9) = gd (R32 (k + 1)) (gd ((0 : Int) ≤ (k + 1) ∧ (k + 1) < lnL L 1) (f [(6, aI cd), (0, aR 1), (1, aR 2), (2, aR 71), (3, aR 120), (4, aR 121), (5, aI k)] [aI (xa xs k 1), aR 71] (wW d i9 j8 r.2.1 h', c9, s9))) := fun _ _ _ => rfl
    refine segQ hLC (pc2 := 1444) (N := 200) (callV_lg hLC (n := 223) (a := 71) (as := [aI (xa xs k 1)]) (rest := []) (by decide +kernel) (rowsB_at rwL_law (pc := 1444) (r := (3, .invokevirtual 203, 223, 2, 12)) rfl).1 (by decide +kernel) rfl ⟨by decide, by show 71 ≤ 121; omega⟩ (by decide +kernel) (by decide +kernel) (by decide +kernel) hN ⟨by omega, by omega⟩ (lC _ _ c0)) ?_
    show segL L xs clN csL_law _ 200 1435 [(0, aR 1), (1, aR 2), (2, aR 71), (3, aR 120), (4, aR 121), (5, aI k)] [aI cd] _ = some ()
    rw [eB, hl1, gd_t ⟨by omega, by omega⟩, gd_t ⟨by omega, by omega⟩]
    exact cuQ_t
  have eA : ∀ (f : AL → AS → SW → Option Unit), segL L xs clN csL_law (cuC 1432 f cuN) 200 1424 [(0, aR 1), (1, aR 2), (2, aR 71), (3, aR 120), (4, aR 121), (5, aI k)] [] (wW d i9 j9 h h', cells, slots) = gd (R32 (k + 1)) (gd ((0 : Int) ≤ (k + 1) ∧ (k + 1) < lnL L 1) (f [(0, aR 1), (1, aR 2), (2, aR 71), (3, aR 120), (4, aR 121), (5, aI k)] [aR 120, aI (xa xs k 1), aR 2] (wW d i9 j9 h h', cells, slots))) := fun _ => rfl
  have sA : segL L xs clN csL_law (cuC 1432 (cuQ [(0, aR 1), (1, aR 2), (2, aR 71), (3, aR 120), (4, aR 121), (5, aI k)] [aR 120, aI (xa xs k 1), aR 2] (wW d i9 j9 h h', cells, slots) ()) cuN) 200 1424 [(0, aR 1), (1, aR 2), (2, aR 71), (3, aR 120), (4, aR 121), (5, aI k)] [] (wW d i9 j9 h h', cells, slots) = some () := by
    rw [eA, hl1, gd_t ⟨by omega, by omega⟩, gd_t ⟨by omega, by omega⟩]
    exact cuQ_t
  have c0 : cells + mC 292 ≤ 601024 ∧ slots + mS 292 ≤ 7293034 := ⟨roomA (n := 20) (by decide +kernel) hr.1, roomA (n := 100) (by decide +kernel) hr.2⟩
  have call : ∀ {v : Option AV} {σ1 : SG}, MCT 292 hhL_exact [aR 2, aI (xa xs k 1), aR 120] (wW d i9 j9 h h') (.inl v) σ1 → LG p l e s m b below meth c D cy 1435 (lcE k) (v.toList ++ []) σ1 (cells + mC 292) (slots + mS 292) → LG p l e s m b below meth c D cy 1424 (lcE k) [] (wW d i9 j9 h h') cells slots := fun hct kk => segQ hLC (callH_lg hLC (n := 292) (as := [aR 2, aI (xa xs k 1), aR 120]) (rest := []) (by decide +kernel) (rowsB_at rwL_law (pc := 1432) (r := (3, .invokestatic 201, 292, 3, 0)) rfl).1 (by decide +kernel) hwL_exact rfl (by decide +kernel) hct c0 kk) sA
  obtain ⟨o, hu⟩ := r
  cases o with
  | inl y =>
    obtain ⟨q1, q2⟩ := hq
    exact call (mct_j (hL_exact_0 (by show 121 ≤ 121; omega) hM)) (mid 0 (up2 j9 120 0 y) q1 (fun _ => by rw [up2_same]; exact q2.symm))
  | inr ex =>
    obtain ⟨q1, q2⟩ := hq
    rcases (by omega : ex = 0 ∨ ex = 1 ∨ ex = 2 ∨ ex = 3 ∨ 4 ≤ ex) with z | z | z | z | z
    · subst z
      exact call (hL_exact_1 (by show 121 ≤ 121; omega) hM) (mid 1 j9 q2 (fun w => by cases w))
    · exact absurd (by rw [z]; rfl) q1
    · exact absurd (by rw [z]; rfl) q1
    · exact absurd (by rw [z]; rfl) q1
    · refine absurd ?_ q1
      show cdX 1 0 0 0 ex = 0
      unfold cdX
      rw [if_neg (by omega), if_neg (by omega), if_neg (by omega), if_neg (by omega)]
theorem cs_roundAt (hLC : LC p l s m b meth c D cy L xs) (k0 : 0 ≤ k) (k1 : k + 6 ≤ L) (hr : cells + 20 ≤ 601024 ∧ slots + 100 ≤ 7293034) (i : INV h h') (nx : NX p l e s m b below meth c D cy k cells slots) : LG p l e s m b below meth c D cy 1480 (lcE k) [] (wW d i9 j9 h h') cells slots := by
  have hL := hLC.2.2.2.2
  have hl1 : lnL L 1 = (L : Int) := rfl
  obtain ⟨r, er, r', er', hq, iq⟩ := op_roundAt i (xa xs k 1) (xa xs k 2)
  have hM := mct_c (mX11_roundAt (gc_ok (d := d) (i9 := i9) (j9 := j9) (h' := h')) er)
  have mid : ∀ (cd : Int) (j8 : Nat → Int → Int), r'.2.1 71 10 = cd → (cd = 0 → j8 120 0 = r'.1) → LG p l e s m b below meth c D cy 1497 (lcE k) [aI cd] (wW d i9 j8 r.2.1 h') (cells + mC 293) (slots + mS 293) := fun cd j8 hcd hy => by
    have hN : MCT 224 [] [aR 71, aI (xa xs k 1), aI (xa xs k 2)] (wW d i9 j8 r.2.1 h') (.inl (some (aI r'.1))) (wW d i9 j8 r.2.1 r'.2) := mX12_roundAt gm_ok er'
    have hT : MCT 170 [] [aR 71] (wW d i9 j8 r.2.1 r'.2) (.inl (some (aI (r'.2.1 71 10)))) (wW d i9 j8 r.2.1 r'.2) := mX12_thrown gm_ok (sX12_thrown (h := r'.2))
    have c0 : cells + mC 293 + mC 224 + mC 170 ≤ cells + 20 ∧ slots + mS 293 + mS 224 + mS 170 ≤ slots + 100 := ⟨roomC (by decide +kernel), roomC (by decide +kernel)⟩
    generalize hz : r'.1 = z at hN hy
    generalize ht : r'.2.1 71 10 = t at hT
    have htc : t = cd := by rw [← ht]; exact hcd
    generalize cells + mC 293 = c1 at *
    generalize slots + mS 293 = s1 at *
    have eD : ∀ (t : Int) (c9 s9 : Nat) (f : AL → AS → SW → Option Unit), segL L xs clN csL_law (cuC 28 f cuN) 200 1521 [(7, aI z), (6, aI cd), (0, aR 1), (1, aR 2), (2, aR 71), (3, aR 120), (4, aR 121), (5, aI k)] [aI t] (wW d i9 j8 r.2.1 r'.2, c9, s9) = if t = cd then (if cd = 0 then gd ((0 : Int) ≤ 0 ∧ (0 : Int) < lnL L 120) (if cmpI ((wW d i9 j8 r.2.1 r'.2).2.2.2.1 120 0) z = 0 then gd (R32 (k + 6)) (f [(5, aI (k + 6)), (7, aI z), (6, aI cd), (0, aR 1), (1, aR 2), (2, aR 71), (3, aR 120), (4, aR 121)] [] (wW d i9 j8 r.2.1 r'.2, c9, s9)) else gd ((0 : Int) ≤ 0 ∧ (0 : Int) ≤ 1) (krL (some (aI 0)) (wW d i9 j8 r.2.1 r'.2, c9, s9))) else gd (R32 (k + 6)) (f [(5, aI (k + 6)), (7, aI z), (6, aI cd), (0, aR 1), (1, aR 2), (2, aR 71), (3, aR 120), (4, aR 121)] [] (wW d i9 j8 r.2.1 r'.2, c9, s9))) else gd ((0 : Int) ≤ 0 ∧ (0 : Int) ≤ 1) (krL (some (aI 0)) (wW d i9 j8 r.2.1 r'.2, c9, s9)) := fun _ _ _ _ => rfl
    have lD : ∀ c9 s9 : Nat, c9 ≤ cells + 20 ∧ s9 ≤ slots + 100 → LG p l e s m b below meth c D cy 1521 [(7, aI z), (6, aI cd), (0, aR 1), (1, aR 2), (2, aR 71), (3, aR 120), (4, aR 121), (5, aI k)] [aI t] (wW d i9 j8 r.2.1 r'.2) c9 s9 := fun c9 s9 hc => by
      refine segQ hLC (pc2 := 28) (N := 200) (LG_wid (nx d i9 j8 r.2.1 r'.2 [(5, aI (k + 6)), (7, aI z), (6, aI cd), (0, aR 1), (1, aR 2), (2, aR 71), (3, aR 120), (4, aR 121)] iq lcN_s) hc hr) ?_
      rw [eD, if_pos htc]
      by_cases cz : cd = 0
      · rw [if_pos cz, gd_t ⟨Int.le_refl _, show (0 : Int) < 1 by decide⟩, wWj0, hy cz, cmp_self, if_pos rfl, gd_t ⟨by omega, by omega⟩]
        exact cuQ_t
      · rw [if_neg cz, gd_t ⟨by omega, by omega⟩]
        exact cuQ_t
    have eC : ∀ (z : Int) (c9 s9 : Nat) (f : AL → AS → SW → Option Unit), segL L xs clN csL_law (cuC 1518 f cuN) 200 1515 [(6, aI cd), (0, aR 1), (1, aR 2), (2, aR 71), (3, aR 120), (4, aR 121), (5, aI k)] [aI z] (wW d i9 j8 r.2.1 r'.2, c9, s9) = f [(7, aI z), (6, aI cd), (0, aR 1), (1, aR 2), (2, aR 71), (3, aR 120), (4, aR 121), (5, aI k)] [aR 71] (wW d i9 j8 r.2.1 r'.2, c9, s9) := fun _ _ _ _ => rfl
    have lC : ∀ c9 s9 : Nat, c9 + mC 170 ≤ cells + 20 ∧ s9 + mS 170 ≤ slots + 100 → LG p l e s m b below meth c D cy 1515 [(6, aI cd), (0, aR 1), (1, aR 2), (2, aR 71), (3, aR 120), (4, aR 121), (5, aI k)] [aI z] (wW d i9 j8 r.2.1 r'.2) c9 s9 := fun c9 s9 hc => by
      refine segQ hLC (pc2 := 1518) (N := 200) (callV_lg hLC (n := 170) (a := 71) (as := []) (rest := []) (by decide +kernel) (rowsB_at rwL_law (pc := 1518) (r := (3, .invokevirtual 149, 170, 1, 12)) rfl).1 (by decide +kernel) rfl ⟨by decide, by show 71 ≤ 121; omega⟩ (by decide +kernel) (by decide +kernel) (by decide +kernel) hT ⟨by omega, by omega⟩ (lD _ _ hc)) ?_
      rw [eC]
      exact cuQ_t
    have eB : ∀ (c9 s9 : Nat) (f : AL → AS → SW → Option Unit), segL L xs clN csL_law (cuC 1512 f cuN) 200 1497 [(0, aR 1), (1, aR 2), (2, aR 71), (3, aR 120), (4, aR 121), (5, aI k)] [aI cd] (wW d i9 j8 r.2.1 h', c9, s9) = gd (R32 (k + 1)) (gd ((0 : Int) ≤ (k + 1) ∧ (k + 1) < lnL L 1) (gd (R32 (k + 2)) (gd ((0 : Int) ≤ (k + 2) ∧ (k + 2) < lnL L 1) (f [(6, aI cd), (0, aR 1), (1, aR 2), (2, aR 71), (3, aR 120), (4, aR 121), (5, aI k)] [aI (xa xs k 2), aI (xa xs k 1), aR 71] (wW d i9 j8 r.2.1 h', c9, s9))))) := fun _ _ _ => rfl
    refine segQ hLC (pc2 := 1512) (N := 200) (callV_lg hLC (n := 224) (a := 71) (as := [aI (xa xs k 1), aI (xa xs k 2)]) (rest := []) (by decide +kernel) (rowsB_at rwL_law (pc := 1512) (r := (3, .invokevirtual 206, 224, 3, 12)) rfl).1 (by decide +kernel) rfl ⟨by decide, by show 71 ≤ 121; omega⟩ (by decide +kernel) (by decide +kernel) (by decide +kernel) hN ⟨by omega, by omega⟩ (lC _ _ c0)) ?_
    show segL L xs clN csL_law _ 200 1497 [(0, aR 1), (1, aR 2), (2, aR 71), (3, aR 120), (4, aR 121), (5, aI k)] [aI cd] _ = some ()
    rw [eB, hl1, gd_t ⟨by omega, by omega⟩, gd_t ⟨by omega, by omega⟩, gd_t ⟨by omega, by omega⟩, gd_t ⟨by omega, by omega⟩]
    exact cuQ_t
  have eA : ∀ (f : AL → AS → SW → Option Unit), segL L xs clN csL_law (cuC 1494 f cuN) 200 1480 [(0, aR 1), (1, aR 2), (2, aR 71), (3, aR 120), (4, aR 121), (5, aI k)] [] (wW d i9 j9 h h', cells, slots) = gd (R32 (k + 1)) (gd ((0 : Int) ≤ (k + 1) ∧ (k + 1) < lnL L 1) (gd (R32 (k + 2)) (gd ((0 : Int) ≤ (k + 2) ∧ (k + 2) < lnL L 1) (f [(0, aR 1), (1, aR 2), (2, aR 71), (3, aR 120), (4, aR 121), (5, aI k)] [aR 120, aI (xa xs k 2), aI (xa xs k 1), aR 2] (wW d i9 j9 h h', cells, slots))))) := fun _ => rfl
  have sA : segL L xs clN csL_law (cuC 1494 (cuQ [(0, aR 1), (1, aR 2), (2, aR 71), (3, aR 120), (4, aR 121), (5, aI k)] [aR 120, aI (xa xs k 2), aI (xa xs k 1), aR 2] (wW d i9 j9 h h', cells, slots) ()) cuN) 200 1480 [(0, aR 1), (1, aR 2), (2, aR 71), (3, aR 120), (4, aR 121), (5, aI k)] [] (wW d i9 j9 h h', cells, slots) = some () := by
    rw [eA, hl1, gd_t ⟨by omega, by omega⟩, gd_t ⟨by omega, by omega⟩, gd_t ⟨by omega, by omega⟩, gd_t ⟨by omega, by omega⟩]
    exact cuQ_t
  have c0 : cells + mC 293 ≤ 601024 ∧ slots + mS 293 ≤ 7293034 := ⟨roomA (n := 20) (by decide +kernel) hr.1, roomA (n := 100) (by decide +kernel) hr.2⟩
  have call : ∀ {v : Option AV} {σ1 : SG}, MCT 293 hhL_roundAt [aR 2, aI (xa xs k 1), aI (xa xs k 2), aR 120] (wW d i9 j9 h h') (.inl v) σ1 → LG p l e s m b below meth c D cy 1497 (lcE k) (v.toList ++ []) σ1 (cells + mC 293) (slots + mS 293) → LG p l e s m b below meth c D cy 1480 (lcE k) [] (wW d i9 j9 h h') cells slots := fun hct kk => segQ hLC (callH_lg hLC (n := 293) (as := [aR 2, aI (xa xs k 1), aI (xa xs k 2), aR 120]) (rest := []) (by decide +kernel) (rowsB_at rwL_law (pc := 1494) (r := (3, .invokestatic 204, 293, 4, 0)) rfl).1 (by decide +kernel) hwL_roundAt rfl (by decide +kernel) hct c0 kk) sA
  obtain ⟨o, hu⟩ := r
  cases o with
  | inl y =>
    obtain ⟨q1, q2⟩ := hq
    exact call (mct_j (hL_roundAt_0 (by show 121 ≤ 121; omega) hM)) (mid 0 (up2 j9 120 0 y) q1 (fun _ => by rw [up2_same]; exact q2.symm))
  | inr ex =>
    obtain ⟨q1, q2⟩ := hq
    rcases (by omega : ex = 0 ∨ ex = 1 ∨ ex = 2 ∨ ex = 3 ∨ 4 ≤ ex) with z | z | z | z | z
    · subst z
      exact call (hL_roundAt_1 (by show 121 ≤ 121; omega) hM) (mid 1 j9 q2 (fun w => by cases w))
    · exact absurd (by rw [z]; rfl) q1
    · exact absurd (by rw [z]; rfl) q1
    · subst z
      exact call (hL_roundAt_2 (by show 121 ≤ 121; omega) hM) (mid 2 j9 q2 (fun w => by cases w))
    · refine absurd ?_ q1
      show cdX 1 0 0 2 ex = 0
      unfold cdX
      rw [if_neg (by omega), if_neg (by omega), if_neg (by omega), if_neg (by omega)]
end LAWS
