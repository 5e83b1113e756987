/-! THE LAW'S LOOP: cases -/
section LAWS
variable {p : Program} {l : Launch} {e : Env} {s : State} {m : MethodId} {below : List Frame} {meth : Method} {c : Code} {D : va_G} {cy : Nat → ClassId} {b L : Nat} {xs : Nat → Int32} {cells slots : Nat} {d : Nat → Int → UInt64} {i9 j9 : Nat → Int → Int} {h h' : HH} {k : Int}
theorem cs_unlawful (hLC : LC p l s m b meth c D cy L xs) (k0 : 0 ≤ k) (k1 : k + 6 ≤ L) (hr : cells + 20 ≤ 601024 ∧ slots + 100 ≤ 7293034) (i : INV h h') (nx : NX p l e s m b below meth c D cy k cells slots) : LG p l e s m b below meth c D cy 1932 (lcE k) [] (wW d i9 j9 h h') cells slots := by
  have hL := hLC.2.2.2.2
  have hl1 : lnL L 1 = (L : Int) := rfl
  obtain ⟨r, er, r', er', hq, iq⟩ := op_unlawful i 
  have hM := mct_c (mX11_unlawful (gc_ok (d := d) (i9 := i9) (j9 := j9) (h' := h')) er)
  have hN : MCT 237 [] [aR 71] (wW d i9 j9 h h') (.inl (some (aI r'.1))) (wW d i9 j9 h r'.2) := mX12_unlawful gm_ok er'
  have hy := hq.2
  have c0 : cells + mC 136 + mC 237 ≤ cells + 20 ∧ slots + mS 136 + mS 237 ≤ slots + 100 := ⟨roomD (by decide +kernel), roomD (by decide +kernel)⟩
  have eC : ∀ (y z : Int) (c9 s9 : Nat) (f : AL → AS → SW → Option Unit), segL L xs clN csL_law (cuC 28 f cuN) 200 1940 [(0, aR 1), (1, aR 2), (2, aR 71), (3, aR 120), (4, aR 121), (5, aI k)] [aI z, aI y] (wW d i9 j9 h r'.2, c9, s9) = if y = z then gd (R32 (k + 6)) (f [(5, aI (k + 6)), (0, aR 1), (1, aR 2), (2, aR 71), (3, aR 120), (4, aR 121)] [] (wW d i9 j9 h r'.2, c9, s9)) else gd ((0 : Int) ≤ 0 ∧ (0 : Int) ≤ 1) (krL (some (aI 0)) (wW d i9 j9 h r'.2, c9, s9)) := fun _ _ _ _ _ => rfl
  have lC : LG p l e s m b below meth c D cy 1940 [(0, aR 1), (1, aR 2), (2, aR 71), (3, aR 120), (4, aR 121), (5, aI k)] [aI r'.1, aI r] (wW d i9 j9 h r'.2) (cells + mC 136 + mC 237) (slots + mS 136 + mS 237) := by
    refine segQ hLC (pc2 := 28) (N := 200) (LG_wid (nx d i9 j9 h r'.2 [(5, aI (k + 6)), (0, aR 1), (1, aR 2), (2, aR 71), (3, aR 120), (4, aR 121)] iq lcN0_s) c0 hr) ?_
    rw [eC, if_pos hy.symm, gd_t ⟨by omega, by omega⟩]
    exact cuQ_t
  have eB : ∀ (y : Int) (c9 s9 : Nat) (f : AL → AS → SW → Option Unit), segL L xs clN csL_law (cuC 1937 f cuN) 200 1936 [(0, aR 1), (1, aR 2), (2, aR 71), (3, aR 120), (4, aR 121), (5, aI k)] [aI y] (wW d i9 j9 h h', c9, s9) = f [(0, aR 1), (1, aR 2), (2, aR 71), (3, aR 120), (4, aR 121), (5, aI k)] [aR 71, aI y] (wW d i9 j9 h h', c9, s9) := fun _ _ _ _ => rfl
  have lB : LG p l e s m b below meth c D cy 1936 [(0, aR 1), (1, aR 2), (2, aR 71), (3, aR 120), (4, aR 121), (5, aI k)] [aI r] (wW d i9 j9 h h') (cells + mC 136) (slots + mS 136) := by
    refine segQ hLC (pc2 := 1937) (N := 200) (callV_lg hLC (n := 237) (a := 71) (as := []) (rest := [aI r]) (by decide +kernel) (rowsB_at rwL_law (pc := 1937) (r := (3, .invokevirtual 229, 237, 1, 12)) rfl).1 (by decide +kernel) rfl ⟨by decide, by show 71 ≤ 121; omega⟩ (by decide +kernel) (by decide +kernel) (Nat.le_of_ble_eq_true rfl) hN ⟨by omega, by omega⟩ lC) ?_
    show segL L xs clN csL_law _ 200 1936 [(0, aR 1), (1, aR 2), (2, aR 71), (3, aR 120), (4, aR 121), (5, aI k)] _ _ = some ()
    rw [eB]
    exact cuQ_t
  have eA : ∀ (f : AL → AS → SW → Option Unit), segL L xs clN csL_law (cuC 1933 f cuN) 200 1932 [(0, aR 1), (1, aR 2), (2, aR 71), (3, aR 120), (4, aR 121), (5, aI k)] [] (wW d i9 j9 h h', cells, slots) = f [(0, aR 1), (1, aR 2), (2, aR 71), (3, aR 120), (4, aR 121), (5, aI k)] [aR 2] (wW d i9 j9 h h', cells, slots) := fun _ => rfl
  refine segQ hLC (pc2 := 1933) (N := 200) (callV_lg hLC (n := 136) (a := 2) (as := []) (rest := []) (by decide +kernel) (rowsB_at rwL_law (pc := 1933) (r := (3, .invokevirtual 226, 136, 1, 11)) rfl).1 (by decide +kernel) rfl ⟨by decide, by show 2 ≤ 121; omega⟩ (by decide +kernel) (by decide +kernel) (by decide +kernel) hM ⟨by omega, by omega⟩ lB) ?_
  show segL L xs clN csL_law _ 200 1932 [(0, aR 1), (1, aR 2), (2, aR 71), (3, aR 120), (4, aR 121), (5, aI k)] [] _ = some ()
  rw [eA]
  exact cuQ_t
theorem cs_mayDrive_b0 (hLC : LC p l s m b meth c D cy L xs) (k0 : 0 ≤ k) (k1 : k + 6 ≤ L) (hr : cells + 20 ≤ 601024 ∧ slots + 100 ≤ 7293034) (i : INV h h') (nx : NX p l e s m b below meth c D cy k cells slots) (cb : xa xs k 1 = 0) : LG p l e s m b below meth c D cy 1945 (lcE k) [] (wW d i9 j9 h h') cells slots := by
  have hL := hLC.2.2.2.2
  have hl1 : lnL L 1 = (L : Int) := rfl
  obtain ⟨r, er, r', er', hq, iq⟩ := op_mayDrive i 0
  have hM := mct_c (mX11_mayDrive (gc_ok (d := d) (i9 := i9) (j9 := j9) (h' := h')) er)
  have hN : MCT 238 [] [aR 71, aI 0] (wW d i9 j9 h h') (.inl (some (aI r'.1))) (wW d i9 j9 h r'.2) := mX12_mayDrive gm_ok er'
  have hy := hq.2
  have c0 : cells + mC 137 + mC 238 ≤ cells + 20 ∧ slots + mS 137 + mS 238 ≤ slots + 100 := ⟨roomD (by decide +kernel), roomD (by decide +kernel)⟩
  have eC : ∀ (y z : Int) (c9 s9 : Nat) (f : AL → AS → SW → Option Unit), segL L xs clN csL_law (cuC 28 f cuN) 200 1981 [(0, aR 1), (1, aR 2), (2, aR 71), (3, aR 120), (4, aR 121), (5, aI k)] [aI z, aI y] (wW d i9 j9 h r'.2, c9, s9) = if y = z then gd (R32 (k + 6)) (f [(5, aI (k + 6)), (0, aR 1), (1, aR 2), (2, aR 71), (3, aR 120), (4, aR 121)] [] (wW d i9 j9 h r'.2, c9, s9)) else gd ((0 : Int) ≤ 0 ∧ (0 : Int) ≤ 1) (krL (some (aI 0)) (wW d i9 j9 h r'.2, c9, s9)) := fun _ _ _ _ _ => rfl
  have lC : LG p l e s m b below meth c D cy 1981 [(0, aR 1), (1, aR 2), (2, aR 71), (3, aR 120), (4, aR 121), (5, aI k)] [aI r'.1, aI r] (wW d i9 j9 h r'.2) (cells + mC 137 + mC 238) (slots + mS 137 + mS 238) := by
    refine segQ hLC (pc2 := 28) (N := 200) (LG_wid (nx d i9 j9 h r'.2 [(5, aI (k + 6)), (0, aR 1), (1, aR 2), (2, aR 71), (3, aR 120), (4, aR 121)] iq lcN0_s) c0 hr) ?_
    rw [eC, if_pos hy.symm, gd_t ⟨by omega, by omega⟩]
    exact cuQ_t
  have eB : ∀ (y : Int) (c9 s9 : Nat) (f : AL → AS → SW → Option Unit), segL L xs clN csL_law (cuC 1978 f cuN) 200 1963 [(0, aR 1), (1, aR 2), (2, aR 71), (3, aR 120), (4, aR 121), (5, aI k)] [aI y] (wW d i9 j9 h h', c9, s9) = gd (R32 (k + 1)) (gd ((0 : Int) ≤ (k + 1) ∧ (k + 1) < lnL L 1) (if xa xs k 1 = 0 then f [(0, aR 1), (1, aR 2), (2, aR 71), (3, aR 120), (4, aR 121), (5, aI k)] [aI 0, aR 71, aI y] (wW d i9 j9 h h', c9, s9) else f [(0, aR 1), (1, aR 2), (2, aR 71), (3, aR 120), (4, aR 121), (5, aI k)] [aI 1, aR 71, aI y] (wW d i9 j9 h h', c9, s9))) := fun _ _ _ _ => rfl
  have lB : LG p l e s m b below meth c D cy 1963 [(0, aR 1), (1, aR 2), (2, aR 71), (3, aR 120), (4, aR 121), (5, aI k)] [aI r] (wW d i9 j9 h h') (cells + mC 137) (slots + mS 137) := by
    refine segQ hLC (pc2 := 1978) (N := 200) (callV_lg hLC (n := 238) (a := 71) (as := [aI 0]) (rest := [aI r]) (by decide +kernel) (rowsB_at rwL_law (pc := 1978) (r := (3, .invokevirtual 234, 238, 2, 12)) rfl).1 (by decide +kernel) rfl ⟨by decide, by show 71 ≤ 121; omega⟩ (by decide +kernel) (by decide +kernel) (Nat.le_of_ble_eq_true rfl) hN ⟨by omega, by omega⟩ lC) ?_
    show segL L xs clN csL_law _ 200 1963 [(0, aR 1), (1, aR 2), (2, aR 71), (3, aR 120), (4, aR 121), (5, aI k)] _ _ = some ()
    rw [eB, hl1, gd_t ⟨by omega, by omega⟩, gd_t ⟨by omega, by omega⟩, if_pos cb]
    exact cuQ_t
  have eA : ∀ (f : AL → AS → SW → Option Unit), segL L xs clN csL_law (cuC 1960 f cuN) 200 1945 [(0, aR 1), (1, aR 2), (2, aR 71), (3, aR 120), (4, aR 121), (5, aI k)] [] (wW d i9 j9 h h', cells, slots) = gd (R32 (k + 1)) (gd ((0 : Int) ≤ (k + 1) ∧ (k + 1) < lnL L 1) (if xa xs k 1 = 0 then f [(0, aR 1), (1, aR 2), (2, aR 71), (3, aR 120), (4, aR 121), (5, aI k)] [aI 0, aR 2] (wW d i9 j9 h h', cells, slots) else f [(0, aR 1), (1, aR 2), (2, aR 71), (3, aR 120), (4, aR 121), (5, aI k)] [aI 1, aR 2] (wW d i9 j9 h h', cells, slots))) := fun _ => rfl
  refine segQ hLC (pc2 := 1960) (N := 200) (callV_lg hLC (n := 137) (a := 2) (as := [aI 0]) (rest := []) (by decide +kernel) (rowsB_at rwL_law (pc := 1960) (r := (3, .invokevirtual 230, 137, 2, 11)) rfl).1 (by decide +kernel) rfl ⟨by decide, by show 2 ≤ 121; omega⟩ (by decide +kernel) (by decide +kernel) (by decide +kernel) hM ⟨by omega, by omega⟩ lB) ?_
  show segL L xs clN csL_law _ 200 1945 [(0, aR 1), (1, aR 2), (2, aR 71), (3, aR 120), (4, aR 121), (5, aI k)] [] _ = some ()
  rw [eA, hl1, gd_t ⟨by omega, by omega⟩, gd_t ⟨by omega, by omega⟩, if_pos cb]
  exact cuQ_t
theorem cs_mayDrive_b1 (hLC : LC p l s m b meth c D cy L xs) (k0 : 0 ≤ k) (k1 : k + 6 ≤ L) (hr : cells + 20 ≤ 601024 ∧ slots + 100 ≤ 7293034) (i : INV h h') (nx : NX p l e s m b below meth c D cy k cells slots) (cb : ¬ xa xs k 1 = 0) : LG p l e s m b below meth c D cy 1945 (lcE k) [] (wW d i9 j9 h h') cells slots := by
  have hL := hLC.2.2.2.2
  have hl1 : lnL L 1 = (L : Int) := rfl
  obtain ⟨r, er, r', er', hq, iq⟩ := op_mayDrive i 1
  have hM := mct_c (mX11_mayDrive (gc_ok (d := d) (i9 := i9) (j9 := j9) (h' := h')) er)
  have hN : MCT 238 [] [aR 71, aI 1] (wW d i9 j9 h h') (.inl (some (aI r'.1))) (wW d i9 j9 h r'.2) := mX12_mayDrive gm_ok er'
  have hy := hq.2
  have c0 : cells + mC 137 + mC 238 ≤ cells + 20 ∧ slots + mS 137 + mS 238 ≤ slots + 100 := ⟨roomD (by decide +kernel), roomD (by decide +kernel)⟩
  have eC : ∀ (y z : Int) (c9 s9 : Nat) (f : AL → AS → SW → Option Unit), segL L xs clN csL_law (cuC 28 f cuN) 200 1981 [(0, aR 1), (1, aR 2), (2, aR 71), (3, aR 120), (4, aR 121), (5, aI k)] [aI z, aI y] (wW d i9 j9 h r'.2, c9, s9) = if y = z then gd (R32 (k + 6)) (f [(5, aI (k + 6)), (0, aR 1), (1, aR 2), (2, aR 71), (3, aR 120), (4, aR 121)] [] (wW d i9 j9 h r'.2, c9, s9)) else gd ((0 : Int) ≤ 0 ∧ (0 : Int) ≤ 1) (krL (some (aI 0)) (wW d i9 j9 h r'.2, c9, s9)) := fun _ _ _ _ _ => rfl
  have lC : LG p l e s m b below meth c D cy 1981 [(0, aR 1), (1, aR 2), (2, aR 71), (3, aR 120), (4, aR 121), (5, aI k)] [aI r'.1, aI r] (wW d i9 j9 h r'.2) (cells + mC 137 + mC 238) (slots + mS 137 + mS 238) := by
    refine segQ hLC (pc2 := 28) (N := 200) (LG_wid (nx d i9 j9 h r'.2 [(5, aI (k + 6)), (0, aR 1), (1, aR 2), (2, aR 71), (3, aR 120), (4, aR 121)] iq lcN0_s) c0 hr) ?_
    rw [eC, if_pos hy.symm, gd_t ⟨by omega, by omega⟩]
    exact cuQ_t
  have eB : ∀ (y : Int) (c9 s9 : Nat) (f : AL → AS → SW → Option Unit), segL L xs clN csL_law (cuC 1978 f cuN) 200 1963 [(0, aR 1), (1, aR 2), (2, aR 71), (3, aR 120), (4, aR 121), (5, aI k)] [aI y] (wW d i9 j9 h h', c9, s9) = gd (R32 (k + 1)) (gd ((0 : Int) ≤ (k + 1) ∧ (k + 1) < lnL L 1) (if xa xs k 1 = 0 then f [(0, aR 1), (1, aR 2), (2, aR 71), (3, aR 120), (4, aR 121), (5, aI k)] [aI 0, aR 71, aI y] (wW d i9 j9 h h', c9, s9) else f [(0, aR 1), (1, aR 2), (2, aR 71), (3, aR 120), (4, aR 121), (5, aI k)] [aI 1, aR 71, aI y] (wW d i9 j9 h h', c9, s9))) := fun _ _ _ _ => rfl
  have lB : LG p l e s m b below meth c D cy 1963 [(0, aR 1), (1, aR 2), (2, aR 71), (3, aR 120), (4, aR 121), (5, aI k)] [aI r] (wW d i9 j9 h h') (cells + mC 137) (slots + mS 137) := by
    refine segQ hLC (pc2 := 1978) (N := 200) (callV_lg hLC (n := 238) (a := 71) (as := [aI 1]) (rest := [aI r]) (by decide +kernel) (rowsB_at rwL_law (pc := 1978) (r := (3, .invokevirtual 234, 238, 2, 12)) rfl).1 (by decide +kernel) rfl ⟨by decide, by show 71 ≤ 121; omega⟩ (by decide +kernel) (by decide +kernel) (Nat.le_of_ble_eq_true rfl) hN ⟨by omega, by omega⟩ lC) ?_
    show segL L xs clN csL_law _ 200 1963 [(0, aR 1), (1, aR 2), (2, aR 71), (3, aR 120), (4, aR 121), (5, aI k)] _ _ = some ()
    rw [eB, hl1, gd_t ⟨by omega, by omega⟩, gd_t ⟨by omega, by omega⟩, if_neg cb]
    exact cuQ_t
  have eA : ∀ (f : AL → AS → SW → Option Unit), segL L xs clN csL_law (cuC 1960 f cuN) 200 1945 [(0, aR 1), (1, aR 2), (2, aR 71), (3, aR 120), (4, aR 121), (5, aI k)] [] (wW d i9 j9 h h', cells, slots) = gd (R32 (k + 1)) (gd ((0 : Int) ≤ (k + 1) ∧ (k + 1) < lnL L 1) (if xa xs k 1 = 0 then f [(0, aR 1), (1, aR 2), (2, aR 71), (3, aR 120), (4, aR 121), (5, aI k)] [aI 0, aR 2] (wW d i9 j9 h h', cells, slots) else f [(0, aR 1), (1, aR 2), (2, aR 71), (3, aR 120), (4, aR 121), (5, aI k)] [aI 1, aR 2] (wW d i9 j9 h h', cells, slots))) := fun _ => rfl
  refine segQ hLC (pc2 := 1960) (N := 200) (callV_lg hLC (n := 137) (a := 2) (as := [aI 1]) (rest := []) (by decide +kernel) (rowsB_at rwL_law (pc := 1960) (r := (3, .invokevirtual 230, 137, 2, 11)) rfl).1 (by decide +kernel) rfl ⟨by decide, by show 2 ≤ 121; omega⟩ (by decide +kernel) (by decide +kernel) (by decide +kernel) hM ⟨by omega, by omega⟩ lB) ?_
  show segL L xs clN csL_law _ 200 1945 [(0, aR 1), (1, aR 2), (2, aR 71), (3, aR 120), (4, aR 121), (5, aI k)] [] _ = some ()
  rw [eA, hl1, gd_t ⟨by omega, by omega⟩, gd_t ⟨by omega, by omega⟩, if_neg cb]
  exact cuQ_t
theorem cs_mayDrive (hLC : LC p l s m b meth c D cy L xs) (k0 : 0 ≤ k) (k1 : k + 6 ≤ L) (hr : cells + 20 ≤ 601024 ∧ slots + 100 ≤ 7293034) (i : INV h h') (nx : NX p l e s m b below meth c D cy k cells slots) : LG p l e s m b below meth c D cy 1945 (lcE k) [] (wW d i9 j9 h h') cells slots := by
  by_cases cb : xa xs k 1 = 0
  · exact cs_mayDrive_b0 hLC k0 k1 hr i nx cb
  · exact cs_mayDrive_b1 hLC k0 k1 hr i nx cb
theorem cs_balance (hLC : LC p l s m b meth c D cy L xs) (k0 : 0 ≤ k) (k1 : k + 6 ≤ L) (hr : cells + 20 ≤ 601024 ∧ slots + 100 ≤ 7293034) (i : INV h h') (nx : NX p l e s m b below meth c D cy k cells slots) : LG p l e s m b below meth c D cy 2330 (lcE k) [] (wW d i9 j9 h h') cells slots := by
  have hL := hLC.2.2.2.2
  have hl1 : lnL L 1 = (L : Int) := rfl
  obtain ⟨r, er, r', er', hq, iq⟩ := op_balance i 
  have hM := mct_c (mX11_balance (gc_ok (d := d) (i9 := i9) (j9 := j9) (h' := h')) er)
  have hN : MCT 255 [] [aR 71] (wW d i9 j9 r.2 h') (.inl (some (aI r'.1))) (wW d i9 j9 r.2 r'.2) := mX12_balance gm_ok er'
  have hy := hq.2
  have c0 : cells + mC 143 + mC 255 ≤ cells + 20 ∧ slots + mS 143 + mS 255 ≤ slots + 100 := ⟨roomD (by decide +kernel), roomD (by decide +kernel)⟩
  have eC : ∀ (y z : Int) (c9 s9 : Nat) (f : AL → AS → SW → Option Unit), segL L xs clN csL_law (cuC 28 f cuN) 200 2338 [(0, aR 1), (1, aR 2), (2, aR 71), (3, aR 120), (4, aR 121), (5, aI k)] [aI z, aI y] (wW d i9 j9 r.2 r'.2, c9, s9) = if y = z then gd (R32 (k + 6)) (f [(5, aI (k + 6)), (0, aR 1), (1, aR 2), (2, aR 71), (3, aR 120), (4, aR 121)] [] (wW d i9 j9 r.2 r'.2, c9, s9)) else gd ((0 : Int) ≤ 0 ∧ (0 : Int) ≤ 1) (krL (some (aI 0)) (wW d i9 j9 r.2 r'.2, c9, s9)) := fun _ _ _ _ _ => rfl
  have lC : LG p l e s m b below meth c D cy 2338 [(0, aR 1), (1, aR 2), (2, aR 71), (3, aR 120), (4, aR 121), (5, aI k)] [aI r'.1, aI r.1] (wW d i9 j9 r.2 r'.2) (cells + mC 143 + mC 255) (slots + mS 143 + mS 255) := by
    refine segQ hLC (pc2 := 28) (N := 200) (LG_wid (nx d i9 j9 r.2 r'.2 [(5, aI (k + 6)), (0, aR 1), (1, aR 2), (2, aR 71), (3, aR 120), (4, aR 121)] iq lcN0_s) c0 hr) ?_
    rw [eC, if_pos hy.symm, gd_t ⟨by omega, by omega⟩]
    exact cuQ_t
  have eB : ∀ (y : Int) (c9 s9 : Nat) (f : AL → AS → SW → Option Unit), segL L xs clN csL_law (cuC 2335 f cuN) 200 2334 [(0, aR 1), (1, aR 2), (2, aR 71), (3, aR 120), (4, aR 121), (5, aI k)] [aI y] (wW d i9 j9 r.2 h', c9, s9) = f [(0, aR 1), (1, aR 2), (2, aR 71), (3, aR 120), (4, aR 121), (5, aI k)] [aR 71, aI y] (wW d i9 j9 r.2 h', c9, s9) := fun _ _ _ _ => rfl
  have lB : LG p l e s m b below meth c D cy 2334 [(0, aR 1), (1, aR 2), (2, aR 71), (3, aR 120), (4, aR 121), (5, aI k)] [aI r.1] (wW d i9 j9 r.2 h') (cells + mC 143) (slots + mS 143) := by
    refine segQ hLC (pc2 := 2335) (N := 200) (callV_lg hLC (n := 255) (a := 71) (as := []) (rest := [aI r.1]) (by decide +kernel) (rowsB_at rwL_law (pc := 2335) (r := (3, .invokevirtual 254, 255, 1, 12)) rfl).1 (by decide +kernel) rfl ⟨by decide, by show 71 ≤ 121; omega⟩ (by decide +kernel) (by decide +kernel) (Nat.le_of_ble_eq_true rfl) hN ⟨by omega, by omega⟩ lC) ?_
    show segL L xs clN csL_law _ 200 2334 [(0, aR 1), (1, aR 2), (2, aR 71), (3, aR 120), (4, aR 121), (5, aI k)] _ _ = some ()
    rw [eB]
    exact cuQ_t
  have eA : ∀ (f : AL → AS → SW → Option Unit), segL L xs clN csL_law (cuC 2331 f cuN) 200 2330 [(0, aR 1), (1, aR 2), (2, aR 71), (3, aR 120), (4, aR 121), (5, aI k)] [] (wW d i9 j9 h h', cells, slots) = f [(0, aR 1), (1, aR 2), (2, aR 71), (3, aR 120), (4, aR 121), (5, aI k)] [aR 2] (wW d i9 j9 h h', cells, slots) := fun _ => rfl
  refine segQ hLC (pc2 := 2331) (N := 200) (callV_lg hLC (n := 143) (a := 2) (as := []) (rest := []) (by decide +kernel) (rowsB_at rwL_law (pc := 2331) (r := (3, .invokevirtual 251, 143, 1, 11)) rfl).1 (by decide +kernel) rfl ⟨by decide, by show 2 ≤ 121; omega⟩ (by decide +kernel) (by decide +kernel) (by decide +kernel) hM ⟨by omega, by omega⟩ lB) ?_
  show segL L xs clN csL_law _ 200 2330 [(0, aR 1), (1, aR 2), (2, aR 71), (3, aR 120), (4, aR 121), (5, aI k)] [] _ = some ()
  rw [eA]
  exact cuQ_t
theorem cs_errors (hLC : LC p l s m b meth c D cy L xs) (k0 : 0 ≤ k) (k1 : k + 6 ≤ L) (hr : cells + 20 ≤ 601024 ∧ slots + 100 ≤ 7293034) (i : INV h h') (nx : NX p l e s m b below meth c D cy k cells slots) : LG p l e s m b below meth c D cy 2892 (lcE k) [] (wW d i9 j9 h h') cells slots := by
  have hL := hLC.2.2.2.2
  have hl1 : lnL L 1 = (L : Int) := rfl
  obtain ⟨r, er, r', er', hq, iq⟩ := op_errors i 
  have hM := mct_c (mX11_errors (gc_ok (d := d) (i9 := i9) (j9 := j9) (h' := h')) er)
  have hN : MCT 273 [] [aR 71] (wW d i9 j9 r.2 h') (.inl (some (aI r'.1))) (wW d i9 j9 r.2 r'.2) := mX12_errors gm_ok er'
  have hy := hq.2
  have c0 : cells + mC 153 + mC 273 ≤ cells + 20 ∧ slots + mS 153 + mS 273 ≤ slots + 100 := ⟨roomD (by decide +kernel), roomD (by decide +kernel)⟩
  have eC : ∀ (y z : Int) (c9 s9 : Nat) (f : AL → AS → SW → Option Unit), segL L xs clN csL_law (cuC 28 f cuN) 200 2900 [(0, aR 1), (1, aR 2), (2, aR 71), (3, aR 120), (4, aR 121), (5, aI k)] [aI z, aI y] (wW d i9 j9 r.2 r'.2, c9, s9) = if y = z then gd (R32 (k + 6)) (f [(5, aI (k + 6)), (0, aR 1), (1, aR 2), (2, aR 71), (3, aR 120), (4, aR 121)] [] (wW d i9 j9 r.2 r'.2, c9, s9)) else gd ((0 : Int) ≤ 0 ∧ (0 : Int) ≤ 1) (krL (some (aI 0)) (wW d i9 j9 r.2 r'.2, c9, s9)) := fun _ _ _ _ _ => rfl
  have lC : LG p l e s m b below meth c D cy 2900 [(0, aR 1), (1, aR 2), (2, aR 71), (3, aR 120), (4, aR 121), (5, aI k)] [aI r'.1, aI r.1] (wW d i9 j9 r.2 r'.2) (cells + mC 153 + mC 273) (slots + mS 153 + mS 273) := by
    refine segQ hLC (pc2 := 28) (N := 200) (LG_wid (nx d i9 j9 r.2 r'.2 [(5, aI (k + 6)), (0, aR 1), (1, aR 2), (2, aR 71), (3, aR 120), (4, aR 121)] iq lcN0_s) c0 hr) ?_
    rw [eC, if_pos hy.symm, gd_t ⟨by omega, by omega⟩]
    exact cuQ_t
  have eB : ∀ (y : Int) (c9 s9 : Nat) (f : AL → AS → SW → Option Unit), segL L xs clN csL_law (cuC 2897 f cuN) 200 2896 [(0, aR 1), (1, aR 2), (2, aR 71), (3, aR 120), (4, aR 121), (5, aI k)] [aI y] (wW d i9 j9 r.2 h', c9, s9) = f [(0, aR 1), (1, aR 2), (2, aR 71), (3, aR 120), (4, aR 121), (5, aI k)] [aR 71, aI y] (wW d i9 j9 r.2 h', c9, s9) := fun _ _ _ _ => rfl
  have lB : LG p l e s m b below meth c D cy 2896 [(0, aR 1), (1, aR 2), (2, aR 71), (3, aR 120), (4, aR 121), (5, aI k)] [aI r.1] (wW d i9 j9 r.2 h') (cells + mC 153) (slots + mS 153) := by
    refine segQ hLC (pc2 := 2897) (N := 200) (callV_lg hLC (n := 273) (a := 71) (as := []) (rest := [aI r.1]) (by decide +kernel) (rowsB_at rwL_law (pc := 2897) (r := (3, .invokevirtual 289, 273, 1, 12)) rfl).1 (by decide +kernel) rfl ⟨by decide, by show 71 ≤ 121; omega⟩ (by decide +kernel) (by decide +kernel) (Nat.le_of_ble_eq_true rfl) hN ⟨by omega, by omega⟩ lC) ?_
    show segL L xs clN csL_law _ 200 2896 [(0, aR 1), (1, aR 2), (2, aR 71), (3, aR 120), (4, aR 121), (5, aI k)] _ _ = some ()
    rw [eB]
    exact cuQ_t
  have eA : ∀ (f : AL → AS → SW → Option Unit), segL L xs clN csL_law (cuC 2893 f cuN) 200 2892 [(0, aR 1), (1, aR 2), (2, aR 71), (3, aR 120), (4, aR 121), (5, aI k)] [] (wW d i9 j9 h h', cells, slots) = f [(0, aR 1), (1, aR 2), (2, aR 71), (3, aR 120), (4, aR 121), (5, aI k)] [aR 2] (wW d i9 j9 h h', cells, slots) := fun _ => rfl
  refine segQ hLC (pc2 := 2893) (N := 200) (callV_lg hLC (n := 153) (a := 2) (as := []) (rest := []) (by decide +kernel) (rowsB_at rwL_law (pc := 2893) (r := (3, .invokevirtual 286, 153, 1, 11)) rfl).1 (by decide +kernel) rfl ⟨by decide, by show 2 ≤ 121; omega⟩ (by decide +kernel) (by decide +kernel) (by decide +kernel) hM ⟨by omega, by omega⟩ lB) ?_
  show segL L xs clN csL_law _ 200 2892 [(0, aR 1), (1, aR 2), (2, aR 71), (3, aR 120), (4, aR 121), (5, aI k)] [] _ = some ()
  rw [eA]
  exact cuQ_t
theorem cs_filled (hLC : LC p l s m b meth c D cy L xs) (k0 : 0 ≤ k) (k1 : k + 6 ≤ L) (hr : cells + 20 ≤ 601024 ∧ slots + 100 ≤ 7293034) (i : INV h h') (nx : NX p l e s m b below meth c D cy k cells slots) : LG p l e s m b below meth c D cy 2814 (lcE k) [] (wW d i9 j9 h h') cells slots := by
  have hL := hLC.2.2.2.2
  have hl1 : lnL L 1 = (L : Int) := rfl
  obtain ⟨r, er, r', er', hq, iq⟩ := op_filled i (xa xs k 1)
  have hM := mct_c (mX11_filled (gc_ok (d := d) (i9 := i9) (j9 := j9) (h' := h')) er)
  have mid : ∀ (cd : Int) (d8 : Nat → Int → UInt64), r'.2.1 71 10 = cd → (cd = 0 → d8 121 0 = FP.f2d r'.1 ∧ n64 (FP.f2d r'.1)) → LG p l e s m b below meth c D cy 2826 (lcE k) [aI cd] (wW d8 i9 j9 r.2.1 h') (cells + mC 312) (slots + mS 312) := fun cd d8 hcd hy => by
    have hN : MCT 268 [] [aR 71, aI (xa xs k 1)] (wW d8 i9 j9 r.2.1 h') (.inl (some (aF r'.1))) (wW d8 i9 j9 r.2.1 r'.2) := mX12_filled gm_ok er'
    have hT : MCT 170 [] [aR 71] (wW d8 i9 j9 r.2.1 r'.2) (.inl (some (aI (r'.2.1 71 10)))) (wW d8 i9 j9 r.2.1 r'.2) := mX12_thrown gm_ok (sX12_thrown (h := r'.2))
    have c0 : cells + mC 312 + mC 268 + mC 170 ≤ cells + 20 ∧ slots + mS 312 + mS 268 + mS 170 ≤ slots + 100 := ⟨roomC (by decide +kernel), roomC (by decide +kernel)⟩
    generalize hz : r'.1 = z at hN hy
    generalize ht : r'.2.1 71 10 = t at hT
    have htc : t = cd := by rw [← ht]; exact hcd
    generalize cells + mC 312 = c1 at *
    generalize slots + mS 312 = s1 at *
    have eD : ∀ (t : Int) (c9 s9 : Nat) (f : AL → AS → SW → Option Unit), segL L xs clN csL_law (cuC 28 f cuN) 200 2844 [(7, aF z), (6, aI cd), (0, aR 1), (1, aR 2), (2, aR 71), (3, aR 120), (4, aR 121), (5, aI k)] [aI t] (wW d8 i9 j9 r.2.1 r'.2, c9, s9) = if t = cd then (if cd = 0 then gd ((0 : Int) ≤ 0 ∧ (0 : Int) < lnL L 121) (gd (n64 (FP.f2d z)) (if (Op.cmpValue (FP.dcmp ((wW d8 i9 j9 r.2.1 r'.2).2.2.2.2 121 0) (FP.f2d z)) .l).toInt = 0 then gd (R32 (k + 6)) (f [(5, aI (k + 6)), (7, aF z), (6, aI cd), (0, aR 1), (1, aR 2), (2, aR 71), (3, aR 120), (4, aR 121)] [] (wW d8 i9 j9 r.2.1 r'.2, c9, s9)) else gd ((0 : Int) ≤ 0 ∧ (0 : Int) < lnL L 121) (gd ((0 : Int) ≤ 0 ∧ (0 : Int) < lnL L 121) (if (Op.cmpValue (FP.dcmp ((wW d8 i9 j9 r.2.1 r'.2).2.2.2.2 121 0) ((wW d8 i9 j9 r.2.1 r'.2).2.2.2.2 121 0)) .l).toInt = 0 then gd ((0 : Int) ≤ 0 ∧ (0 : Int) ≤ 1) (krL (some (aI 0)) (wW d8 i9 j9 r.2.1 r'.2, c9, s9)) else if (Op.cmpValue (FP.fcmp z z) .l).toInt = 0 then gd ((0 : Int) ≤ 0 ∧ (0 : Int) ≤ 1) (krL (some (aI 0)) (wW d8 i9 j9 r.2.1 r'.2, c9, s9)) else gd (R32 (k + 6)) (f [(5, aI (k + 6)), (7, aF z), (6, aI cd), (0, aR 1), (1, aR 2), (2, aR 71), (3, aR 120), (4, aR 121)] [] (wW d8 i9 j9 r.2.1 r'.2, c9, s9)))))) else gd (R32 (k + 6)) (f [(5, aI (k + 6)), (7, aF z), (6, aI cd), (0, aR 1), (1, aR 2), (2, aR 71), (3, aR 120), (4, aR 121)] [] (wW d8 i9 j9 r.2.1 r'.2, c9, s9))) else gd ((0 : Int) ≤ 0 ∧ (0 : Int) ≤ 1) (krL (some (aI 0)) (wW d8 i9 j9 r.2.1 r'.2, c9, s9)) := fun _ _ _ _ => rfl
    have lD : ∀ c9 s9 : Nat, c9 ≤ cells + 20 ∧ s9 ≤ slots + 100 → LG p l e s m b below meth c D cy 2844 [(7, aF z), (6, aI cd), (0, aR 1), (1, aR 2), (2, aR 71), (3, aR 120), (4, aR 121), (5, aI k)] [aI t] (wW d8 i9 j9 r.2.1 r'.2) c9 s9 := fun c9 s9 hc => by
      refine segQ hLC (pc2 := 28) (N := 200) (LG_wid (nx d8 i9 j9 r.2.1 r'.2 [(5, aI (k + 6)), (7, aF z), (6, aI cd), (0, aR 1), (1, aR 2), (2, aR 71), (3, aR 120), (4, aR 121)] iq lcN_s) hc hr) ?_
      rw [eD, if_pos htc]
      by_cases cz : cd = 0
      · obtain ⟨y1, y2⟩ := hy cz
        have y3 : (wW d8 i9 j9 r.2.1 r'.2).2.2.2.2 121 0 = FP.f2d z := y1
        rw [if_pos cz, gd_t ⟨Int.le_refl _, show (0 : Int) < 1 by decide⟩, gd_t y2, y3, dcmp_ok y2, if_pos rfl, gd_t ⟨by omega, by omega⟩]
        exact cuQ_t
      · rw [if_neg cz, gd_t ⟨by omega, by omega⟩]
        exact cuQ_t
    have eC : ∀ (z : UInt32) (c9 s9 : Nat) (f : AL → AS → SW → Option Unit), segL L xs clN csL_law (cuC 2841 f cuN) 200 2838 [(6, aI cd), (0, aR 1), (1, aR 2), (2, aR 71), (3, aR 120), (4, aR 121), (5, aI k)] [aF z] (wW d8 i9 j9 r.2.1 r'.2, c9, s9) = f [(7, aF z), (6, aI cd), (0, aR 1), (1, aR 2), (2, aR 71), (3, aR 120), (4, aR 121), (5, aI k)] [aR 71] (wW d8 i9 j9 r.2.1 r'.2, c9, s9) := fun _ _ _ _ => rfl
    have lC : ∀ c9 s9 : Nat, c9 + mC 170 ≤ cells + 20 ∧ s9 + mS 170 ≤ slots + 100 → LG p l e s m b below meth c D cy 2838 [(6, aI cd), (0, aR 1), (1, aR 2), (2, aR 71), (3, aR 120), (4, aR 121), (5, aI k)] [aF z] (wW d8 i9 j9 r.2.1 r'.2) c9 s9 := fun c9 s9 hc => by
      refine segQ hLC (pc2 := 2841) (N := 200) (callV_lg hLC (n := 170) (a := 71) (as := []) (rest := []) (by decide +kernel) (rowsB_at rwL_law (pc := 2841) (r := (3, .invokevirtual 149, 170, 1, 12)) rfl).1 (by decide +kernel) rfl ⟨by decide, by show 71 ≤ 121; omega⟩ (by decide +kernel) (by decide +kernel) (by decide +kernel) hT ⟨by omega, by omega⟩ (lD _ _ hc)) ?_
      rw [eC]
      exact cuQ_t
    have eB : ∀ (c9 s9 : Nat) (f : AL → AS → SW → Option Unit), segL L xs clN csL_law (cuC 2835 f cuN) 200 2826 [(0, aR 1), (1, aR 2), (2, aR 71), (3, aR 120), (4, aR 121), (5, aI k)] [aI cd] (wW d8 i9 j9 r.2.1 h', c9, s9) = gd (R32 (k + 1)) (gd ((0 : Int) ≤ (k + 1) ∧ (k + 1) < lnL L 1) (f [(6, aI cd), (0, aR 1), (1, aR 2), (2, aR 71), (3, aR 120), (4, aR 121), (5, aI k)] [aI (xa xs k 1), aR 71] (wW d8 i9 j9 r.2.1 h', c9, s9))) := fun _ _ _ => rfl
    refine segQ hLC (pc2 := 2835) (N := 200) (callV_lg hLC (n := 268) (a := 71) (as := [aI (xa xs k 1)]) (rest := []) (by decide +kernel) (rowsB_at rwL_law (pc := 2835) (r := (3, .invokevirtual 285, 268, 2, 12)) rfl).1 (by decide +kernel) rfl ⟨by decide, by show 71 ≤ 121; omega⟩ (by decide +kernel) (by decide +kernel) (by decide +kernel) hN ⟨by omega, by omega⟩ (lC _ _ c0)) ?_
    show segL L xs clN csL_law _ 200 2826 [(0, aR 1), (1, aR 2), (2, aR 71), (3, aR 120), (4, aR 121), (5, aI k)] [aI cd] _ = some ()
    rw [eB, hl1, gd_t ⟨by omega, by omega⟩, gd_t ⟨by omega, by omega⟩]
    exact cuQ_t
  have eA : ∀ (f : AL → AS → SW → Option Unit), segL L xs clN csL_law (cuC 2823 f cuN) 200 2814 [(0, aR 1), (1, aR 2), (2, aR 71), (3, aR 120), (4, aR 121), (5, aI k)] [] (wW d i9 j9 h h', cells, slots) = gd (R32 (k + 1)) (gd ((0 : Int) ≤ (k + 1) ∧ (k + 1) < lnL L 1) (f [(0, aR 1), (1, aR 2), (2, aR 71), (3, aR 120), (4, aR 121), (5, aI k)] [aR 121, aI (xa xs k 1), aR 2] (wW d i9 j9 h h', cells, slots))) := fun _ => rfl
  have sA : segL L xs clN csL_law (cuC 2823 (cuQ [(0, aR 1), (1, aR 2), (2, aR 71), (3, aR 120), (4, aR 121), (5, aI k)] [aR 121, aI (xa xs k 1), aR 2] (wW d i9 j9 h h', cells, slots) ()) cuN) 200 2814 [(0, aR 1), (1, aR 2), (2, aR 71), (3, aR 120), (4, aR 121), (5, aI k)] [] (wW d i9 j9 h h', cells, slots) = some () := by
    rw [eA, hl1, gd_t ⟨by omega, by omega⟩, gd_t ⟨by omega, by omega⟩]
    exact cuQ_t
  have c0 : cells + mC 312 ≤ 601024 ∧ slots + mS 312 ≤ 7293034 := ⟨roomA (n := 20) (by decide +kernel) hr.1, roomA (n := 100) (by decide +kernel) hr.2⟩
  have call : ∀ {v : Option AV} {σ1 : SG}, MCT 312 hhL_filled [aR 2, aI (xa xs k 1), aR 121] (wW d i9 j9 h h') (.inl v) σ1 → LG p l e s m b below meth c D cy 2826 (lcE k) (v.toList ++ []) σ1 (cells + mC 312) (slots + mS 312) → LG p l e s m b below meth c D cy 2814 (lcE k) [] (wW d i9 j9 h h') cells slots := fun hct kk => segQ hLC (callH_lg hLC (n := 312) (as := [aR 2, aI (xa xs k 1), aR 121]) (rest := []) (by decide +kernel) (rowsB_at rwL_law (pc := 2823) (r := (3, .invokestatic 282, 312, 3, 0)) rfl).1 (by decide +kernel) hwL_filled rfl (by decide +kernel) hct c0 kk) sA
  obtain ⟨o, hu⟩ := r
  cases o with
  | inl y =>
    obtain ⟨q1, q2⟩ := hq
    exact call (mct_d (hL_filled_0 (by show 121 ≤ 121; omega) (f2d_ok (fil_n er)) hM)) (mid 0 (up2 d 121 0 (FP.f2d y)) q1 (fun _ => ⟨by rw [up2_same, q2], by rw [q2]; exact f2d_ok (fil_n er)⟩))
  | inr ex =>
    obtain ⟨q1, q2⟩ := hq
    rcases (by omega : ex = 0 ∨ ex = 1 ∨ ex = 2 ∨ ex = 3 ∨ 4 ≤ ex) with z | z | z | z | z
    · subst z
      exact call (hL_filled_1 (by show 121 ≤ 121; omega) hM) (mid 1 d q2 (fun w => by cases w))
    · exact absurd (by rw [z]; rfl) q1
    · exact absurd (by rw [z]; rfl) q1
    · exact absurd (by rw [z]; rfl) q1
    · refine absurd ?_ q1
      show cdX 1 0 0 0 ex = 0
      unfold cdX
      rw [if_neg (by omega), if_neg (by omega), if_neg (by omega), if_neg (by omega)]
end LAWS
