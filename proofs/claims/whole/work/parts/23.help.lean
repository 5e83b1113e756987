def csL_street : List (Nat × List (Nat × ARow)) := [(100000, [(0, 2, .aload 6, 0, 0, 0), (2, 1, .iconst 0, 0, 0, 0), (3, 1, .aload_n 0, 0, 0, 0), (4, 1, .iload_n 1, 0, 0, 0), (5, 1, .iload_n 2, 0, 0, 0), (6, 1, .iload_n 3, 0, 0, 0), (7, 2, .iload 4, 0, 0, 0), (9, 2, .iload 5, 0, 0, 0), (11, 3, .invokevirtual 7, 112, 6, 11), (14, 1, .i2l, 0, 0, 0), (15, 1, .lastore, 0, 0, 0), (16, 3, .goto 15, 31, 0, 0), (19, 2, .astore 7, 0, 0, 0), (21, 1, .iconst 1, 0, 0, 0), (22, 1, .ireturn, 0, 0, 0), (23, 2, .astore 7, 0, 0, 0), (25, 1, .iconst 2, 0, 0, 0), (26, 1, .ireturn, 0, 0, 0), (27, 2, .astore 7, 0, 0, 0), (29, 1, .iconst 3, 0, 0, 0), (30, 1, .ireturn, 0, 0, 0), (31, 1, .iconst 0, 0, 0, 0), (32, 1, .ireturn, 0, 0, 0)])]
theorem rwL_street : rowsB (mB 276) (mO 276) (mX 276) (mIni 276) (mFr 276) (mLo 276) (mT 276) csL_street = true := by decide +kernel
def hhL_street : List (Nat × Nat × Nat × Nat) := [(0, 16, 19, 13), (0, 16, 23, 15), (0, 16, 27, 17)]
set_option maxRecDepth 100000 in
theorem hwL_street : Cond.codeWith (mY 276) (mB 276) (mX 276) (mT 276) hhL_street ∈ WG := wg4 (i := 12) rfl rfl
theorem hL_street_0 {σ : SG} {x1 x2 x3 x4 x5 : Int} {y : Int} {r : Nat → Int → Nat} {i j : Nat → Int → Int} {d : Nat → Int → UInt64} (h2 : 121 ≤ σ.1) (hM : MCT 112 [] (aR 2 :: [aI x1, aI x2, aI x3, aI x4, aI x5]) σ (.inl (some (aI y))) (121, r, i, j, d)) : MCT 276 hhL_street [aR 2, aI x1, aI x2, aI x3, aI x4, aI x5, aR 120] σ (.inl (some (aI 0))) (uJ (121, r, i, j, d) 120 0 y) := by
  have w0 : 0 + mC 112 ≤ mC 276 ∧ 0 + mS 112 ≤ mS 276 := by decide +kernel
  have w1 : WKH 276 hhL_street (.inl (some (aI 0))) σ (uJ (121, r, i, j, d) 120 0 y) 14 [(0, aR 2), (1, aI x1), (2, aI x2), (3, aI x3), (4, aI x4), (5, aI x5), (6, aR 120)] [aI y, aI 0, aR 120] (121, r, i, j, d) (0 + mC 112) (0 + mS 112) := segG_wkh (b := (some (aI 0), (uJ (121, r, i, j, d) 120 0 y, 0 + mC 112, 0 + mS 112))) rwL_street w0 ct_N 1000 14 [(0, aR 2), (1, aI x1), (2, aI x2), (3, aI x3), (4, aI x4), (5, aI x5), (6, aR 120)] [aI y, aI 0, aR 120] ((121, r, i, j, d), 0 + mC 112, 0 + mS 112) rfl
  have w2 := callV_wkh (cells := 0) (slots := 0) (n := 276) (m := 112) (hh := hhL_street) (as := [aI x1, aI x2, aI x3, aI x4, aI x5]) (rest := [aI 0, aR 120]) (lc := [(0, aR 2), (1, aI x1), (2, aI x2), (3, aI x3), (4, aI x4), (5, aI x5), (6, aR 120)]) (pc := 11) (idx := 7) rfl (by decide +kernel) (by decide +kernel) (by decide +kernel) rfl ⟨by decide, by omega⟩ (by decide +kernel) (by decide +kernel) (by decide +kernel) hM w0 (fun x h => by cases h) (fun v h => by cases h; exact w1)
  refine mct_ofH rfl hwL_street (MFok 276 (by decide +kernel)) (fun _ => Nat.le_of_ble_eq_true rfl) ?_
  refine segG_wkh (b := (some (aI 0), (uJ (121, r, i, j, d) 120 0 y, 0 + mC 112, 0 + mS 112))) rwL_street w0 (cut := cuC 11 (cuQ [(0, aR 2), (1, aI x1), (2, aI x2), (3, aI x3), (4, aI x4), (5, aI x5), (6, aR 120)] [aI x5, aI x4, aI x3, aI x2, aI x1, aR 2, aI 0, aR 120] (σ, 0, 0) (some (aI 0), (uJ (121, r, i, j, d) 120 0 y, 0 + mC 112, 0 + mS 112))) cuN) ?_ 1000 0 _ _ (σ, 0, 0) cuQ_t
  exact ct_C (fun lc st s1 h => by
    obtain ⟨rfl, rfl, rfl⟩ := cuQ_of h
    exact w2) ct_N
theorem hL_street_1 {σ σ1 : SG} {x1 x2 x3 x4 x5 : Int} (h2 : 121 ≤ σ.1) (hM : MCT 112 [] (aR 2 :: [aI x1, aI x2, aI x3, aI x4, aI x5]) σ (.inr 0) σ1) : MCT 276 hhL_street [aR 2, aI x1, aI x2, aI x3, aI x4, aI x5, aR 120] σ (.inl (some (aI 1))) σ1 := by
  have w0 : 0 + mC 112 ≤ mC 276 ∧ 0 + mS 112 ≤ mS 276 := by decide +kernel
  have w1 : WKH 276 hhL_street (.inl (some (aI 1))) σ σ1 21 (delL 7 [(0, aR 2), (1, aI x1), (2, aI x2), (3, aI x3), (4, aI x4), (5, aI x5), (6, aR 120)]) [] σ1 (0 + mC 112) (0 + mS 112) := segG_wkh (b := (some (aI 1), (σ1, 0 + mC 112, 0 + mS 112))) rwL_street w0 ct_N 1000 21 (delL 7 [(0, aR 2), (1, aI x1), (2, aI x2), (3, aI x3), (4, aI x4), (5, aI x5), (6, aR 120)]) [] (σ1, 0 + mC 112, 0 + mS 112) rfl
  have w2 := callV_wkh (cells := 0) (slots := 0) (n := 276) (m := 112) (hh := hhL_street) (as := [aI x1, aI x2, aI x3, aI x4, aI x5]) (rest := [aI 0, aR 120]) (lc := [(0, aR 2), (1, aI x1), (2, aI x2), (3, aI x3), (4, aI x4), (5, aI x5), (6, aR 120)]) (pc := 11) (idx := 7) rfl (by decide +kernel) (by decide +kernel) (by decide +kernel) rfl ⟨by decide, by omega⟩ (by decide +kernel) (by decide +kernel) (by decide +kernel) hM w0 (fun x h => by cases h; exact ⟨(21, 7), ⟨[], (0, 16, 19, 13), [(0, 16, 23, 15), (0, 16, 27, 17)], rfl, by decide, by decide, by decide, by decide, rfl, by decide +kernel, Or.inl ⟨by decide +kernel, rfl⟩⟩, w1⟩) (fun v h => by cases h)
  refine mct_ofH rfl hwL_street (MFok 276 (by decide +kernel)) (fun _ => Nat.le_of_ble_eq_true rfl) ?_
  refine segG_wkh (b := (some (aI 1), (σ1, 0 + mC 112, 0 + mS 112))) rwL_street w0 (cut := cuC 11 (cuQ [(0, aR 2), (1, aI x1), (2, aI x2), (3, aI x3), (4, aI x4), (5, aI x5), (6, aR 120)] [aI x5, aI x4, aI x3, aI x2, aI x1, aR 2, aI 0, aR 120] (σ, 0, 0) (some (aI 1), (σ1, 0 + mC 112, 0 + mS 112))) cuN) ?_ 1000 0 _ _ (σ, 0, 0) cuQ_t
  exact ct_C (fun lc st s1 h => by
    obtain ⟨rfl, rfl, rfl⟩ := cuQ_of h
    exact w2) ct_N
theorem hL_street_2 {σ σ1 : SG} {x1 x2 x3 x4 x5 : Int} (h2 : 121 ≤ σ.1) (hM : MCT 112 [] (aR 2 :: [aI x1, aI x2, aI x3, aI x4, aI x5]) σ (.inr 1) σ1) : MCT 276 hhL_street [aR 2, aI x1, aI x2, aI x3, aI x4, aI x5, aR 120] σ (.inl (some (aI 2))) σ1 := by
  have w0 : 0 + mC 112 ≤ mC 276 ∧ 0 + mS 112 ≤ mS 276 := by decide +kernel
  have w1 : WKH 276 hhL_street (.inl (some (aI 2))) σ σ1 25 (delL 7 [(0, aR 2), (1, aI x1), (2, aI x2), (3, aI x3), (4, aI x4), (5, aI x5), (6, aR 120)]) [] σ1 (0 + mC 112) (0 + mS 112) := segG_wkh (b := (some (aI 2), (σ1, 0 + mC 112, 0 + mS 112))) rwL_street w0 ct_N 1000 25 (delL 7 [(0, aR 2), (1, aI x1), (2, aI x2), (3, aI x3), (4, aI x4), (5, aI x5), (6, aR 120)]) [] (σ1, 0 + mC 112, 0 + mS 112) rfl
  have w2 := callV_wkh (cells := 0) (slots := 0) (n := 276) (m := 112) (hh := hhL_street) (as := [aI x1, aI x2, aI x3, aI x4, aI x5]) (rest := [aI 0, aR 120]) (lc := [(0, aR 2), (1, aI x1), (2, aI x2), (3, aI x3), (4, aI x4), (5, aI x5), (6, aR 120)]) (pc := 11) (idx := 7) rfl (by decide +kernel) (by decide +kernel) (by decide +kernel) rfl ⟨by decide, by omega⟩ (by decide +kernel) (by decide +kernel) (by decide +kernel) hM w0 (fun x h => by cases h; exact ⟨(25, 7), ⟨[(0, 16, 19, 13)], (0, 16, 23, 15), [(0, 16, 27, 17)], rfl, by decide, by decide, by decide, by decide, rfl, by decide +kernel, Or.inl ⟨by decide +kernel, rfl⟩⟩, w1⟩) (fun v h => by cases h)
  refine mct_ofH rfl hwL_street (MFok 276 (by decide +kernel)) (fun _ => Nat.le_of_ble_eq_true rfl) ?_
  refine segG_wkh (b := (some (aI 2), (σ1, 0 + mC 112, 0 + mS 112))) rwL_street w0 (cut := cuC 11 (cuQ [(0, aR 2), (1, aI x1), (2, aI x2), (3, aI x3), (4, aI x4), (5, aI x5), (6, aR 120)] [aI x5, aI x4, aI x3, aI x2, aI x1, aR 2, aI 0, aR 120] (σ, 0, 0) (some (aI 2), (σ1, 0 + mC 112, 0 + mS 112))) cuN) ?_ 1000 0 _ _ (σ, 0, 0) cuQ_t
  exact ct_C (fun lc st s1 h => by
    obtain ⟨rfl, rfl, rfl⟩ := cuQ_of h
    exact w2) ct_N
theorem hL_street_3 {σ σ1 : SG} {x1 x2 x3 x4 x5 : Int} (h2 : 121 ≤ σ.1) (hM : MCT 112 [] (aR 2 :: [aI x1, aI x2, aI x3, aI x4, aI x5]) σ (.inr 2) σ1) : MCT 276 hhL_street [aR 2, aI x1, aI x2, aI x3, aI x4, aI x5, aR 120] σ (.inl (some (aI 3))) σ1 := by
  have w0 : 0 + mC 112 ≤ mC 276 ∧ 0 + mS 112 ≤ mS 276 := by decide +kernel
  have w1 : WKH 276 hhL_street (.inl (some (aI 3))) σ σ1 29 (delL 7 [(0, aR 2), (1, aI x1), (2, aI x2), (3, aI x3), (4, aI x4), (5, aI x5), (6, aR 120)]) [] σ1 (0 + mC 112) (0 + mS 112) := segG_wkh (b := (some (aI 3), (σ1, 0 + mC 112, 0 + mS 112))) rwL_street w0 ct_N 1000 29 (delL 7 [(0, aR 2), (1, aI x1), (2, aI x2), (3, aI x3), (4, aI x4), (5, aI x5), (6, aR 120)]) [] (σ1, 0 + mC 112, 0 + mS 112) rfl
  have w2 := callV_wkh (cells := 0) (slots := 0) (n := 276) (m := 112) (hh := hhL_street) (as := [aI x1, aI x2, aI x3, aI x4, aI x5]) (rest := [aI 0, aR 120]) (lc := [(0, aR 2), (1, aI x1), (2, aI x2), (3, aI x3), (4, aI x4), (5, aI x5), (6, aR 120)]) (pc := 11) (idx := 7) rfl (by decide +kernel) (by decide +kernel) (by decide +kernel) rfl ⟨by decide, by omega⟩ (by decide +kernel) (by decide +kernel) (by decide +kernel) hM w0 (fun x h => by cases h; exact ⟨(29, 7), ⟨[(0, 16, 19, 13), (0, 16, 23, 15)], (0, 16, 27, 17), [], rfl, by decide, by decide, by decide, by decide, rfl, by decide +kernel, Or.inl ⟨by decide +kernel, rfl⟩⟩, w1⟩) (fun v h => by cases h)
  refine mct_ofH rfl hwL_street (MFok 276 (by decide +kernel)) (fun _ => Nat.le_of_ble_eq_true rfl) ?_
  refine segG_wkh (b := (some (aI 3), (σ1, 0 + mC 112, 0 + mS 112))) rwL_street w0 (cut := cuC 11 (cuQ [(0, aR 2), (1, aI x1), (2, aI x2), (3, aI x3), (4, aI x4), (5, aI x5), (6, aR 120)] [aI x5, aI x4, aI x3, aI x2, aI x1, aR 2, aI 0, aR 120] (σ, 0, 0) (some (aI 3), (σ1, 0 + mC 112, 0 + mS 112))) cuN) ?_ 1000 0 _ _ (σ, 0, 0) cuQ_t
  exact ct_C (fun lc st s1 h => by
    obtain ⟨rfl, rfl, rfl⟩ := cuQ_of h
    exact w2) ct_N
def csL_factor : List (Nat × List (Nat × ARow)) := [(100000, [(0, 1, .aload_n 3, 0, 0, 0), (1, 1, .iconst 0, 0, 0, 0), (2, 1, .aload_n 0, 0, 0, 0), (3, 1, .iload_n 1, 0, 0, 0), (4, 1, .iload_n 2, 0, 0, 0), (5, 3, .invokevirtual 19, 113, 3, 11), (8, 1, .i2l, 0, 0, 0), (9, 1, .lastore, 0, 0, 0), (10, 3, .goto 7, 17, 0, 0), (13, 2, .astore 4, 0, 0, 0), (15, 1, .iconst 1, 0, 0, 0), (16, 1, .ireturn, 0, 0, 0), (17, 1, .iconst 0, 0, 0, 0), (18, 1, .ireturn, 0, 0, 0)])]
theorem rwL_factor : rowsB (mB 277) (mO 277) (mX 277) (mIni 277) (mFr 277) (mLo 277) (mT 277) csL_factor = true := by decide +kernel
def hhL_factor : List (Nat × Nat × Nat × Nat) := [(0, 10, 13, 15)]
set_option maxRecDepth 100000 in
theorem hwL_factor : Cond.codeWith (mY 277) (mB 277) (mX 277) (mT 277) hhL_factor ∈ WG := wg4 (i := 148) rfl rfl
theorem hL_factor_0 {σ : SG} {x1 x2 : Int} {y : Int} {r : Nat → Int → Nat} {i j : Nat → Int → Int} {d : Nat → Int → UInt64} (h2 : 121 ≤ σ.1) (hM : MCT 113 [] (aR 2 :: [aI x1, aI x2]) σ (.inl (some (aI y))) (121, r, i, j, d)) : MCT 277 hhL_factor [aR 2, aI x1, aI x2, aR 120] σ (.inl (some (aI 0))) (uJ (121, r, i, j, d) 120 0 y) := by
  have w0 : 0 + mC 113 ≤ mC 277 ∧ 0 + mS 113 ≤ mS 277 := by decide +kernel
  have w1 : WKH 277 hhL_factor (.inl (some (aI 0))) σ (uJ (121, r, i, j, d) 120 0 y) 8 [(0, aR 2), (1, aI x1), (2, aI x2), (3, aR 120)] [aI y, aI 0, aR 120] (121, r, i, j, d) (0 + mC 113) (0 + mS 113) := segG_wkh (b := (some (aI 0), (uJ (121, r, i, j, d) 120 0 y, 0 + mC 113, 0 + mS 113))) rwL_factor w0 ct_N 1000 8 [(0, aR 2), (1, aI x1), (2, aI x2), (3, aR 120)] [aI y, aI 0, aR 120] ((121, r, i, j, d), 0 + mC 113, 0 + mS 113) rfl
  have w2 := callV_wkh (cells := 0) (slots := 0) (n := 277) (m := 113) (hh := hhL_factor) (as := [aI x1, aI x2]) (rest := [aI 0, aR 120]) (lc := [(0, aR 2), (1, aI x1), (2, aI x2), (3, aR 120)]) (pc := 5) (idx := 19) rfl (by decide +kernel) (by decide +kernel) (by decide +kernel) rfl ⟨by decide, by omega⟩ (by decide +kernel) (by decide +kernel) (by decide +kernel) hM w0 (fun x h => by cases h) (fun v h => by cases h; exact w1)
  refine mct_ofH rfl hwL_factor (MFok 277 (by decide +kernel)) (fun _ => Nat.le_of_ble_eq_true rfl) ?_
  refine segG_wkh (b := (some (aI 0), (uJ (121, r, i, j, d) 120 0 y, 0 + mC 113, 0 + mS 113))) rwL_factor w0 (cut := cuC 5 (cuQ [(0, aR 2), (1, aI x1), (2, aI x2), (3, aR 120)] [aI x2, aI x1, aR 2, aI 0, aR 120] (σ, 0, 0) (some (aI 0), (uJ (121, r, i, j, d) 120 0 y, 0 + mC 113, 0 + mS 113))) cuN) ?_ 1000 0 _ _ (σ, 0, 0) cuQ_t
  exact ct_C (fun lc st s1 h => by
    obtain ⟨rfl, rfl, rfl⟩ := cuQ_of h
    exact w2) ct_N
theorem hL_factor_1 {σ σ1 : SG} {x1 x2 : Int} (h2 : 121 ≤ σ.1) (hM : MCT 113 [] (aR 2 :: [aI x1, aI x2]) σ (.inr 1) σ1) : MCT 277 hhL_factor [aR 2, aI x1, aI x2, aR 120] σ (.inl (some (aI 1))) σ1 := by
  have w0 : 0 + mC 113 ≤ mC 277 ∧ 0 + mS 113 ≤ mS 277 := by decide +kernel
  have w1 : WKH 277 hhL_factor (.inl (some (aI 1))) σ σ1 15 (delL 4 [(0, aR 2), (1, aI x1), (2, aI x2), (3, aR 120)]) [] σ1 (0 + mC 113) (0 + mS 113) := segG_wkh (b := (some (aI 1), (σ1, 0 + mC 113, 0 + mS 113))) rwL_factor w0 ct_N 1000 15 (delL 4 [(0, aR 2), (1, aI x1), (2, aI x2), (3, aR 120)]) [] (σ1, 0 + mC 113, 0 + mS 113) rfl
  have w2 := callV_wkh (cells := 0) (slots := 0) (n := 277) (m := 113) (hh := hhL_factor) (as := [aI x1, aI x2]) (rest := [aI 0, aR 120]) (lc := [(0, aR 2), (1, aI x1), (2, aI x2), (3, aR 120)]) (pc := 5) (idx := 19) rfl (by decide +kernel) (by decide +kernel) (by decide +kernel) rfl ⟨by decide, by omega⟩ (by decide +kernel) (by decide +kernel) (by decide +kernel) hM w0 (fun x h => by cases h; exact ⟨(15, 4), ⟨[], (0, 10, 13, 15), [], rfl, by decide, by decide, by decide, by decide, rfl, by decide +kernel, Or.inl ⟨by decide +kernel, rfl⟩⟩, w1⟩) (fun v h => by cases h)
  refine mct_ofH rfl hwL_factor (MFok 277 (by decide +kernel)) (fun _ => Nat.le_of_ble_eq_true rfl) ?_
  refine segG_wkh (b := (some (aI 1), (σ1, 0 + mC 113, 0 + mS 113))) rwL_factor w0 (cut := cuC 5 (cuQ [(0, aR 2), (1, aI x1), (2, aI x2), (3, aR 120)] [aI x2, aI x1, aR 2, aI 0, aR 120] (σ, 0, 0) (some (aI 1), (σ1, 0 + mC 113, 0 + mS 113))) cuN) ?_ 1000 0 _ _ (σ, 0, 0) cuQ_t
  exact ct_C (fun lc st s1 h => by
    obtain ⟨rfl, rfl, rfl⟩ := cuQ_of h
    exact w2) ct_N
def csL_way : List (Nat × List (Nat × ARow)) := [(100000, [(0, 2, .aload 4, 0, 0, 0), (2, 1, .iconst 0, 0, 0, 0), (3, 1, .aload_n 0, 0, 0, 0), (4, 1, .iload_n 1, 0, 0, 0), (5, 1, .iload_n 2, 0, 0, 0), (6, 1, .iload_n 3, 0, 0, 0), (7, 3, .invokevirtual 23, 114, 4, 11), (10, 1, .i2l, 0, 0, 0), (11, 1, .lastore, 0, 0, 0), (12, 3, .goto 11, 23, 0, 0), (15, 2, .astore 5, 0, 0, 0), (17, 1, .iconst 1, 0, 0, 0), (18, 1, .ireturn, 0, 0, 0), (19, 2, .astore 5, 0, 0, 0), (21, 1, .iconst 2, 0, 0, 0), (22, 1, .ireturn, 0, 0, 0), (23, 1, .iconst 0, 0, 0, 0), (24, 1, .ireturn, 0, 0, 0)])]
theorem rwL_way : rowsB (mB 278) (mO 278) (mX 278) (mIni 278) (mFr 278) (mLo 278) (mT 278) csL_way = true := by decide +kernel
def hhL_way : List (Nat × Nat × Nat × Nat) := [(0, 12, 15, 13), (0, 12, 19, 15)]
set_option maxRecDepth 100000 in
theorem hwL_way : Cond.codeWith (mY 278) (mB 278) (mX 278) (mT 278) hhL_way ∈ WG := wg4 (i := 155) rfl rfl
theorem hL_way_0 {σ : SG} {x1 x2 x3 : Int} {y : Int} {r : Nat → Int → Nat} {i j : Nat → Int → Int} {d : Nat → Int → UInt64} (h2 : 121 ≤ σ.1) (hM : MCT 114 [] (aR 2 :: [aI x1, aI x2, aI x3]) σ (.inl (some (aI y))) (121, r, i, j, d)) : MCT 278 hhL_way [aR 2, aI x1, aI x2, aI x3, aR 120] σ (.inl (some (aI 0))) (uJ (121, r, i, j, d) 120 0 y) := by
  have w0 : 0 + mC 114 ≤ mC 278 ∧ 0 + mS 114 ≤ mS 278 := by decide +kernel
  have w1 : WKH 278 hhL_way (.inl (some (aI 0))) σ (uJ (121, r, i, j, d) 120 0 y) 10 [(0, aR 2), (1, aI x1), (2, aI x2), (3, aI x3), (4, aR 120)] [aI y, aI 0, aR 120] (121, r, i, j, d) (0 + mC 114) (0 + mS 114) := segG_wkh (b := (some (aI 0), (uJ (121, r, i, j, d) 120 0 y, 0 + mC 114, 0 + mS 114))) rwL_way w0 ct_N 1000 10 [(0, aR 2), (1, aI x1), (2, aI x2), (3, aI x3), (4, aR 120)] [aI y, aI 0, aR 120] ((121, r, i, j, d), 0 + mC 114, 0 + mS 114) rfl
  have w2 := callV_wkh (cells := 0) (slots := 0) (n := 278) (m := 114) (hh := hhL_way) (as := [aI x1, aI x2, aI x3]) (rest := [aI 0, aR 120]) (lc := [(0, aR 2), (1, aI x1), (2, aI x2), (3, aI x3), (4, aR 120)]) (pc := 7) (idx := 23) rfl (by decide +kernel) (by decide +kernel) (by decide +kernel) rfl ⟨by decide, by omega⟩ (by decide +kernel) (by decide +kernel) (by decide +kernel) hM w0 (fun x h => by cases h) (fun v h => by cases h; exact w1)
  refine mct_ofH rfl hwL_way (MFok 278 (by decide +kernel)) (fun _ => Nat.le_of_ble_eq_true rfl) ?_
  refine segG_wkh (b := (some (aI 0), (uJ (121, r, i, j, d) 120 0 y, 0 + mC 114, 0 + mS 114))) rwL_way w0 (cut := cuC 7 (cuQ [(0, aR 2), (1, aI x1), (2, aI x2), (3, aI x3), (4, aR 120)] [aI x3, aI x2, aI x1, aR 2, aI 0, aR 120] (σ, 0, 0) (some (aI 0), (uJ (121, r, i, j, d) 120 0 y, 0 + mC 114, 0 + mS 114))) cuN) ?_ 1000 0 _ _ (σ, 0, 0) cuQ_t
  exact ct_C (fun lc st s1 h => by
    obtain ⟨rfl, rfl, rfl⟩ := cuQ_of h
    exact w2) ct_N
theorem hL_way_1 {σ σ1 : SG} {x1 x2 x3 : Int} (h2 : 121 ≤ σ.1) (hM : MCT 114 [] (aR 2 :: [aI x1, aI x2, aI x3]) σ (.inr 0) σ1) : MCT 278 hhL_way [aR 2, aI x1, aI x2, aI x3, aR 120] σ (.inl (some (aI 1))) σ1 := by
  have w0 : 0 + mC 114 ≤ mC 278 ∧ 0 + mS 114 ≤ mS 278 := by decide +kernel
  have w1 : WKH 278 hhL_way (.inl (some (aI 1))) σ σ1 17 (delL 5 [(0, aR 2), (1, aI x1), (2, aI x2), (3, aI x3), (4, aR 120)]) [] σ1 (0 + mC 114) (0 + mS 114) := segG_wkh (b := (some (aI 1), (σ1, 0 + mC 114, 0 + mS 114))) rwL_way w0 ct_N 1000 17 (delL 5 [(0, aR 2), (1, aI x1), (2, aI x2), (3, aI x3), (4, aR 120)]) [] (σ1, 0 + mC 114, 0 + mS 114) rfl
  have w2 := callV_wkh (cells := 0) (slots := 0) (n := 278) (m := 114) (hh := hhL_way) (as := [aI x1, aI x2, aI x3]) (rest := [aI 0, aR 120]) (lc := [(0, aR 2), (1, aI x1), (2, aI x2), (3, aI x3), (4, aR 120)]) (pc := 7) (idx := 23) rfl (by decide +kernel) (by decide +kernel) (by decide +kernel) rfl ⟨by decide, by omega⟩ (by decide +kernel) (by decide +kernel) (by decide +kernel) hM w0 (fun x h => by cases h; exact ⟨(17, 5), ⟨[], (0, 12, 15, 13), [(0, 12, 19, 15)], rfl, by decide, by decide, by decide, by decide, rfl, by decide +kernel, Or.inl ⟨by decide +kernel, rfl⟩⟩, w1⟩) (fun v h => by cases h)
  refine mct_ofH rfl hwL_way (MFok 278 (by decide +kernel)) (fun _ => Nat.le_of_ble_eq_true rfl) ?_
  refine segG_wkh (b := (some (aI 1), (σ1, 0 + mC 114, 0 + mS 114))) rwL_way w0 (cut := cuC 7 (cuQ [(0, aR 2), (1, aI x1), (2, aI x2), (3, aI x3), (4, aR 120)] [aI x3, aI x2, aI x1, aR 2, aI 0, aR 120] (σ, 0, 0) (some (aI 1), (σ1, 0 + mC 114, 0 + mS 114))) cuN) ?_ 1000 0 _ _ (σ, 0, 0) cuQ_t
  exact ct_C (fun lc st s1 h => by
    obtain ⟨rfl, rfl, rfl⟩ := cuQ_of h
    exact w2) ct_N
theorem hL_way_2 {σ σ1 : SG} {x1 x2 x3 : Int} (h2 : 121 ≤ σ.1) (hM : MCT 114 [] (aR 2 :: [aI x1, aI x2, aI x3]) σ (.inr 1) σ1) : MCT 278 hhL_way [aR 2, aI x1, aI x2, aI x3, aR 120] σ (.inl (some (aI 2))) σ1 := by
  have w0 : 0 + mC 114 ≤ mC 278 ∧ 0 + mS 114 ≤ mS 278 := by decide +kernel
  have w1 : WKH 278 hhL_way (.inl (some (aI 2))) σ σ1 21 (delL 5 [(0, aR 2), (1, aI x1), (2, aI x2), (3, aI x3), (4, aR 120)]) [] σ1 (0 + mC 114) (0 + mS 114) := segG_wkh (b := (some (aI 2), (σ1, 0 + mC 114, 0 + mS 114))) rwL_way w0 ct_N 1000 21 (delL 5 [(0, aR 2), (1, aI x1), (2, aI x2), (3, aI x3), (4, aR 120)]) [] (σ1, 0 + mC 114, 0 + mS 114) rfl
  have w2 := callV_wkh (cells := 0) (slots := 0) (n := 278) (m := 114) (hh := hhL_way) (as := [aI x1, aI x2, aI x3]) (rest := [aI 0, aR 120]) (lc := [(0, aR 2), (1, aI x1), (2, aI x2), (3, aI x3), (4, aR 120)]) (pc := 7) (idx := 23) rfl (by decide +kernel) (by decide +kernel) (by decide +kernel) rfl ⟨by decide, by omega⟩ (by decide +kernel) (by decide +kernel) (by decide +kernel) hM w0 (fun x h => by cases h; exact ⟨(21, 5), ⟨[(0, 12, 15, 13)], (0, 12, 19, 15), [], rfl, by decide, by decide, by decide, by decide, rfl, by decide +kernel, Or.inl ⟨by decide +kernel, rfl⟩⟩, w1⟩) (fun v h => by cases h)
  refine mct_ofH rfl hwL_way (MFok 278 (by decide +kernel)) (fun _ => Nat.le_of_ble_eq_true rfl) ?_
  refine segG_wkh (b := (some (aI 2), (σ1, 0 + mC 114, 0 + mS 114))) rwL_way w0 (cut := cuC 7 (cuQ [(0, aR 2), (1, aI x1), (2, aI x2), (3, aI x3), (4, aR 120)] [aI x3, aI x2, aI x1, aR 2, aI 0, aR 120] (σ, 0, 0) (some (aI 2), (σ1, 0 + mC 114, 0 + mS 114))) cuN) ?_ 1000 0 _ _ (σ, 0, 0) cuQ_t
  exact ct_C (fun lc st s1 h => by
    obtain ⟨rfl, rfl, rfl⟩ := cuQ_of h
    exact w2) ct_N
def csL_arrival : List (Nat × List (Nat × ARow)) := [(100000, [(0, 2, .aload 4, 0, 0, 0), (2, 1, .iconst 0, 0, 0, 0), (3, 1, .aload_n 0, 0, 0, 0), (4, 1, .iload_n 1, 0, 0, 0), (5, 1, .iload_n 2, 0, 0, 0), (6, 1, .iload_n 3, 0, 0, 0), (7, 3, .invokevirtual 27, 115, 4, 11), (10, 1, .i2l, 0, 0, 0), (11, 1, .lastore, 0, 0, 0), (12, 3, .goto 11, 23, 0, 0), (15, 2, .astore 5, 0, 0, 0), (17, 1, .iconst 1, 0, 0, 0), (18, 1, .ireturn, 0, 0, 0), (19, 2, .astore 5, 0, 0, 0), (21, 1, .iconst 2, 0, 0, 0), (22, 1, .ireturn, 0, 0, 0), (23, 1, .iconst 0, 0, 0, 0), (24, 1, .ireturn, 0, 0, 0)])]
theorem rwL_arrival : rowsB (mB 279) (mO 279) (mX 279) (mIni 279) (mFr 279) (mLo 279) (mT 279) csL_arrival = true := by decide +kernel
def hhL_arrival : List (Nat × Nat × Nat × Nat) := [(0, 12, 15, 13), (0, 12, 19, 15)]
set_option maxRecDepth 100000 in
theorem hwL_arrival : Cond.codeWith (mY 279) (mB 279) (mX 279) (mT 279) hhL_arrival ∈ WG := wg4 (i := 163) rfl rfl
theorem hL_arrival_0 {σ : SG} {x1 x2 x3 : Int} {y : Int} {r : Nat → Int → Nat} {i j : Nat → Int → Int} {d : Nat → Int → UInt64} (h2 : 121 ≤ σ.1) (hM : MCT 115 [] (aR 2 :: [aI x1, aI x2, aI x3]) σ (.inl (some (aI y))) (121, r, i, j, d)) : MCT 279 hhL_arrival [aR 2, aI x1, aI x2, aI x3, aR 120] σ (.inl (some (aI 0))) (uJ (121, r, i, j, d) 120 0 y) := by
  have w0 : 0 + mC 115 ≤ mC 279 ∧ 0 + mS 115 ≤ mS 279 := by decide +kernel
  have w1 : WKH 279 hhL_arrival (.inl (some (aI 0))) σ (uJ (121, r, i, j, d) 120 0 y) 10 [(0, aR 2), (1, aI x1), (2, aI x2), (3, aI x3), (4, aR 120)] [aI y, aI 0, aR 120] (121, r, i, j, d) (0 + mC 115) (0 + mS 115) := segG_wkh (b := (some (aI 0), (uJ (121, r, i, j, d) 120 0 y, 0 + mC 115, 0 + mS 115))) rwL_arrival w0 ct_N 1000 10 [(0, aR 2), (1, aI x1), (2, aI x2), (3, aI x3), (4, aR 120)] [aI y, aI 0, aR 120] ((121, r, i, j, d), 0 + mC 115, 0 + mS 115) rfl
  have w2 := callV_wkh (cells := 0) (slots := 0) (n := 279) (m := 115) (hh := hhL_arrival) (as := [aI x1, aI x2, aI x3]) (rest := [aI 0, aR 120]) (lc := [(0, aR 2), (1, aI x1), (2, aI x2), (3, aI x3), (4, aR 120)]) (pc := 7) (idx := 27) rfl (by decide +kernel) (by decide +kernel) (by decide +kernel) rfl ⟨by decide, by omega⟩ (by decide +kernel) (by decide +kernel) (by decide +kernel) hM w0 (fun x h => by cases h) (fun v h => by cases h; exact w1)
  refine mct_ofH rfl hwL_arrival (MFok 279 (by decide +kernel)) (fun _ => Nat.le_of_ble_eq_true rfl) ?_
  refine segG_wkh (b := (some (aI 0), (uJ (121, r, i, j, d) 120 0 y, 0 + mC 115, 0 + mS 115))) rwL_arrival w0 (cut := cuC 7 (cuQ [(0, aR 2), (1, aI x1), (2, aI x2), (3, aI x3), (4, aR 120)] [aI x3, aI x2, aI x1, aR 2, aI 0, aR 120] (σ, 0, 0) (some (aI 0), (uJ (121, r, i, j, d) 120 0 y, 0 + mC 115, 0 + mS 115))) cuN) ?_ 1000 0 _ _ (σ, 0, 0) cuQ_t
  exact ct_C (fun lc st s1 h => by
    obtain ⟨rfl, rfl, rfl⟩ := cuQ_of h
    exact w2) ct_N
theorem hL_arrival_1 {σ σ1 : SG} {x1 x2 x3 : Int} (h2 : 121 ≤ σ.1) (hM : MCT 115 [] (aR 2 :: [aI x1, aI x2, aI x3]) σ (.inr 0) σ1) : MCT 279 hhL_arrival [aR 2, aI x1, aI x2, aI x3, aR 120] σ (.inl (some (aI 1))) σ1 := by
  have w0 : 0 + mC 115 ≤ mC 279 ∧ 0 + mS 115 ≤ mS 279 := by decide +kernel
  have w1 : WKH 279 hhL_arrival (.inl (some (aI 1))) σ σ1 17 (delL 5 [(0, aR 2), (1, aI x1), (2, aI x2), (3, aI x3), (4, aR 120)]) [] σ1 (0 + mC 115) (0 + mS 115) := segG_wkh (b := (some (aI 1), (σ1, 0 + mC 115, 0 + mS 115))) rwL_arrival w0 ct_N 1000 17 (delL 5 [(0, aR 2), (1, aI x1), (2, aI x2), (3, aI x3), (4, aR 120)]) [] (σ1, 0 + mC 115, 0 + mS 115) rfl
  have w2 := callV_wkh (cells := 0) (slots := 0) (n := 279) (m := 115) (hh := hhL_arrival) (as := [aI x1, aI x2, aI x3]) (rest := [aI 0, aR 120]) (lc := [(0, aR 2), (1, aI x1), (2, aI x2), (3, aI x3), (4, aR 120)]) (pc := 7) (idx := 27) rfl (by decide +kernel) (by decide +kernel) (by decide +kernel) rfl ⟨by decide, by omega⟩ (by decide +kernel) (by decide +kernel) (by decide +kernel) hM w0 (fun x h => by cases h; exact ⟨(17, 5), ⟨[], (0, 12, 15, 13), [(0, 12, 19, 15)], rfl, by decide, by decide, by decide, by decide, rfl, by decide +kernel, Or.inl ⟨by decide +kernel, rfl⟩⟩, w1⟩) (fun v h => by cases h)
  refine mct_ofH rfl hwL_arrival (MFok 279 (by decide +kernel)) (fun _ => Nat.le_of_ble_eq_true rfl) ?_
  refine segG_wkh (b := (some (aI 1), (σ1, 0 + mC 115, 0 + mS 115))) rwL_arrival w0 (cut := cuC 7 (cuQ [(0, aR 2), (1, aI x1), (2, aI x2), (3, aI x3), (4, aR 120)] [aI x3, aI x2, aI x1, aR 2, aI 0, aR 120] (σ, 0, 0) (some (aI 1), (σ1, 0 + mC 115, 0 + mS 115))) cuN) ?_ 1000 0 _ _ (σ, 0, 0) cuQ_t
  exact ct_C (fun lc st s1 h => by
    obtain ⟨rfl, rfl, rfl⟩ := cuQ_of h
    exact w2) ct_N
theorem hL_arrival_2 {σ σ1 : SG} {x1 x2 x3 : Int} (h2 : 121 ≤ σ.1) (hM : MCT 115 [] (aR 2 :: [aI x1, aI x2, aI x3]) σ (.inr 1) σ1) : MCT 279 hhL_arrival [aR 2, aI x1, aI x2, aI x3, aR 120] σ (.inl (some (aI 2))) σ1 := by
  have w0 : 0 + mC 115 ≤ mC 279 ∧ 0 + mS 115 ≤ mS 279 := by decide +kernel
  have w1 : WKH 279 hhL_arrival (.inl (some (aI 2))) σ σ1 21 (delL 5 [(0, aR 2), (1, aI x1), (2, aI x2), (3, aI x3), (4, aR 120)]) [] σ1 (0 + mC 115) (0 + mS 115) := segG_wkh (b := (some (aI 2), (σ1, 0 + mC 115, 0 + mS 115))) rwL_arrival w0 ct_N 1000 21 (delL 5 [(0, aR 2), (1, aI x1), (2, aI x2), (3, aI x3), (4, aR 120)]) [] (σ1, 0 + mC 115, 0 + mS 115) rfl
  have w2 := callV_wkh (cells := 0) (slots := 0) (n := 279) (m := 115) (hh := hhL_arrival) (as := [aI x1, aI x2, aI x3]) (rest := [aI 0, aR 120]) (lc := [(0, aR 2), (1, aI x1), (2, aI x2), (3, aI x3), (4, aR 120)]) (pc := 7) (idx := 27) rfl (by decide +kernel) (by decide +kernel) (by decide +kernel) rfl ⟨by decide, by omega⟩ (by decide +kernel) (by decide +kernel) (by decide +kernel) hM w0 (fun x h => by cases h; exact ⟨(21, 5), ⟨[(0, 12, 15, 13)], (0, 12, 19, 15), [], rfl, by decide, by decide, by decide, by decide, rfl, by decide +kernel, Or.inl ⟨by decide +kernel, rfl⟩⟩, w1⟩) (fun v h => by cases h)
  refine mct_ofH rfl hwL_arrival (MFok 279 (by decide +kernel)) (fun _ => Nat.le_of_ble_eq_true rfl) ?_
  refine segG_wkh (b := (some (aI 2), (σ1, 0 + mC 115, 0 + mS 115))) rwL_arrival w0 (cut := cuC 7 (cuQ [(0, aR 2), (1, aI x1), (2, aI x2), (3, aI x3), (4, aR 120)] [aI x3, aI x2, aI x1, aR 2, aI 0, aR 120] (σ, 0, 0) (some (aI 2), (σ1, 0 + mC 115, 0 + mS 115))) cuN) ?_ 1000 0 _ _ (σ, 0, 0) cuQ_t
  exact ct_C (fun lc st s1 h => by
    obtain ⟨rfl, rfl, rfl⟩ := cuQ_of h
    exact w2) ct_N
def csL_clock : List (Nat × List (Nat × ARow)) := [(100000, [(0, 2, .aload 4, 0, 0, 0), (2, 1, .iconst 0, 0, 0, 0), (3, 1, .aload_n 0, 0, 0, 0), (4, 1, .iload_n 1, 0, 0, 0), (5, 1, .iload_n 2, 0, 0, 0), (6, 1, .iload_n 3, 0, 0, 0), (7, 3, .invokevirtual 30, 116, 4, 11), (10, 1, .i2l, 0, 0, 0), (11, 1, .lastore, 0, 0, 0), (12, 3, .goto 7, 19, 0, 0), (15, 2, .astore 5, 0, 0, 0), (17, 1, .iconst 1, 0, 0, 0), (18, 1, .ireturn, 0, 0, 0), (19, 1, .iconst 0, 0, 0, 0), (20, 1, .ireturn, 0, 0, 0)])]
theorem rwL_clock : rowsB (mB 280) (mO 280) (mX 280) (mIni 280) (mFr 280) (mLo 280) (mT 280) csL_clock = true := by decide +kernel
def hhL_clock : List (Nat × Nat × Nat × Nat) := [(0, 12, 15, 15)]
set_option maxRecDepth 100000 in
theorem hwL_clock : Cond.codeWith (mY 280) (mB 280) (mX 280) (mT 280) hhL_clock ∈ WG := wg4 (i := 191) rfl rfl
theorem hL_clock_0 {σ : SG} {x1 x2 x3 : Int} {y : Int} {r : Nat → Int → Nat} {i j : Nat → Int → Int} {d : Nat → Int → UInt64} (h2 : 121 ≤ σ.1) (hM : MCT 116 [] (aR 2 :: [aI x1, aI x2, aI x3]) σ (.inl (some (aI y))) (121, r, i, j, d)) : MCT 280 hhL_clock [aR 2, aI x1, aI x2, aI x3, aR 120] σ (.inl (some (aI 0))) (uJ (121, r, i, j, d) 120 0 y) := by
  have w0 : 0 + mC 116 ≤ mC 280 ∧ 0 + mS 116 ≤ mS 280 := by decide +kernel
  have w1 : WKH 280 hhL_clock (.inl (some (aI 0))) σ (uJ (121, r, i, j, d) 120 0 y) 10 [(0, aR 2), (1, aI x1), (2, aI x2), (3, aI x3), (4, aR 120)] [aI y, aI 0, aR 120] (121, r, i, j, d) (0 + mC 116) (0 + mS 116) := segG_wkh (b := (some (aI 0), (uJ (121, r, i, j, d) 120 0 y, 0 + mC 116, 0 + mS 116))) rwL_clock w0 ct_N 1000 10 [(0, aR 2), (1, aI x1), (2, aI x2), (3, aI x3), (4, aR 120)] [aI y, aI 0, aR 120] ((121, r, i, j, d), 0 + mC 116, 0 + mS 116) rfl
  have w2 := callV_wkh (cells := 0) (slots := 0) (n := 280) (m := 116) (hh := hhL_clock) (as := [aI x1, aI x2, aI x3]) (rest := [aI 0, aR 120]) (lc := [(0, aR 2), (1, aI x1), (2, aI x2), (3, aI x3), (4, aR 120)]) (pc := 7) (idx := 30) rfl (by decide +kernel) (by decide +kernel) (by decide +kernel) rfl ⟨by decide, by omega⟩ (by decide +kernel) (by decide +kernel) (by decide +kernel) hM w0 (fun x h => by cases h) (fun v h => by cases h; exact w1)
  refine mct_ofH rfl hwL_clock (MFok 280 (by decide +kernel)) (fun _ => Nat.le_of_ble_eq_true rfl) ?_
  refine segG_wkh (b := (some (aI 0), (uJ (121, r, i, j, d) 120 0 y, 0 + mC 116, 0 + mS 116))) rwL_clock w0 (cut := cuC 7 (cuQ [(0, aR 2), (1, aI x1), (2, aI x2), (3, aI x3), (4, aR 120)] [aI x3, aI x2, aI x1, aR 2, aI 0, aR 120] (σ, 0, 0) (some (aI 0), (uJ (121, r, i, j, d) 120 0 y, 0 + mC 116, 0 + mS 116))) cuN) ?_ 1000 0 _ _ (σ, 0, 0) cuQ_t
  exact ct_C (fun lc st s1 h => by
    obtain ⟨rfl, rfl, rfl⟩ := cuQ_of h
    exact w2) ct_N
theorem hL_clock_1 {σ σ1 : SG} {x1 x2 x3 : Int} (h2 : 121 ≤ σ.1) (hM : MCT 116 [] (aR 2 :: [aI x1, aI x2, aI x3]) σ (.inr 1) σ1) : MCT 280 hhL_clock [aR 2, aI x1, aI x2, aI x3, aR 120] σ (.inl (some (aI 1))) σ1 := by
  have w0 : 0 + mC 116 ≤ mC 280 ∧ 0 + mS 116 ≤ mS 280 := by decide +kernel
  have w1 : WKH 280 hhL_clock (.inl (some (aI 1))) σ σ1 17 (delL 5 [(0, aR 2), (1, aI x1), (2, aI x2), (3, aI x3), (4, aR 120)]) [] σ1 (0 + mC 116) (0 + mS 116) := segG_wkh (b := (some (aI 1), (σ1, 0 + mC 116, 0 + mS 116))) rwL_clock w0 ct_N 1000 17 (delL 5 [(0, aR 2), (1, aI x1), (2, aI x2), (3, aI x3), (4, aR 120)]) [] (σ1, 0 + mC 116, 0 + mS 116) rfl
  have w2 := callV_wkh (cells := 0) (slots := 0) (n := 280) (m := 116) (hh := hhL_clock) (as := [aI x1, aI x2, aI x3]) (rest := [aI 0, aR 120]) (lc := [(0, aR 2), (1, aI x1), (2, aI x2), (3, aI x3), (4, aR 120)]) (pc := 7) (idx := 30) rfl (by decide +kernel) (by decide +kernel) (by decide +kernel) rfl ⟨by decide, by omega⟩ (by decide +kernel) (by decide +kernel) (by decide +kernel) hM w0 (fun x h => by cases h; exact ⟨(17, 5), ⟨[], (0, 12, 15, 15), [], rfl, by decide, by decide, by decide, by decide, rfl, by decide +kernel, Or.inl ⟨by decide +kernel, rfl⟩⟩, w1⟩) (fun v h => by cases h)
  refine mct_ofH rfl hwL_clock (MFok 280 (by decide +kernel)) (fun _ => Nat.le_of_ble_eq_true rfl) ?_
  refine segG_wkh (b := (some (aI 1), (σ1, 0 + mC 116, 0 + mS 116))) rwL_clock w0 (cut := cuC 7 (cuQ [(0, aR 2), (1, aI x1), (2, aI x2), (3, aI x3), (4, aR 120)] [aI x3, aI x2, aI x1, aR 2, aI 0, aR 120] (σ, 0, 0) (some (aI 1), (σ1, 0 + mC 116, 0 + mS 116))) cuN) ?_ 1000 0 _ _ (σ, 0, 0) cuQ_t
  exact ct_C (fun lc st s1 h => by
    obtain ⟨rfl, rfl, rfl⟩ := cuQ_of h
    exact w2) ct_N
def csL_parcel : List (Nat × List (Nat × ARow)) := [(100000, [(0, 2, .aload 4, 0, 0, 0), (2, 1, .iconst 0, 0, 0, 0), (3, 1, .aload_n 0, 0, 0, 0), (4, 1, .iload_n 1, 0, 0, 0), (5, 1, .iload_n 2, 0, 0, 0), (6, 1, .iload_n 3, 0, 0, 0), (7, 3, .invokevirtual 33, 117, 4, 11), (10, 1, .i2l, 0, 0, 0), (11, 1, .lastore, 0, 0, 0), (12, 3, .goto 15, 27, 0, 0), (15, 2, .astore 5, 0, 0, 0), (17, 1, .iconst 1, 0, 0, 0), (18, 1, .ireturn, 0, 0, 0), (19, 2, .astore 5, 0, 0, 0), (21, 1, .iconst 2, 0, 0, 0), (22, 1, .ireturn, 0, 0, 0), (23, 2, .astore 5, 0, 0, 0), (25, 1, .iconst 3, 0, 0, 0), (26, 1, .ireturn, 0, 0, 0), (27, 1, .iconst 0, 0, 0, 0), (28, 1, .ireturn, 0, 0, 0)])]
theorem rwL_parcel : rowsB (mB 281) (mO 281) (mX 281) (mIni 281) (mFr 281) (mLo 281) (mT 281) csL_parcel = true := by decide +kernel
def hhL_parcel : List (Nat × Nat × Nat × Nat) := [(0, 12, 15, 13), (0, 12, 19, 15), (0, 12, 23, 17)]
set_option maxRecDepth 100000 in
theorem hwL_parcel : Cond.codeWith (mY 281) (mB 281) (mX 281) (mT 281) hhL_parcel ∈ WG := wg4 (i := 199) rfl rfl
theorem hL_parcel_0 {σ : SG} {x1 x2 x3 : Int} {y : Int} {r : Nat → Int → Nat} {i j : Nat → Int → Int} {d : Nat → Int → UInt64} (h2 : 121 ≤ σ.1) (hM : MCT 117 [] (aR 2 :: [aI x1, aI x2, aI x3]) σ (.inl (some (aI y))) (121, r, i, j, d)) : MCT 281 hhL_parcel [aR 2, aI x1, aI x2, aI x3, aR 120] σ (.inl (some (aI 0))) (uJ (121, r, i, j, d) 120 0 y) := by
  have w0 : 0 + mC 117 ≤ mC 281 ∧ 0 + mS 117 ≤ mS 281 := by decide +kernel
  have w1 : WKH 281 hhL_parcel (.inl (some (aI 0))) σ (uJ (121, r, i, j, d) 120 0 y) 10 [(0, aR 2), (1, aI x1), (2, aI x2), (3, aI x3), (4, aR 120)] [aI y, aI 0, aR 120] (121, r, i, j, d) (0 + mC 117) (0 + mS 117) := segG_wkh (b := (some (aI 0), (uJ (121, r, i, j, d) 120 0 y, 0 + mC 117, 0 + mS 117))) rwL_parcel w0 ct_N 1000 10 [(0, aR 2), (1, aI x1), (2, aI x2), (3, aI x3), (4, aR 120)] [aI y, aI 0, aR 120] ((121, r, i, j, d), 0 + mC 117, 0 + mS 117) rfl
  have w2 := callV_wkh (cells := 0) (slots := 0) (n := 281) (m := 117) (hh := hhL_parcel) (as := [aI x1, aI x2, aI x3]) (rest := [aI 0, aR 120]) (lc := [(0, aR 2), (1, aI x1), (2, aI x2), (3, aI x3), (4, aR 120)]) (pc := 7) (idx := 33) rfl (by decide +kernel) (by decide +kernel) (by decide +kernel) rfl ⟨by decide, by omega⟩ (by decide +kernel) (by decide +kernel) (by decide +kernel) hM w0 (fun x h => by cases h) (fun v h => by cases h; exact w1)
  refine mct_ofH rfl hwL_parcel (MFok 281 (by decide +kernel)) (fun _ => Nat.le_of_ble_eq_true rfl) ?_
  refine segG_wkh (b := (some (aI 0), (uJ (121, r, i, j, d) 120 0 y, 0 + mC 117, 0 + mS 117))) rwL_parcel w0 (cut := cuC 7 (cuQ [(0, aR 2), (1, aI x1), (2, aI x2), (3, aI x3), (4, aR 120)] [aI x3, aI x2, aI x1, aR 2, aI 0, aR 120] (σ, 0, 0) (some (aI 0), (uJ (121, r, i, j, d) 120 0 y, 0 + mC 117, 0 + mS 117))) cuN) ?_ 1000 0 _ _ (σ, 0, 0) cuQ_t
  exact ct_C (fun lc st s1 h => by
    obtain ⟨rfl, rfl, rfl⟩ := cuQ_of h
    exact w2) ct_N
theorem hL_parcel_1 {σ σ1 : SG} {x1 x2 x3 : Int} (h2 : 121 ≤ σ.1) (hM : MCT 117 [] (aR 2 :: [aI x1, aI x2, aI x3]) σ (.inr 0) σ1) : MCT 281 hhL_parcel [aR 2, aI x1, aI x2, aI x3, aR 120] σ (.inl (some (aI 1))) σ1 := by
  have w0 : 0 + mC 117 ≤ mC 281 ∧ 0 + mS 117 ≤ mS 281 := by decide +kernel
  have w1 : WKH 281 hhL_parcel (.inl (some (aI 1))) σ σ1 17 (delL 5 [(0, aR 2), (1, aI x1), (2, aI x2), (3, aI x3), (4, aR 120)]) [] σ1 (0 + mC 117) (0 + mS 117) := segG_wkh (b := (some (aI 1), (σ1, 0 + mC 117, 0 + mS 117))) rwL_parcel w0 ct_N 1000 17 (delL 5 [(0, aR 2), (1, aI x1), (2, aI x2), (3, aI x3), (4, aR 120)]) [] (σ1, 0 + mC 117, 0 + mS 117) rfl
  have w2 := callV_wkh (cells := 0) (slots := 0) (n := 281) (m := 117) (hh := hhL_parcel) (as := [aI x1, aI x2, aI x3]) (rest := [aI 0, aR 120]) (lc := [(0, aR 2), (1, aI x1), (2, aI x2), (3, aI x3), (4, aR 120)]) (pc := 7) (idx := 33) rfl (by decide +kernel) (by decide +kernel) (by decide +kernel) rfl ⟨by decide, by omega⟩ (by decide +kernel) (by decide +kernel) (by decide +kernel) hM w0 (fun x h => by cases h; exact ⟨(17, 5), ⟨[], (0, 12, 15, 13), [(0, 12, 19, 15), (0, 12, 23, 17)], rfl, by decide, by decide, by decide, by decide, rfl, by decide +kernel, Or.inl ⟨by decide +kernel, rfl⟩⟩, w1⟩) (fun v h => by cases h)
  refine mct_ofH rfl hwL_parcel (MFok 281 (by decide +kernel)) (fun _ => Nat.le_of_ble_eq_true rfl) ?_
  refine segG_wkh (b := (some (aI 1), (σ1, 0 + mC 117, 0 + mS 117))) rwL_parcel w0 (cut := cuC 7 (cuQ [(0, aR 2), (1, aI x1), (2, aI x2), (3, aI x3), (4, aR 120)] [aI x3, aI x2, aI x1, aR 2, aI 0, aR 120] (σ, 0, 0) (some (aI 1), (σ1, 0 + mC 117, 0 + mS 117))) cuN) ?_ 1000 0 _ _ (σ, 0, 0) cuQ_t
  exact ct_C (fun lc st s1 h => by
    obtain ⟨rfl, rfl, rfl⟩ := cuQ_of h
    exact w2) ct_N
theorem hL_parcel_2 {σ σ1 : SG} {x1 x2 x3 : Int} (h2 : 121 ≤ σ.1) (hM : MCT 117 [] (aR 2 :: [aI x1, aI x2, aI x3]) σ (.inr 1) σ1) : MCT 281 hhL_parcel [aR 2, aI x1, aI x2, aI x3, aR 120] σ (.inl (some (aI 2))) σ1 := by
  have w0 : 0 + mC 117 ≤ mC 281 ∧ 0 + mS 117 ≤ mS 281 := by decide +kernel
  have w1 : WKH 281 hhL_parcel (.inl (some (aI 2))) σ σ1 21 (delL 5 [(0, aR 2), (1, aI x1), (2, aI x2), (3, aI x3), (4, aR 120)]) [] σ1 (0 + mC 117) (0 + mS 117) := segG_wkh (b := (some (aI 2), (σ1, 0 + mC 117, 0 + mS 117))) rwL_parcel w0 ct_N 1000 21 (delL 5 [(0, aR 2), (1, aI x1), (2, aI x2), (3, aI x3), (4, aR 120)]) [] (σ1, 0 + mC 117, 0 + mS 117) rfl
  have w2 := callV_wkh (cells := 0) (slots := 0) (n := 281) (m := 117) (hh := hhL_parcel) (as := [aI x1, aI x2, aI x3]) (rest := [aI 0, aR 120]) (lc := [(0, aR 2), (1, aI x1), (2, aI x2), (3, aI x3), (4, aR 120)]) (pc := 7) (idx := 33) rfl (by decide +kernel) (by decide +kernel) (by decide +kernel) rfl ⟨by decide, by omega⟩ (by decide +kernel) (by decide +kernel) (by decide +kernel) hM w0 (fun x h => by cases h; exact ⟨(21, 5), ⟨[(0, 12, 15, 13)], (0, 12, 19, 15), [(0, 12, 23, 17)], rfl, by decide, by decide, by decide, by decide, rfl, by decide +kernel, Or.inl ⟨by decide +kernel, rfl⟩⟩, w1⟩) (fun v h => by cases h)
  refine mct_ofH rfl hwL_parcel (MFok 281 (by decide +kernel)) (fun _ => Nat.le_of_ble_eq_true rfl) ?_
  refine segG_wkh (b := (some (aI 2), (σ1, 0 + mC 117, 0 + mS 117))) rwL_parcel w0 (cut := cuC 7 (cuQ [(0, aR 2), (1, aI x1), (2, aI x2), (3, aI x3), (4, aR 120)] [aI x3, aI x2, aI x1, aR 2, aI 0, aR 120] (σ, 0, 0) (some (aI 2), (σ1, 0 + mC 117, 0 + mS 117))) cuN) ?_ 1000 0 _ _ (σ, 0, 0) cuQ_t
  exact ct_C (fun lc st s1 h => by
    obtain ⟨rfl, rfl, rfl⟩ := cuQ_of h
    exact w2) ct_N
theorem hL_parcel_3 {σ σ1 : SG} {x1 x2 x3 : Int} (h2 : 121 ≤ σ.1) (hM : MCT 117 [] (aR 2 :: [aI x1, aI x2, aI x3]) σ (.inr 2) σ1) : MCT 281 hhL_parcel [aR 2, aI x1, aI x2, aI x3, aR 120] σ (.inl (some (aI 3))) σ1 := by
  have w0 : 0 + mC 117 ≤ mC 281 ∧ 0 + mS 117 ≤ mS 281 := by decide +kernel
  have w1 : WKH 281 hhL_parcel (.inl (some (aI 3))) σ σ1 25 (delL 5 [(0, aR 2), (1, aI x1), (2, aI x2), (3, aI x3), (4, aR 120)]) [] σ1 (0 + mC 117) (0 + mS 117) := segG_wkh (b := (some (aI 3), (σ1, 0 + mC 117, 0 + mS 117))) rwL_parcel w0 ct_N 1000 25 (delL 5 [(0, aR 2), (1, aI x1), (2, aI x2), (3, aI x3), (4, aR 120)]) [] (σ1, 0 + mC 117, 0 + mS 117) rfl
  have w2 := callV_wkh (cells := 0) (slots := 0) (n := 281) (m := 117) (hh := hhL_parcel) (as := [aI x1, aI x2, aI x3]) (rest := [aI 0, aR 120]) (lc := [(0, aR 2), (1, aI x1), (2, aI x2), (3, aI x3), (4, aR 120)]) (pc := 7) (idx := 33) rfl (by decide +kernel) (by decide +kernel) (by decide +kernel) rfl ⟨by decide, by omega⟩ (by decide +kernel) (by decide +kernel) (by decide +kernel) hM w0 (fun x h => by cases h; exact ⟨(25, 5), ⟨[(0, 12, 15, 13), (0, 12, 19, 15)], (0, 12, 23, 17), [], rfl, by decide, by decide, by decide, by decide, rfl, by decide +kernel, Or.inl ⟨by decide +kernel, rfl⟩⟩, w1⟩) (fun v h => by cases h)
  refine mct_ofH rfl hwL_parcel (MFok 281 (by decide +kernel)) (fun _ => Nat.le_of_ble_eq_true rfl) ?_
  refine segG_wkh (b := (some (aI 3), (σ1, 0 + mC 117, 0 + mS 117))) rwL_parcel w0 (cut := cuC 7 (cuQ [(0, aR 2), (1, aI x1), (2, aI x2), (3, aI x3), (4, aR 120)] [aI x3, aI x2, aI x1, aR 2, aI 0, aR 120] (σ, 0, 0) (some (aI 3), (σ1, 0 + mC 117, 0 + mS 117))) cuN) ?_ 1000 0 _ _ (σ, 0, 0) cuQ_t
  exact ct_C (fun lc st s1 h => by
    obtain ⟨rfl, rfl, rfl⟩ := cuQ_of h
    exact w2) ct_N
def csL_window : List (Nat × List (Nat × ARow)) := [(100000, [(0, 2, .aload 5, 0, 0, 0), (2, 1, .iconst 0, 0, 0, 0), (3, 1, .aload_n 0, 0, 0, 0), (4, 1, .iload_n 1, 0, 0, 0), (5, 1, .iload_n 2, 0, 0, 0), (6, 1, .iload_n 3, 0, 0, 0), (7, 2, .iload 4, 0, 0, 0), (9, 3, .invokevirtual 36, 118, 5, 11), (12, 1, .i2l, 0, 0, 0), (13, 1, .lastore, 0, 0, 0), (14, 3, .goto 15, 29, 0, 0), (17, 2, .astore 6, 0, 0, 0), (19, 1, .iconst 1, 0, 0, 0), (20, 1, .ireturn, 0, 0, 0), (21, 2, .astore 6, 0, 0, 0), (23, 1, .iconst 2, 0, 0, 0), (24, 1, .ireturn, 0, 0, 0), (25, 2, .astore 6, 0, 0, 0), (27, 1, .iconst 3, 0, 0, 0), (28, 1, .ireturn, 0, 0, 0), (29, 1, .iconst 0, 0, 0, 0), (30, 1, .ireturn, 0, 0, 0)])]
theorem rwL_window : rowsB (mB 282) (mO 282) (mX 282) (mIni 282) (mFr 282) (mLo 282) (mT 282) csL_window = true := by decide +kernel
def hhL_window : List (Nat × Nat × Nat × Nat) := [(0, 14, 17, 13), (0, 14, 21, 15), (0, 14, 25, 17)]
set_option maxRecDepth 100000 in
theorem hwL_window : Cond.codeWith (mY 282) (mB 282) (mX 282) (mT 282) hhL_window ∈ WG := wg4 (i := 213) rfl rfl
theorem hL_window_0 {σ : SG} {x1 x2 x3 x4 : Int} {y : Int} {r : Nat → Int → Nat} {i j : Nat → Int → Int} {d : Nat → Int → UInt64} (h2 : 121 ≤ σ.1) (hM : MCT 118 [] (aR 2 :: [aI x1, aI x2, aI x3, aI x4]) σ (.inl (some (aI y))) (121, r, i, j, d)) : MCT 282 hhL_window [aR 2, aI x1, aI x2, aI x3, aI x4, aR 120] σ (.inl (some (aI 0))) (uJ (121, r, i, j, d) 120 0 y) := by
  have w0 : 0 + mC 118 ≤ mC 282 ∧ 0 + mS 118 ≤ mS 282 := by decide +kernel
  have w1 : WKH 282 hhL_window (.inl (some (aI 0))) σ (uJ (121, r, i, j, d) 120 0 y) 12 [(0, aR 2), (1, aI x1), (2, aI x2), (3, aI x3), (4, aI x4), (5, aR 120)] [aI y, aI 0, aR 120] (121, r, i, j, d) (0 + mC 118) (0 + mS 118) := segG_wkh (b := (some (aI 0), (uJ (121, r, i, j, d) 120 0 y, 0 + mC 118, 0 + mS 118))) rwL_window w0 ct_N 1000 12 [(0, aR 2), (1, aI x1), (2, aI x2), (3, aI x3), (4, aI x4), (5, aR 120)] [aI y, aI 0, aR 120] ((121, r, i, j, d), 0 + mC 118, 0 + mS 118) rfl
  have w2 := callV_wkh (cells := 0) (slots := 0) (n := 282) (m := 118) (hh := hhL_window) (as := [aI x1, aI x2, aI x3, aI x4]) (rest := [aI 0, aR 120]) (lc := [(0, aR 2), (1, aI x1), (2, aI x2), (3, aI x3), (4, aI x4), (5, aR 120)]) (pc := 9) (idx := 36) rfl (by decide +kernel) (by decide +kernel) (by decide +kernel) rfl ⟨by decide, by omega⟩ (by decide +kernel) (by decide +kernel) (by decide +kernel) hM w0 (fun x h => by cases h) (fun v h => by cases h; exact w1)
  refine mct_ofH rfl hwL_window (MFok 282 (by decide +kernel)) (fun _ => Nat.le_of_ble_eq_true rfl) ?_
  refine segG_wkh (b := (some (aI 0), (uJ (121, r, i, j, d) 120 0 y, 0 + mC 118, 0 + mS 118))) rwL_window w0 (cut := cuC 9 (cuQ [(0, aR 2), (1, aI x1), (2, aI x2), (3, aI x3), (4, aI x4), (5, aR 120)] [aI x4, aI x3, aI x2, aI x1, aR 2, aI 0, aR 120] (σ, 0, 0) (some (aI 0), (uJ (121, r, i, j, d) 120 0 y, 0 + mC 118, 0 + mS 118))) cuN) ?_ 1000 0 _ _ (σ, 0, 0) cuQ_t
  exact ct_C (fun lc st s1 h => by
    obtain ⟨rfl, rfl, rfl⟩ := cuQ_of h
    exact w2) ct_N
theorem hL_window_1 {σ σ1 : SG} {x1 x2 x3 x4 : Int} (h2 : 121 ≤ σ.1) (hM : MCT 118 [] (aR 2 :: [aI x1, aI x2, aI x3, aI x4]) σ (.inr 0) σ1) : MCT 282 hhL_window [aR 2, aI x1, aI x2, aI x3, aI x4, aR 120] σ (.inl (some (aI 1))) σ1 := by
  have w0 : 0 + mC 118 ≤ mC 282 ∧ 0 + mS 118 ≤ mS 282 := by decide +kernel
  have w1 : WKH 282 hhL_window (.inl (some (aI 1))) σ σ1 19 (delL 6 [(0, aR 2), (1, aI x1), (2, aI x2), (3, aI x3), (4, aI x4), (5, aR 120)]) [] σ1 (0 + mC 118) (0 + mS 118) := segG_wkh (b := (some (aI 1), (σ1, 0 + mC 118, 0 + mS 118))) rwL_window w0 ct_N 1000 19 (delL 6 [(0, aR 2), (1, aI x1), (2, aI x2), (3, aI x3), (4, aI x4), (5, aR 120)]) [] (σ1, 0 + mC 118, 0 + mS 118) rfl
  have w2 := callV_wkh (cells := 0) (slots := 0) (n := 282) (m := 118) (hh := hhL_window) (as := [aI x1, aI x2, aI x3, aI x4]) (rest := [aI 0, aR 120]) (lc := [(0, aR 2), (1, aI x1), (2, aI x2), (3, aI x3), (4, aI x4), (5, aR 120)]) (pc := 9) (idx := 36) rfl (by decide +kernel) (by decide +kernel) (by decide +kernel) rfl ⟨by decide, by omega⟩ (by decide +kernel) (by decide +kernel) (by decide +kernel) hM w0 (fun x h => by cases h; exact ⟨(19, 6), ⟨[], (0, 14, 17, 13), [(0, 14, 21, 15), (0, 14, 25, 17)], rfl, by decide, by decide, by decide, by decide, rfl, by decide +kernel, Or.inl ⟨by decide +kernel, rfl⟩⟩, w1⟩) (fun v h => by cases h)
  refine mct_ofH rfl hwL_window (MFok 282 (by decide +kernel)) (fun _ => Nat.le_of_ble_eq_true rfl) ?_
  refine segG_wkh (b := (some (aI 1), (σ1, 0 + mC 118, 0 + mS 118))) rwL_window w0 (cut := cuC 9 (cuQ [(0, aR 2), (1, aI x1), (2, aI x2), (3, aI x3), (4, aI x4), (5, aR 120)] [aI x4, aI x3, aI x2, aI x1, aR 2, aI 0, aR 120] (σ, 0, 0) (some (aI 1), (σ1, 0 + mC 118, 0 + mS 118))) cuN) ?_ 1000 0 _ _ (σ, 0, 0) cuQ_t
  exact ct_C (fun lc st s1 h => by
    obtain ⟨rfl, rfl, rfl⟩ := cuQ_of h
    exact w2) ct_N
theorem hL_window_2 {σ σ1 : SG} {x1 x2 x3 x4 : Int} (h2 : 121 ≤ σ.1) (hM : MCT 118 [] (aR 2 :: [aI x1, aI x2, aI x3, aI x4]) σ (.inr 1) σ1) : MCT 282 hhL_window [aR 2, aI x1, aI x2, aI x3, aI x4, aR 120] σ (.inl (some (aI 2))) σ1 := by
  have w0 : 0 + mC 118 ≤ mC 282 ∧ 0 + mS 118 ≤ mS 282 := by decide +kernel
  have w1 : WKH 282 hhL_window (.inl (some (aI 2))) σ σ1 23 (delL 6 [(0, aR 2), (1, aI x1), (2, aI x2), (3, aI x3), (4, aI x4), (5, aR 120)]) [] σ1 (0 + mC 118) (0 + mS 118) := segG_wkh (b := (some (aI 2), (σ1, 0 + mC 118, 0 + mS 118))) rwL_window w0 ct_N 1000 23 (delL 6 [(0, aR 2), (1, aI x1), (2, aI x2), (3, aI x3), (4, aI x4), (5, aR 120)]) [] (σ1, 0 + mC 118, 0 + mS 118) rfl
  have w2 := callV_wkh (cells := 0) (slots := 0) (n := 282) (m := 118) (hh := hhL_window) (as := [aI x1, aI x2, aI x3, aI x4]) (rest := [aI 0, aR 120]) (lc := [(0, aR 2), (1, aI x1), (2, aI x2), (3, aI x3), (4, aI x4), (5, aR 120)]) (pc := 9) (idx := 36) rfl (by decide +kernel) (by decide +kernel) (by decide +kernel) rfl ⟨by decide, by omega⟩ (by decide +kernel) (by decide +kernel) (by decide +kernel) hM w0 (fun x h => by cases h; exact ⟨(23, 6), ⟨[(0, 14, 17, 13)], (0, 14, 21, 15), [(0, 14, 25, 17)], rfl, by decide, by decide, by decide, by decide, rfl, by decide +kernel, Or.inl ⟨by decide +kernel, rfl⟩⟩, w1⟩) (fun v h => by cases h)
  refine mct_ofH rfl hwL_window (MFok 282 (by decide +kernel)) (fun _ => Nat.le_of_ble_eq_true rfl) ?_
  refine segG_wkh (b := (some (aI 2), (σ1, 0 + mC 118, 0 + mS 118))) rwL_window w0 (cut := cuC 9 (cuQ [(0, aR 2), (1, aI x1), (2, aI x2), (3, aI x3), (4, aI x4), (5, aR 120)] [aI x4, aI x3, aI x2, aI x1, aR 2, aI 0, aR 120] (σ, 0, 0) (some (aI 2), (σ1, 0 + mC 118, 0 + mS 118))) cuN) ?_ 1000 0 _ _ (σ, 0, 0) cuQ_t
  exact ct_C (fun lc st s1 h => by
    obtain ⟨rfl, rfl, rfl⟩ := cuQ_of h
    exact w2) ct_N
theorem hL_window_3 {σ σ1 : SG} {x1 x2 x3 x4 : Int} (h2 : 121 ≤ σ.1) (hM : MCT 118 [] (aR 2 :: [aI x1, aI x2, aI x3, aI x4]) σ (.inr 2) σ1) : MCT 282 hhL_window [aR 2, aI x1, aI x2, aI x3, aI x4, aR 120] σ (.inl (some (aI 3))) σ1 := by
  have w0 : 0 + mC 118 ≤ mC 282 ∧ 0 + mS 118 ≤ mS 282 := by decide +kernel
  have w1 : WKH 282 hhL_window (.inl (some (aI 3))) σ σ1 27 (delL 6 [(0, aR 2), (1, aI x1), (2, aI x2), (3, aI x3), (4, aI x4), (5, aR 120)]) [] σ1 (0 + mC 118) (0 + mS 118) := segG_wkh (b := (some (aI 3), (σ1, 0 + mC 118, 0 + mS 118))) rwL_window w0 ct_N 1000 27 (delL 6 [(0, aR 2), (1, aI x1), (2, aI x2), (3, aI x3), (4, aI x4), (5, aR 120)]) [] (σ1, 0 + mC 118, 0 + mS 118) rfl
  have w2 := callV_wkh (cells := 0) (slots := 0) (n := 282) (m := 118) (hh := hhL_window) (as := [aI x1, aI x2, aI x3, aI x4]) (rest := [aI 0, aR 120]) (lc := [(0, aR 2), (1, aI x1), (2, aI x2), (3, aI x3), (4, aI x4), (5, aR 120)]) (pc := 9) (idx := 36) rfl (by decide +kernel) (by decide +kernel) (by decide +kernel) rfl ⟨by decide, by omega⟩ (by decide +kernel) (by decide +kernel) (by decide +kernel) hM w0 (fun x h => by cases h; exact ⟨(27, 6), ⟨[(0, 14, 17, 13), (0, 14, 21, 15)], (0, 14, 25, 17), [], rfl, by decide, by decide, by decide, by decide, rfl, by decide +kernel, Or.inl ⟨by decide +kernel, rfl⟩⟩, w1⟩) (fun v h => by cases h)
  refine mct_ofH rfl hwL_window (MFok 282 (by decide +kernel)) (fun _ => Nat.le_of_ble_eq_true rfl) ?_
  refine segG_wkh (b := (some (aI 3), (σ1, 0 + mC 118, 0 + mS 118))) rwL_window w0 (cut := cuC 9 (cuQ [(0, aR 2), (1, aI x1), (2, aI x2), (3, aI x3), (4, aI x4), (5, aR 120)] [aI x4, aI x3, aI x2, aI x1, aR 2, aI 0, aR 120] (σ, 0, 0) (some (aI 3), (σ1, 0 + mC 118, 0 + mS 118))) cuN) ?_ 1000 0 _ _ (σ, 0, 0) cuQ_t
  exact ct_C (fun lc st s1 h => by
    obtain ⟨rfl, rfl, rfl⟩ := cuQ_of h
    exact w2) ct_N
def csL_van : List (Nat × List (Nat × ARow)) := [(100000, [(0, 2, .aload 4, 0, 0, 0), (2, 1, .iconst 0, 0, 0, 0), (3, 1, .aload_n 0, 0, 0, 0), (4, 1, .iload_n 1, 0, 0, 0), (5, 1, .iload_n 2, 0, 0, 0), (6, 1, .iload_n 3, 0, 0, 0), (7, 3, .invokevirtual 40, 119, 4, 11), (10, 1, .i2l, 0, 0, 0), (11, 1, .lastore, 0, 0, 0), (12, 3, .goto 11, 23, 0, 0), (15, 2, .astore 5, 0, 0, 0), (17, 1, .iconst 1, 0, 0, 0), (18, 1, .ireturn, 0, 0, 0), (19, 2, .astore 5, 0, 0, 0), (21, 1, .iconst 2, 0, 0, 0), (22, 1, .ireturn, 0, 0, 0), (23, 1, .iconst 0, 0, 0, 0), (24, 1, .ireturn, 0, 0, 0)])]
theorem rwL_van : rowsB (mB 283) (mO 283) (mX 283) (mIni 283) (mFr 283) (mLo 283) (mT 283) csL_van = true := by decide +kernel
def hhL_van : List (Nat × Nat × Nat × Nat) := [(0, 12, 15, 15), (0, 12, 19, 17)]
set_option maxRecDepth 100000 in
theorem hwL_van : Cond.codeWith (mY 283) (mB 283) (mX 283) (mT 283) hhL_van ∈ WG := wg4 (i := 228) rfl rfl
theorem hL_van_0 {σ : SG} {x1 x2 x3 : Int} {y : Int} {r : Nat → Int → Nat} {i j : Nat → Int → Int} {d : Nat → Int → UInt64} (h2 : 121 ≤ σ.1) (hM : MCT 119 [] (aR 2 :: [aI x1, aI x2, aI x3]) σ (.inl (some (aI y))) (121, r, i, j, d)) : MCT 283 hhL_van [aR 2, aI x1, aI x2, aI x3, aR 120] σ (.inl (some (aI 0))) (uJ (121, r, i, j, d) 120 0 y) := by
  have w0 : 0 + mC 119 ≤ mC 283 ∧ 0 + mS 119 ≤ mS 283 := by decide +kernel
  have w1 : WKH 283 hhL_van (.inl (some (aI 0))) σ (uJ (121, r, i, j, d) 120 0 y) 10 [(0, aR 2), (1, aI x1), (2, aI x2), (3, aI x3), (4, aR 120)] [aI y, aI 0, aR 120] (121, r, i, j, d) (0 + mC 119) (0 + mS 119) := segG_wkh (b := (some (aI 0), (uJ (121, r, i, j, d) 120 0 y, 0 + mC 119, 0 + mS 119))) rwL_van w0 ct_N 1000 10 [(0, aR 2), (1, aI x1), (2, aI x2), (3, aI x3), (4, aR 120)] [aI y, aI 0, aR 120] ((121, r, i, j, d), 0 + mC 119, 0 + mS 119) rfl
  have w2 := callV_wkh (cells := 0) (slots := 0) (n := 283) (m := 119) (hh := hhL_van) (as := [aI x1, aI x2, aI x3]) (rest := [aI 0, aR 120]) (lc := [(0, aR 2), (1, aI x1), (2, aI x2), (3, aI x3), (4, aR 120)]) (pc := 7) (idx := 40) rfl (by decide +kernel) (by decide +kernel) (by decide +kernel) rfl ⟨by decide, by omega⟩ (by decide +kernel) (by decide +kernel) (by decide +kernel) hM w0 (fun x h => by cases h) (fun v h => by cases h; exact w1)
  refine mct_ofH rfl hwL_van (MFok 283 (by decide +kernel)) (fun _ => Nat.le_of_ble_eq_true rfl) ?_
  refine segG_wkh (b := (some (aI 0), (uJ (121, r, i, j, d) 120 0 y, 0 + mC 119, 0 + mS 119))) rwL_van w0 (cut := cuC 7 (cuQ [(0, aR 2), (1, aI x1), (2, aI x2), (3, aI x3), (4, aR 120)] [aI x3, aI x2, aI x1, aR 2, aI 0, aR 120] (σ, 0, 0) (some (aI 0), (uJ (121, r, i, j, d) 120 0 y, 0 + mC 119, 0 + mS 119))) cuN) ?_ 1000 0 _ _ (σ, 0, 0) cuQ_t
  exact ct_C (fun lc st s1 h => by
    obtain ⟨rfl, rfl, rfl⟩ := cuQ_of h
    exact w2) ct_N
theorem hL_van_1 {σ σ1 : SG} {x1 x2 x3 : Int} (h2 : 121 ≤ σ.1) (hM : MCT 119 [] (aR 2 :: [aI x1, aI x2, aI x3]) σ (.inr 1) σ1) : MCT 283 hhL_van [aR 2, aI x1, aI x2, aI x3, aR 120] σ (.inl (some (aI 1))) σ1 := by
  have w0 : 0 + mC 119 ≤ mC 283 ∧ 0 + mS 119 ≤ mS 283 := by decide +kernel
  have w1 : WKH 283 hhL_van (.inl (some (aI 1))) σ σ1 17 (delL 5 [(0, aR 2), (1, aI x1), (2, aI x2), (3, aI x3), (4, aR 120)]) [] σ1 (0 + mC 119) (0 + mS 119) := segG_wkh (b := (some (aI 1), (σ1, 0 + mC 119, 0 + mS 119))) rwL_van w0 ct_N 1000 17 (delL 5 [(0, aR 2), (1, aI x1), (2, aI x2), (3, aI x3), (4, aR 120)]) [] (σ1, 0 + mC 119, 0 + mS 119) rfl
  have w2 := callV_wkh (cells := 0) (slots := 0) (n := 283) (m := 119) (hh := hhL_van) (as := [aI x1, aI x2, aI x3]) (rest := [aI 0, aR 120]) (lc := [(0, aR 2), (1, aI x1), (2, aI x2), (3, aI x3), (4, aR 120)]) (pc := 7) (idx := 40) rfl (by decide +kernel) (by decide +kernel) (by decide +kernel) rfl ⟨by decide, by omega⟩ (by decide +kernel) (by decide +kernel) (by decide +kernel) hM w0 (fun x h => by cases h; exact ⟨(17, 5), ⟨[], (0, 12, 15, 15), [(0, 12, 19, 17)], rfl, by decide, by decide, by decide, by decide, rfl, by decide +kernel, Or.inl ⟨by decide +kernel, rfl⟩⟩, w1⟩) (fun v h => by cases h)
  refine mct_ofH rfl hwL_van (MFok 283 (by decide +kernel)) (fun _ => Nat.le_of_ble_eq_true rfl) ?_
  refine segG_wkh (b := (some (aI 1), (σ1, 0 + mC 119, 0 + mS 119))) rwL_van w0 (cut := cuC 7 (cuQ [(0, aR 2), (1, aI x1), (2, aI x2), (3, aI x3), (4, aR 120)] [aI x3, aI x2, aI x1, aR 2, aI 0, aR 120] (σ, 0, 0) (some (aI 1), (σ1, 0 + mC 119, 0 + mS 119))) cuN) ?_ 1000 0 _ _ (σ, 0, 0) cuQ_t
  exact ct_C (fun lc st s1 h => by
    obtain ⟨rfl, rfl, rfl⟩ := cuQ_of h
    exact w2) ct_N
theorem hL_van_2 {σ σ1 : SG} {x1 x2 x3 : Int} (h2 : 121 ≤ σ.1) (hM : MCT 119 [] (aR 2 :: [aI x1, aI x2, aI x3]) σ (.inr 2) σ1) : MCT 283 hhL_van [aR 2, aI x1, aI x2, aI x3, aR 120] σ (.inl (some (aI 2))) σ1 := by
  have w0 : 0 + mC 119 ≤ mC 283 ∧ 0 + mS 119 ≤ mS 283 := by decide +kernel
  have w1 : WKH 283 hhL_van (.inl (some (aI 2))) σ σ1 21 (delL 5 [(0, aR 2), (1, aI x1), (2, aI x2), (3, aI x3), (4, aR 120)]) [] σ1 (0 + mC 119) (0 + mS 119) := segG_wkh (b := (some (aI 2), (σ1, 0 + mC 119, 0 + mS 119))) rwL_van w0 ct_N 1000 21 (delL 5 [(0, aR 2), (1, aI x1), (2, aI x2), (3, aI x3), (4, aR 120)]) [] (σ1, 0 + mC 119, 0 + mS 119) rfl
  have w2 := callV_wkh (cells := 0) (slots := 0) (n := 283) (m := 119) (hh := hhL_van) (as := [aI x1, aI x2, aI x3]) (rest := [aI 0, aR 120]) (lc := [(0, aR 2), (1, aI x1), (2, aI x2), (3, aI x3), (4, aR 120)]) (pc := 7) (idx := 40) rfl (by decide +kernel) (by decide +kernel) (by decide +kernel) rfl ⟨by decide, by omega⟩ (by decide +kernel) (by decide +kernel) (by decide +kernel) hM w0 (fun x h => by cases h; exact ⟨(21, 5), ⟨[(0, 12, 15, 15)], (0, 12, 19, 17), [], rfl, by decide, by decide, by decide, by decide, rfl, by decide +kernel, Or.inl ⟨by decide +kernel, rfl⟩⟩, w1⟩) (fun v h => by cases h)
  refine mct_ofH rfl hwL_van (MFok 283 (by decide +kernel)) (fun _ => Nat.le_of_ble_eq_true rfl) ?_
  refine segG_wkh (b := (some (aI 2), (σ1, 0 + mC 119, 0 + mS 119))) rwL_van w0 (cut := cuC 7 (cuQ [(0, aR 2), (1, aI x1), (2, aI x2), (3, aI x3), (4, aR 120)] [aI x3, aI x2, aI x1, aR 2, aI 0, aR 120] (σ, 0, 0) (some (aI 2), (σ1, 0 + mC 119, 0 + mS 119))) cuN) ?_ 1000 0 _ _ (σ, 0, 0) cuQ_t
  exact ct_C (fun lc st s1 h => by
    obtain ⟨rfl, rfl, rfl⟩ := cuQ_of h
    exact w2) ct_N
def csL_put : List (Nat × List (Nat × ARow)) := [(100000, [(0, 2, .aload 4, 0, 0, 0), (2, 1, .iconst 0, 0, 0, 0), (3, 1, .aload_n 0, 0, 0, 0), (4, 1, .iload_n 1, 0, 0, 0), (5, 1, .iload_n 2, 0, 0, 0), (6, 1, .iload_n 3, 0, 0, 0), (7, 3, .invokevirtual 43, 120, 4, 11), (10, 1, .i2l, 0, 0, 0), (11, 1, .lastore, 0, 0, 0), (12, 3, .goto 11, 23, 0, 0), (15, 2, .astore 5, 0, 0, 0), (17, 1, .iconst 1, 0, 0, 0), (18, 1, .ireturn, 0, 0, 0), (19, 2, .astore 5, 0, 0, 0), (21, 1, .iconst 2, 0, 0, 0), (22, 1, .ireturn, 0, 0, 0), (23, 1, .iconst 0, 0, 0, 0), (24, 1, .ireturn, 0, 0, 0)])]
theorem rwL_put : rowsB (mB 284) (mO 284) (mX 284) (mIni 284) (mFr 284) (mLo 284) (mT 284) csL_put = true := by decide +kernel
def hhL_put : List (Nat × Nat × Nat × Nat) := [(0, 12, 15, 13), (0, 12, 19, 17)]
set_option maxRecDepth 100000 in
theorem hwL_put : Cond.codeWith (mY 284) (mB 284) (mX 284) (mT 284) hhL_put ∈ WG := wg4 (i := 239) rfl rfl
theorem hL_put_0 {σ : SG} {x1 x2 x3 : Int} {y : Int} {r : Nat → Int → Nat} {i j : Nat → Int → Int} {d : Nat → Int → UInt64} (h2 : 121 ≤ σ.1) (hM : MCT 120 [] (aR 2 :: [aI x1, aI x2, aI x3]) σ (.inl (some (aI y))) (121, r, i, j, d)) : MCT 284 hhL_put [aR 2, aI x1, aI x2, aI x3, aR 120] σ (.inl (some (aI 0))) (uJ (121, r, i, j, d) 120 0 y) := by
  have w0 : 0 + mC 120 ≤ mC 284 ∧ 0 + mS 120 ≤ mS 284 := by decide +kernel
  have w1 : WKH 284 hhL_put (.inl (some (aI 0))) σ (uJ (121, r, i, j, d) 120 0 y) 10 [(0, aR 2), (1, aI x1), (2, aI x2), (3, aI x3), (4, aR 120)] [aI y, aI 0, aR 120] (121, r, i, j, d) (0 + mC 120) (0 + mS 120) := segG_wkh (b := (some (aI 0), (uJ (121, r, i, j, d) 120 0 y, 0 + mC 120, 0 + mS 120))) rwL_put w0 ct_N 1000 10 [(0, aR 2), (1, aI x1), (2, aI x2), (3, aI x3), (4, aR 120)] [aI y, aI 0, aR 120] ((121, r, i, j, d), 0 + mC 120, 0 + mS 120) rfl
  have w2 := callV_wkh (cells := 0) (slots := 0) (n := 284) (m := 120) (hh := hhL_put) (as := [aI x1, aI x2, aI x3]) (rest := [aI 0, aR 120]) (lc := [(0, aR 2), (1, aI x1), (2, aI x2), (3, aI x3), (4, aR 120)]) (pc := 7) (idx := 43) rfl (by decide +kernel) (by decide +kernel) (by decide +kernel) rfl ⟨by decide, by omega⟩ (by decide +kernel) (by decide +kernel) (by decide +kernel) hM w0 (fun x h => by cases h) (fun v h => by cases h; exact w1)
  refine mct_ofH rfl hwL_put (MFok 284 (by decide +kernel)) (fun _ => Nat.le_of_ble_eq_true rfl) ?_
  refine segG_wkh (b := (some (aI 0), (uJ (121, r, i, j, d) 120 0 y, 0 + mC 120, 0 + mS 120))) rwL_put w0 (cut := cuC 7 (cuQ [(0, aR 2), (1, aI x1), (2, aI x2), (3, aI x3), (4, aR 120)] [aI x3, aI x2, aI x1, aR 2, aI 0, aR 120] (σ, 0, 0) (some (aI 0), (uJ (121, r, i, j, d) 120 0 y, 0 + mC 120, 0 + mS 120))) cuN) ?_ 1000 0 _ _ (σ, 0, 0) cuQ_t
  exact ct_C (fun lc st s1 h => by
    obtain ⟨rfl, rfl, rfl⟩ := cuQ_of h
    exact w2) ct_N
theorem hL_put_1 {σ σ1 : SG} {x1 x2 x3 : Int} (h2 : 121 ≤ σ.1) (hM : MCT 120 [] (aR 2 :: [aI x1, aI x2, aI x3]) σ (.inr 0) σ1) : MCT 284 hhL_put [aR 2, aI x1, aI x2, aI x3, aR 120] σ (.inl (some (aI 1))) σ1 := by
  have w0 : 0 + mC 120 ≤ mC 284 ∧ 0 + mS 120 ≤ mS 284 := by decide +kernel
  have w1 : WKH 284 hhL_put (.inl (some (aI 1))) σ σ1 17 (delL 5 [(0, aR 2), (1, aI x1), (2, aI x2), (3, aI x3), (4, aR 120)]) [] σ1 (0 + mC 120) (0 + mS 120) := segG_wkh (b := (some (aI 1), (σ1, 0 + mC 120, 0 + mS 120))) rwL_put w0 ct_N 1000 17 (delL 5 [(0, aR 2), (1, aI x1), (2, aI x2), (3, aI x3), (4, aR 120)]) [] (σ1, 0 + mC 120, 0 + mS 120) rfl
  have w2 := callV_wkh (cells := 0) (slots := 0) (n := 284) (m := 120) (hh := hhL_put) (as := [aI x1, aI x2, aI x3]) (rest := [aI 0, aR 120]) (lc := [(0, aR 2), (1, aI x1), (2, aI x2), (3, aI x3), (4, aR 120)]) (pc := 7) (idx := 43) rfl (by decide +kernel) (by decide +kernel) (by decide +kernel) rfl ⟨by decide, by omega⟩ (by decide +kernel) (by decide +kernel) (by decide +kernel) hM w0 (fun x h => by cases h; exact ⟨(17, 5), ⟨[], (0, 12, 15, 13), [(0, 12, 19, 17)], rfl, by decide, by decide, by decide, by decide, rfl, by decide +kernel, Or.inl ⟨by decide +kernel, rfl⟩⟩, w1⟩) (fun v h => by cases h)
  refine mct_ofH rfl hwL_put (MFok 284 (by decide +kernel)) (fun _ => Nat.le_of_ble_eq_true rfl) ?_
  refine segG_wkh (b := (some (aI 1), (σ1, 0 + mC 120, 0 + mS 120))) rwL_put w0 (cut := cuC 7 (cuQ [(0, aR 2), (1, aI x1), (2, aI x2), (3, aI x3), (4, aR 120)] [aI x3, aI x2, aI x1, aR 2, aI 0, aR 120] (σ, 0, 0) (some (aI 1), (σ1, 0 + mC 120, 0 + mS 120))) cuN) ?_ 1000 0 _ _ (σ, 0, 0) cuQ_t
  exact ct_C (fun lc st s1 h => by
    obtain ⟨rfl, rfl, rfl⟩ := cuQ_of h
    exact w2) ct_N
theorem hL_put_2 {σ σ1 : SG} {x1 x2 x3 : Int} (h2 : 121 ≤ σ.1) (hM : MCT 120 [] (aR 2 :: [aI x1, aI x2, aI x3]) σ (.inr 2) σ1) : MCT 284 hhL_put [aR 2, aI x1, aI x2, aI x3, aR 120] σ (.inl (some (aI 2))) σ1 := by
  have w0 : 0 + mC 120 ≤ mC 284 ∧ 0 + mS 120 ≤ mS 284 := by decide +kernel
  have w1 : WKH 284 hhL_put (.inl (some (aI 2))) σ σ1 21 (delL 5 [(0, aR 2), (1, aI x1), (2, aI x2), (3, aI x3), (4, aR 120)]) [] σ1 (0 + mC 120) (0 + mS 120) := segG_wkh (b := (some (aI 2), (σ1, 0 + mC 120, 0 + mS 120))) rwL_put w0 ct_N 1000 21 (delL 5 [(0, aR 2), (1, aI x1), (2, aI x2), (3, aI x3), (4, aR 120)]) [] (σ1, 0 + mC 120, 0 + mS 120) rfl
  have w2 := callV_wkh (cells := 0) (slots := 0) (n := 284) (m := 120) (hh := hhL_put) (as := [aI x1, aI x2, aI x3]) (rest := [aI 0, aR 120]) (lc := [(0, aR 2), (1, aI x1), (2, aI x2), (3, aI x3), (4, aR 120)]) (pc := 7) (idx := 43) rfl (by decide +kernel) (by decide +kernel) (by decide +kernel) rfl ⟨by decide, by omega⟩ (by decide +kernel) (by decide +kernel) (by decide +kernel) hM w0 (fun x h => by cases h; exact ⟨(21, 5), ⟨[(0, 12, 15, 13)], (0, 12, 19, 17), [], rfl, by decide, by decide, by decide, by decide, rfl, by decide +kernel, Or.inl ⟨by decide +kernel, rfl⟩⟩, w1⟩) (fun v h => by cases h)
  refine mct_ofH rfl hwL_put (MFok 284 (by decide +kernel)) (fun _ => Nat.le_of_ble_eq_true rfl) ?_
  refine segG_wkh (b := (some (aI 2), (σ1, 0 + mC 120, 0 + mS 120))) rwL_put w0 (cut := cuC 7 (cuQ [(0, aR 2), (1, aI x1), (2, aI x2), (3, aI x3), (4, aR 120)] [aI x3, aI x2, aI x1, aR 2, aI 0, aR 120] (σ, 0, 0) (some (aI 2), (σ1, 0 + mC 120, 0 + mS 120))) cuN) ?_ 1000 0 _ _ (σ, 0, 0) cuQ_t
  exact ct_C (fun lc st s1 h => by
    obtain ⟨rfl, rfl, rfl⟩ := cuQ_of h
    exact w2) ct_N
def csL_takeOut : List (Nat × List (Nat × ARow)) := [(100000, [(0, 1, .aload_n 2, 0, 0, 0), (1, 1, .iconst 0, 0, 0, 0), (2, 1, .aload_n 0, 0, 0, 0), (3, 1, .iload_n 1, 0, 0, 0), (4, 3, .invokevirtual 46, 121, 2, 11), (7, 1, .i2l, 0, 0, 0), (8, 1, .lastore, 0, 0, 0), (9, 3, .goto 9, 18, 0, 0), (12, 1, .astore_n 3, 0, 0, 0), (13, 1, .iconst 1, 0, 0, 0), (14, 1, .ireturn, 0, 0, 0), (15, 1, .astore_n 3, 0, 0, 0), (16, 1, .iconst 2, 0, 0, 0), (17, 1, .ireturn, 0, 0, 0), (18, 1, .iconst 0, 0, 0, 0), (19, 1, .ireturn, 0, 0, 0)])]
theorem rwL_takeOut : rowsB (mB 285) (mO 285) (mX 285) (mIni 285) (mFr 285) (mLo 285) (mT 285) csL_takeOut = true := by decide +kernel
def hhL_takeOut : List (Nat × Nat × Nat × Nat) := [(0, 9, 12, 13), (0, 9, 15, 17)]
set_option maxRecDepth 100000 in
theorem hwL_takeOut : Cond.codeWith (mY 285) (mB 285) (mX 285) (mT 285) hhL_takeOut ∈ WG := wg5 (i := 35) rfl rfl
theorem hL_takeOut_0 {σ : SG} {x1 : Int} {y : Int} {r : Nat → Int → Nat} {i j : Nat → Int → Int} {d : Nat → Int → UInt64} (h2 : 121 ≤ σ.1) (hM : MCT 121 [] (aR 2 :: [aI x1]) σ (.inl (some (aI y))) (121, r, i, j, d)) : MCT 285 hhL_takeOut [aR 2, aI x1, aR 120] σ (.inl (some (aI 0))) (uJ (121, r, i, j, d) 120 0 y) := by
  have w0 : 0 + mC 121 ≤ mC 285 ∧ 0 + mS 121 ≤ mS 285 := by decide +kernel
  have w1 : WKH 285 hhL_takeOut (.inl (some (aI 0))) σ (uJ (121, r, i, j, d) 120 0 y) 7 [(0, aR 2), (1, aI x1), (2, aR 120)] [aI y, aI 0, aR 120] (121, r, i, j, d) (0 + mC 121) (0 + mS 121) := segG_wkh (b := (some (aI 0), (uJ (121, r, i, j, d) 120 0 y, 0 + mC 121, 0 + mS 121))) rwL_takeOut w0 ct_N 1000 7 [(0, aR 2), (1, aI x1), (2, aR 120)] [aI y, aI 0, aR 120] ((121, r, i, j, d), 0 + mC 121, 0 + mS 121) rfl
  have w2 := callV_wkh (cells := 0) (slots := 0) (n := 285) (m := 121) (hh := hhL_takeOut) (as := [aI x1]) (rest := [aI 0, aR 120]) (lc := [(0, aR 2), (1, aI x1), (2, aR 120)]) (pc := 4) (idx := 46) rfl (by decide +kernel) (by decide +kernel) (by decide +kernel) rfl ⟨by decide, by omega⟩ (by decide +kernel) (by decide +kernel) (by decide +kernel) hM w0 (fun x h => by cases h) (fun v h => by cases h; exact w1)
  refine mct_ofH rfl hwL_takeOut (MFok 285 (by decide +kernel)) (fun _ => Nat.le_of_ble_eq_true rfl) ?_
  refine segG_wkh (b := (some (aI 0), (uJ (121, r, i, j, d) 120 0 y, 0 + mC 121, 0 + mS 121))) rwL_takeOut w0 (cut := cuC 4 (cuQ [(0, aR 2), (1, aI x1), (2, aR 120)] [aI x1, aR 2, aI 0, aR 120] (σ, 0, 0) (some (aI 0), (uJ (121, r, i, j, d) 120 0 y, 0 + mC 121, 0 + mS 121))) cuN) ?_ 1000 0 _ _ (σ, 0, 0) cuQ_t
  exact ct_C (fun lc st s1 h => by
    obtain ⟨rfl, rfl, rfl⟩ := cuQ_of h
    exact w2) ct_N
theorem hL_takeOut_1 {σ σ1 : SG} {x1 : Int} (h2 : 121 ≤ σ.1) (hM : MCT 121 [] (aR 2 :: [aI x1]) σ (.inr 0) σ1) : MCT 285 hhL_takeOut [aR 2, aI x1, aR 120] σ (.inl (some (aI 1))) σ1 := by
  have w0 : 0 + mC 121 ≤ mC 285 ∧ 0 + mS 121 ≤ mS 285 := by decide +kernel
  have w1 : WKH 285 hhL_takeOut (.inl (some (aI 1))) σ σ1 13 (delL 3 [(0, aR 2), (1, aI x1), (2, aR 120)]) [] σ1 (0 + mC 121) (0 + mS 121) := segG_wkh (b := (some (aI 1), (σ1, 0 + mC 121, 0 + mS 121))) rwL_takeOut w0 ct_N 1000 13 (delL 3 [(0, aR 2), (1, aI x1), (2, aR 120)]) [] (σ1, 0 + mC 121, 0 + mS 121) rfl
  have w2 := callV_wkh (cells := 0) (slots := 0) (n := 285) (m := 121) (hh := hhL_takeOut) (as := [aI x1]) (rest := [aI 0, aR 120]) (lc := [(0, aR 2), (1, aI x1), (2, aR 120)]) (pc := 4) (idx := 46) rfl (by decide +kernel) (by decide +kernel) (by decide +kernel) rfl ⟨by decide, by omega⟩ (by decide +kernel) (by decide +kernel) (by decide +kernel) hM w0 (fun x h => by cases h; exact ⟨(13, 3), ⟨[], (0, 9, 12, 13), [(0, 9, 15, 17)], rfl, by decide, by decide, by decide, by decide, rfl, by decide +kernel, Or.inr ⟨3, rfl, by decide +kernel, rfl⟩⟩, w1⟩) (fun v h => by cases h)
  refine mct_ofH rfl hwL_takeOut (MFok 285 (by decide +kernel)) (fun _ => Nat.le_of_ble_eq_true rfl) ?_
  refine segG_wkh (b := (some (aI 1), (σ1, 0 + mC 121, 0 + mS 121))) rwL_takeOut w0 (cut := cuC 4 (cuQ [(0, aR 2), (1, aI x1), (2, aR 120)] [aI x1, aR 2, aI 0, aR 120] (σ, 0, 0) (some (aI 1), (σ1, 0 + mC 121, 0 + mS 121))) cuN) ?_ 1000 0 _ _ (σ, 0, 0) cuQ_t
  exact ct_C (fun lc st s1 h => by
    obtain ⟨rfl, rfl, rfl⟩ := cuQ_of h
    exact w2) ct_N
theorem hL_takeOut_2 {σ σ1 : SG} {x1 : Int} (h2 : 121 ≤ σ.1) (hM : MCT 121 [] (aR 2 :: [aI x1]) σ (.inr 2) σ1) : MCT 285 hhL_takeOut [aR 2, aI x1, aR 120] σ (.inl (some (aI 2))) σ1 := by
  have w0 : 0 + mC 121 ≤ mC 285 ∧ 0 + mS 121 ≤ mS 285 := by decide +kernel
  have w1 : WKH 285 hhL_takeOut (.inl (some (aI 2))) σ σ1 16 (delL 3 [(0, aR 2), (1, aI x1), (2, aR 120)]) [] σ1 (0 + mC 121) (0 + mS 121) := segG_wkh (b := (some (aI 2), (σ1, 0 + mC 121, 0 + mS 121))) rwL_takeOut w0 ct_N 1000 16 (delL 3 [(0, aR 2), (1, aI x1), (2, aR 120)]) [] (σ1, 0 + mC 121, 0 + mS 121) rfl
  have w2 := callV_wkh (cells := 0) (slots := 0) (n := 285) (m := 121) (hh := hhL_takeOut) (as := [aI x1]) (rest := [aI 0, aR 120]) (lc := [(0, aR 2), (1, aI x1), (2, aR 120)]) (pc := 4) (idx := 46) rfl (by decide +kernel) (by decide +kernel) (by decide +kernel) rfl ⟨by decide, by omega⟩ (by decide +kernel) (by decide +kernel) (by decide +kernel) hM w0 (fun x h => by cases h; exact ⟨(16, 3), ⟨[(0, 9, 12, 13)], (0, 9, 15, 17), [], rfl, by decide, by decide, by decide, by decide, rfl, by decide +kernel, Or.inr ⟨3, rfl, by decide +kernel, rfl⟩⟩, w1⟩) (fun v h => by cases h)
  refine mct_ofH rfl hwL_takeOut (MFok 285 (by decide +kernel)) (fun _ => Nat.le_of_ble_eq_true rfl) ?_
  refine segG_wkh (b := (some (aI 2), (σ1, 0 + mC 121, 0 + mS 121))) rwL_takeOut w0 (cut := cuC 4 (cuQ [(0, aR 2), (1, aI x1), (2, aR 120)] [aI x1, aR 2, aI 0, aR 120] (σ, 0, 0) (some (aI 2), (σ1, 0 + mC 121, 0 + mS 121))) cuN) ?_ 1000 0 _ _ (σ, 0, 0) cuQ_t
  exact ct_C (fun lc st s1 h => by
    obtain ⟨rfl, rfl, rfl⟩ := cuQ_of h
    exact w2) ct_N
def csL_turned : List (Nat × List (Nat × ARow)) := [(100000, [(0, 2, .aload 4, 0, 0, 0), (2, 1, .iconst 0, 0, 0, 0), (3, 1, .aload_n 0, 0, 0, 0), (4, 1, .iload_n 1, 0, 0, 0), (5, 1, .iload_n 2, 0, 0, 0), (6, 1, .iload_n 3, 0, 0, 0), (7, 3, .invokevirtual 50, 122, 4, 11), (10, 1, .i2l, 0, 0, 0), (11, 1, .lastore, 0, 0, 0), (12, 3, .goto 11, 23, 0, 0), (15, 2, .astore 5, 0, 0, 0), (17, 1, .iconst 1, 0, 0, 0), (18, 1, .ireturn, 0, 0, 0), (19, 2, .astore 5, 0, 0, 0), (21, 1, .iconst 2, 0, 0, 0), (22, 1, .ireturn, 0, 0, 0), (23, 1, .iconst 0, 0, 0, 0), (24, 1, .ireturn, 0, 0, 0)])]
theorem rwL_turned : rowsB (mB 286) (mO 286) (mX 286) (mIni 286) (mFr 286) (mLo 286) (mT 286) csL_turned = true := by decide +kernel
def hhL_turned : List (Nat × Nat × Nat × Nat) := [(0, 12, 15, 13), (0, 12, 19, 17)]
set_option maxRecDepth 100000 in
theorem hwL_turned : Cond.codeWith (mY 286) (mB 286) (mX 286) (mT 286) hhL_turned ∈ WG := wg5 (i := 49) rfl rfl
theorem hL_turned_0 {σ : SG} {x1 x2 x3 : Int} {y : Int} {r : Nat → Int → Nat} {i j : Nat → Int → Int} {d : Nat → Int → UInt64} (h2 : 121 ≤ σ.1) (hM : MCT 122 [] (aR 2 :: [aI x1, aI x2, aI x3]) σ (.inl (some (aI y))) (121, r, i, j, d)) : MCT 286 hhL_turned [aR 2, aI x1, aI x2, aI x3, aR 120] σ (.inl (some (aI 0))) (uJ (121, r, i, j, d) 120 0 y) := by
  have w0 : 0 + mC 122 ≤ mC 286 ∧ 0 + mS 122 ≤ mS 286 := by decide +kernel
  have w1 : WKH 286 hhL_turned (.inl (some (aI 0))) σ (uJ (121, r, i, j, d) 120 0 y) 10 [(0, aR 2), (1, aI x1), (2, aI x2), (3, aI x3), (4, aR 120)] [aI y, aI 0, aR 120] (121, r, i, j, d) (0 + mC 122) (0 + mS 122) := segG_wkh (b := (some (aI 0), (uJ (121, r, i, j, d) 120 0 y, 0 + mC 122, 0 + mS 122))) rwL_turned w0 ct_N 1000 10 [(0, aR 2), (1, aI x1), (2, aI x2), (3, aI x3), (4, aR 120)] [aI y, aI 0, aR 120] ((121, r, i, j, d), 0 + mC 122, 0 + mS 122) rfl
  have w2 := callV_wkh (cells := 0) (slots := 0) (n := 286) (m := 122) (hh := hhL_turned) (as := [aI x1, aI x2, aI x3]) (rest := [aI 0, aR 120]) (lc := [(0, aR 2), (1, aI x1), (2, aI x2), (3, aI x3), (4, aR 120)]) (pc := 7) (idx := 50) rfl (by decide +kernel) (by decide +kernel) (by decide +kernel) rfl ⟨by decide, by omega⟩ (by decide +kernel) (by decide +kernel) (by decide +kernel) hM w0 (fun x h => by cases h) (fun v h => by cases h; exact w1)
  refine mct_ofH rfl hwL_turned (MFok 286 (by decide +kernel)) (fun _ => Nat.le_of_ble_eq_true rfl) ?_
  refine segG_wkh (b := (some (aI 0), (uJ (121, r, i, j, d) 120 0 y, 0 + mC 122, 0 + mS 122))) rwL_turned w0 (cut := cuC 7 (cuQ [(0, aR 2), (1, aI x1), (2, aI x2), (3, aI x3), (4, aR 120)] [aI x3, aI x2, aI x1, aR 2, aI 0, aR 120] (σ, 0, 0) (some (aI 0), (uJ (121, r, i, j, d) 120 0 y, 0 + mC 122, 0 + mS 122))) cuN) ?_ 1000 0 _ _ (σ, 0, 0) cuQ_t
  exact ct_C (fun lc st s1 h => by
    obtain ⟨rfl, rfl, rfl⟩ := cuQ_of h
    exact w2) ct_N
theorem hL_turned_1 {σ σ1 : SG} {x1 x2 x3 : Int} (h2 : 121 ≤ σ.1) (hM : MCT 122 [] (aR 2 :: [aI x1, aI x2, aI x3]) σ (.inr 0) σ1) : MCT 286 hhL_turned [aR 2, aI x1, aI x2, aI x3, aR 120] σ (.inl (some (aI 1))) σ1 := by
  have w0 : 0 + mC 122 ≤ mC 286 ∧ 0 + mS 122 ≤ mS 286 := by decide +kernel
  have w1 : WKH 286 hhL_turned (.inl (some (aI 1))) σ σ1 17 (delL 5 [(0, aR 2), (1, aI x1), (2, aI x2), (3, aI x3), (4, aR 120)]) [] σ1 (0 + mC 122) (0 + mS 122) := segG_wkh (b := (some (aI 1), (σ1, 0 + mC 122, 0 + mS 122))) rwL_turned w0 ct_N 1000 17 (delL 5 [(0, aR 2), (1, aI x1), (2, aI x2), (3, aI x3), (4, aR 120)]) [] (σ1, 0 + mC 122, 0 + mS 122) rfl
  have w2 := callV_wkh (cells := 0) (slots := 0) (n := 286) (m := 122) (hh := hhL_turned) (as := [aI x1, aI x2, aI x3]) (rest := [aI 0, aR 120]) (lc := [(0, aR 2), (1, aI x1), (2, aI x2), (3, aI x3), (4, aR 120)]) (pc := 7) (idx := 50) rfl (by decide +kernel) (by decide +kernel) (by decide +kernel) rfl ⟨by decide, by omega⟩ (by decide +kernel) (by decide +kernel) (by decide +kernel) hM w0 (fun x h => by cases h; exact ⟨(17, 5), ⟨[], (0, 12, 15, 13), [(0, 12, 19, 17)], rfl, by decide, by decide, by decide, by decide, rfl, by decide +kernel, Or.inl ⟨by decide +kernel, rfl⟩⟩, w1⟩) (fun v h => by cases h)
  refine mct_ofH rfl hwL_turned (MFok 286 (by decide +kernel)) (fun _ => Nat.le_of_ble_eq_true rfl) ?_
  refine segG_wkh (b := (some (aI 1), (σ1, 0 + mC 122, 0 + mS 122))) rwL_turned w0 (cut := cuC 7 (cuQ [(0, aR 2), (1, aI x1), (2, aI x2), (3, aI x3), (4, aR 120)] [aI x3, aI x2, aI x1, aR 2, aI 0, aR 120] (σ, 0, 0) (some (aI 1), (σ1, 0 + mC 122, 0 + mS 122))) cuN) ?_ 1000 0 _ _ (σ, 0, 0) cuQ_t
  exact ct_C (fun lc st s1 h => by
    obtain ⟨rfl, rfl, rfl⟩ := cuQ_of h
    exact w2) ct_N
theorem hL_turned_2 {σ σ1 : SG} {x1 x2 x3 : Int} (h2 : 121 ≤ σ.1) (hM : MCT 122 [] (aR 2 :: [aI x1, aI x2, aI x3]) σ (.inr 2) σ1) : MCT 286 hhL_turned [aR 2, aI x1, aI x2, aI x3, aR 120] σ (.inl (some (aI 2))) σ1 := by
  have w0 : 0 + mC 122 ≤ mC 286 ∧ 0 + mS 122 ≤ mS 286 := by decide +kernel
  have w1 : WKH 286 hhL_turned (.inl (some (aI 2))) σ σ1 21 (delL 5 [(0, aR 2), (1, aI x1), (2, aI x2), (3, aI x3), (4, aR 120)]) [] σ1 (0 + mC 122) (0 + mS 122) := segG_wkh (b := (some (aI 2), (σ1, 0 + mC 122, 0 + mS 122))) rwL_turned w0 ct_N 1000 21 (delL 5 [(0, aR 2), (1, aI x1), (2, aI x2), (3, aI x3), (4, aR 120)]) [] (σ1, 0 + mC 122, 0 + mS 122) rfl
  have w2 := callV_wkh (cells := 0) (slots := 0) (n := 286) (m := 122) (hh := hhL_turned) (as := [aI x1, aI x2, aI x3]) (rest := [aI 0, aR 120]) (lc := [(0, aR 2), (1, aI x1), (2, aI x2), (3, aI x3), (4, aR 120)]) (pc := 7) (idx := 50) rfl (by decide +kernel) (by decide +kernel) (by decide +kernel) rfl ⟨by decide, by omega⟩ (by decide +kernel) (by decide +kernel) (by decide +kernel) hM w0 (fun x h => by cases h; exact ⟨(21, 5), ⟨[(0, 12, 15, 13)], (0, 12, 19, 17), [], rfl, by decide, by decide, by decide, by decide, rfl, by decide +kernel, Or.inl ⟨by decide +kernel, rfl⟩⟩, w1⟩) (fun v h => by cases h)
  refine mct_ofH rfl hwL_turned (MFok 286 (by decide +kernel)) (fun _ => Nat.le_of_ble_eq_true rfl) ?_
  refine segG_wkh (b := (some (aI 2), (σ1, 0 + mC 122, 0 + mS 122))) rwL_turned w0 (cut := cuC 7 (cuQ [(0, aR 2), (1, aI x1), (2, aI x2), (3, aI x3), (4, aR 120)] [aI x3, aI x2, aI x1, aR 2, aI 0, aR 120] (σ, 0, 0) (some (aI 2), (σ1, 0 + mC 122, 0 + mS 122))) cuN) ?_ 1000 0 _ _ (σ, 0, 0) cuQ_t
  exact ct_C (fun lc st s1 h => by
    obtain ⟨rfl, rfl, rfl⟩ := cuQ_of h
    exact w2) ct_N
def csL_swapEnds : List (Nat × List (Nat × ARow)) := [(100000, [(0, 2, .aload 5, 0, 0, 0), (2, 1, .iconst 0, 0, 0, 0), (3, 1, .aload_n 0, 0, 0, 0), (4, 1, .iload_n 1, 0, 0, 0), (5, 1, .iload_n 2, 0, 0, 0), (6, 1, .iload_n 3, 0, 0, 0), (7, 2, .iload 4, 0, 0, 0), (9, 3, .invokevirtual 53, 123, 5, 11), (12, 1, .i2l, 0, 0, 0), (13, 1, .lastore, 0, 0, 0), (14, 3, .goto 15, 29, 0, 0), (17, 2, .astore 6, 0, 0, 0), (19, 1, .iconst 1, 0, 0, 0), (20, 1, .ireturn, 0, 0, 0), (21, 2, .astore 6, 0, 0, 0), (23, 1, .iconst 2, 0, 0, 0), (24, 1, .ireturn, 0, 0, 0), (25, 2, .astore 6, 0, 0, 0), (27, 1, .iconst 3, 0, 0, 0), (28, 1, .ireturn, 0, 0, 0), (29, 1, .iconst 0, 0, 0, 0), (30, 1, .ireturn, 0, 0, 0)])]
theorem rwL_swapEnds : rowsB (mB 287) (mO 287) (mX 287) (mIni 287) (mFr 287) (mLo 287) (mT 287) csL_swapEnds = true := by decide +kernel
def hhL_swapEnds : List (Nat × Nat × Nat × Nat) := [(0, 14, 17, 13), (0, 14, 21, 15), (0, 14, 25, 17)]
set_option maxRecDepth 100000 in
theorem hwL_swapEnds : Cond.codeWith (mY 287) (mB 287) (mX 287) (mT 287) hhL_swapEnds ∈ WG := wg5 (i := 59) rfl rfl
theorem hL_swapEnds_0 {σ : SG} {x1 x2 x3 x4 : Int} {y : Int} {r : Nat → Int → Nat} {i j : Nat → Int → Int} {d : Nat → Int → UInt64} (h2 : 121 ≤ σ.1) (hM : MCT 123 [] (aR 2 :: [aI x1, aI x2, aI x3, aI x4]) σ (.inl (some (aI y))) (121, r, i, j, d)) : MCT 287 hhL_swapEnds [aR 2, aI x1, aI x2, aI x3, aI x4, aR 120] σ (.inl (some (aI 0))) (uJ (121, r, i, j, d) 120 0 y) := by
  have w0 : 0 + mC 123 ≤ mC 287 ∧ 0 + mS 123 ≤ mS 287 := by decide +kernel
  have w1 : WKH 287 hhL_swapEnds (.inl (some (aI 0))) σ (uJ (121, r, i, j, d) 120 0 y) 12 [(0, aR 2), (1, aI x1), (2, aI x2), (3, aI x3), (4, aI x4), (5, aR 120)] [aI y, aI 0, aR 120] (121, r, i, j, d) (0 + mC 123) (0 + mS 123) := segG_wkh (b := (some (aI 0), (uJ (121, r, i, j, d) 120 0 y, 0 + mC 123, 0 + mS 123))) rwL_swapEnds w0 ct_N 1000 12 [(0, aR 2), (1, aI x1), (2, aI x2), (3, aI x3), (4, aI x4), (5, aR 120)] [aI y, aI 0, aR 120] ((121, r, i, j, d), 0 + mC 123, 0 + mS 123) rfl
  have w2 := callV_wkh (cells := 0) (slots := 0) (n := 287) (m := 123) (hh := hhL_swapEnds) (as := [aI x1, aI x2, aI x3, aI x4]) (rest := [aI 0, aR 120]) (lc := [(0, aR 2), (1, aI x1), (2, aI x2), (3, aI x3), (4, aI x4), (5, aR 120)]) (pc := 9) (idx := 53) rfl (by decide +kernel) (by decide +kernel) (by decide +kernel) rfl ⟨by decide, by omega⟩ (by decide +kernel) (by decide +kernel) (by decide +kernel) hM w0 (fun x h => by cases h) (fun v h => by cases h; exact w1)
  refine mct_ofH rfl hwL_swapEnds (MFok 287 (by decide +kernel)) (fun _ => Nat.le_of_ble_eq_true rfl) ?_
  refine segG_wkh (b := (some (aI 0), (uJ (121, r, i, j, d) 120 0 y, 0 + mC 123, 0 + mS 123))) rwL_swapEnds w0 (cut := cuC 9 (cuQ [(0, aR 2), (1, aI x1), (2, aI x2), (3, aI x3), (4, aI x4), (5, aR 120)] [aI x4, aI x3, aI x2, aI x1, aR 2, aI 0, aR 120] (σ, 0, 0) (some (aI 0), (uJ (121, r, i, j, d) 120 0 y, 0 + mC 123, 0 + mS 123))) cuN) ?_ 1000 0 _ _ (σ, 0, 0) cuQ_t
  exact ct_C (fun lc st s1 h => by
    obtain ⟨rfl, rfl, rfl⟩ := cuQ_of h
    exact w2) ct_N
theorem hL_swapEnds_1 {σ σ1 : SG} {x1 x2 x3 x4 : Int} (h2 : 121 ≤ σ.1) (hM : MCT 123 [] (aR 2 :: [aI x1, aI x2, aI x3, aI x4]) σ (.inr 0) σ1) : MCT 287 hhL_swapEnds [aR 2, aI x1, aI x2, aI x3, aI x4, aR 120] σ (.inl (some (aI 1))) σ1 := by
  have w0 : 0 + mC 123 ≤ mC 287 ∧ 0 + mS 123 ≤ mS 287 := by decide +kernel
  have w1 : WKH 287 hhL_swapEnds (.inl (some (aI 1))) σ σ1 19 (delL 6 [(0, aR 2), (1, aI x1), (2, aI x2), (3, aI x3), (4, aI x4), (5, aR 120)]) [] σ1 (0 + mC 123) (0 + mS 123) := segG_wkh (b := (some (aI 1), (σ1, 0 + mC 123, 0 + mS 123))) rwL_swapEnds w0 ct_N 1000 19 (delL 6 [(0, aR 2), (1, aI x1), (2, aI x2), (3, aI x3), (4, aI x4), (5, aR 120)]) [] (σ1, 0 + mC 123, 0 + mS 123) rfl
  have w2 := callV_wkh (cells := 0) (slots := 0) (n := 287) (m := 123) (hh := hhL_swapEnds) (as := [aI x1, aI x2, aI x3, aI x4]) (rest := [aI 0, aR 120]) (lc := [(0, aR 2), (1, aI x1), (2, aI x2), (3, aI x3), (4, aI x4), (5, aR 120)]) (pc := 9) (idx := 53) rfl (by decide +kernel) (by decide +kernel) (by decide +kernel) rfl ⟨by decide, by omega⟩ (by decide +kernel) (by decide +kernel) (by decide +kernel) hM w0 (fun x h => by cases h; exact ⟨(19, 6), ⟨[], (0, 14, 17, 13), [(0, 14, 21, 15), (0, 14, 25, 17)], rfl, by decide, by decide, by decide, by decide, rfl, by decide +kernel, Or.inl ⟨by decide +kernel, rfl⟩⟩, w1⟩) (fun v h => by cases h)
  refine mct_ofH rfl hwL_swapEnds (MFok 287 (by decide +kernel)) (fun _ => Nat.le_of_ble_eq_true rfl) ?_
  refine segG_wkh (b := (some (aI 1), (σ1, 0 + mC 123, 0 + mS 123))) rwL_swapEnds w0 (cut := cuC 9 (cuQ [(0, aR 2), (1, aI x1), (2, aI x2), (3, aI x3), (4, aI x4), (5, aR 120)] [aI x4, aI x3, aI x2, aI x1, aR 2, aI 0, aR 120] (σ, 0, 0) (some (aI 1), (σ1, 0 + mC 123, 0 + mS 123))) cuN) ?_ 1000 0 _ _ (σ, 0, 0) cuQ_t
  exact ct_C (fun lc st s1 h => by
    obtain ⟨rfl, rfl, rfl⟩ := cuQ_of h
    exact w2) ct_N
theorem hL_swapEnds_2 {σ σ1 : SG} {x1 x2 x3 x4 : Int} (h2 : 121 ≤ σ.1) (hM : MCT 123 [] (aR 2 :: [aI x1, aI x2, aI x3, aI x4]) σ (.inr 1) σ1) : MCT 287 hhL_swapEnds [aR 2, aI x1, aI x2, aI x3, aI x4, aR 120] σ (.inl (some (aI 2))) σ1 := by
  have w0 : 0 + mC 123 ≤ mC 287 ∧ 0 + mS 123 ≤ mS 287 := by decide +kernel
  have w1 : WKH 287 hhL_swapEnds (.inl (some (aI 2))) σ σ1 23 (delL 6 [(0, aR 2), (1, aI x1), (2, aI x2), (3, aI x3), (4, aI x4), (5, aR 120)]) [] σ1 (0 + mC 123) (0 + mS 123) := segG_wkh (b := (some (aI 2), (σ1, 0 + mC 123, 0 + mS 123))) rwL_swapEnds w0 ct_N 1000 23 (delL 6 [(0, aR 2), (1, aI x1), (2, aI x2), (3, aI x3), (4, aI x4), (5, aR 120)]) [] (σ1, 0 + mC 123, 0 + mS 123) rfl
  have w2 := callV_wkh (cells := 0) (slots := 0) (n := 287) (m := 123) (hh := hhL_swapEnds) (as := [aI x1, aI x2, aI x3, aI x4]) (rest := [aI 0, aR 120]) (lc := [(0, aR 2), (1, aI x1), (2, aI x2), (3, aI x3), (4, aI x4), (5, aR 120)]) (pc := 9) (idx := 53) rfl (by decide +kernel) (by decide +kernel) (by decide +kernel) rfl ⟨by decide, by omega⟩ (by decide +kernel) (by decide +kernel) (by decide +kernel) hM w0 (fun x h => by cases h; exact ⟨(23, 6), ⟨[(0, 14, 17, 13)], (0, 14, 21, 15), [(0, 14, 25, 17)], rfl, by decide, by decide, by decide, by decide, rfl, by decide +kernel, Or.inl ⟨by decide +kernel, rfl⟩⟩, w1⟩) (fun v h => by cases h)
  refine mct_ofH rfl hwL_swapEnds (MFok 287 (by decide +kernel)) (fun _ => Nat.le_of_ble_eq_true rfl) ?_
  refine segG_wkh (b := (some (aI 2), (σ1, 0 + mC 123, 0 + mS 123))) rwL_swapEnds w0 (cut := cuC 9 (cuQ [(0, aR 2), (1, aI x1), (2, aI x2), (3, aI x3), (4, aI x4), (5, aR 120)] [aI x4, aI x3, aI x2, aI x1, aR 2, aI 0, aR 120] (σ, 0, 0) (some (aI 2), (σ1, 0 + mC 123, 0 + mS 123))) cuN) ?_ 1000 0 _ _ (σ, 0, 0) cuQ_t
  exact ct_C (fun lc st s1 h => by
    obtain ⟨rfl, rfl, rfl⟩ := cuQ_of h
    exact w2) ct_N
theorem hL_swapEnds_3 {σ σ1 : SG} {x1 x2 x3 x4 : Int} (h2 : 121 ≤ σ.1) (hM : MCT 123 [] (aR 2 :: [aI x1, aI x2, aI x3, aI x4]) σ (.inr 2) σ1) : MCT 287 hhL_swapEnds [aR 2, aI x1, aI x2, aI x3, aI x4, aR 120] σ (.inl (some (aI 3))) σ1 := by
  have w0 : 0 + mC 123 ≤ mC 287 ∧ 0 + mS 123 ≤ mS 287 := by decide +kernel
  have w1 : WKH 287 hhL_swapEnds (.inl (some (aI 3))) σ σ1 27 (delL 6 [(0, aR 2), (1, aI x1), (2, aI x2), (3, aI x3), (4, aI x4), (5, aR 120)]) [] σ1 (0 + mC 123) (0 + mS 123) := segG_wkh (b := (some (aI 3), (σ1, 0 + mC 123, 0 + mS 123))) rwL_swapEnds w0 ct_N 1000 27 (delL 6 [(0, aR 2), (1, aI x1), (2, aI x2), (3, aI x3), (4, aI x4), (5, aR 120)]) [] (σ1, 0 + mC 123, 0 + mS 123) rfl
  have w2 := callV_wkh (cells := 0) (slots := 0) (n := 287) (m := 123) (hh := hhL_swapEnds) (as := [aI x1, aI x2, aI x3, aI x4]) (rest := [aI 0, aR 120]) (lc := [(0, aR 2), (1, aI x1), (2, aI x2), (3, aI x3), (4, aI x4), (5, aR 120)]) (pc := 9) (idx := 53) rfl (by decide +kernel) (by decide +kernel) (by decide +kernel) rfl ⟨by decide, by omega⟩ (by decide +kernel) (by decide +kernel) (by decide +kernel) hM w0 (fun x h => by cases h; exact ⟨(27, 6), ⟨[(0, 14, 17, 13), (0, 14, 21, 15)], (0, 14, 25, 17), [], rfl, by decide, by decide, by decide, by decide, rfl, by decide +kernel, Or.inl ⟨by decide +kernel, rfl⟩⟩, w1⟩) (fun v h => by cases h)
  refine mct_ofH rfl hwL_swapEnds (MFok 287 (by decide +kernel)) (fun _ => Nat.le_of_ble_eq_true rfl) ?_
  refine segG_wkh (b := (some (aI 3), (σ1, 0 + mC 123, 0 + mS 123))) rwL_swapEnds w0 (cut := cuC 9 (cuQ [(0, aR 2), (1, aI x1), (2, aI x2), (3, aI x3), (4, aI x4), (5, aR 120)] [aI x4, aI x3, aI x2, aI x1, aR 2, aI 0, aR 120] (σ, 0, 0) (some (aI 3), (σ1, 0 + mC 123, 0 + mS 123))) cuN) ?_ 1000 0 _ _ (σ, 0, 0) cuQ_t
  exact ct_C (fun lc st s1 h => by
    obtain ⟨rfl, rfl, rfl⟩ := cuQ_of h
    exact w2) ct_N
def csL_savings : List (Nat × List (Nat × ARow)) := [(100000, [(0, 1, .aload_n 2, 0, 0, 0), (1, 1, .iconst 0, 0, 0, 0), (2, 1, .aload_n 0, 0, 0, 0), (3, 1, .iload_n 1, 0, 0, 0), (4, 3, .invokevirtual 56, 124, 2, 11), (7, 1, .i2l, 0, 0, 0), (8, 1, .lastore, 0, 0, 0), (9, 3, .goto 9, 18, 0, 0), (12, 1, .astore_n 3, 0, 0, 0), (13, 1, .iconst 1, 0, 0, 0), (14, 1, .ireturn, 0, 0, 0), (15, 1, .astore_n 3, 0, 0, 0), (16, 1, .iconst 2, 0, 0, 0), (17, 1, .ireturn, 0, 0, 0), (18, 1, .iconst 0, 0, 0, 0), (19, 1, .ireturn, 0, 0, 0)])]
theorem rwL_savings : rowsB (mB 288) (mO 288) (mX 288) (mIni 288) (mFr 288) (mLo 288) (mT 288) csL_savings = true := by decide +kernel
def hhL_savings : List (Nat × Nat × Nat × Nat) := [(0, 9, 12, 13), (0, 9, 15, 17)]
set_option maxRecDepth 100000 in
theorem hwL_savings : Cond.codeWith (mY 288) (mB 288) (mX 288) (mT 288) hhL_savings ∈ WG := wg5 (i := 70) rfl rfl
theorem hL_savings_0 {σ : SG} {x1 : Int} {y : Int} {r : Nat → Int → Nat} {i j : Nat → Int → Int} {d : Nat → Int → UInt64} (h2 : 121 ≤ σ.1) (hM : MCT 124 [] (aR 2 :: [aI x1]) σ (.inl (some (aI y))) (121, r, i, j, d)) : MCT 288 hhL_savings [aR 2, aI x1, aR 120] σ (.inl (some (aI 0))) (uJ (121, r, i, j, d) 120 0 y) := by
  have w0 : 0 + mC 124 ≤ mC 288 ∧ 0 + mS 124 ≤ mS 288 := by decide +kernel
  have w1 : WKH 288 hhL_savings (.inl (some (aI 0))) σ (uJ (121, r, i, j, d) 120 0 y) 7 [(0, aR 2), (1, aI x1), (2, aR 120)] [aI y, aI 0, aR 120] (121, r, i, j, d) (0 + mC 124) (0 + mS 124) := segG_wkh (b := (some (aI 0), (uJ (121, r, i, j, d) 120 0 y, 0 + mC 124, 0 + mS 124))) rwL_savings w0 ct_N 1000 7 [(0, aR 2), (1, aI x1), (2, aR 120)] [aI y, aI 0, aR 120] ((121, r, i, j, d), 0 + mC 124, 0 + mS 124) rfl
  have w2 := callV_wkh (cells := 0) (slots := 0) (n := 288) (m := 124) (hh := hhL_savings) (as := [aI x1]) (rest := [aI 0, aR 120]) (lc := [(0, aR 2), (1, aI x1), (2, aR 120)]) (pc := 4) (idx := 56) rfl (by decide +kernel) (by decide +kernel) (by decide +kernel) rfl ⟨by decide, by omega⟩ (by decide +kernel) (by decide +kernel) (by decide +kernel) hM w0 (fun x h => by cases h) (fun v h => by cases h; exact w1)
  refine mct_ofH rfl hwL_savings (MFok 288 (by decide +kernel)) (fun _ => Nat.le_of_ble_eq_true rfl) ?_
  refine segG_wkh (b := (some (aI 0), (uJ (121, r, i, j, d) 120 0 y, 0 + mC 124, 0 + mS 124))) rwL_savings w0 (cut := cuC 4 (cuQ [(0, aR 2), (1, aI x1), (2, aR 120)] [aI x1, aR 2, aI 0, aR 120] (σ, 0, 0) (some (aI 0), (uJ (121, r, i, j, d) 120 0 y, 0 + mC 124, 0 + mS 124))) cuN) ?_ 1000 0 _ _ (σ, 0, 0) cuQ_t
  exact ct_C (fun lc st s1 h => by
    obtain ⟨rfl, rfl, rfl⟩ := cuQ_of h
    exact w2) ct_N
theorem hL_savings_1 {σ σ1 : SG} {x1 : Int} (h2 : 121 ≤ σ.1) (hM : MCT 124 [] (aR 2 :: [aI x1]) σ (.inr 0) σ1) : MCT 288 hhL_savings [aR 2, aI x1, aR 120] σ (.inl (some (aI 1))) σ1 := by
  have w0 : 0 + mC 124 ≤ mC 288 ∧ 0 + mS 124 ≤ mS 288 := by decide +kernel
  have w1 : WKH 288 hhL_savings (.inl (some (aI 1))) σ σ1 13 (delL 3 [(0, aR 2), (1, aI x1), (2, aR 120)]) [] σ1 (0 + mC 124) (0 + mS 124) := segG_wkh (b := (some (aI 1), (σ1, 0 + mC 124, 0 + mS 124))) rwL_savings w0 ct_N 1000 13 (delL 3 [(0, aR 2), (1, aI x1), (2, aR 120)]) [] (σ1, 0 + mC 124, 0 + mS 124) rfl
  have w2 := callV_wkh (cells := 0) (slots := 0) (n := 288) (m := 124) (hh := hhL_savings) (as := [aI x1]) (rest := [aI 0, aR 120]) (lc := [(0, aR 2), (1, aI x1), (2, aR 120)]) (pc := 4) (idx := 56) rfl (by decide +kernel) (by decide +kernel) (by decide +kernel) rfl ⟨by decide, by omega⟩ (by decide +kernel) (by decide +kernel) (by decide +kernel) hM w0 (fun x h => by cases h; exact ⟨(13, 3), ⟨[], (0, 9, 12, 13), [(0, 9, 15, 17)], rfl, by decide, by decide, by decide, by decide, rfl, by decide +kernel, Or.inr ⟨3, rfl, by decide +kernel, rfl⟩⟩, w1⟩) (fun v h => by cases h)
  refine mct_ofH rfl hwL_savings (MFok 288 (by decide +kernel)) (fun _ => Nat.le_of_ble_eq_true rfl) ?_
  refine segG_wkh (b := (some (aI 1), (σ1, 0 + mC 124, 0 + mS 124))) rwL_savings w0 (cut := cuC 4 (cuQ [(0, aR 2), (1, aI x1), (2, aR 120)] [aI x1, aR 2, aI 0, aR 120] (σ, 0, 0) (some (aI 1), (σ1, 0 + mC 124, 0 + mS 124))) cuN) ?_ 1000 0 _ _ (σ, 0, 0) cuQ_t
  exact ct_C (fun lc st s1 h => by
    obtain ⟨rfl, rfl, rfl⟩ := cuQ_of h
    exact w2) ct_N
theorem hL_savings_2 {σ σ1 : SG} {x1 : Int} (h2 : 121 ≤ σ.1) (hM : MCT 124 [] (aR 2 :: [aI x1]) σ (.inr 2) σ1) : MCT 288 hhL_savings [aR 2, aI x1, aR 120] σ (.inl (some (aI 2))) σ1 := by
  have w0 : 0 + mC 124 ≤ mC 288 ∧ 0 + mS 124 ≤ mS 288 := by decide +kernel
  have w1 : WKH 288 hhL_savings (.inl (some (aI 2))) σ σ1 16 (delL 3 [(0, aR 2), (1, aI x1), (2, aR 120)]) [] σ1 (0 + mC 124) (0 + mS 124) := segG_wkh (b := (some (aI 2), (σ1, 0 + mC 124, 0 + mS 124))) rwL_savings w0 ct_N 1000 16 (delL 3 [(0, aR 2), (1, aI x1), (2, aR 120)]) [] (σ1, 0 + mC 124, 0 + mS 124) rfl
  have w2 := callV_wkh (cells := 0) (slots := 0) (n := 288) (m := 124) (hh := hhL_savings) (as := [aI x1]) (rest := [aI 0, aR 120]) (lc := [(0, aR 2), (1, aI x1), (2, aR 120)]) (pc := 4) (idx := 56) rfl (by decide +kernel) (by decide +kernel) (by decide +kernel) rfl ⟨by decide, by omega⟩ (by decide +kernel) (by decide +kernel) (by decide +kernel) hM w0 (fun x h => by cases h; exact ⟨(16, 3), ⟨[(0, 9, 12, 13)], (0, 9, 15, 17), [], rfl, by decide, by decide, by decide, by decide, rfl, by decide +kernel, Or.inr ⟨3, rfl, by decide +kernel, rfl⟩⟩, w1⟩) (fun v h => by cases h)
  refine mct_ofH rfl hwL_savings (MFok 288 (by decide +kernel)) (fun _ => Nat.le_of_ble_eq_true rfl) ?_
  refine segG_wkh (b := (some (aI 2), (σ1, 0 + mC 124, 0 + mS 124))) rwL_savings w0 (cut := cuC 4 (cuQ [(0, aR 2), (1, aI x1), (2, aR 120)] [aI x1, aR 2, aI 0, aR 120] (σ, 0, 0) (some (aI 2), (σ1, 0 + mC 124, 0 + mS 124))) cuN) ?_ 1000 0 _ _ (σ, 0, 0) cuQ_t
  exact ct_C (fun lc st s1 h => by
    obtain ⟨rfl, rfl, rfl⟩ := cuQ_of h
    exact w2) ct_N
def csL_putIn : List (Nat × List (Nat × ARow)) := [(100000, [(0, 1, .aload_n 2, 0, 0, 0), (1, 1, .iconst 0, 0, 0, 0), (2, 1, .aload_n 0, 0, 0, 0), (3, 1, .iload_n 1, 0, 0, 0), (4, 3, .invokevirtual 59, 125, 2, 11), (7, 1, .i2l, 0, 0, 0), (8, 1, .lastore, 0, 0, 0), (9, 3, .goto 12, 21, 0, 0), (12, 1, .astore_n 3, 0, 0, 0), (13, 1, .iconst 1, 0, 0, 0), (14, 1, .ireturn, 0, 0, 0), (15, 1, .astore_n 3, 0, 0, 0), (16, 1, .iconst 2, 0, 0, 0), (17, 1, .ireturn, 0, 0, 0), (18, 1, .astore_n 3, 0, 0, 0), (19, 1, .iconst 3, 0, 0, 0), (20, 1, .ireturn, 0, 0, 0), (21, 1, .iconst 0, 0, 0, 0), (22, 1, .ireturn, 0, 0, 0)])]
theorem rwL_putIn : rowsB (mB 289) (mO 289) (mX 289) (mIni 289) (mFr 289) (mLo 289) (mT 289) csL_putIn = true := by decide +kernel
def hhL_putIn : List (Nat × Nat × Nat × Nat) := [(0, 9, 12, 13), (0, 9, 15, 17), (0, 9, 18, 62)]
set_option maxRecDepth 100000 in
theorem hwL_putIn : Cond.codeWith (mY 289) (mB 289) (mX 289) (mT 289) hhL_putIn ∈ WG := wg5 (i := 113) rfl rfl
theorem hL_putIn_0 {σ : SG} {x1 : Int} {y : Int} {r : Nat → Int → Nat} {i j : Nat → Int → Int} {d : Nat → Int → UInt64} (h2 : 121 ≤ σ.1) (hM : MCT 125 [] (aR 2 :: [aI x1]) σ (.inl (some (aI y))) (121, r, i, j, d)) : MCT 289 hhL_putIn [aR 2, aI x1, aR 120] σ (.inl (some (aI 0))) (uJ (121, r, i, j, d) 120 0 y) := by
  have w0 : 0 + mC 125 ≤ mC 289 ∧ 0 + mS 125 ≤ mS 289 := by decide +kernel
  have w1 : WKH 289 hhL_putIn (.inl (some (aI 0))) σ (uJ (121, r, i, j, d) 120 0 y) 7 [(0, aR 2), (1, aI x1), (2, aR 120)] [aI y, aI 0, aR 120] (121, r, i, j, d) (0 + mC 125) (0 + mS 125) := segG_wkh (b := (some (aI 0), (uJ (121, r, i, j, d) 120 0 y, 0 + mC 125, 0 + mS 125))) rwL_putIn w0 ct_N 1000 7 [(0, aR 2), (1, aI x1), (2, aR 120)] [aI y, aI 0, aR 120] ((121, r, i, j, d), 0 + mC 125, 0 + mS 125) rfl
  have w2 := callV_wkh (cells := 0) (slots := 0) (n := 289) (m := 125) (hh := hhL_putIn) (as := [aI x1]) (rest := [aI 0, aR 120]) (lc := [(0, aR 2), (1, aI x1), (2, aR 120)]) (pc := 4) (idx := 59) rfl (by decide +kernel) (by decide +kernel) (by decide +kernel) rfl ⟨by decide, by omega⟩ (by decide +kernel) (by decide +kernel) (by decide +kernel) hM w0 (fun x h => by cases h) (fun v h => by cases h; exact w1)
  refine mct_ofH rfl hwL_putIn (MFok 289 (by decide +kernel)) (fun _ => Nat.le_of_ble_eq_true rfl) ?_
  refine segG_wkh (b := (some (aI 0), (uJ (121, r, i, j, d) 120 0 y, 0 + mC 125, 0 + mS 125))) rwL_putIn w0 (cut := cuC 4 (cuQ [(0, aR 2), (1, aI x1), (2, aR 120)] [aI x1, aR 2, aI 0, aR 120] (σ, 0, 0) (some (aI 0), (uJ (121, r, i, j, d) 120 0 y, 0 + mC 125, 0 + mS 125))) cuN) ?_ 1000 0 _ _ (σ, 0, 0) cuQ_t
  exact ct_C (fun lc st s1 h => by
    obtain ⟨rfl, rfl, rfl⟩ := cuQ_of h
    exact w2) ct_N
theorem hL_putIn_1 {σ σ1 : SG} {x1 : Int} (h2 : 121 ≤ σ.1) (hM : MCT 125 [] (aR 2 :: [aI x1]) σ (.inr 0) σ1) : MCT 289 hhL_putIn [aR 2, aI x1, aR 120] σ (.inl (some (aI 1))) σ1 := by
  have w0 : 0 + mC 125 ≤ mC 289 ∧ 0 + mS 125 ≤ mS 289 := by decide +kernel
  have w1 : WKH 289 hhL_putIn (.inl (some (aI 1))) σ σ1 13 (delL 3 [(0, aR 2), (1, aI x1), (2, aR 120)]) [] σ1 (0 + mC 125) (0 + mS 125) := segG_wkh (b := (some (aI 1), (σ1, 0 + mC 125, 0 + mS 125))) rwL_putIn w0 ct_N 1000 13 (delL 3 [(0, aR 2), (1, aI x1), (2, aR 120)]) [] (σ1, 0 + mC 125, 0 + mS 125) rfl
  have w2 := callV_wkh (cells := 0) (slots := 0) (n := 289) (m := 125) (hh := hhL_putIn) (as := [aI x1]) (rest := [aI 0, aR 120]) (lc := [(0, aR 2), (1, aI x1), (2, aR 120)]) (pc := 4) (idx := 59) rfl (by decide +kernel) (by decide +kernel) (by decide +kernel) rfl ⟨by decide, by omega⟩ (by decide +kernel) (by decide +kernel) (by decide +kernel) hM w0 (fun x h => by cases h; exact ⟨(13, 3), ⟨[], (0, 9, 12, 13), [(0, 9, 15, 17), (0, 9, 18, 62)], rfl, by decide, by decide, by decide, by decide, rfl, by decide +kernel, Or.inr ⟨3, rfl, by decide +kernel, rfl⟩⟩, w1⟩) (fun v h => by cases h)
  refine mct_ofH rfl hwL_putIn (MFok 289 (by decide +kernel)) (fun _ => Nat.le_of_ble_eq_true rfl) ?_
  refine segG_wkh (b := (some (aI 1), (σ1, 0 + mC 125, 0 + mS 125))) rwL_putIn w0 (cut := cuC 4 (cuQ [(0, aR 2), (1, aI x1), (2, aR 120)] [aI x1, aR 2, aI 0, aR 120] (σ, 0, 0) (some (aI 1), (σ1, 0 + mC 125, 0 + mS 125))) cuN) ?_ 1000 0 _ _ (σ, 0, 0) cuQ_t
  exact ct_C (fun lc st s1 h => by
    obtain ⟨rfl, rfl, rfl⟩ := cuQ_of h
    exact w2) ct_N
theorem hL_putIn_2 {σ σ1 : SG} {x1 : Int} (h2 : 121 ≤ σ.1) (hM : MCT 125 [] (aR 2 :: [aI x1]) σ (.inr 2) σ1) : MCT 289 hhL_putIn [aR 2, aI x1, aR 120] σ (.inl (some (aI 2))) σ1 := by
  have w0 : 0 + mC 125 ≤ mC 289 ∧ 0 + mS 125 ≤ mS 289 := by decide +kernel
  have w1 : WKH 289 hhL_putIn (.inl (some (aI 2))) σ σ1 16 (delL 3 [(0, aR 2), (1, aI x1), (2, aR 120)]) [] σ1 (0 + mC 125) (0 + mS 125) := segG_wkh (b := (some (aI 2), (σ1, 0 + mC 125, 0 + mS 125))) rwL_putIn w0 ct_N 1000 16 (delL 3 [(0, aR 2), (1, aI x1), (2, aR 120)]) [] (σ1, 0 + mC 125, 0 + mS 125) rfl
  have w2 := callV_wkh (cells := 0) (slots := 0) (n := 289) (m := 125) (hh := hhL_putIn) (as := [aI x1]) (rest := [aI 0, aR 120]) (lc := [(0, aR 2), (1, aI x1), (2, aR 120)]) (pc := 4) (idx := 59) rfl (by decide +kernel) (by decide +kernel) (by decide +kernel) rfl ⟨by decide, by omega⟩ (by decide +kernel) (by decide +kernel) (by decide +kernel) hM w0 (fun x h => by cases h; exact ⟨(16, 3), ⟨[(0, 9, 12, 13)], (0, 9, 15, 17), [(0, 9, 18, 62)], rfl, by decide, by decide, by decide, by decide, rfl, by decide +kernel, Or.inr ⟨3, rfl, by decide +kernel, rfl⟩⟩, w1⟩) (fun v h => by cases h)
  refine mct_ofH rfl hwL_putIn (MFok 289 (by decide +kernel)) (fun _ => Nat.le_of_ble_eq_true rfl) ?_
  refine segG_wkh (b := (some (aI 2), (σ1, 0 + mC 125, 0 + mS 125))) rwL_putIn w0 (cut := cuC 4 (cuQ [(0, aR 2), (1, aI x1), (2, aR 120)] [aI x1, aR 2, aI 0, aR 120] (σ, 0, 0) (some (aI 2), (σ1, 0 + mC 125, 0 + mS 125))) cuN) ?_ 1000 0 _ _ (σ, 0, 0) cuQ_t
  exact ct_C (fun lc st s1 h => by
    obtain ⟨rfl, rfl, rfl⟩ := cuQ_of h
    exact w2) ct_N
theorem hL_putIn_3 {σ σ1 : SG} {x1 : Int} (h2 : 121 ≤ σ.1) (hM : MCT 125 [] (aR 2 :: [aI x1]) σ (.inr 3) σ1) : MCT 289 hhL_putIn [aR 2, aI x1, aR 120] σ (.inl (some (aI 3))) σ1 := by
  have w0 : 0 + mC 125 ≤ mC 289 ∧ 0 + mS 125 ≤ mS 289 := by decide +kernel
  have w1 : WKH 289 hhL_putIn (.inl (some (aI 3))) σ σ1 19 (delL 3 [(0, aR 2), (1, aI x1), (2, aR 120)]) [] σ1 (0 + mC 125) (0 + mS 125) := segG_wkh (b := (some (aI 3), (σ1, 0 + mC 125, 0 + mS 125))) rwL_putIn w0 ct_N 1000 19 (delL 3 [(0, aR 2), (1, aI x1), (2, aR 120)]) [] (σ1, 0 + mC 125, 0 + mS 125) rfl
  have w2 := callV_wkh (cells := 0) (slots := 0) (n := 289) (m := 125) (hh := hhL_putIn) (as := [aI x1]) (rest := [aI 0, aR 120]) (lc := [(0, aR 2), (1, aI x1), (2, aR 120)]) (pc := 4) (idx := 59) rfl (by decide +kernel) (by decide +kernel) (by decide +kernel) rfl ⟨by decide, by omega⟩ (by decide +kernel) (by decide +kernel) (by decide +kernel) hM w0 (fun x h => by cases h; exact ⟨(19, 3), ⟨[(0, 9, 12, 13), (0, 9, 15, 17)], (0, 9, 18, 62), [], rfl, by decide, by decide, by decide, by decide, rfl, by decide +kernel, Or.inr ⟨3, rfl, by decide +kernel, rfl⟩⟩, w1⟩) (fun v h => by cases h)
  refine mct_ofH rfl hwL_putIn (MFok 289 (by decide +kernel)) (fun _ => Nat.le_of_ble_eq_true rfl) ?_
  refine segG_wkh (b := (some (aI 3), (σ1, 0 + mC 125, 0 + mS 125))) rwL_putIn w0 (cut := cuC 4 (cuQ [(0, aR 2), (1, aI x1), (2, aR 120)] [aI x1, aR 2, aI 0, aR 120] (σ, 0, 0) (some (aI 3), (σ1, 0 + mC 125, 0 + mS 125))) cuN) ?_ 1000 0 _ _ (σ, 0, 0) cuQ_t
  exact ct_C (fun lc st s1 h => by
    obtain ⟨rfl, rfl, rfl⟩ := cuQ_of h
    exact w2) ct_N
def csL_putInCost : List (Nat × List (Nat × ARow)) := [(100000, [(0, 1, .aload_n 2, 0, 0, 0), (1, 1, .iconst 0, 0, 0, 0), (2, 1, .aload_n 0, 0, 0, 0), (3, 1, .iload_n 1, 0, 0, 0), (4, 3, .invokevirtual 64, 126, 2, 11), (7, 1, .i2l, 0, 0, 0), (8, 1, .lastore, 0, 0, 0), (9, 3, .goto 9, 18, 0, 0), (12, 1, .astore_n 3, 0, 0, 0), (13, 1, .iconst 1, 0, 0, 0), (14, 1, .ireturn, 0, 0, 0), (15, 1, .astore_n 3, 0, 0, 0), (16, 1, .iconst 2, 0, 0, 0), (17, 1, .ireturn, 0, 0, 0), (18, 1, .iconst 0, 0, 0, 0), (19, 1, .ireturn, 0, 0, 0)])]
theorem rwL_putInCost : rowsB (mB 290) (mO 290) (mX 290) (mIni 290) (mFr 290) (mLo 290) (mT 290) csL_putInCost = true := by decide +kernel
def hhL_putInCost : List (Nat × Nat × Nat × Nat) := [(0, 9, 12, 13), (0, 9, 15, 17)]
set_option maxRecDepth 100000 in
theorem hwL_putInCost : Cond.codeWith (mY 290) (mB 290) (mX 290) (mT 290) hhL_putInCost ∈ WG := wg5 (i := 145) rfl rfl
theorem hL_putInCost_0 {σ : SG} {x1 : Int} {y : Int} {r : Nat → Int → Nat} {i j : Nat → Int → Int} {d : Nat → Int → UInt64} (h2 : 121 ≤ σ.1) (hM : MCT 126 [] (aR 2 :: [aI x1]) σ (.inl (some (aI y))) (121, r, i, j, d)) : MCT 290 hhL_putInCost [aR 2, aI x1, aR 120] σ (.inl (some (aI 0))) (uJ (121, r, i, j, d) 120 0 y) := by
  have w0 : 0 + mC 126 ≤ mC 290 ∧ 0 + mS 126 ≤ mS 290 := by decide +kernel
  have w1 : WKH 290 hhL_putInCost (.inl (some (aI 0))) σ (uJ (121, r, i, j, d) 120 0 y) 7 [(0, aR 2), (1, aI x1), (2, aR 120)] [aI y, aI 0, aR 120] (121, r, i, j, d) (0 + mC 126) (0 + mS 126) := segG_wkh (b := (some (aI 0), (uJ (121, r, i, j, d) 120 0 y, 0 + mC 126, 0 + mS 126))) rwL_putInCost w0 ct_N 1000 7 [(0, aR 2), (1, aI x1), (2, aR 120)] [aI y, aI 0, aR 120] ((121, r, i, j, d), 0 + mC 126, 0 + mS 126) rfl
  have w2 := callV_wkh (cells := 0) (slots := 0) (n := 290) (m := 126) (hh := hhL_putInCost) (as := [aI x1]) (rest := [aI 0, aR 120]) (lc := [(0, aR 2), (1, aI x1), (2, aR 120)]) (pc := 4) (idx := 64) rfl (by decide +kernel) (by decide +kernel) (by decide +kernel) rfl ⟨by decide, by omega⟩ (by decide +kernel) (by decide +kernel) (by decide +kernel) hM w0 (fun x h => by cases h) (fun v h => by cases h; exact w1)
  refine mct_ofH rfl hwL_putInCost (MFok 290 (by decide +kernel)) (fun _ => Nat.le_of_ble_eq_true rfl) ?_
  refine segG_wkh (b := (some (aI 0), (uJ (121, r, i, j, d) 120 0 y, 0 + mC 126, 0 + mS 126))) rwL_putInCost w0 (cut := cuC 4 (cuQ [(0, aR 2), (1, aI x1), (2, aR 120)] [aI x1, aR 2, aI 0, aR 120] (σ, 0, 0) (some (aI 0), (uJ (121, r, i, j, d) 120 0 y, 0 + mC 126, 0 + mS 126))) cuN) ?_ 1000 0 _ _ (σ, 0, 0) cuQ_t
  exact ct_C (fun lc st s1 h => by
    obtain ⟨rfl, rfl, rfl⟩ := cuQ_of h
    exact w2) ct_N
theorem hL_putInCost_1 {σ σ1 : SG} {x1 : Int} (h2 : 121 ≤ σ.1) (hM : MCT 126 [] (aR 2 :: [aI x1]) σ (.inr 0) σ1) : MCT 290 hhL_putInCost [aR 2, aI x1, aR 120] σ (.inl (some (aI 1))) σ1 := by
  have w0 : 0 + mC 126 ≤ mC 290 ∧ 0 + mS 126 ≤ mS 290 := by decide +kernel
  have w1 : WKH 290 hhL_putInCost (.inl (some (aI 1))) σ σ1 13 (delL 3 [(0, aR 2), (1, aI x1), (2, aR 120)]) [] σ1 (0 + mC 126) (0 + mS 126) := segG_wkh (b := (some (aI 1), (σ1, 0 + mC 126, 0 + mS 126))) rwL_putInCost w0 ct_N 1000 13 (delL 3 [(0, aR 2), (1, aI x1), (2, aR 120)]) [] (σ1, 0 + mC 126, 0 + mS 126) rfl
  have w2 := callV_wkh (cells := 0) (slots := 0) (n := 290) (m := 126) (hh := hhL_putInCost) (as := [aI x1]) (rest := [aI 0, aR 120]) (lc := [(0, aR 2), (1, aI x1), (2, aR 120)]) (pc := 4) (idx := 64) rfl (by decide +kernel) (by decide +kernel) (by decide +kernel) rfl ⟨by decide, by omega⟩ (by decide +kernel) (by decide +kernel) (by decide +kernel) hM w0 (fun x h => by cases h; exact ⟨(13, 3), ⟨[], (0, 9, 12, 13), [(0, 9, 15, 17)], rfl, by decide, by decide, by decide, by decide, rfl, by decide +kernel, Or.inr ⟨3, rfl, by decide +kernel, rfl⟩⟩, w1⟩) (fun v h => by cases h)
  refine mct_ofH rfl hwL_putInCost (MFok 290 (by decide +kernel)) (fun _ => Nat.le_of_ble_eq_true rfl) ?_
  refine segG_wkh (b := (some (aI 1), (σ1, 0 + mC 126, 0 + mS 126))) rwL_putInCost w0 (cut := cuC 4 (cuQ [(0, aR 2), (1, aI x1), (2, aR 120)] [aI x1, aR 2, aI 0, aR 120] (σ, 0, 0) (some (aI 1), (σ1, 0 + mC 126, 0 + mS 126))) cuN) ?_ 1000 0 _ _ (σ, 0, 0) cuQ_t
  exact ct_C (fun lc st s1 h => by
    obtain ⟨rfl, rfl, rfl⟩ := cuQ_of h
    exact w2) ct_N
theorem hL_putInCost_2 {σ σ1 : SG} {x1 : Int} (h2 : 121 ≤ σ.1) (hM : MCT 126 [] (aR 2 :: [aI x1]) σ (.inr 2) σ1) : MCT 290 hhL_putInCost [aR 2, aI x1, aR 120] σ (.inl (some (aI 2))) σ1 := by
  have w0 : 0 + mC 126 ≤ mC 290 ∧ 0 + mS 126 ≤ mS 290 := by decide +kernel
  have w1 : WKH 290 hhL_putInCost (.inl (some (aI 2))) σ σ1 16 (delL 3 [(0, aR 2), (1, aI x1), (2, aR 120)]) [] σ1 (0 + mC 126) (0 + mS 126) := segG_wkh (b := (some (aI 2), (σ1, 0 + mC 126, 0 + mS 126))) rwL_putInCost w0 ct_N 1000 16 (delL 3 [(0, aR 2), (1, aI x1), (2, aR 120)]) [] (σ1, 0 + mC 126, 0 + mS 126) rfl
  have w2 := callV_wkh (cells := 0) (slots := 0) (n := 290) (m := 126) (hh := hhL_putInCost) (as := [aI x1]) (rest := [aI 0, aR 120]) (lc := [(0, aR 2), (1, aI x1), (2, aR 120)]) (pc := 4) (idx := 64) rfl (by decide +kernel) (by decide +kernel) (by decide +kernel) rfl ⟨by decide, by omega⟩ (by decide +kernel) (by decide +kernel) (by decide +kernel) hM w0 (fun x h => by cases h; exact ⟨(16, 3), ⟨[(0, 9, 12, 13)], (0, 9, 15, 17), [], rfl, by decide, by decide, by decide, by decide, rfl, by decide +kernel, Or.inr ⟨3, rfl, by decide +kernel, rfl⟩⟩, w1⟩) (fun v h => by cases h)
  refine mct_ofH rfl hwL_putInCost (MFok 290 (by decide +kernel)) (fun _ => Nat.le_of_ble_eq_true rfl) ?_
  refine segG_wkh (b := (some (aI 2), (σ1, 0 + mC 126, 0 + mS 126))) rwL_putInCost w0 (cut := cuC 4 (cuQ [(0, aR 2), (1, aI x1), (2, aR 120)] [aI x1, aR 2, aI 0, aR 120] (σ, 0, 0) (some (aI 2), (σ1, 0 + mC 126, 0 + mS 126))) cuN) ?_ 1000 0 _ _ (σ, 0, 0) cuQ_t
  exact ct_C (fun lc st s1 h => by
    obtain ⟨rfl, rfl, rfl⟩ := cuQ_of h
    exact w2) ct_N
def csL_better : List (Nat × List (Nat × ARow)) := [(100000, [(0, 1, .aload_n 2, 0, 0, 0), (1, 1, .iconst 0, 0, 0, 0), (2, 1, .aload_n 0, 0, 0, 0), (3, 1, .iload_n 1, 0, 0, 0), (4, 3, .invokevirtual 67, 127, 2, 11), (7, 1, .i2l, 0, 0, 0), (8, 1, .lastore, 0, 0, 0), (9, 3, .goto 6, 15, 0, 0), (12, 1, .astore_n 3, 0, 0, 0), (13, 1, .iconst 1, 0, 0, 0), (14, 1, .ireturn, 0, 0, 0), (15, 1, .iconst 0, 0, 0, 0), (16, 1, .ireturn, 0, 0, 0)])]
theorem rwL_better : rowsB (mB 291) (mO 291) (mX 291) (mIni 291) (mFr 291) (mLo 291) (mT 291) csL_better = true := by decide +kernel
def hhL_better : List (Nat × Nat × Nat × Nat) := [(0, 9, 12, 13)]
set_option maxRecDepth 100000 in
theorem hwL_better : Cond.codeWith (mY 291) (mB 291) (mX 291) (mT 291) hhL_better ∈ WG := wg5 (i := 152) rfl rfl
theorem hL_better_0 {σ : SG} {x1 : Int} {y : Int} {r : Nat → Int → Nat} {i j : Nat → Int → Int} {d : Nat → Int → UInt64} (h2 : 121 ≤ σ.1) (hM : MCT 127 [] (aR 2 :: [aI x1]) σ (.inl (some (aI y))) (121, r, i, j, d)) : MCT 291 hhL_better [aR 2, aI x1, aR 120] σ (.inl (some (aI 0))) (uJ (121, r, i, j, d) 120 0 y) := by
  have w0 : 0 + mC 127 ≤ mC 291 ∧ 0 + mS 127 ≤ mS 291 := by decide +kernel
  have w1 : WKH 291 hhL_better (.inl (some (aI 0))) σ (uJ (121, r, i, j, d) 120 0 y) 7 [(0, aR 2), (1, aI x1), (2, aR 120)] [aI y, aI 0, aR 120] (121, r, i, j, d) (0 + mC 127) (0 + mS 127) := segG_wkh (b := (some (aI 0), (uJ (121, r, i, j, d) 120 0 y, 0 + mC 127, 0 + mS 127))) rwL_better w0 ct_N 1000 7 [(0, aR 2), (1, aI x1), (2, aR 120)] [aI y, aI 0, aR 120] ((121, r, i, j, d), 0 + mC 127, 0 + mS 127) rfl
  have w2 := callV_wkh (cells := 0) (slots := 0) (n := 291) (m := 127) (hh := hhL_better) (as := [aI x1]) (rest := [aI 0, aR 120]) (lc := [(0, aR 2), (1, aI x1), (2, aR 120)]) (pc := 4) (idx := 67) rfl (by decide +kernel) (by decide +kernel) (by decide +kernel) rfl ⟨by decide, by omega⟩ (by decide +kernel) (by decide +kernel) (by decide +kernel) hM w0 (fun x h => by cases h) (fun v h => by cases h; exact w1)
  refine mct_ofH rfl hwL_better (MFok 291 (by decide +kernel)) (fun _ => Nat.le_of_ble_eq_true rfl) ?_
  refine segG_wkh (b := (some (aI 0), (uJ (121, r, i, j, d) 120 0 y, 0 + mC 127, 0 + mS 127))) rwL_better w0 (cut := cuC 4 (cuQ [(0, aR 2), (1, aI x1), (2, aR 120)] [aI x1, aR 2, aI 0, aR 120] (σ, 0, 0) (some (aI 0), (uJ (121, r, i, j, d) 120 0 y, 0 + mC 127, 0 + mS 127))) cuN) ?_ 1000 0 _ _ (σ, 0, 0) cuQ_t
  exact ct_C (fun lc st s1 h => by
    obtain ⟨rfl, rfl, rfl⟩ := cuQ_of h
    exact w2) ct_N
theorem hL_better_1 {σ σ1 : SG} {x1 : Int} (h2 : 121 ≤ σ.1) (hM : MCT 127 [] (aR 2 :: [aI x1]) σ (.inr 0) σ1) : MCT 291 hhL_better [aR 2, aI x1, aR 120] σ (.inl (some (aI 1))) σ1 := by
  have w0 : 0 + mC 127 ≤ mC 291 ∧ 0 + mS 127 ≤ mS 291 := by decide +kernel
  have w1 : WKH 291 hhL_better (.inl (some (aI 1))) σ σ1 13 (delL 3 [(0, aR 2), (1, aI x1), (2, aR 120)]) [] σ1 (0 + mC 127) (0 + mS 127) := segG_wkh (b := (some (aI 1), (σ1, 0 + mC 127, 0 + mS 127))) rwL_better w0 ct_N 1000 13 (delL 3 [(0, aR 2), (1, aI x1), (2, aR 120)]) [] (σ1, 0 + mC 127, 0 + mS 127) rfl
  have w2 := callV_wkh (cells := 0) (slots := 0) (n := 291) (m := 127) (hh := hhL_better) (as := [aI x1]) (rest := [aI 0, aR 120]) (lc := [(0, aR 2), (1, aI x1), (2, aR 120)]) (pc := 4) (idx := 67) rfl (by decide +kernel) (by decide +kernel) (by decide +kernel) rfl ⟨by decide, by omega⟩ (by decide +kernel) (by decide +kernel) (by decide +kernel) hM w0 (fun x h => by cases h; exact ⟨(13, 3), ⟨[], (0, 9, 12, 13), [], rfl, by decide, by decide, by decide, by decide, rfl, by decide +kernel, Or.inr ⟨3, rfl, by decide +kernel, rfl⟩⟩, w1⟩) (fun v h => by cases h)
  refine mct_ofH rfl hwL_better (MFok 291 (by decide +kernel)) (fun _ => Nat.le_of_ble_eq_true rfl) ?_
  refine segG_wkh (b := (some (aI 1), (σ1, 0 + mC 127, 0 + mS 127))) rwL_better w0 (cut := cuC 4 (cuQ [(0, aR 2), (1, aI x1), (2, aR 120)] [aI x1, aR 2, aI 0, aR 120] (σ, 0, 0) (some (aI 1), (σ1, 0 + mC 127, 0 + mS 127))) cuN) ?_ 1000 0 _ _ (σ, 0, 0) cuQ_t
  exact ct_C (fun lc st s1 h => by
    obtain ⟨rfl, rfl, rfl⟩ := cuQ_of h
    exact w2) ct_N
def csL_exact : List (Nat × List (Nat × ARow)) := [(100000, [(0, 1, .aload_n 2, 0, 0, 0), (1, 1, .iconst 0, 0, 0, 0), (2, 1, .aload_n 0, 0, 0, 0), (3, 1, .iload_n 1, 0, 0, 0), (4, 3, .invokevirtual 70, 128, 2, 11), (7, 1, .i2l, 0, 0, 0), (8, 1, .lastore, 0, 0, 0), (9, 3, .goto 6, 15, 0, 0), (12, 1, .astore_n 3, 0, 0, 0), (13, 1, .iconst 1, 0, 0, 0), (14, 1, .ireturn, 0, 0, 0), (15, 1, .iconst 0, 0, 0, 0), (16, 1, .ireturn, 0, 0, 0)])]
theorem rwL_exact : rowsB (mB 292) (mO 292) (mX 292) (mIni 292) (mFr 292) (mLo 292) (mT 292) csL_exact = true := by decide +kernel
def hhL_exact : List (Nat × Nat × Nat × Nat) := [(0, 9, 12, 13)]
set_option maxRecDepth 100000 in
theorem hwL_exact : Cond.codeWith (mY 292) (mB 292) (mX 292) (mT 292) hhL_exact ∈ WG := wg5 (i := 181) rfl rfl
theorem hL_exact_0 {σ : SG} {x1 : Int} {y : Int} {r : Nat → Int → Nat} {i j : Nat → Int → Int} {d : Nat → Int → UInt64} (h2 : 121 ≤ σ.1) (hM : MCT 128 [] (aR 2 :: [aI x1]) σ (.inl (some (aI y))) (121, r, i, j, d)) : MCT 292 hhL_exact [aR 2, aI x1, aR 120] σ (.inl (some (aI 0))) (uJ (121, r, i, j, d) 120 0 y) := by
  have w0 : 0 + mC 128 ≤ mC 292 ∧ 0 + mS 128 ≤ mS 292 := by decide +kernel
  have w1 : WKH 292 hhL_exact (.inl (some (aI 0))) σ (uJ (121, r, i, j, d) 120 0 y) 7 [(0, aR 2), (1, aI x1), (2, aR 120)] [aI y, aI 0, aR 120] (121, r, i, j, d) (0 + mC 128) (0 + mS 128) := segG_wkh (b := (some (aI 0), (uJ (121, r, i, j, d) 120 0 y, 0 + mC 128, 0 + mS 128))) rwL_exact w0 ct_N 1000 7 [(0, aR 2), (1, aI x1), (2, aR 120)] [aI y, aI 0, aR 120] ((121, r, i, j, d), 0 + mC 128, 0 + mS 128) rfl
  have w2 := callV_wkh (cells := 0) (slots := 0) (n := 292) (m := 128) (hh := hhL_exact) (as := [aI x1]) (rest := [aI 0, aR 120]) (lc := [(0, aR 2), (1, aI x1), (2, aR 120)]) (pc := 4) (idx := 70) rfl (by decide +kernel) (by decide +kernel) (by decide +kernel) rfl ⟨by decide, by omega⟩ (by decide +kernel) (by decide +kernel) (by decide +kernel) hM w0 (fun x h => by cases h) (fun v h => by cases h; exact w1)
  refine mct_ofH rfl hwL_exact (MFok 292 (by decide +kernel)) (fun _ => Nat.le_of_ble_eq_true rfl) ?_
  refine segG_wkh (b := (some (aI 0), (uJ (121, r, i, j, d) 120 0 y, 0 + mC 128, 0 + mS 128))) rwL_exact w0 (cut := cuC 4 (cuQ [(0, aR 2), (1, aI x1), (2, aR 120)] [aI x1, aR 2, aI 0, aR 120] (σ, 0, 0) (some (aI 0), (uJ (121, r, i, j, d) 120 0 y, 0 + mC 128, 0 + mS 128))) cuN) ?_ 1000 0 _ _ (σ, 0, 0) cuQ_t
  exact ct_C (fun lc st s1 h => by
    obtain ⟨rfl, rfl, rfl⟩ := cuQ_of h
    exact w2) ct_N
theorem hL_exact_1 {σ σ1 : SG} {x1 : Int} (h2 : 121 ≤ σ.1) (hM : MCT 128 [] (aR 2 :: [aI x1]) σ (.inr 0) σ1) : MCT 292 hhL_exact [aR 2, aI x1, aR 120] σ (.inl (some (aI 1))) σ1 := by
  have w0 : 0 + mC 128 ≤ mC 292 ∧ 0 + mS 128 ≤ mS 292 := by decide +kernel
  have w1 : WKH 292 hhL_exact (.inl (some (aI 1))) σ σ1 13 (delL 3 [(0, aR 2), (1, aI x1), (2, aR 120)]) [] σ1 (0 + mC 128) (0 + mS 128) := segG_wkh (b := (some (aI 1), (σ1, 0 + mC 128, 0 + mS 128))) rwL_exact w0 ct_N 1000 13 (delL 3 [(0, aR 2), (1, aI x1), (2, aR 120)]) [] (σ1, 0 + mC 128, 0 + mS 128) rfl
  have w2 := callV_wkh (cells := 0) (slots := 0) (n := 292) (m := 128) (hh := hhL_exact) (as := [aI x1]) (rest := [aI 0, aR 120]) (lc := [(0, aR 2), (1, aI x1), (2, aR 120)]) (pc := 4) (idx := 70) rfl (by decide +kernel) (by decide +kernel) (by decide +kernel) rfl ⟨by decide, by omega⟩ (by decide +kernel) (by decide +kernel) (by decide +kernel) hM w0 (fun x h => by cases h; exact ⟨(13, 3), ⟨[], (0, 9, 12, 13), [], rfl, by decide, by decide, by decide, by decide, rfl, by decide +kernel, Or.inr ⟨3, rfl, by decide +kernel, rfl⟩⟩, w1⟩) (fun v h => by cases h)
  refine mct_ofH rfl hwL_exact (MFok 292 (by decide +kernel)) (fun _ => Nat.le_of_ble_eq_true rfl) ?_
  refine segG_wkh (b := (some (aI 1), (σ1, 0 + mC 128, 0 + mS 128))) rwL_exact w0 (cut := cuC 4 (cuQ [(0, aR 2), (1, aI x1), (2, aR 120)] [aI x1, aR 2, aI 0, aR 120] (σ, 0, 0) (some (aI 1), (σ1, 0 + mC 128, 0 + mS 128))) cuN) ?_ 1000 0 _ _ (σ, 0, 0) cuQ_t
  exact ct_C (fun lc st s1 h => by
    obtain ⟨rfl, rfl, rfl⟩ := cuQ_of h
    exact w2) ct_N
def csL_roundAt : List (Nat × List (Nat × ARow)) := [(100000, [(0, 1, .aload_n 3, 0, 0, 0), (1, 1, .iconst 0, 0, 0, 0), (2, 1, .aload_n 0, 0, 0, 0), (3, 1, .iload_n 1, 0, 0, 0), (4, 1, .iload_n 2, 0, 0, 0), (5, 3, .invokevirtual 73, 129, 3, 11), (8, 1, .i2l, 0, 0, 0), (9, 1, .lastore, 0, 0, 0), (10, 3, .goto 11, 21, 0, 0), (13, 2, .astore 4, 0, 0, 0), (15, 1, .iconst 1, 0, 0, 0), (16, 1, .ireturn, 0, 0, 0), (17, 2, .astore 4, 0, 0, 0), (19, 1, .iconst 2, 0, 0, 0), (20, 1, .ireturn, 0, 0, 0), (21, 1, .iconst 0, 0, 0, 0), (22, 1, .ireturn, 0, 0, 0)])]
theorem rwL_roundAt : rowsB (mB 293) (mO 293) (mX 293) (mIni 293) (mFr 293) (mLo 293) (mT 293) csL_roundAt = true := by decide +kernel
def hhL_roundAt : List (Nat × Nat × Nat × Nat) := [(0, 10, 13, 13), (0, 10, 17, 62)]
set_option maxRecDepth 100000 in
theorem hwL_roundAt : Cond.codeWith (mY 293) (mB 293) (mX 293) (mT 293) hhL_roundAt ∈ WG := wg5 (i := 208) rfl rfl
theorem hL_roundAt_0 {σ : SG} {x1 x2 : Int} {y : Int} {r : Nat → Int → Nat} {i j : Nat → Int → Int} {d : Nat → Int → UInt64} (h2 : 121 ≤ σ.1) (hM : MCT 129 [] (aR 2 :: [aI x1, aI x2]) σ (.inl (some (aI y))) (121, r, i, j, d)) : MCT 293 hhL_roundAt [aR 2, aI x1, aI x2, aR 120] σ (.inl (some (aI 0))) (uJ (121, r, i, j, d) 120 0 y) := by
  have w0 : 0 + mC 129 ≤ mC 293 ∧ 0 + mS 129 ≤ mS 293 := by decide +kernel
  have w1 : WKH 293 hhL_roundAt (.inl (some (aI 0))) σ (uJ (121, r, i, j, d) 120 0 y) 8 [(0, aR 2), (1, aI x1), (2, aI x2), (3, aR 120)] [aI y, aI 0, aR 120] (121, r, i, j, d) (0 + mC 129) (0 + mS 129) := segG_wkh (b := (some (aI 0), (uJ (121, r, i, j, d) 120 0 y, 0 + mC 129, 0 + mS 129))) rwL_roundAt w0 ct_N 1000 8 [(0, aR 2), (1, aI x1), (2, aI x2), (3, aR 120)] [aI y, aI 0, aR 120] ((121, r, i, j, d), 0 + mC 129, 0 + mS 129) rfl
  have w2 := callV_wkh (cells := 0) (slots := 0) (n := 293) (m := 129) (hh := hhL_roundAt) (as := [aI x1, aI x2]) (rest := [aI 0, aR 120]) (lc := [(0, aR 2), (1, aI x1), (2, aI x2), (3, aR 120)]) (pc := 5) (idx := 73) rfl (by decide +kernel) (by decide +kernel) (by decide +kernel) rfl ⟨by decide, by omega⟩ (by decide +kernel) (by decide +kernel) (by decide +kernel) hM w0 (fun x h => by cases h) (fun v h => by cases h; exact w1)
  refine mct_ofH rfl hwL_roundAt (MFok 293 (by decide +kernel)) (fun _ => Nat.le_of_ble_eq_true rfl) ?_
  refine segG_wkh (b := (some (aI 0), (uJ (121, r, i, j, d) 120 0 y, 0 + mC 129, 0 + mS 129))) rwL_roundAt w0 (cut := cuC 5 (cuQ [(0, aR 2), (1, aI x1), (2, aI x2), (3, aR 120)] [aI x2, aI x1, aR 2, aI 0, aR 120] (σ, 0, 0) (some (aI 0), (uJ (121, r, i, j, d) 120 0 y, 0 + mC 129, 0 + mS 129))) cuN) ?_ 1000 0 _ _ (σ, 0, 0) cuQ_t
  exact ct_C (fun lc st s1 h => by
    obtain ⟨rfl, rfl, rfl⟩ := cuQ_of h
    exact w2) ct_N
theorem hL_roundAt_1 {σ σ1 : SG} {x1 x2 : Int} (h2 : 121 ≤ σ.1) (hM : MCT 129 [] (aR 2 :: [aI x1, aI x2]) σ (.inr 0) σ1) : MCT 293 hhL_roundAt [aR 2, aI x1, aI x2, aR 120] σ (.inl (some (aI 1))) σ1 := by
  have w0 : 0 + mC 129 ≤ mC 293 ∧ 0 + mS 129 ≤ mS 293 := by decide +kernel
  have w1 : WKH 293 hhL_roundAt (.inl (some (aI 1))) σ σ1 15 (delL 4 [(0, aR 2), (1, aI x1), (2, aI x2), (3, aR 120)]) [] σ1 (0 + mC 129) (0 + mS 129) := segG_wkh (b := (some (aI 1), (σ1, 0 + mC 129, 0 + mS 129))) rwL_roundAt w0 ct_N 1000 15 (delL 4 [(0, aR 2), (1, aI x1), (2, aI x2), (3, aR 120)]) [] (σ1, 0 + mC 129, 0 + mS 129) rfl
  have w2 := callV_wkh (cells := 0) (slots := 0) (n := 293) (m := 129) (hh := hhL_roundAt) (as := [aI x1, aI x2]) (rest := [aI 0, aR 120]) (lc := [(0, aR 2), (1, aI x1), (2, aI x2), (3, aR 120)]) (pc := 5) (idx := 73) rfl (by decide +kernel) (by decide +kernel) (by decide +kernel) rfl ⟨by decide, by omega⟩ (by decide +kernel) (by decide +kernel) (by decide +kernel) hM w0 (fun x h => by cases h; exact ⟨(15, 4), ⟨[], (0, 10, 13, 13), [(0, 10, 17, 62)], rfl, by decide, by decide, by decide, by decide, rfl, by decide +kernel, Or.inl ⟨by decide +kernel, rfl⟩⟩, w1⟩) (fun v h => by cases h)
  refine mct_ofH rfl hwL_roundAt (MFok 293 (by decide +kernel)) (fun _ => Nat.le_of_ble_eq_true rfl) ?_
  refine segG_wkh (b := (some (aI 1), (σ1, 0 + mC 129, 0 + mS 129))) rwL_roundAt w0 (cut := cuC 5 (cuQ [(0, aR 2), (1, aI x1), (2, aI x2), (3, aR 120)] [aI x2, aI x1, aR 2, aI 0, aR 120] (σ, 0, 0) (some (aI 1), (σ1, 0 + mC 129, 0 + mS 129))) cuN) ?_ 1000 0 _ _ (σ, 0, 0) cuQ_t
  exact ct_C (fun lc st s1 h => by
    obtain ⟨rfl, rfl, rfl⟩ := cuQ_of h
    exact w2) ct_N
theorem hL_roundAt_2 {σ σ1 : SG} {x1 x2 : Int} (h2 : 121 ≤ σ.1) (hM : MCT 129 [] (aR 2 :: [aI x1, aI x2]) σ (.inr 3) σ1) : MCT 293 hhL_roundAt [aR 2, aI x1, aI x2, aR 120] σ (.inl (some (aI 2))) σ1 := by
  have w0 : 0 + mC 129 ≤ mC 293 ∧ 0 + mS 129 ≤ mS 293 := by decide +kernel
  have w1 : WKH 293 hhL_roundAt (.inl (some (aI 2))) σ σ1 19 (delL 4 [(0, aR 2), (1, aI x1), (2, aI x2), (3, aR 120)]) [] σ1 (0 + mC 129) (0 + mS 129) := segG_wkh (b := (some (aI 2), (σ1, 0 + mC 129, 0 + mS 129))) rwL_roundAt w0 ct_N 1000 19 (delL 4 [(0, aR 2), (1, aI x1), (2, aI x2), (3, aR 120)]) [] (σ1, 0 + mC 129, 0 + mS 129) rfl
  have w2 := callV_wkh (cells := 0) (slots := 0) (n := 293) (m := 129) (hh := hhL_roundAt) (as := [aI x1, aI x2]) (rest := [aI 0, aR 120]) (lc := [(0, aR 2), (1, aI x1), (2, aI x2), (3, aR 120)]) (pc := 5) (idx := 73) rfl (by decide +kernel) (by decide +kernel) (by decide +kernel) rfl ⟨by decide, by omega⟩ (by decide +kernel) (by decide +kernel) (by decide +kernel) hM w0 (fun x h => by cases h; exact ⟨(19, 4), ⟨[(0, 10, 13, 13)], (0, 10, 17, 62), [], rfl, by decide, by decide, by decide, by decide, rfl, by decide +kernel, Or.inl ⟨by decide +kernel, rfl⟩⟩, w1⟩) (fun v h => by cases h)
  refine mct_ofH rfl hwL_roundAt (MFok 293 (by decide +kernel)) (fun _ => Nat.le_of_ble_eq_true rfl) ?_
  refine segG_wkh (b := (some (aI 2), (σ1, 0 + mC 129, 0 + mS 129))) rwL_roundAt w0 (cut := cuC 5 (cuQ [(0, aR 2), (1, aI x1), (2, aI x2), (3, aR 120)] [aI x2, aI x1, aR 2, aI 0, aR 120] (σ, 0, 0) (some (aI 2), (σ1, 0 + mC 129, 0 + mS 129))) cuN) ?_ 1000 0 _ _ (σ, 0, 0) cuQ_t
  exact ct_C (fun lc st s1 h => by
    obtain ⟨rfl, rfl, rfl⟩ := cuQ_of h
    exact w2) ct_N
def csL_ofRound : List (Nat × List (Nat × ARow)) := [(100000, [(0, 1, .aload_n 3, 0, 0, 0), (1, 1, .iconst 0, 0, 0, 0), (2, 1, .aload_n 0, 0, 0, 0), (3, 1, .iload_n 1, 0, 0, 0), (4, 1, .iload_n 2, 0, 0, 0), (5, 3, .invokevirtual 76, 130, 3, 11), (8, 1, .i2l, 0, 0, 0), (9, 1, .lastore, 0, 0, 0), (10, 3, .goto 11, 21, 0, 0), (13, 2, .astore 4, 0, 0, 0), (15, 1, .iconst 1, 0, 0, 0), (16, 1, .ireturn, 0, 0, 0), (17, 2, .astore 4, 0, 0, 0), (19, 1, .iconst 2, 0, 0, 0), (20, 1, .ireturn, 0, 0, 0), (21, 1, .iconst 0, 0, 0, 0), (22, 1, .ireturn, 0, 0, 0)])]
theorem rwL_ofRound : rowsB (mB 294) (mO 294) (mX 294) (mIni 294) (mFr 294) (mLo 294) (mT 294) csL_ofRound = true := by decide +kernel
def hhL_ofRound : List (Nat × Nat × Nat × Nat) := [(0, 10, 13, 13), (0, 10, 17, 15)]
set_option maxRecDepth 100000 in
theorem hwL_ofRound : Cond.codeWith (mY 294) (mB 294) (mX 294) (mT 294) hhL_ofRound ∈ WG := wg5 (i := 215) rfl rfl
theorem hL_ofRound_0 {σ : SG} {x1 x2 : Int} {y : Int} {r : Nat → Int → Nat} {i j : Nat → Int → Int} {d : Nat → Int → UInt64} (h2 : 121 ≤ σ.1) (hM : MCT 130 [] (aR 2 :: [aI x1, aI x2]) σ (.inl (some (aI y))) (121, r, i, j, d)) : MCT 294 hhL_ofRound [aR 2, aI x1, aI x2, aR 120] σ (.inl (some (aI 0))) (uJ (121, r, i, j, d) 120 0 y) := by
  have w0 : 0 + mC 130 ≤ mC 294 ∧ 0 + mS 130 ≤ mS 294 := by decide +kernel
  have w1 : WKH 294 hhL_ofRound (.inl (some (aI 0))) σ (uJ (121, r, i, j, d) 120 0 y) 8 [(0, aR 2), (1, aI x1), (2, aI x2), (3, aR 120)] [aI y, aI 0, aR 120] (121, r, i, j, d) (0 + mC 130) (0 + mS 130) := segG_wkh (b := (some (aI 0), (uJ (121, r, i, j, d) 120 0 y, 0 + mC 130, 0 + mS 130))) rwL_ofRound w0 ct_N 1000 8 [(0, aR 2), (1, aI x1), (2, aI x2), (3, aR 120)] [aI y, aI 0, aR 120] ((121, r, i, j, d), 0 + mC 130, 0 + mS 130) rfl
  have w2 := callV_wkh (cells := 0) (slots := 0) (n := 294) (m := 130) (hh := hhL_ofRound) (as := [aI x1, aI x2]) (rest := [aI 0, aR 120]) (lc := [(0, aR 2), (1, aI x1), (2, aI x2), (3, aR 120)]) (pc := 5) (idx := 76) rfl (by decide +kernel) (by decide +kernel) (by decide +kernel) rfl ⟨by decide, by omega⟩ (by decide +kernel) (by decide +kernel) (by decide +kernel) hM w0 (fun x h => by cases h) (fun v h => by cases h; exact w1)
  refine mct_ofH rfl hwL_ofRound (MFok 294 (by decide +kernel)) (fun _ => Nat.le_of_ble_eq_true rfl) ?_
  refine segG_wkh (b := (some (aI 0), (uJ (121, r, i, j, d) 120 0 y, 0 + mC 130, 0 + mS 130))) rwL_ofRound w0 (cut := cuC 5 (cuQ [(0, aR 2), (1, aI x1), (2, aI x2), (3, aR 120)] [aI x2, aI x1, aR 2, aI 0, aR 120] (σ, 0, 0) (some (aI 0), (uJ (121, r, i, j, d) 120 0 y, 0 + mC 130, 0 + mS 130))) cuN) ?_ 1000 0 _ _ (σ, 0, 0) cuQ_t
  exact ct_C (fun lc st s1 h => by
    obtain ⟨rfl, rfl, rfl⟩ := cuQ_of h
    exact w2) ct_N
theorem hL_ofRound_1 {σ σ1 : SG} {x1 x2 : Int} (h2 : 121 ≤ σ.1) (hM : MCT 130 [] (aR 2 :: [aI x1, aI x2]) σ (.inr 0) σ1) : MCT 294 hhL_ofRound [aR 2, aI x1, aI x2, aR 120] σ (.inl (some (aI 1))) σ1 := by
  have w0 : 0 + mC 130 ≤ mC 294 ∧ 0 + mS 130 ≤ mS 294 := by decide +kernel
  have w1 : WKH 294 hhL_ofRound (.inl (some (aI 1))) σ σ1 15 (delL 4 [(0, aR 2), (1, aI x1), (2, aI x2), (3, aR 120)]) [] σ1 (0 + mC 130) (0 + mS 130) := segG_wkh (b := (some (aI 1), (σ1, 0 + mC 130, 0 + mS 130))) rwL_ofRound w0 ct_N 1000 15 (delL 4 [(0, aR 2), (1, aI x1), (2, aI x2), (3, aR 120)]) [] (σ1, 0 + mC 130, 0 + mS 130) rfl
  have w2 := callV_wkh (cells := 0) (slots := 0) (n := 294) (m := 130) (hh := hhL_ofRound) (as := [aI x1, aI x2]) (rest := [aI 0, aR 120]) (lc := [(0, aR 2), (1, aI x1), (2, aI x2), (3, aR 120)]) (pc := 5) (idx := 76) rfl (by decide +kernel) (by decide +kernel) (by decide +kernel) rfl ⟨by decide, by omega⟩ (by decide +kernel) (by decide +kernel) (by decide +kernel) hM w0 (fun x h => by cases h; exact ⟨(15, 4), ⟨[], (0, 10, 13, 13), [(0, 10, 17, 15)], rfl, by decide, by decide, by decide, by decide, rfl, by decide +kernel, Or.inl ⟨by decide +kernel, rfl⟩⟩, w1⟩) (fun v h => by cases h)
  refine mct_ofH rfl hwL_ofRound (MFok 294 (by decide +kernel)) (fun _ => Nat.le_of_ble_eq_true rfl) ?_
  refine segG_wkh (b := (some (aI 1), (σ1, 0 + mC 130, 0 + mS 130))) rwL_ofRound w0 (cut := cuC 5 (cuQ [(0, aR 2), (1, aI x1), (2, aI x2), (3, aR 120)] [aI x2, aI x1, aR 2, aI 0, aR 120] (σ, 0, 0) (some (aI 1), (σ1, 0 + mC 130, 0 + mS 130))) cuN) ?_ 1000 0 _ _ (σ, 0, 0) cuQ_t
  exact ct_C (fun lc st s1 h => by
    obtain ⟨rfl, rfl, rfl⟩ := cuQ_of h
    exact w2) ct_N
theorem hL_ofRound_2 {σ σ1 : SG} {x1 x2 : Int} (h2 : 121 ≤ σ.1) (hM : MCT 130 [] (aR 2 :: [aI x1, aI x2]) σ (.inr 1) σ1) : MCT 294 hhL_ofRound [aR 2, aI x1, aI x2, aR 120] σ (.inl (some (aI 2))) σ1 := by
  have w0 : 0 + mC 130 ≤ mC 294 ∧ 0 + mS 130 ≤ mS 294 := by decide +kernel
  have w1 : WKH 294 hhL_ofRound (.inl (some (aI 2))) σ σ1 19 (delL 4 [(0, aR 2), (1, aI x1), (2, aI x2), (3, aR 120)]) [] σ1 (0 + mC 130) (0 + mS 130) := segG_wkh (b := (some (aI 2), (σ1, 0 + mC 130, 0 + mS 130))) rwL_ofRound w0 ct_N 1000 19 (delL 4 [(0, aR 2), (1, aI x1), (2, aI x2), (3, aR 120)]) [] (σ1, 0 + mC 130, 0 + mS 130) rfl
  have w2 := callV_wkh (cells := 0) (slots := 0) (n := 294) (m := 130) (hh := hhL_ofRound) (as := [aI x1, aI x2]) (rest := [aI 0, aR 120]) (lc := [(0, aR 2), (1, aI x1), (2, aI x2), (3, aR 120)]) (pc := 5) (idx := 76) rfl (by decide +kernel) (by decide +kernel) (by decide +kernel) rfl ⟨by decide, by omega⟩ (by decide +kernel) (by decide +kernel) (by decide +kernel) hM w0 (fun x h => by cases h; exact ⟨(19, 4), ⟨[(0, 10, 13, 13)], (0, 10, 17, 15), [], rfl, by decide, by decide, by decide, by decide, rfl, by decide +kernel, Or.inl ⟨by decide +kernel, rfl⟩⟩, w1⟩) (fun v h => by cases h)
  refine mct_ofH rfl hwL_ofRound (MFok 294 (by decide +kernel)) (fun _ => Nat.le_of_ble_eq_true rfl) ?_
  refine segG_wkh (b := (some (aI 2), (σ1, 0 + mC 130, 0 + mS 130))) rwL_ofRound w0 (cut := cuC 5 (cuQ [(0, aR 2), (1, aI x1), (2, aI x2), (3, aR 120)] [aI x2, aI x1, aR 2, aI 0, aR 120] (σ, 0, 0) (some (aI 2), (σ1, 0 + mC 130, 0 + mS 130))) cuN) ?_ 1000 0 _ _ (σ, 0, 0) cuQ_t
  exact ct_C (fun lc st s1 h => by
    obtain ⟨rfl, rfl, rfl⟩ := cuQ_of h
    exact w2) ct_N
def csL_served : List (Nat × List (Nat × ARow)) := [(100000, [(0, 1, .aload_n 2, 0, 0, 0), (1, 1, .iconst 0, 0, 0, 0), (2, 1, .aload_n 0, 0, 0, 0), (3, 1, .iload_n 1, 0, 0, 0), (4, 3, .invokevirtual 79, 131, 2, 11), (7, 1, .i2l, 0, 0, 0), (8, 1, .lastore, 0, 0, 0), (9, 3, .goto 9, 18, 0, 0), (12, 1, .astore_n 3, 0, 0, 0), (13, 1, .iconst 1, 0, 0, 0), (14, 1, .ireturn, 0, 0, 0), (15, 1, .astore_n 3, 0, 0, 0), (16, 1, .iconst 2, 0, 0, 0), (17, 1, .ireturn, 0, 0, 0), (18, 1, .iconst 0, 0, 0, 0), (19, 1, .ireturn, 0, 0, 0)])]
theorem rwL_served : rowsB (mB 295) (mO 295) (mX 295) (mIni 295) (mFr 295) (mLo 295) (mT 295) csL_served = true := by decide +kernel
def hhL_served : List (Nat × Nat × Nat × Nat) := [(0, 9, 12, 13), (0, 9, 15, 17)]
set_option maxRecDepth 100000 in
theorem hwL_served : Cond.codeWith (mY 295) (mB 295) (mX 295) (mT 295) hhL_served ∈ WG := wg5 (i := 226) rfl rfl
theorem hL_served_0 {σ : SG} {x1 : Int} {y : Int} {r : Nat → Int → Nat} {i j : Nat → Int → Int} {d : Nat → Int → UInt64} (h2 : 121 ≤ σ.1) (hM : MCT 131 [] (aR 2 :: [aI x1]) σ (.inl (some (aI y))) (121, r, i, j, d)) : MCT 295 hhL_served [aR 2, aI x1, aR 120] σ (.inl (some (aI 0))) (uJ (121, r, i, j, d) 120 0 y) := by
  have w0 : 0 + mC 131 ≤ mC 295 ∧ 0 + mS 131 ≤ mS 295 := by decide +kernel
  have w1 : WKH 295 hhL_served (.inl (some (aI 0))) σ (uJ (121, r, i, j, d) 120 0 y) 7 [(0, aR 2), (1, aI x1), (2, aR 120)] [aI y, aI 0, aR 120] (121, r, i, j, d) (0 + mC 131) (0 + mS 131) := segG_wkh (b := (some (aI 0), (uJ (121, r, i, j, d) 120 0 y, 0 + mC 131, 0 + mS 131))) rwL_served w0 ct_N 1000 7 [(0, aR 2), (1, aI x1), (2, aR 120)] [aI y, aI 0, aR 120] ((121, r, i, j, d), 0 + mC 131, 0 + mS 131) rfl
  have w2 := callV_wkh (cells := 0) (slots := 0) (n := 295) (m := 131) (hh := hhL_served) (as := [aI x1]) (rest := [aI 0, aR 120]) (lc := [(0, aR 2), (1, aI x1), (2, aR 120)]) (pc := 4) (idx := 79) rfl (by decide +kernel) (by decide +kernel) (by decide +kernel) rfl ⟨by decide, by omega⟩ (by decide +kernel) (by decide +kernel) (by decide +kernel) hM w0 (fun x h => by cases h) (fun v h => by cases h; exact w1)
  refine mct_ofH rfl hwL_served (MFok 295 (by decide +kernel)) (fun _ => Nat.le_of_ble_eq_true rfl) ?_
  refine segG_wkh (b := (some (aI 0), (uJ (121, r, i, j, d) 120 0 y, 0 + mC 131, 0 + mS 131))) rwL_served w0 (cut := cuC 4 (cuQ [(0, aR 2), (1, aI x1), (2, aR 120)] [aI x1, aR 2, aI 0, aR 120] (σ, 0, 0) (some (aI 0), (uJ (121, r, i, j, d) 120 0 y, 0 + mC 131, 0 + mS 131))) cuN) ?_ 1000 0 _ _ (σ, 0, 0) cuQ_t
  exact ct_C (fun lc st s1 h => by
    obtain ⟨rfl, rfl, rfl⟩ := cuQ_of h
    exact w2) ct_N
theorem hL_served_1 {σ σ1 : SG} {x1 : Int} (h2 : 121 ≤ σ.1) (hM : MCT 131 [] (aR 2 :: [aI x1]) σ (.inr 0) σ1) : MCT 295 hhL_served [aR 2, aI x1, aR 120] σ (.inl (some (aI 1))) σ1 := by
  have w0 : 0 + mC 131 ≤ mC 295 ∧ 0 + mS 131 ≤ mS 295 := by decide +kernel
  have w1 : WKH 295 hhL_served (.inl (some (aI 1))) σ σ1 13 (delL 3 [(0, aR 2), (1, aI x1), (2, aR 120)]) [] σ1 (0 + mC 131) (0 + mS 131) := segG_wkh (b := (some (aI 1), (σ1, 0 + mC 131, 0 + mS 131))) rwL_served w0 ct_N 1000 13 (delL 3 [(0, aR 2), (1, aI x1), (2, aR 120)]) [] (σ1, 0 + mC 131, 0 + mS 131) rfl
  have w2 := callV_wkh (cells := 0) (slots := 0) (n := 295) (m := 131) (hh := hhL_served) (as := [aI x1]) (rest := [aI 0, aR 120]) (lc := [(0, aR 2), (1, aI x1), (2, aR 120)]) (pc := 4) (idx := 79) rfl (by decide +kernel) (by decide +kernel) (by decide +kernel) rfl ⟨by decide, by omega⟩ (by decide +kernel) (by decide +kernel) (by decide +kernel) hM w0 (fun x h => by cases h; exact ⟨(13, 3), ⟨[], (0, 9, 12, 13), [(0, 9, 15, 17)], rfl, by decide, by decide, by decide, by decide, rfl, by decide +kernel, Or.inr ⟨3, rfl, by decide +kernel, rfl⟩⟩, w1⟩) (fun v h => by cases h)
  refine mct_ofH rfl hwL_served (MFok 295 (by decide +kernel)) (fun _ => Nat.le_of_ble_eq_true rfl) ?_
  refine segG_wkh (b := (some (aI 1), (σ1, 0 + mC 131, 0 + mS 131))) rwL_served w0 (cut := cuC 4 (cuQ [(0, aR 2), (1, aI x1), (2, aR 120)] [aI x1, aR 2, aI 0, aR 120] (σ, 0, 0) (some (aI 1), (σ1, 0 + mC 131, 0 + mS 131))) cuN) ?_ 1000 0 _ _ (σ, 0, 0) cuQ_t
  exact ct_C (fun lc st s1 h => by
    obtain ⟨rfl, rfl, rfl⟩ := cuQ_of h
    exact w2) ct_N
theorem hL_served_2 {σ σ1 : SG} {x1 : Int} (h2 : 121 ≤ σ.1) (hM : MCT 131 [] (aR 2 :: [aI x1]) σ (.inr 2) σ1) : MCT 295 hhL_served [aR 2, aI x1, aR 120] σ (.inl (some (aI 2))) σ1 := by
  have w0 : 0 + mC 131 ≤ mC 295 ∧ 0 + mS 131 ≤ mS 295 := by decide +kernel
  have w1 : WKH 295 hhL_served (.inl (some (aI 2))) σ σ1 16 (delL 3 [(0, aR 2), (1, aI x1), (2, aR 120)]) [] σ1 (0 + mC 131) (0 + mS 131) := segG_wkh (b := (some (aI 2), (σ1, 0 + mC 131, 0 + mS 131))) rwL_served w0 ct_N 1000 16 (delL 3 [(0, aR 2), (1, aI x1), (2, aR 120)]) [] (σ1, 0 + mC 131, 0 + mS 131) rfl
  have w2 := callV_wkh (cells := 0) (slots := 0) (n := 295) (m := 131) (hh := hhL_served) (as := [aI x1]) (rest := [aI 0, aR 120]) (lc := [(0, aR 2), (1, aI x1), (2, aR 120)]) (pc := 4) (idx := 79) rfl (by decide +kernel) (by decide +kernel) (by decide +kernel) rfl ⟨by decide, by omega⟩ (by decide +kernel) (by decide +kernel) (by decide +kernel) hM w0 (fun x h => by cases h; exact ⟨(16, 3), ⟨[(0, 9, 12, 13)], (0, 9, 15, 17), [], rfl, by decide, by decide, by decide, by decide, rfl, by decide +kernel, Or.inr ⟨3, rfl, by decide +kernel, rfl⟩⟩, w1⟩) (fun v h => by cases h)
  refine mct_ofH rfl hwL_served (MFok 295 (by decide +kernel)) (fun _ => Nat.le_of_ble_eq_true rfl) ?_
  refine segG_wkh (b := (some (aI 2), (σ1, 0 + mC 131, 0 + mS 131))) rwL_served w0 (cut := cuC 4 (cuQ [(0, aR 2), (1, aI x1), (2, aR 120)] [aI x1, aR 2, aI 0, aR 120] (σ, 0, 0) (some (aI 2), (σ1, 0 + mC 131, 0 + mS 131))) cuN) ?_ 1000 0 _ _ (σ, 0, 0) cuQ_t
  exact ct_C (fun lc st s1 h => by
    obtain ⟨rfl, rfl, rfl⟩ := cuQ_of h
    exact w2) ct_N
def csL_does : List (Nat × List (Nat × ARow)) := [(100000, [(0, 1, .aload_n 3, 0, 0, 0), (1, 1, .iconst 0, 0, 0, 0), (2, 1, .aload_n 0, 0, 0, 0), (3, 1, .iload_n 1, 0, 0, 0), (4, 1, .iload_n 2, 0, 0, 0), (5, 3, .invokevirtual 82, 132, 3, 11), (8, 1, .i2l, 0, 0, 0), (9, 1, .lastore, 0, 0, 0), (10, 3, .goto 7, 17, 0, 0), (13, 2, .astore 4, 0, 0, 0), (15, 1, .iconst 1, 0, 0, 0), (16, 1, .ireturn, 0, 0, 0), (17, 1, .iconst 0, 0, 0, 0), (18, 1, .ireturn, 0, 0, 0)])]
theorem rwL_does : rowsB (mB 296) (mO 296) (mX 296) (mIni 296) (mFr 296) (mLo 296) (mT 296) csL_does = true := by decide +kernel
def hhL_does : List (Nat × Nat × Nat × Nat) := [(0, 10, 13, 13)]
set_option maxRecDepth 100000 in
theorem hwL_does : Cond.codeWith (mY 296) (mB 296) (mX 296) (mT 296) hhL_does ∈ WG := wg5 (i := 238) rfl rfl
theorem hL_does_0 {σ : SG} {x1 x2 : Int} {y : Int} {r : Nat → Int → Nat} {i j : Nat → Int → Int} {d : Nat → Int → UInt64} (h2 : 121 ≤ σ.1) (hM : MCT 132 [] (aR 2 :: [aI x1, aI x2]) σ (.inl (some (aI y))) (121, r, i, j, d)) : MCT 296 hhL_does [aR 2, aI x1, aI x2, aR 120] σ (.inl (some (aI 0))) (uJ (121, r, i, j, d) 120 0 y) := by
  have w0 : 0 + mC 132 ≤ mC 296 ∧ 0 + mS 132 ≤ mS 296 := by decide +kernel
  have w1 : WKH 296 hhL_does (.inl (some (aI 0))) σ (uJ (121, r, i, j, d) 120 0 y) 8 [(0, aR 2), (1, aI x1), (2, aI x2), (3, aR 120)] [aI y, aI 0, aR 120] (121, r, i, j, d) (0 + mC 132) (0 + mS 132) := segG_wkh (b := (some (aI 0), (uJ (121, r, i, j, d) 120 0 y, 0 + mC 132, 0 + mS 132))) rwL_does w0 ct_N 1000 8 [(0, aR 2), (1, aI x1), (2, aI x2), (3, aR 120)] [aI y, aI 0, aR 120] ((121, r, i, j, d), 0 + mC 132, 0 + mS 132) rfl
  have w2 := callV_wkh (cells := 0) (slots := 0) (n := 296) (m := 132) (hh := hhL_does) (as := [aI x1, aI x2]) (rest := [aI 0, aR 120]) (lc := [(0, aR 2), (1, aI x1), (2, aI x2), (3, aR 120)]) (pc := 5) (idx := 82) rfl (by decide +kernel) (by decide +kernel) (by decide +kernel) rfl ⟨by decide, by omega⟩ (by decide +kernel) (by decide +kernel) (by decide +kernel) hM w0 (fun x h => by cases h) (fun v h => by cases h; exact w1)
  refine mct_ofH rfl hwL_does (MFok 296 (by decide +kernel)) (fun _ => Nat.le_of_ble_eq_true rfl) ?_
  refine segG_wkh (b := (some (aI 0), (uJ (121, r, i, j, d) 120 0 y, 0 + mC 132, 0 + mS 132))) rwL_does w0 (cut := cuC 5 (cuQ [(0, aR 2), (1, aI x1), (2, aI x2), (3, aR 120)] [aI x2, aI x1, aR 2, aI 0, aR 120] (σ, 0, 0) (some (aI 0), (uJ (121, r, i, j, d) 120 0 y, 0 + mC 132, 0 + mS 132))) cuN) ?_ 1000 0 _ _ (σ, 0, 0) cuQ_t
  exact ct_C (fun lc st s1 h => by
    obtain ⟨rfl, rfl, rfl⟩ := cuQ_of h
    exact w2) ct_N
theorem hL_does_1 {σ σ1 : SG} {x1 x2 : Int} (h2 : 121 ≤ σ.1) (hM : MCT 132 [] (aR 2 :: [aI x1, aI x2]) σ (.inr 0) σ1) : MCT 296 hhL_does [aR 2, aI x1, aI x2, aR 120] σ (.inl (some (aI 1))) σ1 := by
  have w0 : 0 + mC 132 ≤ mC 296 ∧ 0 + mS 132 ≤ mS 296 := by decide +kernel
  have w1 : WKH 296 hhL_does (.inl (some (aI 1))) σ σ1 15 (delL 4 [(0, aR 2), (1, aI x1), (2, aI x2), (3, aR 120)]) [] σ1 (0 + mC 132) (0 + mS 132) := segG_wkh (b := (some (aI 1), (σ1, 0 + mC 132, 0 + mS 132))) rwL_does w0 ct_N 1000 15 (delL 4 [(0, aR 2), (1, aI x1), (2, aI x2), (3, aR 120)]) [] (σ1, 0 + mC 132, 0 + mS 132) rfl
  have w2 := callV_wkh (cells := 0) (slots := 0) (n := 296) (m := 132) (hh := hhL_does) (as := [aI x1, aI x2]) (rest := [aI 0, aR 120]) (lc := [(0, aR 2), (1, aI x1), (2, aI x2), (3, aR 120)]) (pc := 5) (idx := 82) rfl (by decide +kernel) (by decide +kernel) (by decide +kernel) rfl ⟨by decide, by omega⟩ (by decide +kernel) (by decide +kernel) (by decide +kernel) hM w0 (fun x h => by cases h; exact ⟨(15, 4), ⟨[], (0, 10, 13, 13), [], rfl, by decide, by decide, by decide, by decide, rfl, by decide +kernel, Or.inl ⟨by decide +kernel, rfl⟩⟩, w1⟩) (fun v h => by cases h)
  refine mct_ofH rfl hwL_does (MFok 296 (by decide +kernel)) (fun _ => Nat.le_of_ble_eq_true rfl) ?_
  refine segG_wkh (b := (some (aI 1), (σ1, 0 + mC 132, 0 + mS 132))) rwL_does w0 (cut := cuC 5 (cuQ [(0, aR 2), (1, aI x1), (2, aI x2), (3, aR 120)] [aI x2, aI x1, aR 2, aI 0, aR 120] (σ, 0, 0) (some (aI 1), (σ1, 0 + mC 132, 0 + mS 132))) cuN) ?_ 1000 0 _ _ (σ, 0, 0) cuQ_t
  exact ct_C (fun lc st s1 h => by
    obtain ⟨rfl, rfl, rfl⟩ := cuQ_of h
    exact w2) ct_N
def csL_undo : List (Nat × List (Nat × ARow)) := [(100000, [(0, 1, .aload_n 1, 0, 0, 0), (1, 1, .iconst 0, 0, 0, 0), (2, 1, .aload_n 0, 0, 0, 0), (3, 3, .invokevirtual 85, 133, 1, 11), (6, 1, .i2l, 0, 0, 0), (7, 1, .lastore, 0, 0, 0), (8, 3, .goto 6, 14, 0, 0), (11, 1, .astore_n 2, 0, 0, 0), (12, 1, .iconst 1, 0, 0, 0), (13, 1, .ireturn, 0, 0, 0), (14, 1, .iconst 0, 0, 0, 0), (15, 1, .ireturn, 0, 0, 0)])]
theorem rwL_undo : rowsB (mB 297) (mO 297) (mX 297) (mIni 297) (mFr 297) (mLo 297) (mT 297) csL_undo = true := by decide +kernel
def hhL_undo : List (Nat × Nat × Nat × Nat) := [(0, 8, 11, 62)]
set_option maxRecDepth 100000 in
theorem hwL_undo : Cond.codeWith (mY 297) (mB 297) (mX 297) (mT 297) hhL_undo ∈ WG := wg6 (i := 11) rfl rfl
theorem hL_undo_0 {σ : SG} {y : Int} {r : Nat → Int → Nat} {i j : Nat → Int → Int} {d : Nat → Int → UInt64} (h2 : 121 ≤ σ.1) (hM : MCT 133 [] (aR 2 :: []) σ (.inl (some (aI y))) (121, r, i, j, d)) : MCT 297 hhL_undo [aR 2, aR 120] σ (.inl (some (aI 0))) (uJ (121, r, i, j, d) 120 0 y) := by
  have w0 : 0 + mC 133 ≤ mC 297 ∧ 0 + mS 133 ≤ mS 297 := by decide +kernel
  have w1 : WKH 297 hhL_undo (.inl (some (aI 0))) σ (uJ (121, r, i, j, d) 120 0 y) 6 [(0, aR 2), (1, aR 120)] [aI y, aI 0, aR 120] (121, r, i, j, d) (0 + mC 133) (0 + mS 133) := segG_wkh (b := (some (aI 0), (uJ (121, r, i, j, d) 120 0 y, 0 + mC 133, 0 + mS 133))) rwL_undo w0 ct_N 1000 6 [(0, aR 2), (1, aR 120)] [aI y, aI 0, aR 120] ((121, r, i, j, d), 0 + mC 133, 0 + mS 133) rfl
  have w2 := callV_wkh (cells := 0) (slots := 0) (n := 297) (m := 133) (hh := hhL_undo) (as := []) (rest := [aI 0, aR 120]) (lc := [(0, aR 2), (1, aR 120)]) (pc := 3) (idx := 85) rfl (by decide +kernel) (by decide +kernel) (by decide +kernel) rfl ⟨by decide, by omega⟩ (by decide +kernel) (by decide +kernel) (by decide +kernel) hM w0 (fun x h => by cases h) (fun v h => by cases h; exact w1)
  refine mct_ofH rfl hwL_undo (MFok 297 (by decide +kernel)) (fun _ => Nat.le_of_ble_eq_true rfl) ?_
  refine segG_wkh (b := (some (aI 0), (uJ (121, r, i, j, d) 120 0 y, 0 + mC 133, 0 + mS 133))) rwL_undo w0 (cut := cuC 3 (cuQ [(0, aR 2), (1, aR 120)] [aR 2, aI 0, aR 120] (σ, 0, 0) (some (aI 0), (uJ (121, r, i, j, d) 120 0 y, 0 + mC 133, 0 + mS 133))) cuN) ?_ 1000 0 _ _ (σ, 0, 0) cuQ_t
  exact ct_C (fun lc st s1 h => by
    obtain ⟨rfl, rfl, rfl⟩ := cuQ_of h
    exact w2) ct_N
theorem hL_undo_1 {σ σ1 : SG} (h2 : 121 ≤ σ.1) (hM : MCT 133 [] (aR 2 :: []) σ (.inr 3) σ1) : MCT 297 hhL_undo [aR 2, aR 120] σ (.inl (some (aI 1))) σ1 := by
  have w0 : 0 + mC 133 ≤ mC 297 ∧ 0 + mS 133 ≤ mS 297 := by decide +kernel
  have w1 : WKH 297 hhL_undo (.inl (some (aI 1))) σ σ1 12 (delL 2 [(0, aR 2), (1, aR 120)]) [] σ1 (0 + mC 133) (0 + mS 133) := segG_wkh (b := (some (aI 1), (σ1, 0 + mC 133, 0 + mS 133))) rwL_undo w0 ct_N 1000 12 (delL 2 [(0, aR 2), (1, aR 120)]) [] (σ1, 0 + mC 133, 0 + mS 133) rfl
  have w2 := callV_wkh (cells := 0) (slots := 0) (n := 297) (m := 133) (hh := hhL_undo) (as := []) (rest := [aI 0, aR 120]) (lc := [(0, aR 2), (1, aR 120)]) (pc := 3) (idx := 85) rfl (by decide +kernel) (by decide +kernel) (by decide +kernel) rfl ⟨by decide, by omega⟩ (by decide +kernel) (by decide +kernel) (by decide +kernel) hM w0 (fun x h => by cases h; exact ⟨(12, 2), ⟨[], (0, 8, 11, 62), [], rfl, by decide, by decide, by decide, by decide, rfl, by decide +kernel, Or.inr ⟨2, rfl, by decide +kernel, rfl⟩⟩, w1⟩) (fun v h => by cases h)
  refine mct_ofH rfl hwL_undo (MFok 297 (by decide +kernel)) (fun _ => Nat.le_of_ble_eq_true rfl) ?_
  refine segG_wkh (b := (some (aI 1), (σ1, 0 + mC 133, 0 + mS 133))) rwL_undo w0 (cut := cuC 3 (cuQ [(0, aR 2), (1, aR 120)] [aR 2, aI 0, aR 120] (σ, 0, 0) (some (aI 1), (σ1, 0 + mC 133, 0 + mS 133))) cuN) ?_ 1000 0 _ _ (σ, 0, 0) cuQ_t
  exact ct_C (fun lc st s1 h => by
    obtain ⟨rfl, rfl, rfl⟩ := cuQ_of h
    exact w2) ct_N
def csL_rules : List (Nat × List (Nat × ARow)) := [(100000, [(0, 2, .aload 4, 0, 0, 0), (2, 1, .iconst 0, 0, 0, 0), (3, 1, .aload_n 0, 0, 0, 0), (4, 1, .iload_n 1, 0, 0, 0), (5, 1, .iload_n 2, 0, 0, 0), (6, 1, .iload_n 3, 0, 0, 0), (7, 3, .invokevirtual 89, 134, 4, 11), (10, 1, .i2l, 0, 0, 0), (11, 1, .lastore, 0, 0, 0), (12, 3, .goto 7, 19, 0, 0), (15, 2, .astore 5, 0, 0, 0), (17, 1, .iconst 1, 0, 0, 0), (18, 1, .ireturn, 0, 0, 0), (19, 1, .iconst 0, 0, 0, 0), (20, 1, .ireturn, 0, 0, 0)])]
theorem rwL_rules : rowsB (mB 298) (mO 298) (mX 298) (mIni 298) (mFr 298) (mLo 298) (mT 298) csL_rules = true := by decide +kernel
def hhL_rules : List (Nat × Nat × Nat × Nat) := [(0, 12, 15, 15)]
set_option maxRecDepth 100000 in
theorem hwL_rules : Cond.codeWith (mY 298) (mB 298) (mX 298) (mT 298) hhL_rules ∈ WG := wg6 (i := 22) rfl rfl
theorem hL_rules_0 {σ : SG} {x1 x2 x3 : Int} {y : Int} {r : Nat → Int → Nat} {i j : Nat → Int → Int} {d : Nat → Int → UInt64} (h2 : 121 ≤ σ.1) (hM : MCT 134 [] (aR 2 :: [aI x1, aI x2, aI x3]) σ (.inl (some (aI y))) (121, r, i, j, d)) : MCT 298 hhL_rules [aR 2, aI x1, aI x2, aI x3, aR 120] σ (.inl (some (aI 0))) (uJ (121, r, i, j, d) 120 0 y) := by
  have w0 : 0 + mC 134 ≤ mC 298 ∧ 0 + mS 134 ≤ mS 298 := by decide +kernel
  have w1 : WKH 298 hhL_rules (.inl (some (aI 0))) σ (uJ (121, r, i, j, d) 120 0 y) 10 [(0, aR 2), (1, aI x1), (2, aI x2), (3, aI x3), (4, aR 120)] [aI y, aI 0, aR 120] (121, r, i, j, d) (0 + mC 134) (0 + mS 134) := segG_wkh (b := (some (aI 0), (uJ (121, r, i, j, d) 120 0 y, 0 + mC 134, 0 + mS 134))) rwL_rules w0 ct_N 1000 10 [(0, aR 2), (1, aI x1), (2, aI x2), (3, aI x3), (4, aR 120)] [aI y, aI 0, aR 120] ((121, r, i, j, d), 0 + mC 134, 0 + mS 134) rfl
  have w2 := callV_wkh (cells := 0) (slots := 0) (n := 298) (m := 134) (hh := hhL_rules) (as := [aI x1, aI x2, aI x3]) (rest := [aI 0, aR 120]) (lc := [(0, aR 2), (1, aI x1), (2, aI x2), (3, aI x3), (4, aR 120)]) (pc := 7) (idx := 89) rfl (by decide +kernel) (by decide +kernel) (by decide +kernel) rfl ⟨by decide, by omega⟩ (by decide +kernel) (by decide +kernel) (by decide +kernel) hM w0 (fun x h => by cases h) (fun v h => by cases h; exact w1)
  refine mct_ofH rfl hwL_rules (MFok 298 (by decide +kernel)) (fun _ => Nat.le_of_ble_eq_true rfl) ?_
  refine segG_wkh (b := (some (aI 0), (uJ (121, r, i, j, d) 120 0 y, 0 + mC 134, 0 + mS 134))) rwL_rules w0 (cut := cuC 7 (cuQ [(0, aR 2), (1, aI x1), (2, aI x2), (3, aI x3), (4, aR 120)] [aI x3, aI x2, aI x1, aR 2, aI 0, aR 120] (σ, 0, 0) (some (aI 0), (uJ (121, r, i, j, d) 120 0 y, 0 + mC 134, 0 + mS 134))) cuN) ?_ 1000 0 _ _ (σ, 0, 0) cuQ_t
  exact ct_C (fun lc st s1 h => by
    obtain ⟨rfl, rfl, rfl⟩ := cuQ_of h
    exact w2) ct_N
theorem hL_rules_1 {σ σ1 : SG} {x1 x2 x3 : Int} (h2 : 121 ≤ σ.1) (hM : MCT 134 [] (aR 2 :: [aI x1, aI x2, aI x3]) σ (.inr 1) σ1) : MCT 298 hhL_rules [aR 2, aI x1, aI x2, aI x3, aR 120] σ (.inl (some (aI 1))) σ1 := by
  have w0 : 0 + mC 134 ≤ mC 298 ∧ 0 + mS 134 ≤ mS 298 := by decide +kernel
  have w1 : WKH 298 hhL_rules (.inl (some (aI 1))) σ σ1 17 (delL 5 [(0, aR 2), (1, aI x1), (2, aI x2), (3, aI x3), (4, aR 120)]) [] σ1 (0 + mC 134) (0 + mS 134) := segG_wkh (b := (some (aI 1), (σ1, 0 + mC 134, 0 + mS 134))) rwL_rules w0 ct_N 1000 17 (delL 5 [(0, aR 2), (1, aI x1), (2, aI x2), (3, aI x3), (4, aR 120)]) [] (σ1, 0 + mC 134, 0 + mS 134) rfl
  have w2 := callV_wkh (cells := 0) (slots := 0) (n := 298) (m := 134) (hh := hhL_rules) (as := [aI x1, aI x2, aI x3]) (rest := [aI 0, aR 120]) (lc := [(0, aR 2), (1, aI x1), (2, aI x2), (3, aI x3), (4, aR 120)]) (pc := 7) (idx := 89) rfl (by decide +kernel) (by decide +kernel) (by decide +kernel) rfl ⟨by decide, by omega⟩ (by decide +kernel) (by decide +kernel) (by decide +kernel) hM w0 (fun x h => by cases h; exact ⟨(17, 5), ⟨[], (0, 12, 15, 15), [], rfl, by decide, by decide, by decide, by decide, rfl, by decide +kernel, Or.inl ⟨by decide +kernel, rfl⟩⟩, w1⟩) (fun v h => by cases h)
  refine mct_ofH rfl hwL_rules (MFok 298 (by decide +kernel)) (fun _ => Nat.le_of_ble_eq_true rfl) ?_
  refine segG_wkh (b := (some (aI 1), (σ1, 0 + mC 134, 0 + mS 134))) rwL_rules w0 (cut := cuC 7 (cuQ [(0, aR 2), (1, aI x1), (2, aI x2), (3, aI x3), (4, aR 120)] [aI x3, aI x2, aI x1, aR 2, aI 0, aR 120] (σ, 0, 0) (some (aI 1), (σ1, 0 + mC 134, 0 + mS 134))) cuN) ?_ 1000 0 _ _ (σ, 0, 0) cuQ_t
  exact ct_C (fun lc st s1 h => by
    obtain ⟨rfl, rfl, rfl⟩ := cuQ_of h
    exact w2) ct_N
def csL_piece : List (Nat × List (Nat × ARow)) := [(100000, [(0, 1, .aload_n 3, 0, 0, 0), (1, 1, .iconst 0, 0, 0, 0), (2, 1, .aload_n 0, 0, 0, 0), (3, 1, .iload_n 1, 0, 0, 0), (4, 1, .iload_n 2, 0, 0, 0), (5, 3, .invokevirtual 92, 135, 3, 11), (8, 1, .i2l, 0, 0, 0), (9, 1, .lastore, 0, 0, 0), (10, 3, .goto 11, 21, 0, 0), (13, 2, .astore 4, 0, 0, 0), (15, 1, .iconst 1, 0, 0, 0), (16, 1, .ireturn, 0, 0, 0), (17, 2, .astore 4, 0, 0, 0), (19, 1, .iconst 2, 0, 0, 0), (20, 1, .ireturn, 0, 0, 0), (21, 1, .iconst 0, 0, 0, 0), (22, 1, .ireturn, 0, 0, 0)])]
theorem rwL_piece : rowsB (mB 299) (mO 299) (mX 299) (mIni 299) (mFr 299) (mLo 299) (mT 299) csL_piece = true := by decide +kernel
def hhL_piece : List (Nat × Nat × Nat × Nat) := [(0, 10, 13, 15), (0, 10, 17, 17)]
set_option maxRecDepth 100000 in
theorem hwL_piece : Cond.codeWith (mY 299) (mB 299) (mX 299) (mT 299) hhL_piece ∈ WG := wg6 (i := 33) rfl rfl
theorem hL_piece_0 {σ : SG} {x1 x2 : Int} {y : Int} {r : Nat → Int → Nat} {i j : Nat → Int → Int} {d : Nat → Int → UInt64} (h2 : 121 ≤ σ.1) (hM : MCT 135 [] (aR 2 :: [aI x1, aI x2]) σ (.inl (some (aI y))) (121, r, i, j, d)) : MCT 299 hhL_piece [aR 2, aI x1, aI x2, aR 120] σ (.inl (some (aI 0))) (uJ (121, r, i, j, d) 120 0 y) := by
  have w0 : 0 + mC 135 ≤ mC 299 ∧ 0 + mS 135 ≤ mS 299 := by decide +kernel
  have w1 : WKH 299 hhL_piece (.inl (some (aI 0))) σ (uJ (121, r, i, j, d) 120 0 y) 8 [(0, aR 2), (1, aI x1), (2, aI x2), (3, aR 120)] [aI y, aI 0, aR 120] (121, r, i, j, d) (0 + mC 135) (0 + mS 135) := segG_wkh (b := (some (aI 0), (uJ (121, r, i, j, d) 120 0 y, 0 + mC 135, 0 + mS 135))) rwL_piece w0 ct_N 1000 8 [(0, aR 2), (1, aI x1), (2, aI x2), (3, aR 120)] [aI y, aI 0, aR 120] ((121, r, i, j, d), 0 + mC 135, 0 + mS 135) rfl
  have w2 := callV_wkh (cells := 0) (slots := 0) (n := 299) (m := 135) (hh := hhL_piece) (as := [aI x1, aI x2]) (rest := [aI 0, aR 120]) (lc := [(0, aR 2), (1, aI x1), (2, aI x2), (3, aR 120)]) (pc := 5) (idx := 92) rfl (by decide +kernel) (by decide +kernel) (by decide +kernel) rfl ⟨by decide, by omega⟩ (by decide +kernel) (by decide +kernel) (by decide +kernel) hM w0 (fun x h => by cases h) (fun v h => by cases h; exact w1)
  refine mct_ofH rfl hwL_piece (MFok 299 (by decide +kernel)) (fun _ => Nat.le_of_ble_eq_true rfl) ?_
  refine segG_wkh (b := (some (aI 0), (uJ (121, r, i, j, d) 120 0 y, 0 + mC 135, 0 + mS 135))) rwL_piece w0 (cut := cuC 5 (cuQ [(0, aR 2), (1, aI x1), (2, aI x2), (3, aR 120)] [aI x2, aI x1, aR 2, aI 0, aR 120] (σ, 0, 0) (some (aI 0), (uJ (121, r, i, j, d) 120 0 y, 0 + mC 135, 0 + mS 135))) cuN) ?_ 1000 0 _ _ (σ, 0, 0) cuQ_t
  exact ct_C (fun lc st s1 h => by
    obtain ⟨rfl, rfl, rfl⟩ := cuQ_of h
    exact w2) ct_N
theorem hL_piece_1 {σ σ1 : SG} {x1 x2 : Int} (h2 : 121 ≤ σ.1) (hM : MCT 135 [] (aR 2 :: [aI x1, aI x2]) σ (.inr 1) σ1) : MCT 299 hhL_piece [aR 2, aI x1, aI x2, aR 120] σ (.inl (some (aI 1))) σ1 := by
  have w0 : 0 + mC 135 ≤ mC 299 ∧ 0 + mS 135 ≤ mS 299 := by decide +kernel
  have w1 : WKH 299 hhL_piece (.inl (some (aI 1))) σ σ1 15 (delL 4 [(0, aR 2), (1, aI x1), (2, aI x2), (3, aR 120)]) [] σ1 (0 + mC 135) (0 + mS 135) := segG_wkh (b := (some (aI 1), (σ1, 0 + mC 135, 0 + mS 135))) rwL_piece w0 ct_N 1000 15 (delL 4 [(0, aR 2), (1, aI x1), (2, aI x2), (3, aR 120)]) [] (σ1, 0 + mC 135, 0 + mS 135) rfl
  have w2 := callV_wkh (cells := 0) (slots := 0) (n := 299) (m := 135) (hh := hhL_piece) (as := [aI x1, aI x2]) (rest := [aI 0, aR 120]) (lc := [(0, aR 2), (1, aI x1), (2, aI x2), (3, aR 120)]) (pc := 5) (idx := 92) rfl (by decide +kernel) (by decide +kernel) (by decide +kernel) rfl ⟨by decide, by omega⟩ (by decide +kernel) (by decide +kernel) (by decide +kernel) hM w0 (fun x h => by cases h; exact ⟨(15, 4), ⟨[], (0, 10, 13, 15), [(0, 10, 17, 17)], rfl, by decide, by decide, by decide, by decide, rfl, by decide +kernel, Or.inl ⟨by decide +kernel, rfl⟩⟩, w1⟩) (fun v h => by cases h)
  refine mct_ofH rfl hwL_piece (MFok 299 (by decide +kernel)) (fun _ => Nat.le_of_ble_eq_true rfl) ?_
  refine segG_wkh (b := (some (aI 1), (σ1, 0 + mC 135, 0 + mS 135))) rwL_piece w0 (cut := cuC 5 (cuQ [(0, aR 2), (1, aI x1), (2, aI x2), (3, aR 120)] [aI x2, aI x1, aR 2, aI 0, aR 120] (σ, 0, 0) (some (aI 1), (σ1, 0 + mC 135, 0 + mS 135))) cuN) ?_ 1000 0 _ _ (σ, 0, 0) cuQ_t
  exact ct_C (fun lc st s1 h => by
    obtain ⟨rfl, rfl, rfl⟩ := cuQ_of h
    exact w2) ct_N
theorem hL_piece_2 {σ σ1 : SG} {x1 x2 : Int} (h2 : 121 ≤ σ.1) (hM : MCT 135 [] (aR 2 :: [aI x1, aI x2]) σ (.inr 2) σ1) : MCT 299 hhL_piece [aR 2, aI x1, aI x2, aR 120] σ (.inl (some (aI 2))) σ1 := by
  have w0 : 0 + mC 135 ≤ mC 299 ∧ 0 + mS 135 ≤ mS 299 := by decide +kernel
  have w1 : WKH 299 hhL_piece (.inl (some (aI 2))) σ σ1 19 (delL 4 [(0, aR 2), (1, aI x1), (2, aI x2), (3, aR 120)]) [] σ1 (0 + mC 135) (0 + mS 135) := segG_wkh (b := (some (aI 2), (σ1, 0 + mC 135, 0 + mS 135))) rwL_piece w0 ct_N 1000 19 (delL 4 [(0, aR 2), (1, aI x1), (2, aI x2), (3, aR 120)]) [] (σ1, 0 + mC 135, 0 + mS 135) rfl
  have w2 := callV_wkh (cells := 0) (slots := 0) (n := 299) (m := 135) (hh := hhL_piece) (as := [aI x1, aI x2]) (rest := [aI 0, aR 120]) (lc := [(0, aR 2), (1, aI x1), (2, aI x2), (3, aR 120)]) (pc := 5) (idx := 92) rfl (by decide +kernel) (by decide +kernel) (by decide +kernel) rfl ⟨by decide, by omega⟩ (by decide +kernel) (by decide +kernel) (by decide +kernel) hM w0 (fun x h => by cases h; exact ⟨(19, 4), ⟨[(0, 10, 13, 15)], (0, 10, 17, 17), [], rfl, by decide, by decide, by decide, by decide, rfl, by decide +kernel, Or.inl ⟨by decide +kernel, rfl⟩⟩, w1⟩) (fun v h => by cases h)
  refine mct_ofH rfl hwL_piece (MFok 299 (by decide +kernel)) (fun _ => Nat.le_of_ble_eq_true rfl) ?_
  refine segG_wkh (b := (some (aI 2), (σ1, 0 + mC 135, 0 + mS 135))) rwL_piece w0 (cut := cuC 5 (cuQ [(0, aR 2), (1, aI x1), (2, aI x2), (3, aR 120)] [aI x2, aI x1, aR 2, aI 0, aR 120] (σ, 0, 0) (some (aI 2), (σ1, 0 + mC 135, 0 + mS 135))) cuN) ?_ 1000 0 _ _ (σ, 0, 0) cuQ_t
  exact ct_C (fun lc st s1 h => by
    obtain ⟨rfl, rfl, rfl⟩ := cuQ_of h
    exact w2) ct_N
def csL_leastTime : List (Nat × List (Nat × ARow)) := [(100000, [(0, 1, .aload_n 2, 0, 0, 0), (1, 1, .iconst 0, 0, 0, 0), (2, 1, .aload_n 0, 0, 0, 0), (3, 1, .iload_n 1, 0, 0, 0), (4, 3, .invokevirtual 95, 138, 2, 11), (7, 1, .i2l, 0, 0, 0), (8, 1, .lastore, 0, 0, 0), (9, 3, .goto 6, 15, 0, 0), (12, 1, .astore_n 3, 0, 0, 0), (13, 1, .iconst 1, 0, 0, 0), (14, 1, .ireturn, 0, 0, 0), (15, 1, .iconst 0, 0, 0, 0), (16, 1, .ireturn, 0, 0, 0)])]
theorem rwL_leastTime : rowsB (mB 300) (mO 300) (mX 300) (mIni 300) (mFr 300) (mLo 300) (mT 300) csL_leastTime = true := by decide +kernel
def hhL_leastTime : List (Nat × Nat × Nat × Nat) := [(0, 9, 12, 15)]
set_option maxRecDepth 100000 in
theorem hwL_leastTime : Cond.codeWith (mY 300) (mB 300) (mX 300) (mT 300) hhL_leastTime ∈ WG := wg6 (i := 44) rfl rfl
theorem hL_leastTime_0 {σ : SG} {x1 : Int} {y : Int} {r : Nat → Int → Nat} {i j : Nat → Int → Int} {d : Nat → Int → UInt64} (h2 : 121 ≤ σ.1) (hM : MCT 138 [] (aR 2 :: [aI x1]) σ (.inl (some (aI y))) (121, r, i, j, d)) : MCT 300 hhL_leastTime [aR 2, aI x1, aR 120] σ (.inl (some (aI 0))) (uJ (121, r, i, j, d) 120 0 y) := by
  have w0 : 0 + mC 138 ≤ mC 300 ∧ 0 + mS 138 ≤ mS 300 := by decide +kernel
  have w1 : WKH 300 hhL_leastTime (.inl (some (aI 0))) σ (uJ (121, r, i, j, d) 120 0 y) 7 [(0, aR 2), (1, aI x1), (2, aR 120)] [aI y, aI 0, aR 120] (121, r, i, j, d) (0 + mC 138) (0 + mS 138) := segG_wkh (b := (some (aI 0), (uJ (121, r, i, j, d) 120 0 y, 0 + mC 138, 0 + mS 138))) rwL_leastTime w0 ct_N 1000 7 [(0, aR 2), (1, aI x1), (2, aR 120)] [aI y, aI 0, aR 120] ((121, r, i, j, d), 0 + mC 138, 0 + mS 138) rfl
  have w2 := callV_wkh (cells := 0) (slots := 0) (n := 300) (m := 138) (hh := hhL_leastTime) (as := [aI x1]) (rest := [aI 0, aR 120]) (lc := [(0, aR 2), (1, aI x1), (2, aR 120)]) (pc := 4) (idx := 95) rfl (by decide +kernel) (by decide +kernel) (by decide +kernel) rfl ⟨by decide, by omega⟩ (by decide +kernel) (by decide +kernel) (by decide +kernel) hM w0 (fun x h => by cases h) (fun v h => by cases h; exact w1)
  refine mct_ofH rfl hwL_leastTime (MFok 300 (by decide +kernel)) (fun _ => Nat.le_of_ble_eq_true rfl) ?_
  refine segG_wkh (b := (some (aI 0), (uJ (121, r, i, j, d) 120 0 y, 0 + mC 138, 0 + mS 138))) rwL_leastTime w0 (cut := cuC 4 (cuQ [(0, aR 2), (1, aI x1), (2, aR 120)] [aI x1, aR 2, aI 0, aR 120] (σ, 0, 0) (some (aI 0), (uJ (121, r, i, j, d) 120 0 y, 0 + mC 138, 0 + mS 138))) cuN) ?_ 1000 0 _ _ (σ, 0, 0) cuQ_t
  exact ct_C (fun lc st s1 h => by
    obtain ⟨rfl, rfl, rfl⟩ := cuQ_of h
    exact w2) ct_N
theorem hL_leastTime_1 {σ σ1 : SG} {x1 : Int} (h2 : 121 ≤ σ.1) (hM : MCT 138 [] (aR 2 :: [aI x1]) σ (.inr 1) σ1) : MCT 300 hhL_leastTime [aR 2, aI x1, aR 120] σ (.inl (some (aI 1))) σ1 := by
  have w0 : 0 + mC 138 ≤ mC 300 ∧ 0 + mS 138 ≤ mS 300 := by decide +kernel
  have w1 : WKH 300 hhL_leastTime (.inl (some (aI 1))) σ σ1 13 (delL 3 [(0, aR 2), (1, aI x1), (2, aR 120)]) [] σ1 (0 + mC 138) (0 + mS 138) := segG_wkh (b := (some (aI 1), (σ1, 0 + mC 138, 0 + mS 138))) rwL_leastTime w0 ct_N 1000 13 (delL 3 [(0, aR 2), (1, aI x1), (2, aR 120)]) [] (σ1, 0 + mC 138, 0 + mS 138) rfl
  have w2 := callV_wkh (cells := 0) (slots := 0) (n := 300) (m := 138) (hh := hhL_leastTime) (as := [aI x1]) (rest := [aI 0, aR 120]) (lc := [(0, aR 2), (1, aI x1), (2, aR 120)]) (pc := 4) (idx := 95) rfl (by decide +kernel) (by decide +kernel) (by decide +kernel) rfl ⟨by decide, by omega⟩ (by decide +kernel) (by decide +kernel) (by decide +kernel) hM w0 (fun x h => by cases h; exact ⟨(13, 3), ⟨[], (0, 9, 12, 15), [], rfl, by decide, by decide, by decide, by decide, rfl, by decide +kernel, Or.inr ⟨3, rfl, by decide +kernel, rfl⟩⟩, w1⟩) (fun v h => by cases h)
  refine mct_ofH rfl hwL_leastTime (MFok 300 (by decide +kernel)) (fun _ => Nat.le_of_ble_eq_true rfl) ?_
  refine segG_wkh (b := (some (aI 1), (σ1, 0 + mC 138, 0 + mS 138))) rwL_leastTime w0 (cut := cuC 4 (cuQ [(0, aR 2), (1, aI x1), (2, aR 120)] [aI x1, aR 2, aI 0, aR 120] (σ, 0, 0) (some (aI 1), (σ1, 0 + mC 138, 0 + mS 138))) cuN) ?_ 1000 0 _ _ (σ, 0, 0) cuQ_t
  exact ct_C (fun lc st s1 h => by
    obtain ⟨rfl, rfl, rfl⟩ := cuQ_of h
    exact w2) ct_N
def csL_door : List (Nat × List (Nat × ARow)) := [(100000, [(0, 1, .aload_n 3, 0, 0, 0), (1, 1, .iconst 0, 0, 0, 0), (2, 1, .aload_n 0, 0, 0, 0), (3, 1, .iload_n 1, 0, 0, 0), (4, 1, .iload_n 2, 0, 0, 0), (5, 3, .invokevirtual 98, 139, 3, 11), (8, 1, .i2l, 0, 0, 0), (9, 1, .lastore, 0, 0, 0), (10, 3, .goto 11, 21, 0, 0), (13, 2, .astore 4, 0, 0, 0), (15, 1, .iconst 1, 0, 0, 0), (16, 1, .ireturn, 0, 0, 0), (17, 2, .astore 4, 0, 0, 0), (19, 1, .iconst 2, 0, 0, 0), (20, 1, .ireturn, 0, 0, 0), (21, 1, .iconst 0, 0, 0, 0), (22, 1, .ireturn, 0, 0, 0)])]
theorem rwL_door : rowsB (mB 301) (mO 301) (mX 301) (mIni 301) (mFr 301) (mLo 301) (mT 301) csL_door = true := by decide +kernel
def hhL_door : List (Nat × Nat × Nat × Nat) := [(0, 10, 13, 13), (0, 10, 17, 17)]
set_option maxRecDepth 100000 in
theorem hwL_door : Cond.codeWith (mY 301) (mB 301) (mX 301) (mT 301) hhL_door ∈ WG := wg6 (i := 52) rfl rfl
theorem hL_door_0 {σ : SG} {x1 x2 : Int} {y : Int} {r : Nat → Int → Nat} {i j : Nat → Int → Int} {d : Nat → Int → UInt64} (h2 : 121 ≤ σ.1) (hM : MCT 139 [] (aR 2 :: [aI x1, aI x2]) σ (.inl (some (aI y))) (121, r, i, j, d)) : MCT 301 hhL_door [aR 2, aI x1, aI x2, aR 120] σ (.inl (some (aI 0))) (uJ (121, r, i, j, d) 120 0 y) := by
  have w0 : 0 + mC 139 ≤ mC 301 ∧ 0 + mS 139 ≤ mS 301 := by decide +kernel
  have w1 : WKH 301 hhL_door (.inl (some (aI 0))) σ (uJ (121, r, i, j, d) 120 0 y) 8 [(0, aR 2), (1, aI x1), (2, aI x2), (3, aR 120)] [aI y, aI 0, aR 120] (121, r, i, j, d) (0 + mC 139) (0 + mS 139) := segG_wkh (b := (some (aI 0), (uJ (121, r, i, j, d) 120 0 y, 0 + mC 139, 0 + mS 139))) rwL_door w0 ct_N 1000 8 [(0, aR 2), (1, aI x1), (2, aI x2), (3, aR 120)] [aI y, aI 0, aR 120] ((121, r, i, j, d), 0 + mC 139, 0 + mS 139) rfl
  have w2 := callV_wkh (cells := 0) (slots := 0) (n := 301) (m := 139) (hh := hhL_door) (as := [aI x1, aI x2]) (rest := [aI 0, aR 120]) (lc := [(0, aR 2), (1, aI x1), (2, aI x2), (3, aR 120)]) (pc := 5) (idx := 98) rfl (by decide +kernel) (by decide +kernel) (by decide +kernel) rfl ⟨by decide, by omega⟩ (by decide +kernel) (by decide +kernel) (by decide +kernel) hM w0 (fun x h => by cases h) (fun v h => by cases h; exact w1)
  refine mct_ofH rfl hwL_door (MFok 301 (by decide +kernel)) (fun _ => Nat.le_of_ble_eq_true rfl) ?_
  refine segG_wkh (b := (some (aI 0), (uJ (121, r, i, j, d) 120 0 y, 0 + mC 139, 0 + mS 139))) rwL_door w0 (cut := cuC 5 (cuQ [(0, aR 2), (1, aI x1), (2, aI x2), (3, aR 120)] [aI x2, aI x1, aR 2, aI 0, aR 120] (σ, 0, 0) (some (aI 0), (uJ (121, r, i, j, d) 120 0 y, 0 + mC 139, 0 + mS 139))) cuN) ?_ 1000 0 _ _ (σ, 0, 0) cuQ_t
  exact ct_C (fun lc st s1 h => by
    obtain ⟨rfl, rfl, rfl⟩ := cuQ_of h
    exact w2) ct_N
theorem hL_door_1 {σ σ1 : SG} {x1 x2 : Int} (h2 : 121 ≤ σ.1) (hM : MCT 139 [] (aR 2 :: [aI x1, aI x2]) σ (.inr 0) σ1) : MCT 301 hhL_door [aR 2, aI x1, aI x2, aR 120] σ (.inl (some (aI 1))) σ1 := by
  have w0 : 0 + mC 139 ≤ mC 301 ∧ 0 + mS 139 ≤ mS 301 := by decide +kernel
  have w1 : WKH 301 hhL_door (.inl (some (aI 1))) σ σ1 15 (delL 4 [(0, aR 2), (1, aI x1), (2, aI x2), (3, aR 120)]) [] σ1 (0 + mC 139) (0 + mS 139) := segG_wkh (b := (some (aI 1), (σ1, 0 + mC 139, 0 + mS 139))) rwL_door w0 ct_N 1000 15 (delL 4 [(0, aR 2), (1, aI x1), (2, aI x2), (3, aR 120)]) [] (σ1, 0 + mC 139, 0 + mS 139) rfl
  have w2 := callV_wkh (cells := 0) (slots := 0) (n := 301) (m := 139) (hh := hhL_door) (as := [aI x1, aI x2]) (rest := [aI 0, aR 120]) (lc := [(0, aR 2), (1, aI x1), (2, aI x2), (3, aR 120)]) (pc := 5) (idx := 98) rfl (by decide +kernel) (by decide +kernel) (by decide +kernel) rfl ⟨by decide, by omega⟩ (by decide +kernel) (by decide +kernel) (by decide +kernel) hM w0 (fun x h => by cases h; exact ⟨(15, 4), ⟨[], (0, 10, 13, 13), [(0, 10, 17, 17)], rfl, by decide, by decide, by decide, by decide, rfl, by decide +kernel, Or.inl ⟨by decide +kernel, rfl⟩⟩, w1⟩) (fun v h => by cases h)
  refine mct_ofH rfl hwL_door (MFok 301 (by decide +kernel)) (fun _ => Nat.le_of_ble_eq_true rfl) ?_
  refine segG_wkh (b := (some (aI 1), (σ1, 0 + mC 139, 0 + mS 139))) rwL_door w0 (cut := cuC 5 (cuQ [(0, aR 2), (1, aI x1), (2, aI x2), (3, aR 120)] [aI x2, aI x1, aR 2, aI 0, aR 120] (σ, 0, 0) (some (aI 1), (σ1, 0 + mC 139, 0 + mS 139))) cuN) ?_ 1000 0 _ _ (σ, 0, 0) cuQ_t
  exact ct_C (fun lc st s1 h => by
    obtain ⟨rfl, rfl, rfl⟩ := cuQ_of h
    exact w2) ct_N
theorem hL_door_2 {σ σ1 : SG} {x1 x2 : Int} (h2 : 121 ≤ σ.1) (hM : MCT 139 [] (aR 2 :: [aI x1, aI x2]) σ (.inr 2) σ1) : MCT 301 hhL_door [aR 2, aI x1, aI x2, aR 120] σ (.inl (some (aI 2))) σ1 := by
  have w0 : 0 + mC 139 ≤ mC 301 ∧ 0 + mS 139 ≤ mS 301 := by decide +kernel
  have w1 : WKH 301 hhL_door (.inl (some (aI 2))) σ σ1 19 (delL 4 [(0, aR 2), (1, aI x1), (2, aI x2), (3, aR 120)]) [] σ1 (0 + mC 139) (0 + mS 139) := segG_wkh (b := (some (aI 2), (σ1, 0 + mC 139, 0 + mS 139))) rwL_door w0 ct_N 1000 19 (delL 4 [(0, aR 2), (1, aI x1), (2, aI x2), (3, aR 120)]) [] (σ1, 0 + mC 139, 0 + mS 139) rfl
  have w2 := callV_wkh (cells := 0) (slots := 0) (n := 301) (m := 139) (hh := hhL_door) (as := [aI x1, aI x2]) (rest := [aI 0, aR 120]) (lc := [(0, aR 2), (1, aI x1), (2, aI x2), (3, aR 120)]) (pc := 5) (idx := 98) rfl (by decide +kernel) (by decide +kernel) (by decide +kernel) rfl ⟨by decide, by omega⟩ (by decide +kernel) (by decide +kernel) (by decide +kernel) hM w0 (fun x h => by cases h; exact ⟨(19, 4), ⟨[(0, 10, 13, 13)], (0, 10, 17, 17), [], rfl, by decide, by decide, by decide, by decide, rfl, by decide +kernel, Or.inl ⟨by decide +kernel, rfl⟩⟩, w1⟩) (fun v h => by cases h)
  refine mct_ofH rfl hwL_door (MFok 301 (by decide +kernel)) (fun _ => Nat.le_of_ble_eq_true rfl) ?_
  refine segG_wkh (b := (some (aI 2), (σ1, 0 + mC 139, 0 + mS 139))) rwL_door w0 (cut := cuC 5 (cuQ [(0, aR 2), (1, aI x1), (2, aI x2), (3, aR 120)] [aI x2, aI x1, aR 2, aI 0, aR 120] (σ, 0, 0) (some (aI 2), (σ1, 0 + mC 139, 0 + mS 139))) cuN) ?_ 1000 0 _ _ (σ, 0, 0) cuQ_t
  exact ct_C (fun lc st s1 h => by
    obtain ⟨rfl, rfl, rfl⟩ := cuQ_of h
    exact w2) ct_N
def csL_locker : List (Nat × List (Nat × ARow)) := [(100000, [(0, 1, .aload_n 3, 0, 0, 0), (1, 1, .iconst 0, 0, 0, 0), (2, 1, .aload_n 0, 0, 0, 0), (3, 1, .iload_n 1, 0, 0, 0), (4, 1, .iload_n 2, 0, 0, 0), (5, 3, .invokevirtual 102, 140, 3, 11), (8, 1, .i2l, 0, 0, 0), (9, 1, .lastore, 0, 0, 0), (10, 3, .goto 15, 25, 0, 0), (13, 2, .astore 4, 0, 0, 0), (15, 1, .iconst 1, 0, 0, 0), (16, 1, .ireturn, 0, 0, 0), (17, 2, .astore 4, 0, 0, 0), (19, 1, .iconst 2, 0, 0, 0), (20, 1, .ireturn, 0, 0, 0), (21, 2, .astore 4, 0, 0, 0), (23, 1, .iconst 3, 0, 0, 0), (24, 1, .ireturn, 0, 0, 0), (25, 1, .iconst 0, 0, 0, 0), (26, 1, .ireturn, 0, 0, 0)])]
theorem rwL_locker : rowsB (mB 302) (mO 302) (mX 302) (mIni 302) (mFr 302) (mLo 302) (mT 302) csL_locker = true := by decide +kernel
def hhL_locker : List (Nat × Nat × Nat × Nat) := [(0, 10, 13, 13), (0, 10, 17, 15), (0, 10, 21, 17)]
set_option maxRecDepth 100000 in
theorem hwL_locker : Cond.codeWith (mY 302) (mB 302) (mX 302) (mT 302) hhL_locker ∈ WG := wg6 (i := 73) rfl rfl
theorem hL_locker_0 {σ : SG} {x1 x2 : Int} {y : Int} {r : Nat → Int → Nat} {i j : Nat → Int → Int} {d : Nat → Int → UInt64} (h2 : 121 ≤ σ.1) (hM : MCT 140 [] (aR 2 :: [aI x1, aI x2]) σ (.inl (some (aI y))) (121, r, i, j, d)) : MCT 302 hhL_locker [aR 2, aI x1, aI x2, aR 120] σ (.inl (some (aI 0))) (uJ (121, r, i, j, d) 120 0 y) := by
  have w0 : 0 + mC 140 ≤ mC 302 ∧ 0 + mS 140 ≤ mS 302 := by decide +kernel
  have w1 : WKH 302 hhL_locker (.inl (some (aI 0))) σ (uJ (121, r, i, j, d) 120 0 y) 8 [(0, aR 2), (1, aI x1), (2, aI x2), (3, aR 120)] [aI y, aI 0, aR 120] (121, r, i, j, d) (0 + mC 140) (0 + mS 140) := segG_wkh (b := (some (aI 0), (uJ (121, r, i, j, d) 120 0 y, 0 + mC 140, 0 + mS 140))) rwL_locker w0 ct_N 1000 8 [(0, aR 2), (1, aI x1), (2, aI x2), (3, aR 120)] [aI y, aI 0, aR 120] ((121, r, i, j, d), 0 + mC 140, 0 + mS 140) rfl
  have w2 := callV_wkh (cells := 0) (slots := 0) (n := 302) (m := 140) (hh := hhL_locker) (as := [aI x1, aI x2]) (rest := [aI 0, aR 120]) (lc := [(0, aR 2), (1, aI x1), (2, aI x2), (3, aR 120)]) (pc := 5) (idx := 102) rfl (by decide +kernel) (by decide +kernel) (by decide +kernel) rfl ⟨by decide, by omega⟩ (by decide +kernel) (by decide +kernel) (by decide +kernel) hM w0 (fun x h => by cases h) (fun v h => by cases h; exact w1)
  refine mct_ofH rfl hwL_locker (MFok 302 (by decide +kernel)) (fun _ => Nat.le_of_ble_eq_true rfl) ?_
  refine segG_wkh (b := (some (aI 0), (uJ (121, r, i, j, d) 120 0 y, 0 + mC 140, 0 + mS 140))) rwL_locker w0 (cut := cuC 5 (cuQ [(0, aR 2), (1, aI x1), (2, aI x2), (3, aR 120)] [aI x2, aI x1, aR 2, aI 0, aR 120] (σ, 0, 0) (some (aI 0), (uJ (121, r, i, j, d) 120 0 y, 0 + mC 140, 0 + mS 140))) cuN) ?_ 1000 0 _ _ (σ, 0, 0) cuQ_t
  exact ct_C (fun lc st s1 h => by
    obtain ⟨rfl, rfl, rfl⟩ := cuQ_of h
    exact w2) ct_N
theorem hL_locker_1 {σ σ1 : SG} {x1 x2 : Int} (h2 : 121 ≤ σ.1) (hM : MCT 140 [] (aR 2 :: [aI x1, aI x2]) σ (.inr 0) σ1) : MCT 302 hhL_locker [aR 2, aI x1, aI x2, aR 120] σ (.inl (some (aI 1))) σ1 := by
  have w0 : 0 + mC 140 ≤ mC 302 ∧ 0 + mS 140 ≤ mS 302 := by decide +kernel
  have w1 : WKH 302 hhL_locker (.inl (some (aI 1))) σ σ1 15 (delL 4 [(0, aR 2), (1, aI x1), (2, aI x2), (3, aR 120)]) [] σ1 (0 + mC 140) (0 + mS 140) := segG_wkh (b := (some (aI 1), (σ1, 0 + mC 140, 0 + mS 140))) rwL_locker w0 ct_N 1000 15 (delL 4 [(0, aR 2), (1, aI x1), (2, aI x2), (3, aR 120)]) [] (σ1, 0 + mC 140, 0 + mS 140) rfl
  have w2 := callV_wkh (cells := 0) (slots := 0) (n := 302) (m := 140) (hh := hhL_locker) (as := [aI x1, aI x2]) (rest := [aI 0, aR 120]) (lc := [(0, aR 2), (1, aI x1), (2, aI x2), (3, aR 120)]) (pc := 5) (idx := 102) rfl (by decide +kernel) (by decide +kernel) (by decide +kernel) rfl ⟨by decide, by omega⟩ (by decide +kernel) (by decide +kernel) (by decide +kernel) hM w0 (fun x h => by cases h; exact ⟨(15, 4), ⟨[], (0, 10, 13, 13), [(0, 10, 17, 15), (0, 10, 21, 17)], rfl, by decide, by decide, by decide, by decide, rfl, by decide +kernel, Or.inl ⟨by decide +kernel, rfl⟩⟩, w1⟩) (fun v h => by cases h)
  refine mct_ofH rfl hwL_locker (MFok 302 (by decide +kernel)) (fun _ => Nat.le_of_ble_eq_true rfl) ?_
  refine segG_wkh (b := (some (aI 1), (σ1, 0 + mC 140, 0 + mS 140))) rwL_locker w0 (cut := cuC 5 (cuQ [(0, aR 2), (1, aI x1), (2, aI x2), (3, aR 120)] [aI x2, aI x1, aR 2, aI 0, aR 120] (σ, 0, 0) (some (aI 1), (σ1, 0 + mC 140, 0 + mS 140))) cuN) ?_ 1000 0 _ _ (σ, 0, 0) cuQ_t
  exact ct_C (fun lc st s1 h => by
    obtain ⟨rfl, rfl, rfl⟩ := cuQ_of h
    exact w2) ct_N
theorem hL_locker_2 {σ σ1 : SG} {x1 x2 : Int} (h2 : 121 ≤ σ.1) (hM : MCT 140 [] (aR 2 :: [aI x1, aI x2]) σ (.inr 1) σ1) : MCT 302 hhL_locker [aR 2, aI x1, aI x2, aR 120] σ (.inl (some (aI 2))) σ1 := by
  have w0 : 0 + mC 140 ≤ mC 302 ∧ 0 + mS 140 ≤ mS 302 := by decide +kernel
  have w1 : WKH 302 hhL_locker (.inl (some (aI 2))) σ σ1 19 (delL 4 [(0, aR 2), (1, aI x1), (2, aI x2), (3, aR 120)]) [] σ1 (0 + mC 140) (0 + mS 140) := segG_wkh (b := (some (aI 2), (σ1, 0 + mC 140, 0 + mS 140))) rwL_locker w0 ct_N 1000 19 (delL 4 [(0, aR 2), (1, aI x1), (2, aI x2), (3, aR 120)]) [] (σ1, 0 + mC 140, 0 + mS 140) rfl
  have w2 := callV_wkh (cells := 0) (slots := 0) (n := 302) (m := 140) (hh := hhL_locker) (as := [aI x1, aI x2]) (rest := [aI 0, aR 120]) (lc := [(0, aR 2), (1, aI x1), (2, aI x2), (3, aR 120)]) (pc := 5) (idx := 102) rfl (by decide +kernel) (by decide +kernel) (by decide +kernel) rfl ⟨by decide, by omega⟩ (by decide +kernel) (by decide +kernel) (by decide +kernel) hM w0 (fun x h => by cases h; exact ⟨(19, 4), ⟨[(0, 10, 13, 13)], (0, 10, 17, 15), [(0, 10, 21, 17)], rfl, by decide, by decide, by decide, by decide, rfl, by decide +kernel, Or.inl ⟨by decide +kernel, rfl⟩⟩, w1⟩) (fun v h => by cases h)
  refine mct_ofH rfl hwL_locker (MFok 302 (by decide +kernel)) (fun _ => Nat.le_of_ble_eq_true rfl) ?_
  refine segG_wkh (b := (some (aI 2), (σ1, 0 + mC 140, 0 + mS 140))) rwL_locker w0 (cut := cuC 5 (cuQ [(0, aR 2), (1, aI x1), (2, aI x2), (3, aR 120)] [aI x2, aI x1, aR 2, aI 0, aR 120] (σ, 0, 0) (some (aI 2), (σ1, 0 + mC 140, 0 + mS 140))) cuN) ?_ 1000 0 _ _ (σ, 0, 0) cuQ_t
  exact ct_C (fun lc st s1 h => by
    obtain ⟨rfl, rfl, rfl⟩ := cuQ_of h
    exact w2) ct_N
theorem hL_locker_3 {σ σ1 : SG} {x1 x2 : Int} (h2 : 121 ≤ σ.1) (hM : MCT 140 [] (aR 2 :: [aI x1, aI x2]) σ (.inr 2) σ1) : MCT 302 hhL_locker [aR 2, aI x1, aI x2, aR 120] σ (.inl (some (aI 3))) σ1 := by
  have w0 : 0 + mC 140 ≤ mC 302 ∧ 0 + mS 140 ≤ mS 302 := by decide +kernel
  have w1 : WKH 302 hhL_locker (.inl (some (aI 3))) σ σ1 23 (delL 4 [(0, aR 2), (1, aI x1), (2, aI x2), (3, aR 120)]) [] σ1 (0 + mC 140) (0 + mS 140) := segG_wkh (b := (some (aI 3), (σ1, 0 + mC 140, 0 + mS 140))) rwL_locker w0 ct_N 1000 23 (delL 4 [(0, aR 2), (1, aI x1), (2, aI x2), (3, aR 120)]) [] (σ1, 0 + mC 140, 0 + mS 140) rfl
  have w2 := callV_wkh (cells := 0) (slots := 0) (n := 302) (m := 140) (hh := hhL_locker) (as := [aI x1, aI x2]) (rest := [aI 0, aR 120]) (lc := [(0, aR 2), (1, aI x1), (2, aI x2), (3, aR 120)]) (pc := 5) (idx := 102) rfl (by decide +kernel) (by decide +kernel) (by decide +kernel) rfl ⟨by decide, by omega⟩ (by decide +kernel) (by decide +kernel) (by decide +kernel) hM w0 (fun x h => by cases h; exact ⟨(23, 4), ⟨[(0, 10, 13, 13), (0, 10, 17, 15)], (0, 10, 21, 17), [], rfl, by decide, by decide, by decide, by decide, rfl, by decide +kernel, Or.inl ⟨by decide +kernel, rfl⟩⟩, w1⟩) (fun v h => by cases h)
  refine mct_ofH rfl hwL_locker (MFok 302 (by decide +kernel)) (fun _ => Nat.le_of_ble_eq_true rfl) ?_
  refine segG_wkh (b := (some (aI 3), (σ1, 0 + mC 140, 0 + mS 140))) rwL_locker w0 (cut := cuC 5 (cuQ [(0, aR 2), (1, aI x1), (2, aI x2), (3, aR 120)] [aI x2, aI x1, aR 2, aI 0, aR 120] (σ, 0, 0) (some (aI 3), (σ1, 0 + mC 140, 0 + mS 140))) cuN) ?_ 1000 0 _ _ (σ, 0, 0) cuQ_t
  exact ct_C (fun lc st s1 h => by
    obtain ⟨rfl, rfl, rfl⟩ := cuQ_of h
    exact w2) ct_N
def csL_parcelAt : List (Nat × List (Nat × ARow)) := [(100000, [(0, 1, .aload_n 3, 0, 0, 0), (1, 1, .iconst 0, 0, 0, 0), (2, 1, .aload_n 0, 0, 0, 0), (3, 1, .iload_n 1, 0, 0, 0), (4, 1, .iload_n 2, 0, 0, 0), (5, 3, .invokevirtual 105, 141, 3, 11), (8, 1, .i2l, 0, 0, 0), (9, 1, .lastore, 0, 0, 0), (10, 3, .goto 11, 21, 0, 0), (13, 2, .astore 4, 0, 0, 0), (15, 1, .iconst 1, 0, 0, 0), (16, 1, .ireturn, 0, 0, 0), (17, 2, .astore 4, 0, 0, 0), (19, 1, .iconst 2, 0, 0, 0), (20, 1, .ireturn, 0, 0, 0), (21, 1, .iconst 0, 0, 0, 0), (22, 1, .ireturn, 0, 0, 0)])]
theorem rwL_parcelAt : rowsB (mB 303) (mO 303) (mX 303) (mIni 303) (mFr 303) (mLo 303) (mT 303) csL_parcelAt = true := by decide +kernel
def hhL_parcelAt : List (Nat × Nat × Nat × Nat) := [(0, 10, 13, 13), (0, 10, 17, 15)]
set_option maxRecDepth 100000 in
theorem hwL_parcelAt : Cond.codeWith (mY 303) (mB 303) (mX 303) (mT 303) hhL_parcelAt ∈ WG := wg6 (i := 84) rfl rfl
theorem hL_parcelAt_0 {σ : SG} {x1 x2 : Int} {y : Int} {r : Nat → Int → Nat} {i j : Nat → Int → Int} {d : Nat → Int → UInt64} (h2 : 121 ≤ σ.1) (hM : MCT 141 [] (aR 2 :: [aI x1, aI x2]) σ (.inl (some (aI y))) (121, r, i, j, d)) : MCT 303 hhL_parcelAt [aR 2, aI x1, aI x2, aR 120] σ (.inl (some (aI 0))) (uJ (121, r, i, j, d) 120 0 y) := by
  have w0 : 0 + mC 141 ≤ mC 303 ∧ 0 + mS 141 ≤ mS 303 := by decide +kernel
  have w1 : WKH 303 hhL_parcelAt (.inl (some (aI 0))) σ (uJ (121, r, i, j, d) 120 0 y) 8 [(0, aR 2), (1, aI x1), (2, aI x2), (3, aR 120)] [aI y, aI 0, aR 120] (121, r, i, j, d) (0 + mC 141) (0 + mS 141) := segG_wkh (b := (some (aI 0), (uJ (121, r, i, j, d) 120 0 y, 0 + mC 141, 0 + mS 141))) rwL_parcelAt w0 ct_N 1000 8 [(0, aR 2), (1, aI x1), (2, aI x2), (3, aR 120)] [aI y, aI 0, aR 120] ((121, r, i, j, d), 0 + mC 141, 0 + mS 141) rfl
  have w2 := callV_wkh (cells := 0) (slots := 0) (n := 303) (m := 141) (hh := hhL_parcelAt) (as := [aI x1, aI x2]) (rest := [aI 0, aR 120]) (lc := [(0, aR 2), (1, aI x1), (2, aI x2), (3, aR 120)]) (pc := 5) (idx := 105) rfl (by decide +kernel) (by decide +kernel) (by decide +kernel) rfl ⟨by decide, by omega⟩ (by decide +kernel) (by decide +kernel) (by decide +kernel) hM w0 (fun x h => by cases h) (fun v h => by cases h; exact w1)
  refine mct_ofH rfl hwL_parcelAt (MFok 303 (by decide +kernel)) (fun _ => Nat.le_of_ble_eq_true rfl) ?_
  refine segG_wkh (b := (some (aI 0), (uJ (121, r, i, j, d) 120 0 y, 0 + mC 141, 0 + mS 141))) rwL_parcelAt w0 (cut := cuC 5 (cuQ [(0, aR 2), (1, aI x1), (2, aI x2), (3, aR 120)] [aI x2, aI x1, aR 2, aI 0, aR 120] (σ, 0, 0) (some (aI 0), (uJ (121, r, i, j, d) 120 0 y, 0 + mC 141, 0 + mS 141))) cuN) ?_ 1000 0 _ _ (σ, 0, 0) cuQ_t
  exact ct_C (fun lc st s1 h => by
    obtain ⟨rfl, rfl, rfl⟩ := cuQ_of h
    exact w2) ct_N
theorem hL_parcelAt_1 {σ σ1 : SG} {x1 x2 : Int} (h2 : 121 ≤ σ.1) (hM : MCT 141 [] (aR 2 :: [aI x1, aI x2]) σ (.inr 0) σ1) : MCT 303 hhL_parcelAt [aR 2, aI x1, aI x2, aR 120] σ (.inl (some (aI 1))) σ1 := by
  have w0 : 0 + mC 141 ≤ mC 303 ∧ 0 + mS 141 ≤ mS 303 := by decide +kernel
  have w1 : WKH 303 hhL_parcelAt (.inl (some (aI 1))) σ σ1 15 (delL 4 [(0, aR 2), (1, aI x1), (2, aI x2), (3, aR 120)]) [] σ1 (0 + mC 141) (0 + mS 141) := segG_wkh (b := (some (aI 1), (σ1, 0 + mC 141, 0 + mS 141))) rwL_parcelAt w0 ct_N 1000 15 (delL 4 [(0, aR 2), (1, aI x1), (2, aI x2), (3, aR 120)]) [] (σ1, 0 + mC 141, 0 + mS 141) rfl
  have w2 := callV_wkh (cells := 0) (slots := 0) (n := 303) (m := 141) (hh := hhL_parcelAt) (as := [aI x1, aI x2]) (rest := [aI 0, aR 120]) (lc := [(0, aR 2), (1, aI x1), (2, aI x2), (3, aR 120)]) (pc := 5) (idx := 105) rfl (by decide +kernel) (by decide +kernel) (by decide +kernel) rfl ⟨by decide, by omega⟩ (by decide +kernel) (by decide +kernel) (by decide +kernel) hM w0 (fun x h => by cases h; exact ⟨(15, 4), ⟨[], (0, 10, 13, 13), [(0, 10, 17, 15)], rfl, by decide, by decide, by decide, by decide, rfl, by decide +kernel, Or.inl ⟨by decide +kernel, rfl⟩⟩, w1⟩) (fun v h => by cases h)
  refine mct_ofH rfl hwL_parcelAt (MFok 303 (by decide +kernel)) (fun _ => Nat.le_of_ble_eq_true rfl) ?_
  refine segG_wkh (b := (some (aI 1), (σ1, 0 + mC 141, 0 + mS 141))) rwL_parcelAt w0 (cut := cuC 5 (cuQ [(0, aR 2), (1, aI x1), (2, aI x2), (3, aR 120)] [aI x2, aI x1, aR 2, aI 0, aR 120] (σ, 0, 0) (some (aI 1), (σ1, 0 + mC 141, 0 + mS 141))) cuN) ?_ 1000 0 _ _ (σ, 0, 0) cuQ_t
  exact ct_C (fun lc st s1 h => by
    obtain ⟨rfl, rfl, rfl⟩ := cuQ_of h
    exact w2) ct_N
theorem hL_parcelAt_2 {σ σ1 : SG} {x1 x2 : Int} (h2 : 121 ≤ σ.1) (hM : MCT 141 [] (aR 2 :: [aI x1, aI x2]) σ (.inr 1) σ1) : MCT 303 hhL_parcelAt [aR 2, aI x1, aI x2, aR 120] σ (.inl (some (aI 2))) σ1 := by
  have w0 : 0 + mC 141 ≤ mC 303 ∧ 0 + mS 141 ≤ mS 303 := by decide +kernel
  have w1 : WKH 303 hhL_parcelAt (.inl (some (aI 2))) σ σ1 19 (delL 4 [(0, aR 2), (1, aI x1), (2, aI x2), (3, aR 120)]) [] σ1 (0 + mC 141) (0 + mS 141) := segG_wkh (b := (some (aI 2), (σ1, 0 + mC 141, 0 + mS 141))) rwL_parcelAt w0 ct_N 1000 19 (delL 4 [(0, aR 2), (1, aI x1), (2, aI x2), (3, aR 120)]) [] (σ1, 0 + mC 141, 0 + mS 141) rfl
  have w2 := callV_wkh (cells := 0) (slots := 0) (n := 303) (m := 141) (hh := hhL_parcelAt) (as := [aI x1, aI x2]) (rest := [aI 0, aR 120]) (lc := [(0, aR 2), (1, aI x1), (2, aI x2), (3, aR 120)]) (pc := 5) (idx := 105) rfl (by decide +kernel) (by decide +kernel) (by decide +kernel) rfl ⟨by decide, by omega⟩ (by decide +kernel) (by decide +kernel) (by decide +kernel) hM w0 (fun x h => by cases h; exact ⟨(19, 4), ⟨[(0, 10, 13, 13)], (0, 10, 17, 15), [], rfl, by decide, by decide, by decide, by decide, rfl, by decide +kernel, Or.inl ⟨by decide +kernel, rfl⟩⟩, w1⟩) (fun v h => by cases h)
  refine mct_ofH rfl hwL_parcelAt (MFok 303 (by decide +kernel)) (fun _ => Nat.le_of_ble_eq_true rfl) ?_
  refine segG_wkh (b := (some (aI 2), (σ1, 0 + mC 141, 0 + mS 141))) rwL_parcelAt w0 (cut := cuC 5 (cuQ [(0, aR 2), (1, aI x1), (2, aI x2), (3, aR 120)] [aI x2, aI x1, aR 2, aI 0, aR 120] (σ, 0, 0) (some (aI 2), (σ1, 0 + mC 141, 0 + mS 141))) cuN) ?_ 1000 0 _ _ (σ, 0, 0) cuQ_t
  exact ct_C (fun lc st s1 h => by
    obtain ⟨rfl, rfl, rfl⟩ := cuQ_of h
    exact w2) ct_N
def csL_setZone : List (Nat × List (Nat × ARow)) := [(100000, [(0, 1, .aload_n 3, 0, 0, 0), (1, 1, .iconst 0, 0, 0, 0), (2, 1, .aload_n 0, 0, 0, 0), (3, 1, .iload_n 1, 0, 0, 0), (4, 1, .iload_n 2, 0, 0, 0), (5, 3, .invokevirtual 108, 142, 3, 11), (8, 1, .i2l, 0, 0, 0), (9, 1, .lastore, 0, 0, 0), (10, 3, .goto 11, 21, 0, 0), (13, 2, .astore 4, 0, 0, 0), (15, 1, .iconst 1, 0, 0, 0), (16, 1, .ireturn, 0, 0, 0), (17, 2, .astore 4, 0, 0, 0), (19, 1, .iconst 2, 0, 0, 0), (20, 1, .ireturn, 0, 0, 0), (21, 1, .iconst 0, 0, 0, 0), (22, 1, .ireturn, 0, 0, 0)])]
theorem rwL_setZone : rowsB (mB 304) (mO 304) (mX 304) (mIni 304) (mFr 304) (mLo 304) (mT 304) csL_setZone = true := by decide +kernel
def hhL_setZone : List (Nat × Nat × Nat × Nat) := [(0, 10, 13, 13), (0, 10, 17, 15)]
set_option maxRecDepth 100000 in
theorem hwL_setZone : Cond.codeWith (mY 304) (mB 304) (mX 304) (mT 304) hhL_setZone ∈ WG := wg6 (i := 91) rfl rfl
theorem hL_setZone_0 {σ : SG} {x1 x2 : Int} {y : Int} {r : Nat → Int → Nat} {i j : Nat → Int → Int} {d : Nat → Int → UInt64} (h2 : 121 ≤ σ.1) (hM : MCT 142 [] (aR 2 :: [aI x1, aI x2]) σ (.inl (some (aI y))) (121, r, i, j, d)) : MCT 304 hhL_setZone [aR 2, aI x1, aI x2, aR 120] σ (.inl (some (aI 0))) (uJ (121, r, i, j, d) 120 0 y) := by
  have w0 : 0 + mC 142 ≤ mC 304 ∧ 0 + mS 142 ≤ mS 304 := by decide +kernel
  have w1 : WKH 304 hhL_setZone (.inl (some (aI 0))) σ (uJ (121, r, i, j, d) 120 0 y) 8 [(0, aR 2), (1, aI x1), (2, aI x2), (3, aR 120)] [aI y, aI 0, aR 120] (121, r, i, j, d) (0 + mC 142) (0 + mS 142) := segG_wkh (b := (some (aI 0), (uJ (121, r, i, j, d) 120 0 y, 0 + mC 142, 0 + mS 142))) rwL_setZone w0 ct_N 1000 8 [(0, aR 2), (1, aI x1), (2, aI x2), (3, aR 120)] [aI y, aI 0, aR 120] ((121, r, i, j, d), 0 + mC 142, 0 + mS 142) rfl
  have w2 := callV_wkh (cells := 0) (slots := 0) (n := 304) (m := 142) (hh := hhL_setZone) (as := [aI x1, aI x2]) (rest := [aI 0, aR 120]) (lc := [(0, aR 2), (1, aI x1), (2, aI x2), (3, aR 120)]) (pc := 5) (idx := 108) rfl (by decide +kernel) (by decide +kernel) (by decide +kernel) rfl ⟨by decide, by omega⟩ (by decide +kernel) (by decide +kernel) (by decide +kernel) hM w0 (fun x h => by cases h) (fun v h => by cases h; exact w1)
  refine mct_ofH rfl hwL_setZone (MFok 304 (by decide +kernel)) (fun _ => Nat.le_of_ble_eq_true rfl) ?_
  refine segG_wkh (b := (some (aI 0), (uJ (121, r, i, j, d) 120 0 y, 0 + mC 142, 0 + mS 142))) rwL_setZone w0 (cut := cuC 5 (cuQ [(0, aR 2), (1, aI x1), (2, aI x2), (3, aR 120)] [aI x2, aI x1, aR 2, aI 0, aR 120] (σ, 0, 0) (some (aI 0), (uJ (121, r, i, j, d) 120 0 y, 0 + mC 142, 0 + mS 142))) cuN) ?_ 1000 0 _ _ (σ, 0, 0) cuQ_t
  exact ct_C (fun lc st s1 h => by
    obtain ⟨rfl, rfl, rfl⟩ := cuQ_of h
    exact w2) ct_N
theorem hL_setZone_1 {σ σ1 : SG} {x1 x2 : Int} (h2 : 121 ≤ σ.1) (hM : MCT 142 [] (aR 2 :: [aI x1, aI x2]) σ (.inr 0) σ1) : MCT 304 hhL_setZone [aR 2, aI x1, aI x2, aR 120] σ (.inl (some (aI 1))) σ1 := by
  have w0 : 0 + mC 142 ≤ mC 304 ∧ 0 + mS 142 ≤ mS 304 := by decide +kernel
  have w1 : WKH 304 hhL_setZone (.inl (some (aI 1))) σ σ1 15 (delL 4 [(0, aR 2), (1, aI x1), (2, aI x2), (3, aR 120)]) [] σ1 (0 + mC 142) (0 + mS 142) := segG_wkh (b := (some (aI 1), (σ1, 0 + mC 142, 0 + mS 142))) rwL_setZone w0 ct_N 1000 15 (delL 4 [(0, aR 2), (1, aI x1), (2, aI x2), (3, aR 120)]) [] (σ1, 0 + mC 142, 0 + mS 142) rfl
  have w2 := callV_wkh (cells := 0) (slots := 0) (n := 304) (m := 142) (hh := hhL_setZone) (as := [aI x1, aI x2]) (rest := [aI 0, aR 120]) (lc := [(0, aR 2), (1, aI x1), (2, aI x2), (3, aR 120)]) (pc := 5) (idx := 108) rfl (by decide +kernel) (by decide +kernel) (by decide +kernel) rfl ⟨by decide, by omega⟩ (by decide +kernel) (by decide +kernel) (by decide +kernel) hM w0 (fun x h => by cases h; exact ⟨(15, 4), ⟨[], (0, 10, 13, 13), [(0, 10, 17, 15)], rfl, by decide, by decide, by decide, by decide, rfl, by decide +kernel, Or.inl ⟨by decide +kernel, rfl⟩⟩, w1⟩) (fun v h => by cases h)
  refine mct_ofH rfl hwL_setZone (MFok 304 (by decide +kernel)) (fun _ => Nat.le_of_ble_eq_true rfl) ?_
  refine segG_wkh (b := (some (aI 1), (σ1, 0 + mC 142, 0 + mS 142))) rwL_setZone w0 (cut := cuC 5 (cuQ [(0, aR 2), (1, aI x1), (2, aI x2), (3, aR 120)] [aI x2, aI x1, aR 2, aI 0, aR 120] (σ, 0, 0) (some (aI 1), (σ1, 0 + mC 142, 0 + mS 142))) cuN) ?_ 1000 0 _ _ (σ, 0, 0) cuQ_t
  exact ct_C (fun lc st s1 h => by
    obtain ⟨rfl, rfl, rfl⟩ := cuQ_of h
    exact w2) ct_N
theorem hL_setZone_2 {σ σ1 : SG} {x1 x2 : Int} (h2 : 121 ≤ σ.1) (hM : MCT 142 [] (aR 2 :: [aI x1, aI x2]) σ (.inr 1) σ1) : MCT 304 hhL_setZone [aR 2, aI x1, aI x2, aR 120] σ (.inl (some (aI 2))) σ1 := by
  have w0 : 0 + mC 142 ≤ mC 304 ∧ 0 + mS 142 ≤ mS 304 := by decide +kernel
  have w1 : WKH 304 hhL_setZone (.inl (some (aI 2))) σ σ1 19 (delL 4 [(0, aR 2), (1, aI x1), (2, aI x2), (3, aR 120)]) [] σ1 (0 + mC 142) (0 + mS 142) := segG_wkh (b := (some (aI 2), (σ1, 0 + mC 142, 0 + mS 142))) rwL_setZone w0 ct_N 1000 19 (delL 4 [(0, aR 2), (1, aI x1), (2, aI x2), (3, aR 120)]) [] (σ1, 0 + mC 142, 0 + mS 142) rfl
  have w2 := callV_wkh (cells := 0) (slots := 0) (n := 304) (m := 142) (hh := hhL_setZone) (as := [aI x1, aI x2]) (rest := [aI 0, aR 120]) (lc := [(0, aR 2), (1, aI x1), (2, aI x2), (3, aR 120)]) (pc := 5) (idx := 108) rfl (by decide +kernel) (by decide +kernel) (by decide +kernel) rfl ⟨by decide, by omega⟩ (by decide +kernel) (by decide +kernel) (by decide +kernel) hM w0 (fun x h => by cases h; exact ⟨(19, 4), ⟨[(0, 10, 13, 13)], (0, 10, 17, 15), [], rfl, by decide, by decide, by decide, by decide, rfl, by decide +kernel, Or.inl ⟨by decide +kernel, rfl⟩⟩, w1⟩) (fun v h => by cases h)
  refine mct_ofH rfl hwL_setZone (MFok 304 (by decide +kernel)) (fun _ => Nat.le_of_ble_eq_true rfl) ?_
  refine segG_wkh (b := (some (aI 2), (σ1, 0 + mC 142, 0 + mS 142))) rwL_setZone w0 (cut := cuC 5 (cuQ [(0, aR 2), (1, aI x1), (2, aI x2), (3, aR 120)] [aI x2, aI x1, aR 2, aI 0, aR 120] (σ, 0, 0) (some (aI 2), (σ1, 0 + mC 142, 0 + mS 142))) cuN) ?_ 1000 0 _ _ (σ, 0, 0) cuQ_t
  exact ct_C (fun lc st s1 h => by
    obtain ⟨rfl, rfl, rfl⟩ := cuQ_of h
    exact w2) ct_N
def csL_zone : List (Nat × List (Nat × ARow)) := [(100000, [(0, 1, .aload_n 3, 0, 0, 0), (1, 1, .iconst 0, 0, 0, 0), (2, 1, .aload_n 0, 0, 0, 0), (3, 1, .iload_n 1, 0, 0, 0), (4, 1, .iload_n 2, 0, 0, 0), (5, 3, .invokevirtual 111, 144, 3, 11), (8, 1, .i2l, 0, 0, 0), (9, 1, .lastore, 0, 0, 0), (10, 3, .goto 7, 17, 0, 0), (13, 2, .astore 4, 0, 0, 0), (15, 1, .iconst 1, 0, 0, 0), (16, 1, .ireturn, 0, 0, 0), (17, 1, .iconst 0, 0, 0, 0), (18, 1, .ireturn, 0, 0, 0)])]
theorem rwL_zone : rowsB (mB 305) (mO 305) (mX 305) (mIni 305) (mFr 305) (mLo 305) (mT 305) csL_zone = true := by decide +kernel
def hhL_zone : List (Nat × Nat × Nat × Nat) := [(0, 10, 13, 13)]
set_option maxRecDepth 100000 in
theorem hwL_zone : Cond.codeWith (mY 305) (mB 305) (mX 305) (mT 305) hhL_zone ∈ WG := wg6 (i := 98) rfl rfl
theorem hL_zone_0 {σ : SG} {x1 x2 : Int} {y : Int} {r : Nat → Int → Nat} {i j : Nat → Int → Int} {d : Nat → Int → UInt64} (h2 : 121 ≤ σ.1) (hM : MCT 144 [] (aR 2 :: [aI x1, aI x2]) σ (.inl (some (aI y))) (121, r, i, j, d)) : MCT 305 hhL_zone [aR 2, aI x1, aI x2, aR 120] σ (.inl (some (aI 0))) (uJ (121, r, i, j, d) 120 0 y) := by
  have w0 : 0 + mC 144 ≤ mC 305 ∧ 0 + mS 144 ≤ mS 305 := by decide +kernel
  have w1 : WKH 305 hhL_zone (.inl (some (aI 0))) σ (uJ (121, r, i, j, d) 120 0 y) 8 [(0, aR 2), (1, aI x1), (2, aI x2), (3, aR 120)] [aI y, aI 0, aR 120] (121, r, i, j, d) (0 + mC 144) (0 + mS 144) := segG_wkh (b := (some (aI 0), (uJ (121, r, i, j, d) 120 0 y, 0 + mC 144, 0 + mS 144))) rwL_zone w0 ct_N 1000 8 [(0, aR 2), (1, aI x1), (2, aI x2), (3, aR 120)] [aI y, aI 0, aR 120] ((121, r, i, j, d), 0 + mC 144, 0 + mS 144) rfl
  have w2 := callV_wkh (cells := 0) (slots := 0) (n := 305) (m := 144) (hh := hhL_zone) (as := [aI x1, aI x2]) (rest := [aI 0, aR 120]) (lc := [(0, aR 2), (1, aI x1), (2, aI x2), (3, aR 120)]) (pc := 5) (idx := 111) rfl (by decide +kernel) (by decide +kernel) (by decide +kernel) rfl ⟨by decide, by omega⟩ (by decide +kernel) (by decide +kernel) (by decide +kernel) hM w0 (fun x h => by cases h) (fun v h => by cases h; exact w1)
  refine mct_ofH rfl hwL_zone (MFok 305 (by decide +kernel)) (fun _ => Nat.le_of_ble_eq_true rfl) ?_
  refine segG_wkh (b := (some (aI 0), (uJ (121, r, i, j, d) 120 0 y, 0 + mC 144, 0 + mS 144))) rwL_zone w0 (cut := cuC 5 (cuQ [(0, aR 2), (1, aI x1), (2, aI x2), (3, aR 120)] [aI x2, aI x1, aR 2, aI 0, aR 120] (σ, 0, 0) (some (aI 0), (uJ (121, r, i, j, d) 120 0 y, 0 + mC 144, 0 + mS 144))) cuN) ?_ 1000 0 _ _ (σ, 0, 0) cuQ_t
  exact ct_C (fun lc st s1 h => by
    obtain ⟨rfl, rfl, rfl⟩ := cuQ_of h
    exact w2) ct_N
theorem hL_zone_1 {σ σ1 : SG} {x1 x2 : Int} (h2 : 121 ≤ σ.1) (hM : MCT 144 [] (aR 2 :: [aI x1, aI x2]) σ (.inr 0) σ1) : MCT 305 hhL_zone [aR 2, aI x1, aI x2, aR 120] σ (.inl (some (aI 1))) σ1 := by
  have w0 : 0 + mC 144 ≤ mC 305 ∧ 0 + mS 144 ≤ mS 305 := by decide +kernel
  have w1 : WKH 305 hhL_zone (.inl (some (aI 1))) σ σ1 15 (delL 4 [(0, aR 2), (1, aI x1), (2, aI x2), (3, aR 120)]) [] σ1 (0 + mC 144) (0 + mS 144) := segG_wkh (b := (some (aI 1), (σ1, 0 + mC 144, 0 + mS 144))) rwL_zone w0 ct_N 1000 15 (delL 4 [(0, aR 2), (1, aI x1), (2, aI x2), (3, aR 120)]) [] (σ1, 0 + mC 144, 0 + mS 144) rfl
  have w2 := callV_wkh (cells := 0) (slots := 0) (n := 305) (m := 144) (hh := hhL_zone) (as := [aI x1, aI x2]) (rest := [aI 0, aR 120]) (lc := [(0, aR 2), (1, aI x1), (2, aI x2), (3, aR 120)]) (pc := 5) (idx := 111) rfl (by decide +kernel) (by decide +kernel) (by decide +kernel) rfl ⟨by decide, by omega⟩ (by decide +kernel) (by decide +kernel) (by decide +kernel) hM w0 (fun x h => by cases h; exact ⟨(15, 4), ⟨[], (0, 10, 13, 13), [], rfl, by decide, by decide, by decide, by decide, rfl, by decide +kernel, Or.inl ⟨by decide +kernel, rfl⟩⟩, w1⟩) (fun v h => by cases h)
  refine mct_ofH rfl hwL_zone (MFok 305 (by decide +kernel)) (fun _ => Nat.le_of_ble_eq_true rfl) ?_
  refine segG_wkh (b := (some (aI 1), (σ1, 0 + mC 144, 0 + mS 144))) rwL_zone w0 (cut := cuC 5 (cuQ [(0, aR 2), (1, aI x1), (2, aI x2), (3, aR 120)] [aI x2, aI x1, aR 2, aI 0, aR 120] (σ, 0, 0) (some (aI 1), (σ1, 0 + mC 144, 0 + mS 144))) cuN) ?_ 1000 0 _ _ (σ, 0, 0) cuQ_t
  exact ct_C (fun lc st s1 h => by
    obtain ⟨rfl, rfl, rfl⟩ := cuQ_of h
    exact w2) ct_N
def csL_together : List (Nat × List (Nat × ARow)) := [(100000, [(0, 1, .aload_n 2, 0, 0, 0), (1, 1, .iconst 0, 0, 0, 0), (2, 1, .aload_n 0, 0, 0, 0), (3, 1, .iload_n 1, 0, 0, 0), (4, 3, .invokevirtual 115, 145, 2, 11), (7, 1, .i2l, 0, 0, 0), (8, 1, .lastore, 0, 0, 0), (9, 3, .goto 12, 21, 0, 0), (12, 1, .astore_n 3, 0, 0, 0), (13, 1, .iconst 1, 0, 0, 0), (14, 1, .ireturn, 0, 0, 0), (15, 1, .astore_n 3, 0, 0, 0), (16, 1, .iconst 2, 0, 0, 0), (17, 1, .ireturn, 0, 0, 0), (18, 1, .astore_n 3, 0, 0, 0), (19, 1, .iconst 3, 0, 0, 0), (20, 1, .ireturn, 0, 0, 0), (21, 1, .iconst 0, 0, 0, 0), (22, 1, .ireturn, 0, 0, 0)])]
theorem rwL_together : rowsB (mB 306) (mO 306) (mX 306) (mIni 306) (mFr 306) (mLo 306) (mT 306) csL_together = true := by decide +kernel
def hhL_together : List (Nat × Nat × Nat × Nat) := [(0, 9, 12, 15), (0, 9, 15, 17), (0, 9, 18, 62)]
set_option maxRecDepth 100000 in
theorem hwL_together : Cond.codeWith (mY 306) (mB 306) (mX 306) (mT 306) hhL_together ∈ WG := wg6 (i := 106) rfl rfl
theorem hL_together_0 {σ : SG} {x1 : Int} {y : Int} {r : Nat → Int → Nat} {i j : Nat → Int → Int} {d : Nat → Int → UInt64} (h2 : 121 ≤ σ.1) (hM : MCT 145 [] (aR 2 :: [aI x1]) σ (.inl (some (aI y))) (121, r, i, j, d)) : MCT 306 hhL_together [aR 2, aI x1, aR 120] σ (.inl (some (aI 0))) (uJ (121, r, i, j, d) 120 0 y) := by
  have w0 : 0 + mC 145 ≤ mC 306 ∧ 0 + mS 145 ≤ mS 306 := by decide +kernel
  have w1 : WKH 306 hhL_together (.inl (some (aI 0))) σ (uJ (121, r, i, j, d) 120 0 y) 7 [(0, aR 2), (1, aI x1), (2, aR 120)] [aI y, aI 0, aR 120] (121, r, i, j, d) (0 + mC 145) (0 + mS 145) := segG_wkh (b := (some (aI 0), (uJ (121, r, i, j, d) 120 0 y, 0 + mC 145, 0 + mS 145))) rwL_together w0 ct_N 1000 7 [(0, aR 2), (1, aI x1), (2, aR 120)] [aI y, aI 0, aR 120] ((121, r, i, j, d), 0 + mC 145, 0 + mS 145) rfl
  have w2 := callV_wkh (cells := 0) (slots := 0) (n := 306) (m := 145) (hh := hhL_together) (as := [aI x1]) (rest := [aI 0, aR 120]) (lc := [(0, aR 2), (1, aI x1), (2, aR 120)]) (pc := 4) (idx := 115) rfl (by decide +kernel) (by decide +kernel) (by decide +kernel) rfl ⟨by decide, by omega⟩ (by decide +kernel) (by decide +kernel) (by decide +kernel) hM w0 (fun x h => by cases h) (fun v h => by cases h; exact w1)
  refine mct_ofH rfl hwL_together (MFok 306 (by decide +kernel)) (fun _ => Nat.le_of_ble_eq_true rfl) ?_
  refine segG_wkh (b := (some (aI 0), (uJ (121, r, i, j, d) 120 0 y, 0 + mC 145, 0 + mS 145))) rwL_together w0 (cut := cuC 4 (cuQ [(0, aR 2), (1, aI x1), (2, aR 120)] [aI x1, aR 2, aI 0, aR 120] (σ, 0, 0) (some (aI 0), (uJ (121, r, i, j, d) 120 0 y, 0 + mC 145, 0 + mS 145))) cuN) ?_ 1000 0 _ _ (σ, 0, 0) cuQ_t
  exact ct_C (fun lc st s1 h => by
    obtain ⟨rfl, rfl, rfl⟩ := cuQ_of h
    exact w2) ct_N
theorem hL_together_1 {σ σ1 : SG} {x1 : Int} (h2 : 121 ≤ σ.1) (hM : MCT 145 [] (aR 2 :: [aI x1]) σ (.inr 1) σ1) : MCT 306 hhL_together [aR 2, aI x1, aR 120] σ (.inl (some (aI 1))) σ1 := by
  have w0 : 0 + mC 145 ≤ mC 306 ∧ 0 + mS 145 ≤ mS 306 := by decide +kernel
  have w1 : WKH 306 hhL_together (.inl (some (aI 1))) σ σ1 13 (delL 3 [(0, aR 2), (1, aI x1), (2, aR 120)]) [] σ1 (0 + mC 145) (0 + mS 145) := segG_wkh (b := (some (aI 1), (σ1, 0 + mC 145, 0 + mS 145))) rwL_together w0 ct_N 1000 13 (delL 3 [(0, aR 2), (1, aI x1), (2, aR 120)]) [] (σ1, 0 + mC 145, 0 + mS 145) rfl
  have w2 := callV_wkh (cells := 0) (slots := 0) (n := 306) (m := 145) (hh := hhL_together) (as := [aI x1]) (rest := [aI 0, aR 120]) (lc := [(0, aR 2), (1, aI x1), (2, aR 120)]) (pc := 4) (idx := 115) rfl (by decide +kernel) (by decide +kernel) (by decide +kernel) rfl ⟨by decide, by omega⟩ (by decide +kernel) (by decide +kernel) (by decide +kernel) hM w0 (fun x h => by cases h; exact ⟨(13, 3), ⟨[], (0, 9, 12, 15), [(0, 9, 15, 17), (0, 9, 18, 62)], rfl, by decide, by decide, by decide, by decide, rfl, by decide +kernel, Or.inr ⟨3, rfl, by decide +kernel, rfl⟩⟩, w1⟩) (fun v h => by cases h)
  refine mct_ofH rfl hwL_together (MFok 306 (by decide +kernel)) (fun _ => Nat.le_of_ble_eq_true rfl) ?_
  refine segG_wkh (b := (some (aI 1), (σ1, 0 + mC 145, 0 + mS 145))) rwL_together w0 (cut := cuC 4 (cuQ [(0, aR 2), (1, aI x1), (2, aR 120)] [aI x1, aR 2, aI 0, aR 120] (σ, 0, 0) (some (aI 1), (σ1, 0 + mC 145, 0 + mS 145))) cuN) ?_ 1000 0 _ _ (σ, 0, 0) cuQ_t
  exact ct_C (fun lc st s1 h => by
    obtain ⟨rfl, rfl, rfl⟩ := cuQ_of h
    exact w2) ct_N
theorem hL_together_2 {σ σ1 : SG} {x1 : Int} (h2 : 121 ≤ σ.1) (hM : MCT 145 [] (aR 2 :: [aI x1]) σ (.inr 2) σ1) : MCT 306 hhL_together [aR 2, aI x1, aR 120] σ (.inl (some (aI 2))) σ1 := by
  have w0 : 0 + mC 145 ≤ mC 306 ∧ 0 + mS 145 ≤ mS 306 := by decide +kernel
  have w1 : WKH 306 hhL_together (.inl (some (aI 2))) σ σ1 16 (delL 3 [(0, aR 2), (1, aI x1), (2, aR 120)]) [] σ1 (0 + mC 145) (0 + mS 145) := segG_wkh (b := (some (aI 2), (σ1, 0 + mC 145, 0 + mS 145))) rwL_together w0 ct_N 1000 16 (delL 3 [(0, aR 2), (1, aI x1), (2, aR 120)]) [] (σ1, 0 + mC 145, 0 + mS 145) rfl
  have w2 := callV_wkh (cells := 0) (slots := 0) (n := 306) (m := 145) (hh := hhL_together) (as := [aI x1]) (rest := [aI 0, aR 120]) (lc := [(0, aR 2), (1, aI x1), (2, aR 120)]) (pc := 4) (idx := 115) rfl (by decide +kernel) (by decide +kernel) (by decide +kernel) rfl ⟨by decide, by omega⟩ (by decide +kernel) (by decide +kernel) (by decide +kernel) hM w0 (fun x h => by cases h; exact ⟨(16, 3), ⟨[(0, 9, 12, 15)], (0, 9, 15, 17), [(0, 9, 18, 62)], rfl, by decide, by decide, by decide, by decide, rfl, by decide +kernel, Or.inr ⟨3, rfl, by decide +kernel, rfl⟩⟩, w1⟩) (fun v h => by cases h)
  refine mct_ofH rfl hwL_together (MFok 306 (by decide +kernel)) (fun _ => Nat.le_of_ble_eq_true rfl) ?_
  refine segG_wkh (b := (some (aI 2), (σ1, 0 + mC 145, 0 + mS 145))) rwL_together w0 (cut := cuC 4 (cuQ [(0, aR 2), (1, aI x1), (2, aR 120)] [aI x1, aR 2, aI 0, aR 120] (σ, 0, 0) (some (aI 2), (σ1, 0 + mC 145, 0 + mS 145))) cuN) ?_ 1000 0 _ _ (σ, 0, 0) cuQ_t
  exact ct_C (fun lc st s1 h => by
    obtain ⟨rfl, rfl, rfl⟩ := cuQ_of h
    exact w2) ct_N
theorem hL_together_3 {σ σ1 : SG} {x1 : Int} (h2 : 121 ≤ σ.1) (hM : MCT 145 [] (aR 2 :: [aI x1]) σ (.inr 3) σ1) : MCT 306 hhL_together [aR 2, aI x1, aR 120] σ (.inl (some (aI 3))) σ1 := by
  have w0 : 0 + mC 145 ≤ mC 306 ∧ 0 + mS 145 ≤ mS 306 := by decide +kernel
  have w1 : WKH 306 hhL_together (.inl (some (aI 3))) σ σ1 19 (delL 3 [(0, aR 2), (1, aI x1), (2, aR 120)]) [] σ1 (0 + mC 145) (0 + mS 145) := segG_wkh (b := (some (aI 3), (σ1, 0 + mC 145, 0 + mS 145))) rwL_together w0 ct_N 1000 19 (delL 3 [(0, aR 2), (1, aI x1), (2, aR 120)]) [] (σ1, 0 + mC 145, 0 + mS 145) rfl
  have w2 := callV_wkh (cells := 0) (slots := 0) (n := 306) (m := 145) (hh := hhL_together) (as := [aI x1]) (rest := [aI 0, aR 120]) (lc := [(0, aR 2), (1, aI x1), (2, aR 120)]) (pc := 4) (idx := 115) rfl (by decide +kernel) (by decide +kernel) (by decide +kernel) rfl ⟨by decide, by omega⟩ (by decide +kernel) (by decide +kernel) (by decide +kernel) hM w0 (fun x h => by cases h; exact ⟨(19, 3), ⟨[(0, 9, 12, 15), (0, 9, 15, 17)], (0, 9, 18, 62), [], rfl, by decide, by decide, by decide, by decide, rfl, by decide +kernel, Or.inr ⟨3, rfl, by decide +kernel, rfl⟩⟩, w1⟩) (fun v h => by cases h)
  refine mct_ofH rfl hwL_together (MFok 306 (by decide +kernel)) (fun _ => Nat.le_of_ble_eq_true rfl) ?_
  refine segG_wkh (b := (some (aI 3), (σ1, 0 + mC 145, 0 + mS 145))) rwL_together w0 (cut := cuC 4 (cuQ [(0, aR 2), (1, aI x1), (2, aR 120)] [aI x1, aR 2, aI 0, aR 120] (σ, 0, 0) (some (aI 3), (σ1, 0 + mC 145, 0 + mS 145))) cuN) ?_ 1000 0 _ _ (σ, 0, 0) cuQ_t
  exact ct_C (fun lc st s1 h => by
    obtain ⟨rfl, rfl, rfl⟩ := cuQ_of h
    exact w2) ct_N
def csL_share : List (Nat × List (Nat × ARow)) := [(100000, [(0, 1, .aload_n 2, 0, 0, 0), (1, 1, .iconst 0, 0, 0, 0), (2, 1, .aload_n 0, 0, 0, 0), (3, 1, .iload_n 1, 0, 0, 0), (4, 3, .invokevirtual 118, 146, 2, 11), (7, 1, .i2l, 0, 0, 0), (8, 1, .lastore, 0, 0, 0), (9, 3, .goto 12, 21, 0, 0), (12, 1, .astore_n 3, 0, 0, 0), (13, 1, .iconst 1, 0, 0, 0), (14, 1, .ireturn, 0, 0, 0), (15, 1, .astore_n 3, 0, 0, 0), (16, 1, .iconst 2, 0, 0, 0), (17, 1, .ireturn, 0, 0, 0), (18, 1, .astore_n 3, 0, 0, 0), (19, 1, .iconst 3, 0, 0, 0), (20, 1, .ireturn, 0, 0, 0), (21, 1, .iconst 0, 0, 0, 0), (22, 1, .ireturn, 0, 0, 0)])]
theorem rwL_share : rowsB (mB 307) (mO 307) (mX 307) (mIni 307) (mFr 307) (mLo 307) (mT 307) csL_share = true := by decide +kernel
def hhL_share : List (Nat × Nat × Nat × Nat) := [(0, 9, 12, 13), (0, 9, 15, 17), (0, 9, 18, 62)]
set_option maxRecDepth 100000 in
theorem hwL_share : Cond.codeWith (mY 307) (mB 307) (mX 307) (mT 307) hhL_share ∈ WG := wg6 (i := 118) rfl rfl
theorem hL_share_0 {σ : SG} {x1 : Int} {y : Int} {r : Nat → Int → Nat} {i j : Nat → Int → Int} {d : Nat → Int → UInt64} (h2 : 121 ≤ σ.1) (hM : MCT 146 [] (aR 2 :: [aI x1]) σ (.inl (some (aI y))) (121, r, i, j, d)) : MCT 307 hhL_share [aR 2, aI x1, aR 120] σ (.inl (some (aI 0))) (uJ (121, r, i, j, d) 120 0 y) := by
  have w0 : 0 + mC 146 ≤ mC 307 ∧ 0 + mS 146 ≤ mS 307 := by decide +kernel
  have w1 : WKH 307 hhL_share (.inl (some (aI 0))) σ (uJ (121, r, i, j, d) 120 0 y) 7 [(0, aR 2), (1, aI x1), (2, aR 120)] [aI y, aI 0, aR 120] (121, r, i, j, d) (0 + mC 146) (0 + mS 146) := segG_wkh (b := (some (aI 0), (uJ (121, r, i, j, d) 120 0 y, 0 + mC 146, 0 + mS 146))) rwL_share w0 ct_N 1000 7 [(0, aR 2), (1, aI x1), (2, aR 120)] [aI y, aI 0, aR 120] ((121, r, i, j, d), 0 + mC 146, 0 + mS 146) rfl
  have w2 := callV_wkh (cells := 0) (slots := 0) (n := 307) (m := 146) (hh := hhL_share) (as := [aI x1]) (rest := [aI 0, aR 120]) (lc := [(0, aR 2), (1, aI x1), (2, aR 120)]) (pc := 4) (idx := 118) rfl (by decide +kernel) (by decide +kernel) (by decide +kernel) rfl ⟨by decide, by omega⟩ (by decide +kernel) (by decide +kernel) (by decide +kernel) hM w0 (fun x h => by cases h) (fun v h => by cases h; exact w1)
  refine mct_ofH rfl hwL_share (MFok 307 (by decide +kernel)) (fun _ => Nat.le_of_ble_eq_true rfl) ?_
  refine segG_wkh (b := (some (aI 0), (uJ (121, r, i, j, d) 120 0 y, 0 + mC 146, 0 + mS 146))) rwL_share w0 (cut := cuC 4 (cuQ [(0, aR 2), (1, aI x1), (2, aR 120)] [aI x1, aR 2, aI 0, aR 120] (σ, 0, 0) (some (aI 0), (uJ (121, r, i, j, d) 120 0 y, 0 + mC 146, 0 + mS 146))) cuN) ?_ 1000 0 _ _ (σ, 0, 0) cuQ_t
  exact ct_C (fun lc st s1 h => by
    obtain ⟨rfl, rfl, rfl⟩ := cuQ_of h
    exact w2) ct_N
theorem hL_share_1 {σ σ1 : SG} {x1 : Int} (h2 : 121 ≤ σ.1) (hM : MCT 146 [] (aR 2 :: [aI x1]) σ (.inr 0) σ1) : MCT 307 hhL_share [aR 2, aI x1, aR 120] σ (.inl (some (aI 1))) σ1 := by
  have w0 : 0 + mC 146 ≤ mC 307 ∧ 0 + mS 146 ≤ mS 307 := by decide +kernel
  have w1 : WKH 307 hhL_share (.inl (some (aI 1))) σ σ1 13 (delL 3 [(0, aR 2), (1, aI x1), (2, aR 120)]) [] σ1 (0 + mC 146) (0 + mS 146) := segG_wkh (b := (some (aI 1), (σ1, 0 + mC 146, 0 + mS 146))) rwL_share w0 ct_N 1000 13 (delL 3 [(0, aR 2), (1, aI x1), (2, aR 120)]) [] (σ1, 0 + mC 146, 0 + mS 146) rfl
  have w2 := callV_wkh (cells := 0) (slots := 0) (n := 307) (m := 146) (hh := hhL_share) (as := [aI x1]) (rest := [aI 0, aR 120]) (lc := [(0, aR 2), (1, aI x1), (2, aR 120)]) (pc := 4) (idx := 118) rfl (by decide +kernel) (by decide +kernel) (by decide +kernel) rfl ⟨by decide, by omega⟩ (by decide +kernel) (by decide +kernel) (by decide +kernel) hM w0 (fun x h => by cases h; exact ⟨(13, 3), ⟨[], (0, 9, 12, 13), [(0, 9, 15, 17), (0, 9, 18, 62)], rfl, by decide, by decide, by decide, by decide, rfl, by decide +kernel, Or.inr ⟨3, rfl, by decide +kernel, rfl⟩⟩, w1⟩) (fun v h => by cases h)
  refine mct_ofH rfl hwL_share (MFok 307 (by decide +kernel)) (fun _ => Nat.le_of_ble_eq_true rfl) ?_
  refine segG_wkh (b := (some (aI 1), (σ1, 0 + mC 146, 0 + mS 146))) rwL_share w0 (cut := cuC 4 (cuQ [(0, aR 2), (1, aI x1), (2, aR 120)] [aI x1, aR 2, aI 0, aR 120] (σ, 0, 0) (some (aI 1), (σ1, 0 + mC 146, 0 + mS 146))) cuN) ?_ 1000 0 _ _ (σ, 0, 0) cuQ_t
  exact ct_C (fun lc st s1 h => by
    obtain ⟨rfl, rfl, rfl⟩ := cuQ_of h
    exact w2) ct_N
theorem hL_share_2 {σ σ1 : SG} {x1 : Int} (h2 : 121 ≤ σ.1) (hM : MCT 146 [] (aR 2 :: [aI x1]) σ (.inr 2) σ1) : MCT 307 hhL_share [aR 2, aI x1, aR 120] σ (.inl (some (aI 2))) σ1 := by
  have w0 : 0 + mC 146 ≤ mC 307 ∧ 0 + mS 146 ≤ mS 307 := by decide +kernel
  have w1 : WKH 307 hhL_share (.inl (some (aI 2))) σ σ1 16 (delL 3 [(0, aR 2), (1, aI x1), (2, aR 120)]) [] σ1 (0 + mC 146) (0 + mS 146) := segG_wkh (b := (some (aI 2), (σ1, 0 + mC 146, 0 + mS 146))) rwL_share w0 ct_N 1000 16 (delL 3 [(0, aR 2), (1, aI x1), (2, aR 120)]) [] (σ1, 0 + mC 146, 0 + mS 146) rfl
  have w2 := callV_wkh (cells := 0) (slots := 0) (n := 307) (m := 146) (hh := hhL_share) (as := [aI x1]) (rest := [aI 0, aR 120]) (lc := [(0, aR 2), (1, aI x1), (2, aR 120)]) (pc := 4) (idx := 118) rfl (by decide +kernel) (by decide +kernel) (by decide +kernel) rfl ⟨by decide, by omega⟩ (by decide +kernel) (by decide +kernel) (by decide +kernel) hM w0 (fun x h => by cases h; exact ⟨(16, 3), ⟨[(0, 9, 12, 13)], (0, 9, 15, 17), [(0, 9, 18, 62)], rfl, by decide, by decide, by decide, by decide, rfl, by decide +kernel, Or.inr ⟨3, rfl, by decide +kernel, rfl⟩⟩, w1⟩) (fun v h => by cases h)
  refine mct_ofH rfl hwL_share (MFok 307 (by decide +kernel)) (fun _ => Nat.le_of_ble_eq_true rfl) ?_
  refine segG_wkh (b := (some (aI 2), (σ1, 0 + mC 146, 0 + mS 146))) rwL_share w0 (cut := cuC 4 (cuQ [(0, aR 2), (1, aI x1), (2, aR 120)] [aI x1, aR 2, aI 0, aR 120] (σ, 0, 0) (some (aI 2), (σ1, 0 + mC 146, 0 + mS 146))) cuN) ?_ 1000 0 _ _ (σ, 0, 0) cuQ_t
  exact ct_C (fun lc st s1 h => by
    obtain ⟨rfl, rfl, rfl⟩ := cuQ_of h
    exact w2) ct_N
theorem hL_share_3 {σ σ1 : SG} {x1 : Int} (h2 : 121 ≤ σ.1) (hM : MCT 146 [] (aR 2 :: [aI x1]) σ (.inr 3) σ1) : MCT 307 hhL_share [aR 2, aI x1, aR 120] σ (.inl (some (aI 3))) σ1 := by
  have w0 : 0 + mC 146 ≤ mC 307 ∧ 0 + mS 146 ≤ mS 307 := by decide +kernel
  have w1 : WKH 307 hhL_share (.inl (some (aI 3))) σ σ1 19 (delL 3 [(0, aR 2), (1, aI x1), (2, aR 120)]) [] σ1 (0 + mC 146) (0 + mS 146) := segG_wkh (b := (some (aI 3), (σ1, 0 + mC 146, 0 + mS 146))) rwL_share w0 ct_N 1000 19 (delL 3 [(0, aR 2), (1, aI x1), (2, aR 120)]) [] (σ1, 0 + mC 146, 0 + mS 146) rfl
  have w2 := callV_wkh (cells := 0) (slots := 0) (n := 307) (m := 146) (hh := hhL_share) (as := [aI x1]) (rest := [aI 0, aR 120]) (lc := [(0, aR 2), (1, aI x1), (2, aR 120)]) (pc := 4) (idx := 118) rfl (by decide +kernel) (by decide +kernel) (by decide +kernel) rfl ⟨by decide, by omega⟩ (by decide +kernel) (by decide +kernel) (by decide +kernel) hM w0 (fun x h => by cases h; exact ⟨(19, 3), ⟨[(0, 9, 12, 13), (0, 9, 15, 17)], (0, 9, 18, 62), [], rfl, by decide, by decide, by decide, by decide, rfl, by decide +kernel, Or.inr ⟨3, rfl, by decide +kernel, rfl⟩⟩, w1⟩) (fun v h => by cases h)
  refine mct_ofH rfl hwL_share (MFok 307 (by decide +kernel)) (fun _ => Nat.le_of_ble_eq_true rfl) ?_
  refine segG_wkh (b := (some (aI 3), (σ1, 0 + mC 146, 0 + mS 146))) rwL_share w0 (cut := cuC 4 (cuQ [(0, aR 2), (1, aI x1), (2, aR 120)] [aI x1, aR 2, aI 0, aR 120] (σ, 0, 0) (some (aI 3), (σ1, 0 + mC 146, 0 + mS 146))) cuN) ?_ 1000 0 _ _ (σ, 0, 0) cuQ_t
  exact ct_C (fun lc st s1 h => by
    obtain ⟨rfl, rfl, rfl⟩ := cuQ_of h
    exact w2) ct_N
def csL_blocks : List (Nat × List (Nat × ARow)) := [(100000, [(0, 1, .aload_n 1, 0, 0, 0), (1, 1, .iconst 0, 0, 0, 0), (2, 1, .aload_n 0, 0, 0, 0), (3, 3, .invokevirtual 121, 147, 1, 11), (6, 1, .i2l, 0, 0, 0), (7, 1, .lastore, 0, 0, 0), (8, 3, .goto 9, 17, 0, 0), (11, 1, .astore_n 2, 0, 0, 0), (12, 1, .iconst 1, 0, 0, 0), (13, 1, .ireturn, 0, 0, 0), (14, 1, .astore_n 2, 0, 0, 0), (15, 1, .iconst 2, 0, 0, 0), (16, 1, .ireturn, 0, 0, 0), (17, 1, .iconst 0, 0, 0, 0), (18, 1, .ireturn, 0, 0, 0)])]
theorem rwL_blocks : rowsB (mB 308) (mO 308) (mX 308) (mIni 308) (mFr 308) (mLo 308) (mT 308) csL_blocks = true := by decide +kernel
def hhL_blocks : List (Nat × Nat × Nat × Nat) := [(0, 8, 11, 17), (0, 8, 14, 62)]
set_option maxRecDepth 100000 in
theorem hwL_blocks : Cond.codeWith (mY 308) (mB 308) (mX 308) (mT 308) hhL_blocks ∈ WG := wg6 (i := 126) rfl rfl
theorem hL_blocks_0 {σ : SG} {y : Int} {r : Nat → Int → Nat} {i j : Nat → Int → Int} {d : Nat → Int → UInt64} (h2 : 121 ≤ σ.1) (hM : MCT 147 [] (aR 2 :: []) σ (.inl (some (aI y))) (121, r, i, j, d)) : MCT 308 hhL_blocks [aR 2, aR 120] σ (.inl (some (aI 0))) (uJ (121, r, i, j, d) 120 0 y) := by
  have w0 : 0 + mC 147 ≤ mC 308 ∧ 0 + mS 147 ≤ mS 308 := by decide +kernel
  have w1 : WKH 308 hhL_blocks (.inl (some (aI 0))) σ (uJ (121, r, i, j, d) 120 0 y) 6 [(0, aR 2), (1, aR 120)] [aI y, aI 0, aR 120] (121, r, i, j, d) (0 + mC 147) (0 + mS 147) := segG_wkh (b := (some (aI 0), (uJ (121, r, i, j, d) 120 0 y, 0 + mC 147, 0 + mS 147))) rwL_blocks w0 ct_N 1000 6 [(0, aR 2), (1, aR 120)] [aI y, aI 0, aR 120] ((121, r, i, j, d), 0 + mC 147, 0 + mS 147) rfl
  have w2 := callV_wkh (cells := 0) (slots := 0) (n := 308) (m := 147) (hh := hhL_blocks) (as := []) (rest := [aI 0, aR 120]) (lc := [(0, aR 2), (1, aR 120)]) (pc := 3) (idx := 121) rfl (by decide +kernel) (by decide +kernel) (by decide +kernel) rfl ⟨by decide, by omega⟩ (by decide +kernel) (by decide +kernel) (by decide +kernel) hM w0 (fun x h => by cases h) (fun v h => by cases h; exact w1)
  refine mct_ofH rfl hwL_blocks (MFok 308 (by decide +kernel)) (fun _ => Nat.le_of_ble_eq_true rfl) ?_
  refine segG_wkh (b := (some (aI 0), (uJ (121, r, i, j, d) 120 0 y, 0 + mC 147, 0 + mS 147))) rwL_blocks w0 (cut := cuC 3 (cuQ [(0, aR 2), (1, aR 120)] [aR 2, aI 0, aR 120] (σ, 0, 0) (some (aI 0), (uJ (121, r, i, j, d) 120 0 y, 0 + mC 147, 0 + mS 147))) cuN) ?_ 1000 0 _ _ (σ, 0, 0) cuQ_t
  exact ct_C (fun lc st s1 h => by
    obtain ⟨rfl, rfl, rfl⟩ := cuQ_of h
    exact w2) ct_N
theorem hL_blocks_1 {σ σ1 : SG} (h2 : 121 ≤ σ.1) (hM : MCT 147 [] (aR 2 :: []) σ (.inr 2) σ1) : MCT 308 hhL_blocks [aR 2, aR 120] σ (.inl (some (aI 1))) σ1 := by
  have w0 : 0 + mC 147 ≤ mC 308 ∧ 0 + mS 147 ≤ mS 308 := by decide +kernel
  have w1 : WKH 308 hhL_blocks (.inl (some (aI 1))) σ σ1 12 (delL 2 [(0, aR 2), (1, aR 120)]) [] σ1 (0 + mC 147) (0 + mS 147) := segG_wkh (b := (some (aI 1), (σ1, 0 + mC 147, 0 + mS 147))) rwL_blocks w0 ct_N 1000 12 (delL 2 [(0, aR 2), (1, aR 120)]) [] (σ1, 0 + mC 147, 0 + mS 147) rfl
  have w2 := callV_wkh (cells := 0) (slots := 0) (n := 308) (m := 147) (hh := hhL_blocks) (as := []) (rest := [aI 0, aR 120]) (lc := [(0, aR 2), (1, aR 120)]) (pc := 3) (idx := 121) rfl (by decide +kernel) (by decide +kernel) (by decide +kernel) rfl ⟨by decide, by omega⟩ (by decide +kernel) (by decide +kernel) (by decide +kernel) hM w0 (fun x h => by cases h; exact ⟨(12, 2), ⟨[], (0, 8, 11, 17), [(0, 8, 14, 62)], rfl, by decide, by decide, by decide, by decide, rfl, by decide +kernel, Or.inr ⟨2, rfl, by decide +kernel, rfl⟩⟩, w1⟩) (fun v h => by cases h)
  refine mct_ofH rfl hwL_blocks (MFok 308 (by decide +kernel)) (fun _ => Nat.le_of_ble_eq_true rfl) ?_
  refine segG_wkh (b := (some (aI 1), (σ1, 0 + mC 147, 0 + mS 147))) rwL_blocks w0 (cut := cuC 3 (cuQ [(0, aR 2), (1, aR 120)] [aR 2, aI 0, aR 120] (σ, 0, 0) (some (aI 1), (σ1, 0 + mC 147, 0 + mS 147))) cuN) ?_ 1000 0 _ _ (σ, 0, 0) cuQ_t
  exact ct_C (fun lc st s1 h => by
    obtain ⟨rfl, rfl, rfl⟩ := cuQ_of h
    exact w2) ct_N
theorem hL_blocks_2 {σ σ1 : SG} (h2 : 121 ≤ σ.1) (hM : MCT 147 [] (aR 2 :: []) σ (.inr 3) σ1) : MCT 308 hhL_blocks [aR 2, aR 120] σ (.inl (some (aI 2))) σ1 := by
  have w0 : 0 + mC 147 ≤ mC 308 ∧ 0 + mS 147 ≤ mS 308 := by decide +kernel
  have w1 : WKH 308 hhL_blocks (.inl (some (aI 2))) σ σ1 15 (delL 2 [(0, aR 2), (1, aR 120)]) [] σ1 (0 + mC 147) (0 + mS 147) := segG_wkh (b := (some (aI 2), (σ1, 0 + mC 147, 0 + mS 147))) rwL_blocks w0 ct_N 1000 15 (delL 2 [(0, aR 2), (1, aR 120)]) [] (σ1, 0 + mC 147, 0 + mS 147) rfl
  have w2 := callV_wkh (cells := 0) (slots := 0) (n := 308) (m := 147) (hh := hhL_blocks) (as := []) (rest := [aI 0, aR 120]) (lc := [(0, aR 2), (1, aR 120)]) (pc := 3) (idx := 121) rfl (by decide +kernel) (by decide +kernel) (by decide +kernel) rfl ⟨by decide, by omega⟩ (by decide +kernel) (by decide +kernel) (by decide +kernel) hM w0 (fun x h => by cases h; exact ⟨(15, 2), ⟨[(0, 8, 11, 17)], (0, 8, 14, 62), [], rfl, by decide, by decide, by decide, by decide, rfl, by decide +kernel, Or.inr ⟨2, rfl, by decide +kernel, rfl⟩⟩, w1⟩) (fun v h => by cases h)
  refine mct_ofH rfl hwL_blocks (MFok 308 (by decide +kernel)) (fun _ => Nat.le_of_ble_eq_true rfl) ?_
  refine segG_wkh (b := (some (aI 2), (σ1, 0 + mC 147, 0 + mS 147))) rwL_blocks w0 (cut := cuC 3 (cuQ [(0, aR 2), (1, aR 120)] [aR 2, aI 0, aR 120] (σ, 0, 0) (some (aI 2), (σ1, 0 + mC 147, 0 + mS 147))) cuN) ?_ 1000 0 _ _ (σ, 0, 0) cuQ_t
  exact ct_C (fun lc st s1 h => by
    obtain ⟨rfl, rfl, rfl⟩ := cuQ_of h
    exact w2) ct_N
def csL_rates : List (Nat × List (Nat × ARow)) := [(100000, [(0, 1, .aload_n 3, 0, 0, 0), (1, 1, .iconst 0, 0, 0, 0), (2, 1, .aload_n 0, 0, 0, 0), (3, 1, .iload_n 1, 0, 0, 0), (4, 1, .iload_n 2, 0, 0, 0), (5, 3, .invokevirtual 124, 148, 3, 11), (8, 1, .i2l, 0, 0, 0), (9, 1, .lastore, 0, 0, 0), (10, 3, .goto 7, 17, 0, 0), (13, 2, .astore 4, 0, 0, 0), (15, 1, .iconst 1, 0, 0, 0), (16, 1, .ireturn, 0, 0, 0), (17, 1, .iconst 0, 0, 0, 0), (18, 1, .ireturn, 0, 0, 0)])]
theorem rwL_rates : rowsB (mB 309) (mO 309) (mX 309) (mIni 309) (mFr 309) (mLo 309) (mT 309) csL_rates = true := by decide +kernel
def hhL_rates : List (Nat × Nat × Nat × Nat) := [(0, 10, 13, 15)]
set_option maxRecDepth 100000 in
theorem hwL_rates : Cond.codeWith (mY 309) (mB 309) (mX 309) (mT 309) hhL_rates ∈ WG := wg6 (i := 137) rfl rfl
theorem hL_rates_0 {σ : SG} {x1 x2 : Int} {y : Int} {r : Nat → Int → Nat} {i j : Nat → Int → Int} {d : Nat → Int → UInt64} (h2 : 121 ≤ σ.1) (hM : MCT 148 [] (aR 2 :: [aI x1, aI x2]) σ (.inl (some (aI y))) (121, r, i, j, d)) : MCT 309 hhL_rates [aR 2, aI x1, aI x2, aR 120] σ (.inl (some (aI 0))) (uJ (121, r, i, j, d) 120 0 y) := by
  have w0 : 0 + mC 148 ≤ mC 309 ∧ 0 + mS 148 ≤ mS 309 := by decide +kernel
  have w1 : WKH 309 hhL_rates (.inl (some (aI 0))) σ (uJ (121, r, i, j, d) 120 0 y) 8 [(0, aR 2), (1, aI x1), (2, aI x2), (3, aR 120)] [aI y, aI 0, aR 120] (121, r, i, j, d) (0 + mC 148) (0 + mS 148) := segG_wkh (b := (some (aI 0), (uJ (121, r, i, j, d) 120 0 y, 0 + mC 148, 0 + mS 148))) rwL_rates w0 ct_N 1000 8 [(0, aR 2), (1, aI x1), (2, aI x2), (3, aR 120)] [aI y, aI 0, aR 120] ((121, r, i, j, d), 0 + mC 148, 0 + mS 148) rfl
  have w2 := callV_wkh (cells := 0) (slots := 0) (n := 309) (m := 148) (hh := hhL_rates) (as := [aI x1, aI x2]) (rest := [aI 0, aR 120]) (lc := [(0, aR 2), (1, aI x1), (2, aI x2), (3, aR 120)]) (pc := 5) (idx := 124) rfl (by decide +kernel) (by decide +kernel) (by decide +kernel) rfl ⟨by decide, by omega⟩ (by decide +kernel) (by decide +kernel) (by decide +kernel) hM w0 (fun x h => by cases h) (fun v h => by cases h; exact w1)
  refine mct_ofH rfl hwL_rates (MFok 309 (by decide +kernel)) (fun _ => Nat.le_of_ble_eq_true rfl) ?_
  refine segG_wkh (b := (some (aI 0), (uJ (121, r, i, j, d) 120 0 y, 0 + mC 148, 0 + mS 148))) rwL_rates w0 (cut := cuC 5 (cuQ [(0, aR 2), (1, aI x1), (2, aI x2), (3, aR 120)] [aI x2, aI x1, aR 2, aI 0, aR 120] (σ, 0, 0) (some (aI 0), (uJ (121, r, i, j, d) 120 0 y, 0 + mC 148, 0 + mS 148))) cuN) ?_ 1000 0 _ _ (σ, 0, 0) cuQ_t
  exact ct_C (fun lc st s1 h => by
    obtain ⟨rfl, rfl, rfl⟩ := cuQ_of h
    exact w2) ct_N
theorem hL_rates_1 {σ σ1 : SG} {x1 x2 : Int} (h2 : 121 ≤ σ.1) (hM : MCT 148 [] (aR 2 :: [aI x1, aI x2]) σ (.inr 1) σ1) : MCT 309 hhL_rates [aR 2, aI x1, aI x2, aR 120] σ (.inl (some (aI 1))) σ1 := by
  have w0 : 0 + mC 148 ≤ mC 309 ∧ 0 + mS 148 ≤ mS 309 := by decide +kernel
  have w1 : WKH 309 hhL_rates (.inl (some (aI 1))) σ σ1 15 (delL 4 [(0, aR 2), (1, aI x1), (2, aI x2), (3, aR 120)]) [] σ1 (0 + mC 148) (0 + mS 148) := segG_wkh (b := (some (aI 1), (σ1, 0 + mC 148, 0 + mS 148))) rwL_rates w0 ct_N 1000 15 (delL 4 [(0, aR 2), (1, aI x1), (2, aI x2), (3, aR 120)]) [] (σ1, 0 + mC 148, 0 + mS 148) rfl
  have w2 := callV_wkh (cells := 0) (slots := 0) (n := 309) (m := 148) (hh := hhL_rates) (as := [aI x1, aI x2]) (rest := [aI 0, aR 120]) (lc := [(0, aR 2), (1, aI x1), (2, aI x2), (3, aR 120)]) (pc := 5) (idx := 124) rfl (by decide +kernel) (by decide +kernel) (by decide +kernel) rfl ⟨by decide, by omega⟩ (by decide +kernel) (by decide +kernel) (by decide +kernel) hM w0 (fun x h => by cases h; exact ⟨(15, 4), ⟨[], (0, 10, 13, 15), [], rfl, by decide, by decide, by decide, by decide, rfl, by decide +kernel, Or.inl ⟨by decide +kernel, rfl⟩⟩, w1⟩) (fun v h => by cases h)
  refine mct_ofH rfl hwL_rates (MFok 309 (by decide +kernel)) (fun _ => Nat.le_of_ble_eq_true rfl) ?_
  refine segG_wkh (b := (some (aI 1), (σ1, 0 + mC 148, 0 + mS 148))) rwL_rates w0 (cut := cuC 5 (cuQ [(0, aR 2), (1, aI x1), (2, aI x2), (3, aR 120)] [aI x2, aI x1, aR 2, aI 0, aR 120] (σ, 0, 0) (some (aI 1), (σ1, 0 + mC 148, 0 + mS 148))) cuN) ?_ 1000 0 _ _ (σ, 0, 0) cuQ_t
  exact ct_C (fun lc st s1 h => by
    obtain ⟨rfl, rfl, rfl⟩ := cuQ_of h
    exact w2) ct_N
def csL_pay : List (Nat × List (Nat × ARow)) := [(100000, [(0, 1, .aload_n 3, 0, 0, 0), (1, 1, .iconst 0, 0, 0, 0), (2, 1, .aload_n 0, 0, 0, 0), (3, 1, .iload_n 1, 0, 0, 0), (4, 1, .iload_n 2, 0, 0, 0), (5, 3, .invokevirtual 127, 149, 3, 11), (8, 1, .lastore, 0, 0, 0), (9, 3, .goto 11, 20, 0, 0), (12, 2, .astore 4, 0, 0, 0), (14, 1, .iconst 1, 0, 0, 0), (15, 1, .ireturn, 0, 0, 0), (16, 2, .astore 4, 0, 0, 0), (18, 1, .iconst 2, 0, 0, 0), (19, 1, .ireturn, 0, 0, 0), (20, 1, .iconst 0, 0, 0, 0), (21, 1, .ireturn, 0, 0, 0)])]
theorem rwL_pay : rowsB (mB 310) (mO 310) (mX 310) (mIni 310) (mFr 310) (mLo 310) (mT 310) csL_pay = true := by decide +kernel
def hhL_pay : List (Nat × Nat × Nat × Nat) := [(0, 9, 12, 15), (0, 9, 16, 17)]
set_option maxRecDepth 100000 in
theorem hwL_pay : Cond.codeWith (mY 310) (mB 310) (mX 310) (mT 310) hhL_pay ∈ WG := wg6 (i := 144) rfl rfl
theorem hL_pay_0 {σ : SG} {x1 x2 : Int} {y : Int} {r : Nat → Int → Nat} {i j : Nat → Int → Int} {d : Nat → Int → UInt64} (h2 : 121 ≤ σ.1) (hM : MCT 149 [] (aR 2 :: [aI x1, aI x2]) σ (.inl (some (aJ y))) (121, r, i, j, d)) : MCT 310 hhL_pay [aR 2, aI x1, aI x2, aR 120] σ (.inl (some (aI 0))) (uJ (121, r, i, j, d) 120 0 y) := by
  have w0 : 0 + mC 149 ≤ mC 310 ∧ 0 + mS 149 ≤ mS 310 := by decide +kernel
  have w1 : WKH 310 hhL_pay (.inl (some (aI 0))) σ (uJ (121, r, i, j, d) 120 0 y) 8 [(0, aR 2), (1, aI x1), (2, aI x2), (3, aR 120)] [aJ y, aI 0, aR 120] (121, r, i, j, d) (0 + mC 149) (0 + mS 149) := segG_wkh (b := (some (aI 0), (uJ (121, r, i, j, d) 120 0 y, 0 + mC 149, 0 + mS 149))) rwL_pay w0 ct_N 1000 8 [(0, aR 2), (1, aI x1), (2, aI x2), (3, aR 120)] [aJ y, aI 0, aR 120] ((121, r, i, j, d), 0 + mC 149, 0 + mS 149) rfl
  have w2 := callV_wkh (cells := 0) (slots := 0) (n := 310) (m := 149) (hh := hhL_pay) (as := [aI x1, aI x2]) (rest := [aI 0, aR 120]) (lc := [(0, aR 2), (1, aI x1), (2, aI x2), (3, aR 120)]) (pc := 5) (idx := 127) rfl (by decide +kernel) (by decide +kernel) (by decide +kernel) rfl ⟨by decide, by omega⟩ (by decide +kernel) (by decide +kernel) (by decide +kernel) hM w0 (fun x h => by cases h) (fun v h => by cases h; exact w1)
  refine mct_ofH rfl hwL_pay (MFok 310 (by decide +kernel)) (fun _ => Nat.le_of_ble_eq_true rfl) ?_
  refine segG_wkh (b := (some (aI 0), (uJ (121, r, i, j, d) 120 0 y, 0 + mC 149, 0 + mS 149))) rwL_pay w0 (cut := cuC 5 (cuQ [(0, aR 2), (1, aI x1), (2, aI x2), (3, aR 120)] [aI x2, aI x1, aR 2, aI 0, aR 120] (σ, 0, 0) (some (aI 0), (uJ (121, r, i, j, d) 120 0 y, 0 + mC 149, 0 + mS 149))) cuN) ?_ 1000 0 _ _ (σ, 0, 0) cuQ_t
  exact ct_C (fun lc st s1 h => by
    obtain ⟨rfl, rfl, rfl⟩ := cuQ_of h
    exact w2) ct_N
theorem hL_pay_1 {σ σ1 : SG} {x1 x2 : Int} (h2 : 121 ≤ σ.1) (hM : MCT 149 [] (aR 2 :: [aI x1, aI x2]) σ (.inr 1) σ1) : MCT 310 hhL_pay [aR 2, aI x1, aI x2, aR 120] σ (.inl (some (aI 1))) σ1 := by
  have w0 : 0 + mC 149 ≤ mC 310 ∧ 0 + mS 149 ≤ mS 310 := by decide +kernel
  have w1 : WKH 310 hhL_pay (.inl (some (aI 1))) σ σ1 14 (delL 4 [(0, aR 2), (1, aI x1), (2, aI x2), (3, aR 120)]) [] σ1 (0 + mC 149) (0 + mS 149) := segG_wkh (b := (some (aI 1), (σ1, 0 + mC 149, 0 + mS 149))) rwL_pay w0 ct_N 1000 14 (delL 4 [(0, aR 2), (1, aI x1), (2, aI x2), (3, aR 120)]) [] (σ1, 0 + mC 149, 0 + mS 149) rfl
  have w2 := callV_wkh (cells := 0) (slots := 0) (n := 310) (m := 149) (hh := hhL_pay) (as := [aI x1, aI x2]) (rest := [aI 0, aR 120]) (lc := [(0, aR 2), (1, aI x1), (2, aI x2), (3, aR 120)]) (pc := 5) (idx := 127) rfl (by decide +kernel) (by decide +kernel) (by decide +kernel) rfl ⟨by decide, by omega⟩ (by decide +kernel) (by decide +kernel) (by decide +kernel) hM w0 (fun x h => by cases h; exact ⟨(14, 4), ⟨[], (0, 9, 12, 15), [(0, 9, 16, 17)], rfl, by decide, by decide, by decide, by decide, rfl, by decide +kernel, Or.inl ⟨by decide +kernel, rfl⟩⟩, w1⟩) (fun v h => by cases h)
  refine mct_ofH rfl hwL_pay (MFok 310 (by decide +kernel)) (fun _ => Nat.le_of_ble_eq_true rfl) ?_
  refine segG_wkh (b := (some (aI 1), (σ1, 0 + mC 149, 0 + mS 149))) rwL_pay w0 (cut := cuC 5 (cuQ [(0, aR 2), (1, aI x1), (2, aI x2), (3, aR 120)] [aI x2, aI x1, aR 2, aI 0, aR 120] (σ, 0, 0) (some (aI 1), (σ1, 0 + mC 149, 0 + mS 149))) cuN) ?_ 1000 0 _ _ (σ, 0, 0) cuQ_t
  exact ct_C (fun lc st s1 h => by
    obtain ⟨rfl, rfl, rfl⟩ := cuQ_of h
    exact w2) ct_N
theorem hL_pay_2 {σ σ1 : SG} {x1 x2 : Int} (h2 : 121 ≤ σ.1) (hM : MCT 149 [] (aR 2 :: [aI x1, aI x2]) σ (.inr 2) σ1) : MCT 310 hhL_pay [aR 2, aI x1, aI x2, aR 120] σ (.inl (some (aI 2))) σ1 := by
  have w0 : 0 + mC 149 ≤ mC 310 ∧ 0 + mS 149 ≤ mS 310 := by decide +kernel
  have w1 : WKH 310 hhL_pay (.inl (some (aI 2))) σ σ1 18 (delL 4 [(0, aR 2), (1, aI x1), (2, aI x2), (3, aR 120)]) [] σ1 (0 + mC 149) (0 + mS 149) := segG_wkh (b := (some (aI 2), (σ1, 0 + mC 149, 0 + mS 149))) rwL_pay w0 ct_N 1000 18 (delL 4 [(0, aR 2), (1, aI x1), (2, aI x2), (3, aR 120)]) [] (σ1, 0 + mC 149, 0 + mS 149) rfl
  have w2 := callV_wkh (cells := 0) (slots := 0) (n := 310) (m := 149) (hh := hhL_pay) (as := [aI x1, aI x2]) (rest := [aI 0, aR 120]) (lc := [(0, aR 2), (1, aI x1), (2, aI x2), (3, aR 120)]) (pc := 5) (idx := 127) rfl (by decide +kernel) (by decide +kernel) (by decide +kernel) rfl ⟨by decide, by omega⟩ (by decide +kernel) (by decide +kernel) (by decide +kernel) hM w0 (fun x h => by cases h; exact ⟨(18, 4), ⟨[(0, 9, 12, 15)], (0, 9, 16, 17), [], rfl, by decide, by decide, by decide, by decide, rfl, by decide +kernel, Or.inl ⟨by decide +kernel, rfl⟩⟩, w1⟩) (fun v h => by cases h)
  refine mct_ofH rfl hwL_pay (MFok 310 (by decide +kernel)) (fun _ => Nat.le_of_ble_eq_true rfl) ?_
  refine segG_wkh (b := (some (aI 2), (σ1, 0 + mC 149, 0 + mS 149))) rwL_pay w0 (cut := cuC 5 (cuQ [(0, aR 2), (1, aI x1), (2, aI x2), (3, aR 120)] [aI x2, aI x1, aR 2, aI 0, aR 120] (σ, 0, 0) (some (aI 2), (σ1, 0 + mC 149, 0 + mS 149))) cuN) ?_ 1000 0 _ _ (σ, 0, 0) cuQ_t
  exact ct_C (fun lc st s1 h => by
    obtain ⟨rfl, rfl, rfl⟩ := cuQ_of h
    exact w2) ct_N
def csL_books : List (Nat × List (Nat × ARow)) := [(100000, [(0, 1, .aload_n 2, 0, 0, 0), (1, 1, .iconst 0, 0, 0, 0), (2, 1, .aload_n 0, 0, 0, 0), (3, 1, .iload_n 1, 0, 0, 0), (4, 3, .invokevirtual 131, 150, 2, 11), (7, 1, .lastore, 0, 0, 0), (8, 3, .goto 6, 14, 0, 0), (11, 1, .astore_n 3, 0, 0, 0), (12, 1, .iconst 1, 0, 0, 0), (13, 1, .ireturn, 0, 0, 0), (14, 1, .iconst 0, 0, 0, 0), (15, 1, .ireturn, 0, 0, 0)])]
theorem rwL_books : rowsB (mB 311) (mO 311) (mX 311) (mIni 311) (mFr 311) (mLo 311) (mT 311) csL_books = true := by decide +kernel
def hhL_books : List (Nat × Nat × Nat × Nat) := [(0, 8, 11, 62)]
set_option maxRecDepth 100000 in
theorem hwL_books : Cond.codeWith (mY 311) (mB 311) (mX 311) (mT 311) hhL_books ∈ WG := wg6 (i := 159) rfl rfl
theorem hL_books_0 {σ : SG} {x1 : Int} {y : Int} {r : Nat → Int → Nat} {i j : Nat → Int → Int} {d : Nat → Int → UInt64} (h2 : 121 ≤ σ.1) (hM : MCT 150 [] (aR 2 :: [aI x1]) σ (.inl (some (aJ y))) (121, r, i, j, d)) : MCT 311 hhL_books [aR 2, aI x1, aR 120] σ (.inl (some (aI 0))) (uJ (121, r, i, j, d) 120 0 y) := by
  have w0 : 0 + mC 150 ≤ mC 311 ∧ 0 + mS 150 ≤ mS 311 := by decide +kernel
  have w1 : WKH 311 hhL_books (.inl (some (aI 0))) σ (uJ (121, r, i, j, d) 120 0 y) 7 [(0, aR 2), (1, aI x1), (2, aR 120)] [aJ y, aI 0, aR 120] (121, r, i, j, d) (0 + mC 150) (0 + mS 150) := segG_wkh (b := (some (aI 0), (uJ (121, r, i, j, d) 120 0 y, 0 + mC 150, 0 + mS 150))) rwL_books w0 ct_N 1000 7 [(0, aR 2), (1, aI x1), (2, aR 120)] [aJ y, aI 0, aR 120] ((121, r, i, j, d), 0 + mC 150, 0 + mS 150) rfl
  have w2 := callV_wkh (cells := 0) (slots := 0) (n := 311) (m := 150) (hh := hhL_books) (as := [aI x1]) (rest := [aI 0, aR 120]) (lc := [(0, aR 2), (1, aI x1), (2, aR 120)]) (pc := 4) (idx := 131) rfl (by decide +kernel) (by decide +kernel) (by decide +kernel) rfl ⟨by decide, by omega⟩ (by decide +kernel) (by decide +kernel) (by decide +kernel) hM w0 (fun x h => by cases h) (fun v h => by cases h; exact w1)
  refine mct_ofH rfl hwL_books (MFok 311 (by decide +kernel)) (fun _ => Nat.le_of_ble_eq_true rfl) ?_
  refine segG_wkh (b := (some (aI 0), (uJ (121, r, i, j, d) 120 0 y, 0 + mC 150, 0 + mS 150))) rwL_books w0 (cut := cuC 4 (cuQ [(0, aR 2), (1, aI x1), (2, aR 120)] [aI x1, aR 2, aI 0, aR 120] (σ, 0, 0) (some (aI 0), (uJ (121, r, i, j, d) 120 0 y, 0 + mC 150, 0 + mS 150))) cuN) ?_ 1000 0 _ _ (σ, 0, 0) cuQ_t
  exact ct_C (fun lc st s1 h => by
    obtain ⟨rfl, rfl, rfl⟩ := cuQ_of h
    exact w2) ct_N
theorem hL_books_1 {σ σ1 : SG} {x1 : Int} (h2 : 121 ≤ σ.1) (hM : MCT 150 [] (aR 2 :: [aI x1]) σ (.inr 3) σ1) : MCT 311 hhL_books [aR 2, aI x1, aR 120] σ (.inl (some (aI 1))) σ1 := by
  have w0 : 0 + mC 150 ≤ mC 311 ∧ 0 + mS 150 ≤ mS 311 := by decide +kernel
  have w1 : WKH 311 hhL_books (.inl (some (aI 1))) σ σ1 12 (delL 3 [(0, aR 2), (1, aI x1), (2, aR 120)]) [] σ1 (0 + mC 150) (0 + mS 150) := segG_wkh (b := (some (aI 1), (σ1, 0 + mC 150, 0 + mS 150))) rwL_books w0 ct_N 1000 12 (delL 3 [(0, aR 2), (1, aI x1), (2, aR 120)]) [] (σ1, 0 + mC 150, 0 + mS 150) rfl
  have w2 := callV_wkh (cells := 0) (slots := 0) (n := 311) (m := 150) (hh := hhL_books) (as := [aI x1]) (rest := [aI 0, aR 120]) (lc := [(0, aR 2), (1, aI x1), (2, aR 120)]) (pc := 4) (idx := 131) rfl (by decide +kernel) (by decide +kernel) (by decide +kernel) rfl ⟨by decide, by omega⟩ (by decide +kernel) (by decide +kernel) (by decide +kernel) hM w0 (fun x h => by cases h; exact ⟨(12, 3), ⟨[], (0, 8, 11, 62), [], rfl, by decide, by decide, by decide, by decide, rfl, by decide +kernel, Or.inr ⟨3, rfl, by decide +kernel, rfl⟩⟩, w1⟩) (fun v h => by cases h)
  refine mct_ofH rfl hwL_books (MFok 311 (by decide +kernel)) (fun _ => Nat.le_of_ble_eq_true rfl) ?_
  refine segG_wkh (b := (some (aI 1), (σ1, 0 + mC 150, 0 + mS 150))) rwL_books w0 (cut := cuC 4 (cuQ [(0, aR 2), (1, aI x1), (2, aR 120)] [aI x1, aR 2, aI 0, aR 120] (σ, 0, 0) (some (aI 1), (σ1, 0 + mC 150, 0 + mS 150))) cuN) ?_ 1000 0 _ _ (σ, 0, 0) cuQ_t
  exact ct_C (fun lc st s1 h => by
    obtain ⟨rfl, rfl, rfl⟩ := cuQ_of h
    exact w2) ct_N
def csL_filled : List (Nat × List (Nat × ARow)) := [(100000, [(0, 1, .aload_n 2, 0, 0, 0), (1, 1, .iconst 0, 0, 0, 0), (2, 1, .aload_n 0, 0, 0, 0), (3, 1, .iload_n 1, 0, 0, 0), (4, 3, .invokevirtual 135, 152, 2, 11), (7, 1, .f2d, 0, 0, 0), (8, 1, .dastore, 0, 0, 0), (9, 3, .goto 6, 15, 0, 0), (12, 1, .astore_n 3, 0, 0, 0), (13, 1, .iconst 1, 0, 0, 0), (14, 1, .ireturn, 0, 0, 0), (15, 1, .iconst 0, 0, 0, 0), (16, 1, .ireturn, 0, 0, 0)])]
theorem rwL_filled : rowsB (mB 312) (mO 312) (mX 312) (mIni 312) (mFr 312) (mLo 312) (mT 312) csL_filled = true := by decide +kernel
def hhL_filled : List (Nat × Nat × Nat × Nat) := [(0, 9, 12, 13)]
set_option maxRecDepth 100000 in
theorem hwL_filled : Cond.codeWith (mY 312) (mB 312) (mX 312) (mT 312) hhL_filled ∈ WG := wg6 (i := 166) rfl rfl
theorem hL_filled_0 {σ : SG} {x1 : Int} {y : UInt32} {r : Nat → Int → Nat} {i j : Nat → Int → Int} {d : Nat → Int → UInt64} (h2 : 121 ≤ σ.1) (hn : n64 (FP.f2d y)) (hM : MCT 152 [] (aR 2 :: [aI x1]) σ (.inl (some (aF y))) (121, r, i, j, d)) : MCT 312 hhL_filled [aR 2, aI x1, aR 121] σ (.inl (some (aI 0))) (uD (121, r, i, j, d) 121 0 (FP.f2d y)) := by
  have w0 : 0 + mC 152 ≤ mC 312 ∧ 0 + mS 152 ≤ mS 312 := by decide +kernel
  have w1 : WKH 312 hhL_filled (.inl (some (aI 0))) σ (uD (121, r, i, j, d) 121 0 (FP.f2d y)) 7 [(0, aR 2), (1, aI x1), (2, aR 121)] [aF y, aI 0, aR 121] (121, r, i, j, d) (0 + mC 152) (0 + mS 152) := segG_wkh (b := (some (aI 0), (uD (121, r, i, j, d) 121 0 (FP.f2d y), 0 + mC 152, 0 + mS 152))) rwL_filled w0 ct_N 1000 7 [(0, aR 2), (1, aI x1), (2, aR 121)] [aF y, aI 0, aR 121] ((121, r, i, j, d), 0 + mC 152, 0 + mS 152) (gd_t hn)
  have w2 := callV_wkh (cells := 0) (slots := 0) (n := 312) (m := 152) (hh := hhL_filled) (as := [aI x1]) (rest := [aI 0, aR 121]) (lc := [(0, aR 2), (1, aI x1), (2, aR 121)]) (pc := 4) (idx := 135) rfl (by decide +kernel) (by decide +kernel) (by decide +kernel) rfl ⟨by decide, by omega⟩ (by decide +kernel) (by decide +kernel) (by decide +kernel) hM w0 (fun x h => by cases h) (fun v h => by cases h; exact w1)
  refine mct_ofH rfl hwL_filled (MFok 312 (by decide +kernel)) (fun _ => Nat.le_of_ble_eq_true rfl) ?_
  refine segG_wkh (b := (some (aI 0), (uD (121, r, i, j, d) 121 0 (FP.f2d y), 0 + mC 152, 0 + mS 152))) rwL_filled w0 (cut := cuC 4 (cuQ [(0, aR 2), (1, aI x1), (2, aR 121)] [aI x1, aR 2, aI 0, aR 121] (σ, 0, 0) (some (aI 0), (uD (121, r, i, j, d) 121 0 (FP.f2d y), 0 + mC 152, 0 + mS 152))) cuN) ?_ 1000 0 _ _ (σ, 0, 0) cuQ_t
  exact ct_C (fun lc st s1 h => by
    obtain ⟨rfl, rfl, rfl⟩ := cuQ_of h
    exact w2) ct_N
theorem hL_filled_1 {σ σ1 : SG} {x1 : Int} (h2 : 121 ≤ σ.1) (hM : MCT 152 [] (aR 2 :: [aI x1]) σ (.inr 0) σ1) : MCT 312 hhL_filled [aR 2, aI x1, aR 121] σ (.inl (some (aI 1))) σ1 := by
  have w0 : 0 + mC 152 ≤ mC 312 ∧ 0 + mS 152 ≤ mS 312 := by decide +kernel
  have w1 : WKH 312 hhL_filled (.inl (some (aI 1))) σ σ1 13 (delL 3 [(0, aR 2), (1, aI x1), (2, aR 121)]) [] σ1 (0 + mC 152) (0 + mS 152) := segG_wkh (b := (some (aI 1), (σ1, 0 + mC 152, 0 + mS 152))) rwL_filled w0 ct_N 1000 13 (delL 3 [(0, aR 2), (1, aI x1), (2, aR 121)]) [] (σ1, 0 + mC 152, 0 + mS 152) rfl
  have w2 := callV_wkh (cells := 0) (slots := 0) (n := 312) (m := 152) (hh := hhL_filled) (as := [aI x1]) (rest := [aI 0, aR 121]) (lc := [(0, aR 2), (1, aI x1), (2, aR 121)]) (pc := 4) (idx := 135) rfl (by decide +kernel) (by decide +kernel) (by decide +kernel) rfl ⟨by decide, by omega⟩ (by decide +kernel) (by decide +kernel) (by decide +kernel) hM w0 (fun x h => by cases h; exact ⟨(13, 3), ⟨[], (0, 9, 12, 13), [], rfl, by decide, by decide, by decide, by decide, rfl, by decide +kernel, Or.inr ⟨3, rfl, by decide +kernel, rfl⟩⟩, w1⟩) (fun v h => by cases h)
  refine mct_ofH rfl hwL_filled (MFok 312 (by decide +kernel)) (fun _ => Nat.le_of_ble_eq_true rfl) ?_
  refine segG_wkh (b := (some (aI 1), (σ1, 0 + mC 152, 0 + mS 152))) rwL_filled w0 (cut := cuC 4 (cuQ [(0, aR 2), (1, aI x1), (2, aR 121)] [aI x1, aR 2, aI 0, aR 121] (σ, 0, 0) (some (aI 1), (σ1, 0 + mC 152, 0 + mS 152))) cuN) ?_ 1000 0 _ _ (σ, 0, 0) cuQ_t
  exact ct_C (fun lc st s1 h => by
    obtain ⟨rfl, rfl, rfl⟩ := cuQ_of h
    exact w2) ct_N
