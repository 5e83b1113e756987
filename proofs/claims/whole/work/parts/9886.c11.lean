/-! CONSTRUCTORS: the class -/
theorem up2_id {α : Type} {f : Nat → Int → α} {k : Nat} {i : Int} {x : α} (h : f k i = x) : up2 f k i x = f := by
  funext a b
  by_cases c : a = k ∧ b = i
  · rw [c.1, c.2, up2_same, h]
  · exact if_neg c
def csX11_init_0 : List (Nat × ARow) := [(0, 1, .aload_n 0, 0, 0, 0), (1, 3, .invokespecial 3, 1002, 1, 0), (4, 1, .aload_n 0, 0, 0, 0), (5, 3, .new 9, 9, 0, 0), (8, 1, .dup, 0, 0, 0), (9, 3, .invokespecial 11, 86, 1, 9), (12, 3, .putfield 12, 11, 0, 2), (15, 1, .aload_n 0, 0, 0, 0), (16, 3, .new 16, 2, 0, 0), (19, 1, .dup, 0, 0, 0), (20, 1, .aload_n 0, 0, 0, 0), (21, 3, .getfield 12, 11, 0, 2), (24, 3, .invokespecial 18, 24, 2, 2), (27, 3, .putfield 21, 11, 1, 2), (30, 1, .aload_n 0, 0, 0, 0), (31, 3, .new 25, 6, 0, 0), (34, 1, .dup, 0, 0, 0), (35, 1, .aload_n 0, 0, 0, 0), (36, 3, .getfield 21, 11, 1, 2), (39, 3, .invokespecial 27, 46, 2, 6), (42, 3, .putfield 30, 11, 2, 2), (45, 1, .aload_n 0, 0, 0, 0), (46, 3, .new 34, 3, 0, 0), (49, 1, .dup, 0, 0, 0), (50, 3, .invokespecial 36, 30, 1, 3), (53, 3, .putfield 37, 11, 3, 2), (56, 1, .aload_n 0, 0, 0, 0), (57, 3, .new 41, 7, 0, 0), (60, 1, .dup, 0, 0, 0), (61, 1, .aload_n 0, 0, 0, 0), (62, 3, .getfield 21, 11, 1, 2), (65, 1, .aload_n 0, 0, 0, 0), (66, 3, .getfield 30, 11, 2, 2), (69, 3, .invokespecial 43, 63, 3, 7), (72, 3, .putfield 46, 11, 4, 2), (75, 1, .aload_n 0, 0, 0, 0), (76, 3, .new 50, 1, 0, 0), (79, 1, .dup, 0, 0, 0), (80, 1, .aload_n 0, 0, 0, 0), (81, 3, .getfield 21, 11, 1, 2)]
def csX11_init_1 : List (Nat × ARow) := [(84, 3, .invokespecial 52, 10, 2, 1), (87, 3, .putfield 53, 11, 5, 2), (90, 1, .aload_n 0, 0, 0, 0), (91, 3, .new 57, 10, 0, 0), (94, 1, .dup, 0, 0, 0), (95, 1, .aload_n 0, 0, 0, 0), (96, 3, .getfield 12, 11, 0, 2), (99, 3, .invokespecial 59, 100, 2, 10), (102, 3, .putfield 60, 11, 6, 2), (105, 1, .aload_n 0, 0, 0, 0), (106, 3, .new 64, 4, 0, 0), (109, 1, .dup, 0, 0, 0), (110, 3, .invokespecial 66, 34, 1, 4), (113, 3, .putfield 67, 11, 7, 2), (116, 1, .aload_n 0, 0, 0, 0), (117, 3, .new 71, 0, 0, 0), (120, 1, .dup, 0, 0, 0), (121, 1, .aload_n 0, 0, 0, 0), (122, 3, .getfield 21, 11, 1, 2), (125, 3, .invokespecial 73, 0, 2, 0), (128, 3, .putfield 74, 11, 8, 2), (131, 1, .aload_n 0, 0, 0, 0), (132, 3, .new 78, 8, 0, 0), (135, 1, .dup, 0, 0, 0), (136, 1, .aload_n 0, 0, 0, 0), (137, 3, .getfield 21, 11, 1, 2), (140, 1, .aload_n 0, 0, 0, 0), (141, 3, .getfield 53, 11, 5, 2), (144, 3, .invokespecial 80, 77, 3, 8), (147, 3, .putfield 83, 11, 9, 2), (150, 1, .aload_n 0, 0, 0, 0), (151, 3, .new 87, 5, 0, 0), (154, 1, .dup, 0, 0, 0), (155, 3, .invokespecial 89, 43, 1, 5), (158, 3, .putfield 90, 11, 10, 2), (161, 1, .aload_n 0, 0, 0, 0), (162, 2, .bipush 9, 0, 0, 0), (164, 2, .newarray .int, 0, 0, 0), (166, 3, .putfield 94, 11, 11, 2), (169, 1, .aload_n 0, 0, 0, 0)]
def csX11_init_2 : List (Nat × ARow) := [(170, 2, .bipush 9, 0, 0, 0), (172, 2, .newarray .int, 0, 0, 0), (174, 3, .putfield 98, 11, 12, 2), (177, 1, .return_, 0, 0, 0)]
def csX11_init : List (Nat × List (Nat × ARow)) := [(84, csX11_init_0), (170, csX11_init_1), (100000, csX11_init_2)]
theorem rwX11_init : rowsB (mB 111) (mO 111) (mX 111) (mIni 111) (mFr 111) (mLo 111) (mT 111) csX11_init = true := by decide +kernel
def wX11_12 (σ : SG) : SG := uR (uN (σ)) 2 12 70
set_option maxRecDepth 100000 in
theorem wkX11_12 {σ σ0 : SG} (h : σ.1 = 69) (f0 : σ.2.1 2 0 = 3) (f1 : σ.2.1 2 1 = 13) (f2 : σ.2.1 2 2 = 26) (f5 : σ.2.1 2 5 = 49) : WK 111 (.inl none) σ0 (wX11_12 σ) 169 [(0, aR 2)] [] σ 67 11982 := by
  obtain ⟨K, r, i, j, d⟩ := σ
  have h : K = 69 := h
  subst h
  have f0 : r 2 0 = 3 := f0
  have f1 : r 2 1 = 13 := f1
  have f2 : r 2 2 = 26 := f2
  have f5 : r 2 5 = 49 := f5
  obtain ⟨rr, hr⟩ : ∃ rr, r = (up2 (up2 (up2 (up2 rr 2 0 3) 2 1 13) 2 2 26) 2 5 49) := ⟨r, by rw [up2_id f0, up2_id f1, up2_id f2, up2_id f5]⟩
  rw [hr]
  exact segK_wk (b := (none, (wX11_12 (69, (up2 (up2 (up2 (up2 rr 2 0 3) 2 1 13) 2 2 26) 2 5 49), i, j, d), 68, 11991))) rwX11_init ⟨Nat.le_of_ble_eq_true rfl, Nat.le_of_ble_eq_true rfl⟩ (cl := clN) CLK_N ct_N (N := 200) (pc := 169) (lc := [(0, aR 2)]) (st := []) (s0 := ((69, (up2 (up2 (up2 (up2 rr 2 0 3) 2 1 13) 2 2 26) 2 5 49), i, j, d), 67, 11982)) rfl
def wX11_11 (σ : SG) : SG := wX11_12 (uR (uN (σ)) 2 11 69)
set_option maxRecDepth 100000 in
theorem wkX11_11 {σ σ0 : SG} (h : σ.1 = 68) (f0 : σ.2.1 2 0 = 3) (f1 : σ.2.1 2 1 = 13) (f2 : σ.2.1 2 2 = 26) (f5 : σ.2.1 2 5 = 49) : WK 111 (.inl none) σ0 (wX11_11 σ) 161 [(0, aR 2)] [] σ 66 11973 := by
  obtain ⟨K, r, i, j, d⟩ := σ
  have h : K = 68 := h
  subst h
  have f0 : r 2 0 = 3 := f0
  have f1 : r 2 1 = 13 := f1
  have f2 : r 2 2 = 26 := f2
  have f5 : r 2 5 = 49 := f5
  obtain ⟨rr, hr⟩ : ∃ rr, r = (up2 (up2 (up2 (up2 rr 2 0 3) 2 1 13) 2 2 26) 2 5 49) := ⟨r, by rw [up2_id f0, up2_id f1, up2_id f2, up2_id f5]⟩
  rw [hr]
  exact segK_to (b := (none, (wX11_11 (68, (up2 (up2 (up2 (up2 rr 2 0 3) 2 1 13) 2 2 26) 2 5 49), i, j, d), 68, 11991))) rwX11_init ⟨Nat.le_of_ble_eq_true rfl, Nat.le_of_ble_eq_true rfl⟩ (cl := clN) CLK_N (pc2 := 169) (N := 200) (pc := 161) (l0 := [(0, aR 2)]) (lc := [(0, aR 2)]) (st0 := []) (st := []) (s1 := ((fun σ : SG => uR (uN (σ)) 2 11 69) (68, (up2 (up2 (up2 (up2 rr 2 0 3) 2 1 13) 2 2 26) 2 5 49), i, j, d), 67, 11982)) (s0 := ((68, (up2 (up2 (up2 (up2 rr 2 0 3) 2 1 13) 2 2 26) 2 5 49), i, j, d), 66, 11973)) (wkX11_12 rfl rfl rfl rfl rfl) (fun _ => rfl)
def wX11_10 (σ : SG) : SG := wX11_11 (uR (wX5 (uN (σ))) 2 10 67)
set_option maxRecDepth 100000 in
theorem wkX11_10 {σ σ0 : SG} (h : σ.1 = 66) (f0 : σ.2.1 2 0 = 3) (f1 : σ.2.1 2 1 = 13) (f2 : σ.2.1 2 2 = 26) (f5 : σ.2.1 2 5 = 49) : WK 111 (.inl none) σ0 (wX11_10 σ) 150 [(0, aR 2)] [] σ 64 11917 := by
  obtain ⟨K, r, i, j, d⟩ := σ
  have h : K = 66 := h
  subst h
  have f0 : r 2 0 = 3 := f0
  have f1 : r 2 1 = 13 := f1
  have f2 : r 2 2 = 26 := f2
  have f5 : r 2 5 = 49 := f5
  obtain ⟨rr, hr⟩ : ∃ rr, r = (up2 (up2 (up2 (up2 rr 2 0 3) 2 1 13) 2 2 26) 2 5 49) := ⟨r, by rw [up2_id f0, up2_id f1, up2_id f2, up2_id f5]⟩
  rw [hr]
  exact segK_to (b := (none, (wX11_10 (66, (up2 (up2 (up2 (up2 rr 2 0 3) 2 1 13) 2 2 26) 2 5 49), i, j, d), 68, 11991))) rwX11_init ⟨Nat.le_of_ble_eq_true rfl, Nat.le_of_ble_eq_true rfl⟩ (cl := (clC 43 (clI (mC 111) (mS 111) 43 67 [aR 67] (wX5)) clN)) (CLK_C (CLK1_I (by decide +kernel) (fun σ h => mcX5 h)) CLK_N) (pc2 := 161) (N := 200) (pc := 150) (l0 := [(0, aR 2)]) (lc := [(0, aR 2)]) (st0 := []) (st := []) (s1 := ((fun σ : SG => uR (wX5 (uN (σ))) 2 10 67) (66, (up2 (up2 (up2 (up2 rr 2 0 3) 2 1 13) 2 2 26) 2 5 49), i, j, d), 66, 11973)) (s0 := ((66, (up2 (up2 (up2 (up2 rr 2 0 3) 2 1 13) 2 2 26) 2 5 49), i, j, d), 64, 11917)) (wkX11_11 rfl rfl rfl rfl rfl) (fun _ => rfl)
def wX11_9 (σ : SG) : SG := wX11_10 (uR (wX8 (uN (σ))) 2 9 65)
set_option maxRecDepth 100000 in
theorem wkX11_9 {σ σ0 : SG} (h : σ.1 = 64) (f0 : σ.2.1 2 0 = 3) (f1 : σ.2.1 2 1 = 13) (f2 : σ.2.1 2 2 = 26) (f5 : σ.2.1 2 5 = 49) : WK 111 (.inl none) σ0 (wX11_9 σ) 131 [(0, aR 2)] [] σ 62 11906 := by
  obtain ⟨K, r, i, j, d⟩ := σ
  have h : K = 64 := h
  subst h
  have f0 : r 2 0 = 3 := f0
  have f1 : r 2 1 = 13 := f1
  have f2 : r 2 2 = 26 := f2
  have f5 : r 2 5 = 49 := f5
  obtain ⟨rr, hr⟩ : ∃ rr, r = (up2 (up2 (up2 (up2 rr 2 0 3) 2 1 13) 2 2 26) 2 5 49) := ⟨r, by rw [up2_id f0, up2_id f1, up2_id f2, up2_id f5]⟩
  rw [hr]
  exact segK_to (b := (none, (wX11_9 (64, (up2 (up2 (up2 (up2 rr 2 0 3) 2 1 13) 2 2 26) 2 5 49), i, j, d), 68, 11991))) rwX11_init ⟨Nat.le_of_ble_eq_true rfl, Nat.le_of_ble_eq_true rfl⟩ (cl := (clC 77 (clI (mC 111) (mS 111) 77 65 [aR 65, aR 13, aR 49] (wX8)) clN)) (CLK_C (CLK1_I (by decide +kernel) (fun σ h => mcX8 h)) CLK_N) (pc2 := 150) (N := 200) (pc := 131) (l0 := [(0, aR 2)]) (lc := [(0, aR 2)]) (st0 := []) (st := []) (s1 := ((fun σ : SG => uR (wX8 (uN (σ))) 2 9 65) (64, (up2 (up2 (up2 (up2 rr 2 0 3) 2 1 13) 2 2 26) 2 5 49), i, j, d), 64, 11917)) (s0 := ((64, (up2 (up2 (up2 (up2 rr 2 0 3) 2 1 13) 2 2 26) 2 5 49), i, j, d), 62, 11906)) (wkX11_10 rfl rfl rfl rfl rfl) (fun _ => rfl)
def wX11_8 (σ : SG) : SG := wX11_9 (uR (wX0 (uN (σ))) 2 8 60)
set_option maxRecDepth 100000 in
theorem wkX11_8 {σ σ0 : SG} (h : σ.1 = 59) (f0 : σ.2.1 2 0 = 3) (f1 : σ.2.1 2 1 = 13) (f2 : σ.2.1 2 2 = 26) (f5 : σ.2.1 2 5 = 49) : WK 111 (.inl none) σ0 (wX11_8 σ) 116 [(0, aR 2)] [] σ 57 11849 := by
  obtain ⟨K, r, i, j, d⟩ := σ
  have h : K = 59 := h
  subst h
  have f0 : r 2 0 = 3 := f0
  have f1 : r 2 1 = 13 := f1
  have f2 : r 2 2 = 26 := f2
  have f5 : r 2 5 = 49 := f5
  obtain ⟨rr, hr⟩ : ∃ rr, r = (up2 (up2 (up2 (up2 rr 2 0 3) 2 1 13) 2 2 26) 2 5 49) := ⟨r, by rw [up2_id f0, up2_id f1, up2_id f2, up2_id f5]⟩
  rw [hr]
  exact segK_to (b := (none, (wX11_8 (59, (up2 (up2 (up2 (up2 rr 2 0 3) 2 1 13) 2 2 26) 2 5 49), i, j, d), 68, 11991))) rwX11_init ⟨Nat.le_of_ble_eq_true rfl, Nat.le_of_ble_eq_true rfl⟩ (cl := (clC 0 (clI (mC 111) (mS 111) 0 60 [aR 60, aR 13] (wX0)) clN)) (CLK_C (CLK1_I (by decide +kernel) (fun σ h => mcX0 h)) CLK_N) (pc2 := 131) (N := 200) (pc := 116) (l0 := [(0, aR 2)]) (lc := [(0, aR 2)]) (st0 := []) (st := []) (s1 := ((fun σ : SG => uR (wX0 (uN (σ))) 2 8 60) (59, (up2 (up2 (up2 (up2 rr 2 0 3) 2 1 13) 2 2 26) 2 5 49), i, j, d), 62, 11906)) (s0 := ((59, (up2 (up2 (up2 (up2 rr 2 0 3) 2 1 13) 2 2 26) 2 5 49), i, j, d), 57, 11849)) (wkX11_9 rfl rfl rfl rfl rfl) (fun _ => rfl)
def wX11_7 (σ : SG) : SG := wX11_8 (uR (wX4 (uN (σ))) 2 7 59)
set_option maxRecDepth 100000 in
theorem wkX11_7 {σ σ0 : SG} (h : σ.1 = 58) (f0 : σ.2.1 2 0 = 3) (f1 : σ.2.1 2 1 = 13) (f2 : σ.2.1 2 2 = 26) (f5 : σ.2.1 2 5 = 49) : WK 111 (.inl none) σ0 (wX11_7 σ) 105 [(0, aR 2)] [] σ 56 11840 := by
  obtain ⟨K, r, i, j, d⟩ := σ
  have h : K = 58 := h
  subst h
  have f0 : r 2 0 = 3 := f0
  have f1 : r 2 1 = 13 := f1
  have f2 : r 2 2 = 26 := f2
  have f5 : r 2 5 = 49 := f5
  obtain ⟨rr, hr⟩ : ∃ rr, r = (up2 (up2 (up2 (up2 rr 2 0 3) 2 1 13) 2 2 26) 2 5 49) := ⟨r, by rw [up2_id f0, up2_id f1, up2_id f2, up2_id f5]⟩
  rw [hr]
  exact segK_to (b := (none, (wX11_7 (58, (up2 (up2 (up2 (up2 rr 2 0 3) 2 1 13) 2 2 26) 2 5 49), i, j, d), 68, 11991))) rwX11_init ⟨Nat.le_of_ble_eq_true rfl, Nat.le_of_ble_eq_true rfl⟩ (cl := (clC 34 (clI (mC 111) (mS 111) 34 59 [aR 59] (wX4)) clN)) (CLK_C (CLK1_I (by decide +kernel) (fun σ h => mcX4 h)) CLK_N) (pc2 := 116) (N := 200) (pc := 105) (l0 := [(0, aR 2)]) (lc := [(0, aR 2)]) (st0 := []) (st := []) (s1 := ((fun σ : SG => uR (wX4 (uN (σ))) 2 7 59) (58, (up2 (up2 (up2 (up2 rr 2 0 3) 2 1 13) 2 2 26) 2 5 49), i, j, d), 57, 11849)) (s0 := ((58, (up2 (up2 (up2 (up2 rr 2 0 3) 2 1 13) 2 2 26) 2 5 49), i, j, d), 56, 11840)) (wkX11_8 rfl rfl rfl rfl rfl) (fun _ => rfl)
def wX11_6 (σ : SG) : SG := wX11_7 (uR (wX10 (uN (σ))) 2 6 53)
set_option maxRecDepth 100000 in
theorem wkX11_6 {σ σ0 : SG} (h : σ.1 = 52) (f0 : σ.2.1 2 0 = 3) (f1 : σ.2.1 2 1 = 13) (f2 : σ.2.1 2 2 = 26) (f5 : σ.2.1 2 5 = 49) : WK 111 (.inl none) σ0 (wX11_6 σ) 90 [(0, aR 2)] [] σ 50 10769 := by
  obtain ⟨K, r, i, j, d⟩ := σ
  have h : K = 52 := h
  subst h
  have f0 : r 2 0 = 3 := f0
  have f1 : r 2 1 = 13 := f1
  have f2 : r 2 2 = 26 := f2
  have f5 : r 2 5 = 49 := f5
  obtain ⟨rr, hr⟩ : ∃ rr, r = (up2 (up2 (up2 (up2 rr 2 0 3) 2 1 13) 2 2 26) 2 5 49) := ⟨r, by rw [up2_id f0, up2_id f1, up2_id f2, up2_id f5]⟩
  rw [hr]
  exact segK_to (b := (none, (wX11_6 (52, (up2 (up2 (up2 (up2 rr 2 0 3) 2 1 13) 2 2 26) 2 5 49), i, j, d), 68, 11991))) rwX11_init ⟨Nat.le_of_ble_eq_true rfl, Nat.le_of_ble_eq_true rfl⟩ (cl := (clC 100 (clI (mC 111) (mS 111) 100 53 [aR 53, aR 3] (wX10)) clN)) (CLK_C (CLK1_I (by decide +kernel) (fun σ h => mcX10 h)) CLK_N) (pc2 := 105) (N := 200) (pc := 90) (l0 := [(0, aR 2)]) (lc := [(0, aR 2)]) (st0 := []) (st := []) (s1 := ((fun σ : SG => uR (wX10 (uN (σ))) 2 6 53) (52, (up2 (up2 (up2 (up2 rr 2 0 3) 2 1 13) 2 2 26) 2 5 49), i, j, d), 56, 11840)) (s0 := ((52, (up2 (up2 (up2 (up2 rr 2 0 3) 2 1 13) 2 2 26) 2 5 49), i, j, d), 50, 10769)) (wkX11_7 rfl rfl rfl rfl rfl) (fun _ => rfl)
def wX11_5 (σ : SG) : SG := wX11_6 (uR (wX1 (uN (σ))) 2 5 49)
set_option maxRecDepth 100000 in
theorem wkX11_5 {σ σ0 : SG} (h : σ.1 = 48) (f0 : σ.2.1 2 0 = 3) (f1 : σ.2.1 2 1 = 13) (f2 : σ.2.1 2 2 = 26) : WK 111 (.inl none) σ0 (wX11_5 σ) 75 [(0, aR 2)] [] σ 46 1539 := by
  obtain ⟨K, r, i, j, d⟩ := σ
  have h : K = 48 := h
  subst h
  have f0 : r 2 0 = 3 := f0
  have f1 : r 2 1 = 13 := f1
  have f2 : r 2 2 = 26 := f2
  obtain ⟨rr, hr⟩ : ∃ rr, r = (up2 (up2 (up2 rr 2 0 3) 2 1 13) 2 2 26) := ⟨r, by rw [up2_id f0, up2_id f1, up2_id f2]⟩
  rw [hr]
  exact segK_to (b := (none, (wX11_5 (48, (up2 (up2 (up2 rr 2 0 3) 2 1 13) 2 2 26), i, j, d), 68, 11991))) rwX11_init ⟨Nat.le_of_ble_eq_true rfl, Nat.le_of_ble_eq_true rfl⟩ (cl := (clC 10 (clI (mC 111) (mS 111) 10 49 [aR 49, aR 13] (wX1)) clN)) (CLK_C (CLK1_I (by decide +kernel) (fun σ h => mcX1 h)) CLK_N) (pc2 := 90) (N := 200) (pc := 75) (l0 := [(0, aR 2)]) (lc := [(0, aR 2)]) (st0 := []) (st := []) (s1 := ((fun σ : SG => uR (wX1 (uN (σ))) 2 5 49) (48, (up2 (up2 (up2 rr 2 0 3) 2 1 13) 2 2 26), i, j, d), 50, 10769)) (s0 := ((48, (up2 (up2 (up2 rr 2 0 3) 2 1 13) 2 2 26), i, j, d), 46, 1539)) (wkX11_6 rfl rfl rfl rfl rfl) (fun _ => rfl)
def wX11_4 (σ : SG) : SG := wX11_5 (uR (wX7 (uN (σ))) 2 4 34)
set_option maxRecDepth 100000 in
theorem wkX11_4 {σ σ0 : SG} (h : σ.1 = 33) (f0 : σ.2.1 2 0 = 3) (f1 : σ.2.1 2 1 = 13) (f2 : σ.2.1 2 2 = 26) : WK 111 (.inl none) σ0 (wX11_4 σ) 56 [(0, aR 2)] [] σ 31 1398 := by
  obtain ⟨K, r, i, j, d⟩ := σ
  have h : K = 33 := h
  subst h
  have f0 : r 2 0 = 3 := f0
  have f1 : r 2 1 = 13 := f1
  have f2 : r 2 2 = 26 := f2
  obtain ⟨rr, hr⟩ : ∃ rr, r = (up2 (up2 (up2 rr 2 0 3) 2 1 13) 2 2 26) := ⟨r, by rw [up2_id f0, up2_id f1, up2_id f2]⟩
  rw [hr]
  exact segK_to (b := (none, (wX11_4 (33, (up2 (up2 (up2 rr 2 0 3) 2 1 13) 2 2 26), i, j, d), 68, 11991))) rwX11_init ⟨Nat.le_of_ble_eq_true rfl, Nat.le_of_ble_eq_true rfl⟩ (cl := (clC 63 (clI (mC 111) (mS 111) 63 34 [aR 34, aR 13, aR 26] (wX7)) clN)) (CLK_C (CLK1_I (by decide +kernel) (fun σ h => mcX7 h)) CLK_N) (pc2 := 75) (N := 200) (pc := 56) (l0 := [(0, aR 2)]) (lc := [(0, aR 2)]) (st0 := []) (st := []) (s1 := ((fun σ : SG => uR (wX7 (uN (σ))) 2 4 34) (33, (up2 (up2 (up2 rr 2 0 3) 2 1 13) 2 2 26), i, j, d), 46, 1539)) (s0 := ((33, (up2 (up2 (up2 rr 2 0 3) 2 1 13) 2 2 26), i, j, d), 31, 1398)) (wkX11_5 rfl rfl rfl rfl) (fun _ => rfl)
def wX11_3 (σ : SG) : SG := wX11_4 (uR (wX3 (uN (σ))) 2 3 32)
set_option maxRecDepth 100000 in
theorem wkX11_3 {σ σ0 : SG} (h : σ.1 = 31) (f0 : σ.2.1 2 0 = 3) (f1 : σ.2.1 2 1 = 13) (f2 : σ.2.1 2 2 = 26) : WK 111 (.inl none) σ0 (wX11_3 σ) 45 [(0, aR 2)] [] σ 29 1155 := by
  obtain ⟨K, r, i, j, d⟩ := σ
  have h : K = 31 := h
  subst h
  have f0 : r 2 0 = 3 := f0
  have f1 : r 2 1 = 13 := f1
  have f2 : r 2 2 = 26 := f2
  obtain ⟨rr, hr⟩ : ∃ rr, r = (up2 (up2 (up2 rr 2 0 3) 2 1 13) 2 2 26) := ⟨r, by rw [up2_id f0, up2_id f1, up2_id f2]⟩
  rw [hr]
  exact segK_to (b := (none, (wX11_3 (31, (up2 (up2 (up2 rr 2 0 3) 2 1 13) 2 2 26), i, j, d), 68, 11991))) rwX11_init ⟨Nat.le_of_ble_eq_true rfl, Nat.le_of_ble_eq_true rfl⟩ (cl := (clC 30 (clI (mC 111) (mS 111) 30 32 [aR 32] (wX3)) clN)) (CLK_C (CLK1_I (by decide +kernel) (fun σ h => mcX3 h)) CLK_N) (pc2 := 56) (N := 200) (pc := 45) (l0 := [(0, aR 2)]) (lc := [(0, aR 2)]) (st0 := []) (st := []) (s1 := ((fun σ : SG => uR (wX3 (uN (σ))) 2 3 32) (31, (up2 (up2 (up2 rr 2 0 3) 2 1 13) 2 2 26), i, j, d), 31, 1398)) (s0 := ((31, (up2 (up2 (up2 rr 2 0 3) 2 1 13) 2 2 26), i, j, d), 29, 1155)) (wkX11_4 rfl rfl rfl rfl) (fun _ => rfl)
def wX11_2 (σ : SG) : SG := wX11_3 (uR (wX6 (uN (σ))) 2 2 26)
set_option maxRecDepth 100000 in
theorem wkX11_2 {σ σ0 : SG} (h : σ.1 = 25) (f0 : σ.2.1 2 0 = 3) (f1 : σ.2.1 2 1 = 13) : WK 111 (.inl none) σ0 (wX11_2 σ) 30 [(0, aR 2)] [] σ 23 1119 := by
  obtain ⟨K, r, i, j, d⟩ := σ
  have h : K = 25 := h
  subst h
  have f0 : r 2 0 = 3 := f0
  have f1 : r 2 1 = 13 := f1
  obtain ⟨rr, hr⟩ : ∃ rr, r = (up2 (up2 rr 2 0 3) 2 1 13) := ⟨r, by rw [up2_id f0, up2_id f1]⟩
  rw [hr]
  exact segK_to (b := (none, (wX11_2 (25, (up2 (up2 rr 2 0 3) 2 1 13), i, j, d), 68, 11991))) rwX11_init ⟨Nat.le_of_ble_eq_true rfl, Nat.le_of_ble_eq_true rfl⟩ (cl := (clC 46 (clI (mC 111) (mS 111) 46 26 [aR 26, aR 13] (wX6)) clN)) (CLK_C (CLK1_I (by decide +kernel) (fun σ h => mcX6 h)) CLK_N) (pc2 := 45) (N := 200) (pc := 30) (l0 := [(0, aR 2)]) (lc := [(0, aR 2)]) (st0 := []) (st := []) (s1 := ((fun σ : SG => uR (wX6 (uN (σ))) 2 2 26) (25, (up2 (up2 rr 2 0 3) 2 1 13), i, j, d), 29, 1155)) (s0 := ((25, (up2 (up2 rr 2 0 3) 2 1 13), i, j, d), 23, 1119)) (wkX11_3 rfl rfl rfl rfl) (fun _ => rfl)
def wX11_1 (σ : SG) : SG := wX11_2 (uR (wX2 (uN (σ))) 2 1 13)
set_option maxRecDepth 100000 in
theorem wkX11_1 {σ σ0 : SG} (h : σ.1 = 12) (f0 : σ.2.1 2 0 = 3) : WK 111 (.inl none) σ0 (wX11_1 σ) 15 [(0, aR 2)] [] σ 10 1014 := by
  obtain ⟨K, r, i, j, d⟩ := σ
  have h : K = 12 := h
  subst h
  have f0 : r 2 0 = 3 := f0
  obtain ⟨rr, hr⟩ : ∃ rr, r = (up2 rr 2 0 3) := ⟨r, by rw [up2_id f0]⟩
  rw [hr]
  exact segK_to (b := (none, (wX11_1 (12, (up2 rr 2 0 3), i, j, d), 68, 11991))) rwX11_init ⟨Nat.le_of_ble_eq_true rfl, Nat.le_of_ble_eq_true rfl⟩ (cl := (clC 24 (clI (mC 111) (mS 111) 24 13 [aR 13, aR 3] (wX2)) clN)) (CLK_C (CLK1_I (by decide +kernel) (fun σ h => mcX2 h)) CLK_N) (pc2 := 30) (N := 200) (pc := 15) (l0 := [(0, aR 2)]) (lc := [(0, aR 2)]) (st0 := []) (st := []) (s1 := ((fun σ : SG => uR (wX2 (uN (σ))) 2 1 13) (12, (up2 rr 2 0 3), i, j, d), 23, 1119)) (s0 := ((12, (up2 rr 2 0 3), i, j, d), 10, 1014)) (wkX11_2 rfl rfl rfl) (fun _ => rfl)
def wX11_0 (σ : SG) : SG := wX11_1 (uR (wX9 (uN (σ))) 2 0 3)
set_option maxRecDepth 100000 in
theorem wkX11_0 {σ σ0 : SG} (h : σ.1 = 2) : WK 111 (.inl none) σ0 (wX11_0 σ) 0 [(0, aR 2)] [] σ 0 0 := by
  obtain ⟨K, r, i, j, d⟩ := σ
  have h : K = 2 := h
  subst h
  exact segK_to (b := (none, (wX11_0 (2, r, i, j, d), 68, 11991))) rwX11_init ⟨Nat.le_of_ble_eq_true rfl, Nat.le_of_ble_eq_true rfl⟩ (cl := (clC 86 (clI (mC 111) (mS 111) 86 3 [aR 3] (wX9)) clN)) (CLK_C (CLK1_I (by decide +kernel) (fun σ h => mcX9 h)) CLK_N) (pc2 := 15) (N := 200) (pc := 0) (l0 := [(0, aR 2)]) (lc := [(0, aR 2)]) (st0 := []) (st := []) (s1 := ((fun σ : SG => uR (wX9 (uN (σ))) 2 0 3) (2, r, i, j, d), 10, 1014)) (s0 := ((2, r, i, j, d), 0, 0)) (wkX11_1 rfl rfl) (fun _ => rfl)
def wX11 (σ : SG) : SG := wX11_0 σ
theorem mcX11 {σ : SG} (h : σ.1 = 2) : MCT 111 [] [aR 2] σ (.inl none) (wX11 σ) := mct_of (by decide) (MFok 111 (by decide +kernel)) (fun _ => Nat.le_of_ble_eq_true rfl) (wkX11_0 h)
