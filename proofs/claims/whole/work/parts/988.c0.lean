/-! CONSTRUCTORS of the parts, without loops -/
def csX10_init_0 : List (Nat × ARow) := [(0, 1, .aload_n 0, 0, 0, 0), (1, 3, .invokespecial 3, 1002, 1, 0), (4, 1, .aload_n 0, 0, 0, 0), (5, 2, .bipush 10, 0, 0, 0), (7, 2, .newarray .int, 0, 0, 0), (9, 3, .putfield 11, 10, 1, 2), (12, 1, .aload_n 0, 0, 0, 0), (13, 2, .bipush 10, 0, 0, 0), (15, 2, .newarray .int, 0, 0, 0), (17, 3, .putfield 15, 10, 3, 2), (20, 1, .aload_n 0, 0, 0, 0), (21, 2, .bipush 10, 0, 0, 0), (23, 2, .newarray .int, 0, 0, 0), (25, 3, .putfield 18, 10, 4, 2), (28, 1, .aload_n 0, 0, 0, 0), (29, 2, .bipush 10, 0, 0, 0), (31, 2, .newarray .int, 0, 0, 0), (33, 3, .putfield 21, 10, 5, 2), (36, 1, .aload_n 0, 0, 0, 0), (37, 3, .sipush 1024, 0, 0, 0), (40, 2, .newarray .int, 0, 0, 0), (42, 3, .putfield 24, 10, 6, 2), (45, 1, .aload_n 0, 0, 0, 0), (46, 1, .aload_n 1, 0, 0, 0), (47, 3, .putfield 27, 10, 0, 2), (50, 1, .return_, 0, 0, 0)]
def csX10_init : List (Nat × List (Nat × ARow)) := [(100000, csX10_init_0)]
theorem rwX10_init : rowsB (mB 100) (mO 100) (mX 100) (mIni 100) (mFr 100) (mLo 100) (mT 100) csX10_init = true := by decide +kernel
def RX10_0 (rz : Nat → Int → Nat) : Nat → Int → Nat := rz
def RX10_1 (rz : Nat → Int → Nat) : Nat → Int → Nat := ((fun σ : SG => uR (uN (σ)) 53 1 54) (53, RX10_0 rz, fun _ _ => 0, fun _ _ => 0, fun _ _ => 0)).2.1
def RX10_2 (rz : Nat → Int → Nat) : Nat → Int → Nat := ((fun σ : SG => uR (uN (σ)) 53 3 55) (54, RX10_1 rz, fun _ _ => 0, fun _ _ => 0, fun _ _ => 0)).2.1
def RX10_3 (rz : Nat → Int → Nat) : Nat → Int → Nat := ((fun σ : SG => uR (uN (σ)) 53 4 56) (55, RX10_2 rz, fun _ _ => 0, fun _ _ => 0, fun _ _ => 0)).2.1
def RX10_4 (rz : Nat → Int → Nat) : Nat → Int → Nat := ((fun σ : SG => uR (uN (σ)) 53 5 57) (56, RX10_3 rz, fun _ _ => 0, fun _ _ => 0, fun _ _ => 0)).2.1
def RX10_5 (rz : Nat → Int → Nat) : Nat → Int → Nat := ((fun σ : SG => uR (uN (σ)) 53 6 58) (57, RX10_4 rz, fun _ _ => 0, fun _ _ => 0, fun _ _ => 0)).2.1
def wX10_5 (σ : SG) : SG := uR (σ) 53 0 3
set_option maxRecDepth 100000 in
theorem wkX10_5 {σ σ0 : SG} {rz : Nat → Int → Nat} (h : σ.1 = 58) (hr : σ.2.1 = RX10_5 rz) : WK 100 (.inl none) σ0 (wX10_5 σ) 45 [(0, aR 53), (1, aR 3)] [] σ 5 1064 := by
  obtain ⟨K, r, i, j, d⟩ := σ
  have h : K = 58 := h
  subst h
  have hr : r = RX10_5 rz := hr
  rw [hr]
  exact segK_wk (b := (none, (wX10_5 (58, RX10_5 rz, i, j, d), 5, 1064))) rwX10_init ⟨Nat.le_of_ble_eq_true rfl, Nat.le_of_ble_eq_true rfl⟩ (cl := clN) CLK_N ct_N (N := 200) (pc := 45) (lc := [(0, aR 53), (1, aR 3)]) (st := []) (s0 := ((58, RX10_5 rz, i, j, d), 5, 1064)) rfl
def wX10_4 (σ : SG) : SG := wX10_5 (uR (uN (σ)) 53 6 58)
set_option maxRecDepth 100000 in
theorem wkX10_4 {σ σ0 : SG} {rz : Nat → Int → Nat} (h : σ.1 = 57) (hr : σ.2.1 = RX10_4 rz) : WK 100 (.inl none) σ0 (wX10_4 σ) 36 [(0, aR 53), (1, aR 3)] [] σ 4 40 := by
  obtain ⟨K, r, i, j, d⟩ := σ
  have h : K = 57 := h
  subst h
  have hr : r = RX10_4 rz := hr
  rw [hr]
  exact segK_to (b := (none, (wX10_4 (57, RX10_4 rz, i, j, d), 5, 1064))) rwX10_init ⟨Nat.le_of_ble_eq_true rfl, Nat.le_of_ble_eq_true rfl⟩ (cl := clN) CLK_N (pc2 := 45) (N := 200) (pc := 36) (l0 := [(0, aR 53), (1, aR 3)]) (lc := [(0, aR 53), (1, aR 3)]) (st0 := []) (st := []) (s1 := ((fun σ : SG => uR (uN (σ)) 53 6 58) (57, RX10_4 rz, i, j, d), 5, 1064)) (s0 := ((57, RX10_4 rz, i, j, d), 4, 40)) (wkX10_5 (rz := rz) rfl rfl) (fun _ => rfl)
def wX10_3 (σ : SG) : SG := wX10_4 (uR (uN (σ)) 53 5 57)
set_option maxRecDepth 100000 in
theorem wkX10_3 {σ σ0 : SG} {rz : Nat → Int → Nat} (h : σ.1 = 56) (hr : σ.2.1 = RX10_3 rz) : WK 100 (.inl none) σ0 (wX10_3 σ) 28 [(0, aR 53), (1, aR 3)] [] σ 3 30 := by
  obtain ⟨K, r, i, j, d⟩ := σ
  have h : K = 56 := h
  subst h
  have hr : r = RX10_3 rz := hr
  rw [hr]
  exact segK_to (b := (none, (wX10_3 (56, RX10_3 rz, i, j, d), 5, 1064))) rwX10_init ⟨Nat.le_of_ble_eq_true rfl, Nat.le_of_ble_eq_true rfl⟩ (cl := clN) CLK_N (pc2 := 36) (N := 200) (pc := 28) (l0 := [(0, aR 53), (1, aR 3)]) (lc := [(0, aR 53), (1, aR 3)]) (st0 := []) (st := []) (s1 := ((fun σ : SG => uR (uN (σ)) 53 5 57) (56, RX10_3 rz, i, j, d), 4, 40)) (s0 := ((56, RX10_3 rz, i, j, d), 3, 30)) (wkX10_4 (rz := rz) rfl rfl) (fun _ => rfl)
def wX10_2 (σ : SG) : SG := wX10_3 (uR (uN (σ)) 53 4 56)
set_option maxRecDepth 100000 in
theorem wkX10_2 {σ σ0 : SG} {rz : Nat → Int → Nat} (h : σ.1 = 55) (hr : σ.2.1 = RX10_2 rz) : WK 100 (.inl none) σ0 (wX10_2 σ) 20 [(0, aR 53), (1, aR 3)] [] σ 2 20 := by
  obtain ⟨K, r, i, j, d⟩ := σ
  have h : K = 55 := h
  subst h
  have hr : r = RX10_2 rz := hr
  rw [hr]
  exact segK_to (b := (none, (wX10_2 (55, RX10_2 rz, i, j, d), 5, 1064))) rwX10_init ⟨Nat.le_of_ble_eq_true rfl, Nat.le_of_ble_eq_true rfl⟩ (cl := clN) CLK_N (pc2 := 28) (N := 200) (pc := 20) (l0 := [(0, aR 53), (1, aR 3)]) (lc := [(0, aR 53), (1, aR 3)]) (st0 := []) (st := []) (s1 := ((fun σ : SG => uR (uN (σ)) 53 4 56) (55, RX10_2 rz, i, j, d), 3, 30)) (s0 := ((55, RX10_2 rz, i, j, d), 2, 20)) (wkX10_3 (rz := rz) rfl rfl) (fun _ => rfl)
def wX10_1 (σ : SG) : SG := wX10_2 (uR (uN (σ)) 53 3 55)
set_option maxRecDepth 100000 in
theorem wkX10_1 {σ σ0 : SG} {rz : Nat → Int → Nat} (h : σ.1 = 54) (hr : σ.2.1 = RX10_1 rz) : WK 100 (.inl none) σ0 (wX10_1 σ) 12 [(0, aR 53), (1, aR 3)] [] σ 1 10 := by
  obtain ⟨K, r, i, j, d⟩ := σ
  have h : K = 54 := h
  subst h
  have hr : r = RX10_1 rz := hr
  rw [hr]
  exact segK_to (b := (none, (wX10_1 (54, RX10_1 rz, i, j, d), 5, 1064))) rwX10_init ⟨Nat.le_of_ble_eq_true rfl, Nat.le_of_ble_eq_true rfl⟩ (cl := clN) CLK_N (pc2 := 20) (N := 200) (pc := 12) (l0 := [(0, aR 53), (1, aR 3)]) (lc := [(0, aR 53), (1, aR 3)]) (st0 := []) (st := []) (s1 := ((fun σ : SG => uR (uN (σ)) 53 3 55) (54, RX10_1 rz, i, j, d), 2, 20)) (s0 := ((54, RX10_1 rz, i, j, d), 1, 10)) (wkX10_2 (rz := rz) rfl rfl) (fun _ => rfl)
def wX10_0 (σ : SG) : SG := wX10_1 (uR (uN (σ)) 53 1 54)
set_option maxRecDepth 100000 in
theorem wkX10_0 {σ σ0 : SG} (h : σ.1 = 53) : WK 100 (.inl none) σ0 (wX10_0 σ) 0 [(0, aR 53), (1, aR 3)] [] σ 0 0 := by
  obtain ⟨K, r, i, j, d⟩ := σ
  have h : K = 53 := h
  subst h
  exact segK_to (b := (none, (wX10_0 (53, r, i, j, d), 5, 1064))) rwX10_init ⟨Nat.le_of_ble_eq_true rfl, Nat.le_of_ble_eq_true rfl⟩ (cl := clN) CLK_N (pc2 := 12) (N := 200) (pc := 0) (l0 := [(0, aR 53), (1, aR 3)]) (lc := [(0, aR 53), (1, aR 3)]) (st0 := []) (st := []) (s1 := ((fun σ : SG => uR (uN (σ)) 53 1 54) (53, r, i, j, d), 1, 10)) (s0 := ((53, r, i, j, d), 0, 0)) (wkX10_1 (rz := r) rfl rfl) (fun _ => rfl)
def wX10 (σ : SG) : SG := wX10_0 σ
theorem mcX10 {σ : SG} (h : σ.1 = 53) : MCT 100 [] [aR 53, aR 3] σ (.inl none) (wX10 σ) := mct_of (by decide) (MFok 100 (by decide +kernel)) (fun _ => Nat.le_of_ble_eq_true rfl) (wkX10_0 h)
def csX8_init_0 : List (Nat × ARow) := [(0, 1, .aload_n 0, 0, 0, 0), (1, 3, .invokespecial 3, 1002, 1, 0), (4, 1, .aload_n 0, 0, 0, 0), (5, 2, .bipush 8, 0, 0, 0), (7, 2, .newarray .int, 0, 0, 0), (9, 3, .putfield 9, 8, 2, 2), (12, 1, .aload_n 0, 0, 0, 0), (13, 1, .aload_n 1, 0, 0, 0), (14, 3, .putfield 15, 8, 0, 2), (17, 1, .aload_n 0, 0, 0, 0), (18, 1, .aload_n 2, 0, 0, 0), (19, 3, .putfield 19, 8, 1, 2), (22, 1, .return_, 0, 0, 0)]
def csX8_init : List (Nat × List (Nat × ARow)) := [(100000, csX8_init_0)]
theorem rwX8_init : rowsB (mB 77) (mO 77) (mX 77) (mIni 77) (mFr 77) (mLo 77) (mT 77) csX8_init = true := by decide +kernel
def RX8_0 (rz : Nat → Int → Nat) : Nat → Int → Nat := rz
def RX8_1 (rz : Nat → Int → Nat) : Nat → Int → Nat := ((fun σ : SG => uR (uN (σ)) 65 2 66) (65, RX8_0 rz, fun _ _ => 0, fun _ _ => 0, fun _ _ => 0)).2.1
def RX8_2 (rz : Nat → Int → Nat) : Nat → Int → Nat := ((fun σ : SG => uR (σ) 65 0 13) (66, RX8_1 rz, fun _ _ => 0, fun _ _ => 0, fun _ _ => 0)).2.1
def wX8_2 (σ : SG) : SG := uR (σ) 65 1 49
set_option maxRecDepth 100000 in
theorem wkX8_2 {σ σ0 : SG} {rz : Nat → Int → Nat} (h : σ.1 = 66) (hr : σ.2.1 = RX8_2 rz) : WK 77 (.inl none) σ0 (wX8_2 σ) 17 [(0, aR 65), (1, aR 13), (2, aR 49)] [] σ 1 8 := by
  obtain ⟨K, r, i, j, d⟩ := σ
  have h : K = 66 := h
  subst h
  have hr : r = RX8_2 rz := hr
  rw [hr]
  exact segK_wk (b := (none, (wX8_2 (66, RX8_2 rz, i, j, d), 1, 8))) rwX8_init ⟨Nat.le_of_ble_eq_true rfl, Nat.le_of_ble_eq_true rfl⟩ (cl := clN) CLK_N ct_N (N := 200) (pc := 17) (lc := [(0, aR 65), (1, aR 13), (2, aR 49)]) (st := []) (s0 := ((66, RX8_2 rz, i, j, d), 1, 8)) rfl
def wX8_1 (σ : SG) : SG := wX8_2 (uR (σ) 65 0 13)
set_option maxRecDepth 100000 in
theorem wkX8_1 {σ σ0 : SG} {rz : Nat → Int → Nat} (h : σ.1 = 66) (hr : σ.2.1 = RX8_1 rz) : WK 77 (.inl none) σ0 (wX8_1 σ) 12 [(0, aR 65), (1, aR 13), (2, aR 49)] [] σ 1 8 := by
  obtain ⟨K, r, i, j, d⟩ := σ
  have h : K = 66 := h
  subst h
  have hr : r = RX8_1 rz := hr
  rw [hr]
  exact segK_to (b := (none, (wX8_1 (66, RX8_1 rz, i, j, d), 1, 8))) rwX8_init ⟨Nat.le_of_ble_eq_true rfl, Nat.le_of_ble_eq_true rfl⟩ (cl := clN) CLK_N (pc2 := 17) (N := 200) (pc := 12) (l0 := [(0, aR 65), (1, aR 13), (2, aR 49)]) (lc := [(0, aR 65), (1, aR 13), (2, aR 49)]) (st0 := []) (st := []) (s1 := ((fun σ : SG => uR (σ) 65 0 13) (66, RX8_1 rz, i, j, d), 1, 8)) (s0 := ((66, RX8_1 rz, i, j, d), 1, 8)) (wkX8_2 (rz := rz) rfl rfl) (fun _ => rfl)
def wX8_0 (σ : SG) : SG := wX8_1 (uR (uN (σ)) 65 2 66)
set_option maxRecDepth 100000 in
theorem wkX8_0 {σ σ0 : SG} (h : σ.1 = 65) : WK 77 (.inl none) σ0 (wX8_0 σ) 0 [(0, aR 65), (1, aR 13), (2, aR 49)] [] σ 0 0 := by
  obtain ⟨K, r, i, j, d⟩ := σ
  have h : K = 65 := h
  subst h
  exact segK_to (b := (none, (wX8_0 (65, r, i, j, d), 1, 8))) rwX8_init ⟨Nat.le_of_ble_eq_true rfl, Nat.le_of_ble_eq_true rfl⟩ (cl := clN) CLK_N (pc2 := 12) (N := 200) (pc := 0) (l0 := [(0, aR 65), (1, aR 13), (2, aR 49)]) (lc := [(0, aR 65), (1, aR 13), (2, aR 49)]) (st0 := []) (st := []) (s1 := ((fun σ : SG => uR (uN (σ)) 65 2 66) (65, r, i, j, d), 1, 8)) (s0 := ((65, r, i, j, d), 0, 0)) (wkX8_1 (rz := r) rfl rfl) (fun _ => rfl)
def wX8 (σ : SG) : SG := wX8_0 σ
theorem mcX8 {σ : SG} (h : σ.1 = 65) : MCT 77 [] [aR 65, aR 13, aR 49] σ (.inl none) (wX8 σ) := mct_of (by decide) (MFok 77 (by decide +kernel)) (fun _ => Nat.le_of_ble_eq_true rfl) (wkX8_0 h)
def csX6_init_0 : List (Nat × ARow) := [(0, 1, .aload_n 0, 0, 0, 0), (1, 3, .invokespecial 3, 1002, 1, 0), (4, 1, .aload_n 0, 0, 0, 0), (5, 1, .iconst 3, 0, 0, 0), (6, 2, .bipush 9, 0, 0, 0), (8, 4, .multianewarray 9 2, 0, 0, 0), (12, 3, .putfield 11, 6, 1, 2), (15, 1, .aload_n 0, 0, 0, 0), (16, 1, .iconst 3, 0, 0, 0), (17, 2, .newarray .int, 0, 0, 0), (19, 3, .putfield 16, 6, 2, 2), (22, 1, .aload_n 0, 0, 0, 0), (23, 1, .aload_n 1, 0, 0, 0), (24, 3, .putfield 20, 6, 0, 2), (27, 1, .return_, 0, 0, 0)]
def csX6_init : List (Nat × List (Nat × ARow)) := [(100000, csX6_init_0)]
theorem rwX6_init : rowsB (mB 46) (mO 46) (mX 46) (mIni 46) (mFr 46) (mLo 46) (mT 46) csX6_init = true := by decide +kernel
def RX6_0 (rz : Nat → Int → Nat) : Nat → Int → Nat := rz
def RX6_1 (rz : Nat → Int → Nat) : Nat → Int → Nat := ((fun σ : SG => uR (uM (σ) 3) 26 1 27) (26, RX6_0 rz, fun _ _ => 0, fun _ _ => 0, fun _ _ => 0)).2.1
def RX6_2 (rz : Nat → Int → Nat) : Nat → Int → Nat := ((fun σ : SG => uR (uN (σ)) 26 2 31) (30, RX6_1 rz, fun _ _ => 0, fun _ _ => 0, fun _ _ => 0)).2.1
def wX6_2 (σ : SG) : SG := uR (σ) 26 0 13
set_option maxRecDepth 100000 in
theorem wkX6_2 {σ σ0 : SG} {rz : Nat → Int → Nat} (h : σ.1 = 31) (hr : σ.2.1 = RX6_2 rz) : WK 46 (.inl none) σ0 (wX6_2 σ) 22 [(0, aR 26), (1, aR 13)] [] σ 5 33 := by
  obtain ⟨K, r, i, j, d⟩ := σ
  have h : K = 31 := h
  subst h
  have hr : r = RX6_2 rz := hr
  rw [hr]
  exact segK_wk (b := (none, (wX6_2 (31, RX6_2 rz, i, j, d), 5, 33))) rwX6_init ⟨Nat.le_of_ble_eq_true rfl, Nat.le_of_ble_eq_true rfl⟩ (cl := clN) CLK_N ct_N (N := 200) (pc := 22) (lc := [(0, aR 26), (1, aR 13)]) (st := []) (s0 := ((31, RX6_2 rz, i, j, d), 5, 33)) rfl
def wX6_1 (σ : SG) : SG := wX6_2 (uR (uN (σ)) 26 2 31)
set_option maxRecDepth 100000 in
theorem wkX6_1 {σ σ0 : SG} {rz : Nat → Int → Nat} (h : σ.1 = 30) (hr : σ.2.1 = RX6_1 rz) : WK 46 (.inl none) σ0 (wX6_1 σ) 15 [(0, aR 26), (1, aR 13)] [] σ 4 30 := by
  obtain ⟨K, r, i, j, d⟩ := σ
  have h : K = 30 := h
  subst h
  have hr : r = RX6_1 rz := hr
  rw [hr]
  exact segK_to (b := (none, (wX6_1 (30, RX6_1 rz, i, j, d), 5, 33))) rwX6_init ⟨Nat.le_of_ble_eq_true rfl, Nat.le_of_ble_eq_true rfl⟩ (cl := clN) CLK_N (pc2 := 22) (N := 200) (pc := 15) (l0 := [(0, aR 26), (1, aR 13)]) (lc := [(0, aR 26), (1, aR 13)]) (st0 := []) (st := []) (s1 := ((fun σ : SG => uR (uN (σ)) 26 2 31) (30, RX6_1 rz, i, j, d), 5, 33)) (s0 := ((30, RX6_1 rz, i, j, d), 4, 30)) (wkX6_2 (rz := rz) rfl rfl) (fun _ => rfl)
def wX6_0 (σ : SG) : SG := wX6_1 (uR (uM (σ) 3) 26 1 27)
set_option maxRecDepth 100000 in
theorem wkX6_0 {σ σ0 : SG} (h : σ.1 = 26) : WK 46 (.inl none) σ0 (wX6_0 σ) 0 [(0, aR 26), (1, aR 13)] [] σ 0 0 := by
  obtain ⟨K, r, i, j, d⟩ := σ
  have h : K = 26 := h
  subst h
  exact segK_to (b := (none, (wX6_0 (26, r, i, j, d), 5, 33))) rwX6_init ⟨Nat.le_of_ble_eq_true rfl, Nat.le_of_ble_eq_true rfl⟩ (cl := clN) CLK_N (pc2 := 15) (N := 200) (pc := 0) (l0 := [(0, aR 26), (1, aR 13)]) (lc := [(0, aR 26), (1, aR 13)]) (st0 := []) (st := []) (s1 := ((fun σ : SG => uR (uM (σ) 3) 26 1 27) (26, r, i, j, d), 4, 30)) (s0 := ((26, r, i, j, d), 0, 0)) (wkX6_1 (rz := r) rfl rfl) (fun _ => rfl)
def wX6 (σ : SG) : SG := wX6_0 σ
theorem mcX6 {σ : SG} (h : σ.1 = 26) : MCT 46 [] [aR 26, aR 13] σ (.inl none) (wX6 σ) := mct_of (by decide) (MFok 46 (by decide +kernel)) (fun _ => Nat.le_of_ble_eq_true rfl) (wkX6_0 h)
def csX5_init_0 : List (Nat × ARow) := [(0, 1, .aload_n 0, 0, 0, 0), (1, 3, .invokespecial 3, 1002, 1, 0), (4, 1, .aload_n 0, 0, 0, 0), (5, 2, .bipush 100, 0, 0, 0), (7, 3, .putfield 9, 5, 0, 0), (10, 1, .aload_n 0, 0, 0, 0), (11, 2, .bipush 50, 0, 0, 0), (13, 3, .putfield 15, 5, 1, 0), (16, 1, .aload_n 0, 0, 0, 0), (17, 2, .bipush 50, 0, 0, 0), (19, 2, .newarray .long, 1, 0, 0), (21, 3, .putfield 18, 5, 3, 2), (24, 1, .return_, 0, 0, 0)]
def csX5_init : List (Nat × List (Nat × ARow)) := [(100000, csX5_init_0)]
theorem rwX5_init : rowsB (mB 43) (mO 43) (mX 43) (mIni 43) (mFr 43) (mLo 43) (mT 43) csX5_init = true := by decide +kernel
def RX5_0 (rz : Nat → Int → Nat) : Nat → Int → Nat := rz
def RX5_1 (rz : Nat → Int → Nat) : Nat → Int → Nat := ((fun σ : SG => uI (σ) 67 0 (100)) (67, RX5_0 rz, fun _ _ => 0, fun _ _ => 0, fun _ _ => 0)).2.1
def RX5_2 (rz : Nat → Int → Nat) : Nat → Int → Nat := ((fun σ : SG => uI (σ) 67 1 (50)) (67, RX5_1 rz, fun _ _ => 0, fun _ _ => 0, fun _ _ => 0)).2.1
def wX5_2 (σ : SG) : SG := uR (uN (σ)) 67 3 68
set_option maxRecDepth 100000 in
theorem wkX5_2 {σ σ0 : SG} {rz : Nat → Int → Nat} (h : σ.1 = 67) (hr : σ.2.1 = RX5_2 rz) : WK 43 (.inl none) σ0 (wX5_2 σ) 16 [(0, aR 67)] [] σ 0 0 := by
  obtain ⟨K, r, i, j, d⟩ := σ
  have h : K = 67 := h
  subst h
  have hr : r = RX5_2 rz := hr
  rw [hr]
  exact segK_wk (b := (none, (wX5_2 (67, RX5_2 rz, i, j, d), 1, 50))) rwX5_init ⟨Nat.le_of_ble_eq_true rfl, Nat.le_of_ble_eq_true rfl⟩ (cl := clN) CLK_N ct_N (N := 200) (pc := 16) (lc := [(0, aR 67)]) (st := []) (s0 := ((67, RX5_2 rz, i, j, d), 0, 0)) rfl
def wX5_1 (σ : SG) : SG := wX5_2 (uI (σ) 67 1 (50))
set_option maxRecDepth 100000 in
theorem wkX5_1 {σ σ0 : SG} {rz : Nat → Int → Nat} (h : σ.1 = 67) (hr : σ.2.1 = RX5_1 rz) : WK 43 (.inl none) σ0 (wX5_1 σ) 10 [(0, aR 67)] [] σ 0 0 := by
  obtain ⟨K, r, i, j, d⟩ := σ
  have h : K = 67 := h
  subst h
  have hr : r = RX5_1 rz := hr
  rw [hr]
  exact segK_to (b := (none, (wX5_1 (67, RX5_1 rz, i, j, d), 1, 50))) rwX5_init ⟨Nat.le_of_ble_eq_true rfl, Nat.le_of_ble_eq_true rfl⟩ (cl := clN) CLK_N (pc2 := 16) (N := 200) (pc := 10) (l0 := [(0, aR 67)]) (lc := [(0, aR 67)]) (st0 := []) (st := []) (s1 := ((fun σ : SG => uI (σ) 67 1 (50)) (67, RX5_1 rz, i, j, d), 0, 0)) (s0 := ((67, RX5_1 rz, i, j, d), 0, 0)) (wkX5_2 (rz := rz) rfl rfl) (fun _ => rfl)
def wX5_0 (σ : SG) : SG := wX5_1 (uI (σ) 67 0 (100))
set_option maxRecDepth 100000 in
theorem wkX5_0 {σ σ0 : SG} (h : σ.1 = 67) : WK 43 (.inl none) σ0 (wX5_0 σ) 0 [(0, aR 67)] [] σ 0 0 := by
  obtain ⟨K, r, i, j, d⟩ := σ
  have h : K = 67 := h
  subst h
  exact segK_to (b := (none, (wX5_0 (67, r, i, j, d), 1, 50))) rwX5_init ⟨Nat.le_of_ble_eq_true rfl, Nat.le_of_ble_eq_true rfl⟩ (cl := clN) CLK_N (pc2 := 10) (N := 200) (pc := 0) (l0 := [(0, aR 67)]) (lc := [(0, aR 67)]) (st0 := []) (st := []) (s1 := ((fun σ : SG => uI (σ) 67 0 (100)) (67, r, i, j, d), 0, 0)) (s0 := ((67, r, i, j, d), 0, 0)) (wkX5_1 (rz := r) rfl rfl) (fun _ => rfl)
def wX5 (σ : SG) : SG := wX5_0 σ
theorem mcX5 {σ : SG} (h : σ.1 = 67) : MCT 43 [] [aR 67] σ (.inl none) (wX5 σ) := mct_of (by decide) (MFok 43 (by decide +kernel)) (fun _ => Nat.le_of_ble_eq_true rfl) (wkX5_0 h)
def csX4_init_0 : List (Nat × ARow) := [(0, 1, .aload_n 0, 0, 0, 0), (1, 3, .invokespecial 3, 1002, 1, 0), (4, 1, .aload_n 0, 0, 0, 0), (5, 3, .sipush 270, 0, 0, 0), (8, 3, .putfield 9, 4, 0, 0), (11, 1, .aload_n 0, 0, 0, 0), (12, 2, .bipush 45, 0, 0, 0), (14, 3, .putfield 15, 4, 1, 0), (17, 1, .aload_n 0, 0, 0, 0), (18, 3, .sipush 540, 0, 0, 0), (21, 3, .putfield 18, 4, 2, 0), (24, 1, .aload_n 0, 0, 0, 0), (25, 1, .iconst (-1), 0, 0, 0), (26, 3, .putfield 21, 4, 8, 0), (29, 1, .return_, 0, 0, 0)]
def csX4_init : List (Nat × List (Nat × ARow)) := [(100000, csX4_init_0)]
theorem rwX4_init : rowsB (mB 34) (mO 34) (mX 34) (mIni 34) (mFr 34) (mLo 34) (mT 34) csX4_init = true := by decide +kernel
def RX4_0 (rz : Nat → Int → Nat) : Nat → Int → Nat := rz
def RX4_1 (rz : Nat → Int → Nat) : Nat → Int → Nat := ((fun σ : SG => uI (σ) 59 0 (270)) (59, RX4_0 rz, fun _ _ => 0, fun _ _ => 0, fun _ _ => 0)).2.1
def RX4_2 (rz : Nat → Int → Nat) : Nat → Int → Nat := ((fun σ : SG => uI (σ) 59 1 (45)) (59, RX4_1 rz, fun _ _ => 0, fun _ _ => 0, fun _ _ => 0)).2.1
def RX4_3 (rz : Nat → Int → Nat) : Nat → Int → Nat := ((fun σ : SG => uI (σ) 59 2 (540)) (59, RX4_2 rz, fun _ _ => 0, fun _ _ => 0, fun _ _ => 0)).2.1
def wX4_3 (σ : SG) : SG := uI (σ) 59 8 (-1)
set_option maxRecDepth 100000 in
theorem wkX4_3 {σ σ0 : SG} {rz : Nat → Int → Nat} (h : σ.1 = 59) (hr : σ.2.1 = RX4_3 rz) : WK 34 (.inl none) σ0 (wX4_3 σ) 24 [(0, aR 59)] [] σ 0 0 := by
  obtain ⟨K, r, i, j, d⟩ := σ
  have h : K = 59 := h
  subst h
  have hr : r = RX4_3 rz := hr
  rw [hr]
  exact segK_wk (b := (none, (wX4_3 (59, RX4_3 rz, i, j, d), 0, 0))) rwX4_init ⟨Nat.le_of_ble_eq_true rfl, Nat.le_of_ble_eq_true rfl⟩ (cl := clN) CLK_N ct_N (N := 200) (pc := 24) (lc := [(0, aR 59)]) (st := []) (s0 := ((59, RX4_3 rz, i, j, d), 0, 0)) rfl
def wX4_2 (σ : SG) : SG := wX4_3 (uI (σ) 59 2 (540))
set_option maxRecDepth 100000 in
theorem wkX4_2 {σ σ0 : SG} {rz : Nat → Int → Nat} (h : σ.1 = 59) (hr : σ.2.1 = RX4_2 rz) : WK 34 (.inl none) σ0 (wX4_2 σ) 17 [(0, aR 59)] [] σ 0 0 := by
  obtain ⟨K, r, i, j, d⟩ := σ
  have h : K = 59 := h
  subst h
  have hr : r = RX4_2 rz := hr
  rw [hr]
  exact segK_to (b := (none, (wX4_2 (59, RX4_2 rz, i, j, d), 0, 0))) rwX4_init ⟨Nat.le_of_ble_eq_true rfl, Nat.le_of_ble_eq_true rfl⟩ (cl := clN) CLK_N (pc2 := 24) (N := 200) (pc := 17) (l0 := [(0, aR 59)]) (lc := [(0, aR 59)]) (st0 := []) (st := []) (s1 := ((fun σ : SG => uI (σ) 59 2 (540)) (59, RX4_2 rz, i, j, d), 0, 0)) (s0 := ((59, RX4_2 rz, i, j, d), 0, 0)) (wkX4_3 (rz := rz) rfl rfl) (fun _ => rfl)
def wX4_1 (σ : SG) : SG := wX4_2 (uI (σ) 59 1 (45))
set_option maxRecDepth 100000 in
theorem wkX4_1 {σ σ0 : SG} {rz : Nat → Int → Nat} (h : σ.1 = 59) (hr : σ.2.1 = RX4_1 rz) : WK 34 (.inl none) σ0 (wX4_1 σ) 11 [(0, aR 59)] [] σ 0 0 := by
  obtain ⟨K, r, i, j, d⟩ := σ
  have h : K = 59 := h
  subst h
  have hr : r = RX4_1 rz := hr
  rw [hr]
  exact segK_to (b := (none, (wX4_1 (59, RX4_1 rz, i, j, d), 0, 0))) rwX4_init ⟨Nat.le_of_ble_eq_true rfl, Nat.le_of_ble_eq_true rfl⟩ (cl := clN) CLK_N (pc2 := 17) (N := 200) (pc := 11) (l0 := [(0, aR 59)]) (lc := [(0, aR 59)]) (st0 := []) (st := []) (s1 := ((fun σ : SG => uI (σ) 59 1 (45)) (59, RX4_1 rz, i, j, d), 0, 0)) (s0 := ((59, RX4_1 rz, i, j, d), 0, 0)) (wkX4_2 (rz := rz) rfl rfl) (fun _ => rfl)
def wX4_0 (σ : SG) : SG := wX4_1 (uI (σ) 59 0 (270))
set_option maxRecDepth 100000 in
theorem wkX4_0 {σ σ0 : SG} (h : σ.1 = 59) : WK 34 (.inl none) σ0 (wX4_0 σ) 0 [(0, aR 59)] [] σ 0 0 := by
  obtain ⟨K, r, i, j, d⟩ := σ
  have h : K = 59 := h
  subst h
  exact segK_to (b := (none, (wX4_0 (59, r, i, j, d), 0, 0))) rwX4_init ⟨Nat.le_of_ble_eq_true rfl, Nat.le_of_ble_eq_true rfl⟩ (cl := clN) CLK_N (pc2 := 11) (N := 200) (pc := 0) (l0 := [(0, aR 59)]) (lc := [(0, aR 59)]) (st0 := []) (st := []) (s1 := ((fun σ : SG => uI (σ) 59 0 (270)) (59, r, i, j, d), 0, 0)) (s0 := ((59, r, i, j, d), 0, 0)) (wkX4_1 (rz := r) rfl rfl) (fun _ => rfl)
def wX4 (σ : SG) : SG := wX4_0 σ
theorem mcX4 {σ : SG} (h : σ.1 = 59) : MCT 34 [] [aR 59] σ (.inl none) (wX4 σ) := mct_of (by decide) (MFok 34 (by decide +kernel)) (fun _ => Nat.le_of_ble_eq_true rfl) (wkX4_0 h)
def csX3_init_0 : List (Nat × ARow) := [(0, 1, .aload_n 0, 0, 0, 0), (1, 3, .invokespecial 3, 1002, 1, 0), (4, 1, .aload_n 0, 0, 0, 0), (5, 3, .sipush 240, 0, 0, 0), (8, 2, .newarray .int, 0, 0, 0), (10, 3, .putfield 11, 3, 0, 2), (13, 1, .return_, 0, 0, 0)]
def csX3_init : List (Nat × List (Nat × ARow)) := [(100000, csX3_init_0)]
theorem rwX3_init : rowsB (mB 30) (mO 30) (mX 30) (mIni 30) (mFr 30) (mLo 30) (mT 30) csX3_init = true := by decide +kernel
def RX3_0 (rz : Nat → Int → Nat) : Nat → Int → Nat := rz
def wX3_0 (σ : SG) : SG := uR (uN (σ)) 32 0 33
set_option maxRecDepth 100000 in
theorem wkX3_0 {σ σ0 : SG} (h : σ.1 = 32) : WK 30 (.inl none) σ0 (wX3_0 σ) 0 [(0, aR 32)] [] σ 0 0 := by
  obtain ⟨K, r, i, j, d⟩ := σ
  have h : K = 32 := h
  subst h
  exact segK_wk (b := (none, (wX3_0 (32, r, i, j, d), 1, 240))) rwX3_init ⟨Nat.le_of_ble_eq_true rfl, Nat.le_of_ble_eq_true rfl⟩ (cl := clN) CLK_N ct_N (N := 200) (pc := 0) (lc := [(0, aR 32)]) (st := []) (s0 := ((32, r, i, j, d), 0, 0)) rfl
def wX3 (σ : SG) : SG := wX3_0 σ
theorem mcX3 {σ : SG} (h : σ.1 = 32) : MCT 30 [] [aR 32] σ (.inl none) (wX3 σ) := mct_of (by decide) (MFok 30 (by decide +kernel)) (fun _ => Nat.le_of_ble_eq_true rfl) (wkX3_0 h)
