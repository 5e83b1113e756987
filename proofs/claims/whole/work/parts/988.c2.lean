/-! CONSTRUCTORS of the parts, without loops -/
def csX2_init_0 : List (Nat × ARow) := [(0, 1, .aload_n 0, 0, 0, 0), (1, 3, .invokespecial 3, 1002, 1, 0), (4, 1, .aload_n 0, 0, 0, 0), (5, 2, .bipush 9, 0, 0, 0), (7, 2, .newarray .int, 0, 0, 0), (9, 3, .putfield 9, 2, 1, 2), (12, 1, .aload_n 0, 0, 0, 0), (13, 2, .bipush 9, 0, 0, 0), (15, 2, .newarray .int, 0, 0, 0), (17, 3, .putfield 15, 2, 2, 2), (20, 1, .aload_n 0, 0, 0, 0), (21, 2, .bipush 9, 0, 0, 0), (23, 2, .newarray .int, 0, 0, 0), (25, 3, .putfield 18, 2, 3, 2), (28, 1, .aload_n 0, 0, 0, 0), (29, 2, .bipush 9, 0, 0, 0), (31, 2, .newarray .int, 0, 0, 0), (33, 3, .putfield 21, 2, 4, 2), (36, 1, .aload_n 0, 0, 0, 0), (37, 2, .bipush 9, 0, 0, 0), (39, 2, .newarray .int, 0, 0, 0), (41, 3, .putfield 24, 2, 5, 2), (44, 1, .aload_n 0, 0, 0, 0), (45, 2, .bipush 9, 0, 0, 0), (47, 2, .newarray .int, 0, 0, 0), (49, 3, .putfield 27, 2, 6, 2), (52, 1, .aload_n 0, 0, 0, 0), (53, 2, .bipush 9, 0, 0, 0), (55, 2, .newarray .int, 0, 0, 0), (57, 3, .putfield 30, 2, 7, 2), (60, 1, .aload_n 0, 0, 0, 0), (61, 2, .bipush 9, 0, 0, 0), (63, 2, .newarray .int, 0, 0, 0), (65, 3, .putfield 33, 2, 8, 2), (68, 1, .aload_n 0, 0, 0, 0), (69, 2, .bipush 9, 0, 0, 0), (71, 2, .newarray .int, 0, 0, 0), (73, 3, .putfield 36, 2, 9, 2), (76, 1, .aload_n 0, 0, 0, 0), (77, 1, .iconst 3, 0, 0, 0)]
def csX2_init_1 : List (Nat × ARow) := [(78, 2, .newarray .int, 0, 0, 0), (80, 3, .putfield 39, 2, 11, 2), (83, 1, .aload_n 0, 0, 0, 0), (84, 1, .iconst 3, 0, 0, 0), (85, 2, .newarray .int, 0, 0, 0), (87, 3, .putfield 42, 2, 12, 2), (90, 1, .aload_n 0, 0, 0, 0), (91, 1, .iconst 3, 0, 0, 0), (92, 2, .newarray .int, 0, 0, 0), (94, 3, .putfield 45, 2, 13, 2), (97, 1, .aload_n 0, 0, 0, 0), (98, 1, .aload_n 1, 0, 0, 0), (99, 3, .putfield 48, 2, 0, 2), (102, 1, .return_, 0, 0, 0)]
def csX2_init : List (Nat × List (Nat × ARow)) := [(78, csX2_init_0), (100000, csX2_init_1)]
theorem rwX2_init : rowsB (mB 24) (mO 24) (mX 24) (mIni 24) (mFr 24) (mLo 24) (mT 24) csX2_init = true := by decide +kernel
def RX2_0 (rz : Nat → Int → Nat) : Nat → Int → Nat := rz
def RX2_1 (rz : Nat → Int → Nat) : Nat → Int → Nat := ((fun σ : SG => uR (uN (σ)) 13 1 14) (13, RX2_0 rz, fun _ _ => 0, fun _ _ => 0, fun _ _ => 0)).2.1
def RX2_2 (rz : Nat → Int → Nat) : Nat → Int → Nat := ((fun σ : SG => uR (uN (σ)) 13 2 15) (14, RX2_1 rz, fun _ _ => 0, fun _ _ => 0, fun _ _ => 0)).2.1
def RX2_3 (rz : Nat → Int → Nat) : Nat → Int → Nat := ((fun σ : SG => uR (uN (σ)) 13 3 16) (15, RX2_2 rz, fun _ _ => 0, fun _ _ => 0, fun _ _ => 0)).2.1
def RX2_4 (rz : Nat → Int → Nat) : Nat → Int → Nat := ((fun σ : SG => uR (uN (σ)) 13 4 17) (16, RX2_3 rz, fun _ _ => 0, fun _ _ => 0, fun _ _ => 0)).2.1
def RX2_5 (rz : Nat → Int → Nat) : Nat → Int → Nat := ((fun σ : SG => uR (uN (σ)) 13 5 18) (17, RX2_4 rz, fun _ _ => 0, fun _ _ => 0, fun _ _ => 0)).2.1
def RX2_6 (rz : Nat → Int → Nat) : Nat → Int → Nat := ((fun σ : SG => uR (uN (σ)) 13 6 19) (18, RX2_5 rz, fun _ _ => 0, fun _ _ => 0, fun _ _ => 0)).2.1
def RX2_7 (rz : Nat → Int → Nat) : Nat → Int → Nat := ((fun σ : SG => uR (uN (σ)) 13 7 20) (19, RX2_6 rz, fun _ _ => 0, fun _ _ => 0, fun _ _ => 0)).2.1
def RX2_8 (rz : Nat → Int → Nat) : Nat → Int → Nat := ((fun σ : SG => uR (uN (σ)) 13 8 21) (20, RX2_7 rz, fun _ _ => 0, fun _ _ => 0, fun _ _ => 0)).2.1
def RX2_9 (rz : Nat → Int → Nat) : Nat → Int → Nat := ((fun σ : SG => uR (uN (σ)) 13 9 22) (21, RX2_8 rz, fun _ _ => 0, fun _ _ => 0, fun _ _ => 0)).2.1
def RX2_10 (rz : Nat → Int → Nat) : Nat → Int → Nat := ((fun σ : SG => uR (uN (σ)) 13 11 23) (22, RX2_9 rz, fun _ _ => 0, fun _ _ => 0, fun _ _ => 0)).2.1
def RX2_11 (rz : Nat → Int → Nat) : Nat → Int → Nat := ((fun σ : SG => uR (uN (σ)) 13 12 24) (23, RX2_10 rz, fun _ _ => 0, fun _ _ => 0, fun _ _ => 0)).2.1
def RX2_12 (rz : Nat → Int → Nat) : Nat → Int → Nat := ((fun σ : SG => uR (uN (σ)) 13 13 25) (24, RX2_11 rz, fun _ _ => 0, fun _ _ => 0, fun _ _ => 0)).2.1
def wX2_12 (σ : SG) : SG := uR (σ) 13 0 3
set_option maxRecDepth 100000 in
theorem wkX2_12 {σ σ0 : SG} {rz : Nat → Int → Nat} (h : σ.1 = 25) (hr : σ.2.1 = RX2_12 rz) : WK 24 (.inl none) σ0 (wX2_12 σ) 97 [(0, aR 13), (1, aR 3)] [] σ 12 90 := by
  obtain ⟨K, r, i, j, d⟩ := σ
  have h : K = 25 := h
  subst h
  have hr : r = RX2_12 rz := hr
  rw [hr]
  exact segK_wk (b := (none, (wX2_12 (25, RX2_12 rz, i, j, d), 12, 90))) rwX2_init ⟨Nat.le_of_ble_eq_true rfl, Nat.le_of_ble_eq_true rfl⟩ (cl := clN) CLK_N ct_N (N := 200) (pc := 97) (lc := [(0, aR 13), (1, aR 3)]) (st := []) (s0 := ((25, RX2_12 rz, i, j, d), 12, 90)) rfl
def wX2_11 (σ : SG) : SG := wX2_12 (uR (uN (σ)) 13 13 25)
set_option maxRecDepth 100000 in
theorem wkX2_11 {σ σ0 : SG} {rz : Nat → Int → Nat} (h : σ.1 = 24) (hr : σ.2.1 = RX2_11 rz) : WK 24 (.inl none) σ0 (wX2_11 σ) 90 [(0, aR 13), (1, aR 3)] [] σ 11 87 := by
  obtain ⟨K, r, i, j, d⟩ := σ
  have h : K = 24 := h
  subst h
  have hr : r = RX2_11 rz := hr
  rw [hr]
  exact segK_to (b := (none, (wX2_11 (24, RX2_11 rz, i, j, d), 12, 90))) rwX2_init ⟨Nat.le_of_ble_eq_true rfl, Nat.le_of_ble_eq_true rfl⟩ (cl := clN) CLK_N (pc2 := 97) (N := 200) (pc := 90) (l0 := [(0, aR 13), (1, aR 3)]) (lc := [(0, aR 13), (1, aR 3)]) (st0 := []) (st := []) (s1 := ((fun σ : SG => uR (uN (σ)) 13 13 25) (24, RX2_11 rz, i, j, d), 12, 90)) (s0 := ((24, RX2_11 rz, i, j, d), 11, 87)) (wkX2_12 (rz := rz) rfl rfl) (fun _ => rfl)
def wX2_10 (σ : SG) : SG := wX2_11 (uR (uN (σ)) 13 12 24)
set_option maxRecDepth 100000 in
theorem wkX2_10 {σ σ0 : SG} {rz : Nat → Int → Nat} (h : σ.1 = 23) (hr : σ.2.1 = RX2_10 rz) : WK 24 (.inl none) σ0 (wX2_10 σ) 83 [(0, aR 13), (1, aR 3)] [] σ 10 84 := by
  obtain ⟨K, r, i, j, d⟩ := σ
  have h : K = 23 := h
  subst h
  have hr : r = RX2_10 rz := hr
  rw [hr]
  exact segK_to (b := (none, (wX2_10 (23, RX2_10 rz, i, j, d), 12, 90))) rwX2_init ⟨Nat.le_of_ble_eq_true rfl, Nat.le_of_ble_eq_true rfl⟩ (cl := clN) CLK_N (pc2 := 90) (N := 200) (pc := 83) (l0 := [(0, aR 13), (1, aR 3)]) (lc := [(0, aR 13), (1, aR 3)]) (st0 := []) (st := []) (s1 := ((fun σ : SG => uR (uN (σ)) 13 12 24) (23, RX2_10 rz, i, j, d), 11, 87)) (s0 := ((23, RX2_10 rz, i, j, d), 10, 84)) (wkX2_11 (rz := rz) rfl rfl) (fun _ => rfl)
def wX2_9 (σ : SG) : SG := wX2_10 (uR (uN (σ)) 13 11 23)
set_option maxRecDepth 100000 in
theorem wkX2_9 {σ σ0 : SG} {rz : Nat → Int → Nat} (h : σ.1 = 22) (hr : σ.2.1 = RX2_9 rz) : WK 24 (.inl none) σ0 (wX2_9 σ) 76 [(0, aR 13), (1, aR 3)] [] σ 9 81 := by
  obtain ⟨K, r, i, j, d⟩ := σ
  have h : K = 22 := h
  subst h
  have hr : r = RX2_9 rz := hr
  rw [hr]
  exact segK_to (b := (none, (wX2_9 (22, RX2_9 rz, i, j, d), 12, 90))) rwX2_init ⟨Nat.le_of_ble_eq_true rfl, Nat.le_of_ble_eq_true rfl⟩ (cl := clN) CLK_N (pc2 := 83) (N := 200) (pc := 76) (l0 := [(0, aR 13), (1, aR 3)]) (lc := [(0, aR 13), (1, aR 3)]) (st0 := []) (st := []) (s1 := ((fun σ : SG => uR (uN (σ)) 13 11 23) (22, RX2_9 rz, i, j, d), 10, 84)) (s0 := ((22, RX2_9 rz, i, j, d), 9, 81)) (wkX2_10 (rz := rz) rfl rfl) (fun _ => rfl)
def wX2_8 (σ : SG) : SG := wX2_9 (uR (uN (σ)) 13 9 22)
set_option maxRecDepth 100000 in
theorem wkX2_8 {σ σ0 : SG} {rz : Nat → Int → Nat} (h : σ.1 = 21) (hr : σ.2.1 = RX2_8 rz) : WK 24 (.inl none) σ0 (wX2_8 σ) 68 [(0, aR 13), (1, aR 3)] [] σ 8 72 := by
  obtain ⟨K, r, i, j, d⟩ := σ
  have h : K = 21 := h
  subst h
  have hr : r = RX2_8 rz := hr
  rw [hr]
  exact segK_to (b := (none, (wX2_8 (21, RX2_8 rz, i, j, d), 12, 90))) rwX2_init ⟨Nat.le_of_ble_eq_true rfl, Nat.le_of_ble_eq_true rfl⟩ (cl := clN) CLK_N (pc2 := 76) (N := 200) (pc := 68) (l0 := [(0, aR 13), (1, aR 3)]) (lc := [(0, aR 13), (1, aR 3)]) (st0 := []) (st := []) (s1 := ((fun σ : SG => uR (uN (σ)) 13 9 22) (21, RX2_8 rz, i, j, d), 9, 81)) (s0 := ((21, RX2_8 rz, i, j, d), 8, 72)) (wkX2_9 (rz := rz) rfl rfl) (fun _ => rfl)
def wX2_7 (σ : SG) : SG := wX2_8 (uR (uN (σ)) 13 8 21)
set_option maxRecDepth 100000 in
theorem wkX2_7 {σ σ0 : SG} {rz : Nat → Int → Nat} (h : σ.1 = 20) (hr : σ.2.1 = RX2_7 rz) : WK 24 (.inl none) σ0 (wX2_7 σ) 60 [(0, aR 13), (1, aR 3)] [] σ 7 63 := by
  obtain ⟨K, r, i, j, d⟩ := σ
  have h : K = 20 := h
  subst h
  have hr : r = RX2_7 rz := hr
  rw [hr]
  exact segK_to (b := (none, (wX2_7 (20, RX2_7 rz, i, j, d), 12, 90))) rwX2_init ⟨Nat.le_of_ble_eq_true rfl, Nat.le_of_ble_eq_true rfl⟩ (cl := clN) CLK_N (pc2 := 68) (N := 200) (pc := 60) (l0 := [(0, aR 13), (1, aR 3)]) (lc := [(0, aR 13), (1, aR 3)]) (st0 := []) (st := []) (s1 := ((fun σ : SG => uR (uN (σ)) 13 8 21) (20, RX2_7 rz, i, j, d), 8, 72)) (s0 := ((20, RX2_7 rz, i, j, d), 7, 63)) (wkX2_8 (rz := rz) rfl rfl) (fun _ => rfl)
def wX2_6 (σ : SG) : SG := wX2_7 (uR (uN (σ)) 13 7 20)
set_option maxRecDepth 100000 in
theorem wkX2_6 {σ σ0 : SG} {rz : Nat → Int → Nat} (h : σ.1 = 19) (hr : σ.2.1 = RX2_6 rz) : WK 24 (.inl none) σ0 (wX2_6 σ) 52 [(0, aR 13), (1, aR 3)] [] σ 6 54 := by
  obtain ⟨K, r, i, j, d⟩ := σ
  have h : K = 19 := h
  subst h
  have hr : r = RX2_6 rz := hr
  rw [hr]
  exact segK_to (b := (none, (wX2_6 (19, RX2_6 rz, i, j, d), 12, 90))) rwX2_init ⟨Nat.le_of_ble_eq_true rfl, Nat.le_of_ble_eq_true rfl⟩ (cl := clN) CLK_N (pc2 := 60) (N := 200) (pc := 52) (l0 := [(0, aR 13), (1, aR 3)]) (lc := [(0, aR 13), (1, aR 3)]) (st0 := []) (st := []) (s1 := ((fun σ : SG => uR (uN (σ)) 13 7 20) (19, RX2_6 rz, i, j, d), 7, 63)) (s0 := ((19, RX2_6 rz, i, j, d), 6, 54)) (wkX2_7 (rz := rz) rfl rfl) (fun _ => rfl)
def wX2_5 (σ : SG) : SG := wX2_6 (uR (uN (σ)) 13 6 19)
set_option maxRecDepth 100000 in
theorem wkX2_5 {σ σ0 : SG} {rz : Nat → Int → Nat} (h : σ.1 = 18) (hr : σ.2.1 = RX2_5 rz) : WK 24 (.inl none) σ0 (wX2_5 σ) 44 [(0, aR 13), (1, aR 3)] [] σ 5 45 := by
  obtain ⟨K, r, i, j, d⟩ := σ
  have h : K = 18 := h
  subst h
  have hr : r = RX2_5 rz := hr
  rw [hr]
  exact segK_to (b := (none, (wX2_5 (18, RX2_5 rz, i, j, d), 12, 90))) rwX2_init ⟨Nat.le_of_ble_eq_true rfl, Nat.le_of_ble_eq_true rfl⟩ (cl := clN) CLK_N (pc2 := 52) (N := 200) (pc := 44) (l0 := [(0, aR 13), (1, aR 3)]) (lc := [(0, aR 13), (1, aR 3)]) (st0 := []) (st := []) (s1 := ((fun σ : SG => uR (uN (σ)) 13 6 19) (18, RX2_5 rz, i, j, d), 6, 54)) (s0 := ((18, RX2_5 rz, i, j, d), 5, 45)) (wkX2_6 (rz := rz) rfl rfl) (fun _ => rfl)
def wX2_4 (σ : SG) : SG := wX2_5 (uR (uN (σ)) 13 5 18)
set_option maxRecDepth 100000 in
theorem wkX2_4 {σ σ0 : SG} {rz : Nat → Int → Nat} (h : σ.1 = 17) (hr : σ.2.1 = RX2_4 rz) : WK 24 (.inl none) σ0 (wX2_4 σ) 36 [(0, aR 13), (1, aR 3)] [] σ 4 36 := by
  obtain ⟨K, r, i, j, d⟩ := σ
  have h : K = 17 := h
  subst h
  have hr : r = RX2_4 rz := hr
  rw [hr]
  exact segK_to (b := (none, (wX2_4 (17, RX2_4 rz, i, j, d), 12, 90))) rwX2_init ⟨Nat.le_of_ble_eq_true rfl, Nat.le_of_ble_eq_true rfl⟩ (cl := clN) CLK_N (pc2 := 44) (N := 200) (pc := 36) (l0 := [(0, aR 13), (1, aR 3)]) (lc := [(0, aR 13), (1, aR 3)]) (st0 := []) (st := []) (s1 := ((fun σ : SG => uR (uN (σ)) 13 5 18) (17, RX2_4 rz, i, j, d), 5, 45)) (s0 := ((17, RX2_4 rz, i, j, d), 4, 36)) (wkX2_5 (rz := rz) rfl rfl) (fun _ => rfl)
def wX2_3 (σ : SG) : SG := wX2_4 (uR (uN (σ)) 13 4 17)
set_option maxRecDepth 100000 in
theorem wkX2_3 {σ σ0 : SG} {rz : Nat → Int → Nat} (h : σ.1 = 16) (hr : σ.2.1 = RX2_3 rz) : WK 24 (.inl none) σ0 (wX2_3 σ) 28 [(0, aR 13), (1, aR 3)] [] σ 3 27 := by
  obtain ⟨K, r, i, j, d⟩ := σ
  have h : K = 16 := h
  subst h
  have hr : r = RX2_3 rz := hr
  rw [hr]
  exact segK_to (b := (none, (wX2_3 (16, RX2_3 rz, i, j, d), 12, 90))) rwX2_init ⟨Nat.le_of_ble_eq_true rfl, Nat.le_of_ble_eq_true rfl⟩ (cl := clN) CLK_N (pc2 := 36) (N := 200) (pc := 28) (l0 := [(0, aR 13), (1, aR 3)]) (lc := [(0, aR 13), (1, aR 3)]) (st0 := []) (st := []) (s1 := ((fun σ : SG => uR (uN (σ)) 13 4 17) (16, RX2_3 rz, i, j, d), 4, 36)) (s0 := ((16, RX2_3 rz, i, j, d), 3, 27)) (wkX2_4 (rz := rz) rfl rfl) (fun _ => rfl)
def wX2_2 (σ : SG) : SG := wX2_3 (uR (uN (σ)) 13 3 16)
set_option maxRecDepth 100000 in
theorem wkX2_2 {σ σ0 : SG} {rz : Nat → Int → Nat} (h : σ.1 = 15) (hr : σ.2.1 = RX2_2 rz) : WK 24 (.inl none) σ0 (wX2_2 σ) 20 [(0, aR 13), (1, aR 3)] [] σ 2 18 := by
  obtain ⟨K, r, i, j, d⟩ := σ
  have h : K = 15 := h
  subst h
  have hr : r = RX2_2 rz := hr
  rw [hr]
  exact segK_to (b := (none, (wX2_2 (15, RX2_2 rz, i, j, d), 12, 90))) rwX2_init ⟨Nat.le_of_ble_eq_true rfl, Nat.le_of_ble_eq_true rfl⟩ (cl := clN) CLK_N (pc2 := 28) (N := 200) (pc := 20) (l0 := [(0, aR 13), (1, aR 3)]) (lc := [(0, aR 13), (1, aR 3)]) (st0 := []) (st := []) (s1 := ((fun σ : SG => uR (uN (σ)) 13 3 16) (15, RX2_2 rz, i, j, d), 3, 27)) (s0 := ((15, RX2_2 rz, i, j, d), 2, 18)) (wkX2_3 (rz := rz) rfl rfl) (fun _ => rfl)
def wX2_1 (σ : SG) : SG := wX2_2 (uR (uN (σ)) 13 2 15)
set_option maxRecDepth 100000 in
theorem wkX2_1 {σ σ0 : SG} {rz : Nat → Int → Nat} (h : σ.1 = 14) (hr : σ.2.1 = RX2_1 rz) : WK 24 (.inl none) σ0 (wX2_1 σ) 12 [(0, aR 13), (1, aR 3)] [] σ 1 9 := by
  obtain ⟨K, r, i, j, d⟩ := σ
  have h : K = 14 := h
  subst h
  have hr : r = RX2_1 rz := hr
  rw [hr]
  exact segK_to (b := (none, (wX2_1 (14, RX2_1 rz, i, j, d), 12, 90))) rwX2_init ⟨Nat.le_of_ble_eq_true rfl, Nat.le_of_ble_eq_true rfl⟩ (cl := clN) CLK_N (pc2 := 20) (N := 200) (pc := 12) (l0 := [(0, aR 13), (1, aR 3)]) (lc := [(0, aR 13), (1, aR 3)]) (st0 := []) (st := []) (s1 := ((fun σ : SG => uR (uN (σ)) 13 2 15) (14, RX2_1 rz, i, j, d), 2, 18)) (s0 := ((14, RX2_1 rz, i, j, d), 1, 9)) (wkX2_2 (rz := rz) rfl rfl) (fun _ => rfl)
def wX2_0 (σ : SG) : SG := wX2_1 (uR (uN (σ)) 13 1 14)
set_option maxRecDepth 100000 in
theorem wkX2_0 {σ σ0 : SG} (h : σ.1 = 13) : WK 24 (.inl none) σ0 (wX2_0 σ) 0 [(0, aR 13), (1, aR 3)] [] σ 0 0 := by
  obtain ⟨K, r, i, j, d⟩ := σ
  have h : K = 13 := h
  subst h
  exact segK_to (b := (none, (wX2_0 (13, r, i, j, d), 12, 90))) rwX2_init ⟨Nat.le_of_ble_eq_true rfl, Nat.le_of_ble_eq_true rfl⟩ (cl := clN) CLK_N (pc2 := 12) (N := 200) (pc := 0) (l0 := [(0, aR 13), (1, aR 3)]) (lc := [(0, aR 13), (1, aR 3)]) (st0 := []) (st := []) (s1 := ((fun σ : SG => uR (uN (σ)) 13 1 14) (13, r, i, j, d), 1, 9)) (s0 := ((13, r, i, j, d), 0, 0)) (wkX2_1 (rz := r) rfl rfl) (fun _ => rfl)
def wX2 (σ : SG) : SG := wX2_0 σ
theorem mcX2 {σ : SG} (h : σ.1 = 13) : MCT 24 [] [aR 13, aR 3] σ (.inl none) (wX2 σ) := mct_of (by decide) (MFok 24 (by decide +kernel)) (fun _ => Nat.le_of_ble_eq_true rfl) (wkX2_0 h)
