/-! CONSTRUCTORS of the parts, without loops -/
def csX7_init_0 : List (Nat × ARow) := [(0, 1, .aload_n 0, 0, 0, 0), (1, 3, .invokespecial 3, 1002, 1, 0), (4, 1, .aload_n 0, 0, 0, 0), (5, 2, .bipush 9, 0, 0, 0), (7, 2, .newarray .int, 0, 0, 0), (9, 3, .putfield 9, 7, 2, 2), (12, 1, .aload_n 0, 0, 0, 0), (13, 2, .bipush 9, 0, 0, 0), (15, 2, .newarray .int, 0, 0, 0), (17, 3, .putfield 15, 7, 3, 2), (20, 1, .aload_n 0, 0, 0, 0), (21, 2, .bipush 9, 0, 0, 0), (23, 2, .newarray .int, 0, 0, 0), (25, 3, .putfield 18, 7, 4, 2), (28, 1, .aload_n 0, 0, 0, 0), (29, 2, .bipush 9, 0, 0, 0), (31, 2, .bipush 9, 0, 0, 0), (33, 4, .multianewarray 21 2, 0, 0, 0), (37, 3, .putfield 23, 7, 10, 2), (40, 1, .aload_n 0, 0, 0, 0), (41, 2, .bipush 9, 0, 0, 0), (43, 2, .newarray .int, 0, 0, 0), (45, 3, .putfield 26, 7, 11, 2), (48, 1, .aload_n 0, 0, 0, 0), (49, 1, .aload_n 1, 0, 0, 0), (50, 3, .putfield 29, 7, 0, 2), (53, 1, .aload_n 0, 0, 0, 0), (54, 1, .aload_n 2, 0, 0, 0), (55, 3, .putfield 33, 7, 1, 2), (58, 1, .return_, 0, 0, 0)]
def csX7_init : List (Nat × List (Nat × ARow)) := [(100000, csX7_init_0)]
theorem rwX7_init : rowsB (mB 63) (mO 63) (mX 63) (mIni 63) (mFr 63) (mLo 63) (mT 63) csX7_init = true := by decide +kernel
def RX7_0 (rz : Nat → Int → Nat) : Nat → Int → Nat := rz
def RX7_1 (rz : Nat → Int → Nat) : Nat → Int → Nat := ((fun σ : SG => uR (uN (σ)) 34 2 35) (34, RX7_0 rz, fun _ _ => 0, fun _ _ => 0, fun _ _ => 0)).2.1
def RX7_2 (rz : Nat → Int → Nat) : Nat → Int → Nat := ((fun σ : SG => uR (uN (σ)) 34 3 36) (35, RX7_1 rz, fun _ _ => 0, fun _ _ => 0, fun _ _ => 0)).2.1
def RX7_3 (rz : Nat → Int → Nat) : Nat → Int → Nat := ((fun σ : SG => uR (uN (σ)) 34 4 37) (36, RX7_2 rz, fun _ _ => 0, fun _ _ => 0, fun _ _ => 0)).2.1
def RX7_4 (rz : Nat → Int → Nat) : Nat → Int → Nat := ((fun σ : SG => uR (uM (σ) 9) 34 10 38) (37, RX7_3 rz, fun _ _ => 0, fun _ _ => 0, fun _ _ => 0)).2.1
def RX7_5 (rz : Nat → Int → Nat) : Nat → Int → Nat := ((fun σ : SG => uR (uN (σ)) 34 11 48) (47, RX7_4 rz, fun _ _ => 0, fun _ _ => 0, fun _ _ => 0)).2.1
def RX7_6 (rz : Nat → Int → Nat) : Nat → Int → Nat := ((fun σ : SG => uR (σ) 34 0 13) (48, RX7_5 rz, fun _ _ => 0, fun _ _ => 0, fun _ _ => 0)).2.1
def wX7_6 (σ : SG) : SG := uR (σ) 34 1 26
set_option maxRecDepth 100000 in
theorem wkX7_6 {σ σ0 : SG} {rz : Nat → Int → Nat} (h : σ.1 = 48) (hr : σ.2.1 = RX7_6 rz) : WK 63 (.inl none) σ0 (wX7_6 σ) 53 [(0, aR 34), (1, aR 13), (2, aR 26)] [] σ 14 126 := by
  obtain ⟨K, r, i, j, d⟩ := σ
  have h : K = 48 := h
  subst h
  have hr : r = RX7_6 rz := hr
  rw [hr]
  exact segK_wk (b := (none, (wX7_6 (48, RX7_6 rz, i, j, d), 14, 126))) rwX7_init ⟨Nat.le_of_ble_eq_true rfl, Nat.le_of_ble_eq_true rfl⟩ (cl := clN) CLK_N ct_N (N := 200) (pc := 53) (lc := [(0, aR 34), (1, aR 13), (2, aR 26)]) (st := []) (s0 := ((48, RX7_6 rz, i, j, d), 14, 126)) rfl
def wX7_5 (σ : SG) : SG := wX7_6 (uR (σ) 34 0 13)
set_option maxRecDepth 100000 in
theorem wkX7_5 {σ σ0 : SG} {rz : Nat → Int → Nat} (h : σ.1 = 48) (hr : σ.2.1 = RX7_5 rz) : WK 63 (.inl none) σ0 (wX7_5 σ) 48 [(0, aR 34), (1, aR 13), (2, aR 26)] [] σ 14 126 := by
  obtain ⟨K, r, i, j, d⟩ := σ
  have h : K = 48 := h
  subst h
  have hr : r = RX7_5 rz := hr
  rw [hr]
  exact segK_to (b := (none, (wX7_5 (48, RX7_5 rz, i, j, d), 14, 126))) rwX7_init ⟨Nat.le_of_ble_eq_true rfl, Nat.le_of_ble_eq_true rfl⟩ (cl := clN) CLK_N (pc2 := 53) (N := 200) (pc := 48) (l0 := [(0, aR 34), (1, aR 13), (2, aR 26)]) (lc := [(0, aR 34), (1, aR 13), (2, aR 26)]) (st0 := []) (st := []) (s1 := ((fun σ : SG => uR (σ) 34 0 13) (48, RX7_5 rz, i, j, d), 14, 126)) (s0 := ((48, RX7_5 rz, i, j, d), 14, 126)) (wkX7_6 (rz := rz) rfl rfl) (fun _ => rfl)
def wX7_4 (σ : SG) : SG := wX7_5 (uR (uN (σ)) 34 11 48)
set_option maxRecDepth 100000 in
theorem wkX7_4 {σ σ0 : SG} {rz : Nat → Int → Nat} (h : σ.1 = 47) (hr : σ.2.1 = RX7_4 rz) : WK 63 (.inl none) σ0 (wX7_4 σ) 40 [(0, aR 34), (1, aR 13), (2, aR 26)] [] σ 13 117 := by
  obtain ⟨K, r, i, j, d⟩ := σ
  have h : K = 47 := h
  subst h
  have hr : r = RX7_4 rz := hr
  rw [hr]
  exact segK_to (b := (none, (wX7_4 (47, RX7_4 rz, i, j, d), 14, 126))) rwX7_init ⟨Nat.le_of_ble_eq_true rfl, Nat.le_of_ble_eq_true rfl⟩ (cl := clN) CLK_N (pc2 := 48) (N := 200) (pc := 40) (l0 := [(0, aR 34), (1, aR 13), (2, aR 26)]) (lc := [(0, aR 34), (1, aR 13), (2, aR 26)]) (st0 := []) (st := []) (s1 := ((fun σ : SG => uR (uN (σ)) 34 11 48) (47, RX7_4 rz, i, j, d), 14, 126)) (s0 := ((47, RX7_4 rz, i, j, d), 13, 117)) (wkX7_5 (rz := rz) rfl rfl) (fun _ => rfl)
def wX7_3 (σ : SG) : SG := wX7_4 (uR (uM (σ) 9) 34 10 38)
set_option maxRecDepth 100000 in
theorem wkX7_3 {σ σ0 : SG} {rz : Nat → Int → Nat} (h : σ.1 = 37) (hr : σ.2.1 = RX7_3 rz) : WK 63 (.inl none) σ0 (wX7_3 σ) 28 [(0, aR 34), (1, aR 13), (2, aR 26)] [] σ 3 27 := by
  obtain ⟨K, r, i, j, d⟩ := σ
  have h : K = 37 := h
  subst h
  have hr : r = RX7_3 rz := hr
  rw [hr]
  exact segK_to (b := (none, (wX7_3 (37, RX7_3 rz, i, j, d), 14, 126))) rwX7_init ⟨Nat.le_of_ble_eq_true rfl, Nat.le_of_ble_eq_true rfl⟩ (cl := clN) CLK_N (pc2 := 40) (N := 200) (pc := 28) (l0 := [(0, aR 34), (1, aR 13), (2, aR 26)]) (lc := [(0, aR 34), (1, aR 13), (2, aR 26)]) (st0 := []) (st := []) (s1 := ((fun σ : SG => uR (uM (σ) 9) 34 10 38) (37, RX7_3 rz, i, j, d), 13, 117)) (s0 := ((37, RX7_3 rz, i, j, d), 3, 27)) (wkX7_4 (rz := rz) rfl rfl) (fun _ => rfl)
def wX7_2 (σ : SG) : SG := wX7_3 (uR (uN (σ)) 34 4 37)
set_option maxRecDepth 100000 in
theorem wkX7_2 {σ σ0 : SG} {rz : Nat → Int → Nat} (h : σ.1 = 36) (hr : σ.2.1 = RX7_2 rz) : WK 63 (.inl none) σ0 (wX7_2 σ) 20 [(0, aR 34), (1, aR 13), (2, aR 26)] [] σ 2 18 := by
  obtain ⟨K, r, i, j, d⟩ := σ
  have h : K = 36 := h
  subst h
  have hr : r = RX7_2 rz := hr
  rw [hr]
  exact segK_to (b := (none, (wX7_2 (36, RX7_2 rz, i, j, d), 14, 126))) rwX7_init ⟨Nat.le_of_ble_eq_true rfl, Nat.le_of_ble_eq_true rfl⟩ (cl := clN) CLK_N (pc2 := 28) (N := 200) (pc := 20) (l0 := [(0, aR 34), (1, aR 13), (2, aR 26)]) (lc := [(0, aR 34), (1, aR 13), (2, aR 26)]) (st0 := []) (st := []) (s1 := ((fun σ : SG => uR (uN (σ)) 34 4 37) (36, RX7_2 rz, i, j, d), 3, 27)) (s0 := ((36, RX7_2 rz, i, j, d), 2, 18)) (wkX7_3 (rz := rz) rfl rfl) (fun _ => rfl)
def wX7_1 (σ : SG) : SG := wX7_2 (uR (uN (σ)) 34 3 36)
set_option maxRecDepth 100000 in
theorem wkX7_1 {σ σ0 : SG} {rz : Nat → Int → Nat} (h : σ.1 = 35) (hr : σ.2.1 = RX7_1 rz) : WK 63 (.inl none) σ0 (wX7_1 σ) 12 [(0, aR 34), (1, aR 13), (2, aR 26)] [] σ 1 9 := by
  obtain ⟨K, r, i, j, d⟩ := σ
  have h : K = 35 := h
  subst h
  have hr : r = RX7_1 rz := hr
  rw [hr]
  exact segK_to (b := (none, (wX7_1 (35, RX7_1 rz, i, j, d), 14, 126))) rwX7_init ⟨Nat.le_of_ble_eq_true rfl, Nat.le_of_ble_eq_true rfl⟩ (cl := clN) CLK_N (pc2 := 20) (N := 200) (pc := 12) (l0 := [(0, aR 34), (1, aR 13), (2, aR 26)]) (lc := [(0, aR 34), (1, aR 13), (2, aR 26)]) (st0 := []) (st := []) (s1 := ((fun σ : SG => uR (uN (σ)) 34 3 36) (35, RX7_1 rz, i, j, d), 2, 18)) (s0 := ((35, RX7_1 rz, i, j, d), 1, 9)) (wkX7_2 (rz := rz) rfl rfl) (fun _ => rfl)
def wX7_0 (σ : SG) : SG := wX7_1 (uR (uN (σ)) 34 2 35)
set_option maxRecDepth 100000 in
theorem wkX7_0 {σ σ0 : SG} (h : σ.1 = 34) : WK 63 (.inl none) σ0 (wX7_0 σ) 0 [(0, aR 34), (1, aR 13), (2, aR 26)] [] σ 0 0 := by
  obtain ⟨K, r, i, j, d⟩ := σ
  have h : K = 34 := h
  subst h
  exact segK_to (b := (none, (wX7_0 (34, r, i, j, d), 14, 126))) rwX7_init ⟨Nat.le_of_ble_eq_true rfl, Nat.le_of_ble_eq_true rfl⟩ (cl := clN) CLK_N (pc2 := 12) (N := 200) (pc := 0) (l0 := [(0, aR 34), (1, aR 13), (2, aR 26)]) (lc := [(0, aR 34), (1, aR 13), (2, aR 26)]) (st0 := []) (st := []) (s1 := ((fun σ : SG => uR (uN (σ)) 34 2 35) (34, r, i, j, d), 1, 9)) (s0 := ((34, r, i, j, d), 0, 0)) (wkX7_1 (rz := r) rfl rfl) (fun _ => rfl)
def wX7 (σ : SG) : SG := wX7_0 σ
theorem mcX7 {σ : SG} (h : σ.1 = 34) : MCT 63 [] [aR 34, aR 13, aR 26] σ (.inl none) (wX7 σ) := mct_of (by decide) (MFok 63 (by decide +kernel)) (fun _ => Nat.le_of_ble_eq_true rfl) (wkX7_0 h)
