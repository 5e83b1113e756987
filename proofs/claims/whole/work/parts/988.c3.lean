/-! CONSTRUCTORS of the parts, without loops -/
def csX1_init_0 : List (Nat × ARow) := [(0, 1, .aload_n 0, 0, 0, 0), (1, 3, .invokespecial 3, 1002, 1, 0), (4, 1, .aload_n 0, 0, 0, 0), (5, 2, .bipush 9, 0, 0, 0), (7, 2, .newarray .int, 0, 0, 0), (9, 3, .putfield 9, 1, 1, 2), (12, 1, .aload_n 0, 0, 0, 0), (13, 3, .sipush 4608, 0, 0, 0), (16, 2, .newarray .int, 0, 0, 0), (18, 3, .putfield 15, 1, 3, 2), (21, 1, .aload_n 0, 0, 0, 0), (22, 3, .sipush 4608, 0, 0, 0), (25, 2, .newarray .int, 0, 0, 0), (27, 3, .putfield 18, 1, 4, 2), (30, 1, .aload_n 0, 0, 0, 0), (31, 1, .aload_n 1, 0, 0, 0), (32, 3, .putfield 21, 1, 0, 2), (35, 1, .return_, 0, 0, 0)]
def csX1_init : List (Nat × List (Nat × ARow)) := [(100000, csX1_init_0)]
theorem rwX1_init : rowsB (mB 10) (mO 10) (mX 10) (mIni 10) (mFr 10) (mLo 10) (mT 10) csX1_init = true := by decide +kernel
def RX1_0 (rz : Nat → Int → Nat) : Nat → Int → Nat := rz
def RX1_1 (rz : Nat → Int → Nat) : Nat → Int → Nat := ((fun σ : SG => uR (uN (σ)) 49 1 50) (49, RX1_0 rz, fun _ _ => 0, fun _ _ => 0, fun _ _ => 0)).2.1
def RX1_2 (rz : Nat → Int → Nat) : Nat → Int → Nat := ((fun σ : SG => uR (uN (σ)) 49 3 51) (50, RX1_1 rz, fun _ _ => 0, fun _ _ => 0, fun _ _ => 0)).2.1
def RX1_3 (rz : Nat → Int → Nat) : Nat → Int → Nat := ((fun σ : SG => uR (uN (σ)) 49 4 52) (51, RX1_2 rz, fun _ _ => 0, fun _ _ => 0, fun _ _ => 0)).2.1
def wX1_3 (σ : SG) : SG := uR (σ) 49 0 13
set_option maxRecDepth 100000 in
theorem wkX1_3 {σ σ0 : SG} {rz : Nat → Int → Nat} (h : σ.1 = 52) (hr : σ.2.1 = RX1_3 rz) : WK 10 (.inl none) σ0 (wX1_3 σ) 30 [(0, aR 49), (1, aR 13)] [] σ 3 9225 := by
  obtain ⟨K, r, i, j, d⟩ := σ
  have h : K = 52 := h
  subst h
  have hr : r = RX1_3 rz := hr
  rw [hr]
  exact segK_wk (b := (none, (wX1_3 (52, RX1_3 rz, i, j, d), 3, 9225))) rwX1_init ⟨Nat.le_of_ble_eq_true rfl, Nat.le_of_ble_eq_true rfl⟩ (cl := clN) CLK_N ct_N (N := 200) (pc := 30) (lc := [(0, aR 49), (1, aR 13)]) (st := []) (s0 := ((52, RX1_3 rz, i, j, d), 3, 9225)) rfl
def wX1_2 (σ : SG) : SG := wX1_3 (uR (uN (σ)) 49 4 52)
set_option maxRecDepth 100000 in
theorem wkX1_2 {σ σ0 : SG} {rz : Nat → Int → Nat} (h : σ.1 = 51) (hr : σ.2.1 = RX1_2 rz) : WK 10 (.inl none) σ0 (wX1_2 σ) 21 [(0, aR 49), (1, aR 13)] [] σ 2 4617 := by
  obtain ⟨K, r, i, j, d⟩ := σ
  have h : K = 51 := h
  subst h
  have hr : r = RX1_2 rz := hr
  rw [hr]
  exact segK_to (b := (none, (wX1_2 (51, RX1_2 rz, i, j, d), 3, 9225))) rwX1_init ⟨Nat.le_of_ble_eq_true rfl, Nat.le_of_ble_eq_true rfl⟩ (cl := clN) CLK_N (pc2 := 30) (N := 200) (pc := 21) (l0 := [(0, aR 49), (1, aR 13)]) (lc := [(0, aR 49), (1, aR 13)]) (st0 := []) (st := []) (s1 := ((fun σ : SG => uR (uN (σ)) 49 4 52) (51, RX1_2 rz, i, j, d), 3, 9225)) (s0 := ((51, RX1_2 rz, i, j, d), 2, 4617)) (wkX1_3 (rz := rz) rfl rfl) (fun _ => rfl)
def wX1_1 (σ : SG) : SG := wX1_2 (uR (uN (σ)) 49 3 51)
set_option maxRecDepth 100000 in
theorem wkX1_1 {σ σ0 : SG} {rz : Nat → Int → Nat} (h : σ.1 = 50) (hr : σ.2.1 = RX1_1 rz) : WK 10 (.inl none) σ0 (wX1_1 σ) 12 [(0, aR 49), (1, aR 13)] [] σ 1 9 := by
  obtain ⟨K, r, i, j, d⟩ := σ
  have h : K = 50 := h
  subst h
  have hr : r = RX1_1 rz := hr
  rw [hr]
  exact segK_to (b := (none, (wX1_1 (50, RX1_1 rz, i, j, d), 3, 9225))) rwX1_init ⟨Nat.le_of_ble_eq_true rfl, Nat.le_of_ble_eq_true rfl⟩ (cl := clN) CLK_N (pc2 := 21) (N := 200) (pc := 12) (l0 := [(0, aR 49), (1, aR 13)]) (lc := [(0, aR 49), (1, aR 13)]) (st0 := []) (st := []) (s1 := ((fun σ : SG => uR (uN (σ)) 49 3 51) (50, RX1_1 rz, i, j, d), 2, 4617)) (s0 := ((50, RX1_1 rz, i, j, d), 1, 9)) (wkX1_2 (rz := rz) rfl rfl) (fun _ => rfl)
def wX1_0 (σ : SG) : SG := wX1_1 (uR (uN (σ)) 49 1 50)
set_option maxRecDepth 100000 in
theorem wkX1_0 {σ σ0 : SG} (h : σ.1 = 49) : WK 10 (.inl none) σ0 (wX1_0 σ) 0 [(0, aR 49), (1, aR 13)] [] σ 0 0 := by
  obtain ⟨K, r, i, j, d⟩ := σ
  have h : K = 49 := h
  subst h
  exact segK_to (b := (none, (wX1_0 (49, r, i, j, d), 3, 9225))) rwX1_init ⟨Nat.le_of_ble_eq_true rfl, Nat.le_of_ble_eq_true rfl⟩ (cl := clN) CLK_N (pc2 := 12) (N := 200) (pc := 0) (l0 := [(0, aR 49), (1, aR 13)]) (lc := [(0, aR 49), (1, aR 13)]) (st0 := []) (st := []) (s1 := ((fun σ : SG => uR (uN (σ)) 49 1 50) (49, r, i, j, d), 1, 9)) (s0 := ((49, r, i, j, d), 0, 0)) (wkX1_1 (rz := r) rfl rfl) (fun _ => rfl)
def wX1 (σ : SG) : SG := wX1_0 σ
theorem mcX1 {σ : SG} (h : σ.1 = 49) : MCT 10 [] [aR 49, aR 13] σ (.inl none) (wX1 σ) := mct_of (by decide) (MFok 10 (by decide +kernel)) (fun _ => Nat.le_of_ble_eq_true rfl) (wkX1_0 h)
