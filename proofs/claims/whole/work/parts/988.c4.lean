/-! CONSTRUCTORS of the parts, without loops -/
def csX0_init_0 : List (Nat × ARow) := [(0, 1, .aload_n 0, 0, 0, 0), (1, 3, .invokespecial 3, 1002, 1, 0), (4, 1, .aload_n 0, 0, 0, 0), (5, 2, .bipush 16, 0, 0, 0), (7, 2, .newarray .int, 0, 0, 0), (9, 3, .putfield 9, 0, 1, 2), (12, 1, .aload_n 0, 0, 0, 0), (13, 2, .bipush 16, 0, 0, 0), (15, 2, .newarray .int, 0, 0, 0), (17, 3, .putfield 15, 0, 2, 2), (20, 1, .aload_n 0, 0, 0, 0), (21, 2, .bipush 16, 0, 0, 0), (23, 2, .newarray .int, 0, 0, 0), (25, 3, .putfield 18, 0, 4, 2), (28, 1, .aload_n 0, 0, 0, 0), (29, 1, .iconst 3, 0, 0, 0), (30, 2, .newarray .int, 0, 0, 0), (32, 3, .putfield 21, 0, 5, 2), (35, 1, .aload_n 0, 0, 0, 0), (36, 1, .aload_n 1, 0, 0, 0), (37, 3, .putfield 24, 0, 0, 2), (40, 1, .aload_n 0, 0, 0, 0), (41, 3, .getfield 18, 0, 4, 2), (44, 1, .iconst 0, 0, 0, 0), (45, 1, .iconst (-1), 0, 0, 0), (46, 1, .iastore, 0, 0, 0), (47, 1, .return_, 0, 0, 0)]
def csX0_init : List (Nat × List (Nat × ARow)) := [(100000, csX0_init_0)]
theorem rwX0_init : rowsB (mB 0) (mO 0) (mX 0) (mIni 0) (mFr 0) (mLo 0) (mT 0) csX0_init = true := by decide +kernel
def RX0_0 (rz : Nat → Int → Nat) : Nat → Int → Nat := rz
def RX0_1 (rz : Nat → Int → Nat) : Nat → Int → Nat := ((fun σ : SG => uR (uN (σ)) 60 1 61) (60, RX0_0 rz, fun _ _ => 0, fun _ _ => 0, fun _ _ => 0)).2.1
def RX0_2 (rz : Nat → Int → Nat) : Nat → Int → Nat := ((fun σ : SG => uR (uN (σ)) 60 2 62) (61, RX0_1 rz, fun _ _ => 0, fun _ _ => 0, fun _ _ => 0)).2.1
def RX0_3 (rz : Nat → Int → Nat) : Nat → Int → Nat := ((fun σ : SG => uR (uN (σ)) 60 4 63) (62, RX0_2 rz, fun _ _ => 0, fun _ _ => 0, fun _ _ => 0)).2.1
def RX0_4 (rz : Nat → Int → Nat) : Nat → Int → Nat := ((fun σ : SG => uR (uN (σ)) 60 5 64) (63, RX0_3 rz, fun _ _ => 0, fun _ _ => 0, fun _ _ => 0)).2.1
def RX0_5 (rz : Nat → Int → Nat) : Nat → Int → Nat := ((fun σ : SG => uR (σ) 60 0 13) (64, RX0_4 rz, fun _ _ => 0, fun _ _ => 0, fun _ _ => 0)).2.1
def wX0_5 (σ : SG) : SG := uI (σ) 63 0 (-1)
set_option maxRecDepth 100000 in
theorem wkX0_5 {σ σ0 : SG} {rz : Nat → Int → Nat} (h : σ.1 = 64) (hr : σ.2.1 = RX0_5 rz) : WK 0 (.inl none) σ0 (wX0_5 σ) 40 [(0, aR 60), (1, aR 13)] [] σ 4 51 := by
  obtain ⟨K, r, i, j, d⟩ := σ
  have h : K = 64 := h
  subst h
  have hr : r = RX0_5 rz := hr
  rw [hr]
  exact segK_wk (b := (none, (wX0_5 (64, RX0_5 rz, i, j, d), 4, 51))) rwX0_init ⟨Nat.le_of_ble_eq_true rfl, Nat.le_of_ble_eq_true rfl⟩ (cl := clN) CLK_N ct_N (N := 200) (pc := 40) (lc := [(0, aR 60), (1, aR 13)]) (st := []) (s0 := ((64, RX0_5 rz, i, j, d), 4, 51)) rfl
def wX0_4 (σ : SG) : SG := wX0_5 (uR (σ) 60 0 13)
set_option maxRecDepth 100000 in
theorem wkX0_4 {σ σ0 : SG} {rz : Nat → Int → Nat} (h : σ.1 = 64) (hr : σ.2.1 = RX0_4 rz) : WK 0 (.inl none) σ0 (wX0_4 σ) 35 [(0, aR 60), (1, aR 13)] [] σ 4 51 := by
  obtain ⟨K, r, i, j, d⟩ := σ
  have h : K = 64 := h
  subst h
  have hr : r = RX0_4 rz := hr
  rw [hr]
  exact segK_to (b := (none, (wX0_4 (64, RX0_4 rz, i, j, d), 4, 51))) rwX0_init ⟨Nat.le_of_ble_eq_true rfl, Nat.le_of_ble_eq_true rfl⟩ (cl := clN) CLK_N (pc2 := 40) (N := 200) (pc := 35) (l0 := [(0, aR 60), (1, aR 13)]) (lc := [(0, aR 60), (1, aR 13)]) (st0 := []) (st := []) (s1 := ((fun σ : SG => uR (σ) 60 0 13) (64, RX0_4 rz, i, j, d), 4, 51)) (s0 := ((64, RX0_4 rz, i, j, d), 4, 51)) (wkX0_5 (rz := rz) rfl rfl) (fun _ => rfl)
def wX0_3 (σ : SG) : SG := wX0_4 (uR (uN (σ)) 60 5 64)
set_option maxRecDepth 100000 in
theorem wkX0_3 {σ σ0 : SG} {rz : Nat → Int → Nat} (h : σ.1 = 63) (hr : σ.2.1 = RX0_3 rz) : WK 0 (.inl none) σ0 (wX0_3 σ) 28 [(0, aR 60), (1, aR 13)] [] σ 3 48 := by
  obtain ⟨K, r, i, j, d⟩ := σ
  have h : K = 63 := h
  subst h
  have hr : r = RX0_3 rz := hr
  rw [hr]
  exact segK_to (b := (none, (wX0_3 (63, RX0_3 rz, i, j, d), 4, 51))) rwX0_init ⟨Nat.le_of_ble_eq_true rfl, Nat.le_of_ble_eq_true rfl⟩ (cl := clN) CLK_N (pc2 := 35) (N := 200) (pc := 28) (l0 := [(0, aR 60), (1, aR 13)]) (lc := [(0, aR 60), (1, aR 13)]) (st0 := []) (st := []) (s1 := ((fun σ : SG => uR (uN (σ)) 60 5 64) (63, RX0_3 rz, i, j, d), 4, 51)) (s0 := ((63, RX0_3 rz, i, j, d), 3, 48)) (wkX0_4 (rz := rz) rfl rfl) (fun _ => rfl)
def wX0_2 (σ : SG) : SG := wX0_3 (uR (uN (σ)) 60 4 63)
set_option maxRecDepth 100000 in
theorem wkX0_2 {σ σ0 : SG} {rz : Nat → Int → Nat} (h : σ.1 = 62) (hr : σ.2.1 = RX0_2 rz) : WK 0 (.inl none) σ0 (wX0_2 σ) 20 [(0, aR 60), (1, aR 13)] [] σ 2 32 := by
  obtain ⟨K, r, i, j, d⟩ := σ
  have h : K = 62 := h
  subst h
  have hr : r = RX0_2 rz := hr
  rw [hr]
  exact segK_to (b := (none, (wX0_2 (62, RX0_2 rz, i, j, d), 4, 51))) rwX0_init ⟨Nat.le_of_ble_eq_true rfl, Nat.le_of_ble_eq_true rfl⟩ (cl := clN) CLK_N (pc2 := 28) (N := 200) (pc := 20) (l0 := [(0, aR 60), (1, aR 13)]) (lc := [(0, aR 60), (1, aR 13)]) (st0 := []) (st := []) (s1 := ((fun σ : SG => uR (uN (σ)) 60 4 63) (62, RX0_2 rz, i, j, d), 3, 48)) (s0 := ((62, RX0_2 rz, i, j, d), 2, 32)) (wkX0_3 (rz := rz) rfl rfl) (fun _ => rfl)
def wX0_1 (σ : SG) : SG := wX0_2 (uR (uN (σ)) 60 2 62)
set_option maxRecDepth 100000 in
theorem wkX0_1 {σ σ0 : SG} {rz : Nat → Int → Nat} (h : σ.1 = 61) (hr : σ.2.1 = RX0_1 rz) : WK 0 (.inl none) σ0 (wX0_1 σ) 12 [(0, aR 60), (1, aR 13)] [] σ 1 16 := by
  obtain ⟨K, r, i, j, d⟩ := σ
  have h : K = 61 := h
  subst h
  have hr : r = RX0_1 rz := hr
  rw [hr]
  exact segK_to (b := (none, (wX0_1 (61, RX0_1 rz, i, j, d), 4, 51))) rwX0_init ⟨Nat.le_of_ble_eq_true rfl, Nat.le_of_ble_eq_true rfl⟩ (cl := clN) CLK_N (pc2 := 20) (N := 200) (pc := 12) (l0 := [(0, aR 60), (1, aR 13)]) (lc := [(0, aR 60), (1, aR 13)]) (st0 := []) (st := []) (s1 := ((fun σ : SG => uR (uN (σ)) 60 2 62) (61, RX0_1 rz, i, j, d), 2, 32)) (s0 := ((61, RX0_1 rz, i, j, d), 1, 16)) (wkX0_2 (rz := rz) rfl rfl) (fun _ => rfl)
def wX0_0 (σ : SG) : SG := wX0_1 (uR (uN (σ)) 60 1 61)
set_option maxRecDepth 100000 in
theorem wkX0_0 {σ σ0 : SG} (h : σ.1 = 60) : WK 0 (.inl none) σ0 (wX0_0 σ) 0 [(0, aR 60), (1, aR 13)] [] σ 0 0 := by
  obtain ⟨K, r, i, j, d⟩ := σ
  have h : K = 60 := h
  subst h
  exact segK_to (b := (none, (wX0_0 (60, r, i, j, d), 4, 51))) rwX0_init ⟨Nat.le_of_ble_eq_true rfl, Nat.le_of_ble_eq_true rfl⟩ (cl := clN) CLK_N (pc2 := 12) (N := 200) (pc := 0) (l0 := [(0, aR 60), (1, aR 13)]) (lc := [(0, aR 60), (1, aR 13)]) (st0 := []) (st := []) (s1 := ((fun σ : SG => uR (uN (σ)) 60 1 61) (60, r, i, j, d), 1, 16)) (s0 := ((60, r, i, j, d), 0, 0)) (wkX0_1 (rz := r) rfl rfl) (fun _ => rfl)
def wX0 (σ : SG) : SG := wX0_0 σ
theorem mcX0 {σ : SG} (h : σ.1 = 60) : MCT 0 [] [aR 60, aR 13] σ (.inl none) (wX0 σ) := mct_of (by decide) (MFok 0 (by decide +kernel)) (fun _ => Nat.le_of_ble_eq_true rfl) (wkX0_0 h)
