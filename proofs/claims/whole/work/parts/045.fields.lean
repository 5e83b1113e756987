/-! the words on fields, the fields' types, by program -/
set_option maxRecDepth 100000 in
theorem uw0 : ∀ w ∈ u_ws RX0 TX0 6, w ∈ WG := by
  show ∀ w ∈ [u_lay RX0 TX0 0, u_lay RX0 TX0 1, u_lay RX0 TX0 2, u_lay RX0 TX0 3, u_lay RX0 TX0 4, u_lay RX0 TX0 5], w ∈ WG
  exact List.forall_mem_cons.mpr ⟨wg2 (i := 125) rfl rfl, List.forall_mem_cons.mpr ⟨wg2 (i := 127) rfl rfl, List.forall_mem_cons.mpr ⟨wg2 (i := 129) rfl rfl, List.forall_mem_cons.mpr ⟨wg2 (i := 131) rfl rfl, List.forall_mem_cons.mpr ⟨wg2 (i := 133) rfl rfl, List.forall_mem_cons.mpr ⟨wg2 (i := 135) rfl rfl, fun _ h => absurd h List.not_mem_nil⟩⟩⟩⟩⟩⟩
set_option maxRecDepth 100000 in
theorem uw1 : ∀ w ∈ u_ws RX1 TX1 5, w ∈ WG := by
  show ∀ w ∈ [u_lay RX1 TX1 0, u_lay RX1 TX1 1, u_lay RX1 TX1 2, u_lay RX1 TX1 3, u_lay RX1 TX1 4], w ∈ WG
  exact List.forall_mem_cons.mpr ⟨wg2 (i := 37) rfl rfl, List.forall_mem_cons.mpr ⟨wg2 (i := 39) rfl rfl, List.forall_mem_cons.mpr ⟨wg2 (i := 41) rfl rfl, List.forall_mem_cons.mpr ⟨wg2 (i := 43) rfl rfl, List.forall_mem_cons.mpr ⟨wg2 (i := 45) rfl rfl, fun _ h => absurd h List.not_mem_nil⟩⟩⟩⟩⟩
set_option maxRecDepth 100000 in
theorem uw2 : ∀ w ∈ u_ws RX2 TX2 15, w ∈ WG := by
  show ∀ w ∈ [u_lay RX2 TX2 0, u_lay RX2 TX2 1, u_lay RX2 TX2 2, u_lay RX2 TX2 3, u_lay RX2 TX2 4, u_lay RX2 TX2 5, u_lay RX2 TX2 6, u_lay RX2 TX2 7, u_lay RX2 TX2 8, u_lay RX2 TX2 9, u_lay RX2 TX2 10, u_lay RX2 TX2 11, u_lay RX2 TX2 12, u_lay RX2 TX2 13, u_lay RX2 TX2 14], w ∈ WG
  exact List.forall_mem_cons.mpr ⟨wg1 (i := 138) rfl rfl, List.forall_mem_cons.mpr ⟨wg1 (i := 140) rfl rfl, List.forall_mem_cons.mpr ⟨wg1 (i := 142) rfl rfl, List.forall_mem_cons.mpr ⟨wg1 (i := 144) rfl rfl, List.forall_mem_cons.mpr ⟨wg1 (i := 146) rfl rfl, List.forall_mem_cons.mpr ⟨wg1 (i := 148) rfl rfl, List.forall_mem_cons.mpr ⟨wg1 (i := 150) rfl rfl, List.forall_mem_cons.mpr ⟨wg1 (i := 152) rfl rfl, List.forall_mem_cons.mpr ⟨wg1 (i := 154) rfl rfl, List.forall_mem_cons.mpr ⟨wg1 (i := 156) rfl rfl, List.forall_mem_cons.mpr ⟨wg1 (i := 158) rfl rfl, List.forall_mem_cons.mpr ⟨wg1 (i := 160) rfl rfl, List.forall_mem_cons.mpr ⟨wg1 (i := 162) rfl rfl, List.forall_mem_cons.mpr ⟨wg1 (i := 164) rfl rfl, List.forall_mem_cons.mpr ⟨wg1 (i := 166) rfl rfl, fun _ h => absurd h List.not_mem_nil⟩⟩⟩⟩⟩⟩⟩⟩⟩⟩⟩⟩⟩⟩⟩
set_option maxRecDepth 100000 in
theorem uw3 : ∀ w ∈ u_ws RX3 TX3 3, w ∈ WG := by
  show ∀ w ∈ [u_lay RX3 TX3 0, u_lay RX3 TX3 1, u_lay RX3 TX3 2], w ∈ WG
  exact List.forall_mem_cons.mpr ⟨wg1 (i := 203) rfl rfl, List.forall_mem_cons.mpr ⟨wg1 (i := 205) rfl rfl, List.forall_mem_cons.mpr ⟨wg1 (i := 207) rfl rfl, fun _ h => absurd h List.not_mem_nil⟩⟩⟩
set_option maxRecDepth 100000 in
theorem uw4 : ∀ w ∈ u_ws RX4 TX4 9, w ∈ WG := by
  show ∀ w ∈ [u_lay RX4 TX4 0, u_lay RX4 TX4 1, u_lay RX4 TX4 2, u_lay RX4 TX4 3, u_lay RX4 TX4 4, u_lay RX4 TX4 5, u_lay RX4 TX4 6, u_lay RX4 TX4 7, u_lay RX4 TX4 8], w ∈ WG
  exact List.forall_mem_cons.mpr ⟨wg2 (i := 92) rfl rfl, List.forall_mem_cons.mpr ⟨wg2 (i := 94) rfl rfl, List.forall_mem_cons.mpr ⟨wg2 (i := 96) rfl rfl, List.forall_mem_cons.mpr ⟨wg2 (i := 98) rfl rfl, List.forall_mem_cons.mpr ⟨wg2 (i := 100) rfl rfl, List.forall_mem_cons.mpr ⟨wg2 (i := 102) rfl rfl, List.forall_mem_cons.mpr ⟨wg2 (i := 104) rfl rfl, List.forall_mem_cons.mpr ⟨wg2 (i := 106) rfl rfl, List.forall_mem_cons.mpr ⟨wg2 (i := 108) rfl rfl, fun _ h => absurd h List.not_mem_nil⟩⟩⟩⟩⟩⟩⟩⟩⟩
set_option maxRecDepth 100000 in
theorem uw5 : ∀ w ∈ u_ws RX5 TX5 6, w ∈ WG := by
  show ∀ w ∈ [u_lay RX5 TX5 0, u_lay RX5 TX5 1, u_lay RX5 TX5 2, u_lay RX5 TX5 3, u_lay RX5 TX5 4, u_lay RX5 TX5 5], w ∈ WG
  exact List.forall_mem_cons.mpr ⟨wg2 (i := 172) rfl rfl, List.forall_mem_cons.mpr ⟨wg2 (i := 174) rfl rfl, List.forall_mem_cons.mpr ⟨wg2 (i := 176) rfl rfl, List.forall_mem_cons.mpr ⟨wg2 (i := 178) rfl rfl, List.forall_mem_cons.mpr ⟨wg2 (i := 180) rfl rfl, List.forall_mem_cons.mpr ⟨wg2 (i := 182) rfl rfl, fun _ h => absurd h List.not_mem_nil⟩⟩⟩⟩⟩⟩
set_option maxRecDepth 100000 in
theorem uw6 : ∀ w ∈ u_ws RX6 TX6 3, w ∈ WG := by
  show ∀ w ∈ [u_lay RX6 TX6 0, u_lay RX6 TX6 1, u_lay RX6 TX6 2], w ∈ WG
  exact List.forall_mem_cons.mpr ⟨wg1 (i := 186) rfl rfl, List.forall_mem_cons.mpr ⟨wg1 (i := 188) rfl rfl, List.forall_mem_cons.mpr ⟨wg1 (i := 190) rfl rfl, fun _ h => absurd h List.not_mem_nil⟩⟩⟩
set_option maxRecDepth 100000 in
theorem uw7 : ∀ w ∈ u_ws RX7 TX7 15, w ∈ WG := by
  show ∀ w ∈ [u_lay RX7 TX7 0, u_lay RX7 TX7 1, u_lay RX7 TX7 2, u_lay RX7 TX7 3, u_lay RX7 TX7 4, u_lay RX7 TX7 5, u_lay RX7 TX7 6, u_lay RX7 TX7 7, u_lay RX7 TX7 8, u_lay RX7 TX7 9, u_lay RX7 TX7 10, u_lay RX7 TX7 11, u_lay RX7 TX7 12, u_lay RX7 TX7 13, u_lay RX7 TX7 14], w ∈ WG
  exact List.forall_mem_cons.mpr ⟨wg1 (i := 235) rfl rfl, List.forall_mem_cons.mpr ⟨wg1 (i := 237) rfl rfl, List.forall_mem_cons.mpr ⟨wg1 (i := 239) rfl rfl, List.forall_mem_cons.mpr ⟨wg2 (i := 1) rfl rfl, List.forall_mem_cons.mpr ⟨wg2 (i := 3) rfl rfl, List.forall_mem_cons.mpr ⟨wg2 (i := 5) rfl rfl, List.forall_mem_cons.mpr ⟨wg2 (i := 7) rfl rfl, List.forall_mem_cons.mpr ⟨wg2 (i := 9) rfl rfl, List.forall_mem_cons.mpr ⟨wg2 (i := 11) rfl rfl, List.forall_mem_cons.mpr ⟨wg2 (i := 13) rfl rfl, List.forall_mem_cons.mpr ⟨wg2 (i := 15) rfl rfl, List.forall_mem_cons.mpr ⟨wg2 (i := 17) rfl rfl, List.forall_mem_cons.mpr ⟨wg2 (i := 19) rfl rfl, List.forall_mem_cons.mpr ⟨wg2 (i := 21) rfl rfl, List.forall_mem_cons.mpr ⟨wg2 (i := 23) rfl rfl, fun _ h => absurd h List.not_mem_nil⟩⟩⟩⟩⟩⟩⟩⟩⟩⟩⟩⟩⟩⟩⟩
set_option maxRecDepth 100000 in
theorem uw8 : ∀ w ∈ u_ws RX8 TX8 3, w ∈ WG := by
  show ∀ w ∈ [u_lay RX8 TX8 0, u_lay RX8 TX8 1, u_lay RX8 TX8 2], w ∈ WG
  exact List.forall_mem_cons.mpr ⟨wg2 (i := 147) rfl rfl, List.forall_mem_cons.mpr ⟨wg2 (i := 149) rfl rfl, List.forall_mem_cons.mpr ⟨wg2 (i := 151) rfl rfl, fun _ h => absurd h List.not_mem_nil⟩⟩⟩
set_option maxRecDepth 100000 in
theorem uw9 : ∀ w ∈ u_ws RX9 TX9 10, w ∈ WG := by
  show ∀ w ∈ [u_lay RX9 TX9 0, u_lay RX9 TX9 1, u_lay RX9 TX9 2, u_lay RX9 TX9 3, u_lay RX9 TX9 4, u_lay RX9 TX9 5, u_lay RX9 TX9 6, u_lay RX9 TX9 7, u_lay RX9 TX9 8, u_lay RX9 TX9 9], w ∈ WG
  exact List.forall_mem_cons.mpr ⟨wg1 (i := 54) rfl rfl, List.forall_mem_cons.mpr ⟨wg1 (i := 56) rfl rfl, List.forall_mem_cons.mpr ⟨wg1 (i := 58) rfl rfl, List.forall_mem_cons.mpr ⟨wg1 (i := 60) rfl rfl, List.forall_mem_cons.mpr ⟨wg1 (i := 62) rfl rfl, List.forall_mem_cons.mpr ⟨wg1 (i := 64) rfl rfl, List.forall_mem_cons.mpr ⟨wg1 (i := 66) rfl rfl, List.forall_mem_cons.mpr ⟨wg1 (i := 68) rfl rfl, List.forall_mem_cons.mpr ⟨wg1 (i := 70) rfl rfl, List.forall_mem_cons.mpr ⟨wg1 (i := 72) rfl rfl, fun _ h => absurd h List.not_mem_nil⟩⟩⟩⟩⟩⟩⟩⟩⟩⟩
set_option maxRecDepth 100000 in
theorem uw10 : ∀ w ∈ u_ws RX10 TX10 7, w ∈ WG := by
  show ∀ w ∈ [u_lay RX10 TX10 0, u_lay RX10 TX10 1, u_lay RX10 TX10 2, u_lay RX10 TX10 3, u_lay RX10 TX10 4, u_lay RX10 TX10 5, u_lay RX10 TX10 6], w ∈ WG
  exact List.forall_mem_cons.mpr ⟨wg2 (i := 61) rfl rfl, List.forall_mem_cons.mpr ⟨wg2 (i := 63) rfl rfl, List.forall_mem_cons.mpr ⟨wg2 (i := 65) rfl rfl, List.forall_mem_cons.mpr ⟨wg2 (i := 67) rfl rfl, List.forall_mem_cons.mpr ⟨wg2 (i := 69) rfl rfl, List.forall_mem_cons.mpr ⟨wg2 (i := 71) rfl rfl, List.forall_mem_cons.mpr ⟨wg2 (i := 73) rfl rfl, fun _ h => absurd h List.not_mem_nil⟩⟩⟩⟩⟩⟩⟩
set_option maxRecDepth 100000 in
theorem uw11 : ∀ w ∈ u_ws RX11 TX11 13, w ∈ WG := by
  show ∀ w ∈ [u_lay RX11 TX11 0, u_lay RX11 TX11 1, u_lay RX11 TX11 2, u_lay RX11 TX11 3, u_lay RX11 TX11 4, u_lay RX11 TX11 5, u_lay RX11 TX11 6, u_lay RX11 TX11 7, u_lay RX11 TX11 8, u_lay RX11 TX11 9, u_lay RX11 TX11 10, u_lay RX11 TX11 11, u_lay RX11 TX11 12], w ∈ WG
  exact List.forall_mem_cons.mpr ⟨wg2 (i := 199) rfl rfl, List.forall_mem_cons.mpr ⟨wg2 (i := 201) rfl rfl, List.forall_mem_cons.mpr ⟨wg2 (i := 203) rfl rfl, List.forall_mem_cons.mpr ⟨wg2 (i := 205) rfl rfl, List.forall_mem_cons.mpr ⟨wg2 (i := 207) rfl rfl, List.forall_mem_cons.mpr ⟨wg2 (i := 209) rfl rfl, List.forall_mem_cons.mpr ⟨wg2 (i := 211) rfl rfl, List.forall_mem_cons.mpr ⟨wg2 (i := 213) rfl rfl, List.forall_mem_cons.mpr ⟨wg2 (i := 215) rfl rfl, List.forall_mem_cons.mpr ⟨wg2 (i := 217) rfl rfl, List.forall_mem_cons.mpr ⟨wg2 (i := 219) rfl rfl, List.forall_mem_cons.mpr ⟨wg2 (i := 221) rfl rfl, List.forall_mem_cons.mpr ⟨wg2 (i := 223) rfl rfl, fun _ h => absurd h List.not_mem_nil⟩⟩⟩⟩⟩⟩⟩⟩⟩⟩⟩⟩⟩
set_option maxRecDepth 100000 in
theorem uw12 : ∀ w ∈ u_ws RX12 TX12 79, w ∈ WG := by
  show ∀ w ∈ [u_lay RX12 TX12 0, u_lay RX12 TX12 1, u_lay RX12 TX12 2, u_lay RX12 TX12 3, u_lay RX12 TX12 4, u_lay RX12 TX12 5, u_lay RX12 TX12 6, u_lay RX12 TX12 7, u_lay RX12 TX12 8, u_lay RX12 TX12 9, u_lay RX12 TX12 10, u_lay RX12 TX12 11, u_lay RX12 TX12 12, u_lay RX12 TX12 13, u_lay RX12 TX12 14, u_lay RX12 TX12 15, u_lay RX12 TX12 16, u_lay RX12 TX12 17, u_lay RX12 TX12 18, u_lay RX12 TX12 19, u_lay RX12 TX12 20, u_lay RX12 TX12 21, u_lay RX12 TX12 22, u_lay RX12 TX12 23, u_lay RX12 TX12 24, u_lay RX12 TX12 25, u_lay RX12 TX12 26, u_lay RX12 TX12 27, u_lay RX12 TX12 28, u_lay RX12 TX12 29, u_lay RX12 TX12 30, u_lay RX12 TX12 31, u_lay RX12 TX12 32, u_lay RX12 TX12 33, u_lay RX12 TX12 34, u_lay RX12 TX12 35, u_lay RX12 TX12 36, u_lay RX12 TX12 37, u_lay RX12 TX12 38, u_lay RX12 TX12 39, u_lay RX12 TX12 40, u_lay RX12 TX12 41, u_lay RX12 TX12 42, u_lay RX12 TX12 43, u_lay RX12 TX12 44, u_lay RX12 TX12 45, u_lay RX12 TX12 46, u_lay RX12 TX12 47, u_lay RX12 TX12 48, u_lay RX12 TX12 49, u_lay RX12 TX12 50, u_lay RX12 TX12 51, u_lay RX12 TX12 52, u_lay RX12 TX12 53, u_lay RX12 TX12 54, u_lay RX12 TX12 55, u_lay RX12 TX12 56, u_lay RX12 TX12 57, u_lay RX12 TX12 58, u_lay RX12 TX12 59, u_lay RX12 TX12 60, u_lay RX12 TX12 61, u_lay RX12 TX12 62, u_lay RX12 TX12 63, u_lay RX12 TX12 64, u_lay RX12 TX12 65, u_lay RX12 TX12 66, u_lay RX12 TX12 67, u_lay RX12 TX12 68, u_lay RX12 TX12 69, u_lay RX12 TX12 70, u_lay RX12 TX12 71, u_lay RX12 TX12 72, u_lay RX12 TX12 73, u_lay RX12 TX12 74, u_lay RX12 TX12 75, u_lay RX12 TX12 76, u_lay RX12 TX12 77, u_lay RX12 TX12 78], w ∈ WG
  exact List.forall_mem_cons.mpr ⟨wg7 (i := 25) rfl rfl, List.forall_mem_cons.mpr ⟨wg7 (i := 27) rfl rfl, List.forall_mem_cons.mpr ⟨wg7 (i := 29) rfl rfl, List.forall_mem_cons.mpr ⟨wg7 (i := 31) rfl rfl, List.forall_mem_cons.mpr ⟨wg7 (i := 33) rfl rfl, List.forall_mem_cons.mpr ⟨wg7 (i := 35) rfl rfl, List.forall_mem_cons.mpr ⟨wg7 (i := 37) rfl rfl, List.forall_mem_cons.mpr ⟨wg7 (i := 39) rfl rfl, List.forall_mem_cons.mpr ⟨wg7 (i := 41) rfl rfl, List.forall_mem_cons.mpr ⟨wg7 (i := 43) rfl rfl, List.forall_mem_cons.mpr ⟨wg7 (i := 45) rfl rfl, List.forall_mem_cons.mpr ⟨wg7 (i := 47) rfl rfl, List.forall_mem_cons.mpr ⟨wg7 (i := 49) rfl rfl, List.forall_mem_cons.mpr ⟨wg7 (i := 51) rfl rfl, List.forall_mem_cons.mpr ⟨wg7 (i := 53) rfl rfl, List.forall_mem_cons.mpr ⟨wg7 (i := 55) rfl rfl, List.forall_mem_cons.mpr ⟨wg7 (i := 57) rfl rfl, List.forall_mem_cons.mpr ⟨wg7 (i := 59) rfl rfl, List.forall_mem_cons.mpr ⟨wg7 (i := 61) rfl rfl, List.forall_mem_cons.mpr ⟨wg7 (i := 63) rfl rfl, List.forall_mem_cons.mpr ⟨wg7 (i := 65) rfl rfl, List.forall_mem_cons.mpr ⟨wg7 (i := 67) rfl rfl, List.forall_mem_cons.mpr ⟨wg7 (i := 69) rfl rfl, List.forall_mem_cons.mpr ⟨wg7 (i := 71) rfl rfl, List.forall_mem_cons.mpr ⟨wg7 (i := 73) rfl rfl, List.forall_mem_cons.mpr ⟨wg7 (i := 75) rfl rfl, List.forall_mem_cons.mpr ⟨wg7 (i := 77) rfl rfl, List.forall_mem_cons.mpr ⟨wg7 (i := 79) rfl rfl, List.forall_mem_cons.mpr ⟨wg7 (i := 81) rfl rfl, List.forall_mem_cons.mpr ⟨wg7 (i := 83) rfl rfl, List.forall_mem_cons.mpr ⟨wg7 (i := 85) rfl rfl, List.forall_mem_cons.mpr ⟨wg7 (i := 87) rfl rfl, List.forall_mem_cons.mpr ⟨wg7 (i := 89) rfl rfl, List.forall_mem_cons.mpr ⟨wg7 (i := 91) rfl rfl, List.forall_mem_cons.mpr ⟨wg7 (i := 93) rfl rfl, List.forall_mem_cons.mpr ⟨wg7 (i := 95) rfl rfl, List.forall_mem_cons.mpr ⟨wg7 (i := 97) rfl rfl, List.forall_mem_cons.mpr ⟨wg7 (i := 99) rfl rfl, List.forall_mem_cons.mpr ⟨wg7 (i := 101) rfl rfl, List.forall_mem_cons.mpr ⟨wg7 (i := 103) rfl rfl, List.forall_mem_cons.mpr ⟨wg7 (i := 105) rfl rfl, List.forall_mem_cons.mpr ⟨wg7 (i := 107) rfl rfl, List.forall_mem_cons.mpr ⟨wg7 (i := 109) rfl rfl, List.forall_mem_cons.mpr ⟨wg7 (i := 111) rfl rfl, List.forall_mem_cons.mpr ⟨wg7 (i := 113) rfl rfl, List.forall_mem_cons.mpr ⟨wg7 (i := 115) rfl rfl, List.forall_mem_cons.mpr ⟨wg7 (i := 117) rfl rfl, List.forall_mem_cons.mpr ⟨wg7 (i := 119) rfl rfl, List.forall_mem_cons.mpr ⟨wg7 (i := 121) rfl rfl, List.forall_mem_cons.mpr ⟨wg7 (i := 123) rfl rfl, List.forall_mem_cons.mpr ⟨wg7 (i := 125) rfl rfl, List.forall_mem_cons.mpr ⟨wg7 (i := 127) rfl rfl, List.forall_mem_cons.mpr ⟨wg7 (i := 129) rfl rfl, List.forall_mem_cons.mpr ⟨wg7 (i := 131) rfl rfl, List.forall_mem_cons.mpr ⟨wg7 (i := 133) rfl rfl, List.forall_mem_cons.mpr ⟨wg7 (i := 135) rfl rfl, List.forall_mem_cons.mpr ⟨wg7 (i := 137) rfl rfl, List.forall_mem_cons.mpr ⟨wg7 (i := 139) rfl rfl, List.forall_mem_cons.mpr ⟨wg7 (i := 141) rfl rfl, List.forall_mem_cons.mpr ⟨wg7 (i := 143) rfl rfl, List.forall_mem_cons.mpr ⟨wg7 (i := 145) rfl rfl, List.forall_mem_cons.mpr ⟨wg7 (i := 147) rfl rfl, List.forall_mem_cons.mpr ⟨wg7 (i := 149) rfl rfl, List.forall_mem_cons.mpr ⟨wg7 (i := 151) rfl rfl, List.forall_mem_cons.mpr ⟨wg7 (i := 153) rfl rfl, List.forall_mem_cons.mpr ⟨wg7 (i := 155) rfl rfl, List.forall_mem_cons.mpr ⟨wg7 (i := 157) rfl rfl, List.forall_mem_cons.mpr ⟨wg7 (i := 159) rfl rfl, List.forall_mem_cons.mpr ⟨wg7 (i := 161) rfl rfl, List.forall_mem_cons.mpr ⟨wg7 (i := 163) rfl rfl, List.forall_mem_cons.mpr ⟨wg7 (i := 165) rfl rfl, List.forall_mem_cons.mpr ⟨wg7 (i := 167) rfl rfl, List.forall_mem_cons.mpr ⟨wg7 (i := 169) rfl rfl, List.forall_mem_cons.mpr ⟨wg7 (i := 171) rfl rfl, List.forall_mem_cons.mpr ⟨wg7 (i := 173) rfl rfl, List.forall_mem_cons.mpr ⟨wg7 (i := 175) rfl rfl, List.forall_mem_cons.mpr ⟨wg7 (i := 177) rfl rfl, List.forall_mem_cons.mpr ⟨wg7 (i := 179) rfl rfl, List.forall_mem_cons.mpr ⟨wg7 (i := 181) rfl rfl, fun _ h => absurd h List.not_mem_nil⟩⟩⟩⟩⟩⟩⟩⟩⟩⟩⟩⟩⟩⟩⟩⟩⟩⟩⟩⟩⟩⟩⟩⟩⟩⟩⟩⟩⟩⟩⟩⟩⟩⟩⟩⟩⟩⟩⟩⟩⟩⟩⟩⟩⟩⟩⟩⟩⟩⟩⟩⟩⟩⟩⟩⟩⟩⟩⟩⟩⟩⟩⟩⟩⟩⟩⟩⟩⟩⟩⟩⟩⟩⟩⟩⟩⟩⟩⟩
def tyN (c : Nat) : Nat → FieldType := match c with
  | 0 => tyX0
  | 1 => tyX1
  | 2 => tyX2
  | 3 => tyX3
  | 4 => tyX4
  | 5 => tyX5
  | 6 => tyX6
  | 7 => tyX7
  | 8 => tyX8
  | 9 => tyX9
  | 10 => tyX10
  | 11 => tyX11
  | _ => tyX12
theorem uwN : ∀ c, c < 13 → ∀ w ∈ u_ws (vcN c).1 (vcN c).2.1 (vcN c).2.2, w ∈ WG := fun c hc => match c, hc with
  | 0, _ => uw0
  | 1, _ => uw1
  | 2, _ => uw2
  | 3, _ => uw3
  | 4, _ => uw4
  | 5, _ => uw5
  | 6, _ => uw6
  | 7, _ => uw7
  | 8, _ => uw8
  | 9, _ => uw9
  | 10, _ => uw10
  | 11, _ => uw11
  | 12, _ => uw12
  | n + 13, h => absurd h (by omega)
theorem tyN_ok : ∀ c, c < 13 → ∀ k, k < nFK c → parseFieldDescriptor (fN c k).2.2.1 = some (tyN c k) := fun c hc => match c, hc with
  | 0, _ => tyX0_ok
  | 1, _ => tyX1_ok
  | 2, _ => tyX2_ok
  | 3, _ => tyX3_ok
  | 4, _ => tyX4_ok
  | 5, _ => tyX5_ok
  | 6, _ => tyX6_ok
  | 7, _ => tyX7_ok
  | 8, _ => tyX8_ok
  | 9, _ => tyX9_ok
  | 10, _ => tyX10_ok
  | 11, _ => tyX11_ok
  | 12, _ => tyX12_ok
  | n + 13, h => absurd h (by omega)
theorem nmN : ∀ c, c < 13 → ∀ a, a < nFK c → ∀ b, b < nFK c → a ≠ b → (fN c a).2.1 ≠ (fN c b).2.1 := fun c hc => match c, hc with
  | 0, _ => nmX0
  | 1, _ => nmX1
  | 2, _ => nmX2
  | 3, _ => nmX3
  | 4, _ => nmX4
  | 5, _ => nmX5
  | 6, _ => nmX6
  | 7, _ => nmX7
  | 8, _ => nmX8
  | 9, _ => nmX9
  | 10, _ => nmX10
  | 11, _ => nmX11
  | 12, _ => nmX12
  | n + 13, h => absurd h (by omega)
theorem vcN_at : ∀ c, c < 13 → vwCl[c]? = some (vcN c) ∧ (vcN c).2.2 = nFK c ∧ (vcN c).1 = oN c := fun c hc => match c, hc with
  | 0, _ => ⟨rfl, rfl, rfl⟩
  | 1, _ => ⟨rfl, rfl, rfl⟩
  | 2, _ => ⟨rfl, rfl, rfl⟩
  | 3, _ => ⟨rfl, rfl, rfl⟩
  | 4, _ => ⟨rfl, rfl, rfl⟩
  | 5, _ => ⟨rfl, rfl, rfl⟩
  | 6, _ => ⟨rfl, rfl, rfl⟩
  | 7, _ => ⟨rfl, rfl, rfl⟩
  | 8, _ => ⟨rfl, rfl, rfl⟩
  | 9, _ => ⟨rfl, rfl, rfl⟩
  | 10, _ => ⟨rfl, rfl, rfl⟩
  | 11, _ => ⟨rfl, rfl, rfl⟩
  | 12, _ => ⟨rfl, rfl, rfl⟩
  | n + 13, h => absurd h (by omega)
theorem fN_own : ∀ c, c < 13 → ∀ k, (fN c k).1 = oN c := fun c hc => match c, hc with
  | 0, _ => fun k => by show (TX0 k).1 = RX0; unfold TX0; split <;> rfl
  | 1, _ => fun k => by show (TX1 k).1 = RX1; unfold TX1; split <;> rfl
  | 2, _ => fun k => by show (TX2 k).1 = RX2; unfold TX2; split <;> rfl
  | 3, _ => fun k => by show (TX3 k).1 = RX3; unfold TX3; split <;> rfl
  | 4, _ => fun k => by show (TX4 k).1 = RX4; unfold TX4; split <;> rfl
  | 5, _ => fun k => by show (TX5 k).1 = RX5; unfold TX5; split <;> rfl
  | 6, _ => fun k => by show (TX6 k).1 = RX6; unfold TX6; split <;> rfl
  | 7, _ => fun k => by show (TX7 k).1 = RX7; unfold TX7; split <;> rfl
  | 8, _ => fun k => by show (TX8 k).1 = RX8; unfold TX8; split <;> rfl
  | 9, _ => fun k => by show (TX9 k).1 = RX9; unfold TX9; split <;> rfl
  | 10, _ => fun k => by show (TX10 k).1 = RX10; unfold TX10; split <;> rfl
  | 11, _ => fun k => by show (TX11 k).1 = RX11; unfold TX11; split <;> rfl
  | 12, _ => fun k => by show (TX12 k).1 = RX12; unfold TX12; split <;> rfl
  | n + 13, h => absurd h (by omega)
theorem tyN_ft : ∀ c, c < 13 → ∀ k, k < nFK c → (ftK c k = 0 → tyN c k = .int) ∧ (ftK c k = 1 → tyN c k = .long) ∧ (ftK c k = 3 → tyN c k = .boolean) ∧ (ftK c k = 2 → (tyN c k).isReference = true) ∧ ftK c k < 4 := by decide +kernel
