/-! SWAP ENDS -/
section SWP
variable {h h' H m : HH} {l : List Int} {P : HH → Prop}
theorem lX12_joins_55 {w k0 n i : Int} (hw0 : 0 ≤ w) (hw3 : w < 3) (hk : 0 ≤ k0) (hi : 0 ≤ i) (h9 : i + (n - k0) ≤ 9) (hn9 : n ≤ 9) : ∀ (t N : Nat) (x : Int) (g : HH), t < N → x + t = n → k0 ≤ x → g.1 71 51 = i + (x - k0) → g.1 95 w = n → Ok (nX12_joins_55 N w x g) (fun g' => Fr sRow g g' ∧ g'.1 71 51 = i + (n - k0) ∧ ∀ j, g'.1 105 j = if i + (x - k0) ≤ j ∧ j < i + (n - k0) then g.1 94 (9 * w + (k0 + (j - i))) else g.1 105 j) := by
  intro t
  induction t with
  | zero =>
    intro N x g hN hx hk2 h51 h95
    obtain ⟨M, rfl⟩ := fuel_s hN
    rw [nX12_joins_55_s]
    simp only [bX12_joins_55]
    repeat (first | with_reducible refine ok_gd (by first | omega | decide) ?_ | with_reducible refine ok_bs ?_ | with_reducible refine ok_pos (by omega) ?_ | with_reducible refine ok_neg (by omega) ?_ | with_reducible refine ok_tl ?_ | with_reducible refine ok_tr ?_)
    exact ok_some ⟨fr_r, by omega, fun j => by rw [if_neg (by omega)]⟩
  | succ t ih =>
    intro N x g hN hx hk2 h51 h95
    obtain ⟨M, rfl⟩ := fuel_s hN
    rw [nX12_joins_55_s]
    simp only [bX12_joins_55]
    refine ok_gd (by omega) ?_
    refine ok_pos (by omega) ?_
    refine ok_pos (by omega) ?_
    rw [h51]
    repeat (first | with_reducible refine ok_gd (by first | omega | decide) ?_ | with_reducible refine ok_bs ?_ | with_reducible refine ok_pos (by omega) ?_ | with_reducible refine ok_neg (by omega) ?_ | with_reducible refine ok_tl ?_ | with_reducible refine ok_tr ?_ | simp (disch := decide) only [rI_s, rI_n, rI_2, rC_s, rC_n, rC_2, rJ_1, rJ_s, rJ_n, updI_at, if_pos, if_neg])
    refine ok_mono (ih M (x + 1) _ (by omega) (by omega) (by omega) (by simp (disch := decide) only [rI_s, rI_n, rI_2, rC_s, rC_n, rC_2, rJ_1, rJ_s, rJ_n, updI_at, if_pos, if_neg]; omega) (by simp (disch := decide) only [rI_s, rI_n, rI_2, rC_s, rC_n, rC_2, rJ_1, rJ_s, rJ_n, updI_at, if_pos, if_neg]; omega)) (fun g' q => ⟨fr_t (fr_I (fr_I fr_r (Or.inl rfl)) (Or.inr ⟨rfl, rfl⟩)) q.1, q.2.1, fun j => ?_⟩)
    rw [q.2.2 j]
    simp (disch := decide) only [rI_s, rI_n, rI_2, rC_s, rC_n, rC_2, rJ_1, rJ_s, rJ_n, updI_at, if_pos, if_neg]
    (repeat' split) <;> first | rfl | omega | exact ca (by omega)
theorem lX12_joins_8 {v i w k0 : Int} (hv0 : 0 ≤ v) (hv3 : v < 3) (hi9 : i ≤ 9) : ∀ (t N : Nat) (x : Int) (g : HH), t < N → x + t = i → 0 ≤ x → g.1 71 51 = x → (∀ g', Fr sRow g g' → g'.1 71 51 = i → (∀ j, g'.1 105 j = if x ≤ j ∧ j < i then g.1 94 (9 * v + j) else g.1 105 j) → Ok (nX12_joins_55 100000 w k0 g') P) → Ok (nX12_joins_8 N v i w k0 x g) P := by
  intro t
  induction t with
  | zero =>
    intro N x g hN hx h0 h51 hP
    obtain ⟨M, rfl⟩ := fuel_s hN
    rw [nX12_joins_8_s]
    simp only [bX12_joins_8]
    repeat (first | with_reducible refine ok_gd (by first | omega | decide) ?_ | with_reducible refine ok_bs ?_ | with_reducible refine ok_pos (by omega) ?_ | with_reducible refine ok_neg (by omega) ?_ | with_reducible refine ok_tl ?_ | with_reducible refine ok_tr ?_)
    exact hP g fr_r (by omega) (fun j => by rw [if_neg (by omega)])
  | succ t ih =>
    intro N x g hN hx h0 h51 hP
    obtain ⟨M, rfl⟩ := fuel_s hN
    rw [nX12_joins_8_s]
    simp only [bX12_joins_8]
    refine ok_pos (by omega) ?_
    rw [h51]
    repeat (first | with_reducible refine ok_gd (by first | omega | decide) ?_ | with_reducible refine ok_bs ?_ | with_reducible refine ok_pos (by omega) ?_ | with_reducible refine ok_neg (by omega) ?_ | with_reducible refine ok_tl ?_ | with_reducible refine ok_tr ?_ | simp (disch := decide) only [rI_s, rI_n, rI_2, rC_s, rC_n, rC_2, rJ_1, rJ_s, rJ_n, updI_at, if_pos, if_neg])
    refine ih M (x + 1) _ (by omega) (by omega) (by omega) (by simp (disch := decide) only [rI_s, rI_n, rI_2, rC_s, rC_n, rC_2, rJ_1, rJ_s, rJ_n, updI_at, if_pos, if_neg]; omega) (fun g' f e1 e => hP g' (fr_t (fr_I (fr_I fr_r (Or.inl rfl)) (Or.inr ⟨rfl, rfl⟩)) f) e1 (fun j => ?_))
    rw [e j]
    simp (disch := decide) only [rI_s, rI_n, rI_2, rC_s, rC_n, rC_2, rJ_1, rJ_s, rJ_n, updI_at, if_pos, if_neg]
    (repeat' split) <;> first | rfl | omega | exact ca (by omega)
theorem sX12_joins {v i w k : Int} (hv0 : 0 ≤ v) (hv3 : v < 3) (hw0 : 0 ≤ w) (hw3 : w < 3) (hi0 : 0 ≤ i) (hi : i ≤ h.1 95 v) (hv9 : h.1 95 v ≤ 9) (hk0 : 0 ≤ k) (hk : k ≤ h.1 95 w) (hw9 : h.1 95 w ≤ 9) (h9 : i + (h.1 95 w - k) ≤ 9) : Ok (nX12_joins v i w k h) (fun g => Fr sRow h g ∧ g.1 71 51 = i + (h.1 95 w - k) ∧ mrow g = joiL (mrd h v) i.toNat (mrd h w) k.toNat) := by
  simp only [nX12_joins, bX12_joins]
  repeat (first | with_reducible refine ok_gd (by first | omega | decide) ?_ | with_reducible refine ok_bs ?_ | with_reducible refine ok_pos (by omega) ?_ | with_reducible refine ok_neg (by omega) ?_ | with_reducible refine ok_tl ?_ | with_reducible refine ok_tr ?_)
  have f0 : Fr sRow h (hI h 71 51 0) := fr_I fr_r (Or.inr ⟨rfl, rfl⟩)
  refine lX12_joins_8 hv0 hv3 (by omega) i.toNat 100000 0 _ (by omega) (by omega) (by omega) (by simp (disch := decide) only [rI_s, rI_n, rI_2, rC_s, rC_n, rC_2, rJ_1, rJ_s, rJ_n, updI_at, if_pos, if_neg]) (fun g1 f1 e1 e2 => ?_)
  have e95 : g1.1 95 w = h.1 95 w := by rw [f1.2 95 w (by unfold sRow; omega), f0.2 95 w (by unfold sRow; omega)]
  refine ok_mono (lX12_joins_55 (n := h.1 95 w) (i := i) hw0 hw3 hk0 hi0 h9 hw9 (h.1 95 w - k).toNat 100000 k g1 (by omega) (by omega) (by omega) (by omega) e95) (fun g q => ⟨fr_t f0 (fr_t f1 q.1), q.2.1, ?_⟩)
  unfold mrow mrd
  rw [q.2.1, show (i + (h.1 95 w - k)).toNat = i.toNat + ((h.1 95 w).toNat - k.toNat) by omega]
  refine rowL_joi (by omega) (by omega) (fun j hj => ?_) (fun j hj hj2 => ?_)
  · rw [q.2.2, if_neg (by omega), e2, if_pos (by omega), f0.2 94 _ (by unfold sRow; omega)]
  · rw [q.2.2, if_pos (by omega), f1.2 94 _ (by unfold sRow; omega), f0.2 94 _ (by unfold sRow; omega)]
    exact ca (by omega)
theorem costL_nil {K : Nat → Int → Int} (hv : VAL K) {v : Int} (v0 : 0 ≤ v) (v1 : v < K 13 14) : costL K v [] = 0 := by
  have := v_v hv v0 v1
  have d0 := v_0 hv (a := 0) (by omega) (by omega)
  unfold costL cst
  rw [if_neg (by omega), d0]
  omega
/-- a cost is -1 or small -/
theorem costL_b {K : Nat → Int → Int} (hv : VAL K) {v : Int} {l : List Int} (v0 : 0 ≤ v) (v1 : v < K 13 14) (hin : inR K l) : -1 ≤ costL K v l ∧ costL K v l ≤ 2000 := by
  have hvv := v_v hv v0 v1
  have q : ∀ (l : List Int) (m pl sz : Int), inR K l → 0 ≤ pl → pl ≤ 15 → K 24 v ≤ m → -1 ≤ cst K v l m pl sz ∧ cst K v l m pl sz ≤ 2000 := by
    intro l
    induction l with
    | nil =>
      intro m pl sz _ p0 p1 hm
      have hd := v_D hv p0 p1 (b := 0) (by omega) (by omega)
      unfold cst
      split <;> omega
    | cons x l ih =>
      intro m pl sz hin p0 p1 hm
      obtain ⟨hx, hin⟩ := inR_c hin
      have hp := v_p hv hx.1 hx.2
      have hd := v_D hv p0 p1 (b := K 14 x) (by omega) (by omega)
      have hs := srv_K hv (pl := pl) (m := m) hx.1 hx.2
      rw [cst]
      split
      · omega
      · exact ih _ _ _ hin (by omega) (by omega) (by omega)
  exact q l _ _ _ hin (by omega) (by omega) (Int.le_refl _)
theorem joi_perm {A B : List Int} {i k : Nat} : (joiL A i B k ++ joiL B k A i).Perm (A ++ B) := by
  unfold joiL
  have e1 : (A.take i ++ B.drop k ++ (B.take k ++ A.drop i)).Perm (A.take i ++ (A.drop i ++ (B.take k ++ B.drop k))) := by
    rw [List.append_assoc]
    refine List.Perm.append_left _ ?_
    refine List.perm_append_comm.trans ?_
    rw [List.append_assoc]
    refine (List.perm_append_comm_assoc _ _ _).trans ?_
    exact List.Perm.refl _
  refine e1.trans ?_
  rw [List.take_append_drop, ← List.append_assoc, List.take_append_drop]
def c89 (x1 x2 x3 x4 x5 : Int) (g : HH) : Option (Int × HH) := bnd (nX12_joins x1 x2 x3 x4 g) fun r1 => bnd (nX12_drives x1 r1) fun r2 => if r2.1 = (-1 : Int) then nX12_swapEnds_146 r2.2 else if x5 = (-1 : Int) then nX12_swapEnds_146 r2.2 else bnd (nX12_keeps r2.2) fun r3 => gd ((0 : Int) ≤ x3 ∧ x3 < (3 : Int)) <| bnd (some (hI r3 95 x3 0)) fun h4 => bnd (nX12_lays x1 h4) fun r5 => bnd (some (hI r5 71 51 (r5.1 71 59))) fun h6 => nX12_swapEnds_179 100000 x3 x5 r2.1 0 h6
def c179 (x3 x5 x6 : Int) (g : HH) : Option (Int × HH) := bnd (nX12_lays x3 g) fun r1 => gd (R32 (x6 + x5)) <| bnd (nX12_told (x6 + x5) r1) fun r2 => some (r2.1, r2.2)
theorem lX12_swapEnds_89 {x1 x2 x3 x4 x5 n : Int} {Q : Int × HH → Prop} (h9 : n ≤ 10) : ∀ (t N : Nat) (x : Int) (g : HH), t < N → x + t = n → 0 ≤ x → g.1 71 51 = n → (∀ g', Fr (sA 109) g g' → (∀ j, g'.1 109 j = if x ≤ j ∧ j < n then g.1 105 j else g.1 109 j) → Ok (c89 x1 x2 x3 x4 x5 g') Q) → Ok (nX12_swapEnds_89 N x1 x2 x3 x4 x5 x g) Q := by
  intro t
  induction t with
  | zero =>
    intro N x g hN hx h0 h51 hP
    obtain ⟨M, rfl⟩ := fuel_s hN
    rw [nX12_swapEnds_89_s]
    simp only [bX12_swapEnds_89]
    refine ok_neg (by omega) ?_
    exact hP g fr_r (fun j => by rw [if_neg (by omega)])
  | succ t ih =>
    intro N x g hN hx h0 h51 hP
    obtain ⟨M, rfl⟩ := fuel_s hN
    rw [nX12_swapEnds_89_s]
    simp only [bX12_swapEnds_89]
    repeat (first | with_reducible refine ok_gd (by first | omega | decide) ?_ | with_reducible refine ok_bs ?_ | with_reducible refine ok_pos (by omega) ?_ | with_reducible refine ok_neg (by omega) ?_ | with_reducible refine ok_tl ?_ | with_reducible refine ok_tr ?_)
    refine ih M (x + 1) _ (by omega) (by omega) (by omega) (by simp (disch := decide) only [rI_s, rI_n, rI_2, rC_s, rC_n, rC_2, rJ_1, rJ_s, rJ_n, updI_at, if_pos, if_neg]; exact h51) (fun g' f e => hP g' (fr_t (fr_I fr_r rfl) f) (fun j => ?_))
    rw [e j]
    simp (disch := decide) only [rI_s, rI_n, rI_2, rC_s, rC_n, rC_2, rJ_1, rJ_s, rJ_n, updI_at, if_pos, if_neg]
    (repeat' split) <;> first | rfl | omega | exact ca (by omega)
theorem lX12_swapEnds_179 {x3 x5 x6 n : Int} {Q : Int × HH → Prop} (h9 : n ≤ 10) : ∀ (t N : Nat) (x : Int) (g : HH), t < N → x + t = n → 0 ≤ x → g.1 71 51 = n → (∀ g', Fr (sA 105) g g' → (∀ j, g'.1 105 j = if x ≤ j ∧ j < n then g.1 109 j else g.1 105 j) → Ok (c179 x3 x5 x6 g') Q) → Ok (nX12_swapEnds_179 N x3 x5 x6 x g) Q := by
  intro t
  induction t with
  | zero =>
    intro N x g hN hx h0 h51 hP
    obtain ⟨M, rfl⟩ := fuel_s hN
    rw [nX12_swapEnds_179_s]
    simp only [bX12_swapEnds_179]
    refine ok_neg (by omega) ?_
    exact hP g fr_r (fun j => by rw [if_neg (by omega)])
  | succ t ih =>
    intro N x g hN hx h0 h51 hP
    obtain ⟨M, rfl⟩ := fuel_s hN
    rw [nX12_swapEnds_179_s]
    simp only [bX12_swapEnds_179]
    repeat (first | with_reducible refine ok_gd (by first | omega | decide) ?_ | with_reducible refine ok_bs ?_ | with_reducible refine ok_pos (by omega) ?_ | with_reducible refine ok_neg (by omega) ?_ | with_reducible refine ok_tl ?_ | with_reducible refine ok_tr ?_)
    refine ih M (x + 1) _ (by omega) (by omega) (by omega) (by simp (disch := decide) only [rI_s, rI_n, rI_2, rC_s, rC_n, rC_2, rJ_1, rJ_s, rJ_n, updI_at, if_pos, if_neg]; exact h51) (fun g' f e => hP g' (fr_t (fr_I fr_r rfl) f) (fun j => ?_))
    rw [e j]
    simp (disch := decide) only [rI_s, rI_n, rI_2, rC_s, rC_n, rC_2, rJ_1, rJ_s, rJ_n, updI_at, if_pos, if_neg]
    (repeat' split) <;> first | rfl | omega | exact ca (by omega)
theorem inv_joins (i : INV h m) {v i0 w k : Int} (hv0 : 0 ≤ v) (hv3 : v < 3) (hw0 : 0 ≤ w) (hw3 : w < 3) (hi0 : 0 ≤ i0) (hi : i0 ≤ h.1 31 v) (hk0 : 0 ≤ k) (hk : k ≤ h.1 31 w) (h9 : i0 + (h.1 31 w - k) ≤ 9) : Ok (nX12_joins v i0 w k m) (fun g => Fr sRow m g ∧ g.1 71 51 = i0 + (h.1 31 w - k) ∧ mrow g = joiL (rnd h.1 v) i0.toNat (rnd h.1 w) k.toNat) := by
  obtain ⟨a, b, c⟩ := i.2.1.1.2.1 v hv0 hv3
  obtain ⟨a2, b2, c2⟩ := i.2.1.1.2.1 w hw0 hw3
  refine ok_mono (sX12_joins hv0 hv3 hw0 hw3 hi0 (by omega) (by omega) hk0 (by omega) (by omega) (by omega)) (fun g q => ⟨q.1, by omega, by rw [q.2.2, c, c2]⟩)
theorem op_swapEnds (i : INV h h') (x1 x2 x3 x4 : Int) : both (nX11_swapEnds x1 x2 x3 x4 h) (nX12_swapEnds x1 x2 x3 x4 h') (cdX 1 2 3 0) := by
  have i0 := i
  have hv := i.1.1.1
  have hm := i.1.1.2
  have hn := inv_n i
  have hr := inv_RV i
  have hr1 := i.2.1.1.2.1
  simp only [nX11_swapEnds, bX11_swapEnds, nX11_swapEnds_49, bX11_swapEnds_49, nX11_swapEnds_136, bX11_swapEnds_136, nX11_swapEnds_137, bX11_swapEnds_137, nX12_swapEnds, bX12_swapEnds, nX12_swapEnds_45, bX12_swapEnds_45, both]
  by_cases p1 : 0 ≤ x1 ∧ x1 < h.1 13 14
  · have r1 := hr1 x1 p1.1 (by omega)
    by_cases p2 : 0 ≤ x3 ∧ x3 < h.1 13 14
    · have r3 := hr1 x3 p2.1 (by omega)
      by_cases p3 : 0 ≤ x2 ∧ x2 ≤ h.1 31 x1
      · by_cases p4 : 0 ≤ x4 ∧ x4 ≤ h.1 31 x3
        · by_cases p5 : x1 = x3
          · repeat (first | with_reducible refine ok_gd (by first | omega | decide) ?_ | with_reducible refine ok_bs ?_ | with_reducible refine ok_be (sX12_refuse _ _) ?_ | with_reducible refine ok_be (sX12_told _ _) ?_ | with_reducible refine ok_ndt (sX11_needVan hv) (by omega) ?_ | with_reducible refine ok_ndf (sX11_needVan hv) (by omega) ?_ | with_reducible refine ok_ndt (sX11_needParcel hv) (by omega) ?_ | with_reducible refine ok_ndf (sX11_needParcel hv) (by omega) ?_ | with_reducible refine ok_ndt (sX11_needIndex _ _ _ _) (by omega) ?_ | with_reducible refine ok_ndf (sX11_needIndex _ _ _ _) (by omega) ?_ | with_reducible refine ok_ndt (sX11_needRange _ _ _ _) (by omega) ?_ | with_reducible refine ok_ndf (sX11_needRange _ _ _ _) (by omega) ?_ | with_reducible refine ok_ndt (sX11_needThat2 _ _) (by omega) ?_ | with_reducible refine ok_ndf (sX11_needThat2 _ _) (by omega) ?_ | with_reducible refine ok_ndt (sX11_needState2 _ _) (by omega) ?_ | with_reducible refine ok_ndf (sX11_needState2 _ _) (by omega) ?_ | with_reducible refine ok_ndt (sX11_needElement _ _) (by omega) ?_ | with_reducible refine ok_ndf (sX11_needElement _ _) (by omega) ?_ | with_reducible refine ok_ndt (sX11_needPlace _ _) (by omega) ?_ | with_reducible refine ok_ndf (sX11_needPlace _ _) (by omega) ?_ | with_reducible refine ok_ndt (sX11_needSender _ _) (by omega) ?_ | with_reducible refine ok_ndf (sX11_needSender _ _) (by omega) ?_ | with_reducible refine ok_b2t (sX12_isVan hm hv) (by omega) ?_ | with_reducible refine ok_b2f (sX12_isVan hm hv) (by omega) ?_ | with_reducible refine ok_b2t (sX12_isParcel hm hv) (by omega) ?_ | with_reducible refine ok_b2f (sX12_isParcel hm hv) (by omega) ?_ | with_reducible refine ok_b2t (sX12_in _ _ _ _) (by omega) ?_ | with_reducible refine ok_b2f (sX12_in _ _ _ _) (by omega) ?_ | with_reducible refine ok_b2t (sX12_isPlace _ _) (by omega) ?_ | with_reducible refine ok_b2f (sX12_isPlace _ _) (by omega) ?_ | with_reducible refine ok_pos (by omega) ?_ | with_reducible refine ok_neg (by omega) ?_ | with_reducible refine ok_tl ?_ | with_reducible refine ok_tr ?_ | dsimp only)
            refine ok_some ?_
            repeat (first | with_reducible refine ok_gd (by first | omega | decide) ?_ | with_reducible refine ok_bs ?_ | with_reducible refine ok_be (sX12_refuse _ _) ?_ | with_reducible refine ok_be (sX12_told _ _) ?_ | with_reducible refine ok_ndt (sX11_needVan hv) (by omega) ?_ | with_reducible refine ok_ndf (sX11_needVan hv) (by omega) ?_ | with_reducible refine ok_ndt (sX11_needParcel hv) (by omega) ?_ | with_reducible refine ok_ndf (sX11_needParcel hv) (by omega) ?_ | with_reducible refine ok_ndt (sX11_needIndex _ _ _ _) (by omega) ?_ | with_reducible refine ok_ndf (sX11_needIndex _ _ _ _) (by omega) ?_ | with_reducible refine ok_ndt (sX11_needRange _ _ _ _) (by omega) ?_ | with_reducible refine ok_ndf (sX11_needRange _ _ _ _) (by omega) ?_ | with_reducible refine ok_ndt (sX11_needThat2 _ _) (by omega) ?_ | with_reducible refine ok_ndf (sX11_needThat2 _ _) (by omega) ?_ | with_reducible refine ok_ndt (sX11_needState2 _ _) (by omega) ?_ | with_reducible refine ok_ndf (sX11_needState2 _ _) (by omega) ?_ | with_reducible refine ok_ndt (sX11_needElement _ _) (by omega) ?_ | with_reducible refine ok_ndf (sX11_needElement _ _) (by omega) ?_ | with_reducible refine ok_ndt (sX11_needPlace _ _) (by omega) ?_ | with_reducible refine ok_ndf (sX11_needPlace _ _) (by omega) ?_ | with_reducible refine ok_ndt (sX11_needSender _ _) (by omega) ?_ | with_reducible refine ok_ndf (sX11_needSender _ _) (by omega) ?_ | with_reducible refine ok_b2t (sX12_isVan hm hv) (by omega) ?_ | with_reducible refine ok_b2f (sX12_isVan hm hv) (by omega) ?_ | with_reducible refine ok_b2t (sX12_isParcel hm hv) (by omega) ?_ | with_reducible refine ok_b2f (sX12_isParcel hm hv) (by omega) ?_ | with_reducible refine ok_b2t (sX12_in _ _ _ _) (by omega) ?_ | with_reducible refine ok_b2f (sX12_in _ _ _ _) (by omega) ?_ | with_reducible refine ok_b2t (sX12_isPlace _ _) (by omega) ?_ | with_reducible refine ok_b2f (sX12_isPlace _ _) (by omega) ?_ | with_reducible refine ok_pos (by omega) ?_ | with_reducible refine ok_neg (by omega) ?_ | with_reducible refine ok_tl ?_ | with_reducible refine ok_tr ?_ | dsimp only)
            exact both_thr i0 (by decide) rfl
          · have hsum : h.1 31 x1 + h.1 31 x3 ≤ 9 := by
              have := GR_len i.2.1.1.1 hn.1.1.2 hn.1.1.1
              rw [rnd_len, rnd_len, rnd_len] at this
              have q0 := (hr 0 (by omega) (by omega)).1
              have q1 := (hr 1 (by omega) (by omega)).1
              have q2 := (hr 2 (by omega) (by omega)).1
              have e1 : x1 = 0 ∨ x1 = 1 ∨ x1 = 2 := by omega
              have e3 : x3 = 0 ∨ x3 = 1 ∨ x3 = 2 := by omega
              rcases e1 with e1 | e1 | e1 <;> rcases e3 with e3 | e3 | e3 <;> rw [e1, e3] <;> omega
            repeat (first | with_reducible refine ok_gd (by first | omega | decide) ?_ | with_reducible refine ok_bs ?_ | with_reducible refine ok_be (sX12_refuse _ _) ?_ | with_reducible refine ok_be (sX12_told _ _) ?_ | with_reducible refine ok_ndt (sX11_needVan hv) (by omega) ?_ | with_reducible refine ok_ndf (sX11_needVan hv) (by omega) ?_ | with_reducible refine ok_ndt (sX11_needParcel hv) (by omega) ?_ | with_reducible refine ok_ndf (sX11_needParcel hv) (by omega) ?_ | with_reducible refine ok_ndt (sX11_needIndex _ _ _ _) (by omega) ?_ | with_reducible refine ok_ndf (sX11_needIndex _ _ _ _) (by omega) ?_ | with_reducible refine ok_ndt (sX11_needRange _ _ _ _) (by omega) ?_ | with_reducible refine ok_ndf (sX11_needRange _ _ _ _) (by omega) ?_ | with_reducible refine ok_ndt (sX11_needThat2 _ _) (by omega) ?_ | with_reducible refine ok_ndf (sX11_needThat2 _ _) (by omega) ?_ | with_reducible refine ok_ndt (sX11_needState2 _ _) (by omega) ?_ | with_reducible refine ok_ndf (sX11_needState2 _ _) (by omega) ?_ | with_reducible refine ok_ndt (sX11_needElement _ _) (by omega) ?_ | with_reducible refine ok_ndf (sX11_needElement _ _) (by omega) ?_ | with_reducible refine ok_ndt (sX11_needPlace _ _) (by omega) ?_ | with_reducible refine ok_ndf (sX11_needPlace _ _) (by omega) ?_ | with_reducible refine ok_ndt (sX11_needSender _ _) (by omega) ?_ | with_reducible refine ok_ndf (sX11_needSender _ _) (by omega) ?_ | with_reducible refine ok_b2t (sX12_isVan hm hv) (by omega) ?_ | with_reducible refine ok_b2f (sX12_isVan hm hv) (by omega) ?_ | with_reducible refine ok_b2t (sX12_isParcel hm hv) (by omega) ?_ | with_reducible refine ok_b2f (sX12_isParcel hm hv) (by omega) ?_ | with_reducible refine ok_b2t (sX12_in _ _ _ _) (by omega) ?_ | with_reducible refine ok_b2f (sX12_in _ _ _ _) (by omega) ?_ | with_reducible refine ok_b2t (sX12_isPlace _ _) (by omega) ?_ | with_reducible refine ok_b2f (sX12_isPlace _ _) (by omega) ?_ | with_reducible refine ok_pos (by omega) ?_ | with_reducible refine ok_neg (by omega) ?_ | with_reducible refine ok_tl ?_ | with_reducible refine ok_tr ?_ | dsimp only)
            have w1 := rw69 p1.1 (by omega : x1 < 3)
            have w3 := rw69 p2.1 (by omega : x3 < 3)
            refine ok_bnd (sX6_joinEnds hr p1.1 (by omega) p2.1 (by omega) a9_69 w1.1 w3.1 (by decide) p3.1 p3.2 p4.1 p4.2 (by omega)) (fun ra qa => ?_)
            obtain ⟨⟨qa1, qa2⟩, qa3⟩ := qa
            have ia : INV ra.2 h' := INV_scr i (a69_scC qa3) fr_r
            have eA : ∀ c, c < 69 → ra.2.1 c = h.1 c := fun c hc => fr_c qa3 c (fun i s => by unfold sA at s; omega)
            have e31 : ∀ v, ra.2.1 31 v = h.1 31 v := fun v => by rw [eA 31 (by omega)]
            have era : ∀ v, 0 ≤ v → v < 3 → rnd ra.2.1 v = rnd h.1 v := fun v v0 v3 => rnd_eq (fun c c1 c2 => eA c (by omega)) v0 v3
            repeat (first | with_reducible refine ok_gd (by first | omega | decide) ?_ | with_reducible refine ok_bs ?_ | with_reducible refine ok_be (sX12_refuse _ _) ?_ | with_reducible refine ok_be (sX12_told _ _) ?_ | with_reducible refine ok_ndt (sX11_needIndex _ _ _ _) (by omega) ?_ | with_reducible refine ok_ndf (sX11_needIndex _ _ _ _) (by omega) ?_ | with_reducible refine ok_ndt (sX11_needRange _ _ _ _) (by omega) ?_ | with_reducible refine ok_ndf (sX11_needRange _ _ _ _) (by omega) ?_ | with_reducible refine ok_ndt (sX11_needThat2 _ _) (by omega) ?_ | with_reducible refine ok_ndf (sX11_needThat2 _ _) (by omega) ?_ | with_reducible refine ok_ndt (sX11_needState2 _ _) (by omega) ?_ | with_reducible refine ok_ndf (sX11_needState2 _ _) (by omega) ?_ | with_reducible refine ok_ndt (sX11_needElement _ _) (by omega) ?_ | with_reducible refine ok_ndf (sX11_needElement _ _) (by omega) ?_ | with_reducible refine ok_ndt (sX11_needPlace _ _) (by omega) ?_ | with_reducible refine ok_ndf (sX11_needPlace _ _) (by omega) ?_ | with_reducible refine ok_ndt (sX11_needSender _ _) (by omega) ?_ | with_reducible refine ok_ndf (sX11_needSender _ _) (by omega) ?_ | with_reducible refine ok_b2t (sX12_in _ _ _ _) (by omega) ?_ | with_reducible refine ok_b2f (sX12_in _ _ _ _) (by omega) ?_ | with_reducible refine ok_b2t (sX12_isPlace _ _) (by omega) ?_ | with_reducible refine ok_b2f (sX12_isPlace _ _) (by omega) ?_ | with_reducible refine ok_pos (by omega) ?_ | with_reducible refine ok_neg (by omega) ?_ | with_reducible refine ok_tl ?_ | with_reducible refine ok_tr ?_ | dsimp only)
            refine ok_bnd (sX6_joinEnds (inv_RV ia) p2.1 (by omega) p1.1 (by omega) a9_70 w3.2 w1.2 (by decide) p4.1 (by rw [e31]; exact p4.2) p3.1 (by rw [e31]; exact p3.2) (by rw [e31]; omega)) (fun rb qb => ?_)
            obtain ⟨⟨qb1, qb2⟩, qb3⟩ := qb
            have ib : INV rb.2 h' := INV_scr ia (fr_m (fun c i s => by unfold sA at s; unfold scC; omega) qb3) fr_r
            have eB : ∀ c, c < 69 → rb.2.1 c = h.1 c := fun c hc => by rw [fr_c qb3 c (fun i s => by unfold sA at s; omega)]; exact eA c hc
            have erb : ∀ v, 0 ≤ v → v < 3 → rnd rb.2.1 v = rnd h.1 v := fun v v0 v3 => rnd_eq (fun c c1 c2 => eB c (by omega)) v0 v3
            have b31 : ∀ v, rb.2.1 31 v = h.1 31 v := fun v => by rw [eB 31 (by omega)]
            have b13 : rb.2.1 13 10 = h.1 13 10 ∧ rb.2.1 13 14 = h.1 13 14 := by rw [eB 13 (by omega)]; exact ⟨rfl, rfl⟩
            rw [e31, era x1 p1.1 (by omega), era x3 p2.1 (by omega)] at qb2
            rw [e31] at qb1
            have e69 : rb.2.1 69 = ra.2.1 69 := fr_c qb3 69 (fun i s => by unfold sA at s; omega)
            rw [← e69] at qa2
            generalize hA : rnd h.1 x1 = A at *
            generalize hB : rnd h.1 x3 = B at *
            generalize hl1 : joiL A x2.toNat B x4.toNat = l1 at *
            generalize hl2 : joiL B x4.toNat A x2.toNat = l2 at *
            have hpm : (l1 ++ l2).Perm (A ++ B) := by rw [← hl1, ← hl2]; exact joi_perm
            have hAB : ∀ p, p ∈ A ++ B → p ∈ rnd h.1 x1 ∨ p ∈ rnd h.1 x3 := fun p hp => by rw [hA, hB]; exact List.mem_append.mp hp
            have hin1 : ∀ p ∈ l1, p ∈ rnd h.1 x1 ∨ p ∈ rnd h.1 x3 := fun p hp => hAB p (hpm.mem_iff.mp (List.mem_append_left _ hp))
            have hin2 : ∀ p ∈ l2, p ∈ rnd h.1 x1 ∨ p ∈ rnd h.1 x3 := fun p hp => hAB p (hpm.mem_iff.mp (List.mem_append_right _ hp))
            have hgd : ∀ p, p ∈ rnd h.1 x1 ∨ p ∈ rnd h.1 x3 → (0 ≤ p ∧ p < rb.2.1 13 10) ∧ rb.2.1 20 p = 0 := fun p hp => by
              rw [b13.1, eB 20 (by omega)]
              rcases hp with hp | hp
              · exact ⟨(hr x1 p1.1 (by omega)).2 p hp, (i.2.1.1.1.1 x1 p1.1 (by omega)).2.1 p hp⟩
              · exact ⟨(hr x3 p2.1 (by omega)).2 p hp, (i.2.1.1.1.1 x3 p2.1 (by omega)).2.1 p hp⟩
            have hir1 : inR rb.2.1 l1 := fun p hp => (hgd p (hin1 p hp)).1
            have hir2 : inR rb.2.1 l2 := fun p hp => (hgd p (hin2 p hp)).1
            have hdAB : ∀ x ∈ A, ∀ y ∈ B, x ≠ y := fun x hx y hy e => p5 (GR_dsj i.2.1.1.1 x x1 x3 p1.1 (by omega) p2.1 (by omega) (by rw [hA]; exact hx) (by rw [hB, e]; exact hy))
            have hndAB : (A ++ B).Nodup := List.nodup_append.mpr ⟨by rw [← hA]; exact GR_nd i.2.1.1.1 p1.1 (by omega), by rw [← hB]; exact GR_nd i.2.1.1.1 p2.1 (by omega), hdAB⟩
            have hnd12 := hpm.nodup_iff.mpr hndAB
            obtain ⟨nd1, nd2, nd3⟩ := List.nodup_append.mp hnd12
            rw [qa1, qb1]
            generalize hn1 : x2 + (h.1 31 x3 - x4) = n1 at *
            generalize hn2 : x4 + (h.1 31 x1 - x2) = n2 at *
            repeat (first | with_reducible refine ok_gd (by first | omega | decide) ?_ | with_reducible refine ok_bs ?_ | with_reducible refine ok_be (sX12_refuse _ _) ?_ | with_reducible refine ok_be (sX12_told _ _) ?_ | with_reducible refine ok_ndt (sX11_needIndex _ _ _ _) (by omega) ?_ | with_reducible refine ok_ndf (sX11_needIndex _ _ _ _) (by omega) ?_ | with_reducible refine ok_ndt (sX11_needRange _ _ _ _) (by omega) ?_ | with_reducible refine ok_ndf (sX11_needRange _ _ _ _) (by omega) ?_ | with_reducible refine ok_ndt (sX11_needThat2 _ _) (by omega) ?_ | with_reducible refine ok_ndf (sX11_needThat2 _ _) (by omega) ?_ | with_reducible refine ok_ndt (sX11_needState2 _ _) (by omega) ?_ | with_reducible refine ok_ndf (sX11_needState2 _ _) (by omega) ?_ | with_reducible refine ok_ndt (sX11_needElement _ _) (by omega) ?_ | with_reducible refine ok_ndf (sX11_needElement _ _) (by omega) ?_ | with_reducible refine ok_ndt (sX11_needPlace _ _) (by omega) ?_ | with_reducible refine ok_ndf (sX11_needPlace _ _) (by omega) ?_ | with_reducible refine ok_ndt (sX11_needSender _ _) (by omega) ?_ | with_reducible refine ok_ndf (sX11_needSender _ _) (by omega) ?_ | with_reducible refine ok_b2t (sX12_in _ _ _ _) (by omega) ?_ | with_reducible refine ok_b2f (sX12_in _ _ _ _) (by omega) ?_ | with_reducible refine ok_b2t (sX12_isPlace _ _) (by omega) ?_ | with_reducible refine ok_b2f (sX12_isPlace _ _) (by omega) ?_ | with_reducible refine ok_pos (by omega) ?_ | with_reducible refine ok_neg (by omega) ?_ | with_reducible refine ok_tl ?_ | with_reducible refine ok_tr ?_ | dsimp only)
            refine ok_be (sX2_costOf ib.1.1.1 a9_69 (v := x1) p1.1 (by omega) (by omega) (by omega) (by rw [qa2]; exact hir1)) ?_
            repeat (first | with_reducible refine ok_gd (by first | omega | decide) ?_ | with_reducible refine ok_bs ?_ | with_reducible refine ok_be (sX12_refuse _ _) ?_ | with_reducible refine ok_be (sX12_told _ _) ?_ | with_reducible refine ok_ndt (sX11_needIndex _ _ _ _) (by omega) ?_ | with_reducible refine ok_ndf (sX11_needIndex _ _ _ _) (by omega) ?_ | with_reducible refine ok_ndt (sX11_needRange _ _ _ _) (by omega) ?_ | with_reducible refine ok_ndf (sX11_needRange _ _ _ _) (by omega) ?_ | with_reducible refine ok_ndt (sX11_needThat2 _ _) (by omega) ?_ | with_reducible refine ok_ndf (sX11_needThat2 _ _) (by omega) ?_ | with_reducible refine ok_ndt (sX11_needState2 _ _) (by omega) ?_ | with_reducible refine ok_ndf (sX11_needState2 _ _) (by omega) ?_ | with_reducible refine ok_ndt (sX11_needElement _ _) (by omega) ?_ | with_reducible refine ok_ndf (sX11_needElement _ _) (by omega) ?_ | with_reducible refine ok_ndt (sX11_needPlace _ _) (by omega) ?_ | with_reducible refine ok_ndf (sX11_needPlace _ _) (by omega) ?_ | with_reducible refine ok_ndt (sX11_needSender _ _) (by omega) ?_ | with_reducible refine ok_ndf (sX11_needSender _ _) (by omega) ?_ | with_reducible refine ok_b2t (sX12_in _ _ _ _) (by omega) ?_ | with_reducible refine ok_b2f (sX12_in _ _ _ _) (by omega) ?_ | with_reducible refine ok_b2t (sX12_isPlace _ _) (by omega) ?_ | with_reducible refine ok_b2f (sX12_isPlace _ _) (by omega) ?_ | with_reducible refine ok_pos (by omega) ?_ | with_reducible refine ok_neg (by omega) ?_ | with_reducible refine ok_tl ?_ | with_reducible refine ok_tr ?_ | dsimp only)
            refine ok_be (sX2_costOf ib.1.1.1 a9_70 (v := x3) p2.1 (by omega) (by omega) (by omega) (by rw [qb2]; exact hir2)) ?_
            rw [qa2, qb2]
            generalize hc1 : costL rb.2.1 x1 l1 = c1 at *
            generalize hc2 : costL rb.2.1 x3 l2 = c2 at *
            have hmod : ∀ Q : Int × HH → Prop, (∀ mz : HH, Fr scM h' mz → mrow mz = l1 → mz.1 71 51 = n1 → mz.1 71 59 = n2 → rowL (mz.1 109) 0 n2.toNat = l2 → Ok (if c1 = (-1 : Int) then nX12_swapEnds_146 mz else if c2 = (-1 : Int) then nX12_swapEnds_146 mz else bnd (nX12_keeps mz) fun r3 => gd ((0 : Int) ≤ x3 ∧ x3 < (3 : Int)) <| bnd (some (hI r3 95 x3 0)) fun h4 => bnd (nX12_lays x1 h4) fun r5 => bnd (some (hI r5 71 51 (r5.1 71 59))) fun h6 => nX12_swapEnds_179 100000 x3 c2 c1 0 h6) Q) → Ok (bnd (nX12_joins x3 x4 x1 x2 h') fun r5 => bnd (nX12_drives x3 r5) fun r6 => bnd (some (hI r6.2 71 59 (r6.2.1 71 51))) fun h7 => nX12_swapEnds_89 100000 x1 x2 x3 x4 r6.1 0 h7) Q := fun Q hQ => by
              refine ok_bnd (inv_joins ib p2.1 (by omega) p1.1 (by omega) p4.1 (by rw [b31]; exact p4.2) p3.1 (by rw [b31]; exact p3.2) (by rw [b31]; omega)) (fun m1 w1 => ?_)
              rw [erb x1 p1.1 (by omega), erb x3 p2.1 (by omega), hA, hB, hl2, b31, hn2] at w1
              have im1 : INV rb.2 m1 := INV_scr ib fr_r (row_scM w1.1)
              refine ok_bnd (inv_drives im1 (v := x3) p2.1 (by omega) (by omega) w1.2.2 hir2) (fun m2 w2 => ?_)
              rw [hc2] at w2
              have im2 : INV rb.2 m2.2 := INV_scr im1 fr_r (dr_scM w2.2.1)
              obtain ⟨em2, e512⟩ := mrow_fr w2.2.1 (fun i s => by unfold sDr at s; omega) (fun s => by unfold sDr at s; omega)
              rw [w2.1]
              repeat (first | with_reducible refine ok_gd (by first | omega | decide) ?_ | with_reducible refine ok_bs ?_ | with_reducible refine ok_pos (by omega) ?_ | with_reducible refine ok_neg (by omega) ?_ | with_reducible refine ok_tl ?_ | with_reducible refine ok_tr ?_)
              have f3 : Fr scM m2.2 (hI m2.2 71 59 (m2.2.1 71 51)) := fr_I fr_r (by unfold scM; omega)
              have e513 : (hI m2.2 71 59 (m2.2.1 71 51)).1 71 51 = n2 := by simp (disch := decide) only [rI_s, rI_n, rI_2, rC_s, rC_n, rC_2, rJ_1, rJ_s, rJ_n, updI_at, if_pos, if_neg]; omega
              have e593 : (hI m2.2 71 59 (m2.2.1 71 51)).1 71 59 = n2 := by simp (disch := decide) only [rI_s, rI_n, rI_2, rC_s, rC_n, rC_2, rJ_1, rJ_s, rJ_n, updI_at, if_pos, if_neg]; omega
              refine lX12_swapEnds_89 (n := n2) (by omega) n2.toNat 100000 0 _ (by omega) (by omega) (by omega) e513 (fun m4 f4 e4 => ?_)
              have f4' : Fr scM m2.2 m4 := fr_t f3 (fr_m (fun c i s => by unfold sA at s; unfold scM; omega) f4)
              have im4 : INV rb.2 m4 := INV_scr im2 fr_r f4'
              have e109 : rowL (m4.1 109) 0 n2.toNat = l2 := by
                rw [← w1.2.2, ← em2]
                unfold mrow
                rw [e512, w1.2.1]
                refine rowL_ext (fun j hj => ?_)
                rw [e4, if_pos (by omega)]
                simp (disch := decide) only [rI_s, rI_n, rI_2, rC_s, rC_n, rC_2, rJ_1, rJ_s, rJ_n, updI_at, if_pos, if_neg]
              unfold c89
              refine ok_bnd (inv_joins im4 p1.1 (by omega) p2.1 (by omega) p3.1 (by rw [b31]; exact p3.2) p4.1 (by rw [b31]; exact p4.2) (by rw [b31]; omega)) (fun m5 w5 => ?_)
              rw [erb x1 p1.1 (by omega), erb x3 p2.1 (by omega), hA, hB, hl1, b31, hn1] at w5
              have im5 : INV rb.2 m5 := INV_scr im4 fr_r (row_scM w5.1)
              refine ok_bnd (inv_drives im5 (v := x1) p1.1 (by omega) (by omega) w5.2.2 hir1) (fun m6 w6 => ?_)
              rw [hc1] at w6
              obtain ⟨em6, e516⟩ := mrow_fr w6.2.1 (fun i s => by unfold sDr at s; omega) (fun s => by unfold sDr at s; omega)
              rw [w6.1]
              refine hQ m6.2 (fr_t (row_scM w1.1) (fr_t (dr_scM w2.2.1) (fr_t f4' (fr_t (row_scM w5.1) (dr_scM w6.2.1))))) (by rw [em6, w5.2.2]) (by omega) ?_ ?_
              · rw [w6.2.1.2 71 59 (by unfold sDr; omega), w5.1.2 71 59 (by unfold sRow; omega), f4.2 71 59 (sA_n (by decide) _)]
                exact e593
              · rw [fr_c w6.2.1 109 (fun i s => by unfold sDr at s; omega), fr_c w5.1 109 (fun i s => by unfold sRow at s; omega)]
                exact e109
            by_cases z1 : c1 = -1
            · refine ok_pos z1 ?_
              repeat (first | with_reducible refine ok_gd (by first | omega | decide) ?_ | with_reducible refine ok_bs ?_ | with_reducible refine ok_be (sX12_refuse _ _) ?_ | with_reducible refine ok_be (sX12_told _ _) ?_ | with_reducible refine ok_ndt (sX11_needIndex _ _ _ _) (by omega) ?_ | with_reducible refine ok_ndf (sX11_needIndex _ _ _ _) (by omega) ?_ | with_reducible refine ok_ndt (sX11_needRange _ _ _ _) (by omega) ?_ | with_reducible refine ok_ndf (sX11_needRange _ _ _ _) (by omega) ?_ | with_reducible refine ok_ndt (sX11_needThat2 _ _) (by omega) ?_ | with_reducible refine ok_ndf (sX11_needThat2 _ _) (by omega) ?_ | with_reducible refine ok_ndt (sX11_needState2 _ _) (by omega) ?_ | with_reducible refine ok_ndf (sX11_needState2 _ _) (by omega) ?_ | with_reducible refine ok_ndt (sX11_needElement _ _) (by omega) ?_ | with_reducible refine ok_ndf (sX11_needElement _ _) (by omega) ?_ | with_reducible refine ok_ndt (sX11_needPlace _ _) (by omega) ?_ | with_reducible refine ok_ndf (sX11_needPlace _ _) (by omega) ?_ | with_reducible refine ok_ndt (sX11_needSender _ _) (by omega) ?_ | with_reducible refine ok_ndf (sX11_needSender _ _) (by omega) ?_ | with_reducible refine ok_b2t (sX12_in _ _ _ _) (by omega) ?_ | with_reducible refine ok_b2f (sX12_in _ _ _ _) (by omega) ?_ | with_reducible refine ok_b2t (sX12_isPlace _ _) (by omega) ?_ | with_reducible refine ok_b2f (sX12_isPlace _ _) (by omega) ?_ | with_reducible refine ok_pos (by omega) ?_ | with_reducible refine ok_neg (by omega) ?_ | with_reducible refine ok_tl ?_ | with_reducible refine ok_tr ?_ | dsimp only)
              refine ok_some ?_
              dsimp only
              repeat (first | with_reducible refine ok_gd (by first | omega | decide) ?_ | with_reducible refine ok_bs ?_ | with_reducible refine ok_be (sX12_refuse _ _) ?_ | with_reducible refine ok_be (sX12_told _ _) ?_ | with_reducible refine ok_ndt (sX11_needVan hv) (by omega) ?_ | with_reducible refine ok_ndf (sX11_needVan hv) (by omega) ?_ | with_reducible refine ok_ndt (sX11_needParcel hv) (by omega) ?_ | with_reducible refine ok_ndf (sX11_needParcel hv) (by omega) ?_ | with_reducible refine ok_ndt (sX11_needIndex _ _ _ _) (by omega) ?_ | with_reducible refine ok_ndf (sX11_needIndex _ _ _ _) (by omega) ?_ | with_reducible refine ok_ndt (sX11_needRange _ _ _ _) (by omega) ?_ | with_reducible refine ok_ndf (sX11_needRange _ _ _ _) (by omega) ?_ | with_reducible refine ok_ndt (sX11_needThat2 _ _) (by omega) ?_ | with_reducible refine ok_ndf (sX11_needThat2 _ _) (by omega) ?_ | with_reducible refine ok_ndt (sX11_needState2 _ _) (by omega) ?_ | with_reducible refine ok_ndf (sX11_needState2 _ _) (by omega) ?_ | with_reducible refine ok_ndt (sX11_needElement _ _) (by omega) ?_ | with_reducible refine ok_ndf (sX11_needElement _ _) (by omega) ?_ | with_reducible refine ok_ndt (sX11_needPlace _ _) (by omega) ?_ | with_reducible refine ok_ndf (sX11_needPlace _ _) (by omega) ?_ | with_reducible refine ok_ndt (sX11_needSender _ _) (by omega) ?_ | with_reducible refine ok_ndf (sX11_needSender _ _) (by omega) ?_ | with_reducible refine ok_b2t (sX12_isVan hm hv) (by omega) ?_ | with_reducible refine ok_b2f (sX12_isVan hm hv) (by omega) ?_ | with_reducible refine ok_b2t (sX12_isParcel hm hv) (by omega) ?_ | with_reducible refine ok_b2f (sX12_isParcel hm hv) (by omega) ?_ | with_reducible refine ok_b2t (sX12_in _ _ _ _) (by omega) ?_ | with_reducible refine ok_b2f (sX12_in _ _ _ _) (by omega) ?_ | with_reducible refine ok_b2t (sX12_isPlace _ _) (by omega) ?_ | with_reducible refine ok_b2f (sX12_isPlace _ _) (by omega) ?_ | with_reducible refine ok_pos (by omega) ?_ | with_reducible refine ok_neg (by omega) ?_ | with_reducible refine ok_tl ?_ | with_reducible refine ok_tr ?_ | dsimp only)
              refine hmod _ (fun mz fz _ _ _ _ => ?_)
              refine ok_pos z1 ?_
              simp only [nX12_swapEnds_146, bX12_swapEnds_146]
              repeat (first | with_reducible refine ok_gd (by first | omega | decide) ?_ | with_reducible refine ok_bs ?_ | with_reducible refine ok_be (sX12_refuse _ _) ?_ | with_reducible refine ok_be (sX12_told _ _) ?_ | with_reducible refine ok_ndt (sX11_needIndex _ _ _ _) (by omega) ?_ | with_reducible refine ok_ndf (sX11_needIndex _ _ _ _) (by omega) ?_ | with_reducible refine ok_ndt (sX11_needRange _ _ _ _) (by omega) ?_ | with_reducible refine ok_ndf (sX11_needRange _ _ _ _) (by omega) ?_ | with_reducible refine ok_ndt (sX11_needThat2 _ _) (by omega) ?_ | with_reducible refine ok_ndf (sX11_needThat2 _ _) (by omega) ?_ | with_reducible refine ok_ndt (sX11_needState2 _ _) (by omega) ?_ | with_reducible refine ok_ndf (sX11_needState2 _ _) (by omega) ?_ | with_reducible refine ok_ndt (sX11_needElement _ _) (by omega) ?_ | with_reducible refine ok_ndf (sX11_needElement _ _) (by omega) ?_ | with_reducible refine ok_ndt (sX11_needPlace _ _) (by omega) ?_ | with_reducible refine ok_ndf (sX11_needPlace _ _) (by omega) ?_ | with_reducible refine ok_ndt (sX11_needSender _ _) (by omega) ?_ | with_reducible refine ok_ndf (sX11_needSender _ _) (by omega) ?_ | with_reducible refine ok_b2t (sX12_in _ _ _ _) (by omega) ?_ | with_reducible refine ok_b2f (sX12_in _ _ _ _) (by omega) ?_ | with_reducible refine ok_b2t (sX12_isPlace _ _) (by omega) ?_ | with_reducible refine ok_b2f (sX12_isPlace _ _) (by omega) ?_ | with_reducible refine ok_pos (by omega) ?_ | with_reducible refine ok_neg (by omega) ?_ | with_reducible refine ok_tl ?_ | with_reducible refine ok_tr ?_ | dsimp only)
              exact both_thr (INV_scr ib fr_r fz) (by decide) rfl
            · refine ok_neg z1 ?_
              by_cases z2 : c2 = -1
              · refine ok_pos z2 ?_
                repeat (first | with_reducible refine ok_gd (by first | omega | decide) ?_ | with_reducible refine ok_bs ?_ | with_reducible refine ok_be (sX12_refuse _ _) ?_ | with_reducible refine ok_be (sX12_told _ _) ?_ | with_reducible refine ok_ndt (sX11_needIndex _ _ _ _) (by omega) ?_ | with_reducible refine ok_ndf (sX11_needIndex _ _ _ _) (by omega) ?_ | with_reducible refine ok_ndt (sX11_needRange _ _ _ _) (by omega) ?_ | with_reducible refine ok_ndf (sX11_needRange _ _ _ _) (by omega) ?_ | with_reducible refine ok_ndt (sX11_needThat2 _ _) (by omega) ?_ | with_reducible refine ok_ndf (sX11_needThat2 _ _) (by omega) ?_ | with_reducible refine ok_ndt (sX11_needState2 _ _) (by omega) ?_ | with_reducible refine ok_ndf (sX11_needState2 _ _) (by omega) ?_ | with_reducible refine ok_ndt (sX11_needElement _ _) (by omega) ?_ | with_reducible refine ok_ndf (sX11_needElement _ _) (by omega) ?_ | with_reducible refine ok_ndt (sX11_needPlace _ _) (by omega) ?_ | with_reducible refine ok_ndf (sX11_needPlace _ _) (by omega) ?_ | with_reducible refine ok_ndt (sX11_needSender _ _) (by omega) ?_ | with_reducible refine ok_ndf (sX11_needSender _ _) (by omega) ?_ | with_reducible refine ok_b2t (sX12_in _ _ _ _) (by omega) ?_ | with_reducible refine ok_b2f (sX12_in _ _ _ _) (by omega) ?_ | with_reducible refine ok_b2t (sX12_isPlace _ _) (by omega) ?_ | with_reducible refine ok_b2f (sX12_isPlace _ _) (by omega) ?_ | with_reducible refine ok_pos (by omega) ?_ | with_reducible refine ok_neg (by omega) ?_ | with_reducible refine ok_tl ?_ | with_reducible refine ok_tr ?_ | dsimp only)
                refine ok_some ?_
                dsimp only
                repeat (first | with_reducible refine ok_gd (by first | omega | decide) ?_ | with_reducible refine ok_bs ?_ | with_reducible refine ok_be (sX12_refuse _ _) ?_ | with_reducible refine ok_be (sX12_told _ _) ?_ | with_reducible refine ok_ndt (sX11_needVan hv) (by omega) ?_ | with_reducible refine ok_ndf (sX11_needVan hv) (by omega) ?_ | with_reducible refine ok_ndt (sX11_needParcel hv) (by omega) ?_ | with_reducible refine ok_ndf (sX11_needParcel hv) (by omega) ?_ | with_reducible refine ok_ndt (sX11_needIndex _ _ _ _) (by omega) ?_ | with_reducible refine ok_ndf (sX11_needIndex _ _ _ _) (by omega) ?_ | with_reducible refine ok_ndt (sX11_needRange _ _ _ _) (by omega) ?_ | with_reducible refine ok_ndf (sX11_needRange _ _ _ _) (by omega) ?_ | with_reducible refine ok_ndt (sX11_needThat2 _ _) (by omega) ?_ | with_reducible refine ok_ndf (sX11_needThat2 _ _) (by omega) ?_ | with_reducible refine ok_ndt (sX11_needState2 _ _) (by omega) ?_ | with_reducible refine ok_ndf (sX11_needState2 _ _) (by omega) ?_ | with_reducible refine ok_ndt (sX11_needElement _ _) (by omega) ?_ | with_reducible refine ok_ndf (sX11_needElement _ _) (by omega) ?_ | with_reducible refine ok_ndt (sX11_needPlace _ _) (by omega) ?_ | with_reducible refine ok_ndf (sX11_needPlace _ _) (by omega) ?_ | with_reducible refine ok_ndt (sX11_needSender _ _) (by omega) ?_ | with_reducible refine ok_ndf (sX11_needSender _ _) (by omega) ?_ | with_reducible refine ok_b2t (sX12_isVan hm hv) (by omega) ?_ | with_reducible refine ok_b2f (sX12_isVan hm hv) (by omega) ?_ | with_reducible refine ok_b2t (sX12_isParcel hm hv) (by omega) ?_ | with_reducible refine ok_b2f (sX12_isParcel hm hv) (by omega) ?_ | with_reducible refine ok_b2t (sX12_in _ _ _ _) (by omega) ?_ | with_reducible refine ok_b2f (sX12_in _ _ _ _) (by omega) ?_ | with_reducible refine ok_b2t (sX12_isPlace _ _) (by omega) ?_ | with_reducible refine ok_b2f (sX12_isPlace _ _) (by omega) ?_ | with_reducible refine ok_pos (by omega) ?_ | with_reducible refine ok_neg (by omega) ?_ | with_reducible refine ok_tl ?_ | with_reducible refine ok_tr ?_ | dsimp only)
                refine hmod _ (fun mz fz _ _ _ _ => ?_)
                refine ok_neg z1 ?_
                refine ok_pos z2 ?_
                simp only [nX12_swapEnds_146, bX12_swapEnds_146]
                repeat (first | with_reducible refine ok_gd (by first | omega | decide) ?_ | with_reducible refine ok_bs ?_ | with_reducible refine ok_be (sX12_refuse _ _) ?_ | with_reducible refine ok_be (sX12_told _ _) ?_ | with_reducible refine ok_ndt (sX11_needIndex _ _ _ _) (by omega) ?_ | with_reducible refine ok_ndf (sX11_needIndex _ _ _ _) (by omega) ?_ | with_reducible refine ok_ndt (sX11_needRange _ _ _ _) (by omega) ?_ | with_reducible refine ok_ndf (sX11_needRange _ _ _ _) (by omega) ?_ | with_reducible refine ok_ndt (sX11_needThat2 _ _) (by omega) ?_ | with_reducible refine ok_ndf (sX11_needThat2 _ _) (by omega) ?_ | with_reducible refine ok_ndt (sX11_needState2 _ _) (by omega) ?_ | with_reducible refine ok_ndf (sX11_needState2 _ _) (by omega) ?_ | with_reducible refine ok_ndt (sX11_needElement _ _) (by omega) ?_ | with_reducible refine ok_ndf (sX11_needElement _ _) (by omega) ?_ | with_reducible refine ok_ndt (sX11_needPlace _ _) (by omega) ?_ | with_reducible refine ok_ndf (sX11_needPlace _ _) (by omega) ?_ | with_reducible refine ok_ndt (sX11_needSender _ _) (by omega) ?_ | with_reducible refine ok_ndf (sX11_needSender _ _) (by omega) ?_ | with_reducible refine ok_b2t (sX12_in _ _ _ _) (by omega) ?_ | with_reducible refine ok_b2f (sX12_in _ _ _ _) (by omega) ?_ | with_reducible refine ok_b2t (sX12_isPlace _ _) (by omega) ?_ | with_reducible refine ok_b2f (sX12_isPlace _ _) (by omega) ?_ | with_reducible refine ok_pos (by omega) ?_ | with_reducible refine ok_neg (by omega) ?_ | with_reducible refine ok_tl ?_ | with_reducible refine ok_tr ?_ | dsimp only)
                exact both_thr (INV_scr ib fr_r fz) (by decide) rfl
              · refine ok_neg z2 ?_
                have c1b := costL_b ib.1.1.1 (v := x1) (l := l1) p1.1 (by omega) hir1
                have c2b := costL_b ib.1.1.1 (v := x3) (l := l2) p2.1 (by omega) hir2
                rw [hc1] at c1b
                rw [hc2] at c2b
                repeat (first | with_reducible refine ok_gd (by first | omega | decide) ?_ | with_reducible refine ok_bs ?_ | with_reducible refine ok_be (sX12_refuse _ _) ?_ | with_reducible refine ok_be (sX12_told _ _) ?_ | with_reducible refine ok_ndt (sX11_needIndex _ _ _ _) (by omega) ?_ | with_reducible refine ok_ndf (sX11_needIndex _ _ _ _) (by omega) ?_ | with_reducible refine ok_ndt (sX11_needRange _ _ _ _) (by omega) ?_ | with_reducible refine ok_ndf (sX11_needRange _ _ _ _) (by omega) ?_ | with_reducible refine ok_ndt (sX11_needThat2 _ _) (by omega) ?_ | with_reducible refine ok_ndf (sX11_needThat2 _ _) (by omega) ?_ | with_reducible refine ok_ndt (sX11_needState2 _ _) (by omega) ?_ | with_reducible refine ok_ndf (sX11_needState2 _ _) (by omega) ?_ | with_reducible refine ok_ndt (sX11_needElement _ _) (by omega) ?_ | with_reducible refine ok_ndf (sX11_needElement _ _) (by omega) ?_ | with_reducible refine ok_ndt (sX11_needPlace _ _) (by omega) ?_ | with_reducible refine ok_ndf (sX11_needPlace _ _) (by omega) ?_ | with_reducible refine ok_ndt (sX11_needSender _ _) (by omega) ?_ | with_reducible refine ok_ndf (sX11_needSender _ _) (by omega) ?_ | with_reducible refine ok_b2t (sX12_in _ _ _ _) (by omega) ?_ | with_reducible refine ok_b2f (sX12_in _ _ _ _) (by omega) ?_ | with_reducible refine ok_b2t (sX12_isPlace _ _) (by omega) ?_ | with_reducible refine ok_b2f (sX12_isPlace _ _) (by omega) ?_ | with_reducible refine ok_pos (by omega) ?_ | with_reducible refine ok_neg (by omega) ?_ | with_reducible refine ok_tl ?_ | with_reducible refine ok_tr ?_ | dsimp only)
                refine ok_bnd (inv_rem ib) (fun g1 q1 => ?_)
                have f1 := rem_31 q1
                have fg1 : ∀ c, c ≠ 32 → c ≠ 33 → g1.1 c = rb.2.1 c := fun c h1 h2 => fr_c f1.2 c (fun i s => by unfold sHi at s; omega)
                repeat (first | with_reducible refine ok_gd (by first | omega | decide) ?_ | with_reducible refine ok_bs ?_ | with_reducible refine ok_be (sX12_refuse _ _) ?_ | with_reducible refine ok_be (sX12_told _ _) ?_ | with_reducible refine ok_ndt (sX11_needIndex _ _ _ _) (by omega) ?_ | with_reducible refine ok_ndf (sX11_needIndex _ _ _ _) (by omega) ?_ | with_reducible refine ok_ndt (sX11_needRange _ _ _ _) (by omega) ?_ | with_reducible refine ok_ndf (sX11_needRange _ _ _ _) (by omega) ?_ | with_reducible refine ok_ndt (sX11_needThat2 _ _) (by omega) ?_ | with_reducible refine ok_ndf (sX11_needThat2 _ _) (by omega) ?_ | with_reducible refine ok_ndt (sX11_needState2 _ _) (by omega) ?_ | with_reducible refine ok_ndf (sX11_needState2 _ _) (by omega) ?_ | with_reducible refine ok_ndt (sX11_needElement _ _) (by omega) ?_ | with_reducible refine ok_ndf (sX11_needElement _ _) (by omega) ?_ | with_reducible refine ok_ndt (sX11_needPlace _ _) (by omega) ?_ | with_reducible refine ok_ndf (sX11_needPlace _ _) (by omega) ?_ | with_reducible refine ok_ndt (sX11_needSender _ _) (by omega) ?_ | with_reducible refine ok_ndf (sX11_needSender _ _) (by omega) ?_ | with_reducible refine ok_b2t (sX12_in _ _ _ _) (by omega) ?_ | with_reducible refine ok_b2f (sX12_in _ _ _ _) (by omega) ?_ | with_reducible refine ok_b2t (sX12_isPlace _ _) (by omega) ?_ | with_reducible refine ok_b2f (sX12_isPlace _ _) (by omega) ?_ | with_reducible refine ok_pos (by omega) ?_ | with_reducible refine ok_neg (by omega) ?_ | with_reducible refine ok_tl ?_ | with_reducible refine ok_tr ?_ | dsimp only)
                refine ok_bnd (sX6_replace (v := x1) p1.1 (by omega) a9_69 w1.1 (n := n1) (by omega) (by omega)) (fun g2 q2 => ?_)
                obtain ⟨⟨q21, q22, q23⟩, q24⟩ := q2
                have fz1 := rwK_r p1.1 (by omega : x1 < 3)
                have fz3 := rwK_r p2.1 (by omega : x3 < 3)
                repeat (first | with_reducible refine ok_gd (by first | omega | decide) ?_ | with_reducible refine ok_bs ?_ | with_reducible refine ok_be (sX12_refuse _ _) ?_ | with_reducible refine ok_be (sX12_told _ _) ?_ | with_reducible refine ok_ndt (sX11_needIndex _ _ _ _) (by omega) ?_ | with_reducible refine ok_ndf (sX11_needIndex _ _ _ _) (by omega) ?_ | with_reducible refine ok_ndt (sX11_needRange _ _ _ _) (by omega) ?_ | with_reducible refine ok_ndf (sX11_needRange _ _ _ _) (by omega) ?_ | with_reducible refine ok_ndt (sX11_needThat2 _ _) (by omega) ?_ | with_reducible refine ok_ndf (sX11_needThat2 _ _) (by omega) ?_ | with_reducible refine ok_ndt (sX11_needState2 _ _) (by omega) ?_ | with_reducible refine ok_ndf (sX11_needState2 _ _) (by omega) ?_ | with_reducible refine ok_ndt (sX11_needElement _ _) (by omega) ?_ | with_reducible refine ok_ndf (sX11_needElement _ _) (by omega) ?_ | with_reducible refine ok_ndt (sX11_needPlace _ _) (by omega) ?_ | with_reducible refine ok_ndf (sX11_needPlace _ _) (by omega) ?_ | with_reducible refine ok_ndt (sX11_needSender _ _) (by omega) ?_ | with_reducible refine ok_ndf (sX11_needSender _ _) (by omega) ?_ | with_reducible refine ok_b2t (sX12_in _ _ _ _) (by omega) ?_ | with_reducible refine ok_b2f (sX12_in _ _ _ _) (by omega) ?_ | with_reducible refine ok_b2t (sX12_isPlace _ _) (by omega) ?_ | with_reducible refine ok_b2f (sX12_isPlace _ _) (by omega) ?_ | with_reducible refine ok_pos (by omega) ?_ | with_reducible refine ok_neg (by omega) ?_ | with_reducible refine ok_tl ?_ | with_reducible refine ok_tr ?_ | dsimp only)
                refine ok_bnd (sX6_replace (v := x3) p2.1 (by omega) a9_70 w3.2 (n := n2) (by omega) (by omega)) (fun g3 q3 => ?_)
                obtain ⟨⟨q31, q32, q33⟩, q34⟩ := q3
                repeat (first | with_reducible refine ok_gd (by first | omega | decide) ?_ | with_reducible refine ok_bs ?_ | with_reducible refine ok_be (sX12_refuse _ _) ?_ | with_reducible refine ok_be (sX12_told _ _) ?_ | with_reducible refine ok_ndt (sX11_needIndex _ _ _ _) (by omega) ?_ | with_reducible refine ok_ndf (sX11_needIndex _ _ _ _) (by omega) ?_ | with_reducible refine ok_ndt (sX11_needRange _ _ _ _) (by omega) ?_ | with_reducible refine ok_ndf (sX11_needRange _ _ _ _) (by omega) ?_ | with_reducible refine ok_ndt (sX11_needThat2 _ _) (by omega) ?_ | with_reducible refine ok_ndf (sX11_needThat2 _ _) (by omega) ?_ | with_reducible refine ok_ndt (sX11_needState2 _ _) (by omega) ?_ | with_reducible refine ok_ndf (sX11_needState2 _ _) (by omega) ?_ | with_reducible refine ok_ndt (sX11_needElement _ _) (by omega) ?_ | with_reducible refine ok_ndf (sX11_needElement _ _) (by omega) ?_ | with_reducible refine ok_ndt (sX11_needPlace _ _) (by omega) ?_ | with_reducible refine ok_ndf (sX11_needPlace _ _) (by omega) ?_ | with_reducible refine ok_ndt (sX11_needSender _ _) (by omega) ?_ | with_reducible refine ok_ndf (sX11_needSender _ _) (by omega) ?_ | with_reducible refine ok_b2t (sX12_in _ _ _ _) (by omega) ?_ | with_reducible refine ok_b2f (sX12_in _ _ _ _) (by omega) ?_ | with_reducible refine ok_b2t (sX12_isPlace _ _) (by omega) ?_ | with_reducible refine ok_b2f (sX12_isPlace _ _) (by omega) ?_ | with_reducible refine ok_pos (by omega) ?_ | with_reducible refine ok_neg (by omega) ?_ | with_reducible refine ok_tl ?_ | with_reducible refine ok_tr ?_ | dsimp only)
                refine ok_some ?_
                dsimp only
                repeat (first | with_reducible refine ok_gd (by first | omega | decide) ?_ | with_reducible refine ok_bs ?_ | with_reducible refine ok_be (sX12_refuse _ _) ?_ | with_reducible refine ok_be (sX12_told _ _) ?_ | with_reducible refine ok_ndt (sX11_needVan hv) (by omega) ?_ | with_reducible refine ok_ndf (sX11_needVan hv) (by omega) ?_ | with_reducible refine ok_ndt (sX11_needParcel hv) (by omega) ?_ | with_reducible refine ok_ndf (sX11_needParcel hv) (by omega) ?_ | with_reducible refine ok_ndt (sX11_needIndex _ _ _ _) (by omega) ?_ | with_reducible refine ok_ndf (sX11_needIndex _ _ _ _) (by omega) ?_ | with_reducible refine ok_ndt (sX11_needRange _ _ _ _) (by omega) ?_ | with_reducible refine ok_ndf (sX11_needRange _ _ _ _) (by omega) ?_ | with_reducible refine ok_ndt (sX11_needThat2 _ _) (by omega) ?_ | with_reducible refine ok_ndf (sX11_needThat2 _ _) (by omega) ?_ | with_reducible refine ok_ndt (sX11_needState2 _ _) (by omega) ?_ | with_reducible refine ok_ndf (sX11_needState2 _ _) (by omega) ?_ | with_reducible refine ok_ndt (sX11_needElement _ _) (by omega) ?_ | with_reducible refine ok_ndf (sX11_needElement _ _) (by omega) ?_ | with_reducible refine ok_ndt (sX11_needPlace _ _) (by omega) ?_ | with_reducible refine ok_ndf (sX11_needPlace _ _) (by omega) ?_ | with_reducible refine ok_ndt (sX11_needSender _ _) (by omega) ?_ | with_reducible refine ok_ndf (sX11_needSender _ _) (by omega) ?_ | with_reducible refine ok_b2t (sX12_isVan hm hv) (by omega) ?_ | with_reducible refine ok_b2f (sX12_isVan hm hv) (by omega) ?_ | with_reducible refine ok_b2t (sX12_isParcel hm hv) (by omega) ?_ | with_reducible refine ok_b2f (sX12_isParcel hm hv) (by omega) ?_ | with_reducible refine ok_b2t (sX12_in _ _ _ _) (by omega) ?_ | with_reducible refine ok_b2f (sX12_in _ _ _ _) (by omega) ?_ | with_reducible refine ok_b2t (sX12_isPlace _ _) (by omega) ?_ | with_reducible refine ok_b2f (sX12_isPlace _ _) (by omega) ?_ | with_reducible refine ok_pos (by omega) ?_ | with_reducible refine ok_neg (by omega) ?_ | with_reducible refine ok_tl ?_ | with_reducible refine ok_tr ?_ | dsimp only)
                refine hmod _ (fun mz fz em e51 e59 e109 => ?_)
                have iz : INV rb.2 mz := INV_scr ib fr_r fz
                refine ok_neg z1 ?_
                refine ok_neg z2 ?_
                refine ok_bnd (inv_kp iz) (fun k1 t1 => ?_)
                have ft1 := kp_fr t1
                repeat (first | with_reducible refine ok_gd (by first | omega | decide) ?_ | with_reducible refine ok_bs ?_ | with_reducible refine ok_be (sX12_refuse _ _) ?_ | with_reducible refine ok_be (sX12_told _ _) ?_ | with_reducible refine ok_ndt (sX11_needIndex _ _ _ _) (by omega) ?_ | with_reducible refine ok_ndf (sX11_needIndex _ _ _ _) (by omega) ?_ | with_reducible refine ok_ndt (sX11_needRange _ _ _ _) (by omega) ?_ | with_reducible refine ok_ndf (sX11_needRange _ _ _ _) (by omega) ?_ | with_reducible refine ok_ndt (sX11_needThat2 _ _) (by omega) ?_ | with_reducible refine ok_ndf (sX11_needThat2 _ _) (by omega) ?_ | with_reducible refine ok_ndt (sX11_needState2 _ _) (by omega) ?_ | with_reducible refine ok_ndf (sX11_needState2 _ _) (by omega) ?_ | with_reducible refine ok_ndt (sX11_needElement _ _) (by omega) ?_ | with_reducible refine ok_ndf (sX11_needElement _ _) (by omega) ?_ | with_reducible refine ok_ndt (sX11_needPlace _ _) (by omega) ?_ | with_reducible refine ok_ndf (sX11_needPlace _ _) (by omega) ?_ | with_reducible refine ok_ndt (sX11_needSender _ _) (by omega) ?_ | with_reducible refine ok_ndf (sX11_needSender _ _) (by omega) ?_ | with_reducible refine ok_b2t (sX12_in _ _ _ _) (by omega) ?_ | with_reducible refine ok_b2f (sX12_in _ _ _ _) (by omega) ?_ | with_reducible refine ok_b2t (sX12_isPlace _ _) (by omega) ?_ | with_reducible refine ok_b2f (sX12_isPlace _ _) (by omega) ?_ | with_reducible refine ok_pos (by omega) ?_ | with_reducible refine ok_neg (by omega) ?_ | with_reducible refine ok_tl ?_ | with_reducible refine ok_tr ?_ | dsimp only)
                have e20 := inv_n ib
                have hGR0 : GR rb.2.1 (setR (rnd rb.2.1) x3 []) := GR_set ib.2.1.1.1 p2.1 (by omega) (fun p hp => absurd hp List.not_mem_nil) List.nodup_nil (fun p hp => absurd hp List.not_mem_nil) (by rw [costL_nil ib.1.1.1 p2.1 (by omega)]; omega)
                have hoth : ∀ p, p ∈ rnd h.1 x1 ∨ p ∈ rnd h.1 x3 → ∀ w, 0 ≤ w → w < 3 → w ≠ x1 → w ≠ x3 → p ∉ rnd rb.2.1 w := fun p hp w w0 w3 n1 n3 z => by
                  rw [erb w w0 w3] at z
                  rcases hp with hp | hp
                  · exact n1 (GR_dsj i.2.1.1.1 p w x1 w0 w3 p1.1 (by omega) z hp)
                  · exact n3 (GR_dsj i.2.1.1.1 p w x3 w0 w3 p2.1 (by omega) z hp)
                have hGR1 : GR rb.2.1 (setR (setR (rnd rb.2.1) x3 []) x1 l1) := GR_set hGR0 p1.1 (by omega) (fun p hp => hgd p (hin1 p hp)) nd1 (fun p hp w w0 w3 hw z => by
                  unfold setR at z
                  by_cases c : w = x3
                  · rw [if_pos c] at z; exact absurd z List.not_mem_nil
                  · rw [if_neg c] at z; exact hoth p (hin1 p hp) w w0 w3 hw c z) (by rw [hc1]; exact z1)
                have hGR2 : GR rb.2.1 (setR (setR (setR (rnd rb.2.1) x3 []) x1 l1) x3 l2) := GR_set hGR1 p2.1 (by omega) (fun p hp => hgd p (hin2 p hp)) nd2 (fun p hp w w0 w3 hw z => by
                  unfold setR at z
                  by_cases c : w = x1
                  · rw [if_pos c] at z; exact nd3 p z p hp rfl
                  · rw [if_neg c, if_neg hw] at z; exact hoth p (hin2 p hp) w w0 w3 c hw z) (by rw [hc2]; exact z2)
                generalize hR1 : setR (setR (rnd rb.2.1) x3 []) x1 l1 = R1 at *
                have eR1 : R1 x1 = l1 ∧ R1 x3 = [] ∧ ∀ w, w ≠ x1 → w ≠ x3 → R1 w = rnd rb.2.1 w := by
                  rw [← hR1]
                  unfold setR
                  refine ⟨if_pos rfl, by rw [if_neg (fun e => p5 e.symm), if_pos rfl], fun w a b => by rw [if_neg a, if_neg b]⟩
                have fk : Fr (fun c i => c = 95 ∨ c = 96 ∨ c = 97 ∨ (c = 71 ∧ i = 30)) mz (hI k1 95 x3 0) := fr_I (fr_m (fun c i s => by unfold sKp at s; omega) ft1.2.2.2) (by omega)
                have e95 : ∀ w, 0 ≤ w → w < 3 → (hI k1 95 x3 0).1 95 w = if w = x3 then 0 else rb.2.1 31 w := fun w w0 w3 => by
                  simp (disch := decide) only [rI_s, rI_n, rI_2, rC_s, rC_n, rC_2, rJ_1, rJ_s, rJ_n, updI_at, if_pos, if_neg]
                  rw [ft1.1 95 (by omega) (by omega), (iz.2.1.1.2.1 w w0 w3).2.1]
                refine ok_bnd (sX12_lays (R := R1) (n := rb.2.1 13 10) (vans := rb.2.1 13 14) (v := x1) p1.1 (by omega) (by rw [fk.2 71 21 (by omega)]; exact (inv_n iz).2.1) (by rw [fk.2 71 27 (by omega)]; exact (inv_n iz).2.2) (by omega) (by omega) (by omega) (by omega) (by rw [fk.2 71 51 (by omega)]; omega) (GR_dsj hGR1) (fun u u0 u3 => ⟨GR_len1 hGR1 e20.1.1.2 e20.1.1.1 u0 u3, (hGR1.1 u u0 u3).1⟩) (fun u u0 u3 => (hGR1.1 u (by omega) u3).2.2.1 u0) (by rw [eR1.1, ← em]; exact (mrow_fr fk (fun i s => by omega) (fun s => by omega)).1) (fun w w0 w3 hw => ⟨?_, ?_⟩)) (fun k2 t2 => ?_)
                · by_cases c : w = x3
                  · rw [c, eR1.2.1]
                    unfold mrd
                    rw [e95 x3 p2.1 (by omega), if_pos rfl]
                    rfl
                  · rw [eR1.2.2 w hw c, ← (iz.2.1.1.2.1 w w0 w3).2.2]
                    unfold mrd
                    rw [e95 w w0 w3, if_neg c, (iz.2.1.1.2.1 w w0 w3).2.1]
                    exact rowL_ext (fun j hj => fk.2 94 _ (by omega))
                · rw [e95 w w0 w3]
                  have := (inv_RV iz w w0 w3).1
                  split <;> omega
                · repeat (first | with_reducible refine ok_gd (by first | omega | decide) ?_ | with_reducible refine ok_bs ?_ | with_reducible refine ok_be (sX12_refuse _ _) ?_ | with_reducible refine ok_be (sX12_told _ _) ?_ | with_reducible refine ok_ndt (sX11_needIndex _ _ _ _) (by omega) ?_ | with_reducible refine ok_ndf (sX11_needIndex _ _ _ _) (by omega) ?_ | with_reducible refine ok_ndt (sX11_needRange _ _ _ _) (by omega) ?_ | with_reducible refine ok_ndf (sX11_needRange _ _ _ _) (by omega) ?_ | with_reducible refine ok_ndt (sX11_needThat2 _ _) (by omega) ?_ | with_reducible refine ok_ndf (sX11_needThat2 _ _) (by omega) ?_ | with_reducible refine ok_ndt (sX11_needState2 _ _) (by omega) ?_ | with_reducible refine ok_ndf (sX11_needState2 _ _) (by omega) ?_ | with_reducible refine ok_ndt (sX11_needElement _ _) (by omega) ?_ | with_reducible refine ok_ndf (sX11_needElement _ _) (by omega) ?_ | with_reducible refine ok_ndt (sX11_needPlace _ _) (by omega) ?_ | with_reducible refine ok_ndf (sX11_needPlace _ _) (by omega) ?_ | with_reducible refine ok_ndt (sX11_needSender _ _) (by omega) ?_ | with_reducible refine ok_ndf (sX11_needSender _ _) (by omega) ?_ | with_reducible refine ok_b2t (sX12_in _ _ _ _) (by omega) ?_ | with_reducible refine ok_b2f (sX12_in _ _ _ _) (by omega) ?_ | with_reducible refine ok_b2t (sX12_isPlace _ _) (by omega) ?_ | with_reducible refine ok_b2f (sX12_isPlace _ _) (by omega) ?_ | with_reducible refine ok_pos (by omega) ?_ | with_reducible refine ok_neg (by omega) ?_ | with_reducible refine ok_tl ?_ | with_reducible refine ok_tr ?_ | dsimp only)
                  have ft2 : Fr (fun c i => c = 90 ∨ c = 94 ∨ c = 95 ∨ c = 96 ∨ c = 97 ∨ (c = 71 ∧ i = 30)) mz k2 := fr_t (fr_m (fun c i s => by omega) fk) (fr_m (fun c i s => by unfold sLy at s; omega) t2.1)
                  have e592 : k2.1 71 59 = n2 := by rw [ft2.2 71 59 (by omega), e59]
                  have d51 : (hI k2 71 51 (k2.1 71 59)).1 71 51 = n2 := by simp (disch := decide) only [rI_s, rI_n, rI_2, rC_s, rC_n, rC_2, rJ_1, rJ_s, rJ_n, updI_at, if_pos, if_neg]; exact e592
                  refine lX12_swapEnds_179 (n := n2) (by omega) n2.toNat 100000 0 _ (by omega) (by omega) (by omega) d51 (fun k3 t3 t4 => ?_)
                  have ft3 : Fr (fun c i => c = 90 ∨ c = 94 ∨ c = 95 ∨ c = 96 ∨ c = 97 ∨ c = 105 ∨ (c = 71 ∧ (i = 30 ∨ i = 51))) mz k3 := fr_t (fr_I (fr_m (fun c i s => by omega) ft2) (by omega)) (fr_m (fun c i s => by unfold sA at s; omega) t3)
                  have em3 : mrow k3 = l2 := by
                    rw [← e109]
                    unfold mrow
                    rw [t3.2 71 51 (sA_n (by decide) _), d51]
                    refine rowL_ext (fun j hj => ?_)
                    rw [t4, if_pos (by omega)]
                    simp (disch := decide) only [rI_s, rI_n, rI_2, rC_s, rC_n, rC_2, rJ_1, rJ_s, rJ_n, updI_at, if_pos, if_neg]
                    exact ft2.2 109 _ (by omega)
                  unfold c179
                  have k395 : ∀ w, 0 ≤ w → w < 3 → k3.1 95 w = (if w = x1 then n1 else if w = x3 then 0 else rb.2.1 31 w) ∧ mrd k3 w = R1 w := fun w w0 w3 => by
                    obtain ⟨y1, y2⟩ := t2.2.1 w w0 w3
                    have q95 : k3.1 95 w = k2.1 95 w := by rw [t3.2 95 _ (sA_n (by decide) _)]; simp (disch := decide) only [rI_s, rI_n, rI_2, rC_s, rC_n, rC_2, rJ_1, rJ_s, rJ_n, updI_at, if_pos, if_neg]
                    refine ⟨?_, ?_⟩
                    · rw [q95, y1]
                      by_cases c : w = x1
                      · rw [if_pos c, if_pos c, fk.2 71 51 (by omega), e51]
                      · rw [if_neg c, if_neg c, e95 w w0 w3]
                    · rw [← y2]
                      unfold mrd
                      rw [q95]
                      exact rowL_ext (fun j hj => by rw [t3.2 94 _ (sA_n (by decide) _)]; simp (disch := decide) only [rI_s, rI_n, rI_2, rC_s, rC_n, rC_2, rJ_1, rJ_s, rJ_n, updI_at, if_pos, if_neg])
                  refine ok_bnd (sX12_lays (R := setR R1 x3 l2) (n := rb.2.1 13 10) (vans := rb.2.1 13 14) (v := x3) p2.1 (by omega) (by rw [ft3.2 71 21 (by omega)]; exact (inv_n iz).2.1) (by rw [ft3.2 71 27 (by omega)]; exact (inv_n iz).2.2) (by omega) (by omega) (by omega) (by omega) (by rw [t3.2 71 51 (sA_n (by decide) _), d51]; omega) (GR_dsj hGR2) (fun u u0 u3 => ⟨GR_len1 hGR2 e20.1.1.2 e20.1.1.1 u0 u3, (hGR2.1 u u0 u3).1⟩) (fun u u0 u3 => (hGR2.1 u (by omega) u3).2.2.1 u0) (by rw [setR, if_pos rfl]; exact em3) (fun w w0 w3 hw => ⟨by rw [setR, if_neg hw]; exact (k395 w w0 w3).2, by rw [(k395 w w0 w3).1]; have := (inv_RV iz w w0 w3).1; (repeat' split) <;> omega⟩)) (fun k4 t5 => ?_)
                  repeat (first | with_reducible refine ok_gd (by first | omega | decide) ?_ | with_reducible refine ok_bs ?_ | with_reducible refine ok_be (sX12_refuse _ _) ?_ | with_reducible refine ok_be (sX12_told _ _) ?_ | with_reducible refine ok_ndt (sX11_needIndex _ _ _ _) (by omega) ?_ | with_reducible refine ok_ndf (sX11_needIndex _ _ _ _) (by omega) ?_ | with_reducible refine ok_ndt (sX11_needRange _ _ _ _) (by omega) ?_ | with_reducible refine ok_ndf (sX11_needRange _ _ _ _) (by omega) ?_ | with_reducible refine ok_ndt (sX11_needThat2 _ _) (by omega) ?_ | with_reducible refine ok_ndf (sX11_needThat2 _ _) (by omega) ?_ | with_reducible refine ok_ndt (sX11_needState2 _ _) (by omega) ?_ | with_reducible refine ok_ndf (sX11_needState2 _ _) (by omega) ?_ | with_reducible refine ok_ndt (sX11_needElement _ _) (by omega) ?_ | with_reducible refine ok_ndf (sX11_needElement _ _) (by omega) ?_ | with_reducible refine ok_ndt (sX11_needPlace _ _) (by omega) ?_ | with_reducible refine ok_ndf (sX11_needPlace _ _) (by omega) ?_ | with_reducible refine ok_ndt (sX11_needSender _ _) (by omega) ?_ | with_reducible refine ok_ndf (sX11_needSender _ _) (by omega) ?_ | with_reducible refine ok_b2t (sX12_in _ _ _ _) (by omega) ?_ | with_reducible refine ok_b2f (sX12_in _ _ _ _) (by omega) ?_ | with_reducible refine ok_b2t (sX12_isPlace _ _) (by omega) ?_ | with_reducible refine ok_b2f (sX12_isPlace _ _) (by omega) ?_ | with_reducible refine ok_pos (by omega) ?_ | with_reducible refine ok_neg (by omega) ?_ | with_reducible refine ok_tl ?_ | with_reducible refine ok_tr ?_ | dsimp only)
                  have ft4 : Fr (fun c i => c = 90 ∨ c = 94 ∨ c = 95 ∨ c = 96 ∨ c = 97 ∨ c = 105 ∨ (c = 71 ∧ (i = 30 ∨ i = 51))) mz k4 := fr_t ft3 (fr_m (fun c i s => by unfold sLy at s; omega) t5.1)
                  have fg3 : Fr (fun c i => (28 ≤ c ∧ c ≤ 33)) rb.2 g3 := fr_t (fr_m (fun c i s => by unfold sHi at s; omega) f1.2) (fr_t (fr_m (fun c i s => by unfold sRw at s; omega) q24) (fr_m (fun c i s => by unfold sRw at s; omega) q34))
                  have g2r : ∀ w, 0 ≤ w → w < 3 → rnd g1.1 w = rnd rb.2.1 w := fun w w0 w3 => rnd_eq (fun c c1 c2 => fg1 c (by omega) (by omega)) w0 w3
                  have gl1 : rowL (g1.1 69) 0 n1.toNat = l1 := by rw [fg1 69 (by omega) (by omega)]; exact qa2
                  have gl2 : rowL (g2.1 70) 0 n2.toNat = l2 := by rw [fr_c q24 70 (fun i s => by unfold sRw at s; omega), fg1 70 (by omega) (by omega)]; exact qb2
                  have hfin : ∀ w, 0 ≤ w → w < 3 → g3.1 31 w = (if w = x3 then n2 else if w = x1 then n1 else rb.2.1 31 w) ∧ rnd g3.1 w = setR R1 x3 l2 w := fun w w0 w3 => by
                    by_cases c : w = x3
                    · rw [c, if_pos rfl, setR, if_pos rfl]
                      exact ⟨q31, by rw [q32, gl2]⟩
                    · obtain ⟨y1, y2⟩ := q33 w w0 w3 c
                      rw [if_neg c, setR, if_neg c, y1, y2]
                      by_cases c' : w = x1
                      · rw [c', if_pos rfl, eR1.1]
                        exact ⟨q21, by rw [q22, gl1]⟩
                      · obtain ⟨y3, y4⟩ := q23 w w0 w3 c'
                        rw [if_neg c', y3, y4, g2r w w0 w3, eR1.2.2 w c' c, fg1 31 (by omega) (by omega)]
                        exact ⟨rfl, rfl⟩
                  refine both_ok (by omega) (INV_thr (INV_rnd (R := setR R1 x3 l2) iz (cTc_of fg3 (fun c i s => by dsimp only [rC, scT]; omega)) (cTm_of ft4 (fun c i s h7 => by dsimp only [rMm, scU]; omega) (fun i s => by dsimp only [r7, sc7]; omega)) hGR2 (fun w w0 w3 => ⟨?_, (hfin w w0 w3).2⟩) (fun w w0 w3 => ⟨?_, (t5.2.1 w w0 w3).2⟩) t5.2.2 (fun hG => iH_chg iz q1 t1 ⟨?_, ?_⟩ ⟨?_, ?_, ?_⟩ hG)))
                  · rw [(hfin w w0 w3).1]
                    have := (inv_RV iz w w0 w3).1
                    (repeat' split) <;> omega
                  · rw [(t5.2.1 w w0 w3).1, (hfin w w0 w3).1, (k395 w w0 w3).1, t3.2 71 51 (sA_n (by decide) _), d51]
                    (repeat' split) <;> first | rfl | omega
                  · rw [fr_c q34 32 (fun i s => by unfold sRw at s; omega), fr_c q24 32 (fun i s => by unfold sRw at s; omega)]
                  · rw [fr_c q34 33 (fun i s => by unfold sRw at s; omega), fr_c q24 33 (fun i s => by unfold sRw at s; omega)]
                  · rw [fr_c t5.1 96 (fun i s => by unfold sLy at s; omega), fr_c t3 96 (fun i s => by unfold sA at s; omega), rI_n (by decide), fr_c t2.1 96 (fun i s => by unfold sLy at s; omega), rI_n (by decide)]
                  · rw [fr_c t5.1 97 (fun i s => by unfold sLy at s; omega), fr_c t3 97 (fun i s => by unfold sA at s; omega), rI_n (by decide), fr_c t2.1 97 (fun i s => by unfold sLy at s; omega), rI_n (by decide)]
                  · rw [t5.1.2 71 30 (by unfold sLy; omega), t3.2 71 30 (sA_n (by decide) _)]
                    simp (disch := decide) only [rI_s, rI_n, rI_2, rC_s, rC_n, rC_2, rJ_1, rJ_s, rJ_n, updI_at, if_pos, if_neg]
                    rw [t2.1.2 71 30 (by unfold sLy; omega)]
                    simp (disch := decide) only [rI_s, rI_n, rI_2, rC_s, rC_n, rC_2, rJ_1, rJ_s, rJ_n, updI_at, if_pos, if_neg]
        · repeat (first | with_reducible refine ok_gd (by first | omega | decide) ?_ | with_reducible refine ok_bs ?_ | with_reducible refine ok_be (sX12_refuse _ _) ?_ | with_reducible refine ok_be (sX12_told _ _) ?_ | with_reducible refine ok_ndt (sX11_needVan hv) (by omega) ?_ | with_reducible refine ok_ndf (sX11_needVan hv) (by omega) ?_ | with_reducible refine ok_ndt (sX11_needParcel hv) (by omega) ?_ | with_reducible refine ok_ndf (sX11_needParcel hv) (by omega) ?_ | with_reducible refine ok_ndt (sX11_needIndex _ _ _ _) (by omega) ?_ | with_reducible refine ok_ndf (sX11_needIndex _ _ _ _) (by omega) ?_ | with_reducible refine ok_ndt (sX11_needRange _ _ _ _) (by omega) ?_ | with_reducible refine ok_ndf (sX11_needRange _ _ _ _) (by omega) ?_ | with_reducible refine ok_ndt (sX11_needThat2 _ _) (by omega) ?_ | with_reducible refine ok_ndf (sX11_needThat2 _ _) (by omega) ?_ | with_reducible refine ok_ndt (sX11_needState2 _ _) (by omega) ?_ | with_reducible refine ok_ndf (sX11_needState2 _ _) (by omega) ?_ | with_reducible refine ok_ndt (sX11_needElement _ _) (by omega) ?_ | with_reducible refine ok_ndf (sX11_needElement _ _) (by omega) ?_ | with_reducible refine ok_ndt (sX11_needPlace _ _) (by omega) ?_ | with_reducible refine ok_ndf (sX11_needPlace _ _) (by omega) ?_ | with_reducible refine ok_ndt (sX11_needSender _ _) (by omega) ?_ | with_reducible refine ok_ndf (sX11_needSender _ _) (by omega) ?_ | with_reducible refine ok_b2t (sX12_isVan hm hv) (by omega) ?_ | with_reducible refine ok_b2f (sX12_isVan hm hv) (by omega) ?_ | with_reducible refine ok_b2t (sX12_isParcel hm hv) (by omega) ?_ | with_reducible refine ok_b2f (sX12_isParcel hm hv) (by omega) ?_ | with_reducible refine ok_b2t (sX12_in _ _ _ _) (by omega) ?_ | with_reducible refine ok_b2f (sX12_in _ _ _ _) (by omega) ?_ | with_reducible refine ok_b2t (sX12_isPlace _ _) (by omega) ?_ | with_reducible refine ok_b2f (sX12_isPlace _ _) (by omega) ?_ | with_reducible refine ok_pos (by omega) ?_ | with_reducible refine ok_neg (by omega) ?_ | with_reducible refine ok_tl ?_ | with_reducible refine ok_tr ?_ | dsimp only)
          refine ok_some ?_
          repeat (first | with_reducible refine ok_gd (by first | omega | decide) ?_ | with_reducible refine ok_bs ?_ | with_reducible refine ok_be (sX12_refuse _ _) ?_ | with_reducible refine ok_be (sX12_told _ _) ?_ | with_reducible refine ok_ndt (sX11_needVan hv) (by omega) ?_ | with_reducible refine ok_ndf (sX11_needVan hv) (by omega) ?_ | with_reducible refine ok_ndt (sX11_needParcel hv) (by omega) ?_ | with_reducible refine ok_ndf (sX11_needParcel hv) (by omega) ?_ | with_reducible refine ok_ndt (sX11_needIndex _ _ _ _) (by omega) ?_ | with_reducible refine ok_ndf (sX11_needIndex _ _ _ _) (by omega) ?_ | with_reducible refine ok_ndt (sX11_needRange _ _ _ _) (by omega) ?_ | with_reducible refine ok_ndf (sX11_needRange _ _ _ _) (by omega) ?_ | with_reducible refine ok_ndt (sX11_needThat2 _ _) (by omega) ?_ | with_reducible refine ok_ndf (sX11_needThat2 _ _) (by omega) ?_ | with_reducible refine ok_ndt (sX11_needState2 _ _) (by omega) ?_ | with_reducible refine ok_ndf (sX11_needState2 _ _) (by omega) ?_ | with_reducible refine ok_ndt (sX11_needElement _ _) (by omega) ?_ | with_reducible refine ok_ndf (sX11_needElement _ _) (by omega) ?_ | with_reducible refine ok_ndt (sX11_needPlace _ _) (by omega) ?_ | with_reducible refine ok_ndf (sX11_needPlace _ _) (by omega) ?_ | with_reducible refine ok_ndt (sX11_needSender _ _) (by omega) ?_ | with_reducible refine ok_ndf (sX11_needSender _ _) (by omega) ?_ | with_reducible refine ok_b2t (sX12_isVan hm hv) (by omega) ?_ | with_reducible refine ok_b2f (sX12_isVan hm hv) (by omega) ?_ | with_reducible refine ok_b2t (sX12_isParcel hm hv) (by omega) ?_ | with_reducible refine ok_b2f (sX12_isParcel hm hv) (by omega) ?_ | with_reducible refine ok_b2t (sX12_in _ _ _ _) (by omega) ?_ | with_reducible refine ok_b2f (sX12_in _ _ _ _) (by omega) ?_ | with_reducible refine ok_b2t (sX12_isPlace _ _) (by omega) ?_ | with_reducible refine ok_b2f (sX12_isPlace _ _) (by omega) ?_ | with_reducible refine ok_pos (by omega) ?_ | with_reducible refine ok_neg (by omega) ?_ | with_reducible refine ok_tl ?_ | with_reducible refine ok_tr ?_ | dsimp only)
          exact both_thr i0 (by decide) rfl
      · repeat (first | with_reducible refine ok_gd (by first | omega | decide) ?_ | with_reducible refine ok_bs ?_ | with_reducible refine ok_be (sX12_refuse _ _) ?_ | with_reducible refine ok_be (sX12_told _ _) ?_ | with_reducible refine ok_ndt (sX11_needVan hv) (by omega) ?_ | with_reducible refine ok_ndf (sX11_needVan hv) (by omega) ?_ | with_reducible refine ok_ndt (sX11_needParcel hv) (by omega) ?_ | with_reducible refine ok_ndf (sX11_needParcel hv) (by omega) ?_ | with_reducible refine ok_ndt (sX11_needIndex _ _ _ _) (by omega) ?_ | with_reducible refine ok_ndf (sX11_needIndex _ _ _ _) (by omega) ?_ | with_reducible refine ok_ndt (sX11_needRange _ _ _ _) (by omega) ?_ | with_reducible refine ok_ndf (sX11_needRange _ _ _ _) (by omega) ?_ | with_reducible refine ok_ndt (sX11_needThat2 _ _) (by omega) ?_ | with_reducible refine ok_ndf (sX11_needThat2 _ _) (by omega) ?_ | with_reducible refine ok_ndt (sX11_needState2 _ _) (by omega) ?_ | with_reducible refine ok_ndf (sX11_needState2 _ _) (by omega) ?_ | with_reducible refine ok_ndt (sX11_needElement _ _) (by omega) ?_ | with_reducible refine ok_ndf (sX11_needElement _ _) (by omega) ?_ | with_reducible refine ok_ndt (sX11_needPlace _ _) (by omega) ?_ | with_reducible refine ok_ndf (sX11_needPlace _ _) (by omega) ?_ | with_reducible refine ok_ndt (sX11_needSender _ _) (by omega) ?_ | with_reducible refine ok_ndf (sX11_needSender _ _) (by omega) ?_ | with_reducible refine ok_b2t (sX12_isVan hm hv) (by omega) ?_ | with_reducible refine ok_b2f (sX12_isVan hm hv) (by omega) ?_ | with_reducible refine ok_b2t (sX12_isParcel hm hv) (by omega) ?_ | with_reducible refine ok_b2f (sX12_isParcel hm hv) (by omega) ?_ | with_reducible refine ok_b2t (sX12_in _ _ _ _) (by omega) ?_ | with_reducible refine ok_b2f (sX12_in _ _ _ _) (by omega) ?_ | with_reducible refine ok_b2t (sX12_isPlace _ _) (by omega) ?_ | with_reducible refine ok_b2f (sX12_isPlace _ _) (by omega) ?_ | with_reducible refine ok_pos (by omega) ?_ | with_reducible refine ok_neg (by omega) ?_ | with_reducible refine ok_tl ?_ | with_reducible refine ok_tr ?_ | dsimp only)
        refine ok_some ?_
        repeat (first | with_reducible refine ok_gd (by first | omega | decide) ?_ | with_reducible refine ok_bs ?_ | with_reducible refine ok_be (sX12_refuse _ _) ?_ | with_reducible refine ok_be (sX12_told _ _) ?_ | with_reducible refine ok_ndt (sX11_needVan hv) (by omega) ?_ | with_reducible refine ok_ndf (sX11_needVan hv) (by omega) ?_ | with_reducible refine ok_ndt (sX11_needParcel hv) (by omega) ?_ | with_reducible refine ok_ndf (sX11_needParcel hv) (by omega) ?_ | with_reducible refine ok_ndt (sX11_needIndex _ _ _ _) (by omega) ?_ | with_reducible refine ok_ndf (sX11_needIndex _ _ _ _) (by omega) ?_ | with_reducible refine ok_ndt (sX11_needRange _ _ _ _) (by omega) ?_ | with_reducible refine ok_ndf (sX11_needRange _ _ _ _) (by omega) ?_ | with_reducible refine ok_ndt (sX11_needThat2 _ _) (by omega) ?_ | with_reducible refine ok_ndf (sX11_needThat2 _ _) (by omega) ?_ | with_reducible refine ok_ndt (sX11_needState2 _ _) (by omega) ?_ | with_reducible refine ok_ndf (sX11_needState2 _ _) (by omega) ?_ | with_reducible refine ok_ndt (sX11_needElement _ _) (by omega) ?_ | with_reducible refine ok_ndf (sX11_needElement _ _) (by omega) ?_ | with_reducible refine ok_ndt (sX11_needPlace _ _) (by omega) ?_ | with_reducible refine ok_ndf (sX11_needPlace _ _) (by omega) ?_ | with_reducible refine ok_ndt (sX11_needSender _ _) (by omega) ?_ | with_reducible refine ok_ndf (sX11_needSender _ _) (by omega) ?_ | with_reducible refine ok_b2t (sX12_isVan hm hv) (by omega) ?_ | with_reducible refine ok_b2f (sX12_isVan hm hv) (by omega) ?_ | with_reducible refine ok_b2t (sX12_isParcel hm hv) (by omega) ?_ | with_reducible refine ok_b2f (sX12_isParcel hm hv) (by omega) ?_ | with_reducible refine ok_b2t (sX12_in _ _ _ _) (by omega) ?_ | with_reducible refine ok_b2f (sX12_in _ _ _ _) (by omega) ?_ | with_reducible refine ok_b2t (sX12_isPlace _ _) (by omega) ?_ | with_reducible refine ok_b2f (sX12_isPlace _ _) (by omega) ?_ | with_reducible refine ok_pos (by omega) ?_ | with_reducible refine ok_neg (by omega) ?_ | with_reducible refine ok_tl ?_ | with_reducible refine ok_tr ?_ | dsimp only)
        exact both_thr i0 (by decide) rfl
    · repeat (first | with_reducible refine ok_gd (by first | omega | decide) ?_ | with_reducible refine ok_bs ?_ | with_reducible refine ok_be (sX12_refuse _ _) ?_ | with_reducible refine ok_be (sX12_told _ _) ?_ | with_reducible refine ok_ndt (sX11_needVan hv) (by omega) ?_ | with_reducible refine ok_ndf (sX11_needVan hv) (by omega) ?_ | with_reducible refine ok_ndt (sX11_needParcel hv) (by omega) ?_ | with_reducible refine ok_ndf (sX11_needParcel hv) (by omega) ?_ | with_reducible refine ok_ndt (sX11_needIndex _ _ _ _) (by omega) ?_ | with_reducible refine ok_ndf (sX11_needIndex _ _ _ _) (by omega) ?_ | with_reducible refine ok_ndt (sX11_needRange _ _ _ _) (by omega) ?_ | with_reducible refine ok_ndf (sX11_needRange _ _ _ _) (by omega) ?_ | with_reducible refine ok_ndt (sX11_needThat2 _ _) (by omega) ?_ | with_reducible refine ok_ndf (sX11_needThat2 _ _) (by omega) ?_ | with_reducible refine ok_ndt (sX11_needState2 _ _) (by omega) ?_ | with_reducible refine ok_ndf (sX11_needState2 _ _) (by omega) ?_ | with_reducible refine ok_ndt (sX11_needElement _ _) (by omega) ?_ | with_reducible refine ok_ndf (sX11_needElement _ _) (by omega) ?_ | with_reducible refine ok_ndt (sX11_needPlace _ _) (by omega) ?_ | with_reducible refine ok_ndf (sX11_needPlace _ _) (by omega) ?_ | with_reducible refine ok_ndt (sX11_needSender _ _) (by omega) ?_ | with_reducible refine ok_ndf (sX11_needSender _ _) (by omega) ?_ | with_reducible refine ok_b2t (sX12_isVan hm hv) (by omega) ?_ | with_reducible refine ok_b2f (sX12_isVan hm hv) (by omega) ?_ | with_reducible refine ok_b2t (sX12_isParcel hm hv) (by omega) ?_ | with_reducible refine ok_b2f (sX12_isParcel hm hv) (by omega) ?_ | with_reducible refine ok_b2t (sX12_in _ _ _ _) (by omega) ?_ | with_reducible refine ok_b2f (sX12_in _ _ _ _) (by omega) ?_ | with_reducible refine ok_b2t (sX12_isPlace _ _) (by omega) ?_ | with_reducible refine ok_b2f (sX12_isPlace _ _) (by omega) ?_ | with_reducible refine ok_pos (by omega) ?_ | with_reducible refine ok_neg (by omega) ?_ | with_reducible refine ok_tl ?_ | with_reducible refine ok_tr ?_ | dsimp only)
      refine ok_some ?_
      repeat (first | with_reducible refine ok_gd (by first | omega | decide) ?_ | with_reducible refine ok_bs ?_ | with_reducible refine ok_be (sX12_refuse _ _) ?_ | with_reducible refine ok_be (sX12_told _ _) ?_ | with_reducible refine ok_ndt (sX11_needVan hv) (by omega) ?_ | with_reducible refine ok_ndf (sX11_needVan hv) (by omega) ?_ | with_reducible refine ok_ndt (sX11_needParcel hv) (by omega) ?_ | with_reducible refine ok_ndf (sX11_needParcel hv) (by omega) ?_ | with_reducible refine ok_ndt (sX11_needIndex _ _ _ _) (by omega) ?_ | with_reducible refine ok_ndf (sX11_needIndex _ _ _ _) (by omega) ?_ | with_reducible refine ok_ndt (sX11_needRange _ _ _ _) (by omega) ?_ | with_reducible refine ok_ndf (sX11_needRange _ _ _ _) (by omega) ?_ | with_reducible refine ok_ndt (sX11_needThat2 _ _) (by omega) ?_ | with_reducible refine ok_ndf (sX11_needThat2 _ _) (by omega) ?_ | with_reducible refine ok_ndt (sX11_needState2 _ _) (by omega) ?_ | with_reducible refine ok_ndf (sX11_needState2 _ _) (by omega) ?_ | with_reducible refine ok_ndt (sX11_needElement _ _) (by omega) ?_ | with_reducible refine ok_ndf (sX11_needElement _ _) (by omega) ?_ | with_reducible refine ok_ndt (sX11_needPlace _ _) (by omega) ?_ | with_reducible refine ok_ndf (sX11_needPlace _ _) (by omega) ?_ | with_reducible refine ok_ndt (sX11_needSender _ _) (by omega) ?_ | with_reducible refine ok_ndf (sX11_needSender _ _) (by omega) ?_ | with_reducible refine ok_b2t (sX12_isVan hm hv) (by omega) ?_ | with_reducible refine ok_b2f (sX12_isVan hm hv) (by omega) ?_ | with_reducible refine ok_b2t (sX12_isParcel hm hv) (by omega) ?_ | with_reducible refine ok_b2f (sX12_isParcel hm hv) (by omega) ?_ | with_reducible refine ok_b2t (sX12_in _ _ _ _) (by omega) ?_ | with_reducible refine ok_b2f (sX12_in _ _ _ _) (by omega) ?_ | with_reducible refine ok_b2t (sX12_isPlace _ _) (by omega) ?_ | with_reducible refine ok_b2f (sX12_isPlace _ _) (by omega) ?_ | with_reducible refine ok_pos (by omega) ?_ | with_reducible refine ok_neg (by omega) ?_ | with_reducible refine ok_tl ?_ | with_reducible refine ok_tr ?_ | dsimp only)
      exact both_thr i0 (by decide) rfl
  · repeat (first | with_reducible refine ok_gd (by first | omega | decide) ?_ | with_reducible refine ok_bs ?_ | with_reducible refine ok_be (sX12_refuse _ _) ?_ | with_reducible refine ok_be (sX12_told _ _) ?_ | with_reducible refine ok_ndt (sX11_needVan hv) (by omega) ?_ | with_reducible refine ok_ndf (sX11_needVan hv) (by omega) ?_ | with_reducible refine ok_ndt (sX11_needParcel hv) (by omega) ?_ | with_reducible refine ok_ndf (sX11_needParcel hv) (by omega) ?_ | with_reducible refine ok_ndt (sX11_needIndex _ _ _ _) (by omega) ?_ | with_reducible refine ok_ndf (sX11_needIndex _ _ _ _) (by omega) ?_ | with_reducible refine ok_ndt (sX11_needRange _ _ _ _) (by omega) ?_ | with_reducible refine ok_ndf (sX11_needRange _ _ _ _) (by omega) ?_ | with_reducible refine ok_ndt (sX11_needThat2 _ _) (by omega) ?_ | with_reducible refine ok_ndf (sX11_needThat2 _ _) (by omega) ?_ | with_reducible refine ok_ndt (sX11_needState2 _ _) (by omega) ?_ | with_reducible refine ok_ndf (sX11_needState2 _ _) (by omega) ?_ | with_reducible refine ok_ndt (sX11_needElement _ _) (by omega) ?_ | with_reducible refine ok_ndf (sX11_needElement _ _) (by omega) ?_ | with_reducible refine ok_ndt (sX11_needPlace _ _) (by omega) ?_ | with_reducible refine ok_ndf (sX11_needPlace _ _) (by omega) ?_ | with_reducible refine ok_ndt (sX11_needSender _ _) (by omega) ?_ | with_reducible refine ok_ndf (sX11_needSender _ _) (by omega) ?_ | with_reducible refine ok_b2t (sX12_isVan hm hv) (by omega) ?_ | with_reducible refine ok_b2f (sX12_isVan hm hv) (by omega) ?_ | with_reducible refine ok_b2t (sX12_isParcel hm hv) (by omega) ?_ | with_reducible refine ok_b2f (sX12_isParcel hm hv) (by omega) ?_ | with_reducible refine ok_b2t (sX12_in _ _ _ _) (by omega) ?_ | with_reducible refine ok_b2f (sX12_in _ _ _ _) (by omega) ?_ | with_reducible refine ok_b2t (sX12_isPlace _ _) (by omega) ?_ | with_reducible refine ok_b2f (sX12_isPlace _ _) (by omega) ?_ | with_reducible refine ok_pos (by omega) ?_ | with_reducible refine ok_neg (by omega) ?_ | with_reducible refine ok_tl ?_ | with_reducible refine ok_tr ?_ | dsimp only)
    refine ok_some ?_
    repeat (first | with_reducible refine ok_gd (by first | omega | decide) ?_ | with_reducible refine ok_bs ?_ | with_reducible refine ok_be (sX12_refuse _ _) ?_ | with_reducible refine ok_be (sX12_told _ _) ?_ | with_reducible refine ok_ndt (sX11_needVan hv) (by omega) ?_ | with_reducible refine ok_ndf (sX11_needVan hv) (by omega) ?_ | with_reducible refine ok_ndt (sX11_needParcel hv) (by omega) ?_ | with_reducible refine ok_ndf (sX11_needParcel hv) (by omega) ?_ | with_reducible refine ok_ndt (sX11_needIndex _ _ _ _) (by omega) ?_ | with_reducible refine ok_ndf (sX11_needIndex _ _ _ _) (by omega) ?_ | with_reducible refine ok_ndt (sX11_needRange _ _ _ _) (by omega) ?_ | with_reducible refine ok_ndf (sX11_needRange _ _ _ _) (by omega) ?_ | with_reducible refine ok_ndt (sX11_needThat2 _ _) (by omega) ?_ | with_reducible refine ok_ndf (sX11_needThat2 _ _) (by omega) ?_ | with_reducible refine ok_ndt (sX11_needState2 _ _) (by omega) ?_ | with_reducible refine ok_ndf (sX11_needState2 _ _) (by omega) ?_ | with_reducible refine ok_ndt (sX11_needElement _ _) (by omega) ?_ | with_reducible refine ok_ndf (sX11_needElement _ _) (by omega) ?_ | with_reducible refine ok_ndt (sX11_needPlace _ _) (by omega) ?_ | with_reducible refine ok_ndf (sX11_needPlace _ _) (by omega) ?_ | with_reducible refine ok_ndt (sX11_needSender _ _) (by omega) ?_ | with_reducible refine ok_ndf (sX11_needSender _ _) (by omega) ?_ | with_reducible refine ok_b2t (sX12_isVan hm hv) (by omega) ?_ | with_reducible refine ok_b2f (sX12_isVan hm hv) (by omega) ?_ | with_reducible refine ok_b2t (sX12_isParcel hm hv) (by omega) ?_ | with_reducible refine ok_b2f (sX12_isParcel hm hv) (by omega) ?_ | with_reducible refine ok_b2t (sX12_in _ _ _ _) (by omega) ?_ | with_reducible refine ok_b2f (sX12_in _ _ _ _) (by omega) ?_ | with_reducible refine ok_b2t (sX12_isPlace _ _) (by omega) ?_ | with_reducible refine ok_b2f (sX12_isPlace _ _) (by omega) ?_ | with_reducible refine ok_pos (by omega) ?_ | with_reducible refine ok_neg (by omega) ?_ | with_reducible refine ok_tl ?_ | with_reducible refine ok_tr ?_ | dsimp only)
    exact both_thr i0 (by decide) rfl
end SWP
