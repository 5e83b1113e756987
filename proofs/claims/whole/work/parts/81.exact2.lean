/-! EXACT: both sides -/
section EXACT2
variable {h h' m : HH} {K K1 : Nat → Int → Int} {v n B : Int}
theorem so_cE (e : sameO K K1) {l : List Int} : cE K1 v l = cE K v l := by
  unfold cE
  rw [e.2.2.2.1]
  exact costL_eq e.1 (by rw [e.2.2.1.1, e.2.2.1.2.1, e.2.2.1.2.2]; exact ⟨rfl, rfl, rfl⟩) (fun p _ => by
    rw [e.2.1.1, e.2.1.2.1, e.2.1.2.2.1, e.2.1.2.2.2.1, e.2.1.2.2.2.2]
    exact ⟨⟨rfl, rfl⟩, rfl, rfl, rfl⟩)
theorem so_csP (e : sameO K K1) {S r : Int} (q : csP K1 v S r) : csP K v S r := by
  unfold csP at q ⊢
  simp only [so_cE (v := v) e] at q
  exact q
theorem so_wrP (e : sameO K K1) {b : List Int} (q : wrP K1 v n B b) : wrP K v n B b := by
  unfold wrP at q ⊢
  simp only [so_okB e] at q
  rw [e.2.2.2.1, e.2.2.1.2.1] at q
  exact q
theorem so_tr {K2 : Nat → Int → Int} (e : sameO K K1) (e2 : sameO K1 K2) : sameO K K2 := ⟨e2.1.trans e.1, ⟨e2.2.1.1.trans e.2.1.1, e2.2.1.2.1.trans e.2.1.2.1, e2.2.1.2.2.1.trans e.2.1.2.2.1, e2.2.1.2.2.2.1.trans e.2.1.2.2.2.1, e2.2.1.2.2.2.2.trans e.2.1.2.2.2.2⟩, ⟨e2.2.2.1.1.trans e.2.2.1.1, e2.2.2.1.2.1.trans e.2.2.1.2.1, e2.2.2.1.2.2.trans e.2.2.1.2.2⟩, e2.2.2.2.1.trans e.2.2.2.1, e2.2.2.2.2.trans e.2.2.2.2⟩
theorem c_wl (hv : VAL h.1) (hc : CH h.1 n) (h49 : h.1 49 2 = n) (v0 : 0 ≤ v) (v1 : v < h.1 13 14) {c : Nat} (ha : A9 c) (hcr : 28 ≤ c ∧ c ≤ 30) : Ok (nX1_writeLeast v c h) (fun g => Fr (fun d _ => (d = 51 ∨ d = 52) ∨ d = c) h g ∧ ∃ r, csP h.1 v (allS n) r ∧ (r = -1 ∨ ∃ b, wrP h.1 v n (h.1 24 v + r) b ∧ rowL (g.1 c) 0 n.toNat = b.map (h.1 50))) := by
  have hvv := v_v hv v0 v1
  have hn := v_n hv
  have hall := allS_b hc.1
  have hc9 := hc.1
  simp only [nX1_writeLeast, bX1_writeLeast]
  refine ok_bnd (c_drive hv hc h49 v0 v1) (fun g1 q1 => ?_)
  obtain ⟨f1, t1⟩ := q1
  have k1 := s51_hk f1
  have s1 := so_fr k1
  have hv1 := hk_VAL hv k1
  have hc1 := hk_CH hc k1
  have e49 : g1.1 49 2 = n := by rw [f1.2 49 2 (by dsimp only [s51]; omega)]; exact h49
  refine ok_be (sX1_all e49 hc.1) ?_
  refine ok_bnd (sX1_costOfSet (h := g1) hv1 hc1 e49 v0 (by rw [s1.2.2.2.2]; exact v1) (S := allS n) ⟨hall.1, Int.le_refl _⟩ (fun i i0 i1 ib => so_hkP (so_sym s1) (t1 _ i hall.1 (Int.le_refl _) i0 i1 ib))) (fun r hr => ?_)
  have hr0 := so_csP s1 hr
  by_cases cr : r = -1
  · refine ok_pos cr ?_
    exact ok_some ⟨fr_m (fun d i s => Or.inl (Or.inl s)) f1, r, hr0, Or.inl cr⟩
  · refine ok_neg cr ?_
    refine ok_gd (by omega) ?_
    obtain ⟨_, ⟨l0, a1, a2⟩, a3⟩ := hr0.resolve_left (fun z => cr z.1)
    have hin0 := ofS_in hc ⟨hall.1, Int.le_refl _⟩ a1
    have cb : -1 ≤ cE h.1 v l0 ∧ cE h.1 v l0 ≤ 2000 := costL_b hv v0 v1 hin0
    have e24 : g1.1 24 v = h.1 24 v := by rw [s1.2.2.1.2.1]
    rw [e24]
    refine ok_gd (by omega) ?_
    refine ok_bnd (c_fill (h := g1) (B := h.1 24 v + r) hv1 hc1 e49 (by omega)) (fun g4 q4 => ?_)
    obtain ⟨f4, t4⟩ := q4
    have k4 := s52_hk f4
    have s4 := so_fr k4
    have hv4 := hk_VAL hv1 k4
    have hc4 := hk_CH hc1 k4
    have e49' : g4.1 49 2 = n := by rw [f4.2 49 2 (by dsimp only [s52]; omega)]; exact e49
    refine ok_be (sX1_all e49' hc.1) ?_
    refine ok_gd (by omega) ?_
    have s04 := so_tr s1 s4
    have tb4 : tlP g4.1 (h.1 24 v + r) n (g4.1 52) (allS n) 0 := fun S' i' s0 s1' i0 i1 hb hlt => so_ltP (so_sym s4) (t4 S' i' s0 s1' i0 i1 hb hlt)
    have hr4 : csP g4.1 v (allS n) r := so_csP (so_sym s04) hr0
    have v14 : v < g4.1 13 14 := by rw [s04.2.2.2.2]; exact v1
    have e24' : g4.1 24 v = h.1 24 v := by rw [s04.2.2.1.2.1]
    have ex0 := (okB_cE hv4 hc4 v0 v14 hr4 cr a1).mpr (by rw [so_cE (v := v) s04]; exact a2)
    rw [e24'] at ex0
    refine ok_mono (c_write (h := g4) (B := h.1 24 v + r) hv4 hc4 e49' v0 v14 ha hcr tb4 n.toNat 100000 [] (allS n) 0 g4 (by omega) (by omega) rfl fr_r rfl ⟨hall.1, Int.le_refl _⟩ (fun j j0 j1 => ?_) List.nodup_nil (fun x hx => absurd hx List.not_mem_nil) (by show g4.1 24 v ≠ -1; omega) ⟨l0, a1, by show okB g4.1 _ _ (g4.1 24 v) 0; rw [e24']; exact ex0⟩ (fun x hx _ hxe => ?_)) (fun g' q => ?_)
    · rw [allS_bt hc.1 ⟨j0, j1⟩]
      exact ⟨fun w => ⟨w, List.not_mem_nil⟩, fun w => w.1⟩
    · obtain ⟨y, t, e, hy⟩ := hxe
      have := all_m hc.1 hx (i := y) (by rw [e]; exact List.mem_cons_self)
      omega
    · obtain ⟨fq, b, b1, b2⟩ := q
      refine ⟨fr_t (fr_m (fun d i s => Or.inl (Or.inl s)) f1) (fr_t (fr_m (fun d i s => Or.inl (Or.inr s)) f4) (fr_m (fun d i s => Or.inr s) fq)), r, hr0, Or.inr ⟨b, so_wrP s04 b1, ?_⟩⟩
      rw [b2, s04.2.2.2.1]
theorem rowL_pt {f g : Int → Int} {k : Nat} (e : rowL f 0 k = rowL g 0 k) {i : Int} (i0 : 0 ≤ i) (i1 : i < k) : f i = g i := by
  have a := rowL_getD (f := f) (o := 0) (n := k) (i := i.toNat) (by omega)
  have b := rowL_getD (f := g) (o := 0) (n := k) (i := i.toNat) (by omega)
  rw [e, b] at a
  rw [show (0 : Int) + (i.toNat : Int) = i by omega] at a
  exact a.symm
theorem op_exact (i : INV h h') (x1 : Int) : both (nX11_exact x1 h) (nX12_exact x1 h') (cdX 1 0 0 0) := by
  have i0 := i
  have hv := i.1.1.1
  have hm := i.1.1.2
  have hn := inv_n i
  simp only [nX11_exact, bX11_exact, nX12_exact, bX12_exact, both]
  by_cases p1 : 0 ≤ x1 ∧ x1 < h.1 13 14
  · have v0 := p1.1
    have v1 := p1.2
    have v3 : x1 < 3 := by omega
    repeat (first | with_reducible refine ok_gd (by first | omega | decide) ?_ | with_reducible refine ok_bs ?_ | with_reducible refine ok_be (sX12_refuse _ _) ?_ | with_reducible refine ok_be (sX12_told _ _) ?_ | with_reducible refine ok_ndt (sX11_needVan hv) (by omega) ?_ | with_reducible refine ok_ndf (sX11_needVan hv) (by omega) ?_ | with_reducible refine ok_ndt (sX11_needParcel hv) (by omega) ?_ | with_reducible refine ok_ndf (sX11_needParcel hv) (by omega) ?_ | with_reducible refine ok_ndt (sX11_needIndex _ _ _ _) (by omega) ?_ | with_reducible refine ok_ndf (sX11_needIndex _ _ _ _) (by omega) ?_ | with_reducible refine ok_ndt (sX11_needRange _ _ _ _) (by omega) ?_ | with_reducible refine ok_ndf (sX11_needRange _ _ _ _) (by omega) ?_ | with_reducible refine ok_ndt (sX11_needThat2 _ _) (by omega) ?_ | with_reducible refine ok_ndf (sX11_needThat2 _ _) (by omega) ?_ | with_reducible refine ok_ndt (sX11_needState2 _ _) (by omega) ?_ | with_reducible refine ok_ndf (sX11_needState2 _ _) (by omega) ?_ | with_reducible refine ok_ndt (sX11_needElement _ _) (by omega) ?_ | with_reducible refine ok_ndf (sX11_needElement _ _) (by omega) ?_ | with_reducible refine ok_ndt (sX11_needPlace _ _) (by omega) ?_ | with_reducible refine ok_ndf (sX11_needPlace _ _) (by omega) ?_ | with_reducible refine ok_ndt (sX11_needSender _ _) (by omega) ?_ | with_reducible refine ok_ndf (sX11_needSender _ _) (by omega) ?_ | with_reducible refine ok_b2t (sX12_isVan hm hv) (by omega) ?_ | with_reducible refine ok_b2f (sX12_isVan hm hv) (by omega) ?_ | with_reducible refine ok_b2t (sX12_isParcel hm hv) (by omega) ?_ | with_reducible refine ok_b2f (sX12_isParcel hm hv) (by omega) ?_ | with_reducible refine ok_b2t (sX12_in _ _ _ _) (by omega) ?_ | with_reducible refine ok_b2f (sX12_in _ _ _ _) (by omega) ?_ | with_reducible refine ok_b2t (sX12_isPlace _ _) (by omega) ?_ | with_reducible refine ok_b2f (sX12_isPlace _ _) (by omega) ?_ | with_reducible refine ok_pos (by omega) ?_ | with_reducible refine ok_neg (by omega) ?_ | with_reducible refine ok_tl ?_ | with_reducible refine ok_tr ?_ | dsimp only)
    refine ok_bnd (inv_rem i) (fun g1 q1 => ?_)
    have r1 := rem_31 q1
    have e13 : g1.1 13 = h.1 13 := r1.1 13 (by omega)
    have hv1 : VAL g1.1 := VAL_eq hv (fun c hc => r1.1 c (by omega)) (by rw [e13]; exact ⟨rfl, rfl⟩)
    have hr0 := inv_RV i
    have hr1 : RV g1.1 := RV_eq hr0 (fun c c1 c2 => r1.1 c (by omega)) (by rw [e13])
    have evw : ∀ p, vw g1.1 p = vw h.1 p := fun p => vw_eq (fun c c1 c2 => r1.1 c (by omega))
    refine ok_gd (by decide) ?_
    refine ok_bnd (c_round (v := x1) hv1 hr1) (fun g2 q2 => ?_)
    obtain ⟨f2, ci⟩ := q2
    have eQ : Qr g1.1 x1 = Qr h.1 x1 := by funext p; unfold Qr; rw [evw]
    rw [eQ, e13] at ci
    have fs2 := sCh_sc f2
    have c2 : ∀ c, c < 32 → ¬ scC c 0 → g2.1 c = h.1 c := fun c hc hs => (sc_c fs2 c hs).trans (r1.1 c hc)
    have e13' : g2.1 13 = h.1 13 := c2 13 (by omega) (by unfold scC; omega)
    have hv2 : VAL g2.1 := VAL_eq hv (fun c hc => c2 c (by omega) (by unfold scC; omega)) (by rw [e13']; exact ⟨rfl, rfl⟩)
    generalize hnn : g2.1 49 2 = n at ci
    have hch : CH g2.1 n := chI_CH (by rw [e13']; exact hn.1.1) (by rw [e13']; exact ci)
    have hall := allS_b hch.1
    have hc9 := hch.1
    have v12 : x1 < g2.1 13 14 := by rw [e13']; exact v1
    -- chosen: the round's
    have pm : (chL (Qr h.1 x1) (h.1 13 10).toNat).Perm (rnd h.1 x1) := perm_nd chL_nd (GR_nd i.2.1.1.1 v0 v3) (fun p => by
      rw [chL_m]
      constructor
      · rintro ⟨_, b⟩
        have e := of_decide_eq_true b
        rcases vwR_r (R := rnd h.1) (p := p) with z | z
        · rw [← vw_R, e] at z; omega
        · rw [← vw_R, e] at z; exact z.2
      · intro b
        have := (hr0 x1 v0 v3).2 p b
        refine ⟨by omega, decide_eq_true ?_⟩
        rw [vw_R]
        exact vwR_in (GR_dsj i.2.1.1.1) v0 v3 b)
    have hlen : (h.1 31 x1).toNat = (chL (Qr h.1 x1) (h.1 13 10).toNat).length := by rw [pm.length_eq, rnd_len]
    have hb31 := (hr0 x1 v0 v3).1
    have en := ci.1
    have emap := chI_map hch.1 ci
    have e31n : n = h.1 31 x1 := by omega
    refine ok_gd (by omega) ?_
    refine ok_bf (rwK_0 v0 v3) ?_
    refine ok_gd (by decide) ?_
    have hrw := rwK_r v0 v3
    refine ok_bnd (c_wl (h := g2) hv2 hch hnn v0 v12 (a9_rw v0 v3) hrw) (fun g5 q5 => ?_)
    obtain ⟨f5, r, hr, hw⟩ := q5
    have ecost : ∀ l, costL g2.1 x1 l = costL h.1 x1 l := fun l => costL_eq (c2 7 (by omega) (by unfold scC; omega)) (by rw [c2 23 (by omega) (by unfold scC; omega), c2 24 (by omega) (by unfold scC; omega), c2 25 (by omega) (by unfold scC; omega)]; exact ⟨rfl, rfl, rfl⟩) (fun p _ => by
      rw [c2 14 (by omega) (by unfold scC; omega), c2 15 (by omega) (by unfold scC; omega), c2 17 (by omega) (by unfold scC; omega), c2 18 (by omega) (by unfold scC; omega), c2 19 (by omega) (by unfold scC; omega)]
      exact ⟨⟨rfl, rfl⟩, rfl, rfl, rfl⟩)
    have hGR := (i.2.1.1.1.1 x1 v0 v3).2.2.2 v1
    have rn : r ≠ -1 := fun z => by
      have q := csQ_cg ecost (csP_Q hr)
      rw [emap] at q
      rcases q with q | q
      · exact hGR (q.2 _ pm.symm)
      · exact q.1 z
    obtain ⟨b, bw, brow⟩ := hw.resolve_left rn
    obtain ⟨b1, b2, b3⟩ := bw
    have bcost := (okB_cE hv2 hch v0 v12 hr rn b1).mp b2
    have bmin : ∀ x, ofS (allS n) x → cE g2.1 x1 x = r → lx x b = false := fun x hx he => b3 x hx ((okB_cE hv2 hch v0 v12 hr rn hx).mpr he)
    generalize hL : b.map (g2.1 50) = L at brow
    have Lp : L.Perm (rnd h.1 x1) := by
      rw [← hL]
      refine (List.Perm.map _ (ofS_p b1 canS_of)).trans ?_
      rw [emap]
      exact pm
    have Lc : costL h.1 x1 L = r := by rw [← ecost, ← hL]; exact bcost
    have hin : inR h.1 L := fun p hp => (hr0 x1 v0 v3).2 p (Lp.mem_iff.mp hp)
    have hG : GR h.1 (setR (rnd h.1) x1 L) := GR_set i.2.1.1.1 v0 v1 (fun p hp => ⟨hin p hp, (i.2.1.1.1.1 x1 v0 v3).2.1 p (Lp.mem_iff.mp hp)⟩) (Lp.nodup_iff.mpr (GR_nd i.2.1.1.1 v0 v3)) (fun p hp w w0 w3 hw z => hw (GR_dsj i.2.1.1.1 p w x1 w0 w3 v0 v3 z (Lp.mem_iff.mp hp))) (by rw [Lc]; exact rn)
    -- the class' store
    have f15 : Fr (fun c j => scC c j ∨ c = rwK 3 28 x1) g1 g5 := fr_t (fr_m (fun c j s => Or.inl (by dsimp only [sCh] at s; unfold scC; omega)) f2) (fr_m (fun c j s => by
      rcases s with s | s
      · exact Or.inl (by unfold scC; omega)
      · exact Or.inr s) f5)
    have c5 : ∀ c, c < 32 → ¬ scC c 0 → c ≠ rwK 3 28 x1 → g5.1 c = h.1 c := fun c hc hs hd => (fr_c f15 c (fun j s => by
      rcases s with s | s
      · exact hs s
      · exact hd s)).trans (r1.1 c hc)
    have e31 : g5.1 31 = h.1 31 := c5 31 (by omega) (by unfold scC; omega) (by omega)
    have e13' : g5.1 13 = h.1 13 := c5 13 (by omega) (by unfold scC; omega) (by omega)
    have rn5 : ∀ w, 0 ≤ w → w < 3 → rnd g5.1 w = setR (rnd h.1) x1 L w := fun w w0 w3 => by
      unfold setR
      by_cases cw : w = x1
      · rw [if_pos cw, cw]
        unfold rnd
        rw [e31, show (h.1 31 x1).toNat = n.toNat by omega]
        exact brow
      · have := rwK_r w0 w3
        have hne : rwK 3 28 w ≠ rwK 3 28 x1 := fun z => cw (rwK_i w0 w3 v0 v3 z)
        rw [if_neg cw]
        unfold rnd
        rw [e31, c5 _ (by omega) (by unfold scC; omega) hne]
    have hv5 : VAL g5.1 := VAL_eq hv (fun c hc => c5 c (by omega) (by unfold scC; omega) (by omega)) (by rw [e13']; exact ⟨rfl, rfl⟩)
    have hr5 : RV g5.1 := fun w w0 w3 => by
      rw [rn5 w w0 w3, e31]
      exact ⟨(hr0 w w0 w3).1, fun p hp => by rw [e13']; exact (hG.1 w w0 w3).1 p hp⟩
    have ec5 := sX6_costNow hv5 hr5 (v := x1) v0 (by rw [e13']; exact v1)
    have ecost5 : ∀ l, costL g5.1 x1 l = costL h.1 x1 l := fun l => costL_eq (c5 7 (by omega) (by unfold scC; omega) (by omega)) (by rw [c5 23 (by omega) (by unfold scC; omega) (by omega), c5 24 (by omega) (by unfold scC; omega) (by omega), c5 25 (by omega) (by unfold scC; omega) (by omega)]; exact ⟨rfl, rfl, rfl⟩) (fun p _ => by
      rw [c5 14 (by omega) (by unfold scC; omega) (by omega), c5 15 (by omega) (by unfold scC; omega) (by omega), c5 17 (by omega) (by unfold scC; omega) (by omega), c5 18 (by omega) (by unfold scC; omega) (by omega), c5 19 (by omega) (by unfold scC; omega) (by omega)]
      exact ⟨⟨rfl, rfl⟩, rfl, rfl, rfl⟩)
    have er5 : setR (rnd h.1) x1 L x1 = L := if_pos rfl
    rw [rn5 x1 v0 v3, er5, ecost5, Lc] at ec5
    repeat (first | with_reducible refine ok_gd (by first | omega | decide) ?_ | with_reducible refine ok_bs ?_ | with_reducible refine ok_be (ec5) ?_ | with_reducible refine ok_be (sX12_refuse _ _) ?_ | with_reducible refine ok_be (sX12_told _ _) ?_ | with_reducible refine ok_ndt (sX11_needVan hv) (by omega) ?_ | with_reducible refine ok_ndf (sX11_needVan hv) (by omega) ?_ | with_reducible refine ok_ndt (sX11_needParcel hv) (by omega) ?_ | with_reducible refine ok_ndf (sX11_needParcel hv) (by omega) ?_ | with_reducible refine ok_ndt (sX11_needIndex _ _ _ _) (by omega) ?_ | with_reducible refine ok_ndf (sX11_needIndex _ _ _ _) (by omega) ?_ | with_reducible refine ok_ndt (sX11_needRange _ _ _ _) (by omega) ?_ | with_reducible refine ok_ndf (sX11_needRange _ _ _ _) (by omega) ?_ | with_reducible refine ok_ndt (sX11_needThat2 _ _) (by omega) ?_ | with_reducible refine ok_ndf (sX11_needThat2 _ _) (by omega) ?_ | with_reducible refine ok_ndt (sX11_needState2 _ _) (by omega) ?_ | with_reducible refine ok_ndf (sX11_needState2 _ _) (by omega) ?_ | with_reducible refine ok_ndt (sX11_needElement _ _) (by omega) ?_ | with_reducible refine ok_ndf (sX11_needElement _ _) (by omega) ?_ | with_reducible refine ok_ndt (sX11_needPlace _ _) (by omega) ?_ | with_reducible refine ok_ndf (sX11_needPlace _ _) (by omega) ?_ | with_reducible refine ok_ndt (sX11_needSender _ _) (by omega) ?_ | with_reducible refine ok_ndf (sX11_needSender _ _) (by omega) ?_ | with_reducible refine ok_b2t (sX12_isVan hm hv) (by omega) ?_ | with_reducible refine ok_b2f (sX12_isVan hm hv) (by omega) ?_ | with_reducible refine ok_b2t (sX12_isParcel hm hv) (by omega) ?_ | with_reducible refine ok_b2f (sX12_isParcel hm hv) (by omega) ?_ | with_reducible refine ok_b2t (sX12_in _ _ _ _) (by omega) ?_ | with_reducible refine ok_b2f (sX12_in _ _ _ _) (by omega) ?_ | with_reducible refine ok_b2t (sX12_isPlace _ _) (by omega) ?_ | with_reducible refine ok_b2f (sX12_isPlace _ _) (by omega) ?_ | with_reducible refine ok_pos (by omega) ?_ | with_reducible refine ok_neg (by omega) ?_ | with_reducible refine ok_tl ?_ | with_reducible refine ok_tr ?_ | dsimp only)
    refine ok_some ?_
    -- the model
    obtain ⟨m1, em1, fm1, cm1⟩ := m_sorts (v := x1) hv hm (fun p p0 p1 => i.2.1.1.2.2 p p0 p1)
    have en1 : m1.1 = n := cm1.1.trans en.symm
    have hm1 : RM h.1 m1.2 := RM_fr hm fm1 (fun c j s => by unfold sA at s; unfold rmP; omega)
    have hm2 : RM g2.1 m1.2 := RM_K hm1 (fun c hc => c2 c (by omega) (by unfold scC; omega)) (by rw [c2 13 (by omega) (by unfold scC; omega)]; exact ⟨rfl, rfl⟩)
    have ho : ∀ k, 0 ≤ k → k < n → m1.2.1 107 k = g2.1 50 k := fun k k0 k1 => rowL_pt (k := (chL (Qr h.1 x1) (h.1 13 10).toNat).length) (cm1.2.trans ci.2.symm) k0 (by omega)
    obtain ⟨m3, em3, fm3, bx⟩ := m_exactOf (m := m1.2) hv2 hm2 hch v0 v12 ho
    obtain ⟨bx1, _, bx3⟩ := bx
    have er3 : m3.1 = r := csP_u bx1 hr
    obtain ⟨b', b1', b2', ⟨b3', b4'⟩, b5'⟩ := bx3 (by rw [er3]; exact rn)
    rw [er3] at b2' b5'
    have ebb : b = b' := lx_eq ((all_len hch.1 b1).trans (all_len hch.1 b1').symm) (b5' b b1 bcost) (bmin b' b1' b2')
    have fm13 : Fr scM h' m3.2 := fr_t (fr_m (fun c j s => by unfold sA at s; unfold scM; omega) fm1) (fr_m (fun c j s => by dsimp only [sDF] at s; unfold scM; omega) fm3)
    have i3 : INV h m3.2 := INV_scr i fr_r fm13
    obtain ⟨m4, em4, k4⟩ := inv_kp i3
    have kf := kp_fr k4
    have e52 : m4.1 71 52 = n := by rw [kf.2.2.1 52 (by omega)]; exact b3'
    obtain ⟨m5, em5, fm5, a51, arow⟩ := sX12_loadsBest (m := m4) hch.1 e52
    have embest : mbest m4 n = L := by
      have : mbest m4 n = mbest m3.2 n := by unfold mbest; rw [kf.2.1 106 (by omega)]
      rw [this, b4', ← ebb]; exact hL
    have a4 : RS h.1 m4 := RS_fr (inv_RS i3) kf.2.2.2 (fun c j s => by unfold sKp at s; omega)
    have a5 : RS h.1 m5 := RS_fr a4 fm5 (fun c j s => by unfold sRow at s; omega)
    obtain ⟨m6, em6, wB⟩ := rs_lays hn.1.1 hn.1.2 a5 v0 v1 hch.1 hG a51 (by rw [arow]; exact embest)
    have i6 : INV g5 m6 := INV_late (R := setR (rnd h.1) x1 L) i3 q1 f15 (fun c j s => by
      rcases s with s | s
      · exact Or.inl s
      · exact Or.inr (by omega)) k4 (fr_t (fr_m (fun c j s => Or.inl s) fm5) (fr_m (fun c j s => Or.inr s) wB.1)) (fun c j s => by
      rcases s with s | s
      · exact Or.inl (by unfold sRow at s; unfold scM; omega)
      · exact Or.inr (by unfold sLy at s; exact s)) hG (fun w w0 w3 => ⟨by rw [e31]; exact (hr0 w w0 w3).1, rn5 w w0 w3⟩) (fun w w0 w3 => by
      refine ⟨?_, (wB.2.1 w w0 w3).2⟩
      rw [(wB.2.1 w w0 w3).1, e31]
      by_cases cw : w = x1
      · rw [if_pos cw, cw]; exact e31n
      · rw [if_neg cw]) wB.2.2
    repeat (first | with_reducible refine ok_gd (by first | omega | decide) ?_ | with_reducible refine ok_bs ?_ | with_reducible refine ok_be (sX12_refuse _ _) ?_ | with_reducible refine ok_be (sX12_told _ _) ?_ | with_reducible refine ok_ndt (sX11_needVan hv) (by omega) ?_ | with_reducible refine ok_ndf (sX11_needVan hv) (by omega) ?_ | with_reducible refine ok_ndt (sX11_needParcel hv) (by omega) ?_ | with_reducible refine ok_ndf (sX11_needParcel hv) (by omega) ?_ | with_reducible refine ok_ndt (sX11_needIndex _ _ _ _) (by omega) ?_ | with_reducible refine ok_ndf (sX11_needIndex _ _ _ _) (by omega) ?_ | with_reducible refine ok_ndt (sX11_needRange _ _ _ _) (by omega) ?_ | with_reducible refine ok_ndf (sX11_needRange _ _ _ _) (by omega) ?_ | with_reducible refine ok_ndt (sX11_needThat2 _ _) (by omega) ?_ | with_reducible refine ok_ndf (sX11_needThat2 _ _) (by omega) ?_ | with_reducible refine ok_ndt (sX11_needState2 _ _) (by omega) ?_ | with_reducible refine ok_ndf (sX11_needState2 _ _) (by omega) ?_ | with_reducible refine ok_ndt (sX11_needElement _ _) (by omega) ?_ | with_reducible refine ok_ndf (sX11_needElement _ _) (by omega) ?_ | with_reducible refine ok_ndt (sX11_needPlace _ _) (by omega) ?_ | with_reducible refine ok_ndf (sX11_needPlace _ _) (by omega) ?_ | with_reducible refine ok_ndt (sX11_needSender _ _) (by omega) ?_ | with_reducible refine ok_ndf (sX11_needSender _ _) (by omega) ?_ | with_reducible refine ok_b2t (sX12_isVan hm hv) (by omega) ?_ | with_reducible refine ok_b2f (sX12_isVan hm hv) (by omega) ?_ | with_reducible refine ok_b2t (sX12_isParcel hm hv) (by omega) ?_ | with_reducible refine ok_b2f (sX12_isParcel hm hv) (by omega) ?_ | with_reducible refine ok_b2t (sX12_in _ _ _ _) (by omega) ?_ | with_reducible refine ok_b2f (sX12_in _ _ _ _) (by omega) ?_ | with_reducible refine ok_b2t (sX12_isPlace _ _) (by omega) ?_ | with_reducible refine ok_b2f (sX12_isPlace _ _) (by omega) ?_ | with_reducible refine ok_pos (by omega) ?_ | with_reducible refine ok_neg (by omega) ?_ | with_reducible refine ok_tl ?_ | with_reducible refine ok_tr ?_ | dsimp only)
    refine ok_be em1 ?_
    rw [en1]
    refine ok_be em3 ?_
    refine ok_be em4 ?_
    refine ok_be em5 ?_
    refine ok_be em6 ?_
    rw [er3]
    repeat (first | with_reducible refine ok_gd (by first | omega | decide) ?_ | with_reducible refine ok_bs ?_ | with_reducible refine ok_be (sX12_refuse _ _) ?_ | with_reducible refine ok_be (sX12_told _ _) ?_ | with_reducible refine ok_ndt (sX11_needVan hv) (by omega) ?_ | with_reducible refine ok_ndf (sX11_needVan hv) (by omega) ?_ | with_reducible refine ok_ndt (sX11_needParcel hv) (by omega) ?_ | with_reducible refine ok_ndf (sX11_needParcel hv) (by omega) ?_ | with_reducible refine ok_ndt (sX11_needIndex _ _ _ _) (by omega) ?_ | with_reducible refine ok_ndf (sX11_needIndex _ _ _ _) (by omega) ?_ | with_reducible refine ok_ndt (sX11_needRange _ _ _ _) (by omega) ?_ | with_reducible refine ok_ndf (sX11_needRange _ _ _ _) (by omega) ?_ | with_reducible refine ok_ndt (sX11_needThat2 _ _) (by omega) ?_ | with_reducible refine ok_ndf (sX11_needThat2 _ _) (by omega) ?_ | with_reducible refine ok_ndt (sX11_needState2 _ _) (by omega) ?_ | with_reducible refine ok_ndf (sX11_needState2 _ _) (by omega) ?_ | with_reducible refine ok_ndt (sX11_needElement _ _) (by omega) ?_ | with_reducible refine ok_ndf (sX11_needElement _ _) (by omega) ?_ | with_reducible refine ok_ndt (sX11_needPlace _ _) (by omega) ?_ | with_reducible refine ok_ndf (sX11_needPlace _ _) (by omega) ?_ | with_reducible refine ok_ndt (sX11_needSender _ _) (by omega) ?_ | with_reducible refine ok_ndf (sX11_needSender _ _) (by omega) ?_ | with_reducible refine ok_b2t (sX12_isVan hm hv) (by omega) ?_ | with_reducible refine ok_b2f (sX12_isVan hm hv) (by omega) ?_ | with_reducible refine ok_b2t (sX12_isParcel hm hv) (by omega) ?_ | with_reducible refine ok_b2f (sX12_isParcel hm hv) (by omega) ?_ | with_reducible refine ok_b2t (sX12_in _ _ _ _) (by omega) ?_ | with_reducible refine ok_b2f (sX12_in _ _ _ _) (by omega) ?_ | with_reducible refine ok_b2t (sX12_isPlace _ _) (by omega) ?_ | with_reducible refine ok_b2f (sX12_isPlace _ _) (by omega) ?_ | with_reducible refine ok_pos (by omega) ?_ | with_reducible refine ok_neg (by omega) ?_ | with_reducible refine ok_tl ?_ | with_reducible refine ok_tr ?_ | dsimp only)
    exact both_ok rfl (INV_thr i6)
  · repeat (first | with_reducible refine ok_gd (by first | omega | decide) ?_ | with_reducible refine ok_bs ?_ | with_reducible refine ok_be (sX12_refuse _ _) ?_ | with_reducible refine ok_be (sX12_told _ _) ?_ | with_reducible refine ok_ndt (sX11_needVan hv) (by omega) ?_ | with_reducible refine ok_ndf (sX11_needVan hv) (by omega) ?_ | with_reducible refine ok_ndt (sX11_needParcel hv) (by omega) ?_ | with_reducible refine ok_ndf (sX11_needParcel hv) (by omega) ?_ | with_reducible refine ok_ndt (sX11_needIndex _ _ _ _) (by omega) ?_ | with_reducible refine ok_ndf (sX11_needIndex _ _ _ _) (by omega) ?_ | with_reducible refine ok_ndt (sX11_needRange _ _ _ _) (by omega) ?_ | with_reducible refine ok_ndf (sX11_needRange _ _ _ _) (by omega) ?_ | with_reducible refine ok_ndt (sX11_needThat2 _ _) (by omega) ?_ | with_reducible refine ok_ndf (sX11_needThat2 _ _) (by omega) ?_ | with_reducible refine ok_ndt (sX11_needState2 _ _) (by omega) ?_ | with_reducible refine ok_ndf (sX11_needState2 _ _) (by omega) ?_ | with_reducible refine ok_ndt (sX11_needElement _ _) (by omega) ?_ | with_reducible refine ok_ndf (sX11_needElement _ _) (by omega) ?_ | with_reducible refine ok_ndt (sX11_needPlace _ _) (by omega) ?_ | with_reducible refine ok_ndf (sX11_needPlace _ _) (by omega) ?_ | with_reducible refine ok_ndt (sX11_needSender _ _) (by omega) ?_ | with_reducible refine ok_ndf (sX11_needSender _ _) (by omega) ?_ | with_reducible refine ok_b2t (sX12_isVan hm hv) (by omega) ?_ | with_reducible refine ok_b2f (sX12_isVan hm hv) (by omega) ?_ | with_reducible refine ok_b2t (sX12_isParcel hm hv) (by omega) ?_ | with_reducible refine ok_b2f (sX12_isParcel hm hv) (by omega) ?_ | with_reducible refine ok_b2t (sX12_in _ _ _ _) (by omega) ?_ | with_reducible refine ok_b2f (sX12_in _ _ _ _) (by omega) ?_ | with_reducible refine ok_b2t (sX12_isPlace _ _) (by omega) ?_ | with_reducible refine ok_b2f (sX12_isPlace _ _) (by omega) ?_ | with_reducible refine ok_pos (by omega) ?_ | with_reducible refine ok_neg (by omega) ?_ | with_reducible refine ok_tl ?_ | with_reducible refine ok_tr ?_ | dsimp only)
    refine ok_some ?_
    repeat (first | with_reducible refine ok_gd (by first | omega | decide) ?_ | with_reducible refine ok_bs ?_ | with_reducible refine ok_be (sX12_refuse _ _) ?_ | with_reducible refine ok_be (sX12_told _ _) ?_ | with_reducible refine ok_ndt (sX11_needVan hv) (by omega) ?_ | with_reducible refine ok_ndf (sX11_needVan hv) (by omega) ?_ | with_reducible refine ok_ndt (sX11_needParcel hv) (by omega) ?_ | with_reducible refine ok_ndf (sX11_needParcel hv) (by omega) ?_ | with_reducible refine ok_ndt (sX11_needIndex _ _ _ _) (by omega) ?_ | with_reducible refine ok_ndf (sX11_needIndex _ _ _ _) (by omega) ?_ | with_reducible refine ok_ndt (sX11_needRange _ _ _ _) (by omega) ?_ | with_reducible refine ok_ndf (sX11_needRange _ _ _ _) (by omega) ?_ | with_reducible refine ok_ndt (sX11_needThat2 _ _) (by omega) ?_ | with_reducible refine ok_ndf (sX11_needThat2 _ _) (by omega) ?_ | with_reducible refine ok_ndt (sX11_needState2 _ _) (by omega) ?_ | with_reducible refine ok_ndf (sX11_needState2 _ _) (by omega) ?_ | with_reducible refine ok_ndt (sX11_needElement _ _) (by omega) ?_ | with_reducible refine ok_ndf (sX11_needElement _ _) (by omega) ?_ | with_reducible refine ok_ndt (sX11_needPlace _ _) (by omega) ?_ | with_reducible refine ok_ndf (sX11_needPlace _ _) (by omega) ?_ | with_reducible refine ok_ndt (sX11_needSender _ _) (by omega) ?_ | with_reducible refine ok_ndf (sX11_needSender _ _) (by omega) ?_ | with_reducible refine ok_b2t (sX12_isVan hm hv) (by omega) ?_ | with_reducible refine ok_b2f (sX12_isVan hm hv) (by omega) ?_ | with_reducible refine ok_b2t (sX12_isParcel hm hv) (by omega) ?_ | with_reducible refine ok_b2f (sX12_isParcel hm hv) (by omega) ?_ | with_reducible refine ok_b2t (sX12_in _ _ _ _) (by omega) ?_ | with_reducible refine ok_b2f (sX12_in _ _ _ _) (by omega) ?_ | with_reducible refine ok_b2t (sX12_isPlace _ _) (by omega) ?_ | with_reducible refine ok_b2f (sX12_isPlace _ _) (by omega) ?_ | with_reducible refine ok_pos (by omega) ?_ | with_reducible refine ok_neg (by omega) ?_ | with_reducible refine ok_tl ?_ | with_reducible refine ok_tr ?_ | dsimp only)
    exact both_thr i0 (by decide) rfl
end EXACT2
