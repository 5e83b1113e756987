/-! ERRORS: the call -/
section ERRS
variable {h h' m : HH} {K K1 : Nat → Int → Int} {n : Int} {L : List Int}
theorem swL_eq {f : Nat} (hf : K1 f = K f) (h14 : K1 14 = K 14) : ∀ {l : List Int} {pl : Int}, swL K1 f l pl = swL K f l pl
  | [], pl => by rw [swL, swL, hf]
  | p :: l, pl => by rw [swL, swL, hf, h14, swL_eq hf h14]
theorem tri_i (i : INV h h') : ∀ a b c, (0 ≤ a ∧ a ≤ 15) → (0 ≤ b ∧ b ≤ 15) → (0 ≤ c ∧ c ≤ 15) → dK h.1 a b ≠ -1 → dK h.1 b c ≠ -1 → dK h.1 a c ≤ dK h.1 a b + dK h.1 b c := fun _ _ _ a0 b0 c0 e1 e2 => (inv_tri i a0 b0 c0 e1 e2).2
theorem par_i (i : INV h h') {v : Int} (v0 : 0 ≤ v) (v3 : v < 3) : ∀ q ∈ rnd h.1 v, 1 ≤ h.1 14 q ∧ h.1 14 q ≤ 15 := fun q hq => by
  have := (inv_RV i v v0 v3).2 q hq
  exact (v_p i.1.1.1 this.1 this.2).1
theorem cost_i (i : INV h h') {v : Int} (v0 : 0 ≤ v) (v1 : v < h.1 13 14) : costL h.1 v (rnd h.1 v) ≠ -1 := by
  have hn := inv_n i
  exact (i.2.1.1.1.1 v v0 (by omega)).2.2.2 v1
theorem rnd_pm (i : INV h h') {v : Int} (v0 : 0 ≤ v) (v3 : v < 3) : (chL (Qr h.1 v) (h.1 13 10).toNat).Perm (rnd h.1 v) := perm_nd chL_nd (GR_nd i.2.1.1.1 v0 v3) (fun p => by
  rw [chL_m]
  constructor
  · rintro ⟨_, b⟩
    have e := of_decide_eq_true b
    rcases vwR_r (R := rnd h.1) (p := p) with z | z
    · rw [← vw_R, e] at z; omega
    · rw [← vw_R, e] at z; exact z.2
  · intro b
    have := (inv_RV i v v0 v3).2 p b
    refine ⟨by omega, decide_eq_true ?_⟩
    rw [vw_R]
    exact vwR_in (GR_dsj i.2.1.1.1) v0 v3 b)
theorem best_le (i : INV h h') {v : Int} (v0 : 0 ≤ v) (v1 : v < h.1 13 14) {r : Int} (q : csQ h.1 v (chL (Qr h.1 v) (h.1 13 10).toNat) r) : r ≠ -1 ∧ r ≤ costL h.1 v (rnd h.1 v) := by
  have hn := inv_n i
  have pm := rnd_pm i v0 (show v < 3 by omega)
  have g := cost_i i v0 v1
  rcases q with q | q
  · exact absurd (q.2 _ pm.symm) g
  · exact ⟨q.1, (q.2.2 _ pm.symm).resolve_left g⟩
theorem inv_bb8 (i : INV h h') {v q : Int} (v0 : 0 ≤ v) (v1 : v < h.1 13 14) (hq : q = 8) : Ok (nX11_boundBelow v q h) (fun r => r.1 ≤ costL h.1 v (rnd h.1 v) ∧ Fr scC h r.2) := by
  have hn := inv_n i
  have v3 : v < 3 := by omega
  have L9 := inv_L9 i v0 v3
  obtain ⟨g, eg, fg, _, dg, t, _⟩ := inv_grow i v0 v1
  have tb := TREE_b i.1.1.1 (inv_con i v0 v1) L9 t
  have vb := inv_sv_b i v0 v1
  have fsg := sGr_sc fg
  have i3 : INV g.2 h' := INV_scr i fsg fr_r
  have esv := inv_sumOfServices i3 v0 v3
  rw [sc_c fsg 19 (by unfold scC; omega), sc_rnd fsg v0 v3] at esv
  have le := tree_le i.1.1.1 (inv_con i v0 v1) L9 (par_i i v0 v3) t
  have cs := cost_sum i.1.1.1 (inv_RV i v v0 v3).2 (cost_i i v0 v1)
  unfold nX11_boundBelow bX11_boundBelow
  refine ok_gd (by omega) ?_
  refine ok_bf (rwK_0 v0 v3) ?_
  refine ok_gd (by omega) ?_
  refine ok_be eg ?_
  refine ok_neg (by omega) ?_
  refine ok_pos hq ?_
  refine ok_be esv ?_
  refine ok_gd (by omega) ?_
  exact ok_some ⟨by omega, fsg⟩
theorem c_wr (i : INV h h') {v : Int} (v0 : 0 ≤ v) (v1 : v < h.1 13 14) : Ok (nX11_wrongInRound v h) (fun r => r.1 = 0 ∧ Fr scC h r.2) := by
  have hv := i.1.1.1
  have hn := inv_n i
  have v3 : v < 3 := by omega
  have gr := cost_i i v0 v1
  have ecn := sX6_costNow hv (inv_RV i) v0 v1
  unfold nX11_wrongInRound bX11_wrongInRound
  refine ok_be ecn ?_
  refine ok_neg gr ?_
  refine ok_bnd (c_round (v := v) hv (inv_RV i)) (fun g2 q2 => ?_)
  obtain ⟨f2, ci⟩ := q2
  have fs2 : Fr scC h g2 := fr_m (fun c j s => by dsimp only [sCh] at s; unfold scC; omega) f2
  have hv2 := sc_VAL fs2 hv
  have e13 : g2.1 13 = h.1 13 := sc_13 fs2
  generalize hnn : g2.1 49 2 = n at ci
  have hch : CH g2.1 n := chI_CH (by rw [e13]; exact hn.1.1) (by rw [e13]; exact ci)
  have hall := allS_b hch.1
  have v12 : v < g2.1 13 14 := by rw [e13]; exact v1
  have emap := chI_map hch.1 ci
  refine ok_bnd (c_drive hv2 hch hnn v0 v12) (fun g3 q3 => ?_)
  obtain ⟨f3, t3⟩ := q3
  have k1 := s51_hk f3
  have s1 := so_fr k1
  have hv3 := hk_VAL hv2 k1
  have hc3 := hk_CH hch k1
  have e49 : g3.1 49 2 = n := by rw [f3.2 49 2 (by dsimp only [s51]; omega)]; exact hnn
  refine ok_be (sX1_all e49 hch.1) ?_
  refine ok_bnd (sX1_costOfSet (h := g3) hv3 hc3 e49 v0 (by rw [s1.2.2.2.2]; exact v12) (S := allS n) ⟨hall.1, Int.le_refl _⟩ (fun i i0 i1 ib => so_hkP (so_sym s1) (t3 _ i hall.1 (Int.le_refl _) i0 i1 ib))) (fun r hr => ?_)
  have q := csQ_cg (K := h.1) (fun l => sc_cost fs2 v l) (csP_Q (so_csP s1 hr))
  rw [emap] at q
  have bl := best_le i v0 v1 q
  have fs3 : Fr scC h g3 := fr_t fs2 (fr_m (fun c j s => by dsimp only [s51] at s; unfold scC; omega) f3)
  have i3 : INV g3 h' := INV_scr i fs3 fr_r
  refine ok_bnd (inv_bb8 i3 v0 (by rw [sc_13 fs3]; exact v1) rfl) (fun r6 q6 => ?_)
  obtain ⟨w1, w2⟩ := q6
  rw [sc_cost fs3, sc_rnd fs3 v0 v3] at w1
  refine ok_neg (by omega) ?_
  unfold nX11_wrongInRound_61 bX11_wrongInRound_61
  refine ok_neg bl.1 ?_
  refine ok_neg (by omega) ?_
  exact ok_some ⟨rfl, fr_t fs3 w2⟩
/-- a walk over the doors as long as the driving -/
theorem walk_i (i : INV h h') {v : Int} (v0 : 0 ≤ v) (v3 : v < 3) : ∃ t : List Int, (∀ z ∈ t, dmD h.1 (rnd h.1 v) z) ∧ (∀ z, dmD h.1 (rnd h.1 v) z → z = 0 ∨ z ∈ t) ∧ pcs (dD h.1 (rnd h.1 v)) 0 (t ++ [0]) = swL h.1 7 (rnd h.1 v) 0 := by
  obtain ⟨t, t1, t2⟩ := walk_ex (L := rnd h.1 v) (par_i i v0 v3) (l := rnd h.1 v) (fun q hq => hq)
  exact ⟨t, t1, fun z hz => walk_cov t2 t1 hz, pcs_sw t2 drF_0⟩
theorem c_wtr (i : INV h h') {v : Int} (v0 : 0 ≤ v) (v1 : v < h.1 13 14) : Ok (nX11_wrongInTree v h) (fun r => r.1 = 0 ∧ Fr scC h r.2) := by
  have hv := i.1.1.1
  have hn := inv_n i
  have v3 : v < 3 := by omega
  have L9 := inv_L9 i v0 v3
  have nb := nD_b (K := h.1) L9
  have hC := inv_con i v0 v1
  obtain ⟨g, eg, fg, ⟨e53, e54⟩, dg, t, e56⟩ := inv_grow i v0 v1
  have fsg := sGr_sc fg
  have i3 : INV g.2 h' := INV_scr i fsg fr_r
  have tb := TREE_b hv hC L9 t
  have le := tree_le hv hC L9 (par_i i v0 v3) t
  have esw := inv_sumOfWays i3 (w := 0) (f := 7) (Or.inl ⟨rfl, rfl⟩) v0 (by rw [sc_13 fsg]; exact v1)
  rw [sc_rnd fsg v0 v3, swL_eq (sc_c fsg 7 (by unfold scC; omega)) (sc_c fsg 14 (by unfold scC; omega))] at esw
  have eD : ∀ x y, dK g.2.1 x y = dK h.1 x y := fun x y => by unfold dK; rw [sc_c fsg 7 (by unfold scC; omega)]
  unfold nX11_wrongInTree bX11_wrongInTree
  refine ok_gd (by omega) ?_
  refine ok_bf (rwK_0 v0 v3) ?_
  refine ok_gd (by omega) ?_
  refine ok_be eg ?_
  refine ok_bnd (c_same (sc_VAL fsg hv) nb e53 (fun a a0 a1 => by rw [e54 a a0 a1]; exact drF_b a0 a1)) (fun r2 q2 => ?_)
  obtain ⟨_, q2⟩ := q2
  by_cases c : r2 = 0
  · refine ok_pos c ?_
    exact ok_some ⟨rfl, fsg⟩
  · refine ok_neg c ?_
    have SY : SYM h.1 (rnd h.1 v) := fun a b a0 ab bn => by
      have z := q2 c a b a0 ab bn
      rw [e54 a a0 (by omega), e54 b (by omega) bn, eD, eD] at z
      exact z
    refine ok_be esw ?_
    refine ok_neg (by omega) ?_
    refine ok_bnd (c_prim nb e53 wD_s (fun a b a0 b0 => c_wts hv hC L9 fsg e54 a b a0 b0)) (fun x qx => ?_)
    obtain ⟨F, F1, F2, F3⟩ := qx
    have eS : g.1 = x := by
      obtain ⟨g', E', t'⟩ := t
      obtain ⟨a1, a2, _, _, a5⟩ := tree_ok nb.1 wD_s t'
      rw [a2, F2]
      exact tree_eq (dm := dmD h.1 (rnd h.1 v)) (fun x y x0 y0 => (wD_b hv hC x0 y0).1) wD_s a1 F1 (fun x y x0 y0 => a5 x y x0 y0) (fun x y x0 y0 => F3 x y x0 y0)
    refine ok_pos eS ?_
    obtain ⟨gp, egp, fgp, lp, bp⟩ := inv_pairC i v0 v1 t fg e53 e54 e56
    obtain ⟨w, w1, w2, w3⟩ := walk_i i v0 v3
    have pl := pair_le hv (tri_i i) hC L9 SY t lp w1 w2
    rw [w3] at pl
    unfold nX11_wrongInTree_73 bX11_wrongInTree_73
    refine ok_be egp ?_
    refine ok_gd (by omega) ?_
    refine ok_neg (by omega) ?_
    exact ok_some ⟨rfl, fr_t fsg (s578_sc fgp)⟩
theorem tree_tour (hv : VAL K) (hC : CON K L) (hl : L.length ≤ 9) {S : Int} {dg : Int → Int} (t : TREE K L S dg) {l : List Int} (h1 : ∀ z, z ∈ l ↔ dmD K L z ∧ z ≠ 0) : S ≤ pcs (dD K L) 0 (l ++ [0]) := by
  have nb := nD_b (K := K) hl
  obtain ⟨g', E', t⟩ := t
  obtain ⟨a1, a2, _, a4, a5⟩ := tree_ok nb.1 wD_s t
  rw [a2]
  refine tree_walk (dm := dmD K L) (w := wD K L) (d := dD K L) (fun x y x0 y0 => (wD_b hv hC x0 y0).1) wD_s (fun x y x0 y0 => by unfold wD dD; omega) a1 (a := 0) (l := l ++ [0]) ⟨by omega, by omega⟩ (fun z hz => ?_) (fun z hz => ?_)
  · rcases List.mem_append.mp hz with c | c
    · exact ((h1 z).mp c).1
    · rw [List.mem_singleton.mp c]; exact ⟨by omega, by omega⟩
  · by_cases c : z = 0
    · exact Or.inl c
    · exact Or.inr (List.mem_append_left _ ((h1 z).mpr ⟨hz, c⟩))
theorem m_ex (i : INV h m) {v : Int} (v0 : 0 ≤ v) (v1 : v < h.1 13 14) : ∃ m1 m3, nX12_sorts v m = some m1 ∧ nX12_exactOf v m1.1 m1.2 = some m3 ∧ Fr scM m m3.2 ∧ m3.1 ≤ costL h.1 v (rnd h.1 v) := by
  have hv := i.1.1.1
  have hm := i.1.1.2
  have hn := inv_n i
  have v3 : v < 3 := by omega
  obtain ⟨g2, _, f2, ci⟩ := c_round (v := v) hv (inv_RV i)
  have fs2 : Fr scC h g2 := fr_m (fun c j s => by dsimp only [sCh] at s; unfold scC; omega) f2
  have hv2 := sc_VAL fs2 hv
  have e13 : g2.1 13 = h.1 13 := sc_13 fs2
  generalize hnn : g2.1 49 2 = n at ci
  have hch : CH g2.1 n := chI_CH (by rw [e13]; exact hn.1.1) (by rw [e13]; exact ci)
  have emap := chI_map hch.1 ci
  obtain ⟨m1, em1, fm1, cm1⟩ := m_sorts (v := v) hv hm (fun p p0 p1 => i.2.1.1.2.2 p p0 p1)
  have en1 : m1.1 = n := cm1.1.trans ci.1.symm
  have hc9 := hch.1
  have hm1 : RM h.1 m1.2 := RM_fr hm fm1 (fun c j s => by unfold sA at s; unfold rmP; omega)
  have hm2 : RM g2.1 m1.2 := RM_K hm1 (fun c hc => sc_c fs2 c (by unfold scC; omega)) (by rw [e13]; exact ⟨rfl, rfl⟩)
  have en := ci.1
  have ho : ∀ k, 0 ≤ k → k < n → m1.2.1 107 k = g2.1 50 k := fun k k0 k1 => rowL_pt (k := (chL (Qr h.1 v) (h.1 13 10).toNat).length) (cm1.2.trans ci.2.symm) k0 (by omega)
  obtain ⟨m3, em3, fm3, bx⟩ := m_exactOf (m := m1.2) hv2 hm2 hch v0 (by rw [e13]; exact v1) ho
  have q := csQ_cg (K := h.1) (fun l => sc_cost fs2 v l) (csP_Q bx.1)
  rw [emap] at q
  refine ⟨m1, m3, em1, by rw [en1]; exact em3, fr_t (fr_m (fun c j s => by unfold sA at s; unfold scM; omega) fm1) (fr_m (fun c j s => by dsimp only [sDF] at s; unfold scM; omega) fm3), (best_le i v0 v1 q).2⟩
theorem m_eo (i : INV h h') {v : Int} (v0 : 0 ≤ v) (v1 : v < h.1 13 14) : Ok (nX12_errorsOf v h') (fun r => r.1 = 0 ∧ Fr scM h' r.2) := by
  have hv := i.1.1.1
  have hn := inv_n i
  have v3 : v < 3 := by omega
  have L9 := inv_L9 i v0 v3
  have nb := nD_b (K := h.1) L9
  have hC := inv_con i v0 v1
  have gr := cost_i i v0 v1
  have hb := inv_RV i v v0 v3
  obtain ⟨mc, emc, wc1, wc2, _⟩ := inv_costOf i v0 v1
  have fc := wc2.1
  obtain ⟨mt, et, ft, ⟨e72, e114⟩, dg, t, e116⟩ := inv_tree i fc v0 v1
  have fst := fr_t fc (sTM_sc ft)
  have i3 : INV h mt := INV_scr i fr_r fst
  have tb := TREE_b hv hC L9 t
  have vb := inv_sv_b i v0 v1
  have le := tree_le hv hC L9 (par_i i v0 v3) t
  have cs := cost_sum hv hb.2 gr
  have cb := costL_b hv v0 v1 hb.2
  have esm := inv_services i3 v0 v1
  obtain ⟨mp, emp, fmp, lp, bp⟩ := inv_pairM i v0 v1 t fst e72 e114 e116
  have fsp := fr_t fst (s117_sc fmp)
  have i4 : INV h mp.2 := INV_scr i fr_r fsp
  obtain ⟨e95, er⟩ := mrd_i i4 v0 v3
  -- the exact round
  have c113 : ∀ (x : Int) (g : HH), x = 0 → Fr scM h' g → Ok (nX12_errorsOf_113 v mc.1 x g) (fun r => r.1 = 0 ∧ Fr scM h' r.2) := fun x g hx f => by
    obtain ⟨m1, m3, em1, em3, fm, le3⟩ := m_ex (INV_scr i fr_r f) v0 v1
    unfold nX12_errorsOf_113 bX12_errorsOf_113
    refine ok_be em1 ?_
    refine ok_be em3 ?_
    refine ok_neg (by omega) ?_
    refine ok_gd (by omega) ?_
    exact ok_some ⟨by show x + 0 = 0; omega, fr_t f fm⟩
  have e111 : ∀ (y x : Int) (g : HH), nX12_errorsOf_111 v mc.1 y x g = gd (R32 (x + y)) (nX12_errorsOf_113 v mc.1 (x + y) g) := fun _ _ _ => rfl
  have e51 : ∀ (y x : Int) (g : HH), nX12_errorsOf_51 v mc.1 y x g = bX12_errorsOf_51 nX12_pairing nX12_isSame nX12_tour nX12_errorsOf_106 nX12_errorsOf_111 nX12_errorsOf_113 v mc.1 y x g := fun _ _ _ => rfl
  have e50 : ∀ (y : Int) (g : HH), nX12_errorsOf_50 v mc.1 y g = nX12_errorsOf_51 v mc.1 0 y g := fun _ _ => rfl
  have e16 : ∀ (y : Int) (g : HH), nX12_errorsOf_16 v mc.1 y g = bX12_errorsOf_16 nX12_laysTree nX12_services nX12_errorsOf_50 nX12_errorsOf_51 v mc.1 y g := fun _ _ => rfl
  -- tree, pairing and tour
  have c51 : ∀ a b : Int, a = 0 → b = 0 → Ok (nX12_errorsOf_51 v mc.1 a b mt) (fun r => r.1 = 0 ∧ Fr scM h' r.2) := fun a b ha hb2 => by
    rw [e51]
    unfold bX12_errorsOf_51
    refine ok_gd (by omega) ?_
    refine ok_be emp ?_
    refine ok_gd (by omega) ?_
    refine ok_gd (by omega) ?_
    by_cases c0 : 0 < mp.2.1 95 v
    · refine ok_pos c0 ?_
      refine ok_bnd (m_same i4.1.1.2 hv v0 v3 e95 er hb.1 hb.2 hC) (fun ms qs => ?_)
      obtain ⟨fs, ⟨h72, h114⟩, hsy⟩ := qs
      have fss : Fr scM h' ms.2 := fr_t fsp (fr_m (fun c j s => by dsimp only [sGm] at s; unfold scM; omega) fs)
      by_cases c1 : ms.1 = 0
      · refine ok_pos c1 ?_
        exact c113 _ _ (by omega) fss
      · refine ok_neg c1 ?_
        have SY := hsy c1
        refine ok_bnd (m_tour hv (INV_scr i fr_r fss).1.1.2 hC L9 h72 h114) (fun mo qo => ?_)
        obtain ⟨fo, ob, ⟨l, ⟨l1, l2⟩, l3⟩, hmin⟩ := qo
        obtain ⟨l', k1, k2, k3⟩ := tour_ex hv (tri_i i) hC L9 SY t lp
        have t1 := hmin l' k1 k2
        have t2 := tree_tour hv hC L9 t l2
        have t3 := pair_le hv (tri_i i) hC L9 SY t lp (r := l) (fun z hz => ((l2 z).mp hz).1) (fun z hz => by
          by_cases c : z = 0
          · exact Or.inl c
          · exact Or.inr ((l2 z).mpr ⟨hz, c⟩))
        rw [l3] at t2 t3
        have fso : Fr scM h' mo.2 := fr_t fss (fr_m (fun c j s => by dsimp only [s119] at s; unfold scM; omega) fo)
        refine ok_neg (by omega) ?_
        refine ok_gd (by omega) ?_
        refine ok_gd (by omega) ?_
        refine ok_neg (by omega) ?_
        rw [e111]
        refine ok_gd (by omega) ?_
        exact c113 _ _ (by omega) fso
    · refine ok_neg c0 ?_
      exact c113 _ _ (by omega) fsp
  unfold nX12_errorsOf bX12_errorsOf
  refine ok_be emc ?_
  refine ok_neg (by rw [wc1]; exact gr) ?_
  rw [e16]
  unfold bX12_errorsOf_16
  refine ok_be et ?_
  refine ok_gd (by omega) ?_
  by_cases c0 : 0 < mt.1 95 v
  · refine ok_pos c0 ?_
    refine ok_be esm ?_
    refine ok_gd (by omega) ?_
    refine ok_neg (by omega) ?_
    rw [e50]
    exact c51 0 0 rfl rfl
  · refine ok_neg c0 ?_
    rw [e50]
    exact c51 0 0 rfl rfl
/-- the shares make up the whole -/
theorem sum6 {f : Int → Int} : sumN (sxT f 0) 8 + sumN (sxT f 1) 8 + sumN (sxT f 2) 8 = 6 * f 7 - 6 * f 0 := by
  have a : sumN (sxT f 0) 8 = 0 + 2 * (f 1 - f 0) + 0 + 1 * (f 3 - f 2) + 0 + 1 * (f 5 - f 4) + 0 + 2 * (f 7 - f 6) + 0 := rfl
  have b : sumN (sxT f 1) 8 = 0 + 2 * (f 2 - f 0) + 1 * (f 3 - f 1) + 0 + 0 + 1 * (f 6 - f 4) + 2 * (f 7 - f 5) + 0 + 0 := rfl
  have c : sumN (sxT f 2) 8 = 0 + 2 * (f 4 - f 0) + 1 * (f 5 - f 1) + 1 * (f 6 - f 2) + 2 * (f 7 - f 3) + 0 + 0 + 0 + 0 := rfl
  omega
theorem al_0 (hv : VAL K) (v1 : 0 < K 13 14) {f : Int → Int} {x : Int} (q : alP K 8 f x) : f 0 = 0 := by
  have z := q.1 0 (by omega) (by omega)
  have e : chL (Qw K 0) (K 13 10).toNat = [] := List.eq_nil_iff_forall_not_mem.mpr (fun p hp => by
    rw [chL_m] at hp
    have := hp.2
    unfold Qw at this
    have b0 : bt 0 (K 16 p) = false := Nat.zero_testBit _
    rw [b0, Bool.and_false] at this
    cases this)
  rw [e] at z
  have c0 := costL_nil hv (v := 0) (by omega) v1
  rcases z with z | z
  · have := z.2 [] (List.Perm.refl _)
    omega
  · obtain ⟨l, l1, l2⟩ := z.2.1
    rw [List.Perm.eq_nil l1, c0] at l2
    exact l2.symm
theorem c_er (i : INV h h') : Ok (nX11_errors h) (fun r => r.1 = 0 ∧ Fr scC h r.2) := by
  have hn := inv_n i
  have key : ∀ (r N : Nat) (x k : Int) (g : HH), x = 0 → r < N → k + r = h.1 13 14 → 0 ≤ k → Fr scC h g → Ok (nX11_errors_26 N x k g) (fun r => r.1 = 0 ∧ Fr scC h r.2) := by
    intro r
    induction r with
    | zero =>
      intro N x k g hx hN hk k0 f
      obtain ⟨M, rfl⟩ := fuel_s hN
      have ig : INV g h' := INV_scr i f fr_r
      have e13 := sc_13 f
      rw [nX11_errors_26_s]
      simp only [bX11_errors_26]
      rw [e13]
      refine ok_neg (by omega) ?_
      by_cases c : 0 < h.1 13 14
      · refine ok_pos c ?_
        refine ok_bnd (c_reckon ig.1.1.1 (by rw [e13]; exact c)) (fun a ha => ?_)
        have fa := fr_t f (sRk_sc ha.1)
        have bc := alP_b ig.1.1.1 (by rw [e13]; exact c) ha.2
        by_cases c1 : a.1 = 0
        · refine ok_pos c1 ?_
          exact ok_some ⟨hx, fa⟩
        · refine ok_neg c1 ?_
          have a0 := al_0 ig.1.1.1 (by rw [e13]; exact c) ha.2
          have e := c_sfS (h := a.2) (g := fun x => sumN (sxT (a.2.1 66) x) 8) (fun x hx => c_six bc hx) (fun x hx => six_b bc hx) (S := 7) (by omega)
          have e3 : sumN (sfT (fun x => sumN (sxT (a.2.1 66) x) 8) 7) 3 = 0 + sumN (sxT (a.2.1 66) 0) 8 + sumN (sxT (a.2.1 66) 1) 8 + sumN (sxT (a.2.1 66) 2) 8 := rfl
          have s6 := sum6 (f := a.2.1 66)
          have b7 := bc 7 (by omega) (by omega)
          have es : nX8_sumUp a.2 = some 1 := by
            unfold nX8_sumUp bX8_sumUp
            refine ok_is ?_
            refine ok_be e ?_
            refine ok_gd (by omega) ?_
            refine ok_gd (by omega) ?_
            refine ok_pos (by omega) ?_
            refine ok_gd (by omega) ?_
            exact ok_some rfl
          refine ok_be es ?_
          refine ok_neg (by decide) ?_
          exact ok_some ⟨hx, fa⟩
      · refine ok_neg c ?_
        exact ok_some ⟨hx, f⟩
    | succ r ih =>
      intro N x k g hx hN hk k0 f
      obtain ⟨M, rfl⟩ := fuel_s hN
      have ig : INV g h' := INV_scr i f fr_r
      have e13 := sc_13 f
      rw [nX11_errors_26_s]
      simp only [bX11_errors_26]
      rw [e13]
      refine ok_pos (by omega) ?_
      refine ok_bnd (c_wr ig k0 (by rw [e13]; omega)) (fun r3 q3 => ?_)
      have f3 := fr_t f q3.2
      refine ok_bnd (c_wtr (INV_scr i f3 fr_r) k0 (by rw [sc_13 f3]; omega)) (fun r4 q4 => ?_)
      have z3 := q3.1
      have z4 := q4.1
      refine ok_gd (by omega) ?_
      refine ok_gd (by omega) ?_
      refine ok_gd (by omega) ?_
      exact ih M _ _ _ (by omega) (by omega) (by omega) (by omega) (fr_t f3 q4.2)
  unfold nX11_errors bX11_errors
  refine ok_be (c_ww i) ?_
  refine ok_be (c_wt i) ?_
  refine ok_gd (by decide) ?_
  refine ok_be (c_ws i) ?_
  refine ok_gd (by decide) ?_
  exact key (h.1 13 14).toNat 100000 _ 0 h rfl (by omega) (by omega) (by omega) fr_r
theorem m_er (i : INV h h') : Ok (nX12_errors h') (fun r => (r.2.1 71 10 = 0 ∧ r.1 = 0) ∧ Fr scM h' r.2) := by
  have hn := inv_n i
  have hv := i.1.1.1
  have e142 : ∀ (x : Int) (g : HH), nX12_errors_142 x g = bnd (nX12_told x g) fun r1 => some (r1.1, r1.2) := fun _ _ => rfl
  have e140 : ∀ (y x : Int) (g : HH), nX12_errors_140 y x g = gd (R32 (x + y)) (nX12_errors_142 (x + y) g) := fun _ _ _ => rfl
  have e90 : ∀ (x : Int) (g : HH), nX12_errors_90 x g = bX12_errors_90 nX12_reckons nX12_shareOf nX12_errors_140 nX12_errors_142 x g := fun _ _ => rfl
  have e83 : ∀ (x : Int) (g : HH), nX12_errors_83 x g = gd (R32 (x + 0)) (nX12_errors_90 (x + 0) g) := fun _ _ => rfl
  have m142 : ∀ (x : Int) (g : HH), x = 0 → Fr scM h' g → Ok (nX12_errors_142 x g) (fun r => (r.2.1 71 10 = 0 ∧ r.1 = 0) ∧ Fr scM h' r.2) := fun x g hx f => by
    rw [e142]
    refine ok_be (sX12_told _ _) ?_
    exact ok_some ⟨⟨rI_s ▸ updI_s, hx⟩, fr_I f (by unfold scM; omega)⟩
  have m90 : ∀ (x : Int) (g : HH), x = 0 → Fr scM h' g → Ok (nX12_errors_90 x g) (fun r => (r.2.1 71 10 = 0 ∧ r.1 = 0) ∧ Fr scM h' r.2) := fun x g hx f => by
    have ig : INV h g := INV_scr i fr_r f
    have hng := inv_n ig
    rw [e90]
    unfold bX12_errors_90
    by_cases c : 0 < h.1 13 14
    · refine ok_pos (by omega) ?_
      refine ok_bnd (m_reckons hv ig.1.1.2 c) (fun b hb => ?_)
      have fb := fr_t f (sRm_sc hb.1)
      have bm := alP_b hv c hb.2
      by_cases c1 : b.1 = 0
      · refine ok_pos c1 ?_
        exact m142 _ _ hx fb
      · refine ok_neg c1 ?_
        have b0 := al_0 hv c hb.2
        have s6 := sum6 (f := b.2.1 118)
        have b7 := bm 7 (by omega) (by omega)
        have x0 := m_six (h := b.2) bm (x := 0) (by omega)
        have x1 := m_six (h := b.2) bm (x := 1) (by omega)
        have x2 := m_six (h := b.2) bm (x := 2) (by omega)
        rw [← six_eq (f := b.2.1 118) (fun _ _ _ => rfl) (by omega)] at x0 x1 x2
        have y0 := six_b bm (x := 0) (by omega)
        have y1 := six_b bm (x := 1) (by omega)
        have y2 := six_b bm (x := 2) (by omega)
        refine ok_be x0 ?_
        refine ok_be x1 ?_
        refine ok_gd (by omega) ?_
        refine ok_be x2 ?_
        refine ok_gd (by omega) ?_
        refine ok_gd (by omega) ?_
        refine ok_gd (by omega) ?_
        refine ok_pos (by omega) ?_
        rw [e140]
        refine ok_gd (by omega) ?_
        exact m142 _ _ (by omega) fb
    · refine ok_neg (by omega) ?_
      exact m142 _ _ hx f
  have key : ∀ (r N : Nat) (x k : Int) (g : HH), x = 0 → r < N → k + r = h.1 13 14 → 0 ≤ k → Fr scM h' g → Ok (nX12_errors_15 N x k g) (fun r => (r.2.1 71 10 = 0 ∧ r.1 = 0) ∧ Fr scM h' r.2) := by
    intro r
    induction r with
    | zero =>
      intro N x k g hx hN hk k0 f
      obtain ⟨M, rfl⟩ := fuel_s hN
      have ig : INV h g := INV_scr i fr_r f
      have hng := inv_n ig
      have e90' : ∀ (x : Int) (g : HH), nX12_errors_90 x g = nX12_errors_90 x g := fun _ _ => rfl
      rw [nX12_errors_15_s]
      simp only [bX12_errors_15]
      refine ok_neg (by omega) ?_
      refine ok_bnd (inv_goesThrough ig) (fun q1 z1 => ?_)
      obtain ⟨⟨z1a, f1⟩, z1b⟩ := z1
      have f1s : Fr scM h' q1.2 := fr_t f (fr_m (fun c j s => by unfold scM; omega) f1)
      by_cases c : q1.1 = -1
      · refine ok_pos c ?_
        have i2 : INV h q1.2 := INV_scr i fr_r f1s
        obtain ⟨T, t1, t2, t3, t4, t5, t6⟩ := hrs_b i2.2.2.1
        obtain ⟨⟨d1, d2, d3⟩, d4, d5⟩ := i2.2.2.1
        have t7 := t6 (by omega)
        have e36 := d3.2.2.2
        have e75 := (z1b c).1
        rw [e36, e75]
        refine ok_gd (by omega) ?_
        obtain ⟨y1, _, w1⟩ := inv_timeFor i2 (x := h.1 59 2 - h.1 59 5) (by omega)
        refine ok_bnd w1 (fun q2 z2 => ?_)
        obtain ⟨⟨z2a, z2b⟩, f2, z2c, z2d⟩ := z2
        have y1n : y1 ≠ -1 := fun z => by
          have := z2c.mp z
          omega
        have y1l := z2d y1n
        have f2s : Fr scM h' q2.2 := fr_t f1s (fr_m (fun c j s => by unfold scM; omega) f2)
        have i3 : INV h q2.2 := INV_scr i fr_r f2s
        clear z2c z2d
        refine ok_neg (by omega) ?_
        by_cases c9 : h.1 59 2 - h.1 59 5 = 900
        · refine ok_pos c9 ?_
          rw [e83]
          refine ok_gd (by omega) ?_
          exact m90 _ _ (by omega) f2s
        · refine ok_neg c9 ?_
          refine ok_gd (by omega) ?_
          obtain ⟨y2, _, w2⟩ := inv_timeFor i3 (x := h.1 59 2 - h.1 59 5 + 1) (by omega)
          refine ok_bnd w2 (fun q3 z3 => ?_)
          obtain ⟨⟨z3a, z3b⟩, f3, z3c, z3d⟩ := z3
          have y2n : y2 = -1 := z3c.mpr (Or.inr (by omega))
          have f3s : Fr scM h' q3.2 := fr_t f2s (fr_m (fun c j s => by unfold scM; omega) f3)
          refine ok_pos (z3a.trans y2n) ?_
          rw [e83]
          refine ok_gd (by omega) ?_
          exact m90 _ _ (by omega) f3s
      · refine ok_neg c ?_
        exact m90 _ _ hx f1s
    | succ r ih =>
      intro N x k g hx hN hk k0 f
      obtain ⟨M, rfl⟩ := fuel_s hN
      have ig : INV h g := INV_scr i fr_r f
      have hng := inv_n ig
      rw [nX12_errors_15_s]
      simp only [bX12_errors_15]
      refine ok_pos (by omega) ?_
      refine ok_bnd (m_eo ig k0 (by omega)) (fun r4 q4 => ?_)
      have z4 := q4.1
      refine ok_gd (by omega) ?_
      refine ok_gd (by omega) ?_
      exact ih M _ _ _ (by omega) (by omega) (by omega) (by omega) (fr_t f q4.2)
  have e12 : ∀ (x : Int) (g : HH), nX12_errors_12 x g = nX12_errors_15 100000 x 0 g := fun _ _ => rfl
  unfold nX12_errors bX12_errors
  refine ok_be (m_al i) ?_
  refine ok_neg (by decide) ?_
  rw [e12]
  exact key (h.1 13 14).toNat 100000 0 0 h' rfl (by omega) (by omega) (by omega) fr_r
theorem op_errors (i : INV h h') : bothW (nX11_errors h) (nX12_errors h') := by
  unfold bothW
  refine ok_mono (c_er i) (fun z hz => ?_)
  refine ok_mono (m_er i) (fun r hr => ?_)
  exact ⟨⟨hr.1.1, hr.1.2.trans hz.1.symm⟩, INV_scr i hz.2 hr.2⟩
end ERRS
