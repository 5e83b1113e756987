/-! BETTER: both sides -/
section BET
variable {h h' m : HH} {K : Nat → Int → Int} {l : List Int}
abbrev sLC : Nat → Int → Prop := fun c i => scC c i ∨ (28 ≤ c ∧ c ≤ 31)
abbrev sLM : Nat → Int → Prop := fun c i => scM c i ∨ (c = 90 ∨ c = 94 ∨ c = 95)
theorem rem_c {g1 g : HH} (q1 : pRem h g1) (f : Fr sLC g1 g) (c : Nat) (hc : c < 32) (h2 : ¬ scC c 0 ∧ ¬ (28 ≤ c ∧ c ≤ 31)) : g.1 c = h.1 c := by
  rw [fr_c f c (fun i s => by
    rcases s with s | s
    · exact h2.1 s
    · exact h2.2 s)]
  exact (rem_31 q1).1 c hc
theorem sBM_LC {g g2 : HH} (f : Fr sBM g g2) : Fr sLC g g2 := fr_m (fun c i s => Or.inl (by unfold scC; dsimp only [sBM] at s; omega)) f
theorem op_better (i : INV h h') (x1 : Int) : both (nX11_better x1 h) (nX12_better x1 h') (cdX 1 0 0 0) := by
  have i0 := i
  have hv := i.1.1.1
  have hm := i.1.1.2
  have hn := inv_n i
  simp only [nX11_better, bX11_better, nX12_better, bX12_better, both]
  by_cases p1 : 0 ≤ x1 ∧ x1 < h.1 13 14
  · have v0 := p1.1
    have v1 := p1.2
    repeat (first | with_reducible refine ok_gd (by first | omega | decide) ?_ | with_reducible refine ok_bs ?_ | with_reducible refine ok_be (sX12_refuse _ _) ?_ | with_reducible refine ok_be (sX12_told _ _) ?_ | with_reducible refine ok_ndt (sX11_needVan hv) (by omega) ?_ | with_reducible refine ok_ndf (sX11_needVan hv) (by omega) ?_ | with_reducible refine ok_ndt (sX11_needParcel hv) (by omega) ?_ | with_reducible refine ok_ndf (sX11_needParcel hv) (by omega) ?_ | with_reducible refine ok_ndt (sX11_needIndex _ _ _ _) (by omega) ?_ | with_reducible refine ok_ndf (sX11_needIndex _ _ _ _) (by omega) ?_ | with_reducible refine ok_ndt (sX11_needRange _ _ _ _) (by omega) ?_ | with_reducible refine ok_ndf (sX11_needRange _ _ _ _) (by omega) ?_ | with_reducible refine ok_ndt (sX11_needThat2 _ _) (by omega) ?_ | with_reducible refine ok_ndf (sX11_needThat2 _ _) (by omega) ?_ | with_reducible refine ok_ndt (sX11_needState2 _ _) (by omega) ?_ | with_reducible refine ok_ndf (sX11_needState2 _ _) (by omega) ?_ | with_reducible refine ok_ndt (sX11_needElement _ _) (by omega) ?_ | with_reducible refine ok_ndf (sX11_needElement _ _) (by omega) ?_ | with_reducible refine ok_ndt (sX11_needPlace _ _) (by omega) ?_ | with_reducible refine ok_ndf (sX11_needPlace _ _) (by omega) ?_ | with_reducible refine ok_ndt (sX11_needSender _ _) (by omega) ?_ | with_reducible refine ok_ndf (sX11_needSender _ _) (by omega) ?_ | with_reducible refine ok_b2t (sX12_isVan hm hv) (by omega) ?_ | with_reducible refine ok_b2f (sX12_isVan hm hv) (by omega) ?_ | with_reducible refine ok_b2t (sX12_isParcel hm hv) (by omega) ?_ | with_reducible refine ok_b2f (sX12_isParcel hm hv) (by omega) ?_ | with_reducible refine ok_b2t (sX12_in _ _ _ _) (by omega) ?_ | with_reducible refine ok_b2f (sX12_in _ _ _ _) (by omega) ?_ | with_reducible refine ok_b2t (sX12_isPlace _ _) (by omega) ?_ | with_reducible refine ok_b2f (sX12_isPlace _ _) (by omega) ?_ | with_reducible refine ok_pos (by omega) ?_ | with_reducible refine ok_neg (by omega) ?_ | with_reducible refine ok_tl ?_ | with_reducible refine ok_tr ?_ | dsimp only)
    refine ok_bnd (inv_rem i) (fun g1 q1 => ?_)
    have key : ∀ {m1 : HH}, pKp h' m1 → ∀ (begun : Int), (-1 ≤ begun ∧ begun ≤ 2000) → ∀ (r N M : Nat) (x3 cost thn : Int) (g m : HH) (s : Option (Int × List Int)), Fr sLC g1 g → Fr sLM m1 m → INV g m → cost = costL g.1 x1 (rnd g.1 x1) → mvS g.1 x1 cost (cAll (rnd g.1 x1) (g.1 31 x1)) s → bmM (g.1 31 x1) cost s (thn, m) → cost ≤ r → r < N → r < M → 0 ≤ x3 → x3 + r ≤ 99999 → Ok (nX11_better_27 N x1 begun x3 (g, 0 + 2)) (fun o => Ok (nX12_better_34 M x1 begun cost thn m) (fun r' => RES (cdX 1 0 0 0) o.1 r' ∧ INV o.2.1 r'.2)) := fun {m1} k1 begun hbg => by
      intro r
      induction r with
      | zero =>
        intro N M x3 cost thn g m s f f' ig hcost hs hb hr hN hM h0 h1
        obtain ⟨N, rfl⟩ := fuel_s hN
        obtain ⟨M, rfl⟩ := fuel_s hM
        have e13 : g.1 13 = h.1 13 := rem_c q1 f 13 (by omega) (by unfold scC; omega)
        have hbR := inv_RV ig x1 v0 (by omega)
        have cb := costL_b ig.1.1.1 v0 (by rw [e13]; exact v1) hbR.2
        have hGR := (ig.2.1.1.1.1 x1 v0 (by omega)).2.2.2 (by rw [e13]; exact v1)
        have hlen : ∀ x, cAll (rnd g.1 x1) (g.1 31 x1) x → x.length = (g.1 31 x1).toNat := fun x hx => by
          rw [(cAll_perm (by rw [rnd_len]; omega) hx).length_eq, rnd_len]
        rw [nX11_better_27_s]
        simp only [bX11_better_27]
        refine ok_pos (by omega) ?_
        refine ok_gd (by decide) ?_
        refine ok_bnd (c_best ig v0 (by rw [e13]; exact v1)) (fun a ha => ?_)
        obtain ⟨s2, hs2, ga, fa, ba⟩ := ha
        rw [← hcost] at hs2
        have es := mvS_u hlen hs2 hs
        subst es
        cases s2 with
        | none =>
          rw [ba]
          refine ok_pos rfl ?_
          simp only [nX11_better_50, bX11_better_50]
          have fsa := sBM_sc fa
          have iga : INV ga m := INV_scr ig fsa fr_r
          refine ok_gd (by decide) ?_
          refine ok_be (sX6_costNow iga.1.1.1 (inv_RV iga) v0 (by rw [sc_13 fsa, e13]; exact v1)) ?_
          rw [sc_rnd fsa v0 (by omega), sc_cost fsa, ← hcost]
          refine ok_gd (by omega) ?_
          refine ok_gd (by decide) ?_
          refine ok_some ?_
          have ht : thn = cost := hb
          rw [nX12_better_34_s]
          simp only [bX12_better_34]
          refine ok_neg (by omega) ?_
          refine ok_gd (by omega) ?_
          refine ok_be (sX12_told _ _) ?_
          exact both_ok rfl (INV_thr iga)
        | some p =>
          obtain ⟨c, l⟩ := p
          have := hs2.1
          have hin : inR g.1 l := fun p hp => hbR.2 p ((cAll_perm (by rw [rnd_len]; omega) this.1).mem_iff.mp hp)
          have cl := costL_b ig.1.1.1 v0 (by rw [e13]; exact v1) hin
          omega
      | succ r ih =>
        intro N M x3 cost thn g m s f f' ig hcost hs hb hr hN hM h0 h1
        obtain ⟨N, rfl⟩ := fuel_s hN
        obtain ⟨M, rfl⟩ := fuel_s hM
        have e13 : g.1 13 = h.1 13 := rem_c q1 f 13 (by omega) (by unfold scC; omega)
        have hbR := inv_RV ig x1 v0 (by omega)
        have cb := costL_b ig.1.1.1 v0 (by rw [e13]; exact v1) hbR.2
        have hGR := (ig.2.1.1.1.1 x1 v0 (by omega)).2.2.2 (by rw [e13]; exact v1)
        have hlen : ∀ x, cAll (rnd g.1 x1) (g.1 31 x1) x → x.length = (g.1 31 x1).toNat := fun x hx => by
          rw [(cAll_perm (by rw [rnd_len]; omega) hx).length_eq, rnd_len]
        rw [nX11_better_27_s]
        simp only [bX11_better_27]
        refine ok_pos (by omega) ?_
        refine ok_gd (by decide) ?_
        refine ok_bnd (c_best ig v0 (by rw [e13]; exact v1)) (fun a ha => ?_)
        obtain ⟨s2, hs2, ga, fa, ba⟩ := ha
        rw [← hcost] at hs2
        have es := mvS_u hlen hs2 hs
        subst es
        have fsa := sBM_sc fa
        have iga : INV ga m := INV_scr ig fsa fr_r
        cases s2 with
        | none =>
          rw [ba]
          refine ok_pos rfl ?_
          simp only [nX11_better_50, bX11_better_50]
          refine ok_gd (by decide) ?_
          refine ok_be (sX6_costNow iga.1.1.1 (inv_RV iga) v0 (by rw [sc_13 fsa, e13]; exact v1)) ?_
          rw [sc_rnd fsa v0 (by omega), sc_cost fsa, ← hcost]
          refine ok_gd (by omega) ?_
          refine ok_gd (by decide) ?_
          refine ok_some ?_
          have ht : thn = cost := hb
          rw [nX12_better_34_s]
          simp only [bX12_better_34]
          refine ok_neg (by omega) ?_
          refine ok_gd (by omega) ?_
          refine ok_be (sX12_told _ _) ?_
          exact both_ok rfl (INV_thr iga)
        | some p =>
          obtain ⟨c, l⟩ := p
          obtain ⟨⟨s1, s2, s3, s4⟩, _⟩ := hs2
          obtain ⟨b1, ⟨b2, b3, b4⟩, b5⟩ := ba
          obtain ⟨t1, t2, t3⟩ := hb
          have hpm := cAll_perm (by rw [rnd_len]; omega) s1
          have hin : inR g.1 l := fun p hp => hbR.2 p (hpm.mem_iff.mp hp)
          have cl := costL_b ig.1.1.1 v0 (by rw [e13]; exact v1) hin
          have hG : GR g.1 (setR (rnd g.1) x1 l) := GR_set ig.2.1.1.1 v0 (by rw [e13]; exact v1) (fun p hp => ⟨hin p hp, (ig.2.1.1.1.1 x1 v0 (by omega)).2.1 p (hpm.mem_iff.mp hp)⟩) (hpm.nodup_iff.mpr (GR_nd ig.2.1.1.1 v0 (by omega))) (fun p hp w w0 w3 hw z => hw (GR_dsj ig.2.1.1.1 p w x1 w0 w3 v0 (by omega) z (hpm.mem_iff.mp hp))) (by rw [← s2]; exact s3)
          have hGh : GR h.1 (setR (rnd g.1) x1 l) := GR_eq hG (rem_c q1 f 7 (by omega) (by unfold scC; omega)).symm (fun c hc => (rem_c q1 f c (by omega) (by unfold scC; omega)).symm) (by rw [e13]; exact ⟨rfl, rfl⟩)
          rw [b1]
          refine ok_neg (by decide) ?_
          refine ok_gd (by omega) ?_
          have hrw := rwK_r v0 (show x1 < 3 by omega)
          have fg' : Fr sLC g1 a.2 := fr_t f (fr_t (sBM_LC fa) (fr_m (fun c i s => by unfold sRw at s; exact Or.inr (by omega)) b5))
          have n9 : 0 ≤ g.1 31 x1 ∧ g.1 31 x1 ≤ 9 := hbR.1
          have eK : ∀ c, c < 28 → ¬ scC c 0 → a.2.1 c = g.1 c := fun c hc h2 => by
            rw [fr_c b5 c (fun i s => by unfold sRw at s; omega)]
            exact sc_c fsa c h2
          have ecl : costL a.2.1 x1 l = costL g.1 x1 l := costL_eq (eK 7 (by omega) (by unfold scC; omega)) (by rw [eK 23 (by omega) (by unfold scC; omega), eK 24 (by omega) (by unfold scC; omega), eK 25 (by omega) (by unfold scC; omega)]; exact ⟨rfl, rfl, rfl⟩) (fun p _ => by
            rw [eK 14 (by omega) (by unfold scC; omega), eK 15 (by omega) (by unfold scC; omega), eK 17 (by omega) (by unfold scC; omega), eK 18 (by omega) (by unfold scC; omega), eK 19 (by omega) (by unfold scC; omega)]
            exact ⟨⟨rfl, rfl⟩, rfl, rfl, rfl⟩)
          have et : thn = c := t1
          -- the model's next best move is known ahead of the class' next round
          obtain ⟨mB, iB, fB, eB⟩ : ∃ mB, INV a.2 mB ∧ Fr sLM m1 mB ∧ ∀ {P : Int × HH → Prop}, Ok (bnd (nX12_bestMove x1 thn mB) fun r4 => nX12_better_34 M x1 begun thn r4.1 r4.2) P → Ok (nX12_better_34 (M + 1) x1 begun cost thn m) P := by
            rw [nX12_better_34_s]
            simp only [bX12_better_34]
            rw [if_pos (show thn < cost by omega)]
            obtain ⟨mA, eA, wA⟩ := sX12_loadsBest (m := m) n9 t2
            rw [eA, bnd_some]
            have aA : RS g.1 mA := RS_fr (inv_RS ig) wA.1 (fun c i s => by unfold sRow at s; omega)
            obtain ⟨mB, eB, wB⟩ := rs_lays (v_n ig.1.1.1).1 (v_n ig.1.1.1).2 aA v0 (by rw [e13]; exact v1) n9 hG wA.2.1 (by rw [wA.2.2]; exact t3)
            rw [eB, bnd_some]
            have fB : Fr sLM m1 mB := fr_t f' (fr_t (fr_m (fun c i s => by unfold sRow at s; exact Or.inl (by unfold scM; omega)) wA.1) (fr_m (fun c i s => by unfold sLy at s; exact Or.inr (by omega)) wB.1))
            refine ⟨mB, INV_late (R := setR (rnd g.1) x1 l) i q1 fg' (fun c i s => s) k1 fB (fun c i s => s) hGh (fun w w0 w3 => ?_) (fun w w0 w3 => ?_) (fun p p0 p1 => wB.2.2 p p0 (by rw [e13]; exact p1)), fB, fun q => q⟩
            · by_cases cw : w = x1
              · rw [cw, b2, b3, setR, if_pos rfl]; exact ⟨n9, rfl⟩
              · rw [(b4 w w0 w3 cw).1, (b4 w w0 w3 cw).2, setR, if_neg cw, sc_31 fsa, sc_rnd fsa w0 w3]
                exact ⟨(inv_RV ig w w0 w3).1, rfl⟩
            · refine ⟨?_, (wB.2.1 w w0 w3).2⟩
              rw [(wB.2.1 w w0 w3).1]
              by_cases cw : w = x1
              · rw [if_pos cw, cw, b2]
              · rw [if_neg cw, (b4 w w0 w3 cw).1, sc_31 fsa]
          have e13a : a.2.1 13 = h.1 13 := by rw [eK 13 (by omega) (by unfold scC; omega), e13]
          obtain ⟨d, ed, s', hs', fd, bd⟩ := m_best iB (base := thn) v0 (by rw [e13a]; exact v1)
          refine ok_mono (ih N M (x3 + 1) thn d.1 a.2 d.2 s' fg' (fr_t fB (fr_m (fun c i s => Or.inl s) fd)) (INV_scr iB fr_r fd) (by rw [b3, ecl, et]; exact s2) hs' bd (by omega) (by omega) (by omega) (by omega) (by omega)) (fun o ho => ?_)
          refine eB ?_
          rw [ed, bnd_some]
          exact ho
    obtain ⟨m1, e1, k1⟩ := inv_kp i
    have r1 := rem_31 q1
    have kf := kp_fr k1
    have i1 : INV g1 m1 := INV_late (S := sLC) (S' := sLM) (R := rnd h.1) i q1 fr_r (fun c i s => s) k1 fr_r (fun c i s => s) i.2.1.1.1 (fun w w0 w3 => ⟨by rw [r1.1 31 (by omega)]; exact (inv_RV i w w0 w3).1, rnd_eq (fun c c1 c2 => r1.1 c (by omega)) w0 w3⟩) (fun w w0 w3 => by
      have hh := i.2.1.1.2.1 w w0 w3
      refine ⟨by rw [kf.1 95 (by omega) (by omega), r1.1 31 (by omega)]; exact hh.2.1, ?_⟩
      rw [← hh.2.2]
      unfold mrd
      rw [kf.1 94 (by omega) (by omega), kf.1 95 (by omega) (by omega)]) (fun p p0 p1 => by rw [kf.1 90 (by omega) (by omega)]; exact i.2.1.1.2.2 p p0 p1)
    have e13 : g1.1 13 = h.1 13 := r1.1 13 (by omega)
    have hb1 := inv_RV i1 x1 v0 (by omega)
    have cb := costL_b i1.1.1.1 v0 (by rw [e13]; exact v1) hb1.2
    refine ok_gd (by decide) ?_
    refine ok_be (sX6_costNow i1.1.1.1 (inv_RV i1) v0 (by rw [e13]; exact v1)) ?_
    obtain ⟨d0, ed0, w0⟩ := inv_costOf i1 v0 (by rw [e13]; exact v1)
    obtain ⟨d, ed, s, hs, fd, bd⟩ := m_best (INV_scr i1 fr_r w0.2.1.1) (base := costL g1.1 x1 (rnd g1.1 x1)) v0 (by rw [e13]; exact v1)
    refine ok_mono (key k1 _ cb 2001 100000 100000 0 (costL g1.1 x1 (rnd g1.1 x1)) d.1 g1 d.2 s fr_r (fr_m (fun c i s => Or.inl s) (fr_t w0.2.1.1 fd)) (INV_scr (INV_scr i1 fr_r w0.2.1.1) fr_r fd) rfl hs bd (by omega) (by omega) (by omega) (by omega) (by omega)) (fun o ho => ?_)
    repeat (first | with_reducible refine ok_gd (by first | omega | decide) ?_ | with_reducible refine ok_bs ?_ | with_reducible refine ok_be (sX12_refuse _ _) ?_ | with_reducible refine ok_be (sX12_told _ _) ?_ | with_reducible refine ok_ndt (sX11_needVan hv) (by omega) ?_ | with_reducible refine ok_ndf (sX11_needVan hv) (by omega) ?_ | with_reducible refine ok_ndt (sX11_needParcel hv) (by omega) ?_ | with_reducible refine ok_ndf (sX11_needParcel hv) (by omega) ?_ | with_reducible refine ok_ndt (sX11_needIndex _ _ _ _) (by omega) ?_ | with_reducible refine ok_ndf (sX11_needIndex _ _ _ _) (by omega) ?_ | with_reducible refine ok_ndt (sX11_needRange _ _ _ _) (by omega) ?_ | with_reducible refine ok_ndf (sX11_needRange _ _ _ _) (by omega) ?_ | with_reducible refine ok_ndt (sX11_needThat2 _ _) (by omega) ?_ | with_reducible refine ok_ndf (sX11_needThat2 _ _) (by omega) ?_ | with_reducible refine ok_ndt (sX11_needState2 _ _) (by omega) ?_ | with_reducible refine ok_ndf (sX11_needState2 _ _) (by omega) ?_ | with_reducible refine ok_ndt (sX11_needElement _ _) (by omega) ?_ | with_reducible refine ok_ndf (sX11_needElement _ _) (by omega) ?_ | with_reducible refine ok_ndt (sX11_needPlace _ _) (by omega) ?_ | with_reducible refine ok_ndf (sX11_needPlace _ _) (by omega) ?_ | with_reducible refine ok_ndt (sX11_needSender _ _) (by omega) ?_ | with_reducible refine ok_ndf (sX11_needSender _ _) (by omega) ?_ | with_reducible refine ok_b2t (sX12_isVan hm hv) (by omega) ?_ | with_reducible refine ok_b2f (sX12_isVan hm hv) (by omega) ?_ | with_reducible refine ok_b2t (sX12_isParcel hm hv) (by omega) ?_ | with_reducible refine ok_b2f (sX12_isParcel hm hv) (by omega) ?_ | with_reducible refine ok_b2t (sX12_in _ _ _ _) (by omega) ?_ | with_reducible refine ok_b2f (sX12_in _ _ _ _) (by omega) ?_ | with_reducible refine ok_b2t (sX12_isPlace _ _) (by omega) ?_ | with_reducible refine ok_b2f (sX12_isPlace _ _) (by omega) ?_ | with_reducible refine ok_pos (by omega) ?_ | with_reducible refine ok_neg (by omega) ?_ | with_reducible refine ok_tl ?_ | with_reducible refine ok_tr ?_ | dsimp only)
    refine ok_be e1 ?_
    refine ok_be ed0 ?_
    rw [w0.1]
    refine ok_be ed ?_
    exact ho
  · repeat (first | with_reducible refine ok_gd (by first | omega | decide) ?_ | with_reducible refine ok_bs ?_ | with_reducible refine ok_be (sX12_refuse _ _) ?_ | with_reducible refine ok_be (sX12_told _ _) ?_ | with_reducible refine ok_ndt (sX11_needVan hv) (by omega) ?_ | with_reducible refine ok_ndf (sX11_needVan hv) (by omega) ?_ | with_reducible refine ok_ndt (sX11_needParcel hv) (by omega) ?_ | with_reducible refine ok_ndf (sX11_needParcel hv) (by omega) ?_ | with_reducible refine ok_ndt (sX11_needIndex _ _ _ _) (by omega) ?_ | with_reducible refine ok_ndf (sX11_needIndex _ _ _ _) (by omega) ?_ | with_reducible refine ok_ndt (sX11_needRange _ _ _ _) (by omega) ?_ | with_reducible refine ok_ndf (sX11_needRange _ _ _ _) (by omega) ?_ | with_reducible refine ok_ndt (sX11_needThat2 _ _) (by omega) ?_ | with_reducible refine ok_ndf (sX11_needThat2 _ _) (by omega) ?_ | with_reducible refine ok_ndt (sX11_needState2 _ _) (by omega) ?_ | with_reducible refine ok_ndf (sX11_needState2 _ _) (by omega) ?_ | with_reducible refine ok_ndt (sX11_needElement _ _) (by omega) ?_ | with_reducible refine ok_ndf (sX11_needElement _ _) (by omega) ?_ | with_reducible refine ok_ndt (sX11_needPlace _ _) (by omega) ?_ | with_reducible refine ok_ndf (sX11_needPlace _ _) (by omega) ?_ | with_reducible refine ok_ndt (sX11_needSender _ _) (by omega) ?_ | with_reducible refine ok_ndf (sX11_needSender _ _) (by omega) ?_ | with_reducible refine ok_b2t (sX12_isVan hm hv) (by omega) ?_ | with_reducible refine ok_b2f (sX12_isVan hm hv) (by omega) ?_ | with_reducible refine ok_b2t (sX12_isParcel hm hv) (by omega) ?_ | with_reducible refine ok_b2f (sX12_isParcel hm hv) (by omega) ?_ | with_reducible refine ok_b2t (sX12_in _ _ _ _) (by omega) ?_ | with_reducible refine ok_b2f (sX12_in _ _ _ _) (by omega) ?_ | with_reducible refine ok_b2t (sX12_isPlace _ _) (by omega) ?_ | with_reducible refine ok_b2f (sX12_isPlace _ _) (by omega) ?_ | with_reducible refine ok_pos (by omega) ?_ | with_reducible refine ok_neg (by omega) ?_ | with_reducible refine ok_tl ?_ | with_reducible refine ok_tr ?_ | dsimp only)
    refine ok_some ?_
    repeat (first | with_reducible refine ok_gd (by first | omega | decide) ?_ | with_reducible refine ok_bs ?_ | with_reducible refine ok_be (sX12_refuse _ _) ?_ | with_reducible refine ok_be (sX12_told _ _) ?_ | with_reducible refine ok_ndt (sX11_needVan hv) (by omega) ?_ | with_reducible refine ok_ndf (sX11_needVan hv) (by omega) ?_ | with_reducible refine ok_ndt (sX11_needParcel hv) (by omega) ?_ | with_reducible refine ok_ndf (sX11_needParcel hv) (by omega) ?_ | with_reducible refine ok_ndt (sX11_needIndex _ _ _ _) (by omega) ?_ | with_reducible refine ok_ndf (sX11_needIndex _ _ _ _) (by omega) ?_ | with_reducible refine ok_ndt (sX11_needRange _ _ _ _) (by omega) ?_ | with_reducible refine ok_ndf (sX11_needRange _ _ _ _) (by omega) ?_ | with_reducible refine ok_ndt (sX11_needThat2 _ _) (by omega) ?_ | with_reducible refine ok_ndf (sX11_needThat2 _ _) (by omega) ?_ | with_reducible refine ok_ndt (sX11_needState2 _ _) (by omega) ?_ | with_reducible refine ok_ndf (sX11_needState2 _ _) (by omega) ?_ | with_reducible refine ok_ndt (sX11_needElement _ _) (by omega) ?_ | with_reducible refine ok_ndf (sX11_needElement _ _) (by omega) ?_ | with_reducible refine ok_ndt (sX11_needPlace _ _) (by omega) ?_ | with_reducible refine ok_ndf (sX11_needPlace _ _) (by omega) ?_ | with_reducible refine ok_ndt (sX11_needSender _ _) (by omega) ?_ | with_reducible refine ok_ndf (sX11_needSender _ _) (by omega) ?_ | with_reducible refine ok_b2t (sX12_isVan hm hv) (by omega) ?_ | with_reducible refine ok_b2f (sX12_isVan hm hv) (by omega) ?_ | with_reducible refine ok_b2t (sX12_isParcel hm hv) (by omega) ?_ | with_reducible refine ok_b2f (sX12_isParcel hm hv) (by omega) ?_ | with_reducible refine ok_b2t (sX12_in _ _ _ _) (by omega) ?_ | with_reducible refine ok_b2f (sX12_in _ _ _ _) (by omega) ?_ | with_reducible refine ok_b2t (sX12_isPlace _ _) (by omega) ?_ | with_reducible refine ok_b2f (sX12_isPlace _ _) (by omega) ?_ | with_reducible refine ok_pos (by omega) ?_ | with_reducible refine ok_neg (by omega) ?_ | with_reducible refine ok_tl ?_ | with_reducible refine ok_tr ?_ | dsimp only)
    exact both_thr i0 (by decide) rfl
end BET
