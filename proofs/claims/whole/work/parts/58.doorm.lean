/-! DOOR: the model, and both sides -/
section DRM
variable {h h' m : HH} {K : Nat → Int → Int} {l : List Int}
abbrev sM0 : Nat → Int → Prop := fun c i => (sRow c i ∨ sLy c i ∨ sDr c i) ∨ ((87 ≤ c ∧ c ≤ 89) ∨ c = 101 ∨ (c = 71 ∧ (i = 30 ∨ i = 43)))
theorem sM0_T {g : HH} (f : Fr sM0 h g) : cTm dT' dU h g := cTm_of f (fun c i s h7 => by dsimp only [scU, sM0] at s ⊢; unfold sRow sLy sDr at s; omega) (fun i s => by dsimp only [sc7, sM0] at s ⊢; unfold sRow sLy sDr at s; omega)
theorem inv_RS (i : INV h h') : RS h.1 h' := ⟨fun v v0 v3 => i.2.1.1.2.1 v v0 v3, fun p p0 p1 => i.2.1.1.2.2 p p0 p1, (inv_n i).2⟩
/-- a parcel leaves its round -/
theorem m_leaves (i : INV h h') (f : Fr sM0 h' m) (e94 : m.1 94 = h'.1 94 ∧ m.1 95 = h'.1 95 ∧ m.1 90 = h'.1 90) {v x : Int} (x0 : 0 ≤ x) (x1 : x < h.1 13 10) (v0 : 0 ≤ v) (v1 : v < h.1 13 14) (hp : x ∈ rnd h.1 v) (hvw : vw h.1 x = v) (hl : remL (rnd h.1 v) (ixL x (rnd h.1 v) 0).toNat = l) (hR : GR h.1 (setR (rnd h.1) v l)) : Ok (nX12_leaves x m) (fun g => (Fr sM0 h' g ∧ (∀ c, ((78 ≤ c ∧ c ≤ 89) ∨ (91 ≤ c ∧ c ≤ 93) ∨ (100 ≤ c ∧ c ≤ 102)) → g.1 c = m.1 c) ∧ ∀ i, (i = 30 ∨ i = 43) → g.1 71 i = m.1 71 i) ∧ (∀ w, 0 ≤ w → w < 3 → g.1 95 w = (if w = v then h.1 31 v - 1 else h.1 31 w) ∧ mrd g w = setR (rnd h.1) v l w) ∧ ∀ p, 0 ≤ p → p < h.1 13 10 → g.1 90 p = vwR (setR (rnd h.1) v l) p) := by
  have hn := inv_n i
  have a := inv_RS i
  have hx := ixL_r (i := 0) ((ixL_m (by omega)).mp hp)
  rw [rnd_len] at hx
  have b1 := (a.1 v v0 (by omega)).1
  have a0 : RS h.1 m := by
    have e21 := f.2 71 21 (by dsimp only [sM0]; unfold sRow sLy sDr; omega)
    have e27 := f.2 71 27 (by dsimp only [sM0]; unfold sRow sLy sDr; omega)
    unfold RS mrd at a ⊢
    rw [e94.1, e94.2.1, e94.2.2, e21, e27]
    exact a
  have e90 : m.1 90 x = v := by rw [a0.2.1 x x0 x1]; exact hvw
  unfold nX12_leaves bX12_leaves
  refine ok_gd (by omega) ?_
  rw [e90]
  refine rs_row a0 v0 (by omega) hp (fun m1 w1 w2 w3 => ?_)
  have a1 : RS h.1 m1 := RS_fr a0 w1 (fun c i s => by unfold sRow at s; omega)
  refine ok_bnd (rs_lays hn.1.1 hn.1.2 a1 v0 v1 (n := h.1 31 v - 1) (by omega) hR w2 (by rw [w3, hl])) (fun g q => ok_some ⟨⟨fr_t (fr_t f (fr_m (fun c i s => by dsimp only [sM0]; exact Or.inl (Or.inl s)) w1)) (fr_m (fun c i s => by dsimp only [sM0]; exact Or.inl (Or.inr (Or.inl s))) q.1), fun c hc => ?_, fun j hj => ?_⟩, q.2⟩)
  · rw [fr_c q.1 c (fun i s => by unfold sLy at s; omega), fr_c w1 c (fun i s => by unfold sRow at s; omega)]
  · rw [q.1.2 71 j (by unfold sLy; omega), w1.2 71 j (by unfold sRow; omega)]
def mRes (h h' : HH) (v n : Int) (l : List Int) (x st fl lk : Int) (u : Int → Int) (d : Int) (r : Int × HH) : Prop := r.1 = st ∧ ∃ g, r.2 = hI g 71 10 0 ∧ dM h h' v n l x st fl lk u d g
theorem m_away (i : INV h h') {x v : Int} {X : HH} (fX : Fr sM0 h' X) (e94 : X.1 94 = h'.1 94 ∧ X.1 95 = h'.1 95 ∧ X.1 90 = h'.1 90) (eX : (∀ c, ((78 ≤ c ∧ c ≤ 87) ∨ c = 89 ∨ (91 ≤ c ∧ c ≤ 93) ∨ (100 ≤ c ∧ c ≤ 102)) → X.1 c = h'.1 c) ∧ X.1 88 = updI (h'.1 88) x (h.1 21 x + 1) ∧ X.1 71 30 = 0 ∧ X.1 71 43 = h'.1 71 43) (x0 : 0 ≤ x) (x1 : x < h.1 13 10) (v0 : 0 ≤ v) (v1 : v < h.1 13 14) (hp : x ∈ rnd h.1 v) (hvw : vw h.1 x = v) (hl : remL (rnd h.1 v) (ixL x (rnd h.1 v) 0).toNat = l) (hR : GR h.1 (setR (rnd h.1) v l)) : Ok (nX12_door_144 x X) (mRes h h' v (h.1 31 v - 1) l x (if nfS h.1 (h.1 14 x) 15 = -1 then 3 else 2) (h.1 21 x + 1) (nfS h.1 (h.1 14 x) 15) (if nfS h.1 (h.1 14 x) 15 = -1 then h'.1 101 else updI (h'.1 101) (nfS h.1 (h.1 14 x) 15) (h'.1 101 (nfS h.1 (h.1 14 x) 15) - 1)) (h.1 67 2)) := by
  have hn := inv_n i
  have hv := i.1.1.1
  have hm := i.1.1.2
  have hD := i.2.2.2.1
  have hL := i.2.2.2.2
  have hpp := v_p hv x0 x1
  have hpm := rm_p hm x0 x1
  have nc := nfS_c h.1 (h.1 14 x) 15
  simp only [nX12_door_144, bX12_door_144, nX12_door_154, bX12_door_154]
  refine ok_bnd (m_leaves i fX e94 x0 x1 v0 v1 hp hvw hl hR) (fun g q => ?_)
  obtain ⟨⟨q1, q2, q3⟩, q4, q5⟩ := q
  have gX : ∀ c, ((78 ≤ c ∧ c ≤ 87) ∨ c = 89 ∨ (91 ≤ c ∧ c ≤ 93) ∨ (100 ≤ c ∧ c ≤ 102)) → g.1 c = h'.1 c := fun c hc => by rw [q2 c (by omega), eX.1 c hc]
  have hd : ∀ b, 0 ≤ b → b ≤ 15 → nX12_d g (h.1 14 x) b = some (gr (dK h.1 (h.1 14 x) b)) ∧ (-1 ≤ dK h.1 (h.1 14 x) b ∧ dK h.1 (h.1 14 x) b ≤ 1800) := fun b b0 b15 => by
    have hdv := v_D hv (a := h.1 14 x) (b := b) (by omega) (by omega) b0 b15
    refine ⟨?_, hdv.1, hdv.2.1⟩
    have e := (rm_D hm (a := h.1 14 x) (b := b) (by omega) (by omega) b0 b15).1
    unfold nX12_d bX12_d
    rw [gX 78 (by omega), gd_t (by omega), gd_t (by omega), gd_t (by omega), e]
  refine ok_be (sX12_goesToLocker (K := h.1) (by omega) (a := h.1 14 x) (by omega) (by rw [gX 81 (by omega)]; exact hpm.1.1) hd (fun p p1 p2 => by
    rw [gX 101 (by omega), gX 102 (by omega)]
    exact ⟨(hD.2.1 p p1 p2).2.1.1, (hD.2.1 p p1 p2).2.1.2, (hD.2.1 p p1 p2).2.2⟩)) ?_
  have fI : ∀ {a : HH}, Fr sM0 h' a → ∀ {c : Nat} {i y : Int}, sM0 c i → Fr sM0 h' (hI a c i y) := fun f _ _ _ s => fr_I f s
  rw [gX 101 (by omega)]
  by_cases c : nfS h.1 (h.1 14 x) 15 = -1
  · rw [if_pos c, if_pos c, if_pos c, c]
    have r1 : ∀ k, k ≠ 87 → k ≠ 89 → (hI (hI g 87 x 3) 89 x (-1)).1 k = g.1 k := fun k h1 h2 => by rw [rI_n h2, rI_n h1]
    refine ok_gd (by omega) ?_
    refine ok_be (sX12_told _ _) ?_
    refine ok_some ⟨by rw [rI_n (by decide), rI_s, updI_s], _, rfl, sM0_T (fI (fI q1 (by dsimp only [sM0]; omega)) (by dsimp only [sM0]; omega)), ⟨?_, ?_, ?_⟩, ?_, fun w w0 w3 => ?_, fun p p0 p1 => ?_, ?_, ?_⟩
    · rw [rI_n (by decide), rI_s, gX 87 (by omega)]
    · rw [r1 88 (by decide) (by decide), q2 88 (by omega), eX.2.1]
    · rw [rI_s, rI_n (by decide), gX 89 (by omega)]
    · rw [r1 71 (by decide) (by decide), q3 30 (by omega)]; exact eX.2.2.1
    · unfold mrd
      rw [r1 95 (by decide) (by decide), r1 94 (by decide) (by decide)]
      exact q4 w w0 w3
    · rw [r1 90 (by decide) (by decide)]; exact q5 p p0 p1
    · rw [r1 101 (by decide) (by decide), gX 101 (by omega)]
    · rw [r1 71 (by decide) (by decide), q3 43 (by omega), eX.2.2.2]; exact hL.1.2.2.2.2.2.1
  · rw [if_neg c, if_neg c, if_neg c]
    generalize nfS h.1 (h.1 14 x) 15 = L at *
    have r1 : ∀ k, k ≠ 87 → k ≠ 89 → k ≠ 101 → (hI (hI (hI g 87 x 2) 89 x L) 101 L (h'.1 101 L - 1)).1 k = g.1 k := fun k h1 h2 h3 => by rw [rI_n h3, rI_n h2, rI_n h1]
    refine ok_gd (by omega) ?_
    refine ok_be (sX12_told _ _) ?_
    refine ok_some ⟨by rw [rI_n (by decide), rI_n (by decide), rI_s, updI_s], _, rfl, sM0_T (fI (fI (fI q1 (by dsimp only [sM0]; omega)) (by dsimp only [sM0]; omega)) (by dsimp only [sM0]; omega)), ⟨?_, ?_, ?_⟩, ?_, fun w w0 w3 => ?_, fun p p0 p1 => ?_, ?_, ?_⟩
    · rw [rI_n (by decide), rI_n (by decide), rI_s, gX 87 (by omega)]
    · rw [r1 88 (by decide) (by decide) (by decide), q2 88 (by omega), eX.2.1]
    · rw [rI_n (by decide), rI_s, rI_n (by decide), gX 89 (by omega)]
    · rw [r1 71 (by decide) (by decide) (by decide), q3 30 (by omega)]; exact eX.2.2.1
    · unfold mrd
      rw [r1 95 (by decide) (by decide) (by decide), r1 94 (by decide) (by decide) (by decide)]
      exact q4 w w0 w3
    · rw [r1 90 (by decide) (by decide) (by decide)]; exact q5 p p0 p1
    · rw [rI_s, rI_n (by decide), rI_n (by decide), gX 101 (by omega)]
    · rw [r1 71 (by decide) (by decide) (by decide), q3 43 (by omega), eX.2.2.2]; exact hL.1.2.2.2.2.2.1
theorem m_door (i : INV h h') {x v : Int} (x0 : 0 ≤ x) (x1 : x < h.1 13 10) (v0 : 0 ≤ v) (v1 : v < h.1 13 14) (hp : x ∈ rnd h.1 v) (hvw : vw h.1 x = v) (hl : remL (rnd h.1 v) (ixL x (rnd h.1 v) 0).toNat = l) (hR : GR h.1 (setR (rnd h.1) v l)) (hw : h.1 20 x = 0) (hin : inR h.1 (l ++ [x])) (hlen : l.length = (h.1 31 v - 1).toNat) (hR2 : costL h.1 v (l ++ [x]) ≠ -1 → GR h.1 (setR (rnd h.1) v (l ++ [x]))) : Ok (nX12_door_76 x (hI h' 71 30 0)) (fun r => ((h.1 21 x + 1 < 3 ∧ costL h.1 v (l ++ [x]) ≠ -1) → mRes h h' v (h.1 31 v) (l ++ [x]) x 0 (h.1 21 x + 1) (h.1 22 x) (h'.1 101) (h.1 67 2) r) ∧ (¬ (h.1 21 x + 1 < 3 ∧ costL h.1 v (l ++ [x]) ≠ -1) → mRes h h' v (h.1 31 v - 1) l x (if nfS h.1 (h.1 14 x) 15 = -1 then 3 else 2) (h.1 21 x + 1) (nfS h.1 (h.1 14 x) 15) (if nfS h.1 (h.1 14 x) 15 = -1 then h'.1 101 else updI (h'.1 101) (nfS h.1 (h.1 14 x) 15) (h'.1 101 (nfS h.1 (h.1 14 x) 15) - 1)) (h.1 67 2) r)) := by
  have hn := inv_n i
  have hv := i.1.1.1
  have hm := i.1.1.2
  have a := inv_RS i
  have hq := (i.2.1.2.2.1 x x0 x1).2
  have hpm := rm_p hm x0 x1
  have hL := i.2.2.2.2
  have b1 := (a.1 v v0 (by omega)).1
  have hx := ixL_r (i := 0) ((ixL_m (by omega)).mp hp)
  rw [rnd_len] at hx
  have e88 : (hI h' 71 30 0).1 88 x = h.1 21 x := by rw [rI_n (by decide)]; exact hpm.2.2.2.2.1
  have fI : ∀ {a : HH}, Fr sM0 h' a → ∀ {c : Nat} {i y : Int}, sM0 c i → Fr sM0 h' (hI a c i y) := fun f _ _ _ s => fr_I f s
  have fY : Fr sM0 h' (hI (hI h' 71 30 0) 88 x (h.1 21 x + 1)) := fI (fI fr_r (by dsimp only [sM0]; omega)) (by dsimp only [sM0]; omega)
  have aY : RS h.1 (hI (hI h' 71 30 0) 88 x (h.1 21 x + 1)) := RS_fr (S := fun c i => c = 88 ∨ (c = 71 ∧ i = 30)) a (fr_I (fr_I fr_r (by omega)) (by omega)) (fun c i s => by omega)
  have y90 : (hI (hI h' 71 30 0) 88 x (h.1 21 x + 1)).1 90 x = v := by rw [aY.2.1 x x0 x1]; exact hvw
  unfold nX12_door_76 bX12_door_76
  rw [e88]
  refine ok_gd (by omega) ?_
  refine ok_gd (by omega) ?_
  refine ok_gd (by omega) ?_
  refine ok_bs ?_
  refine ok_gd (by omega) ?_
  rw [y90]
  refine rs_row aY v0 (by omega) hp (fun m1 w1 w2 w3 => ?_)
  rw [hl] at w3
  refine ok_bnd (sX12_inserts (h := m1) (i := m1.1 71 51) (p := x) (by omega) (by omega) (by omega)) (fun m2 z => ?_)
  obtain ⟨z1, z2, z3⟩ := z
  have z4 : mrow m2 = l ++ [x] := by
    rw [z3, w3, w2, insL, ← hlen, List.take_length, List.drop_length]
  have fm : Fr sRow (hI (hI h' 71 30 0) 88 x (h.1 21 x + 1)) m2 := fr_t w1 z1
  have f2 : Fr sM0 h' m2 := fr_t fY (fr_m (fun c i s => by dsimp only [sM0]; exact Or.inl (Or.inl s)) fm)
  have r2 : ∀ c, c ≠ 105 → c ≠ 71 → c ≠ 88 → m2.1 c = h'.1 c := fun c h1 h2 h3 => by rw [fr_c fm c (fun i s => by unfold sRow at s; omega), rI_n h3, rI_n h2]
  have m88 : m2.1 88 = updI (h'.1 88) x (h.1 21 x + 1) := by rw [fr_c fm 88 (fun i s => by unfold sRow at s; omega), rI_s, rI_n (by decide)]
  have m30 : m2.1 71 30 = 0 := by rw [fm.2 71 30 (by unfold sRow; omega), rI_n (by decide), rI_s, updI_s]
  have m43 : m2.1 71 43 = h'.1 71 43 := by rw [fm.2 71 43 (by unfold sRow; omega), rI_n (by decide), rI_s, updI_n (by decide)]
  have m88x : m2.1 88 x = h.1 21 x + 1 := by rw [m88, updI_s]
  refine ok_gd (by omega) ?_
  rw [m88x]
  by_cases c1 : h.1 21 x + 1 < 3
  · refine ok_pos c1 ?_
    have f21 : Fr (fun c _ => c = 21) h (hI h 21 x (h.1 21 x + 1)) := fr_I fr_r rfl
    have eK : ∀ c, c ≠ 21 → (hI h 21 x (h.1 21 x + 1)).1 c = h.1 c := fun c hc => rI_n hc
    have hVK : VAL (hI h 21 x (h.1 21 x + 1)).1 := VAL_eq hv (fun c hc => eK c (by omega)) (by rw [eK 13 (by decide)]; exact ⟨rfl, rfl⟩)
    have hMK : RM (hI h 21 x (h.1 21 x + 1)).1 m2 := RM_upd (x := x) (st := h.1 20 x) (fl := h.1 21 x + 1) (lk := h.1 22 x) hm x0 (by omega) (fun c hc => eK c (by omega)) (by rw [eK 13 (by decide)]; exact ⟨rfl, rfl⟩) ⟨by rw [updI_id rfl]; exact eK 20 (by decide), rI_s, by rw [updI_id rfl]; exact eK 22 (by decide)⟩ ⟨by rw [updI_id hpm.2.2.2.1]; exact r2 87 (by decide) (by decide) (by decide), m88, by rw [updI_id hpm.2.2.2.2.2]; exact r2 89 (by decide) (by decide) (by decide)⟩ (fun c hc => r2 c (by omega) (by omega) (by omega)) ⟨by rw [fm.2 71 21 (by unfold sRow; omega), rI_n (by decide), rI_s, updI_n (by decide)], by rw [fm.2 71 27 (by unfold sRow; omega), rI_n (by decide), rI_s, updI_n (by decide)]⟩
    have hcK : costL (hI h 21 x (h.1 21 x + 1)).1 v (l ++ [x]) = costL h.1 v (l ++ [x]) := costL_eq (eK 7 (by decide)) (by rw [eK 23 (by decide), eK 24 (by decide), eK 25 (by decide)]; exact ⟨rfl, rfl, rfl⟩) (fun p _ => by
      rw [eK 14 (by decide), eK 15 (by decide), eK 17 (by decide), eK 18 (by decide), eK 19 (by decide)]
      exact ⟨⟨rfl, rfl⟩, rfl, rfl, rfl⟩)
    have z4' : rowL (m2.1 105) 0 (m2.1 71 51).toNat = l ++ [x] := z4
    have hd := sX12_drives hVK hMK v0 (by rw [eK 13 (by decide)]; exact v1) (by omega) (by omega) (by
      rw [z4']
      intro p hp
      rw [eK 13 (by decide)]
      exact hin p hp)
    rw [z4', hcK] at hd
    refine ok_bnd hd (fun q hq => ?_)
    obtain ⟨q1, q2, _⟩ := hq
    have f3 : Fr sM0 h' q.2 := fr_t f2 (fr_m (fun c i s => by dsimp only [sM0]; exact Or.inl (Or.inr (Or.inr s))) q2)
    have q3 : ∀ c, c ≠ 108 → c ≠ 71 → q.2.1 c = m2.1 c := fun c h1 h2 => fr_c q2 c (fun i s => by unfold sDr at s; omega)
    have q30 : q.2.1 71 30 = 0 := by rw [q2.2 71 30 (by unfold sDr; omega), m30]
    have q43 : q.2.1 71 43 = h'.1 71 43 := by rw [q2.2 71 43 (by unfold sDr; omega), m43]
    rw [q1]
    by_cases c2 : costL h.1 v (l ++ [x]) = -1
    · refine ok_pos c2 ?_
      refine ok_mono (m_away i f3 ⟨by rw [q3 94 (by decide) (by decide), r2 94 (by decide) (by decide) (by decide)], by rw [q3 95 (by decide) (by decide), r2 95 (by decide) (by decide) (by decide)], by rw [q3 90 (by decide) (by decide), r2 90 (by decide) (by decide) (by decide)]⟩ ⟨fun c hc => by rw [q3 c (by omega) (by omega), r2 c (by omega) (by omega) (by omega)], by rw [q3 88 (by decide) (by decide), m88], q30, q43⟩ x0 x1 v0 v1 hp hvw hl hR) (fun r hr => ⟨fun hk => absurd c2 hk.2, fun _ => hr⟩)
    · refine ok_neg c2 ?_
      obtain ⟨em3, e513⟩ := mrow_fr q2 (fun i s => by unfold sDr at s; omega) (fun s => by unfold sDr at s; omega)
      have a3 : RS h.1 q.2 := RS_fr (RS_fr aY fm (fun c i s => by unfold sRow at s; omega)) q2 (fun c i s => by unfold sDr at s; omega)
      refine ok_bnd (rs_lays hn.1.1 hn.1.2 a3 v0 v1 (n := h.1 31 v) (by omega) (hR2 c2) (by omega) (by rw [em3, z4])) (fun g hg => ?_)
      obtain ⟨g1, g2, g3⟩ := hg
      have g4 : ∀ c, c ≠ 90 → c ≠ 94 → c ≠ 95 → g.1 c = q.2.1 c := fun c h1 h2 h3 => fr_c g1 c (fun i s => by unfold sLy at s; omega)
      have g87 : g.1 87 = updI (h'.1 87) x 0 := by rw [g4 87 (by decide) (by decide) (by decide), q3 87 (by decide) (by decide), r2 87 (by decide) (by decide) (by decide), updI_id (by rw [hpm.2.2.2.1]; exact hw)]
      simp only [nX12_door_154, bX12_door_154]
      refine ok_gd (by omega) ?_
      refine ok_be (sX12_told _ _) ?_
      refine ok_some ⟨fun _ => ⟨by rw [g87, updI_s], g, rfl, sM0_T (fr_t f3 (fr_m (fun c i s => by dsimp only [sM0]; exact Or.inl (Or.inr (Or.inl s))) g1)), ⟨g87, ?_, ?_⟩, ?_, fun w w0 w3 => ?_, g3, ?_, ?_⟩, fun hk => absurd ⟨c1, c2⟩ hk⟩
      · rw [g4 88 (by decide) (by decide) (by decide), q3 88 (by decide) (by decide), m88]
      · rw [g4 89 (by decide) (by decide) (by decide), q3 89 (by decide) (by decide), r2 89 (by decide) (by decide) (by decide), updI_id hpm.2.2.2.2.2]
      · rw [g4 71 (by decide) (by decide) (by decide)]; exact q30
      · exact g2 w w0 w3
      · rw [g4 101 (by decide) (by decide) (by decide), q3 101 (by decide) (by decide), r2 101 (by decide) (by decide) (by decide)]
      · rw [g4 71 (by decide) (by decide) (by decide), q43]; exact hL.1.2.2.2.2.2.1
  · refine ok_neg c1 ?_
    refine ok_mono (m_away i f2 ⟨r2 94 (by decide) (by decide) (by decide), r2 95 (by decide) (by decide) (by decide), r2 90 (by decide) (by decide) (by decide)⟩ ⟨fun c hc => r2 c (by omega) (by omega) (by omega), m88, m30, m43⟩ x0 x1 v0 v1 hp hvw hl hR) (fun r hr => ⟨fun hk => absurd hk.1 c1, fun _ => hr⟩)
theorem op_door (i : INV h h') (x1 x2 : Int) : both (nX11_door x1 x2 h) (nX12_door x1 x2 h') (cdX 1 0 2 0) := by
  have i0 := i
  have hv := i.1.1.1
  have hm := i.1.1.2
  have hn := inv_n i
  have hr := inv_RV i
  have hr1 := i.2.1.1.2.1
  have hL := i.2.2.2.2
  have hD := i.2.2.2.1
  simp only [nX11_door, bX11_door, nX11_door_35, bX11_door_35, nX11_door_36, bX11_door_36, nX12_door, bX12_door, nX12_door_33, bX12_door_33, both]
  by_cases p2 : 0 ≤ x1 ∧ x1 < h.1 13 10
  · have hq := i.2.1.1.2.2 x1 p2.1 p2.2
    have hpm := rm_p hm p2.1 p2.2
    have hs := (i.2.1.2.2.1 x1 p2.1 p2.2)
    have e87 : h'.1 87 x1 = h.1 20 x1 := hpm.2.2.2.1
    rcases vwR_r (R := rnd h.1) (p := x1) with c | ⟨⟨v0, v3⟩, hp⟩
    · have c : vw h.1 x1 = -1 := c
      repeat (first | with_reducible refine ok_gd (by first | omega | decide) ?_ | with_reducible refine ok_bs ?_ | with_reducible refine ok_be (sX6_vanWith hr) ?_ | with_reducible refine ok_be (sX12_refuse _ _) ?_ | with_reducible refine ok_be (sX12_told _ _) ?_ | with_reducible refine ok_ndt (sX11_needVan hv) (by omega) ?_ | with_reducible refine ok_ndf (sX11_needVan hv) (by omega) ?_ | with_reducible refine ok_ndt (sX11_needParcel hv) (by omega) ?_ | with_reducible refine ok_ndf (sX11_needParcel hv) (by omega) ?_ | with_reducible refine ok_ndt (sX11_needIndex _ _ _ _) (by omega) ?_ | with_reducible refine ok_ndf (sX11_needIndex _ _ _ _) (by omega) ?_ | with_reducible refine ok_ndt (sX11_needRange _ _ _ _) (by omega) ?_ | with_reducible refine ok_ndf (sX11_needRange _ _ _ _) (by omega) ?_ | with_reducible refine ok_ndt (sX11_needThat2 _ _) (by omega) ?_ | with_reducible refine ok_ndf (sX11_needThat2 _ _) (by omega) ?_ | with_reducible refine ok_ndt (sX11_needState2 _ _) (by omega) ?_ | with_reducible refine ok_ndf (sX11_needState2 _ _) (by omega) ?_ | with_reducible refine ok_ndt (sX11_needElement _ _) (by omega) ?_ | with_reducible refine ok_ndf (sX11_needElement _ _) (by omega) ?_ | with_reducible refine ok_ndt (sX11_needPlace _ _) (by omega) ?_ | with_reducible refine ok_ndf (sX11_needPlace _ _) (by omega) ?_ | with_reducible refine ok_ndt (sX11_needSender _ _) (by omega) ?_ | with_reducible refine ok_ndf (sX11_needSender _ _) (by omega) ?_ | with_reducible refine ok_b2t (sX12_isVan hm hv) (by omega) ?_ | with_reducible refine ok_b2f (sX12_isVan hm hv) (by omega) ?_ | with_reducible refine ok_b2t (sX12_isParcel hm hv) (by omega) ?_ | with_reducible refine ok_b2f (sX12_isParcel hm hv) (by omega) ?_ | with_reducible refine ok_b2t (sX12_in _ _ _ _) (by omega) ?_ | with_reducible refine ok_b2f (sX12_in _ _ _ _) (by omega) ?_ | with_reducible refine ok_b2t (sX12_isPlace _ _) (by omega) ?_ | with_reducible refine ok_b2f (sX12_isPlace _ _) (by omega) ?_ | with_reducible refine ok_pos (by omega) ?_ | with_reducible refine ok_neg (by omega) ?_ | with_reducible refine ok_tl ?_ | with_reducible refine ok_tr ?_ | dsimp only)
      refine ok_some ?_
      by_cases c0 : h.1 20 x1 = 0
      · repeat (first | with_reducible refine ok_gd (by first | omega | decide) ?_ | with_reducible refine ok_bs ?_ | with_reducible refine ok_be (sX12_refuse _ _) ?_ | with_reducible refine ok_be (sX12_told _ _) ?_ | with_reducible refine ok_ndt (sX11_needVan hv) (by omega) ?_ | with_reducible refine ok_ndf (sX11_needVan hv) (by omega) ?_ | with_reducible refine ok_ndt (sX11_needParcel hv) (by omega) ?_ | with_reducible refine ok_ndf (sX11_needParcel hv) (by omega) ?_ | with_reducible refine ok_ndt (sX11_needIndex _ _ _ _) (by omega) ?_ | with_reducible refine ok_ndf (sX11_needIndex _ _ _ _) (by omega) ?_ | with_reducible refine ok_ndt (sX11_needRange _ _ _ _) (by omega) ?_ | with_reducible refine ok_ndf (sX11_needRange _ _ _ _) (by omega) ?_ | with_reducible refine ok_ndt (sX11_needThat2 _ _) (by omega) ?_ | with_reducible refine ok_ndf (sX11_needThat2 _ _) (by omega) ?_ | with_reducible refine ok_ndt (sX11_needState2 _ _) (by omega) ?_ | with_reducible refine ok_ndf (sX11_needState2 _ _) (by omega) ?_ | with_reducible refine ok_ndt (sX11_needElement _ _) (by omega) ?_ | with_reducible refine ok_ndf (sX11_needElement _ _) (by omega) ?_ | with_reducible refine ok_ndt (sX11_needPlace _ _) (by omega) ?_ | with_reducible refine ok_ndf (sX11_needPlace _ _) (by omega) ?_ | with_reducible refine ok_ndt (sX11_needSender _ _) (by omega) ?_ | with_reducible refine ok_ndf (sX11_needSender _ _) (by omega) ?_ | with_reducible refine ok_b2t (sX12_isVan hm hv) (by omega) ?_ | with_reducible refine ok_b2f (sX12_isVan hm hv) (by omega) ?_ | with_reducible refine ok_b2t (sX12_isParcel hm hv) (by omega) ?_ | with_reducible refine ok_b2f (sX12_isParcel hm hv) (by omega) ?_ | with_reducible refine ok_b2t (sX12_in _ _ _ _) (by omega) ?_ | with_reducible refine ok_b2f (sX12_in _ _ _ _) (by omega) ?_ | with_reducible refine ok_b2t (sX12_isPlace _ _) (by omega) ?_ | with_reducible refine ok_b2f (sX12_isPlace _ _) (by omega) ?_ | with_reducible refine ok_pos (by omega) ?_ | with_reducible refine ok_neg (by omega) ?_ | with_reducible refine ok_tl ?_ | with_reducible refine ok_tr ?_ | dsimp only)
        exact both_thr i0 (by decide) rfl
      · repeat (first | with_reducible refine ok_gd (by first | omega | decide) ?_ | with_reducible refine ok_bs ?_ | with_reducible refine ok_be (sX12_refuse _ _) ?_ | with_reducible refine ok_be (sX12_told _ _) ?_ | with_reducible refine ok_ndt (sX11_needVan hv) (by omega) ?_ | with_reducible refine ok_ndf (sX11_needVan hv) (by omega) ?_ | with_reducible refine ok_ndt (sX11_needParcel hv) (by omega) ?_ | with_reducible refine ok_ndf (sX11_needParcel hv) (by omega) ?_ | with_reducible refine ok_ndt (sX11_needIndex _ _ _ _) (by omega) ?_ | with_reducible refine ok_ndf (sX11_needIndex _ _ _ _) (by omega) ?_ | with_reducible refine ok_ndt (sX11_needRange _ _ _ _) (by omega) ?_ | with_reducible refine ok_ndf (sX11_needRange _ _ _ _) (by omega) ?_ | with_reducible refine ok_ndt (sX11_needThat2 _ _) (by omega) ?_ | with_reducible refine ok_ndf (sX11_needThat2 _ _) (by omega) ?_ | with_reducible refine ok_ndt (sX11_needState2 _ _) (by omega) ?_ | with_reducible refine ok_ndf (sX11_needState2 _ _) (by omega) ?_ | with_reducible refine ok_ndt (sX11_needElement _ _) (by omega) ?_ | with_reducible refine ok_ndf (sX11_needElement _ _) (by omega) ?_ | with_reducible refine ok_ndt (sX11_needPlace _ _) (by omega) ?_ | with_reducible refine ok_ndf (sX11_needPlace _ _) (by omega) ?_ | with_reducible refine ok_ndt (sX11_needSender _ _) (by omega) ?_ | with_reducible refine ok_ndf (sX11_needSender _ _) (by omega) ?_ | with_reducible refine ok_b2t (sX12_isVan hm hv) (by omega) ?_ | with_reducible refine ok_b2f (sX12_isVan hm hv) (by omega) ?_ | with_reducible refine ok_b2t (sX12_isParcel hm hv) (by omega) ?_ | with_reducible refine ok_b2f (sX12_isParcel hm hv) (by omega) ?_ | with_reducible refine ok_b2t (sX12_in _ _ _ _) (by omega) ?_ | with_reducible refine ok_b2f (sX12_in _ _ _ _) (by omega) ?_ | with_reducible refine ok_b2t (sX12_isPlace _ _) (by omega) ?_ | with_reducible refine ok_b2f (sX12_isPlace _ _) (by omega) ?_ | with_reducible refine ok_pos (by omega) ?_ | with_reducible refine ok_neg (by omega) ?_ | with_reducible refine ok_tl ?_ | with_reducible refine ok_tr ?_ | dsimp only)
        exact both_thr i0 (by decide) rfl
    · have ev : vw h.1 x1 = vwR (rnd h.1) x1 := rfl
      rw [← ev] at v0 v3 hp
      clear ev
      generalize hvw : vw h.1 x1 = v at *
      have v1 : v < h.1 13 14 := by
        by_cases c : v < h.1 13 14
        · exact c
        · rw [(i.2.1.1.1.1 v v0 v3).2.2.1 (by omega)] at hp
          exact absurd hp List.not_mem_nil
      have r1 := hr1 v v0 v3
      have hw : h.1 20 x1 = 0 := (i.2.1.1.1.1 v v0 v3).2.1 x1 hp
      have hcv : costL h.1 v (rnd h.1 v) ≠ -1 := (i.2.1.1.1.1 v v0 v3).2.2.2 v1
      have hx := ixL_r (i := 0) ((ixL_m (by omega)).mp hp)
      have hxl : (ixL x1 (rnd h.1 v) 0).toNat < (rnd h.1 v).length := by omega
      rw [rnd_len] at hx
      obtain ⟨l, hl⟩ : ∃ l, remL (rnd h.1 v) (ixL x1 (rnd h.1 v) 0).toNat = l := ⟨_, rfl⟩
      have hsub : ∀ p ∈ l, p ∈ rnd h.1 v := fun p hp => remL_m (by rw [hl]; exact hp)
      have hin : inR h.1 l := fun p hp => (hr v v0 v3).2 p (hsub p hp)
      have hnx : x1 ∉ l ∧ l.Nodup := by
        obtain ⟨w1, w2⟩ := ixL_get (i := 0) (by omega) hp
        simp only [Int.sub_zero] at w1 w2
        have := (remL_perm (l := rnd h.1 v) w1).nodup_iff.mp (GR_nd i.2.1.1.1 v0 v3)
        rw [hl, w2] at this
        exact List.nodup_cons.mp this
      have hlen : l.length = (h.1 31 v - 1).toNat := by
        rw [← hl, remL_len hxl, rnd_len]
        omega
      have hcl : costL h.1 v l ≠ -1 := by
        rw [← hl]
        exact cost_rem i hxl (hr v v0 v3).2 hcv
      have hR : GR h.1 (setR (rnd h.1) v l) := GR_set i.2.1.1.1 v0 v1 (fun p hp => ⟨hin p hp, (i.2.1.1.1.1 v v0 v3).2.1 p (hsub p hp)⟩) hnx.2 (fun p hp w w0 w3 hw z => hw (GR_dsj i.2.1.1.1 p w v w0 w3 v0 v3 z (hsub p hp))) hcl
      have hsub2 : ∀ p ∈ l ++ [x1], p ∈ rnd h.1 v := fun p hpp => by
        rcases List.mem_append.mp hpp with q | q
        · exact hsub p q
        · rw [List.mem_singleton.mp q]; exact hp
      have hin2 : inR h.1 (l ++ [x1]) := fun p hp => (hr v v0 v3).2 p (hsub2 p hp)
      have hnd2 : (l ++ [x1]).Nodup := by
        rw [List.nodup_append]
        refine ⟨hnx.2, List.nodup_cons.mpr ⟨List.not_mem_nil, List.nodup_nil⟩, fun a ha b hb => ?_⟩
        rw [List.mem_singleton.mp hb]
        exact fun q => hnx.1 (q ▸ ha)
      have hR2 : costL h.1 v (l ++ [x1]) ≠ -1 → GR h.1 (setR (rnd h.1) v (l ++ [x1])) := fun hc => GR_set i.2.1.1.1 v0 v1 (fun p hp => ⟨hin2 p hp, (i.2.1.1.1.1 v v0 v3).2.1 p (hsub2 p hp)⟩) hnd2 (fun p hp w w0 w3 hw z => hw (GR_dsj i.2.1.1.1 p w v w0 w3 v0 v3 z (hsub2 p hp))) hc
      have hout : ∀ w, 0 ≤ w → w < 3 → x1 ∉ setR (rnd h.1) v l w := fun w w0 w3 => by
        unfold setR
        by_cases c : w = v
        · rw [if_pos c]; exact hnx.1
        · rw [if_neg c]
          exact fun z => c (GR_dsj i.2.1.1.1 x1 w v w0 w3 v0 v3 z hp)
      have m90 : h'.1 90 x1 ≠ -1 := by omega
      have key : ∀ {r : HH}, Fr (sA 69) h r → rowL (r.1 69) 0 (h.1 31 v - 1).toNat = l → Ok (nX11_door_77 x1 x2 v (h.1 31 v - 1) 1 (r, 0 + 2 + 1)) (fun q => Ok (if x2 = (0 : Int) then nX12_door_76 x1 (hI h' 71 30 0) else bnd (nX12_leaves x1 (hI h' 71 30 0)) fun r3 => gd ((0 : Int) ≤ x1 ∧ x1 < (9 : Int)) <| bnd (some (hI r3 87 x1 1)) fun h4 => gd (R32 ((h4.1 71 43) + 1)) <| bnd (some (hI h4 71 43 ((h4.1 71 43) + 1))) fun h5 => bnd (nX12_told 1 h5) fun r6 => some (r6.1, r6.2)) (fun r' => RES (cdX 1 0 2 0) q.1 r' ∧ INV q.2.1 r'.2)) := fun {r} fr er => by
        by_cases cx : x2 = 0
        · rw [cx]
          by_cases ck : h.1 21 x1 + 1 < 3 ∧ costL h.1 v (l ++ [x1]) ≠ -1
          · refine ok_mono (c_door2 i fr (by omega) p2.1 p2.2 v0 v1 (by omega) er hin hw ck.1 ck.2) (fun q hq => ?_)
            refine ok_pos rfl ?_
            refine ok_mono (m_door i p2.1 p2.2 v0 v1 hp hvw hl hR hw hin2 hlen hR2) (fun b hb => ?_)
            obtain ⟨b1, g, b2, b3⟩ := hb.1 ck
            have e1 : h.1 31 v - 1 + 1 = h.1 31 v := by omega
            rw [e1] at hq
            rw [hq.1]
            refine ⟨⟨by rw [b2]; exact rI_s ▸ updI_s, b1⟩, ?_⟩
            rw [b2]
            exact INV_thr (INV_door i p2.1 p2.2 hq.2 b3 (by omega) (by omega) hw (by omega) v0 v3 (hR2 ck.2) (fun z => absurd rfl z) ⟨hD.2.2.2.2, fun p p1 p2 => by have := (hD.2.1 p p1 p2).2.1; omega⟩ (by rw [if_neg (by omega)]; omega))
          · refine ok_mono (c_door3 i fr (by omega) p2.1 p2.2 v0 v1 (by omega) er hin hw ck) (fun q hq => ?_)
            refine ok_pos rfl ?_
            refine ok_mono (m_door i p2.1 p2.2 v0 v1 hp hvw hl hR hw hin2 hlen hR2) (fun b hb => ?_)
            obtain ⟨b1, g, b2, b3⟩ := hb.2 ck
            rw [hq.1]
            refine ⟨⟨by rw [b2]; exact rI_s ▸ updI_s, b1⟩, ?_⟩
            rw [b2]
            have nc := nfS_c h.1 (h.1 14 x1) 15
            refine INV_thr (INV_door i p2.1 p2.2 hq.2 b3 (by split <;> omega) ⟨by omega, by omega, fun z => by split at z <;> omega⟩ hw (by omega) v0 v3 hR (fun _ => hout) ?_ (by rw [if_neg (by split <;> omega)]; omega))
            by_cases cn : nfS h.1 (h.1 14 x1) 15 = -1
            · rw [if_pos cn, if_pos cn]
              exact ⟨hD.2.2.2.2, fun p p1 p2 => by have := (hD.2.1 p p1 p2).2.1; omega⟩
            · rw [if_neg cn, if_neg cn]
              refine ⟨by rw [updI_n (by omega)]; exact hD.2.2.2.2, fun p p1 p2 => ?_⟩
              have h1 := (hD.2.1 p p1 p2).2.1
              rw [updI_at, updI_at]
              by_cases c : p = nfS h.1 (h.1 14 x1) 15
              · rw [if_pos c, if_pos c]
                rw [c] at h1
                rw [c]
                omega
              · rw [if_neg c, if_neg c]; omega
        · have hd0 : 0 ≤ h.1 67 2 ∧ h.1 67 2 ≤ 100 := by
            have h1 := i.2.1.2.2.2.2
            have h2 := sumS_1 (g := fun p => if h.1 20 p = 1 then 1 else 0) (n := (h.1 13 10).toNat) (fun j _ => by
              show 0 ≤ (if h.1 20 (j : Int) = 1 then (1 : Int) else 0) ∧ (if h.1 20 (j : Int) = 1 then (1 : Int) else 0) ≤ 1
              split <;> omega)
            omega
          refine ok_mono (c_door1 hd0 fr (by omega) (by omega) cx v0 v3 (by omega) er) (fun q hq => ?_)
          refine ok_neg cx ?_
          have f30 : Fr sM0 h' (hI h' 71 30 0) := fr_I fr_r (by dsimp only [sM0]; omega)
          refine ok_bnd (m_leaves i f30 ⟨rI_n (by decide), rI_n (by decide), rI_n (by decide)⟩ p2.1 p2.2 v0 v1 hp hvw hl hR) (fun g hg => ?_)
          obtain ⟨⟨g1, g2, g3⟩, g4, g5⟩ := hg
          have g43 : g.1 71 43 = h.1 67 2 := by rw [g3 43 (by omega), rI_s, updI_n (by decide)]; exact hL.1.2.2.2.2.2.1
          have g30 : g.1 71 30 = 0 := by rw [g3 30 (by omega), rI_s, updI_s]
          have g431 : (hI g 87 x1 1).1 71 43 = h.1 67 2 := by rw [rI_n (by decide)]; exact g43
          refine ok_gd (by omega) ?_
          refine ok_bs ?_
          rw [g431]
          refine ok_gd (by omega) ?_
          refine ok_bs ?_
          refine ok_be (sX12_told _ _) ?_
          rw [hq.1]
          refine ok_some ⟨⟨rI_s ▸ updI_s, rfl⟩, INV_thr (INV_door (st := 1) (fl := h.1 21 x1) (lk := h.1 22 x1) (u' := h'.1 101) i p2.1 p2.2 hq.2 ?_ (by omega) ⟨by omega, by omega, fun z => by omega⟩ hw (by omega) v0 v3 hR (fun _ => hout) ⟨hD.2.2.2.2, fun p p1 p2 => by have := (hD.2.1 p p1 p2).2.1; omega⟩ (by rw [if_pos rfl]))⟩
          have r1 : ∀ k, k ≠ 87 → k ≠ 71 → (hI (hI g 87 x1 1) 71 43 (h.1 67 2 + 1)).1 k = g.1 k := fun k h1 h2 => by rw [rI_n h2, rI_n h1]
          refine ⟨sM0_T (fr_I (fr_I g1 (by dsimp only [sM0]; omega)) (by dsimp only [sM0]; omega)), ⟨?_, ?_, ?_⟩, ?_, fun w w0 w3 => ?_, fun p p0 p1 => ?_, ?_, ?_⟩
          · rw [rI_n (by decide), rI_s, g2 87 (by omega), rI_n (by decide)]
          · rw [r1 88 (by decide) (by decide), g2 88 (by omega), rI_n (by decide), updI_id hpm.2.2.2.2.1]
          · rw [r1 89 (by decide) (by decide), g2 89 (by omega), rI_n (by decide), updI_id hpm.2.2.2.2.2]
          · rw [rI_s, updI_n (by decide), rI_n (by decide)]; exact g30
          · unfold mrd
            rw [r1 95 (by decide) (by decide), r1 94 (by decide) (by decide)]
            exact g4 w w0 w3
          · rw [r1 90 (by decide) (by decide)]; exact g5 p p0 p1
          · rw [r1 101 (by decide) (by decide), g2 101 (by omega), rI_n (by decide)]
          · rw [rI_s, updI_s]
      repeat (first | with_reducible refine ok_gd (by first | omega | decide) ?_ | with_reducible refine ok_bs ?_ | with_reducible refine ok_be (sX6_vanWith hr) ?_ | with_reducible refine ok_be (sX12_refuse _ _) ?_ | with_reducible refine ok_be (sX12_told _ _) ?_ | with_reducible refine ok_ndt (sX11_needVan hv) (by omega) ?_ | with_reducible refine ok_ndf (sX11_needVan hv) (by omega) ?_ | with_reducible refine ok_ndt (sX11_needParcel hv) (by omega) ?_ | with_reducible refine ok_ndf (sX11_needParcel hv) (by omega) ?_ | with_reducible refine ok_ndt (sX11_needIndex _ _ _ _) (by omega) ?_ | with_reducible refine ok_ndf (sX11_needIndex _ _ _ _) (by omega) ?_ | with_reducible refine ok_ndt (sX11_needRange _ _ _ _) (by omega) ?_ | with_reducible refine ok_ndf (sX11_needRange _ _ _ _) (by omega) ?_ | with_reducible refine ok_ndt (sX11_needThat2 _ _) (by omega) ?_ | with_reducible refine ok_ndf (sX11_needThat2 _ _) (by omega) ?_ | with_reducible refine ok_ndt (sX11_needState2 _ _) (by omega) ?_ | with_reducible refine ok_ndf (sX11_needState2 _ _) (by omega) ?_ | with_reducible refine ok_ndt (sX11_needElement _ _) (by omega) ?_ | with_reducible refine ok_ndf (sX11_needElement _ _) (by omega) ?_ | with_reducible refine ok_ndt (sX11_needPlace _ _) (by omega) ?_ | with_reducible refine ok_ndf (sX11_needPlace _ _) (by omega) ?_ | with_reducible refine ok_ndt (sX11_needSender _ _) (by omega) ?_ | with_reducible refine ok_ndf (sX11_needSender _ _) (by omega) ?_ | with_reducible refine ok_b2t (sX12_isVan hm hv) (by omega) ?_ | with_reducible refine ok_b2f (sX12_isVan hm hv) (by omega) ?_ | with_reducible refine ok_b2t (sX12_isParcel hm hv) (by omega) ?_ | with_reducible refine ok_b2f (sX12_isParcel hm hv) (by omega) ?_ | with_reducible refine ok_b2t (sX12_in _ _ _ _) (by omega) ?_ | with_reducible refine ok_b2f (sX12_in _ _ _ _) (by omega) ?_ | with_reducible refine ok_b2t (sX12_isPlace _ _) (by omega) ?_ | with_reducible refine ok_b2f (sX12_isPlace _ _) (by omega) ?_ | with_reducible refine ok_pos (by omega) ?_ | with_reducible refine ok_neg (by omega) ?_ | with_reducible refine ok_tl ?_ | with_reducible refine ok_tr ?_ | dsimp only)
      rw [hvw]
      repeat (first | with_reducible refine ok_gd (by first | omega | decide) ?_ | with_reducible refine ok_bs ?_ | with_reducible refine ok_be (sX12_refuse _ _) ?_ | with_reducible refine ok_be (sX12_told _ _) ?_ | with_reducible refine ok_ndt (sX11_needVan hv) (by omega) ?_ | with_reducible refine ok_ndf (sX11_needVan hv) (by omega) ?_ | with_reducible refine ok_ndt (sX11_needParcel hv) (by omega) ?_ | with_reducible refine ok_ndf (sX11_needParcel hv) (by omega) ?_ | with_reducible refine ok_ndt (sX11_needIndex _ _ _ _) (by omega) ?_ | with_reducible refine ok_ndf (sX11_needIndex _ _ _ _) (by omega) ?_ | with_reducible refine ok_ndt (sX11_needRange _ _ _ _) (by omega) ?_ | with_reducible refine ok_ndf (sX11_needRange _ _ _ _) (by omega) ?_ | with_reducible refine ok_ndt (sX11_needThat2 _ _) (by omega) ?_ | with_reducible refine ok_ndf (sX11_needThat2 _ _) (by omega) ?_ | with_reducible refine ok_ndt (sX11_needState2 _ _) (by omega) ?_ | with_reducible refine ok_ndf (sX11_needState2 _ _) (by omega) ?_ | with_reducible refine ok_ndt (sX11_needElement _ _) (by omega) ?_ | with_reducible refine ok_ndf (sX11_needElement _ _) (by omega) ?_ | with_reducible refine ok_ndt (sX11_needPlace _ _) (by omega) ?_ | with_reducible refine ok_ndf (sX11_needPlace _ _) (by omega) ?_ | with_reducible refine ok_ndt (sX11_needSender _ _) (by omega) ?_ | with_reducible refine ok_ndf (sX11_needSender _ _) (by omega) ?_ | with_reducible refine ok_b2t (sX12_isVan hm hv) (by omega) ?_ | with_reducible refine ok_b2f (sX12_isVan hm hv) (by omega) ?_ | with_reducible refine ok_b2t (sX12_isParcel hm hv) (by omega) ?_ | with_reducible refine ok_b2f (sX12_isParcel hm hv) (by omega) ?_ | with_reducible refine ok_b2t (sX12_in _ _ _ _) (by omega) ?_ | with_reducible refine ok_b2f (sX12_in _ _ _ _) (by omega) ?_ | with_reducible refine ok_b2t (sX12_isPlace _ _) (by omega) ?_ | with_reducible refine ok_b2f (sX12_isPlace _ _) (by omega) ?_ | with_reducible refine ok_pos (by omega) ?_ | with_reducible refine ok_neg (by omega) ?_ | with_reducible refine ok_tl ?_ | with_reducible refine ok_tr ?_ | dsimp only)
      refine ok_bnd (sX6_without hr v0 v3 a9_69 (rw69 v0 v3).1 hp) (fun r q => ?_)
      obtain ⟨⟨q1, q2⟩, q3⟩ := q
      rw [hl] at q2
      have eA : ∀ c, c < 69 → r.2.1 c = h.1 c := fun c hc => fr_c q3 c (fun i s => by unfold sA at s; omega)
      have hVr : VAL r.2.1 := VAL_eq hv (fun c hc => eA c (by omega)) (by rw [eA 13 (by omega)]; exact ⟨rfl, rfl⟩)
      have hcr : costL r.2.1 v l = costL h.1 v l := costL_eq (eA 7 (by omega)) (by rw [eA 23 (by omega), eA 24 (by omega), eA 25 (by omega)]; exact ⟨rfl, rfl, rfl⟩) (fun p _ => by
        rw [eA 14 (by omega), eA 15 (by omega), eA 17 (by omega), eA 18 (by omega), eA 19 (by omega)]
        exact ⟨⟨rfl, rfl⟩, rfl, rfl, rfl⟩)
      rw [q1]
      refine ok_gd (by decide) ?_
      refine ok_be (sX2_costOf hVr a9_69 v0 (by rw [eA 13 (by omega)]; exact v1) (by omega) (by omega) (by rw [q2]; intro p hp; rw [eA 13 (by omega)]; exact hin p hp)) ?_
      rw [q2, hcr]
      refine ok_neg hcl ?_
      refine ok_mono (key q3 q2) (fun q hq => ?_)
      repeat (first | with_reducible refine ok_gd (by first | omega | decide) ?_ | with_reducible refine ok_bs ?_ | with_reducible refine ok_be (sX12_refuse _ _) ?_ | with_reducible refine ok_be (sX12_told _ _) ?_ | with_reducible refine ok_ndt (sX11_needVan hv) (by omega) ?_ | with_reducible refine ok_ndf (sX11_needVan hv) (by omega) ?_ | with_reducible refine ok_ndt (sX11_needParcel hv) (by omega) ?_ | with_reducible refine ok_ndf (sX11_needParcel hv) (by omega) ?_ | with_reducible refine ok_ndt (sX11_needIndex _ _ _ _) (by omega) ?_ | with_reducible refine ok_ndf (sX11_needIndex _ _ _ _) (by omega) ?_ | with_reducible refine ok_ndt (sX11_needRange _ _ _ _) (by omega) ?_ | with_reducible refine ok_ndf (sX11_needRange _ _ _ _) (by omega) ?_ | with_reducible refine ok_ndt (sX11_needThat2 _ _) (by omega) ?_ | with_reducible refine ok_ndf (sX11_needThat2 _ _) (by omega) ?_ | with_reducible refine ok_ndt (sX11_needState2 _ _) (by omega) ?_ | with_reducible refine ok_ndf (sX11_needState2 _ _) (by omega) ?_ | with_reducible refine ok_ndt (sX11_needElement _ _) (by omega) ?_ | with_reducible refine ok_ndf (sX11_needElement _ _) (by omega) ?_ | with_reducible refine ok_ndt (sX11_needPlace _ _) (by omega) ?_ | with_reducible refine ok_ndf (sX11_needPlace _ _) (by omega) ?_ | with_reducible refine ok_ndt (sX11_needSender _ _) (by omega) ?_ | with_reducible refine ok_ndf (sX11_needSender _ _) (by omega) ?_ | with_reducible refine ok_b2t (sX12_isVan hm hv) (by omega) ?_ | with_reducible refine ok_b2f (sX12_isVan hm hv) (by omega) ?_ | with_reducible refine ok_b2t (sX12_isParcel hm hv) (by omega) ?_ | with_reducible refine ok_b2f (sX12_isParcel hm hv) (by omega) ?_ | with_reducible refine ok_b2t (sX12_in _ _ _ _) (by omega) ?_ | with_reducible refine ok_b2f (sX12_in _ _ _ _) (by omega) ?_ | with_reducible refine ok_b2t (sX12_isPlace _ _) (by omega) ?_ | with_reducible refine ok_b2f (sX12_isPlace _ _) (by omega) ?_ | with_reducible refine ok_pos (by omega) ?_ | with_reducible refine ok_neg (by omega) ?_ | with_reducible refine ok_tl ?_ | with_reducible refine ok_tr ?_ | dsimp only)
      exact hq
  · repeat (first | with_reducible refine ok_gd (by first | omega | decide) ?_ | with_reducible refine ok_bs ?_ | with_reducible refine ok_be (sX6_vanWith hr) ?_ | with_reducible refine ok_be (sX12_refuse _ _) ?_ | with_reducible refine ok_be (sX12_told _ _) ?_ | with_reducible refine ok_ndt (sX11_needVan hv) (by omega) ?_ | with_reducible refine ok_ndf (sX11_needVan hv) (by omega) ?_ | with_reducible refine ok_ndt (sX11_needParcel hv) (by omega) ?_ | with_reducible refine ok_ndf (sX11_needParcel hv) (by omega) ?_ | with_reducible refine ok_ndt (sX11_needIndex _ _ _ _) (by omega) ?_ | with_reducible refine ok_ndf (sX11_needIndex _ _ _ _) (by omega) ?_ | with_reducible refine ok_ndt (sX11_needRange _ _ _ _) (by omega) ?_ | with_reducible refine ok_ndf (sX11_needRange _ _ _ _) (by omega) ?_ | with_reducible refine ok_ndt (sX11_needThat2 _ _) (by omega) ?_ | with_reducible refine ok_ndf (sX11_needThat2 _ _) (by omega) ?_ | with_reducible refine ok_ndt (sX11_needState2 _ _) (by omega) ?_ | with_reducible refine ok_ndf (sX11_needState2 _ _) (by omega) ?_ | with_reducible refine ok_ndt (sX11_needElement _ _) (by omega) ?_ | with_reducible refine ok_ndf (sX11_needElement _ _) (by omega) ?_ | with_reducible refine ok_ndt (sX11_needPlace _ _) (by omega) ?_ | with_reducible refine ok_ndf (sX11_needPlace _ _) (by omega) ?_ | with_reducible refine ok_ndt (sX11_needSender _ _) (by omega) ?_ | with_reducible refine ok_ndf (sX11_needSender _ _) (by omega) ?_ | with_reducible refine ok_b2t (sX12_isVan hm hv) (by omega) ?_ | with_reducible refine ok_b2f (sX12_isVan hm hv) (by omega) ?_ | with_reducible refine ok_b2t (sX12_isParcel hm hv) (by omega) ?_ | with_reducible refine ok_b2f (sX12_isParcel hm hv) (by omega) ?_ | with_reducible refine ok_b2t (sX12_in _ _ _ _) (by omega) ?_ | with_reducible refine ok_b2f (sX12_in _ _ _ _) (by omega) ?_ | with_reducible refine ok_b2t (sX12_isPlace _ _) (by omega) ?_ | with_reducible refine ok_b2f (sX12_isPlace _ _) (by omega) ?_ | with_reducible refine ok_pos (by omega) ?_ | with_reducible refine ok_neg (by omega) ?_ | with_reducible refine ok_tl ?_ | with_reducible refine ok_tr ?_ | dsimp only)
    refine ok_some ?_
    repeat (first | with_reducible refine ok_gd (by first | omega | decide) ?_ | with_reducible refine ok_bs ?_ | with_reducible refine ok_be (sX12_refuse _ _) ?_ | with_reducible refine ok_be (sX12_told _ _) ?_ | with_reducible refine ok_ndt (sX11_needVan hv) (by omega) ?_ | with_reducible refine ok_ndf (sX11_needVan hv) (by omega) ?_ | with_reducible refine ok_ndt (sX11_needParcel hv) (by omega) ?_ | with_reducible refine ok_ndf (sX11_needParcel hv) (by omega) ?_ | with_reducible refine ok_ndt (sX11_needIndex _ _ _ _) (by omega) ?_ | with_reducible refine ok_ndf (sX11_needIndex _ _ _ _) (by omega) ?_ | with_reducible refine ok_ndt (sX11_needRange _ _ _ _) (by omega) ?_ | with_reducible refine ok_ndf (sX11_needRange _ _ _ _) (by omega) ?_ | with_reducible refine ok_ndt (sX11_needThat2 _ _) (by omega) ?_ | with_reducible refine ok_ndf (sX11_needThat2 _ _) (by omega) ?_ | with_reducible refine ok_ndt (sX11_needState2 _ _) (by omega) ?_ | with_reducible refine ok_ndf (sX11_needState2 _ _) (by omega) ?_ | with_reducible refine ok_ndt (sX11_needElement _ _) (by omega) ?_ | with_reducible refine ok_ndf (sX11_needElement _ _) (by omega) ?_ | with_reducible refine ok_ndt (sX11_needPlace _ _) (by omega) ?_ | with_reducible refine ok_ndf (sX11_needPlace _ _) (by omega) ?_ | with_reducible refine ok_ndt (sX11_needSender _ _) (by omega) ?_ | with_reducible refine ok_ndf (sX11_needSender _ _) (by omega) ?_ | with_reducible refine ok_b2t (sX12_isVan hm hv) (by omega) ?_ | with_reducible refine ok_b2f (sX12_isVan hm hv) (by omega) ?_ | with_reducible refine ok_b2t (sX12_isParcel hm hv) (by omega) ?_ | with_reducible refine ok_b2f (sX12_isParcel hm hv) (by omega) ?_ | with_reducible refine ok_b2t (sX12_in _ _ _ _) (by omega) ?_ | with_reducible refine ok_b2f (sX12_in _ _ _ _) (by omega) ?_ | with_reducible refine ok_b2t (sX12_isPlace _ _) (by omega) ?_ | with_reducible refine ok_b2f (sX12_isPlace _ _) (by omega) ?_ | with_reducible refine ok_pos (by omega) ?_ | with_reducible refine ok_neg (by omega) ?_ | with_reducible refine ok_tl ?_ | with_reducible refine ok_tr ?_ | dsimp only)
    exact both_thr i0 (by decide) rfl
end DRM
