/-! ORDERS looked through: the search -/
section DFSM
variable {H : HH} {K : Nat → Int → Int} {v n : Int} {P : Int × HH → Prop}
def gpP (K : Nat → Int → Int) (v n : Int) (r : Nat) (p : List Int) : Prop := (p.length : Int) + (r + 1) = n ∧ p.Nodup ∧ (∀ x ∈ p, 0 ≤ x ∧ x < n) ∧ vE K v p ≠ -1 ∧ cuT n p (-1) = r + 1
def LV (K : Nat → Int → Int) (v n : Int) (H : HH) (P : Int × HH → Prop) (r : Nat) (p : List Int) (c : Nat) : Prop := gpP K v n r p → ∀ (N : Nat) (q E U d : Int) (s : Option (List Int)) (m : HH), d = p.length → cuT n p q = c → (-1 ≤ q ∧ q < n) → q ∉ p → (0 ≤ U ∧ U < 512) → (∀ j, 0 ≤ j → j < 9 → (bt U j = true → j ∈ p ∨ j = q) ∧ (j ∈ p → bt U j = true)) → Fr sDF H m → rowL (m.1 112) 0 p.length = p → (m.1 112 d = q ∧ m.1 113 d = vE K v p) → bsM K n m s → bsS K v n (exq p q) E s → c * (1 + TT r) + 1 ≤ N → (∀ (N' : Nat) (E' U' : Int) (s' : Option (List Int)) (m' : HH), N ≤ N' + c * (1 + TT r) + 1 → Fr sDF H m' → usP p U' → rowL (m'.1 112) 0 p.length = p → (∀ j, 0 ≤ j → j < d → m'.1 113 j = m.1 113 j) → bsM K n m' s' → bsS K v n (exq p (n - 1)) E' s' → Ok (nX12_exactOf_96 N' v n E' U' (d + (-1)) m') P) → Ok (nX12_exactOf_96 N v n E U d m) P
theorem row112 {m : HH} {p : List Int} {x y : Int} (h : rowL (m.1 112) 0 p.length = p) (hx : (p.length : Int) ≤ x) : rowL ((hI m 112 x y).1 112) 0 p.length = p := by
  rw [rI_s, rowL_upd (Or.inr (by omega))]
  exact h
theorem dfs_body (D : DH K v n H) {r c : Nat} {p : List Int} (ihr : ∀ r', r = r' + 1 → ∀ k c', LV K v n H P r' (p ++ [k]) c') (rec : ∀ c', c = c' + 1 → LV K v n H P r p c') : LV K v n H P r p c := by
  intro hg N q E U d s m hd hcu hq hqp hU hUb f hrow hpick hbm hbs hN hk
  obtain ⟨⟨hv, hm⟩, hc, ⟨n1, v0, v1⟩, ho, hroom⟩ := D
  obtain ⟨g1, g2, g3, g4, g5⟩ := hg
  have hvv := v_v hv v0 v1
  have hvn := v_n hv
  have hc9 := hc.1
  have hall := allS_b hc.1
  obtain ⟨M, rfl⟩ : ∃ M, N = M + 1 := ⟨N - 1, by omega⟩
  have hpin : inR K (p.map (K 50)) := fun x hx => by
    obtain ⟨i, h1, h2⟩ := List.mem_map.mp hx
    rw [← h2]
    exact hc.2 i (g3 i h1).1 (g3 i h1).2
  have hvp := (vE_b hv (by omega) hpin).resolve_left g4
  have hpe := pE_b hv hpin
  have mR : ∀ c, c ≠ 112 → c ≠ 113 → c ≠ 106 → c ≠ 71 → m.1 c = H.1 c := fun c h1 h2 h3 h4 => fr_c f c (fun i s => by dsimp only [sDF] at s; omega)
  -- behind the clearing
  have go : ∀ U', usP p U' → Ok (nX12_exactOf_144 (nX12_exactOf_96 M) 100000 v n E U' d (q + 1) m) P := fun U' hU' => by
    refine m_144 hc.1 hU' (fun k k0 k1 kj kn => ?_) hq.1 (n - (q + 1)).toNat 100000 (q + 1) (by omega) (by omega) (by omega) (fun j j0 j1 => by omega)
    -- orders that were not there
    have skip : ∀ l, ofS (allS n) l → (exq p q l ↔ exq p (k - 1) l) := fun l hl => by
      constructor
      · intro h
        exact (exq_k (show q ≤ k - 1 by omega)).mpr (Or.inl h)
      · intro h
        rcases (exq_k (show q ≤ k - 1 by omega)).mp h with w | ⟨j, t, w1, w2⟩
        · exact w
        · exfalso
          have jp := kj j w1.1 (by omega)
          have nd := hl.1
          rw [w2, List.nodup_append] at nd
          exact nd.2.2 j jp j List.mem_cons_self rfl
    have hbs' := bsS_cg skip hbs
    have f1 : Fr sDF H (hI m 112 d k) := fr_I f (Or.inl rfl)
    have hrow1 : rowL ((hI m 112 d k).1 112) 0 p.length = p := row112 hrow (by omega)
    have hbm1 : bsM K n (hI m 112 d k) s := bsM_fr (S := fun c _ => c = 112) (fr_I fr_r rfl) (fun c i s => by omega) hbm
    have e113 : (hI m 112 d k).1 113 = m.1 113 := rI_n (by decide)
    have e107 : (hI m 112 d k).1 107 = H.1 107 := by rw [rI_n (by decide)]; exact mR 107 (by decide) (by decide) (by decide) (by decide)
    simp only [nX12_exactOf_167, bX12_exactOf_167]
    refine ok_gd (by omega) ?_
    refine ok_bs ?_
    by_cases ck : k = n
    · refine ok_pos ck ?_
      refine ok_gd (by omega) ?_
      rw [ck] at hbs'
      exact hk M E U' s _ (by omega) f1 hU' hrow1 (fun j j0 j1 => by rw [e113]) hbm1 hbs'
    · have kp := kn.resolve_left ck
      have hkn : 0 ≤ k ∧ k < n := by omega
      have hst := cuT_step (n := n) (p := p) (q := q) (k := k) ⟨hq.1, k0⟩ hkn.2 kp kj
      have hcb := cuT_b (n := n) p k
      obtain ⟨c', rfl⟩ : ∃ c', c = c' + 1 := ⟨c - 1, by omega⟩
      have hX : (c' + 1) * (1 + TT r) = c' * (1 + TT r) + (1 + TT r) := Nat.succ_mul _ _
      rw [hX] at hN hk
      have hck := hc.2 k hkn.1 hkn.2
      have hpk := v_p hv hck.1 hck.2
      have hdk := v_D hv hpe.1 hpe.2 (b := K 14 (K 50 k)) (by omega) (by omega)
      have hsn := vE_snoc hv (by omega) (v := v) (l := p) (i := k) hpin
      have hRM : RM K (hI m 112 d k) := RM_fr hm f1 (fun c i s => by dsimp only [sDF] at s; unfold rmP; omega)
      have hrp := rm_p hRM hck.1 hck.2
      have ek107 : (hI m 112 d k).1 107 k = K 50 k := by rw [e107]; exact ho k hkn.1 hkn.2
      have hGc := gr_c (dK K (pE K p) (K 14 (K 50 k)))
      -- going on at this place
      have nxt : ∀ (N2 : Nat) (E2 U2 : Int) (s2 : Option (List Int)) (m2 : HH), M ≤ N2 + TT r → Fr sDF H m2 → (0 ≤ U2 ∧ U2 < 512) → (∀ j, 0 ≤ j → j < 9 → (bt U2 j = true → j ∈ p ∨ j = k) ∧ (j ∈ p → bt U2 j = true)) → rowL (m2.1 112) 0 p.length = p → m2.1 112 d = k → (∀ j, 0 ≤ j → j ≤ d → m2.1 113 j = m.1 113 j) → bsM K n m2 s2 → bsS K v n (exq p k) E2 s2 → Ok (nX12_exactOf_96 N2 v n E2 U2 d m2) P := fun N2 E2 U2 s2 m2 h1 h2 h3 h4 h5 h6 h7 h8 h9 => by
        refine rec c' rfl ⟨g1, g2, g3, g4, g5⟩ N2 k E2 U2 d s2 m2 hd (by omega) (by omega) kp h3 h4 h2 h5 ⟨h6, by rw [h7 d (by omega) (Int.le_refl _)]; exact hpick.2⟩ h8 h9 (by omega) (fun N3 E3 U3 s3 m3 w1 w2 w3 w4 w5 w6 w7 => ?_)
        exact hk N3 E3 U3 s3 m3 (by omega) w2 w3 w4 (fun j j0 j1 => by rw [w5 j j0 j1, h7 j j0 (by omega)]) w6 w7
      have usk : ∀ j, 0 ≤ j → j < 9 → (bt U' j = true → j ∈ p ∨ j = k) ∧ (j ∈ p → bt U' j = true) := fun j j0 j1 => ⟨fun w => Or.inl ((hU'.2 j j0 j1).mp w), fun w => (hU'.2 j j0 j1).mpr w⟩
      -- a row that can't be less
      have prune : ((vE K v (p ++ [k]) = -1) ∨ E ≤ vE K v (p ++ [k])) → Ok (nX12_exactOf_96 M v n E U' d (hI m 112 d k)) P := fun hpr => by
        refine nxt M E U' s _ (by omega) f1 hU'.1 usk hrow1 (by rw [rI_s, updI_s]) (fun j j0 j1 => by rw [e113]) hbm1 (bsS_skip hc hv (by omega) (fun l t hl e => ?_) hbs')
        have hin := ofS_in hc ⟨hall.1, Int.le_refl _⟩ hl
        rw [e] at hin ⊢
        rcases ext_c hv (v := v) (by omega) hin with w | w
        · exact Or.inl w
        · rcases hpr with z | z
          · exact absurd z w.1
          · exact Or.inr (by omega)
      have at226 : Ok (nX12_exactOf_226 (nX12_exactOf_96 M) v n E U' d k (K 50 k) (pE K p) (hI m 112 d k)) P := by
        simp only [nX12_exactOf_226, bX12_exactOf_226]
        refine ok_gd (by omega) ?_
        rw [hrp.1.1]
        refine ok_be (sX12_d hRM hpe.1 hpe.2 (by omega) (by omega)) ?_
        rw [e113, hpick.2]
        refine ok_gd (by omega) ?_
        refine ok_gd (by omega) ?_
        refine ok_gd (by omega) ?_
        rw [hrp.1.2.2.2]
        refine ok_be sX12_more ?_
        refine ok_gd (by omega) ?_
        rw [hrp.2.2.1]
        refine ok_gd (by omega) ?_
        by_cases c1 : dK K (pE K p) (K 14 (K 50 k)) = -1
        · have hs1 : srv K (K 50 k) (pE K p) (vE K v p) = -1 := by unfold srv; rw [if_pos c1]
          rw [if_neg g4, if_pos hs1] at hsn
          refine ok_pos (by omega) ?_
          exact prune (Or.inl hsn)
        · have eg : gr (dK K (pE K p) (K 14 (K 50 k))) = dK K (pE K p) (K 14 (K 50 k)) := by omega
          rw [eg]
          refine ok_neg (by omega) ?_
          refine ok_gd (by omega) ?_
          rw [hrp.2.1]
          by_cases c2 : K 18 (K 50 k) < max (vE K v p + dK K (pE K p) (K 14 (K 50 k))) (K 17 (K 50 k))
          · have hs1 : srv K (K 50 k) (pE K p) (vE K v p) = -1 := by unfold srv; rw [if_neg c1, if_pos c2]
            rw [if_neg g4, if_pos hs1] at hsn
            refine ok_pos c2 ?_
            exact prune (Or.inl hsn)
          · have hs1 : srv K (K 50 k) (pE K p) (vE K v p) = max (vE K v p + dK K (pE K p) (K 14 (K 50 k))) (K 17 (K 50 k)) := by unfold srv; rw [if_neg c1, if_neg c2]
            have hsn1 : vE K v (p ++ [k]) = max (vE K v p + dK K (pE K p) (K 14 (K 50 k))) (K 17 (K 50 k)) + K 19 (K 50 k) := by
              rw [if_neg g4, hs1, if_neg (by omega)] at hsn
              exact hsn
            refine ok_neg c2 ?_
            rw [← hsn1]
            have hEb := bsS_E hbs'
            by_cases c3 : vE K v (p ++ [k]) < E
            · refine ok_pos c3 ?_
              have hpe2 : pE K (p ++ [k]) = K 14 (K 50 k) := pE_snoc
              have hnd : (p ++ [k]).Nodup := by
                rw [List.nodup_append]
                refine ⟨g2, List.nodup_cons.mpr ⟨List.not_mem_nil, List.nodup_nil⟩, fun a ha b hb => ?_⟩
                rw [List.mem_singleton.mp hb]
                exact fun z => kp (z ▸ ha)
              have hmem : ∀ x ∈ p ++ [k], 0 ≤ x ∧ x < n := fun x hx => by
                rcases List.mem_append.mp hx with z | z
                · exact g3 x z
                · rw [List.mem_singleton.mp z]; exact hkn
              have hlen : (((p ++ [k]).length : Nat) : Int) = (p.length : Int) + 1 := by
                rw [List.length_append]; rfl
              have hlenN : (p ++ [k]).length = p.length + 1 := by rw [List.length_append]; rfl
              have hdn := cuT_down (n := n) (p := p) hkn kp
              simp only [nX12_exactOf_301, bX12_exactOf_301, nX12_exactOf_417, bX12_exactOf_417]
              refine ok_gd (by omega) ?_
              by_cases cr : d + 1 < n
              · -- deeper
                refine ok_pos cr ?_
                refine ok_gd (by omega) ?_
                refine ok_gd (by omega) ?_
                refine ok_bs ?_
                refine ok_gd (by omega) ?_
                refine ok_bs ?_
                obtain ⟨r', rfl⟩ : ∃ r', r = r' + 1 := ⟨r - 1, by omega⟩
                obtain ⟨b1, b2⟩ := bt_or (S := U') (q := k) hU'.1 (by omega)
                have hTT : TT (r' + 1) = 1 + (r' + 1) * (1 + TT r') := rfl
                have rowk : rowL ((hI (hI (hI m 112 d k) 112 (d + 1) (-1)) 113 (d + 1) (vE K v (p ++ [k]))).1 112) 0 (p ++ [k]).length = p ++ [k] := by
                  rw [rI_n (by decide), hlenN, rowL_snoc, rI_s, rowL_upd (Or.inr (by omega)), hrow1, show (0 : Int) + (p.length : Int) = d by omega, updI_n (by omega), rI_s, updI_s]
                refine ihr r' rfl k (r' + 1) ⟨by omega, hnd, hmem, by rw [hsn1]; omega, by omega⟩ M (-1) E (orI U' (shlI 1 k)) (d + 1) s _ (by omega) (by omega) (by omega) (fun z => by have := hmem _ z; omega) b1 (fun j j0 j1 => ⟨fun w => Or.inl ?_, fun w => ?_⟩) (fr_I (fr_I f1 (Or.inl rfl)) (Or.inr (Or.inl rfl))) rowk ⟨by rw [rI_n (by decide), rI_s, updI_s], by rw [rI_s, updI_s]⟩ (bsM_fr (S := fun c _ => c = 112 ∨ c = 113) (fr_I (fr_I fr_r (Or.inl rfl)) (Or.inr rfl)) (fun c i s => by omega) hbm1) (bsS_cg (fun l hl => (exq_dn (fun x hx => (all_m hc.1 hl hx).1)).symm) hbs') (by omega) (fun N2 E2 U2 s2 m2 w1 w2 w3 w4 w5 w6 w7 => ?_)
                · rcases (b2 j j0 j1).mp w with z | z
                  · exact List.mem_append_left _ ((hU'.2 j j0 j1).mp z)
                  · rw [z]; exact List.mem_append_right _ List.mem_cons_self
                · rcases List.mem_append.mp w with z | z
                  · exact (b2 j j0 j1).mpr (Or.inl ((hU'.2 j j0 j1).mpr z))
                  · exact (b2 j j0 j1).mpr (Or.inr (List.mem_singleton.mp z))
                · rw [show d + 1 + -1 = d by omega]
                  have w4' := w4
                  rw [hlenN, rowL_snoc] at w4'
                  have w4a := List.append_inj w4' (by rw [rowL_len])
                  refine nxt N2 E2 U2 s2 m2 (by omega) w2 w3.1 (fun j j0 j1 => ⟨fun w => ?_, fun w => ?_⟩) w4a.1 ?_ (fun j j0 j1 => ?_) w6 (bsS_cg (fun l hl => exq_up (fun x hx => (all_m hc.1 hl hx).2) (by rw [all_len hc.1 hl]; omega)) w7)
                  · rcases List.mem_append.mp ((w3.2 j j0 j1).mp w) with z | z
                    · exact Or.inl z
                    · exact Or.inr (List.mem_singleton.mp z)
                  · exact (w3.2 j j0 j1).mpr (List.mem_append_left _ w)
                  · have z := (List.cons.inj w4a.2).1
                    rw [show d = 0 + (p.length : Int) by omega]
                    exact z
                  · rw [w5 j j0 (by omega), rI_s, updI_n (by omega), rI_n (by decide), e113]
              · -- a whole order
                refine ok_neg cr ?_
                refine ok_gd (by omega) ?_
                have hdh := v_D hv (a := K 14 (K 50 k)) (b := 0) (by omega) (by omega) (by omega) (by omega)
                have hGh := gr_c (dK K (K 14 (K 50 k)) 0)
                have ed := sX12_d hRM (a := K 14 (K 50 k)) (b := 0) (by omega) (by omega) (by omega) (by omega)
                rw [hrp.1.1]
                refine ok_be ed ?_
                have hc0 : cuT n (p ++ [k]) (-1) = 0 := by omega
                have hof : ofS (allS n) (p ++ [k]) := ⟨hnd, fun j => ⟨fun w => by
                  have z := hmem j w
                  exact ⟨by omega, (allS_bt hc.1 (by omega)).mpr z.2⟩, fun w => by
                  have jn := (allS_bt hc.1 w.1).mp w.2
                  by_cases z : j ∈ p ++ [k]
                  · exact z
                  · exfalso
                    have ge := sumS_ge (g := fun j => if -1 < j ∧ j ∉ p ++ [k] then 1 else 0) (k := j.toNat) (n := n.toNat) (fun i _ => by
                      show 0 ≤ (if -1 < (i : Int) ∧ (i : Int) ∉ p ++ [k] then (1 : Int) else 0)
                      split <;> omega) (by omega)
                    have ge2 : (if -1 < ((j.toNat : Nat) : Int) ∧ ((j.toNat : Nat) : Int) ∉ p ++ [k] then (1 : Int) else 0) ≤ cuT n (p ++ [k]) (-1) := ge
                    rw [show ((j.toNat : Nat) : Int) = j by omega, if_pos ⟨by omega, z⟩] at ge2
                    omega⟩⟩
                have hin2 := ofS_in hc ⟨hall.1, Int.le_refl _⟩ hof
                have hcE := cE_v hv (v := v) (by omega) hin2
                rw [hpe2] at hcE
                have hroom1 := hroom _ hof
                have only : ∀ l t, ofS (allS n) l → l = p ++ k :: t → l = p ++ [k] := fun l t hl e => by
                  have h1 := all_len hc.1 hl
                  have h2 := all_len hc.1 hof
                  rw [e] at h1 ⊢
                  simp only [List.length_append, List.length_cons, List.length_nil] at h1 h2
                  cases t with
                  | nil => rfl
                  | cons y u => simp only [List.length_cons] at h1; omega
                refine ok_gd (by omega) ?_
                by_cases c4 : vE K v (p ++ [k]) + gr (dK K (K 14 (K 50 k)) 0) < E
                · have eg2 : gr (dK K (K 14 (K 50 k)) 0) = dK K (K 14 (K 50 k)) 0 ∧ dK K (K 14 (K 50 k)) 0 ≠ -1 := by omega
                  rw [eg2.1] at c4 ed ⊢
                  refine ok_pos c4 ?_
                  refine ok_gd (by omega) ?_
                  refine ok_be ed ?_
                  refine ok_gd (by omega) ?_
                  refine ok_bs ?_
                  have hcE2 : cE K v (p ++ [k]) = vE K v (p ++ [k]) + dK K (K 14 (K 50 k)) 0 - K 24 v := by
                    rw [hcE, if_neg]
                    rintro (z | z | z | z)
                    · omega
                    · exact eg2.2 z
                    · omega
                    · exact hroom1 z
                  have hrowk : rowL ((hI (hI m 112 d k) 71 52 n).1 112) 0 n.toNat = p ++ [k] := by
                    rw [rI_n (by decide), show n.toNat = p.length + 1 by omega, rowL_snoc, hrow1, show (0 : Int) + (p.length : Int) = d by omega, rI_s, updI_s]
                  have f2 : Fr sDF H (hI (hI m 112 d k) 71 52 n) := fr_I f1 (by dsimp only [sDF]; omega)
                  refine m_386 (K := K) (b := p ++ [k]) hc.1 hrowk hmem (fun j j0 j1 => by rw [rI_n (by decide), e107]; exact ho j j0 j1) (fun j j0 j1 => by have := hc.2 j j0 j1; omega) (fun g' fg hg' => ?_) n.toNat 100000 0 _ (by omega) (by omega) (by omega) fr_r (fun j j0 j1 => by omega)
                  simp only [nX12_exactOf_417, bX12_exactOf_417]
                  refine nxt M _ U' (some (p ++ [k])) g' (by omega) (fr_t f2 (fr_m (fun c i s => Or.inr (Or.inr (Or.inl s))) fg)) hU'.1 usk ?_ ?_ (fun j j0 j1 => ?_) ⟨?_, hg'⟩ (bsS_take hc hof (by rw [hcE2]; omega) (by rw [hcE2]; omega) c4 (by omega) hbs')
                  · rw [fr_c fg 112 (fun i s => by omega), rI_n (by decide)]; exact hrow1
                  · rw [fr_c fg 112 (fun i s => by omega), rI_n (by decide), rI_s, updI_s]
                  · rw [fr_c fg 113 (fun i s => by omega), rI_n (by decide), e113]
                  · rw [fg.2 71 52 (by omega), rI_s, updI_s]
                · refine ok_neg c4 ?_
                  refine nxt M E U' s _ (by omega) f1 hU'.1 usk hrow1 (by rw [rI_s, updI_s]) (fun j j0 j1 => by rw [e113]) hbm1 (bsS_skip hc hv (by omega) (fun l t hl e => ?_) hbs')
                  rw [only l t hl e, hcE]
                  by_cases z : vE K v (p ++ [k]) = -1 ∨ dK K (K 14 (K 50 k)) 0 = -1 ∨ K 25 v < vE K v (p ++ [k]) + dK K (K 14 (K 50 k)) 0 ∨ K 23 v < sumL (K 15) ((p ++ [k]).map (K 50))
                  · rw [if_pos z]; exact Or.inl rfl
                  · rw [if_neg z]
                    have z2 : dK K (K 14 (K 50 k)) 0 ≠ -1 := fun w => z (Or.inr (Or.inl w))
                    exact Or.inr (by omega)
            · refine ok_neg c3 ?_
              exact prune (Or.inr (by omega))
      refine ok_neg ck ?_
      refine ok_gd (by omega) ?_
      rw [ek107]
      by_cases c0 : d = 0
      · refine ok_pos c0 ?_
        have hp0 : p = [] := List.eq_nil_of_length_eq_zero (by omega)
        have e0 : pE K p = 0 := by rw [hp0]; rfl
        rw [e0] at at226
        exact at226
      · refine ok_neg c0 ?_
        refine ok_gd (by omega) ?_
        refine ok_gd (by omega) ?_
        rcases List.eq_nil_or_concat p with z | ⟨p', x, z⟩
        · rw [z] at hd; exact absurd hd c0
        · rw [List.concat_eq_append] at z
          have hlx : p.length = p'.length + 1 := by rw [z, List.length_append]; rfl
          have hr2 := hrow1
          rw [hlx, rowL_snoc, z] at hr2
          have e112 : (hI m 112 d k).1 112 (d - 1) = x := by
            have w := (List.cons.inj (List.append_inj hr2 (by rw [rowL_len])).2).1
            rw [show d - 1 = 0 + (p'.length : Int) by omega]
            exact w
          have hx := g3 x (by rw [z]; exact List.mem_append_right _ List.mem_cons_self)
          have hcx := hc.2 x hx.1 hx.2
          rw [e112]
          refine ok_gd (by omega) ?_
          have ex107 : (hI m 112 d k).1 107 x = K 50 x := by rw [e107]; exact ho x hx.1 hx.2
          rw [ex107]
          refine ok_gd (by omega) ?_
          have e81 : (hI m 112 d k).1 81 (K 50 x) = pE K p := by
            rw [(rm_p hRM hcx.1 hcx.2).1.1, z, pE_snoc]
          rw [e81]
          exact at226
  rw [nX12_exactOf_96_s]
  simp only [bX12_exactOf_96, nX12_exactOf_130, bX12_exactOf_130]
  refine ok_neg (by omega) ?_
  refine ok_gd (by omega) ?_
  rw [hpick.1]
  by_cases cq : q = -1
  · refine ok_pos cq ?_
    refine ok_gd (by omega) ?_
    refine ok_gd (by omega) ?_
    rw [bt_self hU]
    refine go U ⟨hU, fun j j0 j1 => ⟨fun w => ?_, fun w => (hUb j j0 j1).2 w⟩⟩
    rcases (hUb j j0 j1).1 w with z | z
    · exact z
    · omega
  · refine ok_neg cq ?_
    refine ok_gd (by omega) ?_
    refine ok_gd (by omega) ?_
    refine ok_gd (by omega) ?_
    obtain ⟨b1, b2⟩ := bt_clr (S := U) (q := q) hU (by omega)
    refine go _ ⟨b1, fun j j0 j1 => ⟨fun w => ?_, fun w => ?_⟩⟩
    · obtain ⟨z1, z2⟩ := (b2 j j0 j1).mp w
      exact ((hUb j j0 j1).1 z1).resolve_right z2
    · exact (b2 j j0 j1).mpr ⟨(hUb j j0 j1).2 w, fun z => hqp (z ▸ w)⟩
theorem dfs_lv (D : DH K v n H) : ∀ (r c : Nat) (p : List Int), LV K v n H P r p c := by
  intro r
  induction r with
  | zero =>
    intro c
    induction c with
    | zero => exact fun p => dfs_body D (fun r' e => absurd e (by omega)) (fun c' e => absurd e (by omega))
    | succ c ihc => exact fun p => dfs_body D (fun r' e => absurd e (by omega)) (fun c' e => by cases e; exact ihc p)
  | succ r ihr =>
    intro c
    induction c with
    | zero => exact fun p => dfs_body D (fun r' e k c' => by cases e; exact ihr c' _) (fun c' e => absurd e (by omega))
    | succ c ihc => exact fun p => dfs_body D (fun r' e k c' => by cases e; exact ihr c' _) (fun c' e => by cases e; exact ihc p)
/-- what the model finds -/
def bxP (K : Nat → Int → Int) (v n : Int) (r : Int × HH) : Prop := csP K v (allS n) r.1 ∧ (r.1 = -1 → r.2.1 71 52 = 0) ∧ (r.1 ≠ -1 → ∃ b, ofS (allS n) b ∧ cE K v b = r.1 ∧ (r.2.1 71 52 = n ∧ mbest r.2 n = b.map (K 50)) ∧ ∀ l, ofS (allS n) l → cE K v l = r.1 → lx l b = false)
theorem TT_b : ∀ i : Fin 10, TT i.val < 10000000 := by decide
theorem m_exactOf {m : HH} (hv : VAL K) (hm : RM K m) (hc : CH K n) (v0 : 0 ≤ v) (v1 : v < K 13 14) (ho : ∀ k, 0 ≤ k → k < n → m.1 107 k = K 50 k) : Ok (nX12_exactOf v n m) (fun r => Fr sDF m r.2 ∧ bxP K v n r) := by
  have hvv := v_v hv v0 v1
  have hvn := v_n hv
  have hc9 := hc.1
  have hall := allS_b hc.1
  have f0 : Fr sDF m (hI m 71 52 0) := fr_I fr_r (by dsimp only [sDF]; omega)
  have hm0 : RM K (hI m 71 52 0) := RM_fr hm f0 (fun c i s => by dsimp only [sDF] at s; unfold rmP; omega)
  have hv0 := rm_v hm0 v0 v1
  have e107 : (hI m 71 52 0).1 107 = m.1 107 := rI_n (by decide)
  have e52 : (hI m 71 52 0).1 71 52 = 0 := by rw [rI_s, updI_s]
  have hsz : ∀ k : Nat, (k : Int) ≤ n → 0 ≤ sumL (K 15) ((canS (allS n) k).map (K 50)) ∧ sumL (K 15) ((canS (allS n) k).map (K 50)) ≤ 100 * k := fun k => by
    induction k with
    | zero => intro _; exact ⟨Int.le_refl _, Int.le_refl _⟩
    | succ k ih =>
      intro hk
      have := ih (by omega)
      have hck := hc.2 k (by omega) (by omega)
      have hpk := v_p hv hck.1 hck.2
      rw [canS]
      split
      · rw [List.map_append, sumL_app]
        show 0 ≤ _ + (K 15 (K 50 k) + 0) ∧ _ + (K 15 (K 50 k) + 0) ≤ _
        omega
      · omega
  have key : ∀ (r N k : Nat), r < N → (k : Int) + r = n → Ok (nX12_exactOf_10 N v n (sumL (K 15) ((canS (allS n) k).map (K 50))) k (hI m 71 52 0)) (fun r => Fr sDF m r.2 ∧ bxP K v n r) := by
    intro r
    induction r with
    | zero =>
      intro N k hN hk
      obtain ⟨M, rfl⟩ := fuel_s hN
      have ek : canS (allS n) k = canS (allS n) 9 := by
        have := canS_le (S := allS n) hc.1 ⟨hall.1, Int.le_refl _⟩
        rw [show n.toNat = k by omega] at this
        exact this
      have szl : ∀ l, ofS (allS n) l → sumL (K 15) (l.map (K 50)) = sumL (K 15) ((canS (allS n) k).map (K 50)) := fun l hl => by
        rw [ek]; exact sumL_perm (List.Perm.map _ (ofS_p hl canS_of))
      rw [nX12_exactOf_10_s]
      simp only [bX12_exactOf_10, nX12_exactOf_51, bX12_exactOf_51]
      refine ok_neg (by omega) ?_
      by_cases cn : n = 0
      · refine ok_pos cn ?_
        refine ok_pos cn ?_
        have h0 : ofS (allS n) [] := by
          rw [cn]
          exact (ofS_nil (by decide)).mpr (by decide)
        have e0 : cE K v [] = 0 := costL_nil hv v0 v1
        have only : ∀ l, ofS (allS n) l → l = [] := fun l hl => by
          have := all_len hc.1 hl
          exact List.eq_nil_of_length_eq_zero (by omega)
        refine ok_some ⟨f0, Or.inr ⟨show (0 : Int) ≠ -1 by decide, ⟨[], h0, e0⟩, fun l hl => by rw [only l hl, e0]; exact Or.inr (Int.le_refl _)⟩, fun q => absurd q (show ¬ (0 : Int) = -1 by decide), fun _ => ⟨[], h0, e0, ⟨by rw [cn]; exact e52, by rw [cn]; rfl⟩, fun l hl _ => by rw [only l hl]; rfl⟩⟩
      · refine ok_neg cn ?_
        refine ok_gd (by omega) ?_
        rw [hv0.1]
        by_cases cs : K 23 v < sumL (K 15) ((canS (allS n) k).map (K 50))
        · refine ok_pos cs ?_
          refine ok_neg cn ?_
          refine ok_some ⟨f0, Or.inl ⟨rfl, fun l hl => ?_⟩, fun _ => e52, fun q => absurd rfl q⟩
          have hin := ofS_in hc ⟨hall.1, Int.le_refl _⟩ hl
          rw [cE_v hv (by omega) hin, if_pos (Or.inr (Or.inr (Or.inr (by rw [szl l hl]; exact cs))))]
        · refine ok_neg cs ?_
          refine ok_gd (by omega) ?_
          rw [hv0.2.2]
          refine ok_gd (by omega) ?_
          refine ok_gd (by decide) ?_
          refine ok_bs ?_
          have e92 : (hI (hI m 71 52 0) 112 0 (-1)).1 92 v = K 24 v := by rw [rI_n (by decide)]; exact hv0.2.1
          rw [e92]
          refine ok_gd (by omega) ?_
          refine ok_gd (by decide) ?_
          refine ok_bs ?_
          have fS : Fr sDF m (hI (hI (hI m 71 52 0) 112 0 (-1)) 113 0 (K 24 v)) := fr_I (fr_I f0 (Or.inl rfl)) (Or.inr (Or.inl rfl))
          have D : DH K v n m := ⟨⟨hv, hm⟩, hc, ⟨by omega, v0, v1⟩, ho, fun l hl => by rw [szl l hl]; exact cs⟩
          obtain ⟨rr, hrr⟩ : ∃ rr : Nat, (rr : Int) + 1 = n := ⟨(n - 1).toNat, by omega⟩
          have hT := TT_b ⟨rr + 1, by omega⟩
          have hTT : TT (rr + 1) = 1 + (rr + 1) * (1 + TT rr) := rfl
          dsimp only at hT
          have hcu : ∀ m : Nat, sumS (fun j => if (-1 : Int) < j ∧ j ∉ ([] : List Int) then 1 else 0) m = m := fun m => by
            induction m with
            | zero => rfl
            | succ m ih =>
              rw [sumS, ih, if_pos ⟨by omega, List.not_mem_nil⟩]
              omega
          have hcu2 : cuT n [] (-1) = (rr : Int) + 1 := by
            have := hcu n.toNat
            unfold cuT
            rw [this]
            omega
          refine dfs_lv D rr (rr + 1) [] ⟨by simp only [List.length_nil]; omega, List.nodup_nil, fun x hx => absurd hx List.not_mem_nil, by show K 24 v ≠ -1; omega, hcu2⟩ 10000000 (-1) (K 25 v + 1) 0 0 none _ rfl (by rw [hcu2]; omega) (by omega) List.not_mem_nil (by omega) (fun j j0 j1 => ⟨fun w => (by rw [bt_z] at w; cases w), fun w => absurd w List.not_mem_nil⟩) fS rfl ⟨by rw [rI_n (by decide), rI_s, updI_s], by rw [rI_s, updI_s]; rfl⟩ (by show _ = _; rw [rI_n (by decide), rI_n (by decide)]; exact e52) ⟨rfl, fun l hl hd => ?_⟩ (by omega) (fun N' E' U' s' m' w1 w2 w3 w4 w5 w6 w7 => ?_)
          · obtain ⟨x, t, e, h⟩ := hd
            have := all_m hc.1 hl (i := x) (by rw [e]; exact List.mem_cons_self)
            omega
          · obtain ⟨N2, rfl⟩ : ∃ N2, N' = N2 + 1 := ⟨N' - 1, by omega⟩
            have hm' : RM K m' := RM_fr hm w2 (fun c i s => by dsimp only [sDF] at s; unfold rmP; omega)
            have hv' := rm_v hm' v0 v1
            have every : ∀ l, ofS (allS n) l → exq [] (n - 1) l := fun l hl => by
              cases l with
              | nil => have := all_len hc.1 hl; simp only [List.length_nil] at this; omega
              | cons x t => exact ⟨x, t, rfl, by have := all_m hc.1 hl (i := x) List.mem_cons_self; omega⟩
            rw [nX12_exactOf_96_s]
            simp only [bX12_exactOf_96]
            refine ok_pos (by omega) ?_
            cases s' with
            | none =>
              refine ok_pos w6 ?_
              exact ok_some ⟨w2, Or.inl ⟨rfl, fun l hl => w7.2 l hl (every l hl)⟩, fun _ => w6, fun q => absurd rfl q⟩
            | some b =>
              obtain ⟨u1, u2⟩ := w6
              obtain ⟨⟨b1, b2, b3, b4, b5⟩, b6⟩ := w7
              refine ok_neg (by omega) ?_
              refine ok_gd (by omega) ?_
              rw [hv'.2.1]
              have hcb := costL_b hv v0 v1 (ofS_in hc ⟨hall.1, Int.le_refl _⟩ b1)
              have hcb' : -1 ≤ cE K v b ∧ cE K v b ≤ 2000 := hcb
              refine ok_gd (by omega) ?_
              have eE : E' - K 24 v = cE K v b := by omega
              rw [eE]
              refine ok_some ⟨w2, Or.inr ⟨b3, ⟨b, b1, rfl⟩, fun l hl => ?_⟩, fun q => absurd q b3, fun _ => ⟨b, b1, rfl, ⟨u1, u2⟩, fun l hl he => ?_⟩⟩
              · rcases b6 l hl (every l hl) with z | z | z
                · exact Or.inl z
                · exact Or.inr (Int.le_of_lt z)
                · exact Or.inr (by omega)
              · have he' : cE K v l = cE K v b := he
                rcases b6 l hl (every l hl) with z | z | z
                · omega
                · omega
                · exact z.2
    | succ r ih =>
      intro N k hN hk
      obtain ⟨M, rfl⟩ := fuel_s hN
      have hck := hc.2 k (by omega) (by omega)
      have hpk := v_p hv hck.1 hck.2
      have hrp := rm_p hm0 hck.1 hck.2
      have hs0 := hsz k (by omega)
      have esz : sumL (K 15) ((canS (allS n) k).map (K 50)) + K 15 (K 50 k) = sumL (K 15) ((canS (allS n) (k + 1)).map (K 50)) := by
        rw [canS, if_pos ((allS_bt hc.1 (by omega)).mpr (by omega)), List.map_append, sumL_app]
        show _ = _ + (K 15 (K 50 k) + 0)
        omega
      rw [nX12_exactOf_10_s]
      simp only [bX12_exactOf_10]
      rw [e107, ho k (by omega) (by omega), hrp.1.2.1]
      refine ok_pos (by omega) ?_
      refine ok_gd (by omega) ?_
      refine ok_gd (by omega) ?_
      refine ok_gd (by omega) ?_
      refine ok_gd (by omega) ?_
      rw [esz, show (k : Int) + 1 = ((k + 1 : Nat) : Int) by omega]
      exact ih M (k + 1) (by omega) (by omega)
  unfold nX12_exactOf bX12_exactOf
  refine ok_bs ?_
  exact key n.toNat 100000 0 (by omega) (by omega)
end DFSM
