/-! BETTER: the model -/
section BETM
variable {h h' m : HH} {K : Nat → Int → Int} {l : List Int}
/-- the best row -/
def mbest (m : HH) (n : Int) : List Int := rowL (m.1 106) 0 n.toNat
abbrev sBs : Nat → Int → Prop := fun c i => c = 106 ∨ (c = 71 ∧ i = 52)
theorem sBs_sc {g : HH} (f : Fr sBs m g) : Fr scM m g := fr_m (fun c i s => by dsimp only [sBs] at s; unfold scM; omega) f
theorem sX12_isBest {n : Int} (hn : 0 ≤ n ∧ n ≤ 9) (e51 : m.1 71 51 = n) : Ok (nX12_isBest m) (fun g => Fr sBs m g ∧ g.1 71 52 = n ∧ mbest g n = mrow m) := by
  have key : ∀ (r N : Nat) (i : Int) (g : HH), r < N → i + r = n → 0 ≤ i → Fr sBs m g → g.1 71 52 = n → (∀ j, 0 ≤ j → j < i → g.1 106 j = m.1 105 j) → Ok (nX12_isBest_10 N i g) (fun g => Fr sBs m g ∧ g.1 71 52 = n ∧ mbest g n = mrow m) := by
    intro r
    induction r with
    | zero =>
      intro N i g hN hi h0 f e2 hj
      obtain ⟨M, rfl⟩ := fuel_s hN
      have e51' : g.1 71 51 = n := by rw [f.2 71 51 (by dsimp only [sBs]; omega)]; exact e51
      rw [nX12_isBest_10_s]
      simp only [bX12_isBest_10]
      refine ok_neg (by omega) ?_
      refine ok_some ⟨f, e2, ?_⟩
      unfold mbest mrow
      rw [e51]
      exact rowL_ext (fun j hj' => hj _ (by omega) (by omega))
    | succ r ih =>
      intro N i g hN hi h0 f e2 hj
      obtain ⟨M, rfl⟩ := fuel_s hN
      have e51' : g.1 71 51 = n := by rw [f.2 71 51 (by dsimp only [sBs]; omega)]; exact e51
      have e105 : g.1 105 = m.1 105 := fr_c f 105 (fun i s => by dsimp only [sBs] at s; omega)
      rw [nX12_isBest_10_s]
      simp only [bX12_isBest_10]
      refine ok_pos (by omega) ?_
      refine ok_gd (by omega) ?_
      refine ok_gd (by omega) ?_
      refine ok_bs ?_
      refine ok_gd (by omega) ?_
      refine ih M (i + 1) _ (by omega) (by omega) (by omega) (fr_I f (Or.inl rfl)) (by rw [rI_n (by decide)]; exact e2) (fun j j0 j1 => ?_)
      rw [rI_s, updI_at, e105]
      by_cases c : j = i
      · rw [if_pos c, c]
      · rw [if_neg c]; exact hj j j0 (by omega)
  unfold nX12_isBest bX12_isBest
  refine ok_bs ?_
  exact key n.toNat 100000 0 _ (by omega) (by omega) (by omega) (fr_I fr_r (Or.inr ⟨rfl, rfl⟩)) (by rw [rI_s, updI_s, e51]) (fun j j0 j1 => by omega)
theorem sX12_loadsBest {n : Int} (hn : 0 ≤ n ∧ n ≤ 9) (e52 : m.1 71 52 = n) : Ok (nX12_loadsBest m) (fun g => Fr sRow m g ∧ g.1 71 51 = n ∧ mrow g = mbest m n) := by
  have key : ∀ (r N : Nat) (i : Int) (g : HH), r < N → i + r = n → 0 ≤ i → Fr sRow m g → g.1 71 51 = n → (∀ j, 0 ≤ j → j < i → g.1 105 j = m.1 106 j) → Ok (nX12_loadsBest_10 N i g) (fun g => Fr sRow m g ∧ g.1 71 51 = n ∧ mrow g = mbest m n) := by
    intro r
    induction r with
    | zero =>
      intro N i g hN hi h0 f e2 hj
      obtain ⟨M, rfl⟩ := fuel_s hN
      rw [nX12_loadsBest_10_s]
      simp only [bX12_loadsBest_10]
      refine ok_neg (by omega) ?_
      refine ok_some ⟨f, e2, ?_⟩
      unfold mbest mrow
      rw [e2]
      exact rowL_ext (fun j hj' => hj _ (by omega) (by omega))
    | succ r ih =>
      intro N i g hN hi h0 f e2 hj
      obtain ⟨M, rfl⟩ := fuel_s hN
      have e106 : g.1 106 = m.1 106 := fr_c f 106 (fun i s => by unfold sRow at s; omega)
      rw [nX12_loadsBest_10_s]
      simp only [bX12_loadsBest_10]
      refine ok_pos (by omega) ?_
      refine ok_gd (by omega) ?_
      refine ok_gd (by omega) ?_
      refine ok_bs ?_
      refine ok_gd (by omega) ?_
      refine ih M (i + 1) _ (by omega) (by omega) (by omega) (fr_I f (Or.inl rfl)) (by rw [rI_n (by decide)]; exact e2) (fun j j0 j1 => ?_)
      rw [rI_s, updI_at, e106]
      by_cases c : j = i
      · rw [if_pos c, c]
      · rw [if_neg c]; exact hj j j0 (by omega)
  unfold nX12_loadsBest bX12_loadsBest
  refine ok_bs ?_
  exact key n.toNat 100000 0 _ (by omega) (by omega) (by omega) (fr_I fr_r (Or.inr ⟨rfl, rfl⟩)) (by rw [rI_s, updI_s, e52]) (fun j j0 j1 => by omega)
theorem sX12_isAheadOfBest {n : Int} (hn : 0 ≤ n ∧ n ≤ 9) (e51 : m.1 71 51 = n) (e52 : m.1 71 52 = n) : nX12_isAheadOfBest m = some (if lx (mrow m) (mbest m n) = true then 1 else 0) := by
  have key : ∀ (r N : Nat) (i : Int), r < N → i + r = n → 0 ≤ i → nX12_isAheadOfBest_2 m N i = some (if lx (rowL (m.1 105) i r) (rowL (m.1 106) i r) = true then 1 else 0) := by
    intro r
    induction r with
    | zero =>
      intro N i hN hi h0
      obtain ⟨M, rfl⟩ := fuel_s hN
      rw [nX12_isAheadOfBest_2_s]
      simp only [bX12_isAheadOfBest_2, nX12_isAheadOfBest_60, bX12_isAheadOfBest_60]
      rw [if_neg (by omega), if_neg (by omega), gd_t (by omega)]
      rfl
    | succ r ih =>
      intro N i hN hi h0
      obtain ⟨M, rfl⟩ := fuel_s hN
      have e := ih M (i + 1) (by omega) (by omega) (by omega)
      rw [nX12_isAheadOfBest_2_s]
      simp only [bX12_isAheadOfBest_2]
      rw [if_pos (by omega), if_pos (by omega), gd_t (by omega), gd_t (by omega), rowL, rowL, lx]
      by_cases c : m.1 105 i = m.1 106 i
      · rw [if_pos c, gd_t (by omega), if_neg (show ¬ m.1 105 i < m.1 106 i by omega), if_neg (show ¬ m.1 106 i < m.1 105 i by omega)]
        exact e
      · rw [if_neg c, gd_t (by omega), gd_t (by omega)]
        by_cases c1 : m.1 105 i < m.1 106 i
        · rw [if_pos c1, if_pos c1, if_pos rfl, gd_t (by omega)]
        · rw [if_neg c1, if_neg c1, if_pos (show m.1 106 i < m.1 105 i by omega), gd_t (by omega), if_neg (by decide)]
  unfold nX12_isAheadOfBest bX12_isAheadOfBest mrow mbest
  rw [e51]
  exact key n.toNat 100000 0 (by omega) (by omega) (by omega)
def stN (base n : Int) (m : HH) (x4 x5 : Int) : Option (Int × List Int) → Prop
  | none => x5 = 0 ∧ x4 = base
  | some (c, b) => x5 = 1 ∧ x4 = c ∧ m.1 71 52 = n ∧ mbest m n = b
theorem stN_fr {base n x4 x5 : Int} {S : Nat → Int → Prop} {m g : HH} (f : Fr S m g) (q : ∀ c i, S c i → c ≠ 106 ∧ (c = 71 → i ≠ 52)) : ∀ {s : Option (Int × List Int)}, stN base n m x4 x5 s → stN base n g x4 x5 s
  | none, hs => hs
  | some (c, l), hs => by
    have e := fr_c f 106 (fun i z => (q _ _ z).1 rfl)
    have e2 := f.2 71 52 (fun z => (q _ _ z).2 rfl rfl)
    unfold stN mbest at hs ⊢
    rw [e, e2]; exact hs
theorem m_try (i : INV h h') (f : Fr scM h' m) {v n base x4 x5 x6 x7 : Int} (v0 : 0 ≤ v) (v1 : v < h.1 13 14) (hn : 0 ≤ n ∧ n ≤ 9) (e51 : m.1 71 51 = n) (hl : mrow m = l) (hin : inR h.1 l) {C : List Int → Prop} {s : Option (Int × List Int)} (hs : stN base n m x4 x5 s) (hC : mvS h.1 v base C s) (h7 : R32 (x7 + 1)) {c16 : Int → Int → Int → Int → Int → Int → HH → Option (Int × HH)} {c27 : Int → Int → Int → Int → Int → Int → Int → HH → Option (Int × HH)} {P : Int × HH → Prop} (hk : ∀ x4' x5' m', Fr scM h' m' → stN base n m' x4' x5' (mvU h.1 v base l s) → Ok (c27 v base n x4' x5' x6 (x7 + 1) m') P) : Ok (nX12_bestMove_111 c16 c27 v base n x4 x5 x6 x7 m) P := by
  have im : INV h m := INV_scr i fr_r f
  simp only [nX12_bestMove_111, bX12_bestMove_111, nX12_bestMove_156, bX12_bestMove_156, nX12_bestMove_167, bX12_bestMove_167]
  refine ok_bnd (inv_drives im v0 v1 (by omega) hl hin) (fun q w => ?_)
  obtain ⟨w1, w2, _⟩ := w
  have fq : Fr scM h' q.2 := fr_t f (dr_scM w2)
  obtain ⟨em3, e513⟩ := mrow_fr w2 (fun i s => by unfold sDr at s; omega) (fun s => by unfold sDr at s; omega)
  have hsq : stN base n q.2 x4 x5 s := stN_fr w2 (fun c i s => by unfold sDr at s; omega) hs
  rw [w1]
  have keep : mvU h.1 v base l s = s → Ok (gd (R32 (x7 + 1)) (c27 v base n x4 x5 x6 (x7 + 1) q.2)) P := fun e => ok_gd h7 (hk x4 x5 q.2 fq (by rw [e]; exact hsq))
  have take : mvU h.1 v base l s = some (costL h.1 v l, l) → Ok (bnd (nX12_isBest q.2) fun r1 => gd (R32 (x7 + 1)) (c27 v base n (costL h.1 v l) 1 x6 (x7 + 1) r1)) P := fun e => by
    refine ok_bnd (sX12_isBest hn (by rw [e513]; exact e51)) (fun g hg => ?_)
    refine ok_gd h7 (hk _ 1 g (fr_t fq (sBs_sc hg.1)) ?_)
    rw [e]
    exact ⟨rfl, rfl, hg.2.1, by rw [hg.2.2, em3, hl]⟩
  by_cases c1 : costL h.1 v l = -1
  · refine ok_pos c1 ?_
    refine keep ?_
    cases s with
    | none => rw [mvU, if_neg (fun q => q.1 c1)]
    | some p => obtain ⟨d, b⟩ := p; rw [mvU, if_neg (fun q => q.1 c1)]
  · refine ok_neg c1 ?_
    cases s with
    | none =>
      obtain ⟨s1, s2⟩ := hs
      by_cases c2 : costL h.1 v l < base
      · refine ok_pos c2 ?_
        refine ok_pos s1 ?_
        exact take (by rw [mvU, if_pos ⟨c1, c2⟩])
      · refine ok_neg c2 ?_
        exact keep (by rw [mvU, if_neg (fun q => c2 q.2)])
    | some p =>
      obtain ⟨d, b⟩ := p
      obtain ⟨s1, s2, s3, s4⟩ := hs
      have hd := hC.1.2.2.2
      by_cases c2 : costL h.1 v l < base
      · refine ok_pos c2 ?_
        refine ok_neg (by omega) ?_
        by_cases c3 : costL h.1 v l < d
        · refine ok_pos (by omega) ?_
          exact take (by rw [mvU, if_pos ⟨c1, Or.inl c3⟩])
        · refine ok_neg (by omega) ?_
          by_cases c4 : costL h.1 v l = d
          · refine ok_pos (by omega) ?_
            refine ok_be (sX12_isAheadOfBest hn (by rw [e513]; exact e51) hsq.2.2.1) ?_
            rw [em3, hl, hsq.2.2.2]
            by_cases c5 : lx l b = true
            · rw [if_pos c5]
              refine ok_neg (by decide) ?_
              exact take (by rw [mvU, if_pos ⟨c1, Or.inr ⟨c4, c5⟩⟩])
            · rw [if_neg c5]
              refine ok_pos rfl ?_
              refine keep ?_
              rw [mvU, if_neg]
              rintro ⟨_, q | q⟩
              · exact c3 q
              · exact c5 q.2
          · refine ok_neg (by omega) ?_
            refine keep ?_
            rw [mvU, if_neg]
            rintro ⟨_, q | q⟩
            · exact c3 q
            · exact c4 q.1
      · refine ok_neg c2 ?_
        refine keep ?_
        rw [mvU, if_neg]
        rintro ⟨_, q | q⟩
        · omega
        · omega
/-- what two places of a row lead to -/
def prT (L : List Int) (a b : Int) (x : List Int) : Prop := a < b ∧ x = trnL L a.toNat (b + 1).toNat
def prM (L : List Int) (a b : Int) (x : List Int) : Prop := a ≠ b ∧ x = insL (remL L a.toNat) b.toNat (L.getD a.toNat 0)
theorem m_s0 (i : INV h h') (f : Fr scM h' m) {v base x4 x5 k x7 : Int} {N : Nat} (e7 : x7 = 0) (v0 : 0 ≤ v) (v1 : v < h.1 13 14) (hk : 0 ≤ k ∧ (0 ≤ k / h.1 31 v ∧ k / h.1 31 v < h.1 31 v) ∧ (0 ≤ k % h.1 31 v ∧ k % h.1 31 v < h.1 31 v)) {C : List Int → Prop} {s : Option (Int × List Int)} (hs : stN base (h.1 31 v) m x4 x5 s) (hC : mvS h.1 v base C s) {c16 : Int → Int → Int → Int → Int → Int → HH → Option (Int × HH)} {P : Int × HH → Prop} (hkk : ∀ x4' x5' s' m', Fr scM h' m' → stN base (h.1 31 v) m' x4' x5' s' → mvS h.1 v base (fun x => C x ∨ prT (rnd h.1 v) (k / h.1 31 v) (k % h.1 31 v) x) s' → Ok (nX12_bestMove_27 c16 N v base (h.1 31 v) x4' x5' k (x7 + 1) m') P) : Ok (nX12_bestMove_27 c16 (N + 1) v base (h.1 31 v) x4 x5 k x7 m) P := by
  have hn := inv_n i
  have hb := inv_RV i v v0 (by omega)
  have im : INV h m := INV_scr i fr_r f
  rw [nX12_bestMove_27_s]
  simp only [bX12_bestMove_27]
  refine ok_pos (by omega) ?_
  refine ok_gd (by omega) ?_
  refine ok_gd (by omega) ?_
  refine ok_bnd (inv_loads im v0 (by omega)) (fun m1 w1 => ?_)
  have f1 : Fr scM h' m1 := fr_t f (row_scM w1.1)
  have s1 : stN base (h.1 31 v) m1 x4 x5 s := stN_fr w1.1 (fun c i s => by unfold sRow at s; omega) hs
  refine ok_pos e7 ?_
  obtain ⟨one, ho⟩ : ∃ o, o = k / h.1 31 v := ⟨_, rfl⟩
  obtain ⟨two, ht⟩ : ∃ o, o = k % h.1 31 v := ⟨_, rfl⟩
  rw [← ho, ← ht] at hk hkk ⊢
  have skip : ¬ one < two → Ok (gd (R32 (x7 + 1)) (nX12_bestMove_27 c16 N v base (h.1 31 v) x4 x5 k (x7 + 1) m1)) P := fun c => by
    refine ok_gd (by omega) ?_
    refine hkk x4 x5 s m1 f1 s1 (mvS_cg (fun x => ⟨Or.inl, fun q => ?_⟩) hC)
    rcases q with q | q
    · exact q
    · exact absurd q.1 c
  by_cases c : one < two
  · refine ok_pos c ?_
    refine ok_gd (by omega) ?_
    refine ok_bnd (sX12_turns (h := m1) (s := one) (e := two + 1) (by omega) (by omega) (by omega) (by omega)) (fun m2 w2 => ?_)
    have f2 : Fr scM h' m2 := fr_t f1 (fr_m (fun c i s => by unfold sA at s; unfold scM; omega) w2.1)
    have s2 : stN base (h.1 31 v) m2 x4 x5 s := stN_fr w2.1 (fun c i s => by unfold sA at s; omega) s1
    have hl : mrow m2 = trnL (rnd h.1 v) one.toNat (two + 1).toNat := by rw [w2.2, w1.2.2]
    refine m_try i f2 v0 v1 hb.1 (by rw [w2.1.2 71 51 (by unfold sA; omega)]; exact w1.2.1) hl (fun p hp => hb.2 p ((trnL_perm (by omega)).mem_iff.mp hp)) s2 hC (by omega) (fun x4' x5' m' f' s' => ?_)
    refine hkk x4' x5' _ m' f' s' (mvS_cg (fun x => ⟨fun q => ?_, fun q => ?_⟩) (mvS_s hC))
    · rcases q with q | q
      · exact Or.inl q
      · exact Or.inr ⟨c, q⟩
    · rcases q with q | q
      · exact Or.inl q
      · exact Or.inr q.2
  · refine ok_neg c ?_
    simp only [nX12_bestMove_75, bX12_bestMove_75, nX12_bestMove_167, bX12_bestMove_167]
    refine ok_neg (by omega) ?_
    exact skip c
theorem m_s1 (i : INV h h') (f : Fr scM h' m) {v base x4 x5 k x7 : Int} {N : Nat} (e7 : x7 = 1) (v0 : 0 ≤ v) (v1 : v < h.1 13 14) (hk : 0 ≤ k ∧ (0 ≤ k / h.1 31 v ∧ k / h.1 31 v < h.1 31 v) ∧ (0 ≤ k % h.1 31 v ∧ k % h.1 31 v < h.1 31 v)) {C : List Int → Prop} {s : Option (Int × List Int)} (hs : stN base (h.1 31 v) m x4 x5 s) (hC : mvS h.1 v base C s) {c16 : Int → Int → Int → Int → Int → Int → HH → Option (Int × HH)} {P : Int × HH → Prop} (hkk : ∀ x4' x5' s' m', Fr scM h' m' → stN base (h.1 31 v) m' x4' x5' s' → mvS h.1 v base (fun x => C x ∨ prM (rnd h.1 v) (k / h.1 31 v) (k % h.1 31 v) x) s' → Ok (nX12_bestMove_27 c16 N v base (h.1 31 v) x4' x5' k (x7 + 1) m') P) : Ok (nX12_bestMove_27 c16 (N + 1) v base (h.1 31 v) x4 x5 k x7 m) P := by
  have hn := inv_n i
  have hb := inv_RV i v v0 (by omega)
  have im : INV h m := INV_scr i fr_r f
  have hlen : (rnd h.1 v).length = (h.1 31 v).toNat := rnd_len
  rw [nX12_bestMove_27_s]
  simp only [bX12_bestMove_27]
  refine ok_pos (by omega) ?_
  refine ok_gd (by omega) ?_
  refine ok_gd (by omega) ?_
  refine ok_bnd (inv_loads im v0 (by omega)) (fun m1 w1 => ?_)
  have f1 : Fr scM h' m1 := fr_t f (row_scM w1.1)
  have s1 : stN base (h.1 31 v) m1 x4 x5 s := stN_fr w1.1 (fun c i s => by unfold sRow at s; omega) hs
  refine ok_neg (by omega) ?_
  obtain ⟨one, ho⟩ : ∃ o, o = k / h.1 31 v := ⟨_, rfl⟩
  obtain ⟨two, ht⟩ : ∃ o, o = k % h.1 31 v := ⟨_, rfl⟩
  rw [← ho, ← ht] at hk hkk ⊢
  unfold nX12_bestMove_75 bX12_bestMove_75
  refine ok_pos e7 ?_
  by_cases c : one = two
  · refine ok_pos c ?_
    simp only [nX12_bestMove_167, bX12_bestMove_167]
    refine ok_gd (by omega) ?_
    refine hkk x4 x5 s m1 f1 s1 (mvS_cg (fun x => ⟨Or.inl, fun q => ?_⟩) hC)
    rcases q with q | q
    · exact q
    · exact absurd c q.1
  · refine ok_neg c ?_
    refine ok_gd (by omega) ?_
    have e105 : m1.1 105 one = (rnd h.1 v).getD one.toNat 0 := by
      rw [← w1.2.2]
      unfold mrow
      rw [rowL_getD (by omega), show (0 : Int) + (one.toNat : Int) = one by omega]
    rw [e105]
    refine ok_bnd (sX12_removes (h := m1) (i := one) (by omega) (by omega) (by omega)) (fun m2 w2 => ?_)
    refine ok_bnd (sX12_inserts (h := m2) (i := two) (p := (rnd h.1 v).getD one.toNat 0) (by omega) (by omega) (by omega)) (fun m3 w3 => ?_)
    have f3 : Fr scM h' m3 := fr_t f1 (row_scM (fr_t w2.1 w3.1))
    have s3 : stN base (h.1 31 v) m3 x4 x5 s := stN_fr (fr_t w2.1 w3.1) (fun c i s => by unfold sRow at s; omega) s1
    have hl : mrow m3 = insL (remL (rnd h.1 v) one.toNat) two.toNat ((rnd h.1 v).getD one.toNat 0) := by rw [w3.2.2, w2.2.2, w1.2.2]
    refine m_try i f3 v0 v1 hb.1 (by omega) hl (fun p hp => by
      rcases insL_m.mp hp with e | e
      · rw [e]; exact hb.2 _ (getD_mem (by omega))
      · exact hb.2 p (remL_m e)) s3 hC (by omega) (fun x4' x5' m' f' s' => ?_)
    refine hkk x4' x5' _ m' f' s' (mvS_cg (fun x => ⟨fun q => ?_, fun q => ?_⟩) (mvS_s hC))
    · rcases q with q | q
      · exact Or.inl q
      · exact Or.inr ⟨c, q⟩
    · rcases q with q | q
      · exact Or.inl q
      · exact Or.inr q.2
/-- the pairs ahead of k -/
def prQ (L : List Int) (n k : Int) (x : List Int) : Prop := ∃ a b : Int, ((0 ≤ a ∧ a < n) ∧ (0 ≤ b ∧ b < n) ∧ b + n * a < k) ∧ (prT L a b x ∨ prM L a b x)
theorem prQ_s {L : List Int} {n k : Int} (hn : 0 < n) (h0 : 0 ≤ k) (h1 : k < n * n) (x : List Int) : (prQ L n k x ∨ prT L (k / n) (k % n) x) ∨ prM L (k / n) (k % n) x ↔ prQ L n (k + 1) x := by
  have e := Int.emod_add_mul_ediv k n
  have m0 := Int.emod_nonneg k (show n ≠ 0 by omega)
  have m1 := Int.emod_lt_of_pos k hn
  have d0 := Int.ediv_nonneg h0 (show 0 ≤ n by omega)
  have d1 := Int.ediv_lt_of_lt_mul hn h1
  constructor
  · rintro ((⟨a, b, q, w⟩ | q) | q)
    · exact ⟨a, b, ⟨q.1, q.2.1, by omega⟩, w⟩
    · exact ⟨k / n, k % n, ⟨⟨d0, d1⟩, ⟨m0, m1⟩, by omega⟩, Or.inl q⟩
    · exact ⟨k / n, k % n, ⟨⟨d0, d1⟩, ⟨m0, m1⟩, by omega⟩, Or.inr q⟩
  · rintro ⟨a, b, ⟨q1, q2, q3⟩, w⟩
    by_cases c : b + n * a < k
    · exact Or.inl (Or.inl ⟨a, b, ⟨q1, q2, c⟩, w⟩)
    · have u := (Int.ediv_emod_unique (a := k) (b := n) (r := b) (q := a) hn).mpr ⟨by omega, q2.1, q2.2⟩
      rw [u.1, u.2]
      rcases w with w | w
      · exact Or.inl (Or.inr w)
      · exact Or.inr w
theorem prQ_all {L : List Int} {n : Int} (x : List Int) : prQ L n (n * n) x ↔ cAll L n x := by
  constructor
  · rintro ⟨a, b, ⟨q1, q2, q3⟩, w | w⟩
    · exact Or.inl ⟨a, b, ⟨q1.1, w.1, q2.2⟩, w.2⟩
    · exact Or.inr ⟨a, b, ⟨q1, q2, w.1⟩, w.2⟩
  · have lt : ∀ a b : Int, 0 ≤ a → a < n → 0 ≤ b → b < n → b + n * a < n * n := fun a b a0 a1 b0 b1 => by
      have : n * a ≤ n * (n - 1) := Int.mul_le_mul_of_nonneg_left (by omega) (by omega)
      rw [Int.mul_sub, Int.mul_one] at this
      omega
    rintro (⟨a, b, q, w⟩ | ⟨a, b, q, w⟩)
    · exact ⟨a, b, ⟨by omega, by omega, lt a b (by omega) (by omega) (by omega) (by omega)⟩, Or.inl ⟨q.2.1, w⟩⟩
    · exact ⟨a, b, ⟨q.1, q.2.1, lt a b q.1.1 q.1.2 q.2.1.1 q.2.1.2⟩, Or.inr ⟨q.2.2, w⟩⟩
def bmM (n base : Int) (s : Option (Int × List Int)) (r : Int × HH) : Prop := match s with
  | none => r.1 = base
  | some (c, b) => r.1 = c ∧ r.2.1 71 52 = n ∧ mbest r.2 n = b
theorem m_best (i : INV h h') {v base : Int} (v0 : 0 ≤ v) (v1 : v < h.1 13 14) : Ok (nX12_bestMove v base h') (fun r => ∃ s, mvS h.1 v base (cAll (rnd h.1 v) (h.1 31 v)) s ∧ Fr scM h' r.2 ∧ bmM (h.1 31 v) base s r) := by
  have hn := inv_n i
  have hb := inv_RV i v v0 (by omega)
  have hr1 := i.2.1.1.2.1 v v0 (by omega)
  have nn := mul_b (A := 9) (B := 9) hb.1 hb.1
  have key : ∀ (r N : Nat) (k x4 x5 : Int) (C : List Int → Prop) (s : Option (Int × List Int)) (m : HH), r < N → k + r = h.1 31 v * h.1 31 v → 0 ≤ k → Fr scM h' m → stN base (h.1 31 v) m x4 x5 s → mvS h.1 v base C s → (∀ x, C x ↔ prQ (rnd h.1 v) (h.1 31 v) k x) → Ok (nX12_bestMove_16 N v base (h.1 31 v) x4 x5 k m) (fun r => ∃ s, mvS h.1 v base (cAll (rnd h.1 v) (h.1 31 v)) s ∧ Fr scM h' r.2 ∧ bmM (h.1 31 v) base s r) := by
    intro r
    induction r with
    | zero =>
      intro N k x4 x5 C s m hN hk k0 f hs hC hQ
      obtain ⟨M, rfl⟩ := fuel_s hN
      rw [nX12_bestMove_16_s]
      simp only [bX12_bestMove_16]
      refine ok_gd (by omega) ?_
      refine ok_neg (by omega) ?_
      have hC' : mvS h.1 v base (cAll (rnd h.1 v) (h.1 31 v)) s := mvS_cg (fun x => by
        have := hQ x
        rw [show k = h.1 31 v * h.1 31 v by omega] at this
        exact this.trans (prQ_all x)) hC
      cases s with
      | none =>
        refine ok_pos hs.1 ?_
        exact ok_some ⟨none, hC', f, rfl⟩
      | some p =>
        obtain ⟨c, b⟩ := p
        obtain ⟨s1, s2, s3, s4⟩ := hs
        refine ok_neg (by omega) ?_
        exact ok_some ⟨some (c, b), hC', f, s2, s3, s4⟩
    | succ r ih =>
      intro N k x4 x5 C s m hN hk k0 f hs hC hQ
      obtain ⟨M, rfl⟩ := fuel_s hN
      have hpos : 0 < h.1 31 v := by
        by_cases c : h.1 31 v = 0
        · rw [c] at hk; omega
        · omega
      have hkk : 0 ≤ k ∧ (0 ≤ k / h.1 31 v ∧ k / h.1 31 v < h.1 31 v) ∧ (0 ≤ k % h.1 31 v ∧ k % h.1 31 v < h.1 31 v) := ⟨k0, ⟨Int.ediv_nonneg k0 (by omega), Int.ediv_lt_of_lt_mul hpos (by omega)⟩, Int.emod_nonneg k (by omega), Int.emod_lt_of_pos k hpos⟩
      rw [nX12_bestMove_16_s]
      simp only [bX12_bestMove_16]
      refine ok_gd (by omega) ?_
      refine ok_pos (by omega) ?_
      refine m_s0 (N := 99999) i f rfl v0 v1 hkk hs hC (fun x4' x5' s' m' f' hs' hC' => ?_)
      refine m_s1 (N := 99998) i f' (by omega) v0 v1 hkk hs' hC' (fun x4'' x5'' s'' m'' f'' hs'' hC'' => ?_)
      rw [show (99998 : Nat) = 99997 + 1 from rfl, nX12_bestMove_27_s]
      simp only [bX12_bestMove_27]
      refine ok_neg (by decide) ?_
      refine ok_gd (by omega) ?_
      refine ih M (k + 1) x4'' x5'' _ s'' m'' (by omega) (by omega) (by omega) f'' hs'' hC'' (fun x => ?_)
      rw [hQ x]
      exact prQ_s hpos k0 (by omega) x
  unfold nX12_bestMove bX12_bestMove
  refine ok_gd (by omega) ?_
  rw [hr1.2.1]
  refine key (h.1 31 v * h.1 31 v).toNat 100000 0 base 0 (fun _ => False) none h' (by omega) (by omega) (by omega) fr_r ⟨rfl, rfl⟩ (fun x hx => absurd hx not_false) (fun x => ⟨fun q => absurd q not_false, fun ⟨a, b, q, _⟩ => ?_⟩)
  have := Int.mul_nonneg (show 0 ≤ h.1 31 v by omega) q.1.1
  omega
end BETM
