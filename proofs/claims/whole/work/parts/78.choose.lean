/-! WHAT SENDERS COST together -/
section CHOOSE
variable {h h' m : HH} {K K1 : Nat → Int → Int} {v n : Int}
def chL (Q : Int → Bool) : Nat → List Int
  | 0 => []
  | k + 1 => if Q (k : Int) = true then chL Q k ++ [(k : Int)] else chL Q k
theorem chL_m {Q : Int → Bool} : ∀ {k : Nat} {i : Int}, i ∈ chL Q k ↔ (0 ≤ i ∧ i < k) ∧ Q i = true
  | 0, i => ⟨fun q => absurd q List.not_mem_nil, fun q => by omega⟩
  | k + 1, i => by
    rw [chL]
    by_cases c : Q (k : Int) = true
    · rw [if_pos c, List.mem_append, List.mem_singleton, chL_m]
      constructor
      · rintro (q | q)
        · exact ⟨by omega, q.2⟩
        · rw [q]; exact ⟨by omega, c⟩
      · rintro ⟨q1, q2⟩
        by_cases e : i = k
        · exact Or.inr e
        · exact Or.inl ⟨by omega, q2⟩
    · rw [if_neg c, chL_m]
      constructor
      · rintro ⟨q1, q2⟩
        exact ⟨by omega, q2⟩
      · rintro ⟨q1, q2⟩
        by_cases e : i = k
        · rw [e] at q2; exact absurd q2 c
        · exact ⟨by omega, q2⟩
theorem chL_nd {Q : Int → Bool} : ∀ {k : Nat}, (chL Q k).Nodup
  | 0 => List.nodup_nil
  | k + 1 => by
    rw [chL]
    by_cases c : Q (k : Int) = true
    · rw [if_pos c, List.nodup_append]
      refine ⟨chL_nd, List.nodup_cons.mpr ⟨List.not_mem_nil, List.nodup_nil⟩, fun a ha b hb => ?_⟩
      rw [List.mem_singleton.mp hb]
      have := (chL_m.mp ha).1
      omega
    · rw [if_neg c]; exact chL_nd
theorem chL_len {Q : Int → Bool} : ∀ {k : Nat}, (chL Q k).length ≤ k
  | 0 => Nat.le_refl _
  | k + 1 => by
    have := chL_len (Q := Q) (k := k)
    rw [chL]
    by_cases c : Q (k : Int) = true
    · rw [if_pos c, List.length_append]
      simp only [List.length_cons, List.length_nil]
      omega
    · rw [if_neg c]; omega
/-- chosen parcels stand in a row -/
def chI (Q : Int → Bool) (k : Nat) (f : Int → Int) (n : Int) : Prop := n = (chL Q k).length ∧ rowL f 0 (chL Q k).length = chL Q k
theorem chI_s {Q : Int → Bool} {k : Nat} {f : Int → Int} {n : Int} (h : chI Q k f n) (c : Q (k : Int) = true) : chI Q (k + 1) (updI f n k) (n + 1) := by
  obtain ⟨h1, h2⟩ := h
  have e : chL Q (k + 1) = chL Q k ++ [(k : Int)] := by rw [chL, if_pos c]
  have el : (chL Q (k + 1)).length = (chL Q k).length + 1 := by rw [e, List.length_append]; rfl
  refine ⟨by omega, ?_⟩
  rw [el, rowL_snoc, rowL_upd (Or.inr (by omega)), h2, show (0 : Int) + ((chL Q k).length : Int) = n by omega, updI_s, e]
theorem chI_n {Q : Int → Bool} {k : Nat} {f : Int → Int} {n : Int} (h : chI Q k f n) (c : ¬ Q (k : Int) = true) : chI Q (k + 1) f n := by
  have e : chL Q (k + 1) = chL Q k := by rw [chL, if_neg c]
  unfold chI
  rw [e]
  exact h
theorem chI_get {Q : Int → Bool} {k : Nat} {f : Int → Int} {n : Int} (h : chI Q k f n) {i : Int} (i0 : 0 ≤ i) (i1 : i < n) : f i ∈ chL Q k := by
  obtain ⟨h1, h2⟩ := h
  rw [← h2]
  have := rowL_of (f := f) (o := 0) (n := (chL Q k).length) (i := i.toNat) (by omega)
  rw [show (0 : Int) + (i.toNat : Int) = i by omega] at this
  exact this
theorem chI_CH {Q : Int → Bool} (hn : 0 ≤ K 13 10 ∧ K 13 10 ≤ 9) (h : chI Q (K 13 10).toNat (K 50) n) : CH K n := by
  have hl := chL_len (Q := Q) (k := (K 13 10).toNat)
  refine ⟨by have := h.1; omega, fun i i0 i1 => ?_⟩
  have := (chL_m.mp (chI_get h i0 i1)).1
  omega
theorem chI_map {Q : Int → Bool} (hn : 0 ≤ n ∧ n ≤ 9) {k : Nat} (h : chI Q k (K 50) n) : (canS (allS n) 9).map (K 50) = chL Q k := by
  have hall := allS_b hn
  rw [← canS_le hn ⟨hall.1, Int.le_refl _⟩, ← h.2]
  have : ∀ j : Nat, (j : Int) ≤ n → (canS (allS n) j).map (K 50) = rowL (K 50) 0 j := fun j => by
    induction j with
    | zero => intro _; rfl
    | succ j ih =>
      intro hj
      rw [canS, if_pos ((allS_bt hn (by omega)).mpr (by omega)), List.map_append, ih (by omega), rowL_snoc, Int.zero_add]
      rfl
  have e := this n.toNat (by omega)
  rw [show n.toNat = (chL Q k).length by have := h.1; omega] at e ⊢
  exact e
/-- the least cost of rows of the same parcels -/
def csQ (K : Nat → Int → Int) (v : Int) (L : List Int) (r : Int) : Prop := (r = -1 ∧ ∀ l, l.Perm L → costL K v l = -1) ∨ (r ≠ -1 ∧ (∃ l, l.Perm L ∧ costL K v l = r) ∧ ∀ l, l.Perm L → costL K v l = -1 ∨ r ≤ costL K v l)
theorem csQ_u {L : List Int} {r r' : Int} (h : csQ K v L r) (h' : csQ K v L r') : r = r' := by
  rcases h with ⟨a, b⟩ | ⟨a, ⟨l, b1, b2⟩, c⟩ <;> rcases h' with ⟨a', b'⟩ | ⟨a', ⟨l', b1', b2'⟩, c'⟩
  · omega
  · have := b l' b1'; omega
  · have := b' l b1; omega
  · rcases c l' b1' with q | q <;> rcases c' l b1 with w | w <;> omega
theorem csQ_p {L L' : List Int} {r : Int} (p : L.Perm L') (h : csQ K v L r) : csQ K v L' r := by
  rcases h with ⟨a, b⟩ | ⟨a, ⟨l, b1, b2⟩, c⟩
  · exact Or.inl ⟨a, fun l hl => b l (hl.trans p.symm)⟩
  · exact Or.inr ⟨a, ⟨l, b1.trans p, b2⟩, fun l hl => c l (hl.trans p.symm)⟩
theorem csQ_cg {L : List Int} {r : Int} (e : ∀ l, costL K1 v l = costL K v l) (h : csQ K1 v L r) : csQ K v L r := by
  unfold csQ at h ⊢
  simp only [e] at h
  exact h
theorem perm_map {f : Int → Int} : ∀ {l l' : List Int}, l'.Perm (l.map f) → ∃ l'' : List Int, l''.Perm l ∧ l' = l''.map f
  | [], l', h => ⟨[], List.Perm.refl _, List.Perm.eq_nil h⟩
  | a :: l, l', h => by
    have ha : f a ∈ l' := h.mem_iff.mpr List.mem_cons_self
    obtain ⟨x, y, e⟩ := List.append_of_mem ha
    rw [e] at h
    have h2 : (x ++ y).Perm (l.map f) := (List.perm_cons (f a)).mp (List.perm_middle.symm.trans h)
    obtain ⟨l2, p2, e2⟩ := perm_map h2
    obtain ⟨x', y', q1, q2, q3⟩ := List.map_eq_append_iff.mp e2.symm
    refine ⟨x' ++ a :: y', ?_, ?_⟩
    · refine List.perm_middle.trans ((List.perm_cons a).mpr ?_)
      rw [← q1]; exact p2
    · rw [e, List.map_append, List.map_cons, q2, q3]
theorem csP_Q {S r : Int} (h : csP K v S r) : csQ K v ((canS S 9).map (K 50)) r := by
  have go : ∀ l, l.Perm ((canS S 9).map (K 50)) → ∃ l2, ofS S l2 ∧ costL K v l = cE K v l2 := fun l hl => by
    obtain ⟨l2, p, e⟩ := perm_map hl
    exact ⟨l2, (ofS_perm p).mpr canS_of, by rw [e]; rfl⟩
  rcases h with ⟨a, b⟩ | ⟨a, ⟨l, b1, b2⟩, c⟩
  · refine Or.inl ⟨a, fun l hl => ?_⟩
    obtain ⟨l2, h1, h2⟩ := go l hl
    rw [h2]; exact b l2 h1
  · refine Or.inr ⟨a, ⟨l.map (K 50), List.Perm.map _ (ofS_p b1 canS_of), b2⟩, fun l hl => ?_⟩
    obtain ⟨l2, h1, h2⟩ := go l hl
    rw [h2]; exact c l2 h1
/-- waits, and its sender is among these -/
def Qw (K : Nat → Int → Int) (sd p : Int) : Bool := decide (K 20 p = 0) && bt sd (K 16 p)
abbrev sCh : Nat → Int → Prop := fun c i => (c = 49 ∧ i = 2) ∨ c = 50
theorem sCh_sc {g : HH} (f : Fr sCh h g) : Fr scC h g := fr_m (fun c i s => by dsimp only [sCh] at s; unfold scC; omega) f
theorem sX8_isIn {S i : Int} (hS : 0 ≤ S ∧ S < 512) (hi : 0 ≤ i ∧ i < 9) : nX8_isIn h S i = some (if bt S i = true then 1 else 0) := by
  unfold nX8_isIn bX8_isIn
  rw [bt_has hS hi]
  by_cases c : bt S i = true
  · rw [if_pos c, if_pos rfl, gd_t (by omega)]
  · rw [if_neg c, if_neg (by decide), gd_t (by omega)]
theorem c_wait (hv : VAL h.1) {sd : Int} (hs : 0 ≤ sd ∧ sd < 8) : Ok (nX8_chooseWaiting sd h) (fun g => Fr sCh h g ∧ chI (Qw h.1 sd) (h.1 13 10).toNat (g.1 50) (g.1 49 2)) := by
  have hn := v_n hv
  have key : ∀ (r N k : Nat) (m : HH), r < N → (k : Int) + r = h.1 13 10 → Fr sCh h m → chI (Qw h.1 sd) k (m.1 50) (m.1 49 2) → Ok (nX8_chooseWaiting_9 N sd k m) (fun g => Fr sCh h g ∧ chI (Qw h.1 sd) (h.1 13 10).toNat (g.1 50) (g.1 49 2)) := by
    intro r
    induction r with
    | zero =>
      intro N k m hN hk f ci
      obtain ⟨M, rfl⟩ := fuel_s hN
      have e13 := sc_13 (sCh_sc f)
      rw [nX8_chooseWaiting_9_s]
      simp only [bX8_chooseWaiting_9]
      refine ok_neg (by rw [e13]; omega) ?_
      exact ok_some ⟨f, by rw [show (h.1 13 10).toNat = k by omega]; exact ci⟩
    | succ r ih =>
      intro N k m hN hk f ci
      obtain ⟨M, rfl⟩ := fuel_s hN
      have fs := sCh_sc f
      have e13 := sc_13 fs
      have e20 : m.1 20 = h.1 20 := sc_c fs 20 (by unfold scC; omega)
      have e16 : m.1 16 = h.1 16 := sc_c fs 16 (by unfold scC; omega)
      have hp := v_p hv (p := (k : Int)) (by omega) (by omega)
      have hl := chL_len (Q := Qw h.1 sd) (k := k)
      have ek : (k : Int) + 1 = ((k + 1 : Nat) : Int) := by omega
      rw [nX8_chooseWaiting_9_s]
      simp only [bX8_chooseWaiting_9, nX8_chooseWaiting_56, bX8_chooseWaiting_56]
      have keep : ¬ Qw h.1 sd k = true → Ok (gd (R32 ((k : Int) + 1)) (nX8_chooseWaiting_9 M sd ((k : Int) + 1) m)) (fun g => Fr sCh h g ∧ chI (Qw h.1 sd) (h.1 13 10).toNat (g.1 50) (g.1 49 2)) := fun q => by
        refine ok_gd (by omega) ?_
        rw [ek]
        exact ih M (k + 1) m (by omega) (by omega) f (chI_n ci q)
      refine ok_pos (by rw [e13]; omega) ?_
      refine ok_gd (by omega) ?_
      rw [e20, e16]
      by_cases c1 : h.1 20 k = 0
      · refine ok_pos c1 ?_
        refine ok_gd (by omega) ?_
        refine ok_be (sX8_isIn (S := sd) (i := h.1 16 k) (by omega) (by omega)) ?_
        by_cases c2 : bt sd (h.1 16 k) = true
        · rw [if_pos c2]
          refine ok_neg (by decide) ?_
          have q : Qw h.1 sd k = true := by unfold Qw; rw [decide_eq_true c1, c2]; rfl
          simp only [nX1_choose, bX1_choose, bnd_ite, bnd_gd, bnd_bnd]
          have hc1 := ci.1
          refine ok_pos (by omega) ?_
          refine ok_gd (by omega) ?_
          refine ok_bs ?_
          have e49 : (hI m 50 (m.1 49 2) k).1 49 2 = m.1 49 2 := by rw [rI_n (by decide)]
          rw [e49]
          refine ok_gd (by omega) ?_
          refine ok_bs ?_
          refine ok_bs ?_
          refine ok_gd (by omega) ?_
          rw [ek]
          refine ih M (k + 1) _ (by omega) (by omega) (fr_I (fr_I f (Or.inr rfl)) (Or.inl ⟨rfl, rfl⟩)) ?_
          have := chI_s ci q
          rw [rI_n (by decide), rI_s, rI_s, updI_s]
          exact this
        · rw [if_neg c2]
          refine ok_pos rfl ?_
          exact keep (fun q => by unfold Qw at q; rw [Bool.and_eq_true] at q; exact c2 q.2)
      · refine ok_neg c1 ?_
        exact keep (fun q => by unfold Qw at q; rw [Bool.and_eq_true] at q; exact c1 (of_decide_eq_true q.1))
  unfold nX8_chooseWaiting bX8_chooseWaiting nX1_chooseNone bX1_chooseNone
  refine ok_bs ?_
  refine key (h.1 13 10).toNat 100000 0 _ (by omega) (by omega) (fr_I fr_r (Or.inl ⟨rfl, rfl⟩)) ⟨?_, rfl⟩
  rw [rI_s, updI_s]
  rfl
abbrev sTg : Nat → Int → Prop := fun c i => sDF c i ∨ c = 107
theorem sTg_sc {g : HH} (f : Fr sTg m g) : Fr scM m g := fr_m (fun c i s => by dsimp only [sTg, sDF] at s; unfold scM; omega) f
theorem m_tog (hv : VAL K) (hm : RM K m) (v1 : 0 < K 13 14) {sd : Int} (hs : 0 ≤ sd ∧ sd < 8) : Ok (nX12_togetherOf sd m) (fun r => Fr sTg m r.2 ∧ csQ K 0 (chL (Qw K sd) (K 13 10).toNat) r.1) := by
  have hn := v_n hv
  have key : ∀ (r N k : Nat) (c : Int) (g : HH), r < N → (k : Int) + r = K 13 10 → Fr sTg m g → chI (Qw K sd) k (g.1 107) c → Ok (nX12_togetherOf_4 N sd c k g) (fun r => Fr sTg m r.2 ∧ csQ K 0 (chL (Qw K sd) (K 13 10).toNat) r.1) := by
    intro r
    induction r with
    | zero =>
      intro N k c g hN hk f ci
      obtain ⟨M, rfl⟩ := fuel_s hN
      have hRM : RM K g := RM_fr hm f (fun c i s => by dsimp only [sTg, sDF] at s; unfold rmP; omega)
      have e21 := hRM.1.1
      rw [nX12_togetherOf_4_s]
      simp only [bX12_togetherOf_4]
      refine ok_neg (by omega) ?_
      have ci' : chI (Qw K sd) (K 13 10).toNat (g.1 107) c := by rw [show (K 13 10).toNat = k by omega]; exact ci
      have eK : ∀ x, x ≠ 50 → (fun x => if x = 50 then g.1 107 else K x : Nat → Int → Int) x = K x := fun x hx => if_neg hx
      have e50 : (fun x => if x = 50 then g.1 107 else K x : Nat → Int → Int) 50 = g.1 107 := if_pos rfl
      generalize hK' : (fun x => if x = 50 then g.1 107 else K x : Nat → Int → Int) = K' at eK e50
      have hv' : VAL K' := VAL_eq hv (fun c hc => eK c (by omega)) (by rw [eK 13 (by decide)]; exact ⟨rfl, rfl⟩)
      have hm' : RM K' g := RM_K hRM (fun c hc => eK c (by omega)) (by rw [eK 13 (by decide)]; exact ⟨rfl, rfl⟩)
      have ci2 : chI (Qw K sd) (K' 13 10).toNat (K' 50) c := by rw [eK 13 (by decide), e50]; exact ci'
      have hch : CH K' c := chI_CH (by rw [eK 13 (by decide)]; exact hn.1) ci2
      refine ok_bnd (m_exactOf (m := g) hv' hm' hch (v := 0) (by omega) (by rw [eK 13 (by decide)]; exact v1) (fun i i0 i1 => by rw [e50])) (fun q hq => ?_)
      refine ok_some ⟨fr_t f (fr_m (fun c i s => Or.inl s) hq.1), ?_⟩
      have z := csP_Q hq.2.1
      rw [chI_map hch.1 ci2, eK 13 (by decide)] at z
      exact csQ_cg (fun l => costL_eq (eK 7 (by decide)) (by rw [eK 23 (by decide), eK 24 (by decide), eK 25 (by decide)]; exact ⟨rfl, rfl, rfl⟩) (fun p _ => by
        rw [eK 14 (by decide), eK 15 (by decide), eK 17 (by decide), eK 18 (by decide), eK 19 (by decide)]
        exact ⟨⟨rfl, rfl⟩, rfl, rfl, rfl⟩)) z
    | succ r ih =>
      intro N k c g hN hk f ci
      obtain ⟨M, rfl⟩ := fuel_s hN
      have hRM : RM K g := RM_fr hm f (fun c i s => by dsimp only [sTg, sDF] at s; unfold rmP; omega)
      have e21 := hRM.1.1
      have hp := v_p hv (p := (k : Int)) (by omega) (by omega)
      have hrp := rm_p hRM (p := (k : Int)) (by omega) (by omega)
      have hl := chL_len (Q := Qw K sd) (k := k)
      have ek : (k : Int) + 1 = ((k + 1 : Nat) : Int) := by omega
      have hc1 := ci.1
      rw [nX12_togetherOf_4_s]
      simp only [bX12_togetherOf_4, nX12_togetherOf_45, bX12_togetherOf_45]
      have keep : ¬ Qw K sd k = true → Ok (gd (R32 ((k : Int) + 1)) (nX12_togetherOf_4 M sd c ((k : Int) + 1) g)) (fun r => Fr sTg m r.2 ∧ csQ K 0 (chL (Qw K sd) (K 13 10).toNat) r.1) := fun q => by
        refine ok_gd (by omega) ?_
        rw [ek]
        exact ih M (k + 1) c g (by omega) (by omega) f (chI_n ci q)
      refine ok_pos (by omega) ?_
      refine ok_gd (by omega) ?_
      rw [hrp.2.2.2.1, hrp.1.2.2.1]
      by_cases c1 : K 20 k = 0
      · refine ok_pos c1 ?_
        refine ok_gd (by omega) ?_
        rw [bt_has (S := sd) (i := K 16 k) (by omega) (by omega)]
        by_cases c2 : bt sd (K 16 k) = true
        · rw [if_pos c2]
          refine ok_pos rfl ?_
          have q : Qw K sd k = true := by unfold Qw; rw [decide_eq_true c1, c2]; rfl
          refine ok_gd (by omega) ?_
          refine ok_bs ?_
          refine ok_gd (by omega) ?_
          refine ok_gd (by omega) ?_
          rw [ek]
          refine ih M (k + 1) (c + 1) _ (by omega) (by omega) (fr_I f (Or.inr rfl)) ?_
          have := chI_s ci q
          rw [rI_s]
          exact this
        · rw [if_neg c2]
          refine ok_neg (by decide) ?_
          exact keep (fun q => by unfold Qw at q; rw [Bool.and_eq_true] at q; exact c2 q.2)
      · refine ok_neg c1 ?_
        exact keep (fun q => by unfold Qw at q; rw [Bool.and_eq_true] at q; exact c1 (of_decide_eq_true q.1))
  unfold nX12_togetherOf bX12_togetherOf
  exact key (K 13 10).toNat 100000 0 0 m (by omega) (by omega) fr_r ⟨rfl, rfl⟩
theorem op_together (i : INV h h') (x1 : Int) : both (nX11_together x1 h) (nX12_together x1 h') (cdX 0 1 2 3) := by
  have i0 := i
  have hv := i.1.1.1
  have hm := i.1.1.2
  have hn := inv_n i
  simp only [nX11_together, bX11_together, nX11_together_22, bX11_together_22, nX11_together_44, bX11_together_44, nX8_costOfSet, bX8_costOfSet, nX12_together, bX12_together, bnd_bnd, both]
  by_cases p1 : 0 ≤ x1 ∧ x1 ≤ 7
  · by_cases p2 : 0 < h.1 13 14
    · repeat (first | with_reducible refine ok_gd (by first | omega | decide) ?_ | with_reducible refine ok_bs ?_ | with_reducible refine ok_be (sX12_refuse _ _) ?_ | with_reducible refine ok_be (sX12_told _ _) ?_ | with_reducible refine ok_ndt (sX11_needIndex _ _ _ _) (by omega) ?_ | with_reducible refine ok_ndf (sX11_needIndex _ _ _ _) (by omega) ?_ | with_reducible refine ok_ndt (sX11_needRange _ _ _ _) (by omega) ?_ | with_reducible refine ok_ndf (sX11_needRange _ _ _ _) (by omega) ?_ | with_reducible refine ok_ndt (sX11_needThat2 _ _) (by omega) ?_ | with_reducible refine ok_ndf (sX11_needThat2 _ _) (by omega) ?_ | with_reducible refine ok_ndt (sX11_needState2 _ _) (by omega) ?_ | with_reducible refine ok_ndf (sX11_needState2 _ _) (by omega) ?_ | with_reducible refine ok_ndt (sX11_needElement _ _) (by omega) ?_ | with_reducible refine ok_ndf (sX11_needElement _ _) (by omega) ?_ | with_reducible refine ok_ndt (sX11_needPlace _ _) (by omega) ?_ | with_reducible refine ok_ndf (sX11_needPlace _ _) (by omega) ?_ | with_reducible refine ok_ndt (sX11_needSender _ _) (by omega) ?_ | with_reducible refine ok_ndf (sX11_needSender _ _) (by omega) ?_ | with_reducible refine ok_b2t (sX12_in _ _ _ _) (by omega) ?_ | with_reducible refine ok_b2f (sX12_in _ _ _ _) (by omega) ?_ | with_reducible refine ok_b2t (sX12_isPlace _ _) (by omega) ?_ | with_reducible refine ok_b2f (sX12_isPlace _ _) (by omega) ?_ | with_reducible refine ok_pos (by omega) ?_ | with_reducible refine ok_neg (by omega) ?_ | with_reducible refine ok_tl ?_ | with_reducible refine ok_tr ?_ | dsimp only)
      refine ok_bnd (c_wait (sd := x1) hv (by omega)) (fun g hg => ?_)
      obtain ⟨fg, cg⟩ := hg
      have fsg := sCh_sc fg
      have ig : INV g h' := INV_scr i fsg fr_r
      have e13 := sc_13 fsg
      have cg' : chI (Qw h.1 x1) (g.1 13 10).toNat (g.1 50) (g.1 49 2) := by rw [e13]; exact cg
      have hch : CH g.1 (g.1 49 2) := chI_CH (by rw [e13]; exact hn.1.1) cg'
      refine ok_bnd (c_drive (h := g) ig.1.1.1 hch rfl (v := 0) (by omega) (by rw [e13]; exact p2)) (fun g2 hg2 => ?_)
      obtain ⟨f2, t2⟩ := hg2
      have fk := s51_hk f2
      have hch2 : CH g2.1 (g.1 49 2) := hk_CH hch fk
      have e49 : g2.1 49 2 = g.1 49 2 := f2.2 49 2 (by dsimp only [s51]; omega)
      have hall := allS_b hch.1
      refine ok_be (sX1_all e49 hch.1) ?_
      have so := so_sym (so_fr fk)
      refine ok_bnd (sX1_costOfSet (h := g2) (hk_VAL ig.1.1.1 fk) hch2 e49 (v := 0) (by omega) (by rw [fr_c f2 13 (fun i s => by dsimp only [s51] at s; omega), e13]; exact p2) (S := allS (g.1 49 2)) ⟨hall.1, Int.le_refl _⟩ (fun i i0 i1 ib => so_hkP so (t2 _ i hall.1 (Int.le_refl _) i0 i1 ib))) (fun r hr => ?_)
      have f02 : Fr scC h g2 := fr_t fsg (fr_m (fun c i s => by dsimp only [s51] at s; unfold scC; omega) f2)
      have i2 : INV g2 h' := INV_scr i f02 fr_r
      have z := csP_Q hr
      have cg2 : chI (Qw h.1 x1) (h.1 13 10).toNat (g2.1 50) (g.1 49 2) := by rw [fr_c f2 50 (fun i s => by dsimp only [s51] at s; omega)]; exact cg
      rw [chI_map hch.1 cg2] at z
      have z1 : csQ h.1 0 (chL (Qw h.1 x1) (h.1 13 10).toNat) r := csQ_cg (fun l => sc_cost f02 0 l) z
      obtain ⟨b, eb, fb, zb⟩ := m_tog (sd := x1) hv hm p2 (by omega)
      have er := csQ_u zb z1
      by_cases c : r = -1
      · repeat (first | with_reducible refine ok_gd (by first | omega | decide) ?_ | with_reducible refine ok_bs ?_ | with_reducible refine ok_be (sX12_refuse _ _) ?_ | with_reducible refine ok_be (sX12_told _ _) ?_ | with_reducible refine ok_ndt (sX11_needIndex _ _ _ _) (by omega) ?_ | with_reducible refine ok_ndf (sX11_needIndex _ _ _ _) (by omega) ?_ | with_reducible refine ok_ndt (sX11_needRange _ _ _ _) (by omega) ?_ | with_reducible refine ok_ndf (sX11_needRange _ _ _ _) (by omega) ?_ | with_reducible refine ok_ndt (sX11_needThat2 _ _) (by omega) ?_ | with_reducible refine ok_ndf (sX11_needThat2 _ _) (by omega) ?_ | with_reducible refine ok_ndt (sX11_needState2 _ _) (by omega) ?_ | with_reducible refine ok_ndf (sX11_needState2 _ _) (by omega) ?_ | with_reducible refine ok_ndt (sX11_needElement _ _) (by omega) ?_ | with_reducible refine ok_ndf (sX11_needElement _ _) (by omega) ?_ | with_reducible refine ok_ndt (sX11_needPlace _ _) (by omega) ?_ | with_reducible refine ok_ndf (sX11_needPlace _ _) (by omega) ?_ | with_reducible refine ok_ndt (sX11_needSender _ _) (by omega) ?_ | with_reducible refine ok_ndf (sX11_needSender _ _) (by omega) ?_ | with_reducible refine ok_b2t (sX12_in _ _ _ _) (by omega) ?_ | with_reducible refine ok_b2f (sX12_in _ _ _ _) (by omega) ?_ | with_reducible refine ok_b2t (sX12_isPlace _ _) (by omega) ?_ | with_reducible refine ok_b2f (sX12_isPlace _ _) (by omega) ?_ | with_reducible refine ok_pos (by omega) ?_ | with_reducible refine ok_neg (by omega) ?_ | with_reducible refine ok_tl ?_ | with_reducible refine ok_tr ?_ | dsimp only)
        refine ok_some ?_
        repeat (first | with_reducible refine ok_gd (by first | omega | decide) ?_ | with_reducible refine ok_bs ?_ | with_reducible refine ok_be (sX12_refuse _ _) ?_ | with_reducible refine ok_be (sX12_told _ _) ?_ | with_reducible refine ok_ndt (sX11_needIndex _ _ _ _) (by omega) ?_ | with_reducible refine ok_ndf (sX11_needIndex _ _ _ _) (by omega) ?_ | with_reducible refine ok_ndt (sX11_needRange _ _ _ _) (by omega) ?_ | with_reducible refine ok_ndf (sX11_needRange _ _ _ _) (by omega) ?_ | with_reducible refine ok_ndt (sX11_needThat2 _ _) (by omega) ?_ | with_reducible refine ok_ndf (sX11_needThat2 _ _) (by omega) ?_ | with_reducible refine ok_ndt (sX11_needState2 _ _) (by omega) ?_ | with_reducible refine ok_ndf (sX11_needState2 _ _) (by omega) ?_ | with_reducible refine ok_ndt (sX11_needElement _ _) (by omega) ?_ | with_reducible refine ok_ndf (sX11_needElement _ _) (by omega) ?_ | with_reducible refine ok_ndt (sX11_needPlace _ _) (by omega) ?_ | with_reducible refine ok_ndf (sX11_needPlace _ _) (by omega) ?_ | with_reducible refine ok_ndt (sX11_needSender _ _) (by omega) ?_ | with_reducible refine ok_ndf (sX11_needSender _ _) (by omega) ?_ | with_reducible refine ok_b2t (sX12_in _ _ _ _) (by omega) ?_ | with_reducible refine ok_b2f (sX12_in _ _ _ _) (by omega) ?_ | with_reducible refine ok_b2t (sX12_isPlace _ _) (by omega) ?_ | with_reducible refine ok_b2f (sX12_isPlace _ _) (by omega) ?_ | with_reducible refine ok_pos (by omega) ?_ | with_reducible refine ok_neg (by omega) ?_ | with_reducible refine ok_tl ?_ | with_reducible refine ok_tr ?_ | dsimp only)
        refine ok_be eb ?_
        rw [er]
        repeat (first | with_reducible refine ok_gd (by first | omega | decide) ?_ | with_reducible refine ok_bs ?_ | with_reducible refine ok_be (sX12_refuse _ _) ?_ | with_reducible refine ok_be (sX12_told _ _) ?_ | with_reducible refine ok_ndt (sX11_needIndex _ _ _ _) (by omega) ?_ | with_reducible refine ok_ndf (sX11_needIndex _ _ _ _) (by omega) ?_ | with_reducible refine ok_ndt (sX11_needRange _ _ _ _) (by omega) ?_ | with_reducible refine ok_ndf (sX11_needRange _ _ _ _) (by omega) ?_ | with_reducible refine ok_ndt (sX11_needThat2 _ _) (by omega) ?_ | with_reducible refine ok_ndf (sX11_needThat2 _ _) (by omega) ?_ | with_reducible refine ok_ndt (sX11_needState2 _ _) (by omega) ?_ | with_reducible refine ok_ndf (sX11_needState2 _ _) (by omega) ?_ | with_reducible refine ok_ndt (sX11_needElement _ _) (by omega) ?_ | with_reducible refine ok_ndf (sX11_needElement _ _) (by omega) ?_ | with_reducible refine ok_ndt (sX11_needPlace _ _) (by omega) ?_ | with_reducible refine ok_ndf (sX11_needPlace _ _) (by omega) ?_ | with_reducible refine ok_ndt (sX11_needSender _ _) (by omega) ?_ | with_reducible refine ok_ndf (sX11_needSender _ _) (by omega) ?_ | with_reducible refine ok_b2t (sX12_in _ _ _ _) (by omega) ?_ | with_reducible refine ok_b2f (sX12_in _ _ _ _) (by omega) ?_ | with_reducible refine ok_b2t (sX12_isPlace _ _) (by omega) ?_ | with_reducible refine ok_b2f (sX12_isPlace _ _) (by omega) ?_ | with_reducible refine ok_pos (by omega) ?_ | with_reducible refine ok_neg (by omega) ?_ | with_reducible refine ok_tl ?_ | with_reducible refine ok_tr ?_ | dsimp only)
        exact both_thr (INV_scr i2 fr_r (sTg_sc fb)) (by decide) rfl
      · repeat (first | with_reducible refine ok_gd (by first | omega | decide) ?_ | with_reducible refine ok_bs ?_ | with_reducible refine ok_be (sX12_refuse _ _) ?_ | with_reducible refine ok_be (sX12_told _ _) ?_ | with_reducible refine ok_ndt (sX11_needIndex _ _ _ _) (by omega) ?_ | with_reducible refine ok_ndf (sX11_needIndex _ _ _ _) (by omega) ?_ | with_reducible refine ok_ndt (sX11_needRange _ _ _ _) (by omega) ?_ | with_reducible refine ok_ndf (sX11_needRange _ _ _ _) (by omega) ?_ | with_reducible refine ok_ndt (sX11_needThat2 _ _) (by omega) ?_ | with_reducible refine ok_ndf (sX11_needThat2 _ _) (by omega) ?_ | with_reducible refine ok_ndt (sX11_needState2 _ _) (by omega) ?_ | with_reducible refine ok_ndf (sX11_needState2 _ _) (by omega) ?_ | with_reducible refine ok_ndt (sX11_needElement _ _) (by omega) ?_ | with_reducible refine ok_ndf (sX11_needElement _ _) (by omega) ?_ | with_reducible refine ok_ndt (sX11_needPlace _ _) (by omega) ?_ | with_reducible refine ok_ndf (sX11_needPlace _ _) (by omega) ?_ | with_reducible refine ok_ndt (sX11_needSender _ _) (by omega) ?_ | with_reducible refine ok_ndf (sX11_needSender _ _) (by omega) ?_ | with_reducible refine ok_b2t (sX12_in _ _ _ _) (by omega) ?_ | with_reducible refine ok_b2f (sX12_in _ _ _ _) (by omega) ?_ | with_reducible refine ok_b2t (sX12_isPlace _ _) (by omega) ?_ | with_reducible refine ok_b2f (sX12_isPlace _ _) (by omega) ?_ | with_reducible refine ok_pos (by omega) ?_ | with_reducible refine ok_neg (by omega) ?_ | with_reducible refine ok_tl ?_ | with_reducible refine ok_tr ?_ | dsimp only)
        refine ok_some ?_
        repeat (first | with_reducible refine ok_gd (by first | omega | decide) ?_ | with_reducible refine ok_bs ?_ | with_reducible refine ok_be (sX12_refuse _ _) ?_ | with_reducible refine ok_be (sX12_told _ _) ?_ | with_reducible refine ok_ndt (sX11_needIndex _ _ _ _) (by omega) ?_ | with_reducible refine ok_ndf (sX11_needIndex _ _ _ _) (by omega) ?_ | with_reducible refine ok_ndt (sX11_needRange _ _ _ _) (by omega) ?_ | with_reducible refine ok_ndf (sX11_needRange _ _ _ _) (by omega) ?_ | with_reducible refine ok_ndt (sX11_needThat2 _ _) (by omega) ?_ | with_reducible refine ok_ndf (sX11_needThat2 _ _) (by omega) ?_ | with_reducible refine ok_ndt (sX11_needState2 _ _) (by omega) ?_ | with_reducible refine ok_ndf (sX11_needState2 _ _) (by omega) ?_ | with_reducible refine ok_ndt (sX11_needElement _ _) (by omega) ?_ | with_reducible refine ok_ndf (sX11_needElement _ _) (by omega) ?_ | with_reducible refine ok_ndt (sX11_needPlace _ _) (by omega) ?_ | with_reducible refine ok_ndf (sX11_needPlace _ _) (by omega) ?_ | with_reducible refine ok_ndt (sX11_needSender _ _) (by omega) ?_ | with_reducible refine ok_ndf (sX11_needSender _ _) (by omega) ?_ | with_reducible refine ok_b2t (sX12_in _ _ _ _) (by omega) ?_ | with_reducible refine ok_b2f (sX12_in _ _ _ _) (by omega) ?_ | with_reducible refine ok_b2t (sX12_isPlace _ _) (by omega) ?_ | with_reducible refine ok_b2f (sX12_isPlace _ _) (by omega) ?_ | with_reducible refine ok_pos (by omega) ?_ | with_reducible refine ok_neg (by omega) ?_ | with_reducible refine ok_tl ?_ | with_reducible refine ok_tr ?_ | dsimp only)
        refine ok_be eb ?_
        rw [er]
        repeat (first | with_reducible refine ok_gd (by first | omega | decide) ?_ | with_reducible refine ok_bs ?_ | with_reducible refine ok_be (sX12_refuse _ _) ?_ | with_reducible refine ok_be (sX12_told _ _) ?_ | with_reducible refine ok_ndt (sX11_needIndex _ _ _ _) (by omega) ?_ | with_reducible refine ok_ndf (sX11_needIndex _ _ _ _) (by omega) ?_ | with_reducible refine ok_ndt (sX11_needRange _ _ _ _) (by omega) ?_ | with_reducible refine ok_ndf (sX11_needRange _ _ _ _) (by omega) ?_ | with_reducible refine ok_ndt (sX11_needThat2 _ _) (by omega) ?_ | with_reducible refine ok_ndf (sX11_needThat2 _ _) (by omega) ?_ | with_reducible refine ok_ndt (sX11_needState2 _ _) (by omega) ?_ | with_reducible refine ok_ndf (sX11_needState2 _ _) (by omega) ?_ | with_reducible refine ok_ndt (sX11_needElement _ _) (by omega) ?_ | with_reducible refine ok_ndf (sX11_needElement _ _) (by omega) ?_ | with_reducible refine ok_ndt (sX11_needPlace _ _) (by omega) ?_ | with_reducible refine ok_ndf (sX11_needPlace _ _) (by omega) ?_ | with_reducible refine ok_ndt (sX11_needSender _ _) (by omega) ?_ | with_reducible refine ok_ndf (sX11_needSender _ _) (by omega) ?_ | with_reducible refine ok_b2t (sX12_in _ _ _ _) (by omega) ?_ | with_reducible refine ok_b2f (sX12_in _ _ _ _) (by omega) ?_ | with_reducible refine ok_b2t (sX12_isPlace _ _) (by omega) ?_ | with_reducible refine ok_b2f (sX12_isPlace _ _) (by omega) ?_ | with_reducible refine ok_pos (by omega) ?_ | with_reducible refine ok_neg (by omega) ?_ | with_reducible refine ok_tl ?_ | with_reducible refine ok_tr ?_ | dsimp only)
        exact both_ok rfl (INV_thr (INV_scr i2 fr_r (sTg_sc fb)))
    · repeat (first | with_reducible refine ok_gd (by first | omega | decide) ?_ | with_reducible refine ok_bs ?_ | with_reducible refine ok_be (sX12_refuse _ _) ?_ | with_reducible refine ok_be (sX12_told _ _) ?_ | with_reducible refine ok_ndt (sX11_needIndex _ _ _ _) (by omega) ?_ | with_reducible refine ok_ndf (sX11_needIndex _ _ _ _) (by omega) ?_ | with_reducible refine ok_ndt (sX11_needRange _ _ _ _) (by omega) ?_ | with_reducible refine ok_ndf (sX11_needRange _ _ _ _) (by omega) ?_ | with_reducible refine ok_ndt (sX11_needThat2 _ _) (by omega) ?_ | with_reducible refine ok_ndf (sX11_needThat2 _ _) (by omega) ?_ | with_reducible refine ok_ndt (sX11_needState2 _ _) (by omega) ?_ | with_reducible refine ok_ndf (sX11_needState2 _ _) (by omega) ?_ | with_reducible refine ok_ndt (sX11_needElement _ _) (by omega) ?_ | with_reducible refine ok_ndf (sX11_needElement _ _) (by omega) ?_ | with_reducible refine ok_ndt (sX11_needPlace _ _) (by omega) ?_ | with_reducible refine ok_ndf (sX11_needPlace _ _) (by omega) ?_ | with_reducible refine ok_ndt (sX11_needSender _ _) (by omega) ?_ | with_reducible refine ok_ndf (sX11_needSender _ _) (by omega) ?_ | with_reducible refine ok_b2t (sX12_in _ _ _ _) (by omega) ?_ | with_reducible refine ok_b2f (sX12_in _ _ _ _) (by omega) ?_ | with_reducible refine ok_b2t (sX12_isPlace _ _) (by omega) ?_ | with_reducible refine ok_b2f (sX12_isPlace _ _) (by omega) ?_ | with_reducible refine ok_pos (by omega) ?_ | with_reducible refine ok_neg (by omega) ?_ | with_reducible refine ok_tl ?_ | with_reducible refine ok_tr ?_ | dsimp only)
      refine ok_some ?_
      repeat (first | with_reducible refine ok_gd (by first | omega | decide) ?_ | with_reducible refine ok_bs ?_ | with_reducible refine ok_be (sX12_refuse _ _) ?_ | with_reducible refine ok_be (sX12_told _ _) ?_ | with_reducible refine ok_ndt (sX11_needIndex _ _ _ _) (by omega) ?_ | with_reducible refine ok_ndf (sX11_needIndex _ _ _ _) (by omega) ?_ | with_reducible refine ok_ndt (sX11_needRange _ _ _ _) (by omega) ?_ | with_reducible refine ok_ndf (sX11_needRange _ _ _ _) (by omega) ?_ | with_reducible refine ok_ndt (sX11_needThat2 _ _) (by omega) ?_ | with_reducible refine ok_ndf (sX11_needThat2 _ _) (by omega) ?_ | with_reducible refine ok_ndt (sX11_needState2 _ _) (by omega) ?_ | with_reducible refine ok_ndf (sX11_needState2 _ _) (by omega) ?_ | with_reducible refine ok_ndt (sX11_needElement _ _) (by omega) ?_ | with_reducible refine ok_ndf (sX11_needElement _ _) (by omega) ?_ | with_reducible refine ok_ndt (sX11_needPlace _ _) (by omega) ?_ | with_reducible refine ok_ndf (sX11_needPlace _ _) (by omega) ?_ | with_reducible refine ok_ndt (sX11_needSender _ _) (by omega) ?_ | with_reducible refine ok_ndf (sX11_needSender _ _) (by omega) ?_ | with_reducible refine ok_b2t (sX12_in _ _ _ _) (by omega) ?_ | with_reducible refine ok_b2f (sX12_in _ _ _ _) (by omega) ?_ | with_reducible refine ok_b2t (sX12_isPlace _ _) (by omega) ?_ | with_reducible refine ok_b2f (sX12_isPlace _ _) (by omega) ?_ | with_reducible refine ok_pos (by omega) ?_ | with_reducible refine ok_neg (by omega) ?_ | with_reducible refine ok_tl ?_ | with_reducible refine ok_tr ?_ | dsimp only)
      exact both_thr i0 (by decide) rfl
  · repeat (first | with_reducible refine ok_gd (by first | omega | decide) ?_ | with_reducible refine ok_bs ?_ | with_reducible refine ok_be (sX12_refuse _ _) ?_ | with_reducible refine ok_be (sX12_told _ _) ?_ | with_reducible refine ok_ndt (sX11_needIndex _ _ _ _) (by omega) ?_ | with_reducible refine ok_ndf (sX11_needIndex _ _ _ _) (by omega) ?_ | with_reducible refine ok_ndt (sX11_needRange _ _ _ _) (by omega) ?_ | with_reducible refine ok_ndf (sX11_needRange _ _ _ _) (by omega) ?_ | with_reducible refine ok_ndt (sX11_needThat2 _ _) (by omega) ?_ | with_reducible refine ok_ndf (sX11_needThat2 _ _) (by omega) ?_ | with_reducible refine ok_ndt (sX11_needState2 _ _) (by omega) ?_ | with_reducible refine ok_ndf (sX11_needState2 _ _) (by omega) ?_ | with_reducible refine ok_ndt (sX11_needElement _ _) (by omega) ?_ | with_reducible refine ok_ndf (sX11_needElement _ _) (by omega) ?_ | with_reducible refine ok_ndt (sX11_needPlace _ _) (by omega) ?_ | with_reducible refine ok_ndf (sX11_needPlace _ _) (by omega) ?_ | with_reducible refine ok_ndt (sX11_needSender _ _) (by omega) ?_ | with_reducible refine ok_ndf (sX11_needSender _ _) (by omega) ?_ | with_reducible refine ok_b2t (sX12_in _ _ _ _) (by omega) ?_ | with_reducible refine ok_b2f (sX12_in _ _ _ _) (by omega) ?_ | with_reducible refine ok_b2t (sX12_isPlace _ _) (by omega) ?_ | with_reducible refine ok_b2f (sX12_isPlace _ _) (by omega) ?_ | with_reducible refine ok_pos (by omega) ?_ | with_reducible refine ok_neg (by omega) ?_ | with_reducible refine ok_tl ?_ | with_reducible refine ok_tr ?_ | dsimp only)
    refine ok_some ?_
    repeat (first | with_reducible refine ok_gd (by first | omega | decide) ?_ | with_reducible refine ok_bs ?_ | with_reducible refine ok_be (sX12_refuse _ _) ?_ | with_reducible refine ok_be (sX12_told _ _) ?_ | with_reducible refine ok_ndt (sX11_needIndex _ _ _ _) (by omega) ?_ | with_reducible refine ok_ndf (sX11_needIndex _ _ _ _) (by omega) ?_ | with_reducible refine ok_ndt (sX11_needRange _ _ _ _) (by omega) ?_ | with_reducible refine ok_ndf (sX11_needRange _ _ _ _) (by omega) ?_ | with_reducible refine ok_ndt (sX11_needThat2 _ _) (by omega) ?_ | with_reducible refine ok_ndf (sX11_needThat2 _ _) (by omega) ?_ | with_reducible refine ok_ndt (sX11_needState2 _ _) (by omega) ?_ | with_reducible refine ok_ndf (sX11_needState2 _ _) (by omega) ?_ | with_reducible refine ok_ndt (sX11_needElement _ _) (by omega) ?_ | with_reducible refine ok_ndf (sX11_needElement _ _) (by omega) ?_ | with_reducible refine ok_ndt (sX11_needPlace _ _) (by omega) ?_ | with_reducible refine ok_ndf (sX11_needPlace _ _) (by omega) ?_ | with_reducible refine ok_ndt (sX11_needSender _ _) (by omega) ?_ | with_reducible refine ok_ndf (sX11_needSender _ _) (by omega) ?_ | with_reducible refine ok_b2t (sX12_in _ _ _ _) (by omega) ?_ | with_reducible refine ok_b2f (sX12_in _ _ _ _) (by omega) ?_ | with_reducible refine ok_b2t (sX12_isPlace _ _) (by omega) ?_ | with_reducible refine ok_b2f (sX12_isPlace _ _) (by omega) ?_ | with_reducible refine ok_pos (by omega) ?_ | with_reducible refine ok_neg (by omega) ?_ | with_reducible refine ok_tl ?_ | with_reducible refine ok_tr ?_ | dsimp only)
    exact both_thr i0 (by decide) rfl
end CHOOSE
