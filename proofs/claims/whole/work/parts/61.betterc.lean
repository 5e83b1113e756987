/-! BETTER: the class -/
section BETC
variable {h h' m : HH} {K : Nat → Int → Int} {l : List Int}
theorem sc_row (f : Fr scC h m) {v : Int} (v0 : 0 ≤ v) (v3 : v < 3) : rowL (m.1 (rwK 3 28 v)) 0 (h.1 31 v).toNat = rnd h.1 v := by
  rw [← sc_rnd f v0 v3, rnd, sc_31 f]
theorem rw3x {v : Int} (v0 : 0 ≤ v) (v3 : v < 3) : rwK 3 28 v ≠ 35 ∧ rwK 3 28 v ≠ 36 ∧ rwK 3 28 v ≠ 37 := by have := rwK_r v0 v3; omega
theorem stB_fr {base n : Int} {S : Nat → Int → Prop} {m g : HH} (f : Fr S m g) (q : ∀ c i, S c i → c ≠ 34 ∧ c ≠ 36) : ∀ {s : Option (Int × List Int)}, stB base n m s → stB base n g s
  | none, hs => by
    have e := fr_c f 34 (fun i z => (q _ _ z).1 rfl)
    unfold stB at hs ⊢
    rw [e]; exact hs
  | some (c, l), hs => by
    have e := fr_c f 34 (fun i z => (q _ _ z).1 rfl)
    have e2 := fr_c f 36 (fun i z => (q _ _ z).2 rfl)
    unfold stB at hs ⊢
    rw [e, e2]; exact hs
theorem c_tn12 (i : INV h h') {v base st : Int} (v0 : 0 ≤ v) (v1 : v < h.1 13 14) (st0 : 0 ≤ st) {c2 : Int → Int → Int → HH → Option HH} {P : HH → Prop} : ∀ (r N : Nat) (e : Int) (C : List Int → Prop) (s : Option (Int × List Int)) (m : HH), r < N → e + r = h.1 31 v + 1 → st + 2 ≤ e → Fr sBM h m → stB base (h.1 31 v) m s → mvS h.1 v base C s → (∀ m' s', Fr sBM h m' → stB base (h.1 31 v) m' s' → mvS h.1 v base (fun x => C x ∨ ∃ e', (e ≤ e' ∧ e' ≤ h.1 31 v) ∧ x = trnL (rnd h.1 v) st.toNat e'.toNat) s' → Ok (c2 v (h.1 31 v) (st + 1) m') P) → Ok (nX7_tryTurns_12 c2 N v (h.1 31 v) st e m) P := by
  have hn := inv_n i
  have hb := inv_RV i v v0 (by omega)
  have hw := rw3x v0 (show v < 3 by omega)
  intro r
  induction r with
  | zero =>
    intro N e C s m hN he hse f hs hC hk
    obtain ⟨M, rfl⟩ := fuel_s hN
    rw [nX7_tryTurns_12_s]
    simp only [bX7_tryTurns_12]
    refine ok_pos (by omega) ?_
    refine ok_gd (by omega) ?_
    refine hk m s f hs (mvS_cg (fun x => ⟨Or.inl, fun q => ?_⟩) hC)
    rcases q with q | ⟨e', q, _⟩
    · exact q
    · omega
  | succ r ih =>
    intro N e C s m hN he hse f hs hC hk
    obtain ⟨M, rfl⟩ := fuel_s hN
    rw [nX7_tryTurns_12_s]
    simp only [bX7_tryTurns_12]
    refine ok_neg (by omega) ?_
    refine ok_gd (by omega) ?_
    refine ok_bf (rwK_0 v0 (by omega)) ?_
    refine ok_bnd (sX6_turn (h := m) (a9_rw v0 (by omega)) a9_35 hw.1 (n := h.1 31 v) (s := st) (e := e) st0 (by omega) (by omega) (by omega)) (fun q hq => ?_)
    obtain ⟨q1, q2⟩ := hq
    rw [sc_row (sBM_sc f) v0 (by omega)] at q1
    have fq : Fr sBM h q := fr_t f (fr_m (fun c i s => by unfold sA at s; dsimp only [sBM]; omega) q2)
    have hin : inR h.1 (trnL (rnd h.1 v) st.toNat e.toNat) := fun p hp => hb.2 p ((trnL_perm (by omega)).mem_iff.mp hp)
    refine ok_bnd (c_take i fq v0 v1 hb.1 q1 hin (stB_fr q2 (fun c i s => by unfold sA at s; omega) hs)) (fun g hg => ?_)
    refine ok_gd (by omega) ?_
    refine ih M (e + 1) (fun x => C x ∨ x = trnL (rnd h.1 v) st.toNat e.toNat) _ g (by omega) (by omega) (by omega) (fr_t fq (fr_m (fun c i s => by dsimp only [sBM]; omega) hg.1)) hg.2 (mvS_s hC) (fun m' s' f' hs' hC' => hk m' s' f' hs' (mvS_cg (fun x => ⟨fun q => ?_, fun q => ?_⟩) hC'))
    · rcases q with (q | q) | ⟨e', q, w⟩
      · exact Or.inl q
      · exact Or.inr ⟨e, by omega, q⟩
      · exact Or.inr ⟨e', by omega, w⟩
    · rcases q with q | ⟨e', q, w⟩
      · exact Or.inl (Or.inl q)
      · by_cases c : e' = e
        · rw [c] at w; exact Or.inl (Or.inr w)
        · exact Or.inr ⟨e', by omega, w⟩
theorem c_tn2 (i : INV h h') {v base : Int} (v0 : 0 ≤ v) (v1 : v < h.1 13 14) : ∀ (r N : Nat) (st : Int) (C : List Int → Prop) (s : Option (Int × List Int)) (m : HH), r < N → st + r = h.1 31 v → 0 ≤ st → Fr sBM h m → stB base (h.1 31 v) m s → mvS h.1 v base C s → Ok (nX7_tryTurns_2 N v (h.1 31 v) st m) (fun g => ∃ s', Fr sBM h g ∧ stB base (h.1 31 v) g s' ∧ mvS h.1 v base (fun x => C x ∨ ∃ a e, (st ≤ a ∧ a + 2 ≤ e ∧ e ≤ h.1 31 v) ∧ x = trnL (rnd h.1 v) a.toNat e.toNat) s') := by
  have hn := inv_n i
  have hb := inv_RV i v v0 (by omega)
  intro r
  induction r with
  | zero =>
    intro N st C s m hN hst h0 f hs hC
    obtain ⟨M, rfl⟩ := fuel_s hN
    rw [nX7_tryTurns_2_s]
    simp only [bX7_tryTurns_2]
    refine ok_neg (by omega) ?_
    refine ok_some ⟨s, f, hs, mvS_cg (fun x => ⟨Or.inl, fun q => ?_⟩) hC⟩
    rcases q with q | ⟨a, e, q, _⟩
    · exact q
    · omega
  | succ r ih =>
    intro N st C s m hN hst h0 f hs hC
    obtain ⟨M, rfl⟩ := fuel_s hN
    rw [nX7_tryTurns_2_s]
    simp only [bX7_tryTurns_2]
    refine ok_pos (by omega) ?_
    refine ok_gd (by omega) ?_
    refine c_tn12 i v0 v1 h0 r 100000 (st + 2) C s m (by omega) (by omega) (by omega) f hs hC (fun m' s' f' hs' hC' => ?_)
    refine ok_mono (ih M (st + 1) _ s' m' (by omega) (by omega) (by omega) f' hs' hC') (fun g hg => ?_)
    obtain ⟨t, t1, t2, t3⟩ := hg
    refine ⟨t, t1, t2, mvS_cg (fun x => ⟨fun q => ?_, fun q => ?_⟩) t3⟩
    · rcases q with (q | ⟨e, q, w⟩) | ⟨a, e, q, w⟩
      · exact Or.inl q
      · exact Or.inr ⟨st, e, by omega, w⟩
      · exact Or.inr ⟨a, e, by omega, w⟩
    · rcases q with q | ⟨a, e, q, w⟩
      · exact Or.inl (Or.inl q)
      · by_cases c : a = st
        · rw [c] at w q; exact Or.inl (Or.inr ⟨e, by omega, w⟩)
        · exact Or.inr ⟨a, e, by omega, w⟩
theorem c_mv30 (i : INV h h') {v base a : Int} (v0 : 0 ≤ v) (v1 : v < h.1 13 14) (a0 : 0 ≤ a) (a1 : a < h.1 31 v) {c2 : Int → Int → Int → HH → Option HH} {P : HH → Prop} : ∀ (r N : Nat) (b : Int) (C : List Int → Prop) (s : Option (Int × List Int)) (m : HH), r < N → b + r = h.1 31 v → 0 ≤ b → Fr sBM h m → rowL (m.1 37) 0 (h.1 31 v - 1).toNat = remL (rnd h.1 v) a.toNat → stB base (h.1 31 v) m s → mvS h.1 v base C s → (∀ m' s', Fr sBM h m' → stB base (h.1 31 v) m' s' → mvS h.1 v base (fun x => C x ∨ ∃ b', (b ≤ b' ∧ b' < h.1 31 v ∧ a ≠ b') ∧ x = insL (remL (rnd h.1 v) a.toNat) b'.toNat ((rnd h.1 v).getD a.toNat 0)) s' → Ok (c2 v (h.1 31 v) (a + 1) m') P) → Ok (nX7_tryMoves_30 c2 N v (h.1 31 v) a (h.1 31 v - 1) b m) P := by
  have hn := inv_n i
  have hb := inv_RV i v v0 (by omega)
  have hw := rw3x v0 (show v < 3 by omega)
  have hlen : (rnd h.1 v).length = (h.1 31 v).toNat := rnd_len
  intro r
  induction r with
  | zero =>
    intro N b C s m hN he h0 f h37 hs hC hk
    obtain ⟨M, rfl⟩ := fuel_s hN
    rw [nX7_tryMoves_30_s]
    simp only [bX7_tryMoves_30]
    refine ok_neg (by omega) ?_
    refine ok_gd (by omega) ?_
    refine hk m s f hs (mvS_cg (fun x => ⟨Or.inl, fun q => ?_⟩) hC)
    rcases q with q | ⟨e', q, _⟩
    · exact q
    · omega
  | succ r ih =>
    intro N b C s m hN he h0 f h37 hs hC hk
    obtain ⟨M, rfl⟩ := fuel_s hN
    rw [nX7_tryMoves_30_s]
    simp only [bX7_tryMoves_30, nX7_tryMoves_75, bX7_tryMoves_75]
    refine ok_pos (by omega) ?_
    by_cases cab : b = a
    · refine ok_pos cab ?_
      refine ok_gd (by omega) ?_
      refine ih M (b + 1) C s m (by omega) (by omega) (by omega) f h37 hs hC (fun m' s' f' hs' hC' => hk m' s' f' hs' (mvS_cg (fun x => ⟨fun q => ?_, fun q => ?_⟩) hC'))
      · rcases q with q | ⟨b', q, w⟩
        · exact Or.inl q
        · exact Or.inr ⟨b', by omega, w⟩
      · rcases q with q | ⟨b', q, w⟩
        · exact Or.inl q
        · exact Or.inr ⟨b', by omega, w⟩
    · refine ok_neg cab ?_
      refine ok_gd (by omega) ?_
      refine ok_bf (rwK_0 v0 (by omega)) ?_
      refine ok_bt (a9_ok (a9_rw v0 (by omega))) ?_
      refine ok_gd (by rw [(a9_rw v0 (show v < 3 by omega)).2]; omega) ?_
      have ea : m.1 (rwK 3 28 v) a = (rnd h.1 v).getD a.toNat 0 := by
        rw [← sc_row (sBM_sc f) v0 (by omega), rowL_getD (by omega), show (0 : Int) + (a.toNat : Int) = a by omega]
      rw [ea]
      refine ok_bnd (sX6_insert (h := m) a9_37 a9_35 (by decide) (n := h.1 31 v - 1) (i := b) (p := (rnd h.1 v).getD a.toNat 0) h0 (by omega) (by omega)) (fun q hq => ?_)
      obtain ⟨⟨q0, q1⟩, q2⟩ := hq
      rw [h37, show h.1 31 v - 1 + 1 = h.1 31 v by omega] at q1
      have fq : Fr sBM h q.2 := fr_t f (fr_m (fun c i s => by unfold sA at s; dsimp only [sBM]; omega) q2)
      have hin : inR h.1 (insL (remL (rnd h.1 v) a.toNat) b.toNat ((rnd h.1 v).getD a.toNat 0)) := fun p hp => by
        rcases insL_m.mp hp with e | e
        · rw [e]; exact hb.2 _ (getD_mem (by omega))
        · exact hb.2 p (remL_m e)
      refine ok_bnd (c_take i fq v0 v1 hb.1 q1 hin (stB_fr q2 (fun c i s => by unfold sA at s; omega) hs)) (fun g hg => ?_)
      refine ok_gd (by omega) ?_
      refine ih M (b + 1) (fun x => C x ∨ x = insL (remL (rnd h.1 v) a.toNat) b.toNat ((rnd h.1 v).getD a.toNat 0)) _ g (by omega) (by omega) (by omega) (fr_t fq (fr_m (fun c i s => by dsimp only [sBM]; omega) hg.1)) (by rw [fr_c hg.1 37 (fun i s => by omega), fr_c q2 37 (fun i s => by unfold sA at s; omega)]; exact h37) hg.2 (mvS_s hC) (fun m' s' f' hs' hC' => hk m' s' f' hs' (mvS_cg (fun x => ⟨fun q => ?_, fun q => ?_⟩) hC'))
      · rcases q with (q | q) | ⟨e', q, w⟩
        · exact Or.inl q
        · exact Or.inr ⟨b, by omega, q⟩
        · exact Or.inr ⟨e', by omega, w⟩
      · rcases q with q | ⟨e', q, w⟩
        · exact Or.inl (Or.inl q)
        · by_cases c : e' = b
          · rw [c] at w; exact Or.inl (Or.inr w)
          · exact Or.inr ⟨e', by omega, w⟩
theorem c_mv2 (i : INV h h') {v base : Int} (v0 : 0 ≤ v) (v1 : v < h.1 13 14) : ∀ (r N : Nat) (a : Int) (C : List Int → Prop) (s : Option (Int × List Int)) (m : HH), r < N → a + r = h.1 31 v → 0 ≤ a → Fr sBM h m → stB base (h.1 31 v) m s → mvS h.1 v base C s → Ok (nX7_tryMoves_2 N v (h.1 31 v) a m) (fun g => ∃ s', Fr sBM h g ∧ stB base (h.1 31 v) g s' ∧ mvS h.1 v base (fun x => C x ∨ ∃ a' b', (a ≤ a' ∧ a' < h.1 31 v ∧ (0 ≤ b' ∧ b' < h.1 31 v) ∧ a' ≠ b') ∧ x = insL (remL (rnd h.1 v) a'.toNat) b'.toNat ((rnd h.1 v).getD a'.toNat 0)) s') := by
  have hn := inv_n i
  have hb := inv_RV i v v0 (by omega)
  have hw := rw3x v0 (show v < 3 by omega)
  intro r
  induction r with
  | zero =>
    intro N a C s m hN hst h0 f hs hC
    obtain ⟨M, rfl⟩ := fuel_s hN
    rw [nX7_tryMoves_2_s]
    simp only [bX7_tryMoves_2]
    refine ok_neg (by omega) ?_
    refine ok_some ⟨s, f, hs, mvS_cg (fun x => ⟨Or.inl, fun q => ?_⟩) hC⟩
    rcases q with q | ⟨a, e, q, _⟩
    · exact q
    · omega
  | succ r ih =>
    intro N a C s m hN hst h0 f hs hC
    obtain ⟨M, rfl⟩ := fuel_s hN
    rw [nX7_tryMoves_2_s]
    simp only [bX7_tryMoves_2]
    refine ok_pos (by omega) ?_
    refine ok_gd (by omega) ?_
    refine ok_bf (rwK_0 v0 (by omega)) ?_
    refine ok_bnd (sX6_remove (h := m) (a9_rw v0 (by omega)) a9_37 hw.2.2 (n := h.1 31 v) (i := a) h0 (by omega) (by omega)) (fun q hq => ?_)
    obtain ⟨⟨q0, q1⟩, q2⟩ := hq
    rw [sc_row (sBM_sc f) v0 (by omega)] at q1
    rw [q0]
    refine c_mv30 i v0 v1 h0 (by omega) (h.1 31 v).toNat 100000 0 C s q.2 (by omega) (by omega) (by omega) (fr_t f (fr_m (fun c i s => by unfold sA at s; dsimp only [sBM]; omega) q2)) q1 (stB_fr q2 (fun c i s => by unfold sA at s; omega) hs) hC (fun m' s' f' hs' hC' => ?_)
    refine ok_mono (ih M (a + 1) _ s' m' (by omega) (by omega) (by omega) f' hs' hC') (fun g hg => ?_)
    obtain ⟨t, t1, t2, t3⟩ := hg
    refine ⟨t, t1, t2, mvS_cg (fun x => ⟨fun q => ?_, fun q => ?_⟩) t3⟩
    · rcases q with (q | ⟨e, q, w⟩) | ⟨a, e, q, w⟩
      · exact Or.inl q
      · exact Or.inr ⟨a, e, by omega, w⟩
      · exact Or.inr ⟨a, e, by omega, w⟩
    · rcases q with q | ⟨a', e, q, w⟩
      · exact Or.inl (Or.inl q)
      · by_cases c : a' = a
        · rw [c] at w q; exact Or.inl (Or.inr ⟨e, by omega, w⟩)
        · exact Or.inr ⟨a', e, by omega, w⟩
/-- what the best move is, and what the class makes of it -/
def bmC (h : HH) (v : Int) (s : Option (Int × List Int)) (r : Int × HH) : Prop := ∃ g1, Fr sBM h g1 ∧ match s with
  | none => r = (0, g1)
  | some (_, l) => r.1 = 1 ∧ (r.2.1 31 v = h.1 31 v ∧ rnd r.2.1 v = l ∧ ∀ w : Int, 0 ≤ w → w < 3 → w ≠ v → r.2.1 31 w = g1.1 31 w ∧ rnd r.2.1 w = rnd g1.1 w) ∧ Fr (sRw v) g1 r.2
theorem c_best (i : INV h h') {v : Int} (v0 : 0 ≤ v) (v1 : v < h.1 13 14) : Ok (nX7_makeBestMove v h) (fun r => ∃ s, mvS h.1 v (costL h.1 v (rnd h.1 v)) (cAll (rnd h.1 v) (h.1 31 v)) s ∧ bmC h v s r) := by
  have hn := inv_n i
  have hb := inv_RV i v v0 (by omega)
  have hw := rw3x v0 (show v < 3 by omega)
  have cb := costL_b i.1.1.1 v0 v1 hb.2
  simp only [nX7_makeBestMove, bX7_makeBestMove]
  refine ok_gd (by omega) ?_
  refine ok_be (sX6_costNow i.1.1.1 (inv_RV i) v0 v1) ?_
  generalize hbase : costL h.1 v (rnd h.1 v) = base at *
  refine ok_bs ?_
  refine ok_gd (by decide) ?_
  refine ok_bs ?_
  have f1 : Fr sBM h (hI (hI h 34 5 base) 34 6 0) := fr_I (fr_I fr_r (by decide)) (by decide)
  have s1 : stB base (h.1 31 v) (hI (hI h 34 5 base) 34 6 0) none := by
    unfold stB
    simp (disch := decide) only [rI_s, rI_n, rI_2, rC_s, rC_n, rC_2, rJ_1, rJ_s, rJ_n, updI_at, if_pos, if_neg]
    exact ⟨trivial, trivial⟩
  unfold nX7_tryTurns bX7_tryTurns
  refine ok_bnd (c_tn2 i v0 v1 (h.1 31 v).toNat 100000 0 (fun _ => False) none _ (by omega) (by omega) (by omega) f1 s1 (fun x hx => absurd hx not_false)) (fun g hg => ?_)
  obtain ⟨t, t1, t2, t3⟩ := hg
  unfold nX7_tryMoves bX7_tryMoves
  refine ok_bnd (c_mv2 i v0 v1 (h.1 31 v).toNat 100000 0 _ t g (by omega) (by omega) (by omega) t1 t2 t3) (fun g2 hg2 => ?_)
  obtain ⟨s, u1, u2, u3⟩ := hg2
  have u4 : mvS h.1 v base (cAll (rnd h.1 v) (h.1 31 v)) s := mvS_cg (fun x => ⟨fun q => ?_, fun q => ?_⟩) u3
  · cases s with
    | none =>
      have z := u2.1
      refine ok_pos z ?_
      refine ok_gd (by omega) ?_
      exact ok_some ⟨none, u4, g2, u1, by rw [z]⟩
    | some p =>
      obtain ⟨c, l⟩ := p
      obtain ⟨z1, z2, z3⟩ := u2
      refine ok_neg (by omega) ?_
      refine ok_bnd (sX6_replace (h := g2) v0 (by omega) a9_36 hw.2.1 hb.1.1 hb.1.2) (fun g3 hg3 => ?_)
      obtain ⟨⟨w1, w2, w3⟩, w4⟩ := hg3
      have e34 : g3.1 34 6 = 1 := by
        have := rwK_r v0 (show v < 3 by omega)
        rw [w4.2 34 6 (by unfold sRw; omega)]; exact z1
      rw [e34]
      refine ok_gd (by decide) ?_
      exact ok_some ⟨some (c, l), u4, g2, u1, rfl, ⟨w1, by rw [w2, z3], w3⟩, w4⟩
  · rcases q with (q | ⟨a, e, q, w⟩) | ⟨a, b, q, w⟩
    · exact absurd q not_false
    · exact Or.inl ⟨a, e - 1, by omega, by rw [show e - 1 + 1 = e by omega]; exact w⟩
    · exact Or.inr ⟨a, b, by omega, w⟩
  · rcases q with ⟨a, b, q, w⟩ | ⟨a, b, q, w⟩
    · exact Or.inl (Or.inr ⟨a, b + 1, by omega, w⟩)
    · exact Or.inr ⟨a, b, by omega, w⟩
end BETC
