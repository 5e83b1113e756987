/-! SHARES of what senders cost together -/
section SHARE
variable {h h' m : HH} {K K1 : Nat → Int → Int} {v n : Int}
theorem orS_n {S i : Int} (hS : 0 ≤ S ∧ S < 512) (hi : 0 ≤ i ∧ i < 9) : orI S (shlI 1 i) = ((S.toNat ||| 2 ^ i.toNat : Nat) : Int) := by
  have := bit_or ⟨S.toNat, by omega⟩ ⟨i.toNat, by omega⟩
  dsimp only at this
  rw [show ((S.toNat : Nat) : Int) = S by omega, show ((i.toNat : Nat) : Int) = i by omega] at this
  exact this
theorem orS_b {S i : Int} (hS : 0 ≤ S ∧ S < 512) (hi : 0 ≤ i ∧ i < 9) : 0 ≤ orI S (shlI 1 i) ∧ orI S (shlI 1 i) < 512 := by
  rw [orS_n hS hi]
  have h1 : 2 ^ i.toNat < 2 ^ 9 := Nat.pow_lt_pow_right (by omega) (by omega)
  have : (S.toNat ||| 2 ^ i.toNat) < 2 ^ 9 := Nat.or_lt_two_pow (by omega) h1
  omega
theorem orS_bt {S i j : Int} (hS : 0 ≤ S ∧ S < 512) (hi : 0 ≤ i ∧ i < 9) (hj : 0 ≤ j ∧ j < 9) : bt (orI S (shlI 1 i)) j = true ↔ bt S j = true ∨ j = i := by
  have e : bt (orI S (shlI 1 i)) j = (Nat.testBit S.toNat j.toNat || decide (i.toNat = j.toNat)) := by
    unfold bt
    rw [orS_n hS hi, Int.toNat_natCast, Nat.testBit_or, Nat.testBit_two_pow]
  rw [e, Bool.or_eq_true, decide_eq_true_iff]
  unfold bt
  constructor
  · rintro (q | q)
    · exact Or.inl q
    · exact Or.inr (by omega)
  · rintro (q | q)
    · exact Or.inl q
    · exact Or.inr (by omega)
theorem le_allS {S n : Int} (hS : 0 ≤ S ∧ S < 512) (hn : 0 ≤ n ∧ n ≤ 9) (hb : ∀ j, 0 ≤ j → j < 9 → bt S j = true → j < n) : S ≤ allS n := by
  have : S.toNat < 2 ^ n.toNat := Nat.lt_pow_two_of_testBit _ (fun i hi => by
    by_cases c : i < 9
    · cases z : Nat.testBit S.toNat i
      · rfl
      · have := hb (i : Int) (by omega) (by omega) (by unfold bt; rw [Int.toNat_natCast]; exact z)
        omega
    · exact Nat.testBit_lt_two_pow (Nat.lt_of_lt_of_le (show S.toNat < 2 ^ 9 by omega) (Nat.pow_le_pow_right (by omega) (by omega))))
  rw [allS_n hn]
  omega
/-- the set of what these senders sent -/
def seP (K : Nat → Int → Int) (sd k S : Int) : Prop := (0 ≤ S ∧ S < 512) ∧ ∀ j, 0 ≤ j → j < 9 → (bt S j = true ↔ j < k ∧ bt sd (K 16 (K 50 j)) = true)
theorem c_setOf (hv : VAL h.1) (hc : CH h.1 n) (h49 : h.1 49 2 = n) {sd : Int} (hs : 0 ≤ sd ∧ sd < 8) : Ok (nX1_setOf h sd) (seP h.1 sd n) := by
  have key : ∀ (r N k : Nat) (S : Int), r < N → (k : Int) + r = n → seP h.1 sd k S → Ok (nX1_setOf_4 h N sd S k) (seP h.1 sd n) := by
    intro r
    induction r with
    | zero =>
      intro N k S hN hk q
      obtain ⟨M, rfl⟩ := fuel_s hN
      rw [nX1_setOf_4_s]
      simp only [bX1_setOf_4]
      refine ok_neg (by omega) ?_
      exact ok_some (by rw [show n = k by omega]; exact q)
    | succ r ih =>
      intro N k S hN hk q
      obtain ⟨M, rfl⟩ := fuel_s hN
      have hn := hc.1
      have hcc := hc.2 (k : Int) (by omega) (by omega)
      have hnn := v_n hv
      have hp := v_p hv (p := h.1 50 (k : Int)) (by omega) (by omega)
      have ek : (k : Int) + 1 = ((k + 1 : Nat) : Int) := by omega
      rw [nX1_setOf_4_s]
      simp only [bX1_setOf_4, nX1_setOf_39, bX1_setOf_39]
      refine ok_pos (by omega) ?_
      refine ok_gd (by omega) ?_
      refine ok_gd (by omega) ?_
      refine ok_be (sX1_has (by omega) (by omega)) ?_
      by_cases c : bt sd (h.1 16 (h.1 50 (k : Int))) = true
      · rw [if_pos c]
        refine ok_neg (by decide) ?_
        refine ok_gd (by omega) ?_
        rw [ek]
        refine ih M (k + 1) _ (by omega) (by omega) ⟨orS_b q.1 (by omega), fun j j0 j1 => ?_⟩
        rw [orS_bt q.1 (by omega) ⟨j0, j1⟩, q.2 j j0 j1]
        by_cases e : j = k
        · subst e
          exact ⟨fun _ => ⟨by omega, c⟩, fun _ => Or.inr rfl⟩
        · constructor
          · rintro (w | w)
            · exact ⟨by omega, w.2⟩
            · exact absurd w e
          · rintro w
            exact Or.inl ⟨by omega, w.2⟩
      · rw [if_neg c]
        refine ok_pos rfl ?_
        refine ok_gd (by omega) ?_
        rw [ek]
        refine ih M (k + 1) _ (by omega) (by omega) ⟨q.1, fun j j0 j1 => ?_⟩
        rw [q.2 j j0 j1]
        by_cases e : j = k
        · subst e
          exact ⟨fun w => by omega, fun w => absurd w.2 c⟩
        · exact ⟨fun w => ⟨by omega, w.2⟩, fun w => ⟨by omega, w.2⟩⟩
  unfold nX1_setOf bX1_setOf
  have hn := hc.1
  exact key n.toNat 100000 0 0 (by omega) (by omega) ⟨by omega, fun j j0 j1 => by
    rw [bt_z]
    exact ⟨fun w => (Bool.false_ne_true w).elim, fun w => by omega⟩⟩
theorem canS_sub {S S' : Int} : ∀ {k : Nat}, k ≤ 9 → (∀ j, 0 ≤ j → j < 9 → bt S j = true → bt S' j = true) → (canS S k).Sublist (canS S' k)
  | 0, _, _ => List.Sublist.refl _
  | k + 1, hk, h => by
    have ih := canS_sub (k := k) (by omega) h
    rw [canS, canS]
    by_cases c : bt S (k : Int) = true
    · rw [if_pos c, if_pos (h _ (by omega) (by omega) c)]
      exact List.Sublist.append ih (List.Sublist.refl _)
    · rw [if_neg c]
      by_cases c' : bt S' (k : Int) = true
      · rw [if_pos c']
        exact List.Sublist.trans ih (List.sublist_append_left _ _)
      · rw [if_neg c']; exact ih
theorem bt_7 : ∀ (s : Fin 8) (i : Fin 3), Nat.testBit s.val i.val = true → Nat.testBit 7 i.val = true := by decide +kernel
theorem Qw_7 (hv : VAL K) {sd p : Int} (hs : 0 ≤ sd ∧ sd < 8) (hp : 0 ≤ p ∧ p < K 13 10) : Qw K sd p = true ↔ Qw K 7 p = true ∧ bt sd (K 16 p) = true := by
  have q := v_p hv hp.1 hp.2
  unfold Qw
  rw [Bool.and_eq_true, Bool.and_eq_true]
  constructor
  · rintro ⟨a, b⟩
    refine ⟨⟨a, ?_⟩, b⟩
    exact bt_7 ⟨sd.toNat, by omega⟩ ⟨(K 16 p).toNat, by omega⟩ b
  · rintro ⟨a, b⟩
    exact ⟨a.1, b⟩
theorem se_perm (hv : VAL K) (hn : 0 ≤ n ∧ n ≤ 9) {sd S : Int} (hs : 0 ≤ sd ∧ sd < 8) (hci : chI (Qw K 7) (K 13 10).toNat (K1 50) n) (e16 : K1 16 = K 16) (q : seP K1 sd n S) : ((canS S 9).map (K1 50)).Perm (chL (Qw K sd) (K 13 10).toNat) := by
  have hall := chI_map hn hci
  have hnn := v_n hv
  have sub : (canS S 9).Sublist (canS (allS n) 9) := canS_sub (by omega) (fun j j0 j1 b => (allS_bt hn ⟨j0, j1⟩).mpr ((q.2 j j0 j1).mp b).1)
  have nd : ((canS S 9).map (K1 50)).Nodup := by
    have : ((canS (allS n) 9).map (K1 50)).Nodup := by rw [hall]; exact chL_nd
    exact List.Nodup.sublist (List.Sublist.map _ sub) this
  refine perm_nd nd chL_nd (fun p => ?_)
  rw [List.mem_map, chL_m]
  constructor
  · rintro ⟨j, hj, rfl⟩
    obtain ⟨⟨j0, j1⟩, hb⟩ := canS_m.mp hj
    obtain ⟨w1, w2⟩ := (q.2 j j0 (by omega)).mp hb
    have hm := chI_get hci j0 w1
    obtain ⟨z1, z2⟩ := chL_m.mp hm
    rw [e16] at w2
    exact ⟨z1, (Qw_7 hv hs (by omega)).mpr ⟨z2, w2⟩⟩
  · rintro ⟨z1, z2⟩
    obtain ⟨w1, w2⟩ := (Qw_7 hv hs (by omega)).mp z2
    have hm : p ∈ (canS (allS n) 9).map (K1 50) := by rw [hall]; exact chL_m.mpr ⟨z1, w1⟩
    obtain ⟨j, hj, e⟩ := List.mem_map.mp hm
    obtain ⟨⟨j0, j1⟩, hb⟩ := canS_m.mp hj
    refine ⟨j, canS_m.mpr ⟨⟨j0, j1⟩, ?_⟩, e⟩
    refine (q.2 j j0 (by omega)).mpr ⟨(allS_bt hn (by omega)).mp hb, ?_⟩
    rw [e16, e]; exact w2
theorem csQ_b (hv : VAL K) (v0 : 0 ≤ v) (v1 : v < K 13 14) {L : List Int} (hL : inR K L) {r : Int} (q : csQ K v L r) : -1 ≤ r ∧ r ≤ 2000 := by
  rcases q with ⟨a, _⟩ | ⟨_, ⟨l, p, e⟩, _⟩
  · omega
  · have := costL_b hv v0 v1 (l := l) (fun x hx => hL x (p.mem_iff.mp hx))
    omega
theorem chL_in {Q : Int → Bool} (hn : 0 ≤ K 13 10) : inR K (chL Q (K 13 10).toNat) := fun p hp => by
  have := (chL_m.mp hp).1
  omega
/-- costs of all sets of senders, and whether each has one -/
def alP (K : Nat → Int → Int) (k : Nat) (f : Int → Int) (x : Int) : Prop := (∀ s : Int, 0 ≤ s → s < k → csQ K 0 (chL (Qw K s) (K 13 10).toNat) (f s)) ∧ (x = 0 ∨ x = 1) ∧ (x = 1 ↔ ∀ s : Int, 0 ≤ s → s < k → f s ≠ -1)
theorem alP_s {k : Nat} {f : Int → Int} {x x' r : Int} (q : alP K k f x) (hr : csQ K 0 (chL (Qw K k) (K 13 10).toNat) r) (hx : x' = if x = 0 then 0 else if r = -1 then 0 else 1) : alP K (k + 1) (updI f k r) x' := by
  obtain ⟨q1, q2, q3⟩ := q
  refine ⟨fun s s0 s1 => ?_, ?_, ?_⟩
  · by_cases e : s = k
    · rw [e, updI_s]; exact hr
    · rw [updI_n e]; exact q1 s s0 (by omega)
  · rw [hx]
    by_cases c : x = 0
    · rw [if_pos c]; exact Or.inl rfl
    · rw [if_neg c]
      by_cases d : r = -1
      · rw [if_pos d]; exact Or.inl rfl
      · rw [if_neg d]; exact Or.inr rfl
  · rw [hx]
    by_cases c : x = 0
    · rw [if_pos c]
      refine ⟨fun w => by omega, fun w => ?_⟩
      have : x = 1 := q3.mpr (fun s s0 s1 => by
        have := w s s0 (by omega)
        rw [updI_n (by omega)] at this
        exact this)
      omega
    · rw [if_neg c]
      have x1 : x = 1 := by clear q3 q1; omega
      by_cases d : r = -1
      · rw [if_pos d]
        refine ⟨fun w => by omega, fun w => ?_⟩
        have := w k (by omega) (by omega)
        rw [updI_s] at this
        exact absurd d this
      · rw [if_neg d]
        refine ⟨fun _ s s0 s1 => ?_, fun _ => rfl⟩
        by_cases e : s = k
        · rw [e, updI_s]; exact d
        · rw [updI_n e]; exact q3.mp x1 s s0 (by omega)
theorem alP_u {f f' : Int → Int} {x x' : Int} (q : alP K 8 f x) (q' : alP K 8 f' x') : (∀ s, 0 ≤ s → s < 8 → f s = f' s) ∧ x = x' := by
  have e : ∀ s, 0 ≤ s → s < 8 → f s = f' s := fun s s0 s1 => csQ_u (q.1 s s0 (by omega)) (q'.1 s s0 (by omega))
  refine ⟨e, ?_⟩
  have : x = 1 ↔ x' = 1 := by
    rw [q.2.2, q'.2.2]
    constructor
    · intro w s s0 s1
      rw [← e s s0 (by omega)]; exact w s s0 s1
    · intro w s s0 s1
      rw [e s s0 (by omega)]; exact w s s0 s1
  have a := q.2.1
  have b := q'.2.1
  clear e q q'
  omega
abbrev sRk : Nat → Int → Prop := fun c i => sCh c i ∨ c = 51 ∨ c = 66
theorem sRk_sc {g : HH} (f : Fr sRk h g) : Fr scC h g := fr_m (fun c i s => by dsimp only [sRk, sCh] at s; unfold scC; omega) f
theorem c_reckon (hv : VAL h.1) (v1 : 0 < h.1 13 14) : Ok (nX8_reckon h) (fun r => Fr sRk h r.2 ∧ alP h.1 8 (r.2.1 66) r.1) := by
  have hn := v_n hv
  unfold nX8_reckon bX8_reckon
  refine ok_bnd (c_wait (sd := 7) hv (by omega)) (fun g hg => ?_)
  obtain ⟨fg, cg⟩ := hg
  have fsg := sCh_sc fg
  have e13 := sc_13 fsg
  have hvg : VAL g.1 := VAL_eq hv (fun c hc => sc_c fsg c (by unfold scC; omega)) (by rw [e13]; exact ⟨rfl, rfl⟩)
  have cg' : chI (Qw h.1 7) (g.1 13 10).toNat (g.1 50) (g.1 49 2) := by rw [e13]; exact cg
  have hch : CH g.1 (g.1 49 2) := chI_CH (by rw [e13]; exact hn.1) cg'
  generalize hnn : g.1 49 2 = n at cg cg' hch
  refine ok_bnd (c_drive (h := g) hvg hch hnn (v := 0) (by omega) (by rw [e13]; exact v1)) (fun g2 hg2 => ?_)
  obtain ⟨f2, t2⟩ := hg2
  have f02 : Fr sRk h g2 := fr_t (fr_m (fun c i s => Or.inl s) fg) (fr_m (fun c i s => Or.inr (Or.inl s)) f2)
  have key : ∀ (r N k : Nat) (x : Int) (g3 : HH), r < N → k + r = 8 → Fr (fun c _ => c = 66) g2 g3 → alP h.1 k (g3.1 66) x → Ok (nX8_reckon_18 N x k g3) (fun r => Fr sRk h r.2 ∧ alP h.1 8 (r.2.1 66) r.1) := by
    intro r
    induction r with
    | zero =>
      intro N k x g3 hN hk f ci
      obtain ⟨M, rfl⟩ := fuel_s hN
      have cx := ci.2.1
      rw [nX8_reckon_18_s]
      simp only [bX8_reckon_18]
      refine ok_neg (by omega) ?_
      refine ok_gd (by clear ci; omega) ?_
      exact ok_some ⟨fr_t f02 (fr_m (fun c i s => Or.inr (Or.inr s)) f), by rw [show 8 = k by omega]; exact ci⟩
    | succ r ih =>
      intro N k x g3 hN hk f ci
      obtain ⟨M, rfl⟩ := fuel_s hN
      have ek : (k : Int) + 1 = ((k + 1 : Nat) : Int) := by omega
      have f03 : Fr sRk h g3 := fr_t f02 (fr_m (fun c i s => Or.inr (Or.inr s)) f)
      have fs3 := sRk_sc f03
      have c3 : ∀ c, c ≠ 66 → g3.1 c = g2.1 c := fun c hc => fr_c f c (fun i s => hc s)
      have d3 : ∀ c, c ≠ 66 → c ≠ 51 → g3.1 c = g.1 c := fun c hc hd => (c3 c hc).trans (fr_c f2 c (fun i s => hd s))
      have hv3 : VAL g3.1 := VAL_eq hv (fun c hc => sc_c fs3 c (by unfold scC; omega)) (by rw [sc_13 fs3]; exact ⟨rfl, rfl⟩)
      have hc3 : CH g3.1 n := by
        unfold CH at hch ⊢
        rw [d3 50 (by decide) (by decide), d3 13 (by decide) (by decide)]
        exact hch
      have e49 : g3.1 49 2 = n := by rw [d3 49 (by decide) (by decide)]; exact hnn
      rw [nX8_reckon_18_s]
      simp only [bX8_reckon_18, nX8_reckon_64, bX8_reckon_64, nX8_reckon_65, bX8_reckon_65]
      refine ok_pos (by omega) ?_
      refine ok_bnd (c_setOf hv3 hc3 e49 (sd := (k : Int)) (by omega)) (fun S hS => ?_)
      have hle := le_allS hS.1 hch.1 (fun j j0 j1 b => ((hS.2 j j0 j1).mp b).1)
      have so : sameO g3.1 g.1 := ⟨(d3 7 (by decide) (by decide)).symm, ⟨(d3 14 (by decide) (by decide)).symm, (d3 15 (by decide) (by decide)).symm, (d3 17 (by decide) (by decide)).symm, (d3 18 (by decide) (by decide)).symm, (d3 19 (by decide) (by decide)).symm⟩, ⟨(d3 23 (by decide) (by decide)).symm, (d3 24 (by decide) (by decide)).symm, (d3 25 (by decide) (by decide)).symm⟩, (d3 50 (by decide) (by decide)).symm, (d3 13 (by decide) (by decide)).symm⟩
      refine ok_bnd (sX1_costOfSet (h := g3) hv3 hc3 e49 (v := 0) (by omega) (by rw [sc_13 fs3]; exact v1) (S := S) ⟨hS.1.1, hle⟩ (fun i i0 i1 ib => by
        rw [c3 51 (by decide)]
        exact so_hkP so (t2 S i hS.1.1 hle i0 i1 ib))) (fun r hr => ?_)
      have z := csP_Q hr
      have e16 : g3.1 16 = h.1 16 := sc_c fs3 16 (by unfold scC; omega)
      have e50 : g3.1 50 = g.1 50 := d3 50 (by decide) (by decide)
      have pm := se_perm (K := h.1) (K1 := g3.1) hv hch.1 (sd := (k : Int)) (by omega) (by rw [e50]; exact cg) e16 hS
      have z2 : csQ h.1 0 (chL (Qw h.1 (k : Int)) (h.1 13 10).toNat) r := csQ_cg (fun l => sc_cost fs3 0 l) (csQ_p pm z)
      refine ok_gd (by omega) ?_
      refine ok_bs ?_
      have e66 : (hI g3 66 k r).1 66 = updI (g3.1 66) k r := rI_s
      have fn : Fr (fun c _ => c = 66) g2 (hI g3 66 k r) := fr_I f rfl
      by_cases c : x = 0
      · refine ok_pos c ?_
        refine ok_gd (by omega) ?_
        rw [ek]
        exact ih M (k + 1) 0 _ (by omega) (by omega) fn (by rw [e66]; exact alP_s ci z2 (by rw [if_pos c]))
      · refine ok_neg c ?_
        refine ok_gd (by omega) ?_
        rw [e66, updI_s]
        by_cases d : r = -1
        · refine ok_pos d ?_
          refine ok_gd (by omega) ?_
          rw [ek]
          exact ih M (k + 1) 0 _ (by omega) (by omega) fn (by rw [e66]; exact alP_s ci z2 (by rw [if_neg c, if_pos d]))
        · refine ok_neg d ?_
          refine ok_gd (by omega) ?_
          rw [ek]
          exact ih M (k + 1) 1 _ (by omega) (by omega) fn (by rw [e66]; exact alP_s ci z2 (by rw [if_neg c, if_neg d]))
  exact key 8 100000 0 1 g2 (by omega) (by omega) fr_r ⟨fun s s0 s1 => by omega, Or.inr rfl, ⟨fun _ s s0 s1 => by omega, fun _ => rfl⟩⟩
abbrev sRm : Nat → Int → Prop := fun c i => sTg c i ∨ c = 118
theorem sRm_sc {g : HH} (f : Fr sRm m g) : Fr scM m g := fr_m (fun c i s => by dsimp only [sRm, sTg, sDF] at s; unfold scM; omega) f
theorem m_reckons (hv : VAL K) (hm : RM K m) (v1 : 0 < K 13 14) : Ok (nX12_reckons m) (fun r => Fr sRm m r.2 ∧ alP K 8 (r.2.1 118) r.1) := by
  have hn := v_n hv
  have key : ∀ (r N k : Nat) (x : Int) (g3 : HH), r < N → k + r = 8 → Fr sRm m g3 → alP K k (g3.1 118) x → Ok (nX12_reckons_4 N x k g3) (fun r => Fr sRm m r.2 ∧ alP K 8 (r.2.1 118) r.1) := by
    intro r
    induction r with
    | zero =>
      intro N k x g3 hN hk f ci
      obtain ⟨M, rfl⟩ := fuel_s hN
      have cx := ci.2.1
      rw [nX12_reckons_4_s]
      simp only [bX12_reckons_4]
      refine ok_neg (by omega) ?_
      refine ok_gd (by clear ci; omega) ?_
      exact ok_some ⟨f, by rw [show 8 = k by omega]; exact ci⟩
    | succ r ih =>
      intro N k x g3 hN hk f ci
      obtain ⟨M, rfl⟩ := fuel_s hN
      have ek : (k : Int) + 1 = ((k + 1 : Nat) : Int) := by omega
      have hm3 : RM K g3 := RM_fr hm f (fun c i s => by dsimp only [sRm, sTg, sDF] at s; unfold rmP; omega)
      rw [nX12_reckons_4_s]
      simp only [bX12_reckons_4, nX12_reckons_39, bX12_reckons_39, nX12_reckons_40, bX12_reckons_40]
      refine ok_pos (by omega) ?_
      refine ok_bnd (m_tog hv hm3 v1 (sd := (k : Int)) (by omega)) (fun q hq => ?_)
      obtain ⟨fq, z2⟩ := hq
      have f4 : Fr sRm m q.2 := fr_t f (fr_m (fun c i s => Or.inl s) fq)
      have e118 : q.2.1 118 = g3.1 118 := fr_c fq 118 (fun i s => by dsimp only [sTg, sDF] at s; omega)
      refine ok_gd (by omega) ?_
      refine ok_bs ?_
      have e66 : (hI q.2 118 k q.1).1 118 = updI (g3.1 118) k q.1 := by rw [rI_s, e118]
      have fn : Fr sRm m (hI q.2 118 k q.1) := fr_I f4 (Or.inr rfl)
      by_cases c : x = 0
      · refine ok_pos c ?_
        refine ok_gd (by omega) ?_
        rw [ek]
        exact ih M (k + 1) 0 _ (by omega) (by omega) fn (by rw [e66]; exact alP_s ci z2 (by rw [if_pos c]))
      · refine ok_neg c ?_
        refine ok_gd (by omega) ?_
        rw [e66, updI_s]
        by_cases d : q.1 = -1
        · refine ok_pos d ?_
          refine ok_gd (by omega) ?_
          rw [ek]
          exact ih M (k + 1) 0 _ (by omega) (by omega) fn (by rw [e66]; exact alP_s ci z2 (by rw [if_neg c, if_pos d]))
        · refine ok_neg d ?_
          refine ok_gd (by omega) ?_
          rw [ek]
          exact ih M (k + 1) 1 _ (by omega) (by omega) fn (by rw [e66]; exact alP_s ci z2 (by rw [if_neg c, if_neg d]))
  unfold nX12_reckons bX12_reckons
  exact key 8 100000 0 1 m (by omega) (by omega) fr_r ⟨fun s s0 s1 => by omega, Or.inr rfl, ⟨fun _ s s0 s1 => by omega, fun _ => rfl⟩⟩
end SHARE
