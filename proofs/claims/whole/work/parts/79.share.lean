/-! SHARES of what senders cost together -/
section SHARE
variable {h h' m : HH} {K K1 : Nat → Int → Int} {v n : Int}
theorem orS_n {S i : Int} (hS : 0 ≤ S ∧ S < 512) (hi : 0 ≤ i ∧ i < 9) : orI S (shlI 1 i) = ((S.toNat ||| 2 ^ i.toNat : Nat) : Int) := by
  have := bit_or ⟨S.toNat, by omega⟩ ⟨i.toNat, by omega⟩
  dsimp only at this
  rw [show ((S.toNat : Nat) : Int) = S by omega, show ((i.toNat : Nat) : Int) = i by omega] at this
  exact this
theorem orS_b {S i : Int} (hS : 0 ≤ S ∧ S < 512) (hi : 0 ≤ i ∧ i < 9) : 0 ≤ orI S (shlI 1 i) ∧ orI S (shlI 1 i) < 512 := by
  rw [orS_n hS hi]
  have h1 : 2 ^ i.toNat < 2 ^ 9 := Nat.pow_lt_pow_right (by omega) (by omega)
  have : (S.toNat ||| 2 ^ i.toNat) < 2 ^ 9 := Nat.or_lt_two_pow (by omega) h1
  omega
theorem orS_bt {S i j : Int} (hS : 0 ≤ S ∧ S < 512) (hi : 0 ≤ i ∧ i < 9) (hj : 0 ≤ j ∧ j < 9) : bt (orI S (shlI 1 i)) j = true ↔ bt S j = true ∨ j = i := by
  have e : bt (orI S (shlI 1 i)) j = (Nat.testBit S.toNat j.toNat || decide (i.toNat = j.toNat)) := by
    unfold bt
    rw [orS_n hS hi, Int.toNat_natCast, Nat.testBit_or, Nat.testBit_two_pow]
  rw [e, Bool.or_eq_true, decide_eq_true_iff]
  unfold bt
  constructor
  · rintro (q | q)
    · exact Or.inl q
    · exact Or.inr (by omega)
  · rintro (q | q)
    · exact Or.inl q
    · exact Or.inr (by omega)
theorem le_allS {S n : Int} (hS : 0 ≤ S ∧ S < 512) (hn : 0 ≤ n ∧ n ≤ 9) (hb : ∀ j, 0 ≤ j → j < 9 → bt S j = true → j < n) : S ≤ allS n := by
  have : S.toNat < 2 ^ n.toNat := Nat.lt_pow_two_of_testBit _ (fun i hi => by
    by_cases c : i < 9
    · cases z : Nat.testBit S.toNat i
      · rfl
      · have := hb (i : Int) (by omega) (by omega) (by unfold bt; rw [Int.toNat_natCast]; exact z)
        omega
    · exact Nat.testBit_lt_two_pow (Nat.lt_of_lt_of_le (show S.toNat < 2 ^ 9 by omega) (Nat.pow_le_pow_right (by omega) (by omega))))
  rw [allS_n hn]
  omega
/-- the set of what these senders sent -/
def seP (K : Nat → Int → Int) (sd k S : Int) : Prop := (0 ≤ S ∧ S < 512) ∧ ∀ j, 0 ≤ j → j < 9 → (bt S j = true ↔ j < k ∧ bt sd (K 16 (K 50 j)) = true)
theorem c_setOf (hv : VAL h.1) (hc : CH h.1 n) (h49 : h.1 49 2 = n) {sd : Int} (hs : 0 ≤ sd ∧ sd < 8) : Ok (nX1_setOf h sd) (seP h.1 sd n) := by
  have key : ∀ (r N k : Nat) (S : Int), r < N → (k : Int) + r = n → seP h.1 sd k S → Ok (nX1_setOf_4 h N sd S k) (seP h.1 sd n) := by
    intro r
    induction r with
    | zero =>
      intro N k S hN hk q
      obtain ⟨M, rfl⟩ := fuel_s hN
      rw [nX1_setOf_4_s]
      simp only [bX1_setOf_4]
      refine ok_neg (by omega) ?_
      exact ok_some (by rw [show n = k by omega]; exact q)
    | succ r ih =>
      intro N k S hN hk q
      obtain ⟨M, rfl⟩ := fuel_s hN
      have hn := hc.1
      have hcc := hc.2 (k : Int) (by omega) (by omega)
      have hnn := v_n hv
      have hp := v_p hv (p := h.1 50 (k : Int)) (by omega) (by omega)
      have ek : (k : Int) + 1 = ((k + 1 : Nat) : Int) := by omega
      rw [nX1_setOf_4_s]
      simp only [bX1_setOf_4, nX1_setOf_39, bX1_setOf_39]
      refine ok_pos (by omega) ?_
      refine ok_gd (by omega) ?_
      refine ok_gd (by omega) ?_
      refine ok_be (sX1_has (by omega) (by omega)) ?_
      by_cases c : bt sd (h.1 16 (h.1 50 (k : Int))) = true
      · rw [if_pos c]
        refine ok_neg (by decide) ?_
        refine ok_gd (by omega) ?_
        rw [ek]
        refine ih M (k + 1) _ (by omega) (by omega) ⟨orS_b q.1 (by omega), fun j j0 j1 => ?_⟩
        rw [orS_bt q.1 (by omega) ⟨j0, j1⟩, q.2 j j0 j1]
        by_cases e : j = k
        · subst e
          exact ⟨fun _ => ⟨by omega, c⟩, fun _ => Or.inr rfl⟩
        · constructor
          · rintro (w | w)
            · exact ⟨by omega, w.2⟩
            · exact absurd w e
          · rintro w
            exact Or.inl ⟨by omega, w.2⟩
      · rw [if_neg c]
        refine ok_pos rfl ?_
        refine ok_gd (by omega) ?_
        rw [ek]
        refine ih M (k + 1) _ (by omega) (by omega) ⟨q.1, fun j j0 j1 => ?_⟩
        rw [q.2 j j0 j1]
        by_cases e : j = k
        · subst e
          exact ⟨fun w => by omega, fun w => absurd w.2 c⟩
        · exact ⟨fun w => ⟨by omega, w.2⟩, fun w => ⟨by omega, w.2⟩⟩
  unfold nX1_setOf bX1_setOf
  have hn := hc.1
  exact key n.toNat 100000 0 0 (by omega) (by omega) ⟨by omega, fun j j0 j1 => by
    rw [bt_z]
    exact ⟨fun w => (Bool.false_ne_true w).elim, fun w => by omega⟩⟩
theorem canS_sub {S S' : Int} : ∀ {k : Nat}, k ≤ 9 → (∀ j, 0 ≤ j → j < 9 → bt S j = true → bt S' j = true) → (canS S k).Sublist (canS S' k)
  | 0, _, _ => List.Sublist.refl _
  | k + 1, hk, h => by
    have ih := canS_sub (k := k) (by omega) h
    rw [canS, canS]
    by_cases c : bt S (k : Int) = true
    · rw [if_pos c, if_pos (h _ (by omega) (by omega) c)]
      exact List.Sublist.append ih (List.Sublist.refl _)
    · rw [if_neg c]
      by_cases c' : bt S' (k : Int) = true
      · rw [if_pos c']
        exact List.Sublist.trans ih (List.sublist_append_left _ _)
      · rw [if_neg c']; exact ih
theorem bt_7 : ∀ (s : Fin 8) (i : Fin 3), Nat.testBit s.val i.val = true → Nat.testBit 7 i.val = true := by decide +kernel
theorem Qw_7 (hv : VAL K) {sd p : Int} (hs : 0 ≤ sd ∧ sd < 8) (hp : 0 ≤ p ∧ p < K 13 10) : Qw K sd p = true ↔ Qw K 7 p = true ∧ bt sd (K 16 p) = true := by
  have q := v_p hv hp.1 hp.2
  unfold Qw
  rw [Bool.and_eq_true, Bool.and_eq_true]
  constructor
  · rintro ⟨a, b⟩
    refine ⟨⟨a, ?_⟩, b⟩
    exact bt_7 ⟨sd.toNat, by omega⟩ ⟨(K 16 p).toNat, by omega⟩ b
  · rintro ⟨a, b⟩
    exact ⟨a.1, b⟩
theorem se_perm (hv : VAL K) (hn : 0 ≤ n ∧ n ≤ 9) {sd S : Int} (hs : 0 ≤ sd ∧ sd < 8) (hci : chI (Qw K 7) (K 13 10).toNat (K1 50) n) (e16 : K1 16 = K 16) (q : seP K1 sd n S) : ((canS S 9).map (K1 50)).Perm (chL (Qw K sd) (K 13 10).toNat) := by
  have hall := chI_map hn hci
  have hnn := v_n hv
  have sub : (canS S 9).Sublist (canS (allS n) 9) := canS_sub (by omega) (fun j j0 j1 b => (allS_bt hn ⟨j0, j1⟩).mpr ((q.2 j j0 j1).mp b).1)
  have nd : ((canS S 9).map (K1 50)).Nodup := by
    have : ((canS (allS n) 9).map (K1 50)).Nodup := by rw [hall]; exact chL_nd
    exact List.Nodup.sublist (List.Sublist.map _ sub) this
  refine perm_nd nd chL_nd (fun p => ?_)
  rw [List.mem_map, chL_m]
  constructor
  · rintro ⟨j, hj, rfl⟩
    obtain ⟨⟨j0, j1⟩, hb⟩ := canS_m.mp hj
    obtain ⟨w1, w2⟩ := (q.2 j j0 (by omega)).mp hb
    have hm := chI_get hci j0 w1
    obtain ⟨z1, z2⟩ := chL_m.mp hm
    rw [e16] at w2
    exact ⟨z1, (Qw_7 hv hs (by omega)).mpr ⟨z2, w2⟩⟩
  · rintro ⟨z1, z2⟩
    obtain ⟨w1, w2⟩ := (Qw_7 hv hs (by omega)).mp z2
    have hm : p ∈ (canS (allS n) 9).map (K1 50) := by rw [hall]; exact chL_m.mpr ⟨z1, w1⟩
    obtain ⟨j, hj, e⟩ := List.mem_map.mp hm
    obtain ⟨⟨j0, j1⟩, hb⟩ := canS_m.mp hj
    refine ⟨j, canS_m.mpr ⟨⟨j0, j1⟩, ?_⟩, e⟩
    refine (q.2 j j0 (by omega)).mpr ⟨(allS_bt hn (by omega)).mp hb, ?_⟩
    rw [e16, e]; exact w2
theorem csQ_b (hv : VAL K) (v0 : 0 ≤ v) (v1 : v < K 13 14) {L : List Int} (hL : inR K L) {r : Int} (q : csQ K v L r) : -1 ≤ r ∧ r ≤ 2000 := by
  rcases q with ⟨a, _⟩ | ⟨_, ⟨l, p, e⟩, _⟩
  · omega
  · have := costL_b hv v0 v1 (l := l) (fun x hx => hL x (p.mem_iff.mp hx))
    omega
theorem chL_in {Q : Int → Bool} (hn : 0 ≤ K 13 10) : inR K (chL Q (K 13 10).toNat) := fun p hp => by
  have := (chL_m.mp hp).1
  omega
/-- costs of all sets of senders, and whether each has one -/
def alP (K : Nat → Int → Int) (k : Nat) (f : Int → Int) (x : Int) : Prop := (∀ s : Int, 0 ≤ s → s < k → csQ K 0 (chL (Qw K s) (K 13 10).toNat) (f s)) ∧ (x = 0 ∨ x = 1) ∧ (x = 1 ↔ ∀ s : Int, 0 ≤ s → s < k → f s ≠ -1)
theorem alP_s {k : Nat} {f : Int → Int} {x x' r : Int} (q : alP K k f x) (hr : csQ K 0 (chL (Qw K k) (K 13 10).toNat) r) (hx : x' = if x = 0 then 0 else if r = -1 then 0 else 1) : alP K (k + 1) (updI f k r) x' := by
  obtain ⟨q1, q2, q3⟩ := q
  refine ⟨fun s s0 s1 => ?_, ?_, ?_⟩
  · by_cases e : s = k
    · rw [e, updI_s]; exact hr
    · rw [updI_n e]; exact q1 s s0 (by omega)
  · rw [hx]
    by_cases c : x = 0
    · rw [if_pos c]; exact Or.inl rfl
    · rw [if_neg c]
      by_cases d : r = -1
      · rw [if_pos d]; exact Or.inl rfl
      · rw [if_neg d]; exact Or.inr rfl
  · rw [hx]
    by_cases c : x = 0
    · rw [if_pos c]
      refine ⟨fun w => by omega, fun w => ?_⟩
      have : x = 1 := q3.mpr (fun s s0 s1 => by
        have := w s s0 (by omega)
        rw [updI_n (by omega)] at this
        exact this)
      omega
    · rw [if_neg c]
      have x1 : x = 1 := by clear q3 q1; omega
      by_cases d : r = -1
      · rw [if_pos d]
        refine ⟨fun w => by omega, fun w => ?_⟩
        have := w k (by omega) (by omega)
        rw [updI_s] at this
        exact absurd d this
      · rw [if_neg d]
        refine ⟨fun _ s s0 s1 => ?_, fun _ => rfl⟩
        by_cases e : s = k
        · rw [e, updI_s]; exact d
        · rw [updI_n e]; exact q3.mp x1 s s0 (by omega)
theorem alP_u {f f' : Int → Int} {x x' : Int} (q : alP K 8 f x) (q' : alP K 8 f' x') : (∀ s, 0 ≤ s → s < 8 → f s = f' s) ∧ x = x' := by
  have e : ∀ s, 0 ≤ s → s < 8 → f s = f' s := fun s s0 s1 => csQ_u (q.1 s s0 (by omega)) (q'.1 s s0 (by omega))
  refine ⟨e, ?_⟩
  have : x = 1 ↔ x' = 1 := by
    rw [q.2.2, q'.2.2]
    constructor
    · intro w s s0 s1
      rw [← e s s0 (by omega)]; exact w s s0 s1
    · intro w s s0 s1
      rw [e s s0 (by omega)]; exact w s s0 s1
  have a := q.2.1
  have b := q'.2.1
  clear e q q'
  omega
abbrev sRk : Nat → Int → Prop := fun c i => sCh c i ∨ c = 51 ∨ c = 66
theorem sRk_sc {g : HH} (f : Fr sRk h g) : Fr scC h g := fr_m (fun c i s => by dsimp only [sRk, sCh] at s; unfold scC; omega) f
theorem c_reckon (hv : VAL h.1) (v1 : 0 < h.1 13 14) : Ok (nX8_reckon h) (fun r => Fr sRk h r.2 ∧ alP h.1 8 (r.2.1 66) r.1) := by
  have hn := v_n hv
  unfold nX8_reckon bX8_reckon
  refine ok_bnd (c_wait (sd := 7) hv (by omega)) (fun g hg => ?_)
  obtain ⟨fg, cg⟩ := hg
  have fsg := sCh_sc fg
  have e13 := sc_13 fsg
  have hvg : VAL g.1 := VAL_eq hv (fun c hc => sc_c fsg c (by unfold scC; omega)) (by rw [e13]; exact ⟨rfl, rfl⟩)
  have cg' : chI (Qw h.1 7) (g.1 13 10).toNat (g.1 50) (g.1 49 2) := by rw [e13]; exact cg
  have hch : CH g.1 (g.1 49 2) := chI_CH (by rw [e13]; exact hn.1) cg'
  generalize hnn : g.1 49 2 = n at cg cg' hch
  refine ok_bnd (c_drive (h := g) hvg hch hnn (v := 0) (by omega) (by rw [e13]; exact v1)) (fun g2 hg2 => ?_)
  obtain ⟨f2, t2⟩ := hg2
  have f02 : Fr sRk h g2 := fr_t (fr_m (fun c i s => Or.inl s) fg) (fr_m (fun c i s => Or.inr (Or.inl s)) f2)
  have key : ∀ (r N k : Nat) (x : Int) (g3 : HH), r < N → k + r = 8 → Fr (fun c _ => c = 66) g2 g3 → alP h.1 k (g3.1 66) x → Ok (nX8_reckon_18 N x k g3) (fun r => Fr sRk h r.2 ∧ alP h.1 8 (r.2.1 66) r.1) := by
    intro r
    induction r with
    | zero =>
      intro N k x g3 hN hk f ci
      obtain ⟨M, rfl⟩ := fuel_s hN
      have cx := ci.2.1
      rw [nX8_reckon_18_s]
      simp only [bX8_reckon_18]
      refine ok_neg (by omega) ?_
      refine ok_gd (by clear ci; omega) ?_
      have e8 : k = 8 := by omega
      rw [e8] at ci
      exact ok_some ⟨fr_t f02 (fr_m (fun c i s => Or.inr (Or.inr s)) f), ci⟩
    | succ r ih =>
      intro N k x g3 hN hk f ci
      obtain ⟨M, rfl⟩ := fuel_s hN
      have ek : (k : Int) + 1 = ((k + 1 : Nat) : Int) := by omega
      have f03 : Fr sRk h g3 := fr_t f02 (fr_m (fun c i s => Or.inr (Or.inr s)) f)
      have fs3 := sRk_sc f03
      have c3 : ∀ c, c ≠ 66 → g3.1 c = g2.1 c := fun c hc => fr_c f c (fun i s => hc s)
      have d3 : ∀ c, c ≠ 66 → c ≠ 51 → g3.1 c = g.1 c := fun c hc hd => (c3 c hc).trans (fr_c f2 c (fun i s => hd s))
      have hv3 : VAL g3.1 := VAL_eq hv (fun c hc => sc_c fs3 c (by unfold scC; omega)) (by rw [sc_13 fs3]; exact ⟨rfl, rfl⟩)
      have hc3 : CH g3.1 n := by
        unfold CH at hch ⊢
        rw [d3 50 (by decide) (by decide), d3 13 (by decide) (by decide)]
        exact hch
      have e49 : g3.1 49 2 = n := by rw [d3 49 (by decide) (by decide)]; exact hnn
      rw [nX8_reckon_18_s]
      have e64 : ∀ (x2 : Int) (h : HH), nX8_reckon_64 (nX8_reckon_18 M) x2 h = gd (R32 (x2 + 1)) (nX8_reckon_18 M 0 (x2 + 1) h) := fun _ _ => rfl
      have e65 : ∀ (x2 y : Int) (h : HH), nX8_reckon_65 (nX8_reckon_18 M) x2 y h = gd (R32 (x2 + 1)) (nX8_reckon_18 M y (x2 + 1) h) := fun _ _ _ => rfl
      simp only [bX8_reckon_18]
      refine ok_pos (by omega) ?_
      refine ok_bnd (c_setOf hv3 hc3 e49 (sd := (k : Int)) (by omega)) (fun S hS => ?_)
      have hle := le_allS hS.1 hch.1 (fun j j0 j1 b => ((hS.2 j j0 j1).mp b).1)
      have so : sameO g3.1 g.1 := ⟨(d3 7 (by decide) (by decide)).symm, ⟨(d3 14 (by decide) (by decide)).symm, (d3 15 (by decide) (by decide)).symm, (d3 17 (by decide) (by decide)).symm, (d3 18 (by decide) (by decide)).symm, (d3 19 (by decide) (by decide)).symm⟩, ⟨(d3 23 (by decide) (by decide)).symm, (d3 24 (by decide) (by decide)).symm, (d3 25 (by decide) (by decide)).symm⟩, (d3 50 (by decide) (by decide)).symm, (d3 13 (by decide) (by decide)).symm⟩
      refine ok_bnd (sX1_costOfSet (h := g3) hv3 hc3 e49 (v := 0) (by omega) (by rw [sc_13 fs3]; exact v1) (S := S) ⟨hS.1.1, hle⟩ (fun i i0 i1 ib => by
        rw [c3 51 (by decide)]
        exact so_hkP so (t2 S i hS.1.1 hle i0 i1 ib))) (fun r hr => ?_)
      have z := csP_Q hr
      have e16 : g3.1 16 = h.1 16 := sc_c fs3 16 (by unfold scC; omega)
      have e50 : g3.1 50 = g.1 50 := d3 50 (by decide) (by decide)
      have pm := se_perm (K := h.1) (K1 := g3.1) hv hch.1 (sd := (k : Int)) (by omega) (by rw [e50]; exact cg) e16 hS
      have z2 : csQ h.1 0 (chL (Qw h.1 (k : Int)) (h.1 13 10).toNat) r := csQ_cg (fun l => sc_cost fs3 0 l) (csQ_p pm z)
      refine ok_gd (by omega) ?_
      refine ok_bs ?_
      have e66 : (hI g3 66 k r).1 66 = updI (g3.1 66) k r := rI_s
      have fn : Fr (fun c _ => c = 66) g2 (hI g3 66 k r) := fr_I f rfl
      by_cases c : x = 0
      · refine ok_pos c ?_
        rw [e64]
        refine ok_gd (by omega) ?_
        rw [ek]
        exact ih M (k + 1) 0 _ (by omega) (by omega) fn (by rw [e66]; exact alP_s ci z2 (by rw [if_pos c]))
      · refine ok_neg c ?_
        refine ok_gd (by omega) ?_
        rw [e66, updI_s]
        by_cases d : r = -1
        · refine ok_pos d ?_
          rw [e64]
          refine ok_gd (by omega) ?_
          rw [ek]
          exact ih M (k + 1) 0 _ (by omega) (by omega) fn (by rw [e66]; exact alP_s ci z2 (by rw [if_neg c, if_pos d]))
        · refine ok_neg d ?_
          rw [e65]
          refine ok_gd (by omega) ?_
          rw [ek]
          exact ih M (k + 1) 1 _ (by omega) (by omega) fn (by rw [e66]; exact alP_s ci z2 (by rw [if_neg c, if_neg d]))
  exact key 8 100000 0 1 g2 (by omega) (by omega) fr_r ⟨fun s s0 s1 => by omega, Or.inr rfl, ⟨fun _ s s0 s1 => by omega, fun _ => rfl⟩⟩
abbrev sRm : Nat → Int → Prop := fun c i => sTg c i ∨ c = 118
theorem sRm_sc {g : HH} (f : Fr sRm m g) : Fr scM m g := fr_m (fun c i s => by dsimp only [sRm, sTg, sDF] at s; unfold scM; omega) f
theorem m_reckons (hv : VAL K) (hm : RM K m) (v1 : 0 < K 13 14) : Ok (nX12_reckons m) (fun r => Fr sRm m r.2 ∧ alP K 8 (r.2.1 118) r.1) := by
  have hn := v_n hv
  have key : ∀ (r N k : Nat) (x : Int) (g3 : HH), r < N → k + r = 8 → Fr sRm m g3 → alP K k (g3.1 118) x → Ok (nX12_reckons_4 N x k g3) (fun r => Fr sRm m r.2 ∧ alP K 8 (r.2.1 118) r.1) := by
    intro r
    induction r with
    | zero =>
      intro N k x g3 hN hk f ci
      obtain ⟨M, rfl⟩ := fuel_s hN
      have cx := ci.2.1
      rw [nX12_reckons_4_s]
      simp only [bX12_reckons_4]
      refine ok_neg (by omega) ?_
      refine ok_gd (by clear ci; omega) ?_
      have e8 : k = 8 := by omega
      rw [e8] at ci
      exact ok_some ⟨f, ci⟩
    | succ r ih =>
      intro N k x g3 hN hk f ci
      obtain ⟨M, rfl⟩ := fuel_s hN
      have ek : (k : Int) + 1 = ((k + 1 : Nat) : Int) := by omega
      have hm3 : RM K g3 := RM_fr hm f (fun c i s => by dsimp only [sRm, sTg, sDF] at s; unfold rmP; omega)
      rw [nX12_reckons_4_s]
      have e64 : ∀ (x2 : Int) (h : HH), nX12_reckons_39 (nX12_reckons_4 M) x2 h = gd (R32 (x2 + 1)) (nX12_reckons_4 M 0 (x2 + 1) h) := fun _ _ => rfl
      have e65 : ∀ (x2 y : Int) (h : HH), nX12_reckons_40 (nX12_reckons_4 M) x2 y h = gd (R32 (x2 + 1)) (nX12_reckons_4 M y (x2 + 1) h) := fun _ _ _ => rfl
      simp only [bX12_reckons_4]
      refine ok_pos (by omega) ?_
      refine ok_bnd (m_tog hv hm3 v1 (sd := (k : Int)) (by omega)) (fun q hq => ?_)
      obtain ⟨fq, z2⟩ := hq
      have f4 : Fr sRm m q.2 := fr_t f (fr_m (fun c i s => Or.inl s) fq)
      have e118 : q.2.1 118 = g3.1 118 := fr_c fq 118 (fun i s => by dsimp only [sTg, sDF] at s; omega)
      refine ok_gd (by omega) ?_
      refine ok_bs ?_
      have e66 : (hI q.2 118 k q.1).1 118 = updI (g3.1 118) k q.1 := by rw [rI_s, e118]
      have fn : Fr sRm m (hI q.2 118 k q.1) := fr_I f4 (Or.inr rfl)
      by_cases c : x = 0
      · refine ok_pos c ?_
        rw [e64]
        refine ok_gd (by omega) ?_
        rw [ek]
        exact ih M (k + 1) 0 _ (by omega) (by omega) fn (by rw [e66]; exact alP_s ci z2 (by rw [if_pos c]))
      · refine ok_neg c ?_
        refine ok_gd (by omega) ?_
        rw [e66, updI_s]
        by_cases d : q.1 = -1
        · refine ok_pos d ?_
          rw [e64]
          refine ok_gd (by omega) ?_
          rw [ek]
          exact ih M (k + 1) 0 _ (by omega) (by omega) fn (by rw [e66]; exact alP_s ci z2 (by rw [if_neg c, if_pos d]))
        · refine ok_neg d ?_
          rw [e65]
          refine ok_gd (by omega) ?_
          rw [ek]
          exact ih M (k + 1) 1 _ (by omega) (by omega) fn (by rw [e66]; exact alP_s ci z2 (by rw [if_neg c, if_neg d]))
  unfold nX12_reckons bX12_reckons
  exact key 8 100000 0 1 m (by omega) (by omega) fr_r ⟨fun s s0 s1 => by omega, Or.inr rfl, ⟨fun _ s s0 s1 => by omega, fun _ => rfl⟩⟩
theorem or_8 : ∀ (s : Fin 8) (i : Fin 3), orI (s.val : Int) (shlI 1 (i.val : Int)) = ((s.val ||| 2 ^ i.val : Nat) : Int) := by decide +kernel
theorem or_8b : ∀ (s : Fin 8) (i : Fin 3), (s.val ||| 2 ^ i.val) < 8 := by decide +kernel
def cnN (s : Nat) : Nat → Nat
  | 0 => 0
  | k + 1 => cnN s k + if Nat.testBit s k = true then 1 else 0
theorem bitC_0 : ∀ s : Fin 1024, bJ6_bitCount_0f7a4 (fun _ _ => 0, fun _ _ => 0) (s.val : Int) = some ((cnN s.val 10 : Nat) : Int) := by decide +kernel
theorem bitC {h : HH} {s : Nat} (hs : s < 1024) : nJ6_bitCount_0f7a4 h (s : Int) = some ((cnN s 10 : Nat) : Int) := bitC_0 ⟨s, hs⟩
def sumN (g : Nat → Int) : Nat → Int
  | 0 => 0
  | n + 1 => sumN g n + g n
theorem sumN_b {g : Nat → Int} {B : Int} (hB : 0 ≤ B) : ∀ {n : Nat}, (∀ k, k < n → -B ≤ g k ∧ g k ≤ B) → -(B * n) ≤ sumN g n ∧ sumN g n ≤ B * n
  | 0, _ => by simp [sumN]
  | n + 1, h => by
    have a := sumN_b hB (n := n) (fun k hk => h k (by omega))
    have b := h n (by omega)
    have e : B * ((n + 1 : Nat) : Int) = B * n + B := by rw [show ((n + 1 : Nat) : Int) = (n : Int) + 1 by omega, Int.mul_add, Int.mul_one]
    rw [sumN, e]
    generalize B * (n : Int) = y at *
    omega
def sxT (f : Int → Int) (x k : Nat) : Int := if Nat.testBit k x = true then 0 else if cnN k 10 = 1 then 1 * (f ((k ||| 2 ^ x : Nat) : Int) - f (k : Int)) else 2 * (f ((k ||| 2 ^ x : Nat) : Int) - f (k : Int))
theorem sxT_b {f : Int → Int} (hb : ∀ s : Int, 0 ≤ s → s < 8 → -1 ≤ f s ∧ f s ≤ 2000) {x k : Nat} (hx : x < 3) (hk : k < 8) : -4002 ≤ sxT f x k ∧ sxT f x k ≤ 4002 := by
  have hlt := or_8b ⟨k, hk⟩ ⟨x, hx⟩
  dsimp only at hlt
  have b1 := hb (k : Int) (by omega) (by omega)
  have b2 := hb ((k ||| 2 ^ x : Nat) : Int) (Int.natCast_nonneg _) (by exact_mod_cast hlt)
  unfold sxT
  generalize f ((k ||| 2 ^ x : Nat) : Int) = a at *
  clear hlt
  split
  · omega
  · split <;> omega
theorem c_six (hb : ∀ s : Int, 0 ≤ s → s < 8 → -1 ≤ h.1 66 s ∧ h.1 66 s ≤ 2000) {x : Nat} (hx : x < 3) : nX8_sixfold h (x : Int) = some (sumN (sxT (h.1 66) x) 8) := by
  have key : ∀ (r N k : Nat) (y z : Int), y = sumN (sxT (h.1 66) x) k → z = (k : Int) → r < N → k + r = 8 → nX8_sixfold_4 h N (x : Int) y z = some (sumN (sxT (h.1 66) x) 8) := by
    intro r
    induction r with
    | zero =>
      intro N k y z hy hz hN hk
      subst hy
      subst hz
      obtain ⟨M, rfl⟩ := fuel_s hN
      rw [nX8_sixfold_4_s]
      simp only [bX8_sixfold_4]
      rw [if_neg (by omega), show k = 8 by omega]
    | succ r ih =>
      intro N k y z hy hz hN hk
      subst hy
      subst hz
      obtain ⟨M, rfl⟩ := fuel_s hN
      have hs := sumN_b (g := sxT (h.1 66) x) (B := 4002) (by omega) (n := k) (fun j hj => sxT_b hb hx (by omega))
      have ek : (k : Int) + 1 = ((k + 1 : Nat) : Int) := by omega
      have hi := ih M (k + 1) _ _ rfl rfl (by omega) (by omega)
      rw [sumN] at hi
      have hlt := or_8b ⟨k, by omega⟩ ⟨x, hx⟩
      have eo := or_8 ⟨k, by omega⟩ ⟨x, hx⟩
      dsimp only at hlt eo
      rw [nX8_sixfold_4_s]
      simp only [bX8_sixfold_4, nX8_sixfold_31, bX8_sixfold_31, nX8_sixfold_56, bX8_sixfold_56]
      refine ok_is ?_
      refine ok_pos (by omega) ?_
      refine ok_be (sX8_isIn (S := (k : Int)) (i := (x : Int)) (by omega) (by omega)) ?_
      have ebt : bt (k : Int) (x : Int) = Nat.testBit k x := by unfold bt; rw [Int.toNat_natCast, Int.toNat_natCast]
      rw [ebt]
      by_cases c : Nat.testBit k x = true
      · rw [if_pos c]
        refine ok_neg (by decide) ?_
        refine ok_gd (by omega) ?_
        rw [ek]
        unfold sxT at hi
        rw [if_pos c, Int.add_zero] at hi
        exact ok_of hi rfl
      · rw [if_neg c]
        refine ok_pos rfl ?_
        refine ok_be (bitC (by omega)) ?_
        rw [eo]
        have b1 := hb (k : Int) (by omega) (by omega)
        have b2 := hb ((k ||| 2 ^ x : Nat) : Int) (Int.natCast_nonneg _) (by exact_mod_cast hlt)
        have hi2 : nX8_sixfold_4 h M (x : Int) (sumN (sxT (h.1 66) x) k + if cnN k 10 = 1 then 1 * (h.1 66 ((k ||| 2 ^ x : Nat) : Int) - h.1 66 (k : Int)) else 2 * (h.1 66 ((k ||| 2 ^ x : Nat) : Int) - h.1 66 (k : Int))) ((k + 1 : Nat) : Int) = some (sumN (sxT (h.1 66) x) 8) := by
          have e : sxT (h.1 66) x k = if cnN k 10 = 1 then 1 * (h.1 66 ((k ||| 2 ^ x : Nat) : Int) - h.1 66 (k : Int)) else 2 * (h.1 66 ((k ||| 2 ^ x : Nat) : Int) - h.1 66 (k : Int)) := by
            conv => lhs; unfold sxT
            rw [if_neg c]
          rw [← e]
          exact hi
        clear hi ih
        generalize hz : (k ||| 2 ^ x) = z at *
        generalize sumN (sxT (h.1 66) x) k = y at *
        by_cases d : cnN k 10 = 1
        · rw [if_pos d] at hi2
          refine ok_pos (by omega) ?_
          refine ok_gd (by omega) ?_
          refine ok_gd (by omega) ?_
          refine ok_gd (by omega) ?_
          refine ok_gd (by omega) ?_
          refine ok_gd (by omega) ?_
          refine ok_gd (by omega) ?_
          rw [ek]
          exact ok_of hi2 rfl
        · rw [if_neg d] at hi2
          refine ok_neg (by omega) ?_
          refine ok_gd (by omega) ?_
          refine ok_gd (by omega) ?_
          refine ok_gd (by omega) ?_
          refine ok_gd (by omega) ?_
          refine ok_gd (by omega) ?_
          refine ok_gd (by omega) ?_
          rw [ek]
          exact ok_of hi2 rfl
  unfold nX8_sixfold bX8_sixfold
  exact key 8 100000 0 0 0 rfl rfl (by omega) (by omega)
def ahN (x k : Nat) : Nat := if x = k / 3 then 0 else if x = k % 3 then 2 ^ (k / 3) else 2 ^ (k / 3) ||| 2 ^ (k % 3)
theorem ah_1 : ∀ (k : Fin 9), shlI 1 (((k.val / 3 : Nat)) : Int) = ((2 ^ (k.val / 3) : Nat) : Int) := by decide +kernel
theorem ah_2 : ∀ (k : Fin 9), orI (shlI 1 (((k.val / 3 : Nat)) : Int)) (shlI 1 (((k.val % 3 : Nat)) : Int)) = ((2 ^ (k.val / 3) ||| 2 ^ (k.val % 3) : Nat) : Int) := by decide +kernel
theorem ah_b : ∀ (x : Fin 3) (k : Fin 9), ahN x.val k.val < 8 := by decide +kernel
def sh3T (f : Int → Int) (x k : Nat) : Int := if k / 3 = k % 3 then 0 else f ((ahN x k ||| 2 ^ x : Nat) : Int) - f ((ahN x k : Nat) : Int)
theorem sh3T_b {f : Int → Int} (hb : ∀ s : Int, 0 ≤ s → s < 8 → -1 ≤ f s ∧ f s ≤ 2000) {x k : Nat} (hx : x < 3) (hk : k < 9) : -4002 ≤ sh3T f x k ∧ sh3T f x k ≤ 4002 := by
  have ha := ah_b ⟨x, hx⟩ ⟨k, hk⟩
  dsimp only at ha
  have hlt := or_8b ⟨ahN x k, ha⟩ ⟨x, hx⟩
  dsimp only at hlt
  have b1 := hb (ahN x k : Int) (by omega) (by omega)
  have b2 := hb ((ahN x k ||| 2 ^ x : Nat) : Int) (Int.natCast_nonneg _) (by exact_mod_cast hlt)
  unfold sh3T
  generalize f ((ahN x k ||| 2 ^ x : Nat) : Int) = a at *
  clear hlt
  split <;> omega
theorem m_six (hb : ∀ s : Int, 0 ≤ s → s < 8 → -1 ≤ h.1 118 s ∧ h.1 118 s ≤ 2000) {x : Nat} (hx : x < 3) : nX12_shareOf h (x : Int) = some (sumN (sh3T (h.1 118) x) 9) := by
  have key : ∀ (r N k : Nat) (y z : Int), y = sumN (sh3T (h.1 118) x) k → z = (k : Int) → r < N → k + r = 9 → nX12_shareOf_4 h N (x : Int) y z = some (sumN (sh3T (h.1 118) x) 9) := by
    intro r
    induction r with
    | zero =>
      intro N k y z hy hz hN hk
      subst hy
      subst hz
      obtain ⟨M, rfl⟩ := fuel_s hN
      rw [nX12_shareOf_4_s]
      simp only [bX12_shareOf_4]
      rw [if_neg (by omega), show k = 9 by omega]
    | succ r ih =>
      intro N k y z hy hz hN hk
      subst hy
      subst hz
      obtain ⟨M, rfl⟩ := fuel_s hN
      have hs := sumN_b (g := sh3T (h.1 118) x) (B := 4002) (by omega) (n := k) (fun j hj => sh3T_b hb hx (by omega))
      have hst := sh3T_b hb (x := x) (k := k) hx (by omega)
      have ek : (k : Int) + 1 = ((k + 1 : Nat) : Int) := by omega
      have hi := ih M (k + 1) _ _ rfl rfl (by omega) (by omega)
      rw [sumN] at hi
      have ha := ah_b ⟨x, hx⟩ ⟨k, by omega⟩
      dsimp only at ha
      have hlt := or_8b ⟨ahN x k, ha⟩ ⟨x, hx⟩
      have eo := or_8 ⟨ahN x k, ha⟩ ⟨x, hx⟩
      dsimp only at hlt eo
      have a1 := ah_1 ⟨k, by omega⟩
      have a2 := ah_2 ⟨k, by omega⟩
      dsimp only at a1 a2
      have b1 := hb (ahN x k : Int) (by omega) (by omega)
      have b2 := hb ((ahN x k ||| 2 ^ x : Nat) : Int) (Int.natCast_nonneg _) (by exact_mod_cast hlt)
      have d1 : (k : Int) / 3 = ((k / 3 : Nat) : Int) := by omega
      have d2 : (k : Int) % 3 = ((k % 3 : Nat) : Int) := by omega
      have m1 : k / 3 < 3 := by omega
      have m2 : k % 3 < 3 := by omega
      rw [nX12_shareOf_4_s]
      simp only [bX12_shareOf_4]
      rw [d1, d2]
      generalize hp : k / 3 = p at *
      generalize hq : k % 3 = q at *
      refine ok_is ?_
      refine ok_pos (by omega) ?_
      refine ok_gd (by omega) ?_
      refine ok_gd (by omega) ?_
      refine ok_gd (by omega) ?_
      refine ok_gd (by omega) ?_
      by_cases c : p = q
      · refine ok_pos (by omega) ?_
        simp only [nX12_shareOf_117, bX12_shareOf_117]
        refine ok_gd (by omega) ?_
        rw [ek]
        unfold sh3T at hi
        rw [hp, hq, if_pos c, Int.add_zero] at hi
        exact ok_of hi rfl
      · refine ok_neg (by omega) ?_
        have at71 : ∀ y0 : Int, y0 = ((ahN x k : Nat) : Int) → Ok (nX12_shareOf_71 h (nX12_shareOf_4 h M) (x : Int) (sumN (sh3T (h.1 118) x) k) (k : Int) (p : Int) (q : Int) (3 - (p : Int) - (q : Int)) y0) (fun a => a = sumN (sh3T (h.1 118) x) 9) := fun y0 hy => by
          have es : sh3T (h.1 118) x k = h.1 118 ((ahN x k ||| 2 ^ x : Nat) : Int) - h.1 118 ((ahN x k : Nat) : Int) := by
            conv => lhs; unfold sh3T
            rw [hp, hq, if_neg c]
          have at92 : Ok (nX12_shareOf_92 h (nX12_shareOf_4 h M) (x : Int) (k : Int) ((ahN x k : Nat) : Int) (sumN (sh3T (h.1 118) x) k)) (fun a => a = sumN (sh3T (h.1 118) x) 9) := by
            simp only [nX12_shareOf_92, bX12_shareOf_92, nX12_shareOf_115, bX12_shareOf_115, nX12_shareOf_117, bX12_shareOf_117]
            rw [eo, ← es]
            clear ih
            refine ok_gd ⟨Int.natCast_nonneg _, by exact_mod_cast hlt⟩ ?_
            generalize hz : (ahN x k ||| 2 ^ x) = z at *
            refine ok_gd (by omega) ?_
            refine ok_gd (by omega) ?_
            refine ok_gd (by omega) ?_
            refine ok_gd (by omega) ?_
            rw [ek]
            exact ok_of hi rfl
          rw [hy]
          simp only [nX12_shareOf_71, bX12_shareOf_71]
          by_cases c1 : x = p
          · refine ok_pos (by omega) ?_
            exact at92
          · refine ok_neg (by omega) ?_
            by_cases c2 : x = q
            · refine ok_pos (by omega) ?_
              exact at92
            · refine ok_neg (by omega) ?_
              refine ok_pos (by omega) ?_
              exact at92
        by_cases c1 : x = p
        · refine ok_pos (by omega) ?_
          exact at71 0 (by unfold ahN; rw [hp, if_pos c1]; rfl)
        · refine ok_neg (by omega) ?_
          by_cases c2 : x = q
          · refine ok_pos (by omega) ?_
            exact at71 _ (by unfold ahN; rw [hp, hq, if_neg c1, if_pos c2]; exact a1)
          · refine ok_neg (by omega) ?_
            exact at71 _ (by unfold ahN; rw [hp, hq, if_neg c1, if_neg c2]; exact a2)
  unfold nX12_shareOf bX12_shareOf
  exact key 9 100000 0 0 0 rfl rfl (by omega) (by omega)
theorem six_eq {f f' : Int → Int} (e : ∀ s, 0 ≤ s → s < 8 → f s = f' s) {x : Nat} (hx : x < 3) : sumN (sxT f x) 8 = sumN (sh3T f' x) 9 := by
  have e0 := e 0 (by omega) (by omega)
  have e1 := e 1 (by omega) (by omega)
  have e2 := e 2 (by omega) (by omega)
  have e3 := e 3 (by omega) (by omega)
  have e4 := e 4 (by omega) (by omega)
  have e5 := e 5 (by omega) (by omega)
  have e6 := e 6 (by omega) (by omega)
  have e7 := e 7 (by omega) (by omega)
  rcases (by omega : x = 0 ∨ x = 1 ∨ x = 2) with rfl | rfl | rfl
  · have a : sumN (sxT f 0) 8 = 0 + 2 * (f 1 - f 0) + 0 + 1 * (f 3 - f 2) + 0 + 1 * (f 5 - f 4) + 0 + 2 * (f 7 - f 6) + 0 := rfl
    have b : sumN (sh3T f' 0) 9 = 0 + 0 + (f' 1 - f' 0) + (f' 1 - f' 0) + (f' 3 - f' 2) + 0 + (f' 7 - f' 6) + (f' 5 - f' 4) + (f' 7 - f' 6) + 0 := rfl
    omega
  · have a : sumN (sxT f 1) 8 = 0 + 2 * (f 2 - f 0) + 1 * (f 3 - f 1) + 0 + 0 + 1 * (f 6 - f 4) + 2 * (f 7 - f 5) + 0 + 0 := rfl
    have b : sumN (sh3T f' 1) 9 = 0 + 0 + (f' 3 - f' 1) + (f' 7 - f' 5) + (f' 2 - f' 0) + 0 + (f' 2 - f' 0) + (f' 7 - f' 5) + (f' 6 - f' 4) + 0 := rfl
    omega
  · have a : sumN (sxT f 2) 8 = 0 + 2 * (f 4 - f 0) + 1 * (f 5 - f 1) + 1 * (f 6 - f 2) + 2 * (f 7 - f 3) + 0 + 0 + 0 + 0 := rfl
    have b : sumN (sh3T f' 2) 9 = 0 + 0 + (f' 7 - f' 3) + (f' 5 - f' 1) + (f' 7 - f' 3) + 0 + (f' 6 - f' 2) + (f' 4 - f' 0) + (f' 4 - f' 0) + 0 := rfl
    omega
theorem alP_b (hv : VAL K) (v1 : 0 < K 13 14) {f : Int → Int} {x : Int} (q : alP K 8 f x) : ∀ s : Int, 0 ≤ s → s < 8 → -1 ≤ f s ∧ f s ≤ 2000 := fun s s0 s1 =>
  csQ_b hv (by omega) v1 (chL_in (v_n hv).1.1) (q.1 s s0 (by omega))
theorem op_share (i : INV h h') (x1 : Int) : both (nX11_share x1 h) (nX12_share x1 h') (cdX 1 0 2 3) := by
  have i0 := i
  have hv := i.1.1.1
  have hm := i.1.1.2
  have hn := inv_n i
  simp only [nX11_share, bX11_share, nX11_share_19, bX11_share_19, nX12_share, bX12_share, both]
  by_cases p1 : 0 ≤ x1 ∧ x1 ≤ 2
  · obtain ⟨x, rfl⟩ : ∃ x : Nat, x1 = x := ⟨x1.toNat, by omega⟩
    have hx : x < 3 := by omega
    by_cases p2 : 0 < h.1 13 14
    · repeat (first | with_reducible refine ok_gd (by first | omega | decide) ?_ | with_reducible refine ok_bs ?_ | with_reducible refine ok_be (sX12_refuse _ _) ?_ | with_reducible refine ok_be (sX12_told _ _) ?_ | with_reducible refine ok_ndt (sX11_needIndex _ _ _ _) (by omega) ?_ | with_reducible refine ok_ndf (sX11_needIndex _ _ _ _) (by omega) ?_ | with_reducible refine ok_ndt (sX11_needRange _ _ _ _) (by omega) ?_ | with_reducible refine ok_ndf (sX11_needRange _ _ _ _) (by omega) ?_ | with_reducible refine ok_ndt (sX11_needThat2 _ _) (by omega) ?_ | with_reducible refine ok_ndf (sX11_needThat2 _ _) (by omega) ?_ | with_reducible refine ok_ndt (sX11_needState2 _ _) (by omega) ?_ | with_reducible refine ok_ndf (sX11_needState2 _ _) (by omega) ?_ | with_reducible refine ok_ndt (sX11_needElement _ _) (by omega) ?_ | with_reducible refine ok_ndf (sX11_needElement _ _) (by omega) ?_ | with_reducible refine ok_ndt (sX11_needPlace _ _) (by omega) ?_ | with_reducible refine ok_ndf (sX11_needPlace _ _) (by omega) ?_ | with_reducible refine ok_ndt (sX11_needSender _ _) (by omega) ?_ | with_reducible refine ok_ndf (sX11_needSender _ _) (by omega) ?_ | with_reducible refine ok_b2t (sX12_in _ _ _ _) (by omega) ?_ | with_reducible refine ok_b2f (sX12_in _ _ _ _) (by omega) ?_ | with_reducible refine ok_b2t (sX12_isPlace _ _) (by omega) ?_ | with_reducible refine ok_b2f (sX12_isPlace _ _) (by omega) ?_ | with_reducible refine ok_pos (by omega) ?_ | with_reducible refine ok_neg (by omega) ?_ | with_reducible refine ok_tl ?_ | with_reducible refine ok_tr ?_ | dsimp only)
      refine ok_bnd (c_reckon hv p2) (fun a ha => ?_)
      obtain ⟨b, eb, fb, zb⟩ := m_reckons hv hm p2
      have ia : INV a.2 b.2 := INV_scr i (sRk_sc ha.1) (sRm_sc fb)
      have bc := alP_b hv p2 ha.2
      have bm := alP_b hv p2 zb
      have eq := alP_u ha.2 zb
      by_cases c : a.1 = 0
      · repeat (first | with_reducible refine ok_gd (by first | omega | decide) ?_ | with_reducible refine ok_bs ?_ | with_reducible refine ok_be (sX12_refuse _ _) ?_ | with_reducible refine ok_be (sX12_told _ _) ?_ | with_reducible refine ok_ndt (sX11_needIndex _ _ _ _) (by omega) ?_ | with_reducible refine ok_ndf (sX11_needIndex _ _ _ _) (by omega) ?_ | with_reducible refine ok_ndt (sX11_needRange _ _ _ _) (by omega) ?_ | with_reducible refine ok_ndf (sX11_needRange _ _ _ _) (by omega) ?_ | with_reducible refine ok_ndt (sX11_needThat2 _ _) (by omega) ?_ | with_reducible refine ok_ndf (sX11_needThat2 _ _) (by omega) ?_ | with_reducible refine ok_ndt (sX11_needState2 _ _) (by omega) ?_ | with_reducible refine ok_ndf (sX11_needState2 _ _) (by omega) ?_ | with_reducible refine ok_ndt (sX11_needElement _ _) (by omega) ?_ | with_reducible refine ok_ndf (sX11_needElement _ _) (by omega) ?_ | with_reducible refine ok_ndt (sX11_needPlace _ _) (by omega) ?_ | with_reducible refine ok_ndf (sX11_needPlace _ _) (by omega) ?_ | with_reducible refine ok_ndt (sX11_needSender _ _) (by omega) ?_ | with_reducible refine ok_ndf (sX11_needSender _ _) (by omega) ?_ | with_reducible refine ok_b2t (sX12_in _ _ _ _) (by omega) ?_ | with_reducible refine ok_b2f (sX12_in _ _ _ _) (by omega) ?_ | with_reducible refine ok_b2t (sX12_isPlace _ _) (by omega) ?_ | with_reducible refine ok_b2f (sX12_isPlace _ _) (by omega) ?_ | with_reducible refine ok_pos (by omega) ?_ | with_reducible refine ok_neg (by omega) ?_ | with_reducible refine ok_tl ?_ | with_reducible refine ok_tr ?_ | dsimp only)
        refine ok_some ?_
        repeat (first | with_reducible refine ok_gd (by first | omega | decide) ?_ | with_reducible refine ok_bs ?_ | with_reducible refine ok_be (sX12_refuse _ _) ?_ | with_reducible refine ok_be (sX12_told _ _) ?_ | with_reducible refine ok_ndt (sX11_needIndex _ _ _ _) (by omega) ?_ | with_reducible refine ok_ndf (sX11_needIndex _ _ _ _) (by omega) ?_ | with_reducible refine ok_ndt (sX11_needRange _ _ _ _) (by omega) ?_ | with_reducible refine ok_ndf (sX11_needRange _ _ _ _) (by omega) ?_ | with_reducible refine ok_ndt (sX11_needThat2 _ _) (by omega) ?_ | with_reducible refine ok_ndf (sX11_needThat2 _ _) (by omega) ?_ | with_reducible refine ok_ndt (sX11_needState2 _ _) (by omega) ?_ | with_reducible refine ok_ndf (sX11_needState2 _ _) (by omega) ?_ | with_reducible refine ok_ndt (sX11_needElement _ _) (by omega) ?_ | with_reducible refine ok_ndf (sX11_needElement _ _) (by omega) ?_ | with_reducible refine ok_ndt (sX11_needPlace _ _) (by omega) ?_ | with_reducible refine ok_ndf (sX11_needPlace _ _) (by omega) ?_ | with_reducible refine ok_ndt (sX11_needSender _ _) (by omega) ?_ | with_reducible refine ok_ndf (sX11_needSender _ _) (by omega) ?_ | with_reducible refine ok_b2t (sX12_in _ _ _ _) (by omega) ?_ | with_reducible refine ok_b2f (sX12_in _ _ _ _) (by omega) ?_ | with_reducible refine ok_b2t (sX12_isPlace _ _) (by omega) ?_ | with_reducible refine ok_b2f (sX12_isPlace _ _) (by omega) ?_ | with_reducible refine ok_pos (by omega) ?_ | with_reducible refine ok_neg (by omega) ?_ | with_reducible refine ok_tl ?_ | with_reducible refine ok_tr ?_ | dsimp only)
        refine ok_be eb ?_
        have : b.1 = 0 := eq.2.symm.trans c
        repeat (first | with_reducible refine ok_gd (by first | omega | decide) ?_ | with_reducible refine ok_bs ?_ | with_reducible refine ok_be (sX12_refuse _ _) ?_ | with_reducible refine ok_be (sX12_told _ _) ?_ | with_reducible refine ok_ndt (sX11_needIndex _ _ _ _) (by omega) ?_ | with_reducible refine ok_ndf (sX11_needIndex _ _ _ _) (by omega) ?_ | with_reducible refine ok_ndt (sX11_needRange _ _ _ _) (by omega) ?_ | with_reducible refine ok_ndf (sX11_needRange _ _ _ _) (by omega) ?_ | with_reducible refine ok_ndt (sX11_needThat2 _ _) (by omega) ?_ | with_reducible refine ok_ndf (sX11_needThat2 _ _) (by omega) ?_ | with_reducible refine ok_ndt (sX11_needState2 _ _) (by omega) ?_ | with_reducible refine ok_ndf (sX11_needState2 _ _) (by omega) ?_ | with_reducible refine ok_ndt (sX11_needElement _ _) (by omega) ?_ | with_reducible refine ok_ndf (sX11_needElement _ _) (by omega) ?_ | with_reducible refine ok_ndt (sX11_needPlace _ _) (by omega) ?_ | with_reducible refine ok_ndf (sX11_needPlace _ _) (by omega) ?_ | with_reducible refine ok_ndt (sX11_needSender _ _) (by omega) ?_ | with_reducible refine ok_ndf (sX11_needSender _ _) (by omega) ?_ | with_reducible refine ok_b2t (sX12_in _ _ _ _) (by omega) ?_ | with_reducible refine ok_b2f (sX12_in _ _ _ _) (by omega) ?_ | with_reducible refine ok_b2t (sX12_isPlace _ _) (by omega) ?_ | with_reducible refine ok_b2f (sX12_isPlace _ _) (by omega) ?_ | with_reducible refine ok_pos (by omega) ?_ | with_reducible refine ok_neg (by omega) ?_ | with_reducible refine ok_tl ?_ | with_reducible refine ok_tr ?_ | dsimp only)
        exact both_thr ia (by decide) rfl
      · have e := c_six (h := a.2) bc hx
        have e' := m_six (h := b.2) bm hx
        repeat (first | with_reducible refine ok_gd (by first | omega | decide) ?_ | with_reducible refine ok_bs ?_ | with_reducible refine ok_be (e) ?_ | with_reducible refine ok_be (sX12_refuse _ _) ?_ | with_reducible refine ok_be (sX12_told _ _) ?_ | with_reducible refine ok_ndt (sX11_needIndex _ _ _ _) (by omega) ?_ | with_reducible refine ok_ndf (sX11_needIndex _ _ _ _) (by omega) ?_ | with_reducible refine ok_ndt (sX11_needRange _ _ _ _) (by omega) ?_ | with_reducible refine ok_ndf (sX11_needRange _ _ _ _) (by omega) ?_ | with_reducible refine ok_ndt (sX11_needThat2 _ _) (by omega) ?_ | with_reducible refine ok_ndf (sX11_needThat2 _ _) (by omega) ?_ | with_reducible refine ok_ndt (sX11_needState2 _ _) (by omega) ?_ | with_reducible refine ok_ndf (sX11_needState2 _ _) (by omega) ?_ | with_reducible refine ok_ndt (sX11_needElement _ _) (by omega) ?_ | with_reducible refine ok_ndf (sX11_needElement _ _) (by omega) ?_ | with_reducible refine ok_ndt (sX11_needPlace _ _) (by omega) ?_ | with_reducible refine ok_ndf (sX11_needPlace _ _) (by omega) ?_ | with_reducible refine ok_ndt (sX11_needSender _ _) (by omega) ?_ | with_reducible refine ok_ndf (sX11_needSender _ _) (by omega) ?_ | with_reducible refine ok_b2t (sX12_in _ _ _ _) (by omega) ?_ | with_reducible refine ok_b2f (sX12_in _ _ _ _) (by omega) ?_ | with_reducible refine ok_b2t (sX12_isPlace _ _) (by omega) ?_ | with_reducible refine ok_b2f (sX12_isPlace _ _) (by omega) ?_ | with_reducible refine ok_pos (by omega) ?_ | with_reducible refine ok_neg (by omega) ?_ | with_reducible refine ok_tl ?_ | with_reducible refine ok_tr ?_ | dsimp only)
        refine ok_some ?_
        have c' : ¬ b.1 = 0 := fun z => c (eq.2.trans z)
        repeat (first | with_reducible refine ok_gd (by first | omega | decide) ?_ | with_reducible refine ok_bs ?_ | with_reducible refine ok_be (sX12_refuse _ _) ?_ | with_reducible refine ok_be (sX12_told _ _) ?_ | with_reducible refine ok_ndt (sX11_needIndex _ _ _ _) (by omega) ?_ | with_reducible refine ok_ndf (sX11_needIndex _ _ _ _) (by omega) ?_ | with_reducible refine ok_ndt (sX11_needRange _ _ _ _) (by omega) ?_ | with_reducible refine ok_ndf (sX11_needRange _ _ _ _) (by omega) ?_ | with_reducible refine ok_ndt (sX11_needThat2 _ _) (by omega) ?_ | with_reducible refine ok_ndf (sX11_needThat2 _ _) (by omega) ?_ | with_reducible refine ok_ndt (sX11_needState2 _ _) (by omega) ?_ | with_reducible refine ok_ndf (sX11_needState2 _ _) (by omega) ?_ | with_reducible refine ok_ndt (sX11_needElement _ _) (by omega) ?_ | with_reducible refine ok_ndf (sX11_needElement _ _) (by omega) ?_ | with_reducible refine ok_ndt (sX11_needPlace _ _) (by omega) ?_ | with_reducible refine ok_ndf (sX11_needPlace _ _) (by omega) ?_ | with_reducible refine ok_ndt (sX11_needSender _ _) (by omega) ?_ | with_reducible refine ok_ndf (sX11_needSender _ _) (by omega) ?_ | with_reducible refine ok_b2t (sX12_in _ _ _ _) (by omega) ?_ | with_reducible refine ok_b2f (sX12_in _ _ _ _) (by omega) ?_ | with_reducible refine ok_b2t (sX12_isPlace _ _) (by omega) ?_ | with_reducible refine ok_b2f (sX12_isPlace _ _) (by omega) ?_ | with_reducible refine ok_pos (by omega) ?_ | with_reducible refine ok_neg (by omega) ?_ | with_reducible refine ok_tl ?_ | with_reducible refine ok_tr ?_ | dsimp only)
        refine ok_be eb ?_
        repeat (first | with_reducible refine ok_gd (by first | omega | decide) ?_ | with_reducible refine ok_bs ?_ | with_reducible refine ok_be (e') ?_ | with_reducible refine ok_be (sX12_refuse _ _) ?_ | with_reducible refine ok_be (sX12_told _ _) ?_ | with_reducible refine ok_ndt (sX11_needIndex _ _ _ _) (by omega) ?_ | with_reducible refine ok_ndf (sX11_needIndex _ _ _ _) (by omega) ?_ | with_reducible refine ok_ndt (sX11_needRange _ _ _ _) (by omega) ?_ | with_reducible refine ok_ndf (sX11_needRange _ _ _ _) (by omega) ?_ | with_reducible refine ok_ndt (sX11_needThat2 _ _) (by omega) ?_ | with_reducible refine ok_ndf (sX11_needThat2 _ _) (by omega) ?_ | with_reducible refine ok_ndt (sX11_needState2 _ _) (by omega) ?_ | with_reducible refine ok_ndf (sX11_needState2 _ _) (by omega) ?_ | with_reducible refine ok_ndt (sX11_needElement _ _) (by omega) ?_ | with_reducible refine ok_ndf (sX11_needElement _ _) (by omega) ?_ | with_reducible refine ok_ndt (sX11_needPlace _ _) (by omega) ?_ | with_reducible refine ok_ndf (sX11_needPlace _ _) (by omega) ?_ | with_reducible refine ok_ndt (sX11_needSender _ _) (by omega) ?_ | with_reducible refine ok_ndf (sX11_needSender _ _) (by omega) ?_ | with_reducible refine ok_b2t (sX12_in _ _ _ _) (by omega) ?_ | with_reducible refine ok_b2f (sX12_in _ _ _ _) (by omega) ?_ | with_reducible refine ok_b2t (sX12_isPlace _ _) (by omega) ?_ | with_reducible refine ok_b2f (sX12_isPlace _ _) (by omega) ?_ | with_reducible refine ok_pos (by omega) ?_ | with_reducible refine ok_neg (by omega) ?_ | with_reducible refine ok_tl ?_ | with_reducible refine ok_tr ?_ | dsimp only)
        exact both_ok (six_eq (fun s s0 s1 => eq.1 s s0 s1) hx).symm (INV_thr ia)
    · repeat (first | with_reducible refine ok_gd (by first | omega | decide) ?_ | with_reducible refine ok_bs ?_ | with_reducible refine ok_be (sX12_refuse _ _) ?_ | with_reducible refine ok_be (sX12_told _ _) ?_ | with_reducible refine ok_ndt (sX11_needIndex _ _ _ _) (by omega) ?_ | with_reducible refine ok_ndf (sX11_needIndex _ _ _ _) (by omega) ?_ | with_reducible refine ok_ndt (sX11_needRange _ _ _ _) (by omega) ?_ | with_reducible refine ok_ndf (sX11_needRange _ _ _ _) (by omega) ?_ | with_reducible refine ok_ndt (sX11_needThat2 _ _) (by omega) ?_ | with_reducible refine ok_ndf (sX11_needThat2 _ _) (by omega) ?_ | with_reducible refine ok_ndt (sX11_needState2 _ _) (by omega) ?_ | with_reducible refine ok_ndf (sX11_needState2 _ _) (by omega) ?_ | with_reducible refine ok_ndt (sX11_needElement _ _) (by omega) ?_ | with_reducible refine ok_ndf (sX11_needElement _ _) (by omega) ?_ | with_reducible refine ok_ndt (sX11_needPlace _ _) (by omega) ?_ | with_reducible refine ok_ndf (sX11_needPlace _ _) (by omega) ?_ | with_reducible refine ok_ndt (sX11_needSender _ _) (by omega) ?_ | with_reducible refine ok_ndf (sX11_needSender _ _) (by omega) ?_ | with_reducible refine ok_b2t (sX12_in _ _ _ _) (by omega) ?_ | with_reducible refine ok_b2f (sX12_in _ _ _ _) (by omega) ?_ | with_reducible refine ok_b2t (sX12_isPlace _ _) (by omega) ?_ | with_reducible refine ok_b2f (sX12_isPlace _ _) (by omega) ?_ | with_reducible refine ok_pos (by omega) ?_ | with_reducible refine ok_neg (by omega) ?_ | with_reducible refine ok_tl ?_ | with_reducible refine ok_tr ?_ | dsimp only)
      refine ok_some ?_
      repeat (first | with_reducible refine ok_gd (by first | omega | decide) ?_ | with_reducible refine ok_bs ?_ | with_reducible refine ok_be (sX12_refuse _ _) ?_ | with_reducible refine ok_be (sX12_told _ _) ?_ | with_reducible refine ok_ndt (sX11_needIndex _ _ _ _) (by omega) ?_ | with_reducible refine ok_ndf (sX11_needIndex _ _ _ _) (by omega) ?_ | with_reducible refine ok_ndt (sX11_needRange _ _ _ _) (by omega) ?_ | with_reducible refine ok_ndf (sX11_needRange _ _ _ _) (by omega) ?_ | with_reducible refine ok_ndt (sX11_needThat2 _ _) (by omega) ?_ | with_reducible refine ok_ndf (sX11_needThat2 _ _) (by omega) ?_ | with_reducible refine ok_ndt (sX11_needState2 _ _) (by omega) ?_ | with_reducible refine ok_ndf (sX11_needState2 _ _) (by omega) ?_ | with_reducible refine ok_ndt (sX11_needElement _ _) (by omega) ?_ | with_reducible refine ok_ndf (sX11_needElement _ _) (by omega) ?_ | with_reducible refine ok_ndt (sX11_needPlace _ _) (by omega) ?_ | with_reducible refine ok_ndf (sX11_needPlace _ _) (by omega) ?_ | with_reducible refine ok_ndt (sX11_needSender _ _) (by omega) ?_ | with_reducible refine ok_ndf (sX11_needSender _ _) (by omega) ?_ | with_reducible refine ok_b2t (sX12_in _ _ _ _) (by omega) ?_ | with_reducible refine ok_b2f (sX12_in _ _ _ _) (by omega) ?_ | with_reducible refine ok_b2t (sX12_isPlace _ _) (by omega) ?_ | with_reducible refine ok_b2f (sX12_isPlace _ _) (by omega) ?_ | with_reducible refine ok_pos (by omega) ?_ | with_reducible refine ok_neg (by omega) ?_ | with_reducible refine ok_tl ?_ | with_reducible refine ok_tr ?_ | dsimp only)
      exact both_thr i0 (by decide) rfl
  · repeat (first | with_reducible refine ok_gd (by first | omega | decide) ?_ | with_reducible refine ok_bs ?_ | with_reducible refine ok_be (sX12_refuse _ _) ?_ | with_reducible refine ok_be (sX12_told _ _) ?_ | with_reducible refine ok_ndt (sX11_needIndex _ _ _ _) (by omega) ?_ | with_reducible refine ok_ndf (sX11_needIndex _ _ _ _) (by omega) ?_ | with_reducible refine ok_ndt (sX11_needRange _ _ _ _) (by omega) ?_ | with_reducible refine ok_ndf (sX11_needRange _ _ _ _) (by omega) ?_ | with_reducible refine ok_ndt (sX11_needThat2 _ _) (by omega) ?_ | with_reducible refine ok_ndf (sX11_needThat2 _ _) (by omega) ?_ | with_reducible refine ok_ndt (sX11_needState2 _ _) (by omega) ?_ | with_reducible refine ok_ndf (sX11_needState2 _ _) (by omega) ?_ | with_reducible refine ok_ndt (sX11_needElement _ _) (by omega) ?_ | with_reducible refine ok_ndf (sX11_needElement _ _) (by omega) ?_ | with_reducible refine ok_ndt (sX11_needPlace _ _) (by omega) ?_ | with_reducible refine ok_ndf (sX11_needPlace _ _) (by omega) ?_ | with_reducible refine ok_ndt (sX11_needSender _ _) (by omega) ?_ | with_reducible refine ok_ndf (sX11_needSender _ _) (by omega) ?_ | with_reducible refine ok_b2t (sX12_in _ _ _ _) (by omega) ?_ | with_reducible refine ok_b2f (sX12_in _ _ _ _) (by omega) ?_ | with_reducible refine ok_b2t (sX12_isPlace _ _) (by omega) ?_ | with_reducible refine ok_b2f (sX12_isPlace _ _) (by omega) ?_ | with_reducible refine ok_pos (by omega) ?_ | with_reducible refine ok_neg (by omega) ?_ | with_reducible refine ok_tl ?_ | with_reducible refine ok_tr ?_ | dsimp only)
    refine ok_some ?_
    repeat (first | with_reducible refine ok_gd (by first | omega | decide) ?_ | with_reducible refine ok_bs ?_ | with_reducible refine ok_be (sX12_refuse _ _) ?_ | with_reducible refine ok_be (sX12_told _ _) ?_ | with_reducible refine ok_ndt (sX11_needIndex _ _ _ _) (by omega) ?_ | with_reducible refine ok_ndf (sX11_needIndex _ _ _ _) (by omega) ?_ | with_reducible refine ok_ndt (sX11_needRange _ _ _ _) (by omega) ?_ | with_reducible refine ok_ndf (sX11_needRange _ _ _ _) (by omega) ?_ | with_reducible refine ok_ndt (sX11_needThat2 _ _) (by omega) ?_ | with_reducible refine ok_ndf (sX11_needThat2 _ _) (by omega) ?_ | with_reducible refine ok_ndt (sX11_needState2 _ _) (by omega) ?_ | with_reducible refine ok_ndf (sX11_needState2 _ _) (by omega) ?_ | with_reducible refine ok_ndt (sX11_needElement _ _) (by omega) ?_ | with_reducible refine ok_ndf (sX11_needElement _ _) (by omega) ?_ | with_reducible refine ok_ndt (sX11_needPlace _ _) (by omega) ?_ | with_reducible refine ok_ndf (sX11_needPlace _ _) (by omega) ?_ | with_reducible refine ok_ndt (sX11_needSender _ _) (by omega) ?_ | with_reducible refine ok_ndf (sX11_needSender _ _) (by omega) ?_ | with_reducible refine ok_b2t (sX12_in _ _ _ _) (by omega) ?_ | with_reducible refine ok_b2f (sX12_in _ _ _ _) (by omega) ?_ | with_reducible refine ok_b2t (sX12_isPlace _ _) (by omega) ?_ | with_reducible refine ok_b2f (sX12_isPlace _ _) (by omega) ?_ | with_reducible refine ok_pos (by omega) ?_ | with_reducible refine ok_neg (by omega) ?_ | with_reducible refine ok_tl ?_ | with_reducible refine ok_tr ?_ | dsimp only)
    exact both_thr i0 (by decide) rfl
/-! blocking sets -/
def sfT (g : Nat → Int) (S s : Nat) : Int := if Nat.testBit S s = true then g s else 0
theorem c_sfS {g : Nat → Int} (hg : ∀ x : Nat, x < 3 → nX8_sixfold h (x : Int) = some (g x)) (hb : ∀ x : Nat, x < 3 → -50000 ≤ g x ∧ g x ≤ 50000) {S : Nat} (hS : S < 8) : nX8_sixfoldOfSet h (S : Int) = some (sumN (sfT g S) 3) := by
  have tb : ∀ k, k < 3 → -50000 ≤ sfT g S k ∧ sfT g S k ≤ 50000 := fun k hk => by
    have := hb k hk
    unfold sfT
    split <;> omega
  have key : ∀ (r N k : Nat) (y z : Int), y = sumN (sfT g S) k → z = (k : Int) → r < N → k + r = 3 → nX8_sixfoldOfSet_4 h N (S : Int) y z = some (sumN (sfT g S) 3) := by
    intro r
    induction r with
    | zero =>
      intro N k y z hy hz hN hk
      subst hy
      subst hz
      obtain ⟨M, rfl⟩ := fuel_s hN
      rw [nX8_sixfoldOfSet_4_s]
      simp only [bX8_sixfoldOfSet_4]
      rw [if_neg (by omega), show k = 3 by omega]
    | succ r ih =>
      intro N k y z hy hz hN hk
      subst hy
      subst hz
      obtain ⟨M, rfl⟩ := fuel_s hN
      have hs := sumN_b (g := sfT g S) (B := 50000) (by omega) (n := k) (fun j hj => tb j (by omega))
      have hst := tb k (by omega)
      have ek : (k : Int) + 1 = ((k + 1 : Nat) : Int) := by omega
      have hi := ih M (k + 1) _ _ rfl rfl (by omega) (by omega)
      rw [sumN] at hi
      rw [nX8_sixfoldOfSet_4_s]
      simp only [bX8_sixfoldOfSet_4, nX8_sixfoldOfSet_27, bX8_sixfoldOfSet_27]
      refine ok_is ?_
      refine ok_pos (by omega) ?_
      refine ok_be (sX8_isIn (S := (S : Int)) (i := (k : Int)) (by omega) (by omega)) ?_
      have ebt : bt (S : Int) (k : Int) = Nat.testBit S k := by unfold bt; rw [Int.toNat_natCast, Int.toNat_natCast]
      rw [ebt]
      by_cases c : Nat.testBit S k = true
      · have es : sfT g S k = g k := if_pos c
        rw [if_pos c]
        refine ok_neg (by decide) ?_
        refine ok_be (hg k (by omega)) ?_
        refine ok_gd (by omega) ?_
        refine ok_gd (by omega) ?_
        rw [ek, ← es]
        exact ok_of hi rfl
      · have es : sfT g S k = 0 := if_neg c
        rw [if_neg c]
        refine ok_pos rfl ?_
        refine ok_gd (by omega) ?_
        refine ok_gd (by omega) ?_
        rw [ek, ← es]
        exact ok_of hi rfl
  unfold nX8_sixfoldOfSet bX8_sixfoldOfSet
  exact key 3 100000 0 0 0 rfl rfl (by omega) (by omega)
def bkS (f : Int → Int) (g : Nat → Int) : Nat → Int
  | 0 => 0
  | k + 1 => if k ≠ 0 ∧ 6 * f (k : Int) < sumN (sfT g k) 3 then orI (bkS f g k) (shlI 1 (k : Int)) else bkS f g k
theorem or_256 : ∀ (s : Fin 256) (i : Fin 8), 0 ≤ orI (s.val : Int) (shlI 1 (i.val : Int)) ∧ orI (s.val : Int) (shlI 1 (i.val : Int)) < 256 := by decide +kernel
theorem or_0 : ∀ (s : Fin 256), orI (s.val : Int) 0 = (s.val : Int) := by decide +kernel
theorem bkS_b {f : Int → Int} {g : Nat → Int} : ∀ {k : Nat}, k ≤ 8 → 0 ≤ bkS f g k ∧ bkS f g k < 256
  | 0, _ => ⟨Int.le_refl _, by show (0 : Int) < 256; omega⟩
  | k + 1, hk => by
    have a := bkS_b (f := f) (g := g) (k := k) (by omega)
    rw [bkS]
    split
    · have := or_256 ⟨(bkS f g k).toNat, by omega⟩ ⟨k, by omega⟩
      dsimp only at this
      rw [show (((bkS f g k).toNat : Nat) : Int) = bkS f g k by omega] at this
      exact this
    · exact a
theorem c_blk {g : Nat → Int} (hg : ∀ S : Nat, S < 8 → nX8_sixfoldOfSet h (S : Int) = some (sumN (sfT g S) 3)) (hb : ∀ s : Int, 0 ≤ s → s < 8 → -1 ≤ h.1 66 s ∧ h.1 66 s ≤ 2000) : nX8_blockingSets h = some (bkS (h.1 66) g 8) := by
  have key : ∀ (r N k : Nat) (y z : Int), y = bkS (h.1 66) g k → z = (k : Int) → r < N → k + r = 8 → k ≠ 0 → nX8_blockingSets_4 h N y z = some (bkS (h.1 66) g 8) := by
    intro r
    induction r with
    | zero =>
      intro N k y z hy hz hN hk k0
      subst hy
      subst hz
      obtain ⟨M, rfl⟩ := fuel_s hN
      rw [nX8_blockingSets_4_s]
      simp only [bX8_blockingSets_4]
      rw [if_neg (by omega), show k = 8 by omega]
    | succ r ih =>
      intro N k y z hy hz hN hk k0
      subst hy
      subst hz
      obtain ⟨M, rfl⟩ := fuel_s hN
      have ek : (k : Int) + 1 = ((k + 1 : Nat) : Int) := by omega
      have hi := ih M (k + 1) _ _ rfl rfl (by omega) (by omega) (by omega)
      have b1 := hb (k : Int) (by omega) (by omega)
      rw [nX8_blockingSets_4_s]
      simp only [bX8_blockingSets_4, nX8_blockingSets_33, bX8_blockingSets_33]
      refine ok_is ?_
      refine ok_pos (by omega) ?_
      refine ok_be (hg k (by omega)) ?_
      refine ok_gd (by omega) ?_
      refine ok_gd (by omega) ?_
      by_cases c : 6 * h.1 66 (k : Int) < sumN (sfT g k) 3
      · refine ok_pos c ?_
        refine ok_gd (by omega) ?_
        rw [bkS, if_pos ⟨k0, c⟩] at hi
        rw [ek]
        exact ok_of hi rfl
      · refine ok_neg c ?_
        refine ok_gd (by omega) ?_
        rw [bkS, if_neg (fun z => c z.2)] at hi
        rw [ek]
        exact ok_of hi rfl
  unfold nX8_blockingSets bX8_blockingSets
  exact key 7 100000 1 0 1 rfl rfl (by omega) (by omega) (by omega)
theorem m_blk {g : Nat → Int} (hg : ∀ x : Nat, x < 3 → nX12_shareOf h (x : Int) = some (g x)) (hgb : ∀ x : Nat, x < 3 → -50000 ≤ g x ∧ g x ≤ 50000) (hb : ∀ s : Int, 0 ≤ s → s < 8 → -1 ≤ h.1 118 s ∧ h.1 118 s ≤ 2000) : nX12_blocks_30 100000 0 1 h = some (bkS (h.1 118) g 8, hI h 71 10 0) := by
  have inner : ∀ {c30 : Int → Int → HH → Option (Int × HH)} {P : Int × HH → Prop} {S : Nat} {y : Int}, S < 8 → S ≠ 0 → (∀ z, z = (if 6 * h.1 118 (S : Int) < sumN (sfT g S) 3 then orI y (shlI 1 (S : Int)) else orI y 0) → Ok (c30 z ((S + 1 : Nat) : Int) h) P) → ∀ (r N k : Nat) (yy zz : Int), yy = sumN (sfT g S) k → zz = (k : Int) → r < N → k + r = 3 → Ok (nX12_blocks_41 c30 N y (S : Int) yy zz h) P := by
    intro c30 P S y hS S0 hk3 r
    have tb : ∀ k, k < 3 → -50000 ≤ sfT g S k ∧ sfT g S k ≤ 50000 := fun k hk => by
      have := hgb k hk
      unfold sfT
      split <;> omega
    have b1 := hb (S : Int) (by omega) (by omega)
    have eS : (S : Int) + 1 = ((S + 1 : Nat) : Int) := by omega
    induction r with
    | zero =>
      intro N k yy zz hy hz hN hk
      subst hy
      subst hz
      obtain ⟨M, rfl⟩ := fuel_s hN
      rw [nX12_blocks_41_s]
      simp only [bX12_blocks_41, nX12_blocks_97, bX12_blocks_97]
      rw [show k = 3 by omega]
      refine ok_neg (by omega) ?_
      refine ok_gd (by omega) ?_
      refine ok_gd (by omega) ?_
      by_cases c : 6 * h.1 118 (S : Int) < sumN (sfT g S) 3
      · refine ok_pos c ?_
        refine ok_gd (by omega) ?_
        rw [eS]
        exact hk3 _ (by rw [if_pos c])
      · refine ok_neg c ?_
        refine ok_gd (by omega) ?_
        rw [eS]
        exact hk3 _ (by rw [if_neg c])
    | succ r ih =>
      intro N k yy zz hy hz hN hk
      subst hy
      subst hz
      obtain ⟨M, rfl⟩ := fuel_s hN
      have hs := sumN_b (g := sfT g S) (B := 50000) (by omega) (n := k) (fun j hj => tb j (by omega))
      have hst := tb k (by omega)
      have ek : (k : Int) + 1 = ((k + 1 : Nat) : Int) := by omega
      have hi := ih M (k + 1) _ _ rfl rfl (by omega) (by omega)
      rw [sumN] at hi
      rw [nX12_blocks_41_s]
      simp only [bX12_blocks_41, nX12_blocks_68, bX12_blocks_68]
      refine ok_pos (by omega) ?_
      rw [bt_has (S := (S : Int)) (i := (k : Int)) (by omega) (by omega)]
      have ebt : bt (S : Int) (k : Int) = Nat.testBit S k := by unfold bt; rw [Int.toNat_natCast, Int.toNat_natCast]
      rw [ebt]
      by_cases c : Nat.testBit S k = true
      · have es : sfT g S k = g k := if_pos c
        rw [if_pos c]
        refine ok_pos rfl ?_
        refine ok_be (hg k (by omega)) ?_
        refine ok_gd (by omega) ?_
        refine ok_gd (by omega) ?_
        rw [ek, ← es]
        exact hi
      · have es : sfT g S k = 0 := if_neg c
        rw [if_neg c]
        refine ok_neg (by decide) ?_
        refine ok_gd (by omega) ?_
        refine ok_gd (by omega) ?_
        rw [ek, ← es]
        exact hi
  have key : ∀ (r N k : Nat) (yy zz : Int), yy = bkS (h.1 118) g k → zz = (k : Int) → r < N → k + r = 8 → k ≠ 0 → Ok (nX12_blocks_30 N yy zz h) (fun a => a = (bkS (h.1 118) g 8, hI h 71 10 0)) := by
    intro r
    induction r with
    | zero =>
      intro N k yy zz hy hz hN hk k0
      subst hy
      subst hz
      obtain ⟨M, rfl⟩ := fuel_s hN
      rw [nX12_blocks_30_s]
      simp only [bX12_blocks_30]
      refine ok_neg (by omega) ?_
      refine ok_be (sX12_told _ _) ?_
      rw [show k = 8 by omega]
      exact ok_some rfl
    | succ r ih =>
      intro N k yy zz hy hz hN hk k0
      subst hy
      subst hz
      obtain ⟨M, rfl⟩ := fuel_s hN
      have bb := bkS_b (f := h.1 118) (g := g) (k := k) (by omega)
      rw [nX12_blocks_30_s]
      simp only [bX12_blocks_30]
      refine ok_pos (by omega) ?_
      refine inner (by omega) k0 (fun z hz => ?_) 3 100000 0 0 0 rfl rfl (by omega) (by omega)
      have : z = bkS (h.1 118) g (k + 1) := by
        rw [hz, bkS]
        by_cases c : 6 * h.1 118 (k : Int) < sumN (sfT g k) 3
        · rw [if_pos c, if_pos ⟨k0, c⟩]
        · rw [if_neg c, if_neg (fun w => c w.2)]
          have := or_0 ⟨(bkS (h.1 118) g k).toNat, by omega⟩
          dsimp only at this
          rw [show (((bkS (h.1 118) g k).toNat : Nat) : Int) = bkS (h.1 118) g k by omega] at this
          exact this
      rw [this]
      exact ih M (k + 1) _ _ rfl rfl (by omega) (by omega) (by omega)
  exact ok_is (key 7 100000 1 0 1 rfl rfl (by omega) (by omega) (by omega))
theorem sfT_cg {g g' : Nat → Int} (e : ∀ x, x < 3 → g x = g' x) {S : Nat} : sumN (sfT g S) 3 = sumN (sfT g' S) 3 := by
  have a : ∀ k, k < 3 → sfT g S k = sfT g' S k := fun k hk => by unfold sfT; rw [e k hk]
  show ((0 + sfT g S 0) + sfT g S 1) + sfT g S 2 = ((0 + sfT g' S 0) + sfT g' S 1) + sfT g' S 2
  rw [a 0 (by omega), a 1 (by omega), a 2 (by omega)]
theorem bkS_cg {f f' : Int → Int} {g g' : Nat → Int} (e : ∀ s : Int, 0 ≤ s → s < 8 → f s = f' s) (eg : ∀ x, x < 3 → g x = g' x) : ∀ {k : Nat}, k ≤ 8 → bkS f g k = bkS f' g' k
  | 0, _ => rfl
  | k + 1, hk => by
    rw [bkS, bkS, bkS_cg e eg (k := k) (by omega), e (k : Int) (by omega) (by omega), sfT_cg eg]
theorem six_b {f : Int → Int} (hb : ∀ s : Int, 0 ≤ s → s < 8 → -1 ≤ f s ∧ f s ≤ 2000) {x : Nat} (hx : x < 3) : -50000 ≤ sumN (sxT f x) 8 ∧ sumN (sxT f x) 8 ≤ 50000 := by
  have := sumN_b (g := sxT f x) (B := 4002) (by omega) (n := 8) (fun j hj => sxT_b hb hx hj)
  omega
theorem op_blocks (i : INV h h') : both (nX11_blocks h) (nX12_blocks h') (cdX 0 0 1 2) := by
  have i0 := i
  have hv := i.1.1.1
  have hm := i.1.1.2
  have hn := inv_n i
  simp only [nX11_blocks, bX11_blocks, nX11_blocks_15, bX11_blocks_15, nX12_blocks, bX12_blocks, both]
  by_cases p2 : 0 < h.1 13 14
  · repeat (first | with_reducible refine ok_gd (by first | omega | decide) ?_ | with_reducible refine ok_bs ?_ | with_reducible refine ok_be (sX12_refuse _ _) ?_ | with_reducible refine ok_be (sX12_told _ _) ?_ | with_reducible refine ok_ndt (sX11_needIndex _ _ _ _) (by omega) ?_ | with_reducible refine ok_ndf (sX11_needIndex _ _ _ _) (by omega) ?_ | with_reducible refine ok_ndt (sX11_needRange _ _ _ _) (by omega) ?_ | with_reducible refine ok_ndf (sX11_needRange _ _ _ _) (by omega) ?_ | with_reducible refine ok_ndt (sX11_needThat2 _ _) (by omega) ?_ | with_reducible refine ok_ndf (sX11_needThat2 _ _) (by omega) ?_ | with_reducible refine ok_ndt (sX11_needState2 _ _) (by omega) ?_ | with_reducible refine ok_ndf (sX11_needState2 _ _) (by omega) ?_ | with_reducible refine ok_ndt (sX11_needElement _ _) (by omega) ?_ | with_reducible refine ok_ndf (sX11_needElement _ _) (by omega) ?_ | with_reducible refine ok_ndt (sX11_needPlace _ _) (by omega) ?_ | with_reducible refine ok_ndf (sX11_needPlace _ _) (by omega) ?_ | with_reducible refine ok_ndt (sX11_needSender _ _) (by omega) ?_ | with_reducible refine ok_ndf (sX11_needSender _ _) (by omega) ?_ | with_reducible refine ok_b2t (sX12_in _ _ _ _) (by omega) ?_ | with_reducible refine ok_b2f (sX12_in _ _ _ _) (by omega) ?_ | with_reducible refine ok_b2t (sX12_isPlace _ _) (by omega) ?_ | with_reducible refine ok_b2f (sX12_isPlace _ _) (by omega) ?_ | with_reducible refine ok_pos (by omega) ?_ | with_reducible refine ok_neg (by omega) ?_ | with_reducible refine ok_tl ?_ | with_reducible refine ok_tr ?_ | dsimp only)
    refine ok_bnd (c_reckon hv p2) (fun a ha => ?_)
    obtain ⟨b, eb, fb, zb⟩ := m_reckons hv hm p2
    have ia : INV a.2 b.2 := INV_scr i (sRk_sc ha.1) (sRm_sc fb)
    have bc := alP_b hv p2 ha.2
    have bm := alP_b hv p2 zb
    have eq := alP_u ha.2 zb
    by_cases c : a.1 = 0
    · repeat (first | with_reducible refine ok_gd (by first | omega | decide) ?_ | with_reducible refine ok_bs ?_ | with_reducible refine ok_be (sX12_refuse _ _) ?_ | with_reducible refine ok_be (sX12_told _ _) ?_ | with_reducible refine ok_ndt (sX11_needIndex _ _ _ _) (by omega) ?_ | with_reducible refine ok_ndf (sX11_needIndex _ _ _ _) (by omega) ?_ | with_reducible refine ok_ndt (sX11_needRange _ _ _ _) (by omega) ?_ | with_reducible refine ok_ndf (sX11_needRange _ _ _ _) (by omega) ?_ | with_reducible refine ok_ndt (sX11_needThat2 _ _) (by omega) ?_ | with_reducible refine ok_ndf (sX11_needThat2 _ _) (by omega) ?_ | with_reducible refine ok_ndt (sX11_needState2 _ _) (by omega) ?_ | with_reducible refine ok_ndf (sX11_needState2 _ _) (by omega) ?_ | with_reducible refine ok_ndt (sX11_needElement _ _) (by omega) ?_ | with_reducible refine ok_ndf (sX11_needElement _ _) (by omega) ?_ | with_reducible refine ok_ndt (sX11_needPlace _ _) (by omega) ?_ | with_reducible refine ok_ndf (sX11_needPlace _ _) (by omega) ?_ | with_reducible refine ok_ndt (sX11_needSender _ _) (by omega) ?_ | with_reducible refine ok_ndf (sX11_needSender _ _) (by omega) ?_ | with_reducible refine ok_b2t (sX12_in _ _ _ _) (by omega) ?_ | with_reducible refine ok_b2f (sX12_in _ _ _ _) (by omega) ?_ | with_reducible refine ok_b2t (sX12_isPlace _ _) (by omega) ?_ | with_reducible refine ok_b2f (sX12_isPlace _ _) (by omega) ?_ | with_reducible refine ok_pos (by omega) ?_ | with_reducible refine ok_neg (by omega) ?_ | with_reducible refine ok_tl ?_ | with_reducible refine ok_tr ?_ | dsimp only)
      refine ok_some ?_
      repeat (first | with_reducible refine ok_gd (by first | omega | decide) ?_ | with_reducible refine ok_bs ?_ | with_reducible refine ok_be (sX12_refuse _ _) ?_ | with_reducible refine ok_be (sX12_told _ _) ?_ | with_reducible refine ok_ndt (sX11_needIndex _ _ _ _) (by omega) ?_ | with_reducible refine ok_ndf (sX11_needIndex _ _ _ _) (by omega) ?_ | with_reducible refine ok_ndt (sX11_needRange _ _ _ _) (by omega) ?_ | with_reducible refine ok_ndf (sX11_needRange _ _ _ _) (by omega) ?_ | with_reducible refine ok_ndt (sX11_needThat2 _ _) (by omega) ?_ | with_reducible refine ok_ndf (sX11_needThat2 _ _) (by omega) ?_ | with_reducible refine ok_ndt (sX11_needState2 _ _) (by omega) ?_ | with_reducible refine ok_ndf (sX11_needState2 _ _) (by omega) ?_ | with_reducible refine ok_ndt (sX11_needElement _ _) (by omega) ?_ | with_reducible refine ok_ndf (sX11_needElement _ _) (by omega) ?_ | with_reducible refine ok_ndt (sX11_needPlace _ _) (by omega) ?_ | with_reducible refine ok_ndf (sX11_needPlace _ _) (by omega) ?_ | with_reducible refine ok_ndt (sX11_needSender _ _) (by omega) ?_ | with_reducible refine ok_ndf (sX11_needSender _ _) (by omega) ?_ | with_reducible refine ok_b2t (sX12_in _ _ _ _) (by omega) ?_ | with_reducible refine ok_b2f (sX12_in _ _ _ _) (by omega) ?_ | with_reducible refine ok_b2t (sX12_isPlace _ _) (by omega) ?_ | with_reducible refine ok_b2f (sX12_isPlace _ _) (by omega) ?_ | with_reducible refine ok_pos (by omega) ?_ | with_reducible refine ok_neg (by omega) ?_ | with_reducible refine ok_tl ?_ | with_reducible refine ok_tr ?_ | dsimp only)
      refine ok_be eb ?_
      have : b.1 = 0 := eq.2.symm.trans c
      repeat (first | with_reducible refine ok_gd (by first | omega | decide) ?_ | with_reducible refine ok_bs ?_ | with_reducible refine ok_be (sX12_refuse _ _) ?_ | with_reducible refine ok_be (sX12_told _ _) ?_ | with_reducible refine ok_ndt (sX11_needIndex _ _ _ _) (by omega) ?_ | with_reducible refine ok_ndf (sX11_needIndex _ _ _ _) (by omega) ?_ | with_reducible refine ok_ndt (sX11_needRange _ _ _ _) (by omega) ?_ | with_reducible refine ok_ndf (sX11_needRange _ _ _ _) (by omega) ?_ | with_reducible refine ok_ndt (sX11_needThat2 _ _) (by omega) ?_ | with_reducible refine ok_ndf (sX11_needThat2 _ _) (by omega) ?_ | with_reducible refine ok_ndt (sX11_needState2 _ _) (by omega) ?_ | with_reducible refine ok_ndf (sX11_needState2 _ _) (by omega) ?_ | with_reducible refine ok_ndt (sX11_needElement _ _) (by omega) ?_ | with_reducible refine ok_ndf (sX11_needElement _ _) (by omega) ?_ | with_reducible refine ok_ndt (sX11_needPlace _ _) (by omega) ?_ | with_reducible refine ok_ndf (sX11_needPlace _ _) (by omega) ?_ | with_reducible refine ok_ndt (sX11_needSender _ _) (by omega) ?_ | with_reducible refine ok_ndf (sX11_needSender _ _) (by omega) ?_ | with_reducible refine ok_b2t (sX12_in _ _ _ _) (by omega) ?_ | with_reducible refine ok_b2f (sX12_in _ _ _ _) (by omega) ?_ | with_reducible refine ok_b2t (sX12_isPlace _ _) (by omega) ?_ | with_reducible refine ok_b2f (sX12_isPlace _ _) (by omega) ?_ | with_reducible refine ok_pos (by omega) ?_ | with_reducible refine ok_neg (by omega) ?_ | with_reducible refine ok_tl ?_ | with_reducible refine ok_tr ?_ | dsimp only)
      exact both_thr ia (by decide) rfl
    · have e := c_blk (h := a.2) (fun S hS => c_sfS (fun x hx => c_six (h := a.2) bc hx) (fun x hx => six_b bc hx) hS) bc
      have e' := m_blk (h := b.2) (g := fun x => sumN (sxT (b.2.1 118) x) 8) (fun x hx => by rw [m_six bm hx, six_eq (f := b.2.1 118) (fun _ _ _ => rfl) hx]) (fun x hx => six_b bm hx) bm
      repeat (first | with_reducible refine ok_gd (by first | omega | decide) ?_ | with_reducible refine ok_bs ?_ | with_reducible refine ok_be (e) ?_ | with_reducible refine ok_be (sX12_refuse _ _) ?_ | with_reducible refine ok_be (sX12_told _ _) ?_ | with_reducible refine ok_ndt (sX11_needIndex _ _ _ _) (by omega) ?_ | with_reducible refine ok_ndf (sX11_needIndex _ _ _ _) (by omega) ?_ | with_reducible refine ok_ndt (sX11_needRange _ _ _ _) (by omega) ?_ | with_reducible refine ok_ndf (sX11_needRange _ _ _ _) (by omega) ?_ | with_reducible refine ok_ndt (sX11_needThat2 _ _) (by omega) ?_ | with_reducible refine ok_ndf (sX11_needThat2 _ _) (by omega) ?_ | with_reducible refine ok_ndt (sX11_needState2 _ _) (by omega) ?_ | with_reducible refine ok_ndf (sX11_needState2 _ _) (by omega) ?_ | with_reducible refine ok_ndt (sX11_needElement _ _) (by omega) ?_ | with_reducible refine ok_ndf (sX11_needElement _ _) (by omega) ?_ | with_reducible refine ok_ndt (sX11_needPlace _ _) (by omega) ?_ | with_reducible refine ok_ndf (sX11_needPlace _ _) (by omega) ?_ | with_reducible refine ok_ndt (sX11_needSender _ _) (by omega) ?_ | with_reducible refine ok_ndf (sX11_needSender _ _) (by omega) ?_ | with_reducible refine ok_b2t (sX12_in _ _ _ _) (by omega) ?_ | with_reducible refine ok_b2f (sX12_in _ _ _ _) (by omega) ?_ | with_reducible refine ok_b2t (sX12_isPlace _ _) (by omega) ?_ | with_reducible refine ok_b2f (sX12_isPlace _ _) (by omega) ?_ | with_reducible refine ok_pos (by omega) ?_ | with_reducible refine ok_neg (by omega) ?_ | with_reducible refine ok_tl ?_ | with_reducible refine ok_tr ?_ | dsimp only)
      refine ok_some ?_
      have c' : ¬ b.1 = 0 := fun z => c (eq.2.trans z)
      repeat (first | with_reducible refine ok_gd (by first | omega | decide) ?_ | with_reducible refine ok_bs ?_ | with_reducible refine ok_be (sX12_refuse _ _) ?_ | with_reducible refine ok_be (sX12_told _ _) ?_ | with_reducible refine ok_ndt (sX11_needIndex _ _ _ _) (by omega) ?_ | with_reducible refine ok_ndf (sX11_needIndex _ _ _ _) (by omega) ?_ | with_reducible refine ok_ndt (sX11_needRange _ _ _ _) (by omega) ?_ | with_reducible refine ok_ndf (sX11_needRange _ _ _ _) (by omega) ?_ | with_reducible refine ok_ndt (sX11_needThat2 _ _) (by omega) ?_ | with_reducible refine ok_ndf (sX11_needThat2 _ _) (by omega) ?_ | with_reducible refine ok_ndt (sX11_needState2 _ _) (by omega) ?_ | with_reducible refine ok_ndf (sX11_needState2 _ _) (by omega) ?_ | with_reducible refine ok_ndt (sX11_needElement _ _) (by omega) ?_ | with_reducible refine ok_ndf (sX11_needElement _ _) (by omega) ?_ | with_reducible refine ok_ndt (sX11_needPlace _ _) (by omega) ?_ | with_reducible refine ok_ndf (sX11_needPlace _ _) (by omega) ?_ | with_reducible refine ok_ndt (sX11_needSender _ _) (by omega) ?_ | with_reducible refine ok_ndf (sX11_needSender _ _) (by omega) ?_ | with_reducible refine ok_b2t (sX12_in _ _ _ _) (by omega) ?_ | with_reducible refine ok_b2f (sX12_in _ _ _ _) (by omega) ?_ | with_reducible refine ok_b2t (sX12_isPlace _ _) (by omega) ?_ | with_reducible refine ok_b2f (sX12_isPlace _ _) (by omega) ?_ | with_reducible refine ok_pos (by omega) ?_ | with_reducible refine ok_neg (by omega) ?_ | with_reducible refine ok_tl ?_ | with_reducible refine ok_tr ?_ | dsimp only)
      refine ok_be eb ?_
      repeat (first | with_reducible refine ok_gd (by first | omega | decide) ?_ | with_reducible refine ok_bs ?_ | with_reducible refine ok_be (sX12_refuse _ _) ?_ | with_reducible refine ok_be (sX12_told _ _) ?_ | with_reducible refine ok_ndt (sX11_needIndex _ _ _ _) (by omega) ?_ | with_reducible refine ok_ndf (sX11_needIndex _ _ _ _) (by omega) ?_ | with_reducible refine ok_ndt (sX11_needRange _ _ _ _) (by omega) ?_ | with_reducible refine ok_ndf (sX11_needRange _ _ _ _) (by omega) ?_ | with_reducible refine ok_ndt (sX11_needThat2 _ _) (by omega) ?_ | with_reducible refine ok_ndf (sX11_needThat2 _ _) (by omega) ?_ | with_reducible refine ok_ndt (sX11_needState2 _ _) (by omega) ?_ | with_reducible refine ok_ndf (sX11_needState2 _ _) (by omega) ?_ | with_reducible refine ok_ndt (sX11_needElement _ _) (by omega) ?_ | with_reducible refine ok_ndf (sX11_needElement _ _) (by omega) ?_ | with_reducible refine ok_ndt (sX11_needPlace _ _) (by omega) ?_ | with_reducible refine ok_ndf (sX11_needPlace _ _) (by omega) ?_ | with_reducible refine ok_ndt (sX11_needSender _ _) (by omega) ?_ | with_reducible refine ok_ndf (sX11_needSender _ _) (by omega) ?_ | with_reducible refine ok_b2t (sX12_in _ _ _ _) (by omega) ?_ | with_reducible refine ok_b2f (sX12_in _ _ _ _) (by omega) ?_ | with_reducible refine ok_b2t (sX12_isPlace _ _) (by omega) ?_ | with_reducible refine ok_b2f (sX12_isPlace _ _) (by omega) ?_ | with_reducible refine ok_pos (by omega) ?_ | with_reducible refine ok_neg (by omega) ?_ | with_reducible refine ok_tl ?_ | with_reducible refine ok_tr ?_ | dsimp only)
      rw [e']
      refine both_ok (bkS_cg (fun s s0 s1 => (eq.1 s s0 s1).symm) (fun x hx => ?_) (Nat.le_refl _)) (INV_thr ia)
      rw [six_eq (f := b.2.1 118) (fun _ _ _ => rfl) hx, six_eq eq.1 hx]
  · repeat (first | with_reducible refine ok_gd (by first | omega | decide) ?_ | with_reducible refine ok_bs ?_ | with_reducible refine ok_be (sX12_refuse _ _) ?_ | with_reducible refine ok_be (sX12_told _ _) ?_ | with_reducible refine ok_ndt (sX11_needIndex _ _ _ _) (by omega) ?_ | with_reducible refine ok_ndf (sX11_needIndex _ _ _ _) (by omega) ?_ | with_reducible refine ok_ndt (sX11_needRange _ _ _ _) (by omega) ?_ | with_reducible refine ok_ndf (sX11_needRange _ _ _ _) (by omega) ?_ | with_reducible refine ok_ndt (sX11_needThat2 _ _) (by omega) ?_ | with_reducible refine ok_ndf (sX11_needThat2 _ _) (by omega) ?_ | with_reducible refine ok_ndt (sX11_needState2 _ _) (by omega) ?_ | with_reducible refine ok_ndf (sX11_needState2 _ _) (by omega) ?_ | with_reducible refine ok_ndt (sX11_needElement _ _) (by omega) ?_ | with_reducible refine ok_ndf (sX11_needElement _ _) (by omega) ?_ | with_reducible refine ok_ndt (sX11_needPlace _ _) (by omega) ?_ | with_reducible refine ok_ndf (sX11_needPlace _ _) (by omega) ?_ | with_reducible refine ok_ndt (sX11_needSender _ _) (by omega) ?_ | with_reducible refine ok_ndf (sX11_needSender _ _) (by omega) ?_ | with_reducible refine ok_b2t (sX12_in _ _ _ _) (by omega) ?_ | with_reducible refine ok_b2f (sX12_in _ _ _ _) (by omega) ?_ | with_reducible refine ok_b2t (sX12_isPlace _ _) (by omega) ?_ | with_reducible refine ok_b2f (sX12_isPlace _ _) (by omega) ?_ | with_reducible refine ok_pos (by omega) ?_ | with_reducible refine ok_neg (by omega) ?_ | with_reducible refine ok_tl ?_ | with_reducible refine ok_tr ?_ | dsimp only)
    refine ok_some ?_
    repeat (first | with_reducible refine ok_gd (by first | omega | decide) ?_ | with_reducible refine ok_bs ?_ | with_reducible refine ok_be (sX12_refuse _ _) ?_ | with_reducible refine ok_be (sX12_told _ _) ?_ | with_reducible refine ok_ndt (sX11_needIndex _ _ _ _) (by omega) ?_ | with_reducible refine ok_ndf (sX11_needIndex _ _ _ _) (by omega) ?_ | with_reducible refine ok_ndt (sX11_needRange _ _ _ _) (by omega) ?_ | with_reducible refine ok_ndf (sX11_needRange _ _ _ _) (by omega) ?_ | with_reducible refine ok_ndt (sX11_needThat2 _ _) (by omega) ?_ | with_reducible refine ok_ndf (sX11_needThat2 _ _) (by omega) ?_ | with_reducible refine ok_ndt (sX11_needState2 _ _) (by omega) ?_ | with_reducible refine ok_ndf (sX11_needState2 _ _) (by omega) ?_ | with_reducible refine ok_ndt (sX11_needElement _ _) (by omega) ?_ | with_reducible refine ok_ndf (sX11_needElement _ _) (by omega) ?_ | with_reducible refine ok_ndt (sX11_needPlace _ _) (by omega) ?_ | with_reducible refine ok_ndf (sX11_needPlace _ _) (by omega) ?_ | with_reducible refine ok_ndt (sX11_needSender _ _) (by omega) ?_ | with_reducible refine ok_ndf (sX11_needSender _ _) (by omega) ?_ | with_reducible refine ok_b2t (sX12_in _ _ _ _) (by omega) ?_ | with_reducible refine ok_b2f (sX12_in _ _ _ _) (by omega) ?_ | with_reducible refine ok_b2t (sX12_isPlace _ _) (by omega) ?_ | with_reducible refine ok_b2f (sX12_isPlace _ _) (by omega) ?_ | with_reducible refine ok_pos (by omega) ?_ | with_reducible refine ok_neg (by omega) ?_ | with_reducible refine ok_tl ?_ | with_reducible refine ok_tr ?_ | dsimp only)
    exact both_thr i0 (by decide) rfl
end SHARE
