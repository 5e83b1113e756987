/-! ERRORS: ways, hours and books are never wrong -/
section ERRA
variable {h h' m : HH} {K : Nat → Int → Int} {v n : Int} {L : List Int}
theorem inv_str (i : INV h h') {s : Int} (s0 : 0 ≤ s) (s1 : s < h.1 3 3) : ((0 ≤ h'.1 72 s ∧ h'.1 72 s ≤ 15) ∧ (0 ≤ h'.1 73 s ∧ h'.1 73 s ≤ 15)) ∧ (1 ≤ h'.1 74 s ∧ h'.1 74 s ≤ 120) ∧ dK h.1 (h'.1 72 s) (h'.1 73 s) ≠ -1 ∧ dK h.1 (h'.1 72 s) (h'.1 73 s) ≤ h'.1 74 s := by
  have hS := i.1.2.1
  have hY := i.1.2.2.1.1
  have hv := i.1.1.1
  obtain ⟨_, q2, q3, q4, q5⟩ := hS.2 s s0 s1
  have w : wlk (h'.1 72) (h'.1 73) (h.1 3 3) (h'.1 72 s) [s] (h'.1 73 s) := wlk_cons.mpr ⟨⟨rfl, s0, s1⟩, wlk_nil⟩
  refine ⟨q2, q3, ?_⟩
  rcases hY _ _ q2.1.1 q2.1.2 q2.2.1 q2.2.2 with q | ⟨q, _, z⟩
  · exact absurd w (q.2 _)
  · refine ⟨q, ?_⟩
    have z2 := z _ w
    have e : wvl (fw (wE h'.1)) 0 [s] = 0 + enc (h'.1 74 s) (h'.1 75 s) (h'.1 76 s) := rfl
    rw [e] at z2
    have d3 := v_D hv q2.1.1 q2.1.2 q2.2.1 q2.2.2
    unfold enc at z2
    rcases d3.2.2 with y | y
    · exact absurd y q
    omega
theorem c_longer (i : INV h h') {a b : Int} (a0 : 0 ≤ a ∧ a ≤ 15) (b0 : 0 ≤ b ∧ b ≤ 15) : nX9_longerThanOver h a b = some 0 := by
  have hv := i.1.1.1
  have key : ∀ (r N : Nat) (x k : Int), r < N → k + r = 16 → 0 ≤ k → nX9_longerThanOver_13 h N a b (dK h.1 a b) x k = some x := by
    intro r
    induction r with
    | zero =>
      intro N x k hN hk k0
      obtain ⟨M, rfl⟩ := fuel_s hN
      rw [nX9_longerThanOver_13_s]
      simp only [bX9_longerThanOver_13]
      rw [if_neg (by omega)]
    | succ r ih =>
      intro N x k hN hk k0
      obtain ⟨M, rfl⟩ := fuel_s hN
      have d1 := v_D hv a0.1 a0.2 k0 (show k ≤ 15 by omega)
      have d2 := v_D hv k0 (show k ≤ 15 by omega) b0.1 b0.2
      rw [nX9_longerThanOver_13_s]
      simp only [bX9_longerThanOver_13, nX9_longerThanOver_67, bX9_longerThanOver_67]
      refine ok_is ?_
      have nx : Ok (gd (R32 (k + 1)) (nX9_longerThanOver_13 h M a b (dK h.1 a b) x (k + 1))) (fun y => y = x) := by
        refine ok_gd (by omega) ?_
        exact ok_of (ih M x (k + 1) (by omega) (by omega) (by omega)) rfl
      refine ok_pos (by omega) ?_
      refine ok_be (sX9_minutesOf a0.1 a0.2 k0 (by omega)) ?_
      refine ok_be (sX9_minutesOf k0 (by omega) b0.1 b0.2) ?_
      by_cases c1 : dK h.1 a k = -1
      · refine ok_pos c1 ?_
        exact nx
      · refine ok_neg c1 ?_
        by_cases c2 : dK h.1 k b = -1
        · refine ok_pos c2 ?_
          exact nx
        · refine ok_neg c2 ?_
          obtain ⟨t1, t2⟩ := inv_tri i a0 ⟨k0, by omega⟩ b0 c1 c2
          refine ok_neg t1 ?_
          refine ok_gd (by omega) ?_
          refine ok_neg (by omega) ?_
          exact nx
  unfold nX9_longerThanOver bX9_longerThanOver
  rw [sX9_minutesOf a0.1 a0.2 b0.1 b0.2, bnd_some]
  exact key 16 100000 0 0 (by omega) (by omega) (by omega)
theorem c_ww (i : INV h h') : nX9_wrongWays h = some 0 := by
  have hS := i.1.2.1
  have hv := i.1.1.1
  have in63 : ∀ {c55 : Int → Int → Option Int} {x a : Int}, (0 ≤ x ∧ x ≤ 1000) → (0 ≤ a ∧ a ≤ 15) → ∀ (r N : Nat) (k : Int), r < N → k + r = 16 → 0 ≤ k → nX9_wrongWays_63 h c55 N x a k = c55 x (a + 1) := by
    intro c55 x a hx ha r
    induction r with
    | zero =>
      intro N k hN hk k0
      obtain ⟨M, rfl⟩ := fuel_s hN
      rw [nX9_wrongWays_63_s]
      simp only [bX9_wrongWays_63]
      rw [if_neg (by omega), gd_t (by omega)]
    | succ r ih =>
      intro N k hN hk k0
      obtain ⟨M, rfl⟩ := fuel_s hN
      rw [nX9_wrongWays_63_s]
      simp only [bX9_wrongWays_63]
      rw [if_pos (by omega), c_longer i ha ⟨k0, by omega⟩, bnd_some, gd_t (by omega), gd_t (by omega), Int.add_zero]
      exact ih M (k + 1) (by omega) (by omega) (by omega)
  have in55 : ∀ {x : Int}, (0 ≤ x ∧ x ≤ 1000) → ∀ (r N : Nat) (k : Int), r < N → k + r = 16 → 0 ≤ k → nX9_wrongWays_55 h N x k = some x := by
    intro x hx r
    induction r with
    | zero =>
      intro N k hN hk k0
      obtain ⟨M, rfl⟩ := fuel_s hN
      rw [nX9_wrongWays_55_s]
      simp only [bX9_wrongWays_55]
      rw [if_neg (by omega)]
    | succ r ih =>
      intro N k hN hk k0
      obtain ⟨M, rfl⟩ := fuel_s hN
      rw [nX9_wrongWays_55_s]
      simp only [bX9_wrongWays_55]
      rw [if_pos (by omega), in63 hx ⟨k0, by omega⟩ 16 100000 0 (by omega) (by omega) (by omega)]
      exact ih M (k + 1) (by omega) (by omega) (by omega)
  have key : ∀ {x : Int}, (0 ≤ x ∧ x ≤ 1000) → ∀ (r N : Nat) (k : Int), r < N → k + r = h.1 3 3 → 0 ≤ k → nX9_wrongWays_4 h N x k = some x := by
    intro x hx r
    induction r with
    | zero =>
      intro N k hN hk k0
      obtain ⟨M, rfl⟩ := fuel_s hN
      rw [nX9_wrongWays_4_s]
      simp only [bX9_wrongWays_4]
      rw [if_neg (by omega)]
      exact in55 hx 16 100000 0 (by omega) (by omega) (by omega)
    | succ r ih =>
      intro N k hN hk k0
      obtain ⟨M, rfl⟩ := fuel_s hN
      obtain ⟨q1, q2, q3, q4⟩ := inv_str i k0 (show k < h.1 3 3 by omega)
      obtain ⟨e4, e5, e6⟩ := (hS.2 k k0 (by omega)).1
      have h60 := hS.1.1
      rw [nX9_wrongWays_4_s]
      simp only [bX9_wrongWays_4, nX9_wrongWays_47, bX9_wrongWays_47]
      rw [if_pos (by omega), gd_t (by omega), gd_t (by omega), e4, e5, sX9_minutesOf q1.1.1 q1.1.2 q1.2.1 q1.2.2, bnd_some, if_neg q3, gd_t (by omega), if_neg (by omega), gd_t (by omega)]
      exact ih M (k + 1) (by omega) (by omega) (by omega)
  have h60 := hS.1.1
  unfold nX9_wrongWays bX9_wrongWays
  exact key ⟨by omega, by omega⟩ (h.1 3 3).toNat 100000 0 (by omega) (by omega) (by omega)
theorem c_wt (i : INV h h') : nX4_wrongTimes h = some 0 := by
  obtain ⟨T, t1, t2, t3, t4, t5, t6⟩ := hrs_b i.2.2.1
  obtain ⟨⟨d1, d2, d3⟩, d4, d5⟩ := i.2.2.1
  unfold nX4_wrongTimes bX4_wrongTimes
  by_cases c : h.1 59 8 = -1
  · have t7 := t6 c
    obtain ⟨z1, e1, w1⟩ := inv_timeFor i (x := h.1 59 2 - h.1 59 5) (by omega)
    have z1n : z1 ≠ -1 := fun z => by
      obtain ⟨_, _, _, _, w3, _⟩ := w1
      have := w3.mp z
      omega
    have el : nX4_leftInAll h = some (h.1 59 2 - h.1 59 5) := by
      unfold nX4_leftInAll bX4_leftInAll
      rw [if_pos c, gd_t (by omega)]
    rw [if_pos c, el, bnd_some, e1, bnd_some, if_neg z1n]
    unfold nX4_wrongTimes_29 bX4_wrongTimes_29
    by_cases c2 : h.1 59 2 - h.1 59 5 < 900
    · obtain ⟨z2, e2, w2⟩ := inv_timeFor i (x := h.1 59 2 - h.1 59 5 + 1) (by omega)
      have z2n : z2 = -1 := by
        obtain ⟨_, _, _, _, w3, _⟩ := w2
        exact w3.mpr (Or.inr (by omega))
      rw [if_pos c2, gd_t (by omega), e2, bnd_some, if_pos z2n]
    · rw [if_neg c2]
  · rw [if_neg c]
theorem c_ws (i : INV h h') : nX5_wrongSums h = some 0 := by
  obtain ⟨d1, d2, d3⟩ := i.2.2.2.2
  have hb := sumS_c (g := h.2 68) (n := (h.1 67 4).toNat) (fun j hj => (d2 j (by omega) (by omega)).2)
  have key : ∀ (r N k : Nat) (x qk : Int), qk = (k : Int) → r < N → (k : Int) + r = h.1 67 4 → x = sumS (h.2 68) k → nX5_wrongSums_4 h N x qk = some 0 := by
    intro r
    induction r with
    | zero =>
      intro N k x qk hqk hN hk hx
      subst hqk
      obtain ⟨M, rfl⟩ := fuel_s hN
      have e : x = h.2 67 5 := by rw [d3, hx, show (h.1 67 4).toNat = k by omega]
      have ec : cmpI (h.2 67 5) (h.2 67 5) = 0 := by
        unfold cmpI
        rw [if_neg (by omega), if_pos rfl]
      rw [nX5_wrongSums_4_s]
      simp only [bX5_wrongSums_4]
      rw [if_neg (by omega), e, ec]
      rfl
    | succ r ih =>
      intro N k x qk hqk hN hk hx
      subst hqk
      obtain ⟨M, rfl⟩ := fuel_s hN
      have ek : (k : Int) + 1 = ((k + 1 : Nat) : Int) := by omega
      have hs := sumS_c (g := h.2 68) (n := k) (fun j hj => (d2 j (by omega) (by omega)).2)
      have hkk := (d2 k (by omega) (by omega)).2
      rw [nX5_wrongSums_4_s]
      simp only [bX5_wrongSums_4]
      rw [if_pos (by omega), gd_t (by omega), gd_t (by omega), gd_t (by omega), ek]
      exact ih M (k + 1) _ _ rfl (by omega) (by omega) (by rw [sumS, hx])
  unfold nX5_wrongSums bX5_wrongSums
  exact key (h.1 67 4).toNat 100000 0 0 0 rfl (by omega) (by omega) rfl
theorem m_al (i : INV h h') : nX12_areLeast h' = some 1 := by
  have hS := i.1.2.1
  have hv := i.1.1.1
  have hm := i.1.1.2
  have in101 : ∀ (r N : Nat) (x k : Int), x = 1 → r < N → k + r = h.1 3 3 → 0 ≤ k → nX12_areLeast_101 h' N x k = some 1 := by
    intro r
    induction r with
    | zero =>
      intro N x k hx hN hk k0
      obtain ⟨M, rfl⟩ := fuel_s hN
      have e9 := hS.1.2
      rw [nX12_areLeast_101_s]
      simp only [bX12_areLeast_101]
      rw [if_neg (by omega), gd_t (by omega), hx]
    | succ r ih =>
      intro N x k hx hN hk k0
      obtain ⟨M, rfl⟩ := fuel_s hN
      obtain ⟨q1, q2, q3, q4⟩ := inv_str i k0 (show k < h.1 3 3 by omega)
      have e9 := hS.1.2
      have h60 := hS.1.1
      have e143 : ∀ y : Int, nX12_areLeast_143 h' (nX12_areLeast_101 h' M) k y = gd (R32 (k + 1)) (nX12_areLeast_101 h' M y (k + 1)) := fun _ => rfl
      have ed := sX12_d hm q1.1.1 q1.1.2 q1.2.1 q1.2.2
      have hg := gr_c (dK h.1 (h'.1 72 k) (h'.1 73 k))
      rw [nX12_areLeast_101_s]
      simp only [bX12_areLeast_101]
      rw [if_pos (by omega), if_neg (by omega), gd_t (by omega), gd_t (by omega), ed, bnd_some, gd_t (by omega), if_neg (by omega), e143, gd_t (by omega)]
      exact ih M 1 (k + 1) rfl (by omega) (by omega) (by omega)
  have key : ∀ (r N : Nat) (x k : Int), x = 1 → r < N → k + r = 4096 → 0 ≤ k → nX12_areLeast_4 h' N x k = some 1 := by
    intro r
    induction r with
    | zero =>
      intro N x k hx hN hk k0
      obtain ⟨M, rfl⟩ := fuel_s hN
      have h60 := hS.1.1
      rw [nX12_areLeast_4_s]
      simp only [bX12_areLeast_4]
      rw [if_neg (by omega)]
      exact in101 (h.1 3 3).toNat 100000 x 0 hx (by omega) (by omega) (by omega)
    | succ r ih =>
      intro N x k hx hN hk k0
      obtain ⟨M, rfl⟩ := fuel_s hN
      have e87 : nX12_areLeast_87 h' (nX12_areLeast_4 h' M) k = gd (R32 (k + 1)) (nX12_areLeast_4 h' M 1 (k + 1)) := rfl
      have a0 : 0 ≤ k / 256 ∧ k / 256 ≤ 15 := by omega
      have b0 : 0 ≤ k / 16 % 16 ∧ k / 16 % 16 ≤ 15 := by omega
      have c0 : 0 ≤ k % 16 ∧ k % 16 ≤ 15 := by omega
      have nx : Ok (nX12_areLeast_87 h' (nX12_areLeast_4 h' M) k) (fun y => y = 1) := by
        rw [e87]
        refine ok_gd (by omega) ?_
        exact ok_of (ih M 1 (k + 1) rfl (by omega) (by omega) (by omega)) rfl
      rw [nX12_areLeast_4_s]
      simp only [bX12_areLeast_4]
      refine ok_is ?_
      refine ok_pos (by omega) ?_
      refine ok_gd (by omega) ?_
      refine ok_gd (by omega) ?_
      refine ok_gd (by omega) ?_
      refine ok_gd (by omega) ?_
      refine ok_neg (by omega) ?_
      generalize k / 256 = a at *
      generalize k / 16 % 16 = b at *
      generalize k % 16 = c at *
      have g1 := gr_c (dK h.1 a b)
      have g2 := gr_c (dK h.1 b c)
      have g3 := gr_c (dK h.1 a c)
      have d1 := v_D hv a0.1 a0.2 b0.1 b0.2
      have d2 := v_D hv b0.1 b0.2 c0.1 c0.2
      have d3 := v_D hv a0.1 a0.2 c0.1 c0.2
      have s1 := sX12_d hm a0.1 a0.2 b0.1 b0.2
      have s2 := sX12_d hm b0.1 b0.2 c0.1 c0.2
      have s3 := sX12_d hm a0.1 a0.2 c0.1 c0.2
      refine ok_be s1 ?_
      by_cases e1 : dK h.1 a b = -1
      · refine ok_pos (by omega) ?_
        exact nx
      · refine ok_neg (by omega) ?_
        refine ok_be s2 ?_
        by_cases e2 : dK h.1 b c = -1
        · refine ok_pos (by omega) ?_
          exact nx
        · refine ok_neg (by omega) ?_
          obtain ⟨t1, t2⟩ := inv_tri i a0 b0 c0 e1 e2
          refine ok_be s3 ?_
          refine ok_be s1 ?_
          refine ok_be s2 ?_
          refine ok_gd (by omega) ?_
          refine ok_neg (by omega) ?_
          exact nx
  unfold nX12_areLeast bX12_areLeast
  exact key 4096 100000 1 0 rfl (by omega) (by omega) (by omega)
end ERRA
