/-! THE INVARIANT behind a change of rounds -/
section RI
variable {K K2 M M2 : Nat → Int → Int} {h h' g g' : HH} {R : Int → List Int}
theorem GR_len (h : GR K R) (h9 : K 13 10 ≤ 9) (h0 : 0 ≤ K 13 10) : (R 0).length + ((R 1).length + (R 2).length) ≤ 9 := by
  have := nodup_len (m := (K 13 10).toNat) h.2 (fun p hp => by
    have q : ∀ v, 0 ≤ v → v < 3 → p ∈ R v → 0 ≤ p ∧ p < K 13 10 := fun v v0 v3 hv => (h.1 v v0 v3).1 p hv
    have q2 : 0 ≤ p ∧ p < K 13 10 := by
      rcases List.mem_append.mp hp with hp | hp
      · exact q 0 (by omega) (by omega) hp
      · rcases List.mem_append.mp hp with hp | hp
        · exact q 1 (by omega) (by omega) hp
        · exact q 2 (by omega) (by omega) hp
    omega)
  rw [List.length_append, List.length_append] at this
  omega
theorem GR_len1 (h : GR K R) (h9 : K 13 10 ≤ 9) (h0 : 0 ≤ K 13 10) {v : Int} (v0 : 0 ≤ v) (v3 : v < 3) : (R v).length ≤ 9 := by
  have := GR_len h h9 h0
  rcases (by omega : v = 0 ∨ v = 1 ∨ v = 2) with e | e | e <;> rw [e] <;> omega
theorem GR_nd (h : GR K R) {v : Int} (v0 : 0 ≤ v) (v3 : v < 3) : (R v).Nodup := by
  have q := List.nodup_append.mp h.2
  have q2 := List.nodup_append.mp q.2.1
  rcases (by omega : v = 0 ∨ v = 1 ∨ v = 2) with e | e | e <;> rw [e]
  · exact q.1
  · exact q2.1
  · exact q2.2.1
theorem GR_dsj (h : GR K R) : dsj R := by
  have q := List.nodup_append.mp h.2
  have q2 := List.nodup_append.mp q.2.1
  have d01 : ∀ p, p ∈ R 0 → p ∈ R 1 → False := fun p a b => q.2.2 p a p (List.mem_append_left _ b) rfl
  have d02 : ∀ p, p ∈ R 0 → p ∈ R 2 → False := fun p a b => q.2.2 p a p (List.mem_append_right _ b) rfl
  have d12 : ∀ p, p ∈ R 1 → p ∈ R 2 → False := fun p a b => q2.2.2 p a p b rfl
  intro p v w v0 v3 w0 w3 hv hw
  rcases (by omega : v = 0 ∨ v = 1 ∨ v = 2) with e | e | e <;> rcases (by omega : w = 0 ∨ w = 1 ∨ w = 2) with f | f | f <;> rw [e] at hv ⊢ <;> rw [f] at hw ⊢
  · exact absurd hw (fun z => d01 p hv z)
  · exact absurd hw (fun z => d02 p hv z)
  · exact absurd hv (fun z => d01 p hw z)
  · exact absurd hw (fun z => d12 p hv z)
  · exact absurd hv (fun z => d02 p hw z)
  · exact absurd hv (fun z => d12 p hw z)
theorem vw_R {p : Int} : vw K p = vwR (rnd K) p := rfl
theorem vwR_eq {R1 : Int → List Int} (e : ∀ v, 0 ≤ v → v < 3 → R1 v = R v) {p : Int} : vwR R1 p = vwR R p := by
  rw [vwR, vwR, e 0 (by omega) (by omega), e 1 (by omega) (by omega), e 2 (by omega) (by omega)]
theorem vwR_in (h : dsj R) {p v : Int} (v0 : 0 ≤ v) (v3 : v < 3) (hp : p ∈ R v) : vwR R p = v := by
  unfold vwR
  by_cases c0 : p ∈ R 0
  · rw [if_pos c0]; exact h p 0 v (by omega) (by omega) v0 v3 c0 hp
  · rw [if_neg c0]
    by_cases c1 : p ∈ R 1
    · rw [if_pos c1]; exact h p 1 v (by omega) (by omega) v0 v3 c1 hp
    · rw [if_neg c1]
      by_cases c2 : p ∈ R 2
      · rw [if_pos c2]; exact h p 2 v (by omega) (by omega) v0 v3 c2 hp
      · rcases (by omega : v = 0 ∨ v = 1 ∨ v = 2) with e | e | e <;> rw [e] at hp <;> contradiction
theorem vwR_r {p : Int} : vwR R p = -1 ∨ ((0 ≤ vwR R p ∧ vwR R p < 3) ∧ p ∈ R (vwR R p)) := by
  unfold vwR
  split
  · exact Or.inr ⟨by omega, by assumption⟩
  · split
    · exact Or.inr ⟨by omega, by assumption⟩
    · split
      · exact Or.inr ⟨by omega, by assumption⟩
      · exact Or.inl rfl
theorem vwR_no {p v : Int} (hp : vwR R p = -1) (v0 : 0 ≤ v) (v3 : v < 3) : p ∉ R v := by
  unfold vwR at hp
  intro q
  by_cases c0 : p ∈ R 0
  · rw [if_pos c0] at hp; omega
  · rw [if_neg c0] at hp
    by_cases c1 : p ∈ R 1
    · rw [if_pos c1] at hp; omega
    · rw [if_neg c1] at hp
      by_cases c2 : p ∈ R 2
      · rw [if_pos c2] at hp; omega
      · rcases (by omega : v = 0 ∨ v = 1 ∨ v = 2) with e | e | e <;> rw [e] at q <;> contradiction
/-- one entry more is remembered -/
theorem iH_rem (i : iH K M) (n9 : 0 ≤ K 13 10 ∧ K 13 10 ≤ 9) (hg : GR K (rnd K)) (hr : ∀ v, 0 ≤ v → v < 3 → (0 ≤ K 31 v ∧ K 31 v ≤ 9) ∧ M 95 v = K 31 v ∧ rowL (M 94) (9 * v) (M 95 v).toNat = rnd K v) (hG : ∀ R, GR K R → GR K2 R) {sh sh' : Int} (s1 : sh = 0 ∨ sh = 1) (s2 : sh = 1 ↔ K 32 2 = 20) (s3 : sh' = 0 ∨ sh' = 1) (s4 : sh' = 1 ↔ M 71 30 = 20)
    (a1 : K2 32 1 = (K 32 1 + sh) % 20) (a2 : K2 32 2 = K 32 2 - sh + 1) (a3 : ∀ j, K2 33 j = remR K (hAt K (K 32 2)) j) (m1 : M2 71 30 = M 71 30 - sh' + 1)
    (m2 : ∀ j, 0 ≤ j → M2 96 j = if 27 * (M 71 30 - sh') ≤ j ∧ j < 27 * (M 71 30 - sh') + 27 then M 94 (j - 27 * (M 71 30 - sh')) else if j < 27 * (M 71 30 - sh') then M 96 (j + 27 * sh') else M 96 j)
    (m3 : ∀ j, 0 ≤ j → M2 97 j = if 3 * (M 71 30 - sh') ≤ j ∧ j < 3 * (M 71 30 - sh') + 3 then M 95 (j - 3 * (M 71 30 - sh')) else if j < 3 * (M 71 30 - sh') then M 97 (j + 3 * sh') else M 97 j) : iH K2 M2 := by
  obtain ⟨⟨i1, i2, i3⟩, i4⟩ := i
  have es : sh' = sh := by rw [i3] at s4; omega
  subst es
  have hlen := GR_len hg n9.2 n9.1
  rw [rnd_len, rnd_len, rnd_len] at hlen
  have r0 := (hr 0 (by omega) (by omega)).1
  have r1 := (hr 1 (by omega) (by omega)).1
  have r2 := (hr 2 (by omega) (by omega)).1
  refine ⟨⟨by omega, by omega, by omega⟩, fun k k0 k1 => ?_⟩
  by_cases c : k < K 32 2 - sh'
  · obtain ⟨g1, g2⟩ := i4 (k + sh') (by omega) (by omega)
    have gl := GR_len g1 n9.2 n9.1
    have l0 := (g2 0 (by omega) (by omega)).1
    have l1 := (g2 1 (by omega) (by omega)).1
    have l2 := (g2 2 (by omega) (by omega)).1
    have ea : hAt K2 k = hAt K (k + sh') := by unfold hAt; rw [a1]; omega
    have hne : hAt K (k + sh') + 12 ≤ hAt K (K 32 2) ∨ hAt K (K 32 2) + 12 ≤ hAt K (k + sh') := by unfold hAt; omega
    have hb : 0 ≤ hAt K (k + sh') := by unfold hAt; omega
    rw [ea]
    generalize hAt K (k + sh') = a at *
    have e33 : ∀ j, a ≤ j → j < a + 12 → K2 33 j = K 33 j := fun j j0 j1 => by
      rw [a3 j]
      unfold remR
      rw [if_neg (by omega), if_neg (by omega), if_neg (by omega), if_neg (by omega), if_neg (by omega), if_neg (by omega)]
    have el : (hL K a 0).length = (K 33 (a + 0)).toNat ∧ (hL K a 1).length = (K 33 (a + 1)).toNat ∧ (hL K a 2).length = (K 33 (a + 2)).toNat := ⟨rowL_len, rowL_len, rowL_len⟩
    rw [el.1, el.2.1, el.2.2] at gl
    rw [Int.add_zero] at gl l0
    have eL : ∀ v, 0 ≤ v → v < 3 → hL K2 a v = hL K a v := fun v v0 v3 => by
      unfold hL
      rw [e33 (a + v) (by omega) (by omega)]
      have eo : hOf K2 a v = hOf K a v := by
        unfold hOf
        rw [e33 a (by omega) (by omega), e33 (a + 1) (by omega) (by omega)]
      rw [eo]
      refine rowL_ext (fun j hj => e33 _ ?_ ?_)
      · unfold hOf
        (repeat' split) <;> omega
      · unfold hOf
        rcases (by omega : v = 0 ∨ v = 1 ∨ v = 2) with e | e | e <;> subst e
        · rw [if_pos rfl]; rw [Int.add_zero] at hj; omega
        · rw [if_neg (by omega), if_pos rfl]; omega
        · rw [if_neg (by omega), if_neg (by omega)]; omega
    refine ⟨hG _ (GR_r g1 eL), fun v v0 v3 => ?_⟩
    obtain ⟨g3, g4, g5⟩ := g2 v v0 v3
    have e97 : M2 97 (3 * k + v) = M 97 (3 * (k + sh') + v) := by
      rw [m3 _ (by omega), if_neg (by omega), if_pos (by omega)]
      exact ca (by omega)
    rw [e33 (a + v) (by omega) (by omega), e97, eL v v0 v3]
    refine ⟨g3, g4, ?_⟩
    rw [← g5]
    unfold mhL
    rw [e97]
    refine rowL_ext (fun j hj => ?_)
    rw [g4] at hj
    rw [m2 _ (by omega), if_neg (by omega), if_pos (by omega)]
    exact ca (by omega)
  · have ek : k = K 32 2 - sh' := by omega
    have ea : hAt K2 k = hAt K (K 32 2) := by unfold hAt; rw [a1]; omega
    rw [ea]
    have hb : 0 ≤ hAt K (K 32 2) := by unfold hAt; omega
    generalize hAt K (K 32 2) = a at *
    have e0 : K2 33 a = K 31 0 := by rw [a3]; unfold remR; rw [if_pos rfl]
    have e1 : K2 33 (a + 1) = K 31 1 := by rw [a3]; unfold remR; rw [if_neg (by omega), if_pos rfl]
    have e2 : K2 33 (a + 2) = K 31 2 := by rw [a3]; unfold remR; rw [if_neg (by omega), if_neg (by omega), if_pos rfl]
    have ev : ∀ v, 0 ≤ v → v < 3 → K2 33 (a + v) = K 31 v := fun v v0 v3 => by
      rcases (by omega : v = 0 ∨ v = 1 ∨ v = 2) with e | e | e <;> subst e
      · rw [Int.add_zero]; exact e0
      · exact e1
      · exact e2
    have eL : ∀ v, 0 ≤ v → v < 3 → hL K2 a v = rnd K v := fun v v0 v3 => by
      have o0 : hOf K2 a 0 = a + 3 := if_pos rfl
      have o1 : hOf K2 a 1 = a + 3 + K 31 0 := by rw [← e0]; unfold hOf; rw [if_neg (by omega), if_pos rfl]
      have o2 : hOf K2 a 2 = a + 3 + K 31 0 + K 31 1 := by rw [← e0, ← e1]; unfold hOf; rw [if_neg (by omega), if_neg (by omega)]
      have eq := ev v v0 v3
      unfold hL rnd
      rw [eq]
      rcases (by omega : v = 0 ∨ v = 1 ∨ v = 2) with e | e | e <;> subst e
      · rw [o0, rw0]
        refine rowL_ext (fun j hj => ?_)
        rw [a3]
        unfold remR
        rw [if_neg (by omega), if_neg (by omega), if_neg (by omega), if_pos (by omega)]
        exact ca (by omega)
      · rw [o1, rw1]
        refine rowL_ext (fun j hj => ?_)
        rw [a3]
        unfold remR
        rw [if_neg (by omega), if_neg (by omega), if_neg (by omega), if_neg (by omega), if_pos (by omega)]
        exact ca (by omega)
      · rw [o2, rw2]
        refine rowL_ext (fun j hj => ?_)
        rw [a3]
        unfold remR
        rw [if_neg (by omega), if_neg (by omega), if_neg (by omega), if_neg (by omega), if_neg (by omega), if_pos (by omega)]
        exact ca (by omega)
    refine ⟨hG _ (GR_r hg eL), fun v v0 v3 => ?_⟩
    obtain ⟨g3, g4, g5⟩ := hr v v0 v3
    have e97 : M2 97 (3 * k + v) = M 95 v := by
      rw [m3 _ (by omega), if_pos (by omega)]
      exact ca (by omega)
    rw [ev v v0 v3, e97, eL v v0 v3]
    refine ⟨g3, g4, ?_⟩
    rw [← g5]
    unfold mhL
    rw [e97]
    refine rowL_ext (fun j hj => ?_)
    rw [g4] at hj
    rw [m2 _ (by omega), if_pos (by omega)]
    exact ca (by omega)
/-- the invariant behind a change of rounds and of what is remembered -/
theorem INV_rnd (i : INV h h') (f : cTc rC h g) (f' : cTm rMm r7 h' g') (hR : GR h.1 R) (hc : ∀ v, 0 ≤ v → v < 3 → (0 ≤ g.1 31 v ∧ g.1 31 v ≤ 9) ∧ rnd g.1 v = R v) (hm : ∀ v, 0 ≤ v → v < 3 → g'.1 95 v = g.1 31 v ∧ mrd g' v = R v) (hw : ∀ p, 0 ≤ p → p < h.1 13 10 → g'.1 90 p = vwR R p) (hh : (∀ R, GR h.1 R → GR g.1 R) → iH g.1 g'.1) : INV g g' := by
  obtain ⟨⟨⟨a1, a2⟩, a3, a4, a5⟩, ⟨b1, b2, b3⟩, c1, c2, c3⟩ := i
  have hG : ∀ R, GR h.1 R → GR g.1 R := fun R z => GR_eq z (f.2 7 (by dsimp only [scT, scU, sc7, rC, rMm, r7]; omega)) (fun c hc => f.2 c (by dsimp only [scT, scU, sc7, rC, rMm, r7]; omega)) (by rw [f.2 13 (by dsimp only [scT, scU, sc7, rC, rMm, r7]; omega)]; exact ⟨rfl, rfl⟩)
  refine ⟨⟨⟨(VAL_eq a1 (fun c hc => f.2 c (by dsimp only [scT, scU, sc7, rC, rMm, r7]; omega)) (by rw [f.2 13 (by dsimp only [scT, scU, sc7, rC, rMm, r7]; omega)]; exact ⟨rfl, rfl⟩)), (RM_eq (RM_K a2 (fun c hc => f.2 c (by dsimp only [scT, scU, sc7, rC, rMm, r7]; omega)) (by rw [f.2 13 (by dsimp only [scT, scU, sc7, rC, rMm, r7]; omega)]; exact ⟨rfl, rfl⟩)) (fun c hc => f'.2.1 c (by omega) (by dsimp only [scT, scU, sc7, rC, rMm, r7]; omega)) (fun i hi => f'.2.2 i (by dsimp only [scT, scU, sc7, rC, rMm, r7]; omega)))⟩, (iS_eq a3 (fun c hc => f.2 c (by dsimp only [scT, scU, sc7, rC, rMm, r7]; omega)) (fun c hc => f'.2.1 c (by omega) (by dsimp only [scT, scU, sc7, rC, rMm, r7]; omega)) (f'.2.2 9 (by dsimp only [scT, scU, sc7, rC, rMm, r7]; omega))), (iY_eq a4 (fun c hc => f.2 c (by dsimp only [scT, scU, sc7, rC, rMm, r7]; omega)) (fun c hc => f'.2.1 c (by omega) (by dsimp only [scT, scU, sc7, rC, rMm, r7]; omega))), (iF_eq a5 (f.2 10 (by dsimp only [scT, scU, sc7, rC, rMm, r7]; omega)) (f'.2.1 77 (by omega) (by dsimp only [scT, scU, sc7, rC, rMm, r7]; omega)))⟩, ⟨⟨GR_r (hG R hR) (fun v v0 v3 => (hc v v0 v3).2), fun v v0 v3 => ⟨(hc v v0 v3).1, (hm v v0 v3).1, by rw [(hm v v0 v3).2, (hc v v0 v3).2]⟩, fun p p0 p1 => ?_⟩, hh hG, (iQ_eq b3 (fun c hc => f.2 c (by dsimp only [scT, scU, sc7, rC, rMm, r7]; omega)) (by rw [f.2 13 (by dsimp only [scT, scU, sc7, rC, rMm, r7]; omega)]) (by rw [f.2 67 (by dsimp only [scT, scU, sc7, rC, rMm, r7]; omega)]) (fun c hc => f'.2.1 c (by omega) (by dsimp only [scT, scU, sc7, rC, rMm, r7]; omega)))⟩, (iO_eq c1 (f.2 59 (by dsimp only [scT, scU, sc7, rC, rMm, r7]; omega)) (fun c hc => f'.2.1 c (by omega) (by dsimp only [scT, scU, sc7, rC, rMm, r7]; omega)) (fun i hi => f'.2.2 i (by dsimp only [scT, scU, sc7, rC, rMm, r7]; omega))), (iD_eq c2 (fun c hc => f.2 c (by dsimp only [scT, scU, sc7, rC, rMm, r7]; omega)) (fun c hc => f'.2.1 c (by omega) (by dsimp only [scT, scU, sc7, rC, rMm, r7]; omega)) (f'.2.2 40 (by dsimp only [scT, scU, sc7, rC, rMm, r7]; omega))), (by rw [f.1, f'.1]; exact iL_eq c3 (f.2 67 (by dsimp only [scT, scU, sc7, rC, rMm, r7]; omega)) (fun i hi => f'.2.2 i (by dsimp only [scT, scU, sc7, rC, rMm, r7]; omega)))⟩
  rw [f.2 13 (by dsimp only [scT, scU, sc7, rC, rMm, r7]; omega)] at p1
  rw [hw p p0 p1, vw_R]
  exact (vwR_eq (fun v v0 v3 => (hc v v0 v3).2)).symm
end RI
