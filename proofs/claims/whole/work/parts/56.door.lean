/-! DOOR -/
section DOOR
variable {h h' m : HH} {K : Nat → Int → Int} {l : List Int}
/-- a way over a place is no shorter -/
theorem inv_tri (i : INV h h') {a b c : Int} (a0 : 0 ≤ a ∧ a ≤ 15) (b0 : 0 ≤ b ∧ b ≤ 15) (c0 : 0 ≤ c ∧ c ≤ 15) (e1 : dK h.1 a b ≠ -1) (e2 : dK h.1 b c ≠ -1) : dK h.1 a c ≠ -1 ∧ dK h.1 a c ≤ dK h.1 a b + dK h.1 b c := by
  have hY := i.1.2.2.1.1
  have hv := i.1.1.1
  have d1 := v_D hv a0.1 a0.2 b0.1 b0.2
  have d2 := v_D hv b0.1 b0.2 c0.1 c0.2
  have d3 := v_D hv a0.1 a0.2 c0.1 c0.2
  rcases hY a b a0.1 a0.2 b0.1 b0.2 with q | ⟨_, ⟨es1, w1, z1⟩, _⟩
  · exact absurd q.1 e1
  rcases hY b c b0.1 b0.2 c0.1 c0.2 with q | ⟨_, ⟨es2, w2, z2⟩, _⟩
  · exact absurd q.1 e2
  have w3 : wlk (h'.1 72) (h'.1 73) (h.1 3 3) a (es1 ++ es2) c := wlk_app.mpr ⟨b, w1, w2⟩
  rcases hY a c a0.1 a0.2 c0.1 c0.2 with q | ⟨q, _, q3⟩
  · exact absurd w3 (q.2 _)
  · refine ⟨q, ?_⟩
    have q4 := q3 _ w3
    rw [wvl_app, z1, fw_t, z2] at q4
    unfold enc at q4
    rcases d1.2.2 with z | z1
    · exact absurd z e1
    rcases d2.2.2 with z | z2
    · exact absurd z e2
    rcases d3.2.2 with z | z3
    · exact absurd z q
    omega
/-- who starts no later and no farther comes no later -/
theorem cst_le (hv : VAL K) {v : Int} : ∀ {l : List Int} {m m' pl q sz sz' : Int}, inR K l → (0 ≤ pl ∧ pl ≤ 15) → (0 ≤ q ∧ q ≤ 15) → K 24 v ≤ m → (∀ t, 0 ≤ t → t ≤ 15 → dK K q t ≠ -1 → dK K pl t ≠ -1 ∧ m + dK K pl t ≤ m' + dK K q t) → sz ≤ sz' → cst K v l m' q sz' ≠ -1 → cst K v l m pl sz ≠ -1 ∧ cst K v l m pl sz ≤ cst K v l m' q sz'
  | [], m, m', pl, q, sz, sz', _, p0, q0, hm, hd, hs, hc => by
    have dp := v_D hv p0.1 p0.2 (b := 0) (by omega) (by omega)
    rw [cst] at hc ⊢
    rw [cst]
    by_cases c : dK K q 0 = -1 ∨ K 25 v < m' + dK K q 0 ∨ K 23 v < sz'
    · rw [if_pos c] at hc; exact absurd rfl hc
    · rw [if_neg c]
      have := hd 0 (by omega) (by omega) (by omega)
      rw [if_neg (by omega)]
      omega
  | p :: l, m, m', pl, q, sz, sz', hin, p0, q0, hm, hd, hs, hc => by
    obtain ⟨hp, hin⟩ := inR_c hin
    have hpp := v_p hv hp.1 hp.2
    have dp := v_D hv p0.1 p0.2 (b := K 14 p) (by omega) (by omega)
    rw [cst] at hc ⊢
    rw [cst]
    by_cases c : srv K p q m' = -1
    · rw [if_pos c] at hc; exact absurd rfl hc
    · rw [if_neg c] at hc ⊢
      have key : srv K p pl m ≠ -1 ∧ srv K p pl m ≤ srv K p q m' ∧ m ≤ srv K p pl m := by
        unfold srv at c ⊢
        by_cases c1 : dK K q (K 14 p) = -1
        · rw [if_pos c1] at c; exact absurd rfl c
        · rw [if_neg c1] at c ⊢
          have hd2 := hd (K 14 p) (by omega) (by omega) c1
          rw [if_neg hd2.1]
          by_cases c2 : K 18 p < max (m' + dK K q (K 14 p)) (K 17 p)
          · rw [if_pos c2] at c; exact absurd rfl c
          · rw [if_neg c2, if_neg (by omega)]
            omega
      rw [if_neg key.1]
      refine cst_le hv hin (by omega) (by omega) (by omega) (fun t _ _ ht => ⟨ht, by omega⟩) (by omega) hc
/-- a round without one of its parcels is kept -/
theorem cst_rem (hv : VAL K) (tri : ∀ a b c, (0 ≤ a ∧ a ≤ 15) → (0 ≤ b ∧ b ≤ 15) → (0 ≤ c ∧ c ≤ 15) → dK K a b ≠ -1 → dK K b c ≠ -1 → dK K a c ≠ -1 ∧ dK K a c ≤ dK K a b + dK K b c) {v p : Int} {l2 : List Int} : ∀ {l1 : List Int} {m pl sz : Int}, inR K (l1 ++ p :: l2) → (0 ≤ pl ∧ pl ≤ 15) → K 24 v ≤ m → cst K v (l1 ++ p :: l2) m pl sz ≠ -1 → cst K v (l1 ++ l2) m pl sz ≠ -1
  | [], m, pl, sz, hin, p0, hm, hc => by
    obtain ⟨hp, hin⟩ := inR_c hin
    have hpp := v_p hv hp.1 hp.2
    have hs := srv_K hv (p := p) (pl := pl) (m := m) hp.1 hp.2
    rw [List.nil_append, cst] at hc
    rw [List.nil_append]
    by_cases c : srv K p pl m = -1
    · rw [if_pos c] at hc; exact absurd rfl hc
    · rw [if_neg c] at hc
      refine (cst_le hv hin p0 (q := K 14 p) (by omega) hm (fun t t0 t15 ht => ?_) (by omega) hc).1
      have := tri pl (K 14 p) t p0 (by omega) ⟨t0, t15⟩ (by omega) ht
      refine ⟨this.1, ?_⟩
      omega
  | x :: l1, m, pl, sz, hin, p0, hm, hc => by
    obtain ⟨hp, hin⟩ := inR_c hin
    have hpp := v_p hv hp.1 hp.2
    have hs := srv_K hv (p := x) (pl := pl) (m := m) hp.1 hp.2
    have dp := v_D hv p0.1 p0.2 (b := K 14 x) (by omega) (by omega)
    rw [List.cons_append, cst] at hc ⊢
    by_cases c : srv K x pl m = -1
    · rw [if_pos c] at hc; exact absurd rfl hc
    · rw [if_neg c] at hc ⊢
      exact cst_rem hv tri hin (by omega) (by omega) hc
theorem cost_rem (i : INV h h') {v : Int} {k : Nat} (hk : k < l.length) (hin : inR h.1 l) (hc : costL h.1 v l ≠ -1) : costL h.1 v (remL l k) ≠ -1 := by
  have e : l = l.take k ++ l[k] :: l.drop (k + 1) := by
    rw [← List.drop_eq_getElem_cons hk, List.take_append_drop]
  rw [e] at hc hin
  exact cst_rem i.1.1.1 (fun a b c a0 b0 c0 => inv_tri i a0 b0 c0) hin (by omega) (Int.le_refl _) hc
/-- rows of states, failures, lockers where one parcel's are new -/
theorem updI_id {f : Int → Int} {x y : Int} (e : f x = y) : updI f x y = f := by
  funext j
  unfold updI
  by_cases c : j = x
  · rw [if_pos c, c, e]
  · rw [if_neg c]
theorem RM_upd {K K1 : Nat → Int → Int} {m m1 : HH} {x st fl lk : Int} (hm : RM K m) (x0 : 0 ≤ x) (x9 : x < 9) (hr : ∀ c, (7 ≤ c ∧ c ≤ 9) ∨ (14 ≤ c ∧ c ≤ 19) ∨ (23 ≤ c ∧ c ≤ 25) → K1 c = K c) (h13 : K1 13 10 = K 13 10 ∧ K1 13 14 = K 13 14) (e2 : K1 20 = updI (K 20) x st ∧ K1 21 = updI (K 21) x fl ∧ K1 22 = updI (K 22) x lk) (e8 : m1.1 87 = updI (m.1 87) x st ∧ m1.1 88 = updI (m.1 88) x fl ∧ m1.1 89 = updI (m.1 89) x lk) (em : ∀ c, (78 ≤ c ∧ c ≤ 86) ∨ (91 ≤ c ∧ c ≤ 93) → m1.1 c = m.1 c) (e7 : m1.1 71 21 = m.1 71 21 ∧ m1.1 71 27 = m.1 71 27) : RM K1 m1 := by
  unfold RM dK at hm ⊢
  rw [hr 7 (by omega), hr 8 (by omega), hr 9 (by omega), hr 14 (by omega), hr 15 (by omega), hr 16 (by omega), hr 17 (by omega), hr 18 (by omega), hr 19 (by omega), hr 23 (by omega), hr 24 (by omega), hr 25 (by omega), h13.1, h13.2, e2.1, e2.2.1, e2.2.2, e8.1, e8.2.1, e8.2.2, em 78 (by omega), em 79 (by omega), em 80 (by omega), em 81 (by omega), em 82 (by omega), em 83 (by omega), em 84 (by omega), em 85 (by omega), em 86 (by omega), em 91 (by omega), em 92 (by omega), em 93 (by omega), e7.1, e7.2]
  refine ⟨hm.1, hm.2.1, fun p p0 p1 => ?_, hm.2.2.2⟩
  obtain ⟨q1, q2, q3, q4, q5, q6⟩ := hm.2.2.1 p p0 p1
  refine ⟨q1, q2, q3, ?_⟩
  simp only [updI_at]
  by_cases c : p = x
  · rw [if_pos c, if_pos c, if_pos c, if_pos c, if_pos c, if_pos c]
    exact ⟨rfl, rfl, rfl⟩
  · rw [if_neg c, if_neg c, if_neg c, if_neg c, if_neg c, if_neg c]
    exact ⟨q4, q5, q6⟩
/-- what a door leaves of the class' store, and of the model's -/
abbrev dT : Nat → Prop := scT (fun c => (20 ≤ c ∧ c ≤ 22) ∨ (28 ≤ c ∧ c ≤ 33) ∨ (c = 62 ∨ c = 67))
abbrev dT' : Nat → Prop := scU (fun c => (87 ≤ c ∧ c ≤ 90) ∨ (94 ≤ c ∧ c ≤ 97) ∨ c = 101)
abbrev dU : Int → Prop := sc7 (fun i => i = 30 ∨ i = 43)
def dC (h : HH) (v n : Int) (l : List Int) (x st fl lk : Int) (u : Int → Int) (d : Int) (g : HH) : Prop :=
  cTc dT h g ∧ (g.1 20 = updI (h.1 20) x st ∧ g.1 21 = updI (h.1 21) x fl ∧ g.1 22 = updI (h.1 22) x lk) ∧ (g.1 32 1 = h.1 32 1 ∧ g.1 32 2 = 0) ∧ (∀ w, 0 ≤ w → w < 3 → g.1 31 w = (if w = v then n else h.1 31 w) ∧ rnd g.1 w = setR (rnd h.1) v l w) ∧ g.1 62 = u ∧ (g.1 67 0 = h.1 67 0 ∧ g.1 67 1 = h.1 67 1 ∧ g.1 67 4 = h.1 67 4 ∧ g.1 67 2 = d)
def dM (h h' : HH) (v n : Int) (l : List Int) (x st fl lk : Int) (u : Int → Int) (d : Int) (g : HH) : Prop :=
  cTm dT' dU h' g ∧ (g.1 87 = updI (h'.1 87) x st ∧ g.1 88 = updI (h'.1 88) x fl ∧ g.1 89 = updI (h'.1 89) x lk) ∧ g.1 71 30 = 0 ∧ (∀ w, 0 ≤ w → w < 3 → g.1 95 w = (if w = v then n else h.1 31 w) ∧ mrd g w = setR (rnd h.1) v l w) ∧ (∀ p, 0 ≤ p → p < h.1 13 10 → g.1 90 p = vwR (setR (rnd h.1) v l) p) ∧ g.1 101 = u ∧ g.1 71 43 = d
theorem INV_door (i : INV h h') {v n x st fl lk d : Int} {u u' : Int → Int} {g g' : HH} (x0 : 0 ≤ x) (x1 : x < h.1 13 10) (c : dC h v n l x st fl lk u d g) (c' : dM h h' v n l x st fl lk u' d g') (hst : 0 ≤ st ∧ st ≤ 3) (hfl : 0 ≤ fl ∧ fl ≤ 3 ∧ (st = 0 → fl ≤ 2)) (hw : h.1 20 x = 0) (hn : 0 ≤ n ∧ n ≤ 9) (v0 : 0 ≤ v) (v3 : v < 3) (hR : GR h.1 (setR (rnd h.1) v l)) (hx : st ≠ 0 → ∀ w, 0 ≤ w → w < 3 → x ∉ setR (rnd h.1) v l w) (hu : u 0 = 0 ∧ ∀ p, 1 ≤ p → p ≤ 15 → u' p = h.1 61 p - u p ∧ (0 ≤ u p ∧ u p ≤ h.1 61 p)) (hd : d = h.1 67 2 + if st = 1 then 1 else 0) : INV g g' := by
  have i0 := i
  have hn9 := inv_n i
  obtain ⟨⟨⟨a1, a2⟩, a3, a4, a5⟩, ⟨b1, b2, b3⟩, c1, c2, c3⟩ := i
  obtain ⟨f, ⟨e20, e21, e22⟩, ⟨e32, e322⟩, er, e62, e670, e671, e674, e672⟩ := c
  obtain ⟨f', ⟨m87, m88, m89⟩, m30, mr, mv, m101, m43⟩ := c'
  have f : cTc (scT (fun c => (20 ≤ c ∧ c ≤ 22) ∨ (28 ≤ c ∧ c ≤ 33) ∨ (c = 62 ∨ c = 67))) h g := f
  have f' : cTm (scU (fun c => (87 ≤ c ∧ c ≤ 90) ∨ (94 ≤ c ∧ c ≤ 97) ∨ c = 101)) (sc7 (fun i => i = 30 ∨ i = 43)) h' g' := f'
  obtain ⟨q1, q2, q3⟩ := b3
  obtain ⟨d1, d2, d3⟩ := c2
  obtain ⟨l1, l2, l3⟩ := c3
  have e13 : g.1 13 10 = h.1 13 10 ∧ g.1 13 14 = h.1 13 14 := by rw [f.2 13 (by dsimp only [scT, scU, sc7, rC, rMm, r7]; omega)]; exact ⟨rfl, rfl⟩
  have hG : GR g.1 (setR (rnd h.1) v l) := GR_eq2 hR (f.2 7 (by dsimp only [scT, scU, sc7, rC, rMm, r7]; omega)) ⟨by omega, by omega⟩ ⟨f.2 23 (by dsimp only [scT, scU, sc7, rC, rMm, r7]; omega), f.2 24 (by dsimp only [scT, scU, sc7, rC, rMm, r7]; omega), f.2 25 (by dsimp only [scT, scU, sc7, rC, rMm, r7]; omega)⟩ (fun w w0 w3 p hp => by
    rw [f.2 14 (by dsimp only [scT, scU, sc7, rC, rMm, r7]; omega), f.2 15 (by dsimp only [scT, scU, sc7, rC, rMm, r7]; omega), f.2 17 (by dsimp only [scT, scU, sc7, rC, rMm, r7]; omega), f.2 18 (by dsimp only [scT, scU, sc7, rC, rMm, r7]; omega), f.2 19 (by dsimp only [scT, scU, sc7, rC, rMm, r7]; omega)]
    refine ⟨⟨rfl, rfl⟩, ⟨rfl, rfl, rfl⟩, ?_⟩
    rw [e20, updI_at]
    by_cases c : p = x
    · rw [if_pos c]
      by_cases cs : st = 0
      · rw [cs, c, hw]
      · rw [c] at hp
        exact absurd hp (hx cs w w0 w3)
    · rw [if_neg c])
  have hM : RM g.1 g' := RM_upd a2 x0 (by omega) (fun c hc => f.2 c (by dsimp only [scT, scU, sc7, rC, rMm, r7]; omega)) e13 ⟨e20, e21, e22⟩ ⟨m87, m88, m89⟩ (fun c hc => f'.2.1 c (by omega) (by dsimp only [scT, scU, sc7, rC, rMm, r7]; omega)) ⟨f'.2.2 21 (by dsimp only [scT, scU, sc7, rC, rMm, r7]; omega), f'.2.2 27 (by dsimp only [scT, scU, sc7, rC, rMm, r7]; omega)⟩
  refine ⟨⟨⟨(VAL_eq a1 (fun c hc => f.2 c (by dsimp only [scT, scU, sc7, rC, rMm, r7]; omega)) (by rw [f.2 13 (by dsimp only [scT, scU, sc7, rC, rMm, r7]; omega)]; exact ⟨rfl, rfl⟩)), hM⟩, (iS_eq a3 (fun c hc => f.2 c (by dsimp only [scT, scU, sc7, rC, rMm, r7]; omega)) (fun c hc => f'.2.1 c (by omega) (by dsimp only [scT, scU, sc7, rC, rMm, r7]; omega)) (f'.2.2 9 (by dsimp only [scT, scU, sc7, rC, rMm, r7]; omega))), (iY_eq a4 (fun c hc => f.2 c (by dsimp only [scT, scU, sc7, rC, rMm, r7]; omega)) (fun c hc => f'.2.1 c (by omega) (by dsimp only [scT, scU, sc7, rC, rMm, r7]; omega))), (iF_eq a5 (f.2 10 (by dsimp only [scT, scU, sc7, rC, rMm, r7]; omega)) (f'.2.1 77 (by omega) (by dsimp only [scT, scU, sc7, rC, rMm, r7]; omega)))⟩, ⟨⟨GR_r hG (fun w w0 w3 => (er w w0 w3).2), fun w w0 w3 => ?_, fun p p0 p1 => ?_⟩, iH_0 (by rw [e32]; exact b2.1.1) e322 m30, ?_⟩, (iO_eq c1 (f.2 59 (by dsimp only [scT, scU, sc7, rC, rMm, r7]; omega)) (fun c hc => f'.2.1 c (by omega) (by dsimp only [scT, scU, sc7, rC, rMm, r7]; omega)) (fun i hi => f'.2.2 i (by dsimp only [scT, scU, sc7, rC, rMm, r7]; omega))), ?_, ?_⟩
  · obtain ⟨r1, r2⟩ := er w w0 w3
    obtain ⟨r3, r4⟩ := mr w w0 w3
    refine ⟨?_, by rw [r3, r1], by rw [r4, r2]⟩
    rw [r1]
    split
    · exact hn
    · exact (b1.2.1 w w0 w3).1
  · rw [mv p p0 (by omega), vw_R]
    exact (vwR_eq (fun w w0 w3 => (er w w0 w3).2)).symm
  · unfold iQ
    rw [e13.1, f'.2.1 84 (by decide) (by dsimp only [scT, scU, sc7, rC, rMm, r7]; omega), f'.2.1 86 (by decide) (by dsimp only [scT, scU, sc7, rC, rMm, r7]; omega), m87, m88, e20, e21, e672]
    refine ⟨fun p p0 p1 => ?_, fun p p0 p1 => ?_, ?_, ?_⟩
    · have := q1 p p0 p1
      rw [updI_at, updI_at]
      by_cases c : p = x
      · rw [if_pos c, if_pos c]; exact ⟨hst, hfl⟩
      · rw [if_neg c, if_neg c]; exact this
    · rw [updI_n (by omega), updI_n (by omega)]; exact q2 p p0 p1
    · rw [hd]; split <;> omega
    · have hk : ((x.toNat : Nat) : Int) = x := by omega
      have hs := sumS_upd (g := fun p => if h.1 20 p = 1 then 1 else 0) (g' := fun p => if updI (h.1 20) x st p = 1 then 1 else 0) (k := x.toNat) (n := (h.1 13 10).toNat) (by omega) (fun j h1 h2 => by
        show (if updI (h.1 20) x st (j : Int) = 1 then (1 : Int) else 0) = if h.1 20 (j : Int) = 1 then (1 : Int) else 0
        rw [updI_n (by omega)])
      rw [hk] at hs
      have hs2 : sumS (fun p => if updI (h.1 20) x st p = 1 then 1 else 0) (h.1 13 10).toNat = sumS (fun p => if h.1 20 p = 1 then 1 else 0) (h.1 13 10).toNat + ((if updI (h.1 20) x st x = 1 then (1 : Int) else 0) - if h.1 20 x = 1 then (1 : Int) else 0) := hs
      rw [updI_s, hw, if_neg (show ¬ (0 : Int) = 1 by omega)] at hs2
      rw [hs2, hd]
      omega
  · unfold iD
    rw [f.2 60 (by dsimp only [scT, scU, sc7, rC, rMm, r7]; omega), f.2 61 (by dsimp only [scT, scU, sc7, rC, rMm, r7]; omega), f.2 63 (by dsimp only [scT, scU, sc7, rC, rMm, r7]; omega), e62, m101, f'.2.1 100 (by decide) (by dsimp only [scT, scU, sc7, rC, rMm, r7]; omega), f'.2.1 102 (by decide) (by dsimp only [scT, scU, sc7, rC, rMm, r7]; omega), f'.2.2 40 (by dsimp only [scT, scU, sc7, rC, rMm, r7]; omega)]
    refine ⟨d1, fun p p3 p4 => ⟨(d2 p p3 p4).1, ⟨(hu.2 p p3 p4).1, ?_⟩, (d2 p p3 p4).2.2⟩, d3.1, d3.2.1, hu.1⟩
    have h1 := (d2 p p3 p4).2.1.2
    have h2 := hu.2 p p3 p4
    omega
  · unfold iL
    rw [f.1, f'.1, e670, e671, e672, e674, f'.2.2 41 (by dsimp only [scT, scU, sc7, rC, rMm, r7]; omega), f'.2.2 42 (by dsimp only [scT, scU, sc7, rC, rMm, r7]; omega), f'.2.2 44 (by dsimp only [scT, scU, sc7, rC, rMm, r7]; omega), m43]
    obtain ⟨l11, l12, l13, l14, l15, l16, l17⟩ := l1
    exact ⟨⟨l11, l12, l13, l14, l15, rfl, l17⟩, l2, l3⟩
/-! the nearest locker that is free -/
def nfS (K : Nat → Int → Int) (a : Int) : Nat → Int
  | 0 => -1
  | n + 1 => if (K 62 ((n : Int) + 1) < K 61 ((n : Int) + 1) ∧ dK K a ((n : Int) + 1) ≠ -1) ∧ (nfS K a n = -1 ∨ dK K a ((n : Int) + 1) < dK K a (nfS K a n)) then (n : Int) + 1 else nfS K a n
theorem nfS_c (K : Nat → Int → Int) (a : Int) : ∀ n : Nat, nfS K a n = -1 ∨ ((1 ≤ nfS K a n ∧ nfS K a n ≤ n) ∧ K 62 (nfS K a n) < K 61 (nfS K a n) ∧ dK K a (nfS K a n) ≠ -1)
  | 0 => Or.inl rfl
  | n + 1 => by
    have ih := nfS_c K a n
    rw [nfS]
    by_cases c : (K 62 ((n : Int) + 1) < K 61 ((n : Int) + 1) ∧ dK K a ((n : Int) + 1) ≠ -1) ∧ (nfS K a n = -1 ∨ dK K a ((n : Int) + 1) < dK K a (nfS K a n))
    · rw [if_pos c]
      exact Or.inr ⟨by omega, c.1.1, c.1.2⟩
    · rw [if_neg c]
      rcases ih with q | q
      · exact Or.inl q
      · exact Or.inr ⟨by omega, q.2⟩
theorem nfS_cg {K K1 : Nat → Int → Int} {a : Int} (e7 : K1 7 = K 7) (e61 : K1 61 = K 61) (e62 : K1 62 = K 62) : ∀ n : Nat, nfS K1 a n = nfS K a n
  | 0 => rfl
  | n + 1 => by
    have ih := nfS_cg (a := a) e7 e61 e62 n
    rw [nfS, nfS, ih]
    unfold dK
    rw [e7, e61, e62]
theorem sX0_nearestFree (hv : VAL h.1) (z : h.1 61 0 = 0 ∧ h.1 62 0 = 0) {a : Int} (a0 : 0 ≤ a ∧ a ≤ 15) : nX0_nearestFree h a = some (nfS h.1 a 15) := by
  have key : ∀ (r N k : Nat) (x : Int), r < N → k + r = 15 → x = (if nfS h.1 a k = -1 then 10000000 else dK h.1 a (nfS h.1 a k)) → nX0_nearestFree_8 h N a (nfS h.1 a k) x ((k : Int) + 1) = some (nfS h.1 a 15) := by
    intro r
    induction r with
    | zero =>
      intro N k x hN hk hx
      obtain ⟨M, rfl⟩ := fuel_s hN
      rw [nX0_nearestFree_8_s]
      simp only [bX0_nearestFree_8]
      rw [if_neg (by omega), show k = 15 by omega]
    | succ r ih =>
      intro N k x hN hk hx
      obtain ⟨M, rfl⟩ := fuel_s hN
      have ek : ((k + 1 : Nat) : Int) = (k : Int) + 1 := by omega
      have nx := fun x => ih M (k + 1) x (by omega) (by omega)
      rw [ek] at nx
      have d0 := v_D hv a0.1 a0.2 (b := (k : Int) + 1) (by omega) (by omega)
      have nc := nfS_c h.1 a k
      rw [nX0_nearestFree_8_s]
      simp only [bX0_nearestFree_8, nX0_nearestFree_65, bX0_nearestFree_65]
      rw [if_pos (by omega), sX9_minutesOf a0.1 a0.2 (by omega) (by omega), bnd_some, gd_t (by omega), gd_t (by omega)]
      by_cases c1 : h.1 62 ((k : Int) + 1) < h.1 61 ((k : Int) + 1)
      · rw [if_pos c1]
        by_cases c2 : dK h.1 a ((k : Int) + 1) = -1
        · rw [if_pos c2, gd_t (by omega)]
          have e : nfS h.1 a (k + 1) = nfS h.1 a k := by rw [nfS, if_neg (fun q => q.1.2 c2)]
          rw [e] at nx
          exact nx x hx
        · rw [if_neg c2]
          by_cases c3 : nfS h.1 a k = -1
          · rw [if_pos c3] at hx
            have e : nfS h.1 a (k + 1) = (k : Int) + 1 := by rw [nfS, if_pos ⟨⟨c1, c2⟩, Or.inl c3⟩]
            rw [e] at nx
            rw [if_pos (by omega), gd_t (by omega)]
            exact nx _ (by rw [if_neg (by omega)])
          · rw [if_neg c3] at hx
            by_cases c4 : dK h.1 a ((k : Int) + 1) < dK h.1 a (nfS h.1 a k)
            · have e : nfS h.1 a (k + 1) = (k : Int) + 1 := by rw [nfS, if_pos ⟨⟨c1, c2⟩, Or.inr c4⟩]
              rw [e] at nx
              rw [if_pos (by omega), gd_t (by omega)]
              exact nx _ (by rw [if_neg (by omega)])
            · have e : nfS h.1 a (k + 1) = nfS h.1 a k := by
                rw [nfS, if_neg]
                rintro ⟨_, q | q⟩
                · exact c3 q
                · exact c4 q
              rw [e] at nx
              rw [if_neg (by omega), gd_t (by omega)]
              exact nx x (by rw [if_neg c3]; exact hx)
      · rw [if_neg c1, gd_t (by omega)]
        have e : nfS h.1 a (k + 1) = nfS h.1 a k := by rw [nfS, if_neg (fun q => c1 q.1.1)]
        rw [e] at nx
        exact nx x hx
  have k0 := key 15 99999 0 10000000 (by omega) (by omega) (by rw [nfS, if_pos rfl])
  unfold nX0_nearestFree bX0_nearestFree
  rw [show (100000 : Nat) = 99999 + 1 from rfl, nX0_nearestFree_8_s]
  simp only [bX0_nearestFree_8, nX0_nearestFree_65, bX0_nearestFree_65]
  rw [if_pos (by decide), sX9_minutesOf a0.1 a0.2 (by omega) (by omega), bnd_some, gd_t (by decide), gd_t (by decide), if_neg (by omega), gd_t (by decide)]
  exact k0
theorem sX0_sendAway (hv : VAL h.1) (hD : (h.1 61 0 = 0 ∧ h.1 62 0 = 0) ∧ ∀ p, 1 ≤ p → p ≤ 15 → 0 ≤ h.1 62 p ∧ h.1 62 p ≤ 5) {x : Int} (x0 : 0 ≤ x) (x1 : x < h.1 13 10) : nX0_sendAway x h = some (if nfS h.1 (h.1 14 x) 15 = -1 then hI (hI h 22 x (-1)) 20 x 3 else hI (hI (hI h 22 x (nfS h.1 (h.1 14 x) 15)) 20 x 2) 62 (nfS h.1 (h.1 14 x) 15) (h.1 62 (nfS h.1 (h.1 14 x) 15) + 1)) := by
  have hn := v_n hv
  have hp := v_p hv x0 x1
  have nc := nfS_c h.1 (h.1 14 x) 15
  unfold nX0_sendAway bX0_sendAway
  rw [gd_t (by omega), sX0_nearestFree hv hD.1 (by omega), bnd_some, gd_t (by omega), bnd_some]
  by_cases c : nfS h.1 (h.1 14 x) 15 = -1
  · rw [if_pos c, if_pos c]
    unfold nX0_sendAway_42 bX0_sendAway_42
    rw [gd_t (by omega), bnd_some, if_pos c, c]
  · have hL : 1 ≤ nfS h.1 (h.1 14 x) 15 ∧ nfS h.1 (h.1 14 x) 15 ≤ 15 := by omega
    have hb := hD.2 _ hL.1 hL.2
    have e62 : (hI (hI h 22 x (nfS h.1 (h.1 14 x) 15)) 20 x 2).1 62 = h.1 62 := by rw [rI_n (by decide), rI_n (by decide)]
    rw [if_neg c, if_neg c]
    unfold nX0_sendAway_42 bX0_sendAway_42
    rw [gd_t (by omega), bnd_some, if_neg c, gd_t (by omega), e62, gd_t (by omega), gd_t (by omega), bnd_some]
theorem eL48 (c4 : Int → Int → Int → HH → Option HH) (x1 x2 x3 : Int) (h : HH) : nX12_goesToLocker_48 c4 x1 x2 x3 h = gd (R32 (x3 + 1)) (c4 x1 x2 (x3 + 1) h) := by
  unfold nX12_goesToLocker_48 bX12_goesToLocker_48 nX12_goesToLocker_49 bX12_goesToLocker_49
  rw [if_pos rfl]
  rfl
theorem eL49p {c4 : Int → Int → Int → HH → Option HH} {x1 x2 x3 : Int} {h : HH} (c : x2 = -1) : nX12_goesToLocker_49 c4 x1 x2 x3 1 h = gd (R32 (x3 + 1)) (c4 x1 x3 (x3 + 1) h) := by
  unfold nX12_goesToLocker_49 bX12_goesToLocker_49
  rw [if_neg (by decide), if_pos c]
  rfl
theorem eL49n {c4 : Int → Int → Int → HH → Option HH} {x1 x2 x3 : Int} {h : HH} (c : ¬ x2 = -1) : nX12_goesToLocker_49 c4 x1 x2 x3 1 h = gd ((0 : Int) ≤ x1 ∧ x1 < (9 : Int)) (bnd (nX12_d h (h.1 81 x1) x3) fun r1 => gd ((0 : Int) ≤ x1 ∧ x1 < (9 : Int)) (bnd (nX12_d h (h.1 81 x1) x2) fun r2 => if r1 < (r2 : Int) then gd (R32 (x3 + 1)) (c4 x1 x3 (x3 + 1) h) else gd (R32 (x3 + 1)) (c4 x1 x2 (x3 + 1) h))) := by
  unfold nX12_goesToLocker_49 bX12_goesToLocker_49
  rw [if_neg (by decide), if_neg c]
  rfl
theorem sX12_goesToLocker {x : Int} (x0 : 0 ≤ x ∧ x < 9) {a : Int} (a0 : 0 ≤ a ∧ a ≤ 15) (e81 : m.1 81 x = a) (hd : ∀ b, 0 ≤ b → b ≤ 15 → nX12_d m a b = some (gr (dK K a b)) ∧ (-1 ≤ dK K a b ∧ dK K a b ≤ 1800)) (hl : ∀ p, 1 ≤ p → p ≤ 15 → m.1 101 p = K 61 p - K 62 p ∧ (0 ≤ K 62 p ∧ K 62 p ≤ K 61 p ∧ K 61 p ≤ 5) ∧ ((m.1 102 p = 1 ∧ 1 ≤ K 61 p) ∨ (m.1 102 p = 0 ∧ K 61 p = 0))) : nX12_goesToLocker x m = some (if nfS K a 15 = -1 then hI (hI m 87 x 3) 89 x (-1) else hI (hI (hI m 87 x 2) 89 x (nfS K a 15)) 101 (nfS K a 15) (m.1 101 (nfS K a 15) - 1)) := by
  have key : ∀ (r N k : Nat), r < N → k + r = 15 → nX12_goesToLocker_4 N x (nfS K a k) ((k : Int) + 1) m = some (if nfS K a 15 = -1 then hI (hI m 87 x 3) 89 x (-1) else hI (hI (hI m 87 x 2) 89 x (nfS K a 15)) 101 (nfS K a 15) (m.1 101 (nfS K a 15) - 1)) := by
    intro r
    induction r with
    | zero =>
      intro N k hN hk
      obtain ⟨M, rfl⟩ := fuel_s hN
      rw [nX12_goesToLocker_4_s, show k = 15 by omega]
      simp only [bX12_goesToLocker_4, nX12_goesToLocker_109, bX12_goesToLocker_109]
      rw [if_neg (by omega)]
      have nc := nfS_c K a 15
      by_cases c : nfS K a 15 = -1
      · rw [if_pos c, if_pos c, gd_t (by omega), bnd_some, gd_t (by omega), bnd_some, if_pos c, c]
      · have hL : 1 ≤ nfS K a 15 ∧ nfS K a 15 ≤ 15 := by omega
        have hb := hl _ hL.1 hL.2
        have e101 : (hI (hI m 87 x 2) 89 x (nfS K a 15)).1 101 = m.1 101 := by rw [rI_n (by decide), rI_n (by decide)]
        rw [if_neg c, if_neg c, gd_t (by omega), bnd_some, gd_t (by omega), bnd_some, if_neg c, gd_t (by omega), e101, gd_t (by omega), gd_t (by omega), bnd_some]
    | succ r ih =>
      intro N k hN hk
      obtain ⟨M, rfl⟩ := fuel_s hN
      have ek : ((k + 1 : Nat) : Int) = (k : Int) + 1 := by omega
      have nx := ih M (k + 1) (by omega) (by omega)
      rw [ek] at nx
      obtain ⟨dk, dk2⟩ := hd ((k : Int) + 1) (by omega) (by omega)
      have hg := gr_c (dK K a ((k : Int) + 1))
      have hp := hl ((k : Int) + 1) (by omega) (by omega)
      have nc := nfS_c K a k
      rw [nX12_goesToLocker_4_s]
      simp only [bX12_goesToLocker_4, eL48]
      rw [if_pos (by omega), gd_t (by omega), e81]
      by_cases c0 : m.1 102 ((k : Int) + 1) = 0
      · have e : nfS K a (k + 1) = nfS K a k := by rw [nfS, if_neg (fun q => by have := q.1.1; omega)]
        rw [e] at nx
        rw [if_pos c0, gd_t (by omega)]
        exact nx
      · rw [if_neg c0, gd_t (by omega)]
        by_cases c1 : K 62 ((k : Int) + 1) < K 61 ((k : Int) + 1)
        · rw [if_pos (by omega), gd_t (by omega), dk, bnd_some]
          by_cases c2 : dK K a ((k : Int) + 1) = -1
          · have e : nfS K a (k + 1) = nfS K a k := by rw [nfS, if_neg (fun q => q.1.2 c2)]
            rw [e] at nx
            rw [if_neg (by omega), gd_t (by omega)]
            exact nx
          · rw [if_pos (by omega)]
            by_cases c3 : nfS K a k = -1
            · have e : nfS K a (k + 1) = (k : Int) + 1 := by rw [nfS, if_pos ⟨⟨c1, c2⟩, Or.inl c3⟩]
              rw [e] at nx
              rw [eL49p c3, gd_t (by omega)]
              exact nx
            · obtain ⟨d2, d22⟩ := hd (nfS K a k) (by omega) (by omega)
              have hg2 := gr_c (dK K a (nfS K a k))
              rw [eL49n c3, gd_t (by omega), e81, dk, bnd_some, gd_t (by omega), d2, bnd_some]
              by_cases c4 : dK K a ((k : Int) + 1) < dK K a (nfS K a k)
              · have e : nfS K a (k + 1) = (k : Int) + 1 := by rw [nfS, if_pos ⟨⟨c1, c2⟩, Or.inr c4⟩]
                rw [e] at nx
                rw [if_pos (by omega), gd_t (by omega)]
                exact nx
              · have e : nfS K a (k + 1) = nfS K a k := by
                  rw [nfS, if_neg]
                  rintro ⟨_, q | q⟩
                  · exact c3 q
                  · exact c4 q
                rw [e] at nx
                rw [if_neg (by omega), gd_t (by omega)]
                exact nx
        · have e : nfS K a (k + 1) = nfS K a k := by rw [nfS, if_neg (fun q => c1 q.1.1)]
          rw [e] at nx
          rw [if_neg (by omega), gd_t (by omega)]
          exact nx
  unfold nX12_goesToLocker bX12_goesToLocker
  exact key 15 100000 0 (by omega) (by omega)
/-! the model's rounds -/
def RS (K : Nat → Int → Int) (m : HH) : Prop := (∀ v, 0 ≤ v → v < 3 → (0 ≤ K 31 v ∧ K 31 v ≤ 9) ∧ m.1 95 v = K 31 v ∧ mrd m v = rnd K v) ∧ (∀ p, 0 ≤ p → p < K 13 10 → m.1 90 p = vw K p) ∧ (m.1 71 21 = K 13 10 ∧ m.1 71 27 = K 13 14)
theorem RS_fr {S : Nat → Int → Prop} {m m1 : HH} (a : RS K m) (f : Fr S m m1) (q : ∀ c i, S c i → c ≠ 90 ∧ c ≠ 94 ∧ c ≠ 95 ∧ (c = 71 → i ≠ 21 ∧ i ≠ 27)) : RS K m1 := by
  have e90 := fr_c f 90 (fun i s => (q _ _ s).1 rfl)
  have e94 := fr_c f 94 (fun i s => (q _ _ s).2.1 rfl)
  have e95 := fr_c f 95 (fun i s => (q _ _ s).2.2.1 rfl)
  have e21 := f.2 71 21 (fun s => ((q _ _ s).2.2.2 rfl).1 rfl)
  have e27 := f.2 71 27 (fun s => ((q _ _ s).2.2.2 rfl).2 rfl)
  unfold RS mrd at a ⊢
  rw [e90, e94, e95, e21, e27]
  exact a
theorem rs_lays (n9 : 0 ≤ K 13 10 ∧ K 13 10 ≤ 9) (V3 : 0 ≤ K 13 14 ∧ K 13 14 ≤ 3) (a : RS K m) {v n : Int} (v0 : 0 ≤ v) (v1 : v < K 13 14) (hn : 0 ≤ n ∧ n ≤ 9) (hR : GR K (setR (rnd K) v l)) (e51 : m.1 71 51 = n) (hl : mrow m = l) : Ok (nX12_lays v m) (fun g => Fr sLy m g ∧ (∀ w, 0 ≤ w → w < 3 → g.1 95 w = (if w = v then n else K 31 w) ∧ mrd g w = setR (rnd K) v l w) ∧ ∀ p, 0 ≤ p → p < K 13 10 → g.1 90 p = vwR (setR (rnd K) v l) p) := by
  refine ok_mono (sX12_lays (n := K 13 10) (vans := K 13 14) (R := setR (rnd K) v l) v0 (by omega) a.2.2.1 a.2.2.2 (by omega) (by omega) (by omega) (by omega) (by omega) (GR_dsj hR) (fun u u0 u3 => ⟨GR_len1 hR n9.2 n9.1 u0 u3, (hR.1 u u0 u3).1⟩) (fun u u0 u3 => (hR.1 u (by omega) u3).2.2.1 u0) (by rw [setR, if_pos rfl]; exact hl) (fun w w0 w3 hw => ⟨by rw [setR, if_neg hw]; exact (a.1 w w0 w3).2.2, by rw [(a.1 w w0 w3).2.1]; exact (a.1 w w0 w3).1⟩)) (fun g q => ⟨q.1, fun w w0 w3 => ⟨?_, (q.2.1 w w0 w3).2⟩, q.2.2⟩)
  rw [(q.2.1 w w0 w3).1, e51, (a.1 w w0 w3).2.1]
theorem rs_row (a : RS K m) {v p : Int} (v0 : 0 ≤ v) (v3 : v < 3) (hp : p ∈ rnd K v) {β : Type} {k : HH → Option β} {Q : β → Prop} (hk : ∀ m1, Fr sRow m m1 → m1.1 71 51 = K 31 v - 1 → mrow m1 = remL (rnd K v) (ixL p (rnd K v) 0).toNat → Ok (k m1) Q) : Ok (bnd (nX12_loads v m) fun r1 => bnd (nX12_placeInRound r1 v p) fun r2 => bnd (nX12_removes r2 r1) fun r3 => k r3) Q := by
  obtain ⟨b1, b2, b3⟩ := a.1 v v0 v3
  have hx := ixL_r (i := 0) ((ixL_m (by omega)).mp hp)
  rw [rnd_len] at hx
  refine ok_bnd (sX12_loads v0 v3 (by omega) (by omega)) (fun m1 w1 => ?_)
  have e95 : m1.1 95 v = m.1 95 v := w1.1.2 95 v (by unfold sRow; omega)
  have emd : mrd m1 v = rnd K v := by
    rw [← b3]
    unfold mrd
    rw [e95]
    exact rowL_ext (fun j hj => w1.1.2 94 _ (by unfold sRow; omega))
  refine ok_be (sX12_placeInRound v0 v3 (by omega) (by omega) (by rw [emd]; exact hp)) ?_
  rw [emd]
  refine ok_bnd (sX12_removes (h := m1) (by omega) (by omega) (by omega)) (fun m2 w2 => ?_)
  exact hk m2 (fr_t w1.1 w2.1) (by omega) (by rw [w2.2.2, w1.2.2, b3])
end DOOR
