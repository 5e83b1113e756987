/-! ARRIVAL: the model -/
section ARRM
variable {m : HH} {M K0 K1 K2 : Nat → Int → Int} {n a t0 : Int}
/-- the label at the end of a street -/
abbrev fS (M : Nat → Int → Int) : Int → Int → Int := fun s t => eoE (M 74 s) (M 77) t
theorem fS_mon (hS : SB M n) (hf : fcB (M 77)) : MON (fS M) n := fun s s0 s1 x y x0 xy => eoE_m (hS s s0 s1).2.1 hf x0 xy
theorem fS_inf (hS : SB M n) (hf : fcB (M 77)) : INF (fS M) n := fun s s0 s1 x x0 => by
  have := eoE_b (hS s s0 s1).2.1 hf x0
  show x ≤ eoE (M 74 s) (M 77) x
  omega
def cntB (K : Nat → Int → Int) : Int := sumS (fun b => if K 104 b < 1000000000 then 1 else 0) 16
theorem cntB_b (K : Nat → Int → Int) : 0 ≤ cntB K ∧ cntB K ≤ 16 := sumS_1 (fun j _ => by
  show 0 ≤ (if K 104 (j : Int) < 1000000000 then (1 : Int) else 0) ∧ (if K 104 (j : Int) < 1000000000 then (1 : Int) else 0) ≤ 1
  split <;> omega)
def lbB (M : Nat → Int → Int) (n a t0 : Int) (K : Nat → Int → Int) (b : Int) : Prop := K 104 b = 1000000000 ∨ ((t0 ≤ K 104 b ∧ K 104 b ≤ t0 + 360 * (cntB K - 1)) ∧ ∃ es, wlk (M 72) (M 73) n a es b ∧ wvl (fS M) t0 es = K 104 b)
def lbBA (M : Nat → Int → Int) (n a t0 : Int) (K : Nat → Int → Int) : Prop := ∀ b, 0 ≤ b → b ≤ 15 → lbB M n a t0 K b
def labB (K : Nat → Int → Int) (b : Int) : Int := if 0 ≤ b ∧ b ≤ 15 then K 104 b else 1000000000
theorem lbB_c (ht : 0 ≤ t0 ∧ t0 ≤ 1439) {b : Int} (h : lbB M n a t0 K1 b) : K1 104 b = 1000000000 ∨ (t0 ≤ K1 104 b ∧ K1 104 b ≤ 7199) := by
  have := cntB_b K1
  rcases h with h | h
  · exact Or.inl h
  · exact Or.inr (by omega)
theorem rlxB (hS : SB M n) (hf : fcB (M 77)) (ht : 0 ≤ t0 ∧ t0 ≤ 1439) (hA : lbBA M n a t0 K1) {s : Int} (s0 : 0 ≤ s ∧ s < n) (hu : K1 104 (M 72 s) ≠ 1000000000) (hlt : fS M s (K1 104 (M 72 s)) < K1 104 (M 73 s)) (e : K2 104 = updI (K1 104) (M 73 s) (fS M s (K1 104 (M 72 s)))) : lbBA M n a t0 K2 := by
  have hs := hS s s0.1 s0.2
  have lu := hA (M 72 s) hs.1.1.1 hs.1.1.2
  have lv := hA (M 73 s) hs.1.2.1 hs.1.2.2
  have cu := (lbB_c ht lu).resolve_left hu
  have hb := eoE_b hs.2.1 hf (show 0 ≤ K1 104 (M 72 s) by omega)
  have hb' : K1 104 (M 72 s) < fS M s (K1 104 (M 72 s)) ∧ fS M s (K1 104 (M 72 s)) ≤ K1 104 (M 72 s) + 360 := hb
  have fa : cntB K2 = cntB K1 + if K1 104 (M 73 s) < 1000000000 then 0 else 1 := by
    have hk : (((M 73 s).toNat : Nat) : Int) = M 73 s := by omega
    have hu2 := sumS_upd (g := fun b => if K1 104 b < 1000000000 then 1 else 0) (g' := fun b => if K2 104 b < 1000000000 then 1 else 0) (k := (M 73 s).toNat) (n := 16) (by omega) (fun j h1 h2 => by
      show (if K2 104 (j : Int) < 1000000000 then (1 : Int) else 0) = if K1 104 (j : Int) < 1000000000 then (1 : Int) else 0
      rw [e, updI_n (by omega)])
    rw [hk] at hu2
    have hu3 : cntB K2 = cntB K1 + ((if K2 104 (M 73 s) < 1000000000 then (1 : Int) else 0) - if K1 104 (M 73 s) < 1000000000 then (1 : Int) else 0) := hu2
    rw [e, updI_s, if_pos (show fS M s (K1 104 (M 72 s)) < 1000000000 by omega)] at hu3
    rw [hu3]
    split <;> omega
  intro b b0 b1
  have lo := hA b b0 b1
  unfold lbB at lo ⊢
  rw [e]
  by_cases c : b = M 73 s
  · rw [c, updI_s]
    unfold lbB at lu lv
    rcases lu with q | ⟨q1, es, q2, q3⟩
    · exact absurd q hu
    · refine Or.inr ⟨⟨by omega, ?_⟩, es ++ [s], wlk_snoc q2 s0.1 s0.2, by rw [wvl_snoc, q3]⟩
      rw [fa]
      by_cases c2 : K1 104 (M 73 s) < 1000000000
      · rw [if_pos c2]
        rcases lv with w | w
        · omega
        · omega
      · rw [if_neg c2]
        omega
  · rw [updI_n c]
    rcases lo with lo | ⟨q1, q2⟩
    · exact Or.inl lo
    · refine Or.inr ⟨⟨q1.1, ?_⟩, q2⟩
      rw [fa]
      split <;> omega
abbrev sAr : Nat → Int → Prop := fun c _ => c = 104
def rdB (M : Nat → Int → Int) (n a t0 : Int) (K0 : Nat → Int → Int) (k x : Int) (K1 : Nat → Int → Int) : Prop := (lbBA M n a t0 K1 ∧ ∀ b, 0 ≤ b → b ≤ 15 → K1 104 b ≤ K0 104 b) ∧ (∀ s, 0 ≤ s → s < n → s < k → K0 104 (M 72 s) < 1000000000 → K1 104 (M 73 s) < 1000000000 ∧ K1 104 (M 73 s) ≤ fS M s (K0 104 (M 72 s))) ∧ (x = 0 ∨ x = 1) ∧ (x = 0 → K1 104 = K0 104) ∧ (rndOk (M 72) (M 73) (fS M) n 1000000000 a t0 15 (labB K0) → x = 0)
theorem m_arr86 {H : HH} (hS : SB H.1 (H.1 71 9)) (hf : fcB (H.1 77)) (ht : 0 ≤ t0 ∧ t0 ≤ 1439) (ha : 0 ≤ a ∧ a ≤ 15) (hn : 0 ≤ H.1 71 9 ∧ H.1 71 9 ≤ 60) (h0 : lbBA H.1 (H.1 71 9) a t0 K0) {x2 : Int} {c75 : Int → Int → HH → Option (Int × HH)} {P : Int × HH → Prop} : ∀ (r N : Nat) (k x : Int) (m : HH), r < N → k + r = H.1 71 9 → 0 ≤ k → Fr sAr H m → rdB H.1 (H.1 71 9) a t0 K0 k x m.1 → (∀ x' m', Fr sAr H m' → rdB H.1 (H.1 71 9) a t0 K0 (H.1 71 9) x' m'.1 → Ok (c75 x2 x' m') P) → Ok (nX12_arrival_86 c75 N x2 x k m) P := by
  intro r
  induction r with
  | zero =>
    intro N k x m hN hk k0 f ri hK
    obtain ⟨M, rfl⟩ := fuel_s hN
    have e9 : m.1 71 9 = H.1 71 9 := f.2 71 9 (by dsimp only [sAr]; omega)
    rw [nX12_arrival_86_s]
    simp only [bX12_arrival_86]
    refine ok_neg (by omega) ?_
    exact hK x m f (by rw [show H.1 71 9 = k by omega] at ri ⊢; exact ri)
  | succ r ih =>
    intro N k x m hN hk k0 f ri hK
    obtain ⟨M, rfl⟩ := fuel_s hN
    have eR : ∀ c, c ≠ 104 → m.1 c = H.1 c := fun c hc => fr_c f c (fun i s => hc s)
    obtain ⟨⟨r1, r2⟩, r3, r4, r5, r6⟩ := ri
    have hst := hS k k0 (by omega)
    have lu := r1 (H.1 72 k) hst.1.1.1 hst.1.1.2
    have lv := r1 (H.1 73 k) hst.1.2.1 hst.1.2.2
    have cv := lbB_c ht lv
    have hle := r2 (H.1 72 k) hst.1.1.1 hst.1.1.2
    have nxt : ∀ (x' : Int) (m' : HH), Fr sAr H m' → (lbBA H.1 (H.1 71 9) a t0 m'.1 ∧ ∀ b, 0 ≤ b → b ≤ 15 → m'.1 104 b ≤ m.1 104 b) → (K0 104 (H.1 72 k) < 1000000000 → m'.1 104 (H.1 73 k) < 1000000000 ∧ m'.1 104 (H.1 73 k) ≤ fS H.1 k (K0 104 (H.1 72 k))) → (x' = 0 ∨ x' = 1) → (x' = 0 → m'.1 104 = K0 104) → (rndOk (H.1 72) (H.1 73) (fS H.1) (H.1 71 9) 1000000000 a t0 15 (labB K0) → x' = 0) → Ok (gd (R32 (k + 1)) (nX12_arrival_86 c75 M x2 x' (k + 1) m')) P := fun x' m' f' l1 l2 l3 l4 l5 => by
      refine ok_gd (by omega) ?_
      refine ih M (k + 1) x' m' (by omega) (by omega) (by omega) f' ⟨⟨l1.1, fun b p1 p2 => Int.le_trans (l1.2 b p1 p2) (r2 b p1 p2)⟩, fun s p1 p2 p3 p4 => ?_, l3, l4, l5⟩ hK
      by_cases c : s < k
      · have z := r3 s p1 p2 c p4
        have hst' := hS s p1 p2
        have := l1.2 (H.1 73 s) hst'.1.2.1 hst'.1.2.2
        omega
      · have e : s = k := by omega
        rw [e] at p4 ⊢
        exact l2 p4
    rw [nX12_arrival_86_s]
    simp only [bX12_arrival_86, nX12_arrival_135, bX12_arrival_135, nX12_arrival_171, bX12_arrival_171]
    rw [eR 71 (by decide), eR 72 (by decide), eR 73 (by decide)]
    refine ok_pos (by omega) ?_
    refine ok_gd (by omega) ?_
    refine ok_gd (by omega) ?_
    by_cases cu : m.1 104 (H.1 72 k) = 1000000000
    · refine ok_pos cu ?_
      refine ok_gd (by omega) ?_
      refine ok_gd (by omega) ?_
      refine ok_neg (by omega) ?_
      refine nxt x m f ⟨r1, fun _ _ _ => Int.le_refl _⟩ (fun q => ?_) r4 r5 r6
      omega
    · have lc := (lbB_c ht lu).resolve_left cu
      refine ok_neg cu ?_
      refine ok_gd (by omega) ?_
      refine ok_gd (by omega) ?_
      have ee := sX12_endOf (m := m) (s := k) (x := m.1 104 (H.1 72 k)) (by omega) (by rw [eR 74 (by decide)]; exact hst.2.1) (by rw [eR 77 (by decide)]; exact hf) (by omega)
      rw [eR 74 (by decide), eR 77 (by decide)] at ee
      refine ok_be ee ?_
      have hb : m.1 104 (H.1 72 k) < fS H.1 k (m.1 104 (H.1 72 k)) ∧ fS H.1 k (m.1 104 (H.1 72 k)) ≤ m.1 104 (H.1 72 k) + 360 := eoE_b hst.2.1 hf (by omega)
      have hmono : K0 104 (H.1 72 k) < 1000000000 → fS H.1 k (m.1 104 (H.1 72 k)) ≤ fS H.1 k (K0 104 (H.1 72 k)) := fun _ => fS_mon hS hf k k0 (by omega) _ _ (by omega) hle
      refine ok_gd (by omega) ?_
      refine ok_gd (by omega) ?_
      by_cases cl : fS H.1 k (m.1 104 (H.1 72 k)) < m.1 104 (H.1 73 k)
      · refine ok_pos cl ?_
        refine ok_gd (by omega) ?_
        refine ok_gd (by omega) ?_
        refine ok_bs ?_
        obtain ⟨g, hg⟩ : ∃ g, g = hI m 104 (H.1 73 k) (fS H.1 k (m.1 104 (H.1 72 k))) := ⟨_, rfl⟩
        have hg' : hI m 104 (H.1 73 k) (eoE (H.1 74 k) (H.1 77) (m.1 104 (H.1 72 k))) = g := hg.symm
        rw [hg']
        have g104 : g.1 104 = updI (m.1 104) (H.1 73 k) (fS H.1 k (m.1 104 (H.1 72 k))) := by rw [hg, rI_s]
        have fg : Fr sAr H g := by rw [hg]; exact fr_I f rfl
        have lo : ∀ b, 0 ≤ b → b ≤ 15 → g.1 104 b ≤ m.1 104 b := fun b p1 p2 => by
          rw [g104, updI_at]
          by_cases c : b = H.1 73 k
          · rw [if_pos c, c]; exact Int.le_of_lt cl
          · rw [if_neg c]; exact Int.le_refl _
        refine nxt 1 g fg ⟨rlxB hS hf ht r1 ⟨k0, by omega⟩ cu cl g104, lo⟩ (fun q => ?_) (Or.inr rfl) (fun q => by omega) (fun q => ?_)
        · rw [g104, updI_s]
          exact ⟨by omega, hmono q⟩
        · exfalso
          have k1 := r5 (r6 q)
          have lu' := lu
          unfold lbB at lu'
          rcases lu' with w | ⟨_, es, w1, w2⟩
          · exact cu w
          · have w3 := wlk_snoc w1 k0 (show k < H.1 71 9 by omega)
            have w4 := rnd_15 (fS_mon hS hf) (fS_inf hS hf) (SB_e hS) q (Nat.le_refl _) ht.1 ha.1 (by omega) w3
            rw [wvl_snoc, w2] at w4
            have e1 : labB K0 (H.1 73 k) = m.1 104 (H.1 73 k) := by
              unfold labB
              rw [if_pos hst.1.2, k1]
            rw [e1] at w4
            omega
      · refine ok_neg cl ?_
        refine nxt x m f ⟨r1, fun _ _ _ => Int.le_refl _⟩ (fun q => ?_) r4 r5 r6
        have := hmono q
        omega
/-- what the model answers -/
def arP (H : HH) (a t0 b : Int) (r : Int × HH) : Prop := ∃ g, Fr sAr H g ∧ r.2 = hI g 71 10 0 ∧ ((r.1 = -1 ∧ ∀ es, ¬ wlk (H.1 72) (H.1 73) (H.1 71 9) a es b) ∨ (r.1 ≠ -1 ∧ lst (H.1 72) (H.1 73) (fS H.1) (H.1 71 9) a t0 b r.1))
theorem arr_fin {H : HH} (hS : SB H.1 (H.1 71 9)) (hf : fcB (H.1 77)) (ht : 0 ≤ t0 ∧ t0 ≤ 1439) (ha : 0 ≤ a ∧ a ≤ 15) {x2 : Int} (hx : 0 ≤ x2 ∧ x2 ≤ 15) {N : Nat} (hN : 0 < N) {m : HH} (f : Fr sAr H m) (hA : lbBA H.1 (H.1 71 9) a t0 m.1) (hd : m.1 104 a = t0) (hc : ∀ s, 0 ≤ s → s < H.1 71 9 → m.1 104 (H.1 72 s) < 1000000000 → m.1 104 (H.1 73 s) < 1000000000 ∧ m.1 104 (H.1 73 s) ≤ fS H.1 s (m.1 104 (H.1 72 s))) : Ok (nX12_arrival_75 N x2 0 m) (arP H a t0 x2) := by
  obtain ⟨M, rfl⟩ := fuel_s hN
  have l0 : ∀ b, 0 ≤ labB m.1 b := fun b => by
    unfold labB
    by_cases c : 0 ≤ b ∧ b ≤ 15
    · rw [if_pos c]
      have := lbB_c ht (hA b c.1 c.2)
      omega
    · rw [if_neg c]; omega
  have low : ∀ es, wlk (H.1 72) (H.1 73) (H.1 71 9) a es x2 → m.1 104 x2 < 1000000000 ∧ m.1 104 x2 ≤ wvl (fS H.1) t0 es := fun es w => by
    have laba : labB m.1 a = t0 := by unfold labB; rw [if_pos ha, hd]
    have labb : labB m.1 x2 = m.1 104 x2 := by unfold labB; rw [if_pos hx]
    have := lab_le (A := labB m.1) (G := 1000000000) (f := fS H.1) (fS_mon hS hf) (fS_inf hS hf) (fun s s0 s1 q => by
      have hs := hS s s0 s1
      have e1 : labB m.1 (H.1 72 s) = m.1 104 (H.1 72 s) := by unfold labB; rw [if_pos hs.1.1]
      have e2 : labB m.1 (H.1 73 s) = m.1 104 (H.1 73 s) := by unfold labB; rw [if_pos hs.1.2]
      rw [e1] at q
      rw [e1, e2]
      exact hc s s0 s1 q) l0 w (t := t0) (by rw [laba]; omega) (by rw [laba]; exact Int.le_refl _)
    rw [labb] at this
    exact this
  have lo := hA x2 hx.1 hx.2
  have lc := lbB_c ht lo
  rw [nX12_arrival_75_s]
  simp only [bX12_arrival_75, nX12_arrival_202, bX12_arrival_202]
  refine ok_pos True.intro ?_
  refine ok_gd (by omega) ?_
  by_cases c : m.1 104 x2 = 1000000000
  · refine ok_pos c ?_
    refine ok_be (sX12_told _ _) ?_
    refine ok_some ⟨m, f, rfl, Or.inl ⟨rfl, fun es w => ?_⟩⟩
    have := low es w
    omega
  · refine ok_neg c ?_
    refine ok_gd (by omega) ?_
    refine ok_be (sX12_told _ _) ?_
    unfold lbB at lo
    rcases lo with q | ⟨q1, es, q2, q3⟩
    · exact absurd q c
    · refine ok_some ⟨m, f, rfl, Or.inr ⟨by dsimp only; omega, ⟨es, q2, q3⟩, fun es' w => (low es' w).2⟩⟩
theorem m_arr75 {H : HH} (hS : SB H.1 (H.1 71 9)) (hf : fcB (H.1 77)) (ht : 0 ≤ t0 ∧ t0 ≤ 1439) (ha : 0 ≤ a ∧ a ≤ 15) (hn : 0 ≤ H.1 71 9 ∧ H.1 71 9 ≤ 60) {x2 : Int} (hx : 0 ≤ x2 ∧ x2 ≤ 15) : ∀ (R N r : Nat) (m : HH), R + 1 < N → r + R = 15 → Fr sAr H m → lbBA H.1 (H.1 71 9) a t0 m.1 → m.1 104 a = t0 → rndOk (H.1 72) (H.1 73) (fS H.1) (H.1 71 9) 1000000000 a t0 r (labB m.1) → Ok (nX12_arrival_75 N x2 1 m) (arP H a t0 x2) := by
  intro R
  induction R with
  | zero =>
    intro N r m hN hr f hA hd hR
    obtain ⟨M, rfl⟩ := fuel_s hN
    rw [nX12_arrival_75_s]
    simp only [bX12_arrival_75]
    refine ok_neg (by decide) ?_
    refine m_arr86 hS hf ht ha hn hA (H.1 71 9).toNat 100000 0 0 m (by omega) (by omega) (by omega) f ⟨⟨hA, fun _ _ _ => Int.le_refl _⟩, fun s p1 p2 p3 => by omega, Or.inl rfl, fun _ => rfl, fun _ => rfl⟩ (fun x' m' f' ri => ?_)
    obtain ⟨⟨r1, r2⟩, r3, r4, r5, r6⟩ := ri
    have x0 := r6 (by rw [show r = 15 by omega] at hR; exact hR)
    have k1 := r5 x0
    rw [x0]
    refine arr_fin hS hf ht ha hx (by omega) f' r1 (by rw [k1]; exact hd) (fun s p1 p2 q => ?_)
    rw [k1] at q
    have := r3 s p1 p2 p2 q
    rw [← k1] at this
    exact this
  | succ R ih =>
    intro N r m hN hr f hA hd hR
    obtain ⟨M, rfl⟩ := fuel_s hN
    rw [nX12_arrival_75_s]
    simp only [bX12_arrival_75]
    refine ok_neg (by decide) ?_
    refine m_arr86 hS hf ht ha hn hA (H.1 71 9).toNat 100000 0 0 m (by omega) (by omega) (by omega) f ⟨⟨hA, fun _ _ _ => Int.le_refl _⟩, fun s p1 p2 p3 => by omega, Or.inl rfl, fun _ => rfl, fun _ => rfl⟩ (fun x' m' f' ri => ?_)
    obtain ⟨⟨r1, r2⟩, r3, r4, r5, r6⟩ := ri
    rcases r4 with x0 | x1
    · have k1 := r5 x0
      rw [x0]
      refine arr_fin hS hf ht ha hx (by omega) f' r1 (by rw [k1]; exact hd) (fun s p1 p2 q => ?_)
      rw [k1] at q
      have := r3 s p1 p2 p2 q
      rw [← k1] at this
      exact this
    · rw [x1]
      refine ih M (r + 1) m' (by omega) (by omega) f' r1 ?_ ?_
      · have h1 := r2 a ha.1 ha.2
        rcases lbB_c ht (r1 a ha.1 ha.2) with z | z
        · omega
        · omega
      · refine rnd_s (fS_mon hS hf) (fun b => ?_) hR (fun b => ?_) (fun s s0 s1 q => ?_)
        · unfold labB
          by_cases c : 0 ≤ b ∧ b ≤ 15
          · rw [if_pos c]
            have := lbB_c ht (hA b c.1 c.2)
            omega
          · rw [if_neg c]; omega
        · unfold labB
          by_cases c : 0 ≤ b ∧ b ≤ 15
          · rw [if_pos c, if_pos c]; exact r2 b c.1 c.2
          · rw [if_neg c, if_neg c]; exact Int.le_refl _
        · have hs := hS s s0 s1
          have e1 : labB m.1 (H.1 72 s) = m.1 104 (H.1 72 s) := by unfold labB; rw [if_pos hs.1.1]
          have e2 : labB m'.1 (H.1 73 s) = m'.1 104 (H.1 73 s) := by unfold labB; rw [if_pos hs.1.2]
          rw [e1] at q
          rw [e1, e2]
          exact r3 s s0 s1 s1 q
theorem m_arr40 {H : HH} (hS : SB H.1 (H.1 71 9)) (hf : fcB (H.1 77)) (ht : 0 ≤ t0 ∧ t0 ≤ 1439) (ha : 0 ≤ a ∧ a ≤ 15) (hn : 0 ≤ H.1 71 9 ∧ H.1 71 9 ≤ 60) {x2 : Int} (hx : 0 ≤ x2 ∧ x2 ≤ 15) : Ok (nX12_arrival_40 100000 a x2 t0 0 H) (arP H a t0 x2) := by
  have key : ∀ (r N : Nat) (k : Int) (m : HH), r < N → k + r = 16 → 0 ≤ k → Fr sAr H m → (∀ j, 0 ≤ j → j < k → m.1 104 j = if j = a then t0 else 1000000000) → Ok (nX12_arrival_40 N a x2 t0 k m) (arP H a t0 x2) := by
    intro r
    induction r with
    | zero =>
      intro N k m hN hk k0 f hj
      obtain ⟨M, rfl⟩ := fuel_s hN
      rw [nX12_arrival_40_s]
      simp only [bX12_arrival_40]
      refine ok_neg (by omega) ?_
      have hd : m.1 104 a = t0 := by rw [hj a ha.1 (by omega), if_pos rfl]
      refine m_arr75 hS hf ht ha hn hx 15 100000 0 m (by omega) (by omega) f (fun b b0 b1 => ?_) hd (rnd_0 ?_ ?_)
      · have z := hj b b0 (by omega)
        unfold lbB
        by_cases c : b = a
        · rw [if_pos c] at z
          have h1 : 1 ≤ cntB m.1 := by
            have := sumS_ge (g := fun b => if m.1 104 b < 1000000000 then 1 else 0) (k := b.toNat) (n := 16) (fun j _ => by
              show 0 ≤ (if m.1 104 (j : Int) < 1000000000 then (1 : Int) else 0)
              split <;> omega) (by omega)
            have e : (if m.1 104 (b.toNat : Int) < 1000000000 then (1 : Int) else 0) = 1 := by
              rw [show ((b.toNat : Nat) : Int) = b by omega, z, if_pos (by omega)]
            rw [← e]
            exact this
          rw [z, c]
          exact Or.inr ⟨by omega, [], wlk_nil, rfl⟩
        · rw [if_neg c] at z
          exact Or.inl z
      · unfold labB
        rw [if_pos ha, hd]
        omega
      · unfold labB
        rw [if_pos ha, hd]
        exact Int.le_refl _
    | succ r ih =>
      intro N k m hN hk k0 f hj
      obtain ⟨M, rfl⟩ := fuel_s hN
      rw [nX12_arrival_40_s]
      simp only [bX12_arrival_40, nX12_arrival_65, bX12_arrival_65]
      refine ok_pos (by omega) ?_
      have step : ∀ y : Int, y = (if k = a then t0 else 1000000000) → Ok (gd ((0 : Int) ≤ k ∧ k < (16 : Int)) <| bnd (some (hI m 104 k y)) fun h1 => gd (R32 (k + 1)) <| nX12_arrival_40 M a x2 t0 (k + 1) h1) (arP H a t0 x2) := fun y hy => by
        refine ok_gd (by omega) ?_
        refine ok_bs ?_
        refine ok_gd (by omega) ?_
        refine ih M (k + 1) _ (by omega) (by omega) (by omega) (fr_I f rfl) (fun j j0 j1 => ?_)
        rw [rI_s, updI_at]
        by_cases c : j = k
        · rw [if_pos c, c]; exact hy
        · rw [if_neg c]; exact hj j j0 (by omega)
      by_cases c : k = a
      · refine ok_pos c ?_
        exact step t0 (if_pos c).symm
      · refine ok_neg c ?_
        exact step 1000000000 (if_neg c).symm
  exact key 16 100000 0 H (by omega) (by omega) (by omega) fr_r (fun j j0 j1 => by omega)
end ARRM
