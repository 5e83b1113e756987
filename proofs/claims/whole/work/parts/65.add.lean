/-! WAYS: the class adds a street -/
section ADD
variable {h h' m : HH}
abbrev kD (K : Nat → Int → Int) : Int → Int → Int := fun a b => K 7 (a * 16 + b)
abbrev kT (K : Nat → Int → Int) : Int → Int → Int := fun a b => K 8 (a * 16 + b)
abbrev kL (K : Nat → Int → Int) : Int → Int → Int := fun a b => K 9 (a * 16 + b)
theorem sX9_isLess {c x2 x3 x4 : Int} (hc : 0 ≤ c ∧ c < 256) (h1 : eB x2 x3 x4) (h2 : m.1 7 c = -1 ∨ eB (m.1 7 c) (m.1 8 c) (m.1 9 c)) : nX9_isLess m c x2 x3 x4 = some (if m.1 7 c = -1 ∨ enc x2 x3 x4 < enc (m.1 7 c) (m.1 8 c) (m.1 9 c) then 1 else 0) := by
  unfold nX9_isLess bX9_isLess
  rw [gd_t hc]
  by_cases c1 : m.1 7 c = -1
  · rw [if_pos c1, if_pos (Or.inl c1)]
    unfold nX9_isLess_20 bX9_isLess_20
    rw [gd_t hc, if_pos c1, gd_t (by omega)]
  · have h2 := h2.resolve_left c1
    have e := enc_lt h1 h2
    rw [if_neg c1, gd_t hc]
    by_cases c2 : x2 = m.1 7 c
    · rw [if_pos c2, gd_t hc]
      by_cases c3 : x3 = m.1 8 c
      · rw [if_pos c3, gd_t hc]
        by_cases c4 : x4 < m.1 9 c
        · rw [if_pos c4, gd_t (by omega), if_pos (Or.inr (e.mpr (Or.inr ⟨c2, Or.inr ⟨c3, c4⟩⟩)))]
        · rw [if_neg c4, gd_t (by omega), if_neg]
          rintro (q | q)
          · exact c1 q
          · have := e.mp q; omega
      · rw [if_neg c3, gd_t hc]
        by_cases c4 : x3 < m.1 8 c
        · rw [if_pos c4, gd_t (by omega), if_pos (Or.inr (e.mpr (Or.inr ⟨c2, Or.inl c4⟩)))]
        · rw [if_neg c4, gd_t (by omega), if_neg]
          rintro (q | q)
          · exact c1 q
          · have := e.mp q; omega
    · rw [if_neg c2]
      unfold nX9_isLess_20 bX9_isLess_20
      rw [gd_t hc, if_neg c1, gd_t hc]
      by_cases c3 : x2 < m.1 7 c
      · rw [if_pos c3, gd_t (by omega), if_pos (Or.inr (e.mpr (Or.inl c3)))]
      · rw [if_neg c3, gd_t (by omega), if_neg]
        rintro (q | q)
        · exact c1 q
        · have := e.mp q; omega
theorem sX9_shorten {c x2 x3 x4 : Int} (hc : 0 ≤ c ∧ c < 256) (h1 : eB x2 x3 x4) (h2 : m.1 7 c = -1 ∨ eB (m.1 7 c) (m.1 8 c) (m.1 9 c)) : nX9_shorten c x2 x3 x4 m = some (if m.1 7 c = -1 ∨ enc x2 x3 x4 < enc (m.1 7 c) (m.1 8 c) (m.1 9 c) then hI (hI (hI m 7 c x2) 8 c x3) 9 c x4 else m) := by
  unfold nX9_shorten bX9_shorten
  rw [sX9_isLess hc h1 h2, bnd_some]
  by_cases q : m.1 7 c = -1 ∨ enc x2 x3 x4 < enc (m.1 7 c) (m.1 8 c) (m.1 9 c)
  · rw [if_pos q, if_pos q, if_neg (by decide), gd_t hc, bnd_some, gd_t hc, bnd_some, gd_t hc, bnd_some]
  · rw [if_neg q, if_neg q, if_pos rfl]
section SH
variable {D T L : Int → Int → Int} {x g m t l : Int}
theorem shC_x (hB : TB D T L) (hx : (0 ≤ x ∧ x ≤ 15) ∧ (0 ≤ g ∧ g ≤ 15)) (hm : (1 ≤ m ∧ m ≤ 120) ∧ (1 ≤ t ∧ t ≤ 50000) ∧ (0 ≤ l ∧ l ≤ 9999)) {a : Int} (a0 : 0 ≤ a) (a1 : a ≤ 15) : ¬ shC D T L x g m t l a x := by
  rintro ⟨⟨c1, c2⟩, c3 | c3⟩
  · exact c1 c3
  · have b1 := hB a x a0 a1 hx.1.1 hx.1.2
    have b2 := hB g x hx.2.1 hx.2.2 hx.1.1 hx.1.2
    unfold enc at c3
    omega
theorem shC_g (hB : TB D T L) (hx : (0 ≤ x ∧ x ≤ 15) ∧ (0 ≤ g ∧ g ≤ 15)) (hm : (1 ≤ m ∧ m ≤ 120) ∧ (1 ≤ t ∧ t ≤ 50000) ∧ (0 ≤ l ∧ l ≤ 9999)) {b : Int} (b0 : 0 ≤ b) (b1 : b ≤ 15) : ¬ shC D T L x g m t l g b := by
  rintro ⟨⟨c1, c2⟩, c3 | c3⟩
  · exact c2 c3
  · have q1 := hB g x hx.2.1 hx.2.2 hx.1.1 hx.1.2
    have q2 := hB g b hx.2.1 hx.2.2 b0 b1
    unfold enc at c3
    omega
end SH
/-- the tables so far -/
def adT (K : Nat → Int → Int) (x g m t l x6 x8 : Int) (K1 : Nat → Int → Int) : Prop := ∀ a b, 0 ≤ a → a ≤ 15 → 0 ≤ b → b ≤ 15 → (K1 7 (a * 16 + b) = if a < x6 ∨ (a = x6 ∧ b < x8) then shD (kD K) (kT K) (kL K) x g m t l a b else K 7 (a * 16 + b)) ∧ (K1 8 (a * 16 + b) = if a < x6 ∨ (a = x6 ∧ b < x8) then shT (kD K) (kT K) (kL K) x g m t l a b else K 8 (a * 16 + b)) ∧ (K1 9 (a * 16 + b) = if a < x6 ∨ (a = x6 ∧ b < x8) then shL (kD K) (kT K) (kL K) x g m t l a b else K 9 (a * 16 + b))
theorem adT_x {K K1 : Nat → Int → Int} {x g m t l x6 x8 : Int} (hB : TB (kD K) (kT K) (kL K)) (hx : (0 ≤ x ∧ x ≤ 15) ∧ (0 ≤ g ∧ g ≤ 15)) (hm : (1 ≤ m ∧ m ≤ 120) ∧ (1 ≤ t ∧ t ≤ 50000) ∧ (0 ≤ l ∧ l ≤ 9999)) (ad : adT K x g m t l x6 x8 K1) {a : Int} (a0 : 0 ≤ a) (a1 : a ≤ 15) : K1 7 (a * 16 + x) = K 7 (a * 16 + x) ∧ K1 8 (a * 16 + x) = K 8 (a * 16 + x) ∧ K1 9 (a * 16 + x) = K 9 (a * 16 + x) := by
  obtain ⟨e1, e2, e3⟩ := ad a x a0 a1 hx.1.1 hx.1.2
  have n := shC_x hB hx hm a0 a1
  unfold shD at e1
  unfold shT at e2
  unfold shL at e3
  rw [if_neg n, ite_self] at e1 e2 e3
  exact ⟨e1, e2, e3⟩
theorem adT_g {K K1 : Nat → Int → Int} {x g m t l x6 x8 : Int} (hB : TB (kD K) (kT K) (kL K)) (hx : (0 ≤ x ∧ x ≤ 15) ∧ (0 ≤ g ∧ g ≤ 15)) (hm : (1 ≤ m ∧ m ≤ 120) ∧ (1 ≤ t ∧ t ≤ 50000) ∧ (0 ≤ l ∧ l ≤ 9999)) (ad : adT K x g m t l x6 x8 K1) {b : Int} (b0 : 0 ≤ b) (b1 : b ≤ 15) : K1 7 (g * 16 + b) = K 7 (g * 16 + b) ∧ K1 8 (g * 16 + b) = K 8 (g * 16 + b) ∧ K1 9 (g * 16 + b) = K 9 (g * 16 + b) := by
  obtain ⟨e1, e2, e3⟩ := ad g b hx.2.1 hx.2.2 b0 b1
  have n := shC_g hB hx hm b0 b1
  unfold shD at e1
  unfold shT at e2
  unfold shL at e3
  rw [if_neg n, ite_self] at e1 e2 e3
  exact ⟨e1, e2, e3⟩
/-- the row's end -/
theorem adT_row {K K1 : Nat → Int → Int} {x g m t l x6 x8 : Int} (ad : adT K x g m t l x6 x8 K1) (hr : 16 ≤ x8 ∨ K 7 (x6 * 16 + x) = -1) : adT K x g m t l (x6 + 1) 0 K1 := fun a b a0 a1 b0 b1 => by
  have e := ad a b a0 a1 b0 b1
  by_cases c : a < x6 ∨ (a = x6 ∧ b < x8)
  · have c' : a < x6 + 1 ∨ (a = x6 + 1 ∧ b < 0) := by omega
    rw [if_pos c, if_pos c, if_pos c] at e
    rw [if_pos c', if_pos c', if_pos c']
    exact e
  · rw [if_neg c, if_neg c, if_neg c] at e
    by_cases c' : a < x6 + 1 ∨ (a = x6 + 1 ∧ b < 0)
    · have ea : a = x6 := by omega
      have n : ¬ shC (kD K) (kT K) (kL K) x g m t l a b := by
        rintro ⟨⟨c1, _⟩, _⟩
        rcases hr with hr | hr
        · omega
        · rw [ea] at c1; exact c1 hr
      unfold shD shT shL
      rw [if_pos c', if_pos c', if_pos c', if_neg n, if_neg n, if_neg n]
      exact e
    · rw [if_neg c', if_neg c', if_neg c']
      exact e
abbrev sW9 : Nat → Int → Prop := fun c _ => 7 ≤ c ∧ c ≤ 9
theorem c_add62 {H : HH} {x g mi t l x6 : Int} (hB : TB (kD H.1) (kT H.1) (kL H.1)) (hx : (0 ≤ x ∧ x ≤ 15) ∧ (0 ≤ g ∧ g ≤ 15)) (hm : (1 ≤ mi ∧ mi ≤ 120) ∧ (1 ≤ t ∧ t ≤ 50000) ∧ (0 ≤ l ∧ l ≤ 9999)) (h6 : 0 ≤ x6 ∧ x6 ≤ 15) {c43 : Int → Int → Int → Int → Int → Int → HH → Option HH} {P : HH → Prop} : ∀ (r N : Nat) (x8 : Int) (m : HH), r < N → x8 + r = 16 → 0 ≤ x8 → Fr sW9 H m → adT H.1 x g mi t l x6 x8 m.1 → (∀ m', Fr sW9 H m' → adT H.1 x g mi t l (x6 + 1) 0 m'.1 → Ok (c43 x g mi t l (x6 + 1) m') P) → Ok (nX9_add_62 c43 N x g mi t l x6 (x6 * 16 + x) x8 m) P := by
  intro r
  induction r with
  | zero =>
    intro N x8 m hN h8 h0 f ad hk
    obtain ⟨M, rfl⟩ := fuel_s hN
    rw [nX9_add_62_s]
    simp only [bX9_add_62, nX9_add_171, bX9_add_171]
    refine ok_neg (by omega) ?_
    refine ok_gd (by omega) ?_
    exact hk m f (adT_row ad (Or.inl (by omega)))
  | succ r ih =>
    intro N x8 m hN h8 h0 f ad hk
    obtain ⟨M, rfl⟩ := fuel_s hN
    obtain ⟨ax7, ax8, ax9⟩ := adT_x hB hx hm ad h6.1 h6.2
    obtain ⟨ag7, ag8, ag9⟩ := adT_g hB hx hm ad h0 (by omega)
    have b1 := hB x6 x h6.1 h6.2 hx.1.1 hx.1.2
    have b2 := hB g x8 hx.2.1 hx.2.2 h0 (by omega)
    have b3 := hB x6 x8 h6.1 h6.2 h0 (by omega)
    obtain ⟨o7, o8, o9⟩ := ad x6 x8 h6.1 h6.2 h0 (by omega)
    rw [if_neg (by omega)] at o7 o8 o9
    rw [nX9_add_62_s]
    simp only [bX9_add_62, nX9_add_171, bX9_add_171, nX9_add_165, bX9_add_165, nX9_add_100, bX9_add_100]
    refine ok_pos (by omega) ?_
    refine ok_gd (by omega) ?_
    by_cases c1 : H.1 7 (x6 * 16 + x) = -1
    · refine ok_pos (by omega) ?_
      refine ok_gd (by omega) ?_
      exact hk m f (adT_row ad (Or.inr c1))
    · refine ok_neg (by omega) ?_
      refine ok_gd (by omega) ?_
      refine ok_gd (by omega) ?_
      refine ok_gd (by omega) ?_
      have keep : ¬ shC (kD H.1) (kT H.1) (kL H.1) x g mi t l x6 x8 → Ok (gd (R32 (x8 + 1)) (nX9_add_62 c43 M x g mi t l x6 (x6 * 16 + x) (x8 + 1) m)) P := fun n => by
        refine ok_gd (by omega) ?_
        refine ih M (x8 + 1) m (by omega) (by omega) (by omega) f (fun a b a0 a1 b0 b1 => ?_) hk
        have e := ad a b a0 a1 b0 b1
        by_cases c : a < x6 ∨ (a = x6 ∧ b < x8)
        · have c' : a < x6 ∨ (a = x6 ∧ b < x8 + 1) := by omega
          rw [if_pos c, if_pos c, if_pos c] at e
          rw [if_pos c', if_pos c', if_pos c']
          exact e
        · rw [if_neg c, if_neg c, if_neg c] at e
          by_cases c' : a < x6 ∨ (a = x6 ∧ b < x8 + 1)
          · have ea : a = x6 ∧ b = x8 := by omega
            rw [if_pos c', if_pos c', if_pos c', ea.1, ea.2]
            unfold shD shT shL
            rw [if_neg n, if_neg n, if_neg n]
            rw [ea.1, ea.2] at e
            exact e
          · rw [if_neg c', if_neg c', if_neg c']
            exact e
      by_cases c2 : H.1 7 (g * 16 + x8) = -1
      · refine ok_pos (by omega) ?_
        exact keep (fun q => q.1.2 c2)
      · refine ok_neg (by omega) ?_
        have B1 := b1.resolve_left c1
        have B2 := b2.resolve_left c2
        have hcand : eB (H.1 7 (x6 * 16 + x) + mi + H.1 7 (g * 16 + x8)) (H.1 8 (x6 * 16 + x) + t + H.1 8 (g * 16 + x8)) (H.1 9 (x6 * 16 + x) + l + H.1 9 (g * 16 + x8)) := by
          unfold eB
          dsimp only [kD, kT, kL] at B1 B2
          omega
        have hcb := hcand
        unfold eB at hcb
        dsimp only [kD, kT, kL] at B1 B2 b3
        rw [ax7, ax8, ax9, ag7, ag8, ag9]
        refine ok_gd (by omega) ?_
        refine ok_gd (by omega) ?_
        refine ok_gd (by omega) ?_
        refine ok_gd (by omega) ?_
        refine ok_gd (by omega) ?_
        refine ok_gd (by omega) ?_
        refine ok_gd (by omega) ?_
        refine ok_gd (by omega) ?_
        refine ok_gd (by omega) ?_
        refine ok_gd (by omega) ?_
        refine ok_gd (by omega) ?_
        refine ok_gd (by omega) ?_
        refine ok_gd (by omega) ?_
        refine ok_gd (by omega) ?_
        refine ok_be (sX9_shorten (m := m) (by omega) hcand (by rw [o7, o8, o9]; unfold eB; omega)) ?_
        rw [o7, o8, o9]
        by_cases c3 : H.1 7 (x6 * 16 + x8) = -1 ∨ enc (H.1 7 (x6 * 16 + x) + mi + H.1 7 (g * 16 + x8)) (H.1 8 (x6 * 16 + x) + t + H.1 8 (g * 16 + x8)) (H.1 9 (x6 * 16 + x) + l + H.1 9 (g * 16 + x8)) < enc (H.1 7 (x6 * 16 + x8)) (H.1 8 (x6 * 16 + x8)) (H.1 9 (x6 * 16 + x8))
        · rw [if_pos c3]
          have hC : shC (kD H.1) (kT H.1) (kL H.1) x g mi t l x6 x8 := ⟨⟨c1, c2⟩, c3⟩
          refine ok_gd (by omega) ?_
          refine ih M (x8 + 1) _ (by omega) (by omega) (by omega) (fr_I (fr_I (fr_I f (by dsimp only [sW9]; omega)) (by dsimp only [sW9]; omega)) (by dsimp only [sW9]; omega)) (fun a b a0 a1 b0 b1 => ?_) hk
          have e := ad a b a0 a1 b0 b1
          simp (disch := decide) only [rI_s, rI_n, rI_2, rC_s, rC_n, rC_2, rJ_1, rJ_s, rJ_n, updI_at, if_pos, if_neg]
          by_cases ea : a = x6 ∧ b = x8
          · have c' : a < x6 ∨ (a = x6 ∧ b < x8 + 1) := by omega
            have ei : a * 16 + b = x6 * 16 + x8 := by omega
            rw [if_pos c', if_pos c', if_pos c', if_pos ei, if_pos ei, if_pos ei, ea.1, ea.2]
            unfold shD shT shL
            rw [if_pos hC, if_pos hC, if_pos hC]
            exact ⟨rfl, rfl, rfl⟩
          · have ei : ¬ a * 16 + b = x6 * 16 + x8 := by omega
            rw [if_neg ei, if_neg ei, if_neg ei]
            by_cases c : a < x6 ∨ (a = x6 ∧ b < x8)
            · have c' : a < x6 ∨ (a = x6 ∧ b < x8 + 1) := by omega
              rw [if_pos c, if_pos c, if_pos c] at e
              rw [if_pos c', if_pos c', if_pos c']
              exact e
            · have c' : ¬ (a < x6 ∨ (a = x6 ∧ b < x8 + 1)) := by omega
              rw [if_neg c, if_neg c, if_neg c] at e
              rw [if_neg c', if_neg c', if_neg c']
              exact e
        · rw [if_neg c3]
          exact keep (fun q => c3 q.2)
abbrev sAd : Nat → Int → Prop := fun c i => (4 ≤ c ∧ c ≤ 9) ∨ (c = 3 ∧ i = 3)
theorem c_add (hB : TB (kD h.1) (kT h.1) (kL h.1)) {x g mi t l : Int} (hx : (0 ≤ x ∧ x ≤ 15) ∧ (0 ≤ g ∧ g ≤ 15)) (hm : (1 ≤ mi ∧ mi ≤ 120) ∧ (1 ≤ t ∧ t ≤ 50000) ∧ (0 ≤ l ∧ l ≤ 9999)) (hn : 0 ≤ h.1 3 3 ∧ h.1 3 3 < 60) : Ok (nX9_add x g mi t l h) (fun q => (Fr sAd h q ∧ q.1 3 3 = h.1 3 3 + 1) ∧ (q.1 4 = updI (h.1 4) (h.1 3 3) x ∧ q.1 5 = updI (h.1 5) (h.1 3 3) g ∧ q.1 6 = updI (h.1 6) (h.1 3 3) mi) ∧ ∀ a b, 0 ≤ a → a ≤ 15 → 0 ≤ b → b ≤ 15 → q.1 7 (a * 16 + b) = shD (kD h.1) (kT h.1) (kL h.1) x g mi t l a b ∧ q.1 8 (a * 16 + b) = shT (kD h.1) (kT h.1) (kL h.1) x g mi t l a b ∧ q.1 9 (a * 16 + b) = shL (kD h.1) (kT h.1) (kL h.1) x g mi t l a b) := by
  simp only [nX9_add, bX9_add]
  repeat (first | with_reducible refine ok_gd (by first | omega | decide) ?_ | with_reducible refine ok_bs ?_ | with_reducible refine ok_be (sX12_refuse _ _) ?_ | with_reducible refine ok_be (sX12_told _ _) ?_ | with_reducible refine ok_ndt (sX11_needIndex _ _ _ _) (by omega) ?_ | with_reducible refine ok_ndf (sX11_needIndex _ _ _ _) (by omega) ?_ | with_reducible refine ok_ndt (sX11_needRange _ _ _ _) (by omega) ?_ | with_reducible refine ok_ndf (sX11_needRange _ _ _ _) (by omega) ?_ | with_reducible refine ok_ndt (sX11_needThat2 _ _) (by omega) ?_ | with_reducible refine ok_ndf (sX11_needThat2 _ _) (by omega) ?_ | with_reducible refine ok_ndt (sX11_needState2 _ _) (by omega) ?_ | with_reducible refine ok_ndf (sX11_needState2 _ _) (by omega) ?_ | with_reducible refine ok_ndt (sX11_needElement _ _) (by omega) ?_ | with_reducible refine ok_ndf (sX11_needElement _ _) (by omega) ?_ | with_reducible refine ok_ndt (sX11_needPlace _ _) (by omega) ?_ | with_reducible refine ok_ndf (sX11_needPlace _ _) (by omega) ?_ | with_reducible refine ok_ndt (sX11_needSender _ _) (by omega) ?_ | with_reducible refine ok_ndf (sX11_needSender _ _) (by omega) ?_ | with_reducible refine ok_b2t (sX12_in _ _ _ _) (by omega) ?_ | with_reducible refine ok_b2f (sX12_in _ _ _ _) (by omega) ?_ | with_reducible refine ok_b2t (sX12_isPlace _ _) (by omega) ?_ | with_reducible refine ok_b2f (sX12_isPlace _ _) (by omega) ?_ | with_reducible refine ok_pos (by omega) ?_ | with_reducible refine ok_neg (by omega) ?_ | with_reducible refine ok_tl ?_ | with_reducible refine ok_tr ?_ | simp (disch := decide) only [rI_s, rI_n, rI_2, rC_s, rC_n, rC_2, rJ_1, rJ_s, rJ_n, updI_at, if_pos, if_neg] | dsimp only)
  obtain ⟨H, hH⟩ : ∃ H, H = hI (hI (hI (hI h 4 (h.1 3 3) x) 5 (h.1 3 3) g) 6 (h.1 3 3) mi) 3 3 (h.1 3 3 + 1) := ⟨_, rfl⟩
  rw [← hH]
  have fH : Fr sAd h H := by
    rw [hH]
    exact fr_I (fr_I (fr_I (fr_I fr_r (by dsimp only [sAd]; omega)) (by dsimp only [sAd]; omega)) (by dsimp only [sAd]; omega)) (by dsimp only [sAd]; omega)
  have e7 : H.1 7 = h.1 7 ∧ H.1 8 = h.1 8 ∧ H.1 9 = h.1 9 := by rw [hH]; simp (disch := decide) only [rI_s, rI_n, rI_2, rC_s, rC_n, rC_2, rJ_1, rJ_s, rJ_n, updI_at, if_pos, if_neg]; exact ⟨trivial, trivial, trivial⟩
  have e3 : H.1 3 3 = h.1 3 3 + 1 ∧ H.1 4 = updI (h.1 4) (h.1 3 3) x ∧ H.1 5 = updI (h.1 5) (h.1 3 3) g ∧ H.1 6 = updI (h.1 6) (h.1 3 3) mi := by
    rw [hH]
    refine ⟨by rw [rI_s, updI_s], by rw [rI_n (by decide), rI_n (by decide), rI_n (by decide), rI_s], by rw [rI_n (by decide), rI_n (by decide), rI_s, rI_n (by decide)], by rw [rI_n (by decide), rI_s, rI_n (by decide), rI_n (by decide)]⟩
  have eK : kD H.1 = kD h.1 ∧ kT H.1 = kT h.1 ∧ kL H.1 = kL h.1 := by
    unfold kD kT kL
    rw [e7.1, e7.2.1, e7.2.2]
    exact ⟨rfl, rfl, rfl⟩
  have hB' : TB (kD H.1) (kT H.1) (kL H.1) := by rw [eK.1, eK.2.1, eK.2.2]; exact hB
  have key : ∀ (r N : Nat) (x6 : Int) (m : HH), r < N → x6 + r = 16 → 0 ≤ x6 → Fr sW9 H m → adT H.1 x g mi t l x6 0 m.1 → Ok (nX9_add_43 N x g mi t l x6 m) (fun q => Fr sW9 H q ∧ adT H.1 x g mi t l 16 0 q.1) := by
    intro r
    induction r with
    | zero =>
      intro N x6 m hN h6 h0 f ad
      obtain ⟨M, rfl⟩ := fuel_s hN
      rw [nX9_add_43_s]
      simp only [bX9_add_43]
      refine ok_neg (by omega) ?_
      rw [show x6 = 16 by omega] at ad
      exact ok_some ⟨f, ad⟩
    | succ r ih =>
      intro N x6 m hN h6 h0 f ad
      obtain ⟨M, rfl⟩ := fuel_s hN
      rw [nX9_add_43_s]
      simp only [bX9_add_43]
      refine ok_pos (by omega) ?_
      refine ok_gd (by omega) ?_
      refine ok_gd (by omega) ?_
      exact c_add62 hB' hx hm (by omega) 16 100000 0 m (by omega) (by omega) (by omega) f ad (fun m' f' ad' => ih M (x6 + 1) m' (by omega) (by omega) (by omega) f' ad')
  refine ok_mono (key 16 100000 0 H (by omega) (by omega) (by omega) fr_r (fun a b a0 a1 b0 b1 => ?_)) (fun q hq => ?_)
  · have c : ¬ (a < 0 ∨ (a = 0 ∧ b < 0)) := by omega
    rw [if_neg c, if_neg c, if_neg c]
    exact ⟨rfl, rfl, rfl⟩
  · obtain ⟨f, ad⟩ := hq
    have eq : ∀ c, ¬ (7 ≤ c ∧ c ≤ 9) → q.1 c = H.1 c := fun c hc => fr_c f c (fun i s => hc s)
    refine ⟨⟨fr_t fH (fr_m (fun c i s => by dsimp only [sW9, sAd] at s ⊢; omega) f), by rw [eq 3 (by omega)]; exact e3.1⟩, ⟨by rw [eq 4 (by omega)]; exact e3.2.1, by rw [eq 5 (by omega)]; exact e3.2.2.1, by rw [eq 6 (by omega)]; exact e3.2.2.2⟩, fun a b a0 a1 b0 b1 => ?_⟩
    have z := ad a b a0 a1 b0 b1
    have c : a < 16 ∨ (a = 16 ∧ b < 0) := by omega
    rw [if_pos c, if_pos c, if_pos c, eK.1, eK.2.1, eK.2.2] at z
    exact z
end ADD
