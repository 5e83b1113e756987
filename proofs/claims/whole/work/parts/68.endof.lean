/-! ARRIVAL: the earliest end of a street -/
section ENDOF
variable {h h' m : HH} {sg : Int} {fac : Int → Int}
def tmE (sg : Int) (fac : Int → Int) (t : Int) : Int := (sg * fac (t / 60 % 24) + 99) / 100
def ftE (sg : Int) (fac : Int → Int) (t : Int) : Int := t + tmE sg fac t
def mnE (sg : Int) (fac : Int → Int) : Nat → Int → Int
  | 0, t => ftE sg fac t
  | k + 1, t => min (ftE sg fac t) (mnE sg fac k (t + 1))
/-- the earliest end -/
def eoE (sg : Int) (fac : Int → Int) (x : Int) : Int := mnE sg fac 360 x
def fcB (fac : Int → Int) : Prop := ∀ i, 0 ≤ i → i ≤ 23 → 50 ≤ fac i ∧ fac i ≤ 300
theorem tmE_b (hs : 1 ≤ sg ∧ sg ≤ 120) (hf : fcB fac) {t : Int} (t0 : 0 ≤ t) : 1 ≤ tmE sg fac t ∧ tmE sg fac t ≤ 360 := by
  have hb := hf (t / 60 % 24) (by omega) (by omega)
  have h1 := mul_b (A := 120) (B := 300) (a := sg) (b := fac (t / 60 % 24)) (by omega) (by omega)
  have h2 : 1 * fac (t / 60 % 24) ≤ sg * fac (t / 60 % 24) := Int.mul_le_mul_of_nonneg_right hs.1 (by omega)
  unfold tmE
  omega
theorem tmE_h {t t' : Int} (e : t / 60 = t' / 60) : tmE sg fac t = tmE sg fac t' := by unfold tmE; rw [e]
def isE (sg : Int) (fac : Int → Int) (x e : Int) : Prop := (∃ t, x ≤ t ∧ e = ftE sg fac t) ∧ ∀ t, x ≤ t → e ≤ ftE sg fac t
theorem isE_u {x e e' : Int} (h1 : isE sg fac x e) (h2 : isE sg fac x e') : e = e' := by
  obtain ⟨⟨t, a1, a2⟩, a3⟩ := h1
  obtain ⟨⟨t', b1, b2⟩, b3⟩ := h2
  have := a3 t' b1
  have := b3 t a1
  omega
theorem mnE_c : ∀ (k : Nat) (x : Int), (∃ t, x ≤ t ∧ mnE sg fac k x = ftE sg fac t) ∧ ∀ t, x ≤ t → t ≤ x + k → mnE sg fac k x ≤ ftE sg fac t
  | 0, x => ⟨⟨x, Int.le_refl _, rfl⟩, fun t h1 h2 => by
    rw [show t = x by omega]
    exact Int.le_refl _⟩
  | k + 1, x => by
    obtain ⟨⟨t, h1, h2⟩, h3⟩ := mnE_c k (x + 1)
    rw [mnE]
    refine ⟨?_, fun t' k1 k2 => ?_⟩
    · by_cases c : ftE sg fac x ≤ mnE sg fac k (x + 1)
      · exact ⟨x, Int.le_refl _, by omega⟩
      · exact ⟨t, by omega, by omega⟩
    · by_cases c : t' = x
      · rw [c]; omega
      · have := h3 t' (by omega) (by omega)
        omega
theorem eoE_is (hs : 1 ≤ sg ∧ sg ≤ 120) (hf : fcB fac) {x : Int} (x0 : 0 ≤ x) : isE sg fac x (eoE sg fac x) := by
  obtain ⟨h1, h2⟩ := mnE_c (sg := sg) (fac := fac) 360 x
  refine ⟨h1, fun t ht => ?_⟩
  by_cases c : t ≤ x + 360
  · exact h2 t ht c
  · have a1 := h2 x (Int.le_refl _) (by omega)
    have a2 := tmE_b hs hf x0
    have a3 := tmE_b hs hf (show 0 ≤ t by omega)
    unfold eoE
    unfold ftE at a1 ⊢
    omega
theorem eoE_b (hs : 1 ≤ sg ∧ sg ≤ 120) (hf : fcB fac) {x : Int} (x0 : 0 ≤ x) : x < eoE sg fac x ∧ eoE sg fac x ≤ x + 360 := by
  obtain ⟨⟨t, h1, h2⟩, h3⟩ := eoE_is hs hf x0
  have a1 := h3 x (Int.le_refl _)
  have a2 := tmE_b hs hf x0
  have a3 := tmE_b hs hf (show 0 ≤ t by omega)
  unfold ftE at a1 h2
  omega
theorem eoE_m (hs : 1 ≤ sg ∧ sg ≤ 120) (hf : fcB fac) {x y : Int} (x0 : 0 ≤ x) (xy : x ≤ y) : eoE sg fac x ≤ eoE sg fac y := by
  obtain ⟨⟨t, h1, h2⟩, _⟩ := eoE_is hs hf (show 0 ≤ y by omega)
  rw [h2]
  exact (eoE_is hs hf x0).2 t (by omega)
theorem sX9_timeIn {s x : Int} (h0 : 0 ≤ s ∧ s < 60) (hs : 1 ≤ h.1 6 s ∧ h.1 6 s ≤ 120) (hf : fcB (h.1 10)) (x0 : 0 ≤ x) : nX9_timeIn h s x = some (tmE (h.1 6 s) (h.1 10) x) := by
  have hb := hf (x / 60 % 24) (by omega) (by omega)
  have h1 := mul_b (A := 120) (B := 300) (a := h.1 6 s) (b := h.1 10 (x / 60 % 24)) (by omega) (by omega)
  unfold nX9_timeIn bX9_timeIn
  rw [gd_t (by omega), gd_t (by omega), gd_t (by omega), gd_t (by omega), gd_t (by omega), gd_t (by omega), gd_t (by omega)]
  rfl
theorem sX9_endOf {s x : Int} (h0 : 0 ≤ s ∧ s < 60) (hs : 1 ≤ h.1 6 s ∧ h.1 6 s ≤ 120) (hf : fcB (h.1 10)) (x0 : 0 ≤ x ∧ x ≤ 100000) : nX9_endOf h s x = some (eoE (h.1 6 s) (h.1 10) x) := by
  have hx := tmE_b hs hf x0.1
  have key : ∀ (r N : Nat) (e L : Int), r < N → x + 361 ≤ L + 60 * r → L % 60 = 0 → x < L → L ≤ x + 1000 → (∃ t, x ≤ t ∧ e = ftE (h.1 6 s) (h.1 10) t) → e ≤ x + 360 → (∀ t, x ≤ t → t < L → e ≤ ftE (h.1 6 s) (h.1 10) t) → nX9_endOf_20 h N s e L = some (eoE (h.1 6 s) (h.1 10) x) := by
    intro r
    induction r with
    | zero =>
      intro N e L hN h1 h2 h3 h4 h5 h6 h7
      obtain ⟨M, rfl⟩ := fuel_s hN
      rw [nX9_endOf_20_s]
      unfold bX9_endOf_20
      rw [if_neg (by omega)]
      refine congrArg some (isE_u ⟨h5, fun t ht => ?_⟩ (eoE_is hs hf x0.1))
      by_cases c : t < L
      · exact h7 t ht c
      · have := tmE_b hs hf (show 0 ≤ t by omega)
        unfold ftE
        omega
    | succ r ih =>
      intro N e L hN h1 h2 h3 h4 h5 h6 h7
      obtain ⟨M, rfl⟩ := fuel_s hN
      rw [nX9_endOf_20_s]
      unfold bX9_endOf_20
      by_cases c : L < e
      · have hL := tmE_b hs hf (show 0 ≤ L by omega)
        rw [if_pos c, sX9_timeIn h0 hs hf (by omega), bnd_some, gd_t (by omega), gd_t (by omega)]
        refine ih M _ _ (by omega) (by omega) (by omega) (by omega) (by omega) ?_ (by omega) (fun t t1 t2 => ?_)
        · by_cases q : e ≤ L + tmE (h.1 6 s) (h.1 10) L
          · rw [Int.min_eq_left q]; exact h5
          · rw [Int.min_eq_right (by omega)]; exact ⟨L, by omega, rfl⟩
        · by_cases q : t < L
          · have := h7 t t1 q; omega
          · have e1 : tmE (h.1 6 s) (h.1 10) t = tmE (h.1 6 s) (h.1 10) L := tmE_h (by omega)
            unfold ftE
            rw [e1]
            omega
      · rw [if_neg c]
        refine congrArg some (isE_u ⟨h5, fun t ht => ?_⟩ (eoE_is hs hf x0.1))
        by_cases c : t < L
        · exact h7 t ht c
        · have := tmE_b hs hf (show 0 ≤ t by omega)
          unfold ftE
          omega
  unfold nX9_endOf bX9_endOf
  rw [sX9_timeIn h0 hs hf x0.1, bnd_some, gd_t (by omega), gd_t (by omega), gd_t (by omega), gd_t (by omega)]
  refine key 7 100000 _ _ (by omega) (by omega) (by omega) (by omega) (by omega) ⟨x, Int.le_refl _, rfl⟩ (by omega) (fun t t1 t2 => ?_)
  have e1 : tmE (h.1 6 s) (h.1 10) t = tmE (h.1 6 s) (h.1 10) x := tmE_h (by omega)
  unfold ftE
  rw [e1]
  omega
theorem sX12_endOf {s x : Int} (h0 : 0 ≤ s ∧ s < 60) (hs : 1 ≤ m.1 74 s ∧ m.1 74 s ≤ 120) (hf : fcB (m.1 77)) (x0 : 0 ≤ x ∧ x ≤ 100000) : nX12_endOf m s x = some (eoE (m.1 74 s) (m.1 77) x) := by
  have step : ∀ (N : Nat) (e t : Int), x ≤ t → t ≤ x + 1000 → t < e → e ≤ 1000000000 → nX12_endOf_6 m (N + 1) s e t = nX12_endOf_6 m N s (min e (ftE (m.1 74 s) (m.1 77) t)) (t + 1) := fun N e t h1 h2 h3 h4 => by
    have hb := hf (t / 60 % 24) (by omega) (by omega)
    have hm := mul_b (A := 120) (B := 300) (a := m.1 74 s) (b := m.1 77 (t / 60 % 24)) (by omega) (by omega)
    rw [nX12_endOf_6_s]
    unfold bX12_endOf_6
    rw [if_pos h3, gd_t (by omega), gd_t (by omega), gd_t (by omega), gd_t (by omega), gd_t (by omega), gd_t (by omega), gd_t (by omega), gd_t (by omega), sX12_less, bnd_some, gd_t (by omega)]
    rfl
  have key : ∀ (r N : Nat) (e t : Int), r < N → t + r = x + 361 → x < t → (∃ t', x ≤ t' ∧ e = ftE (m.1 74 s) (m.1 77) t') → e ≤ x + 360 → (∀ t', x ≤ t' → t' < t → e ≤ ftE (m.1 74 s) (m.1 77) t') → nX12_endOf_6 m N s e t = some (eoE (m.1 74 s) (m.1 77) x) := by
    intro r
    induction r with
    | zero =>
      intro N e t hN h1 h3 h5 h6 h7
      obtain ⟨M, rfl⟩ := fuel_s hN
      rw [nX12_endOf_6_s]
      unfold bX12_endOf_6
      rw [if_neg (by omega)]
      refine congrArg some (isE_u ⟨h5, fun t' ht => ?_⟩ (eoE_is hs hf x0.1))
      by_cases c : t' < t
      · exact h7 t' ht c
      · have := tmE_b hs hf (show 0 ≤ t' by omega)
        unfold ftE
        omega
    | succ r ih =>
      intro N e t hN h1 h3 h5 h6 h7
      obtain ⟨M, rfl⟩ := fuel_s hN
      by_cases c : t < e
      · rw [step M e t (by omega) (by omega) c (by omega)]
        refine ih M _ _ (by omega) (by omega) (by omega) ?_ (by omega) (fun t' t1 t2 => ?_)
        · by_cases q : e ≤ ftE (m.1 74 s) (m.1 77) t
          · rw [Int.min_eq_left q]; exact h5
          · rw [Int.min_eq_right (by omega)]; exact ⟨t, by omega, rfl⟩
        · by_cases q : t' < t
          · have := h7 t' t1 q; omega
          · rw [show t' = t by omega]; omega
      · rw [nX12_endOf_6_s]
        unfold bX12_endOf_6
        rw [if_neg c]
        refine congrArg some (isE_u ⟨h5, fun t' ht => ?_⟩ (eoE_is hs hf x0.1))
        by_cases c : t' < t
        · exact h7 t' ht c
        · have := tmE_b hs hf (show 0 ≤ t' by omega)
          unfold ftE
          omega
  have hx := tmE_b hs hf x0.1
  have e0 : min 1000000000 (ftE (m.1 74 s) (m.1 77) x) = ftE (m.1 74 s) (m.1 77) x := by unfold ftE; omega
  unfold nX12_endOf bX12_endOf
  rw [show (100000 : Nat) = 99999 + 1 from rfl, step 99999 1000000000 x (by omega) (by omega) (by omega) (by omega), e0]
  exact key 360 99999 _ (x + 1) (by omega) (by omega) (by omega) ⟨x, Int.le_refl _, rfl⟩ (by unfold ftE; omega) (fun t' t1 t2 => by rw [show t' = x by omega]; exact Int.le_refl _)
end ENDOF
