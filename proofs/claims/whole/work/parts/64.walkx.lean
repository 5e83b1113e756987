/-! WAYS: one street more -/
section WALKX
theorem chn_cg {u v u1 v1 : Int → Int} : ∀ {l : List Int} {a b : Int}, (∀ s ∈ l, u1 s = u s ∧ v1 s = v s) → chn u v a l b → chn u1 v1 a l b
  | [], _, _, _, h => h
  | s :: l, a, b, e, h => by
    have es := e s List.mem_cons_self
    refine ⟨by rw [es.1]; exact h.1, ?_⟩
    rw [es.2]
    exact chn_cg (fun x hx => e x (List.mem_cons_of_mem _ hx)) h.2
theorem wlk_cg {u v u1 v1 : Int → Int} {n : Int} (e : ∀ s, 0 ≤ s → s < n → u1 s = u s ∧ v1 s = v s) {l : List Int} {a b : Int} (h : wlk u v n a l b) : wlk u1 v1 n a l b := ⟨chn_cg (fun s hs => e s (h.2 s hs).1 (h.2 s hs).2) h.1, h.2⟩
theorem enc_add {m1 t1 l1 m2 t2 l2 : Int} : enc (m1 + m2) (t1 + t2) (l1 + l2) = enc m1 t1 l1 + enc m2 t2 l2 := by unfold enc; omega
/-- meters and tolls by minutes -/
def eB (m t l : Int) : Prop := (0 ≤ m ∧ m ≤ 5000) ∧ (0 ≤ t ∧ t ≤ 50000 * m) ∧ (0 ≤ l ∧ l ≤ 9999 * m)
theorem enc_inj {m1 t1 l1 m2 t2 l2 : Int} (h1 : eB m1 t1 l1) (h2 : eB m2 t2 l2) (e : enc m1 t1 l1 = enc m2 t2 l2) : m1 = m2 ∧ t1 = t2 ∧ l1 = l2 := by
  unfold eB at h1 h2
  unfold enc at e
  have c1 : ¬ m1 < m2 := fun q => by omega
  have c2 : ¬ m2 < m1 := fun q => by omega
  have e1 : m1 = m2 := by omega
  subst e1
  have c3 : ¬ t1 < t2 := fun q => by omega
  have c4 : ¬ t2 < t1 := fun q => by omega
  omega
theorem enc_lt {m1 t1 l1 m2 t2 l2 : Int} (h1 : eB m1 t1 l1) (h2 : eB m2 t2 l2) : enc m1 t1 l1 < enc m2 t2 l2 ↔ (m1 < m2 ∨ (m1 = m2 ∧ (t1 < t2 ∨ (t1 = t2 ∧ l1 < l2)))) := by
  unfold eB at h1 h2
  unfold enc
  by_cases c1 : m1 < m2
  · exact ⟨fun _ => Or.inl c1, fun _ => by omega⟩
  · by_cases c2 : m2 < m1
    · exact ⟨fun q => by omega, fun q => by omega⟩
    · have e : m1 = m2 := by omega
      subst e
      by_cases c3 : t1 < t2
      · exact ⟨fun _ => Or.inr ⟨rfl, Or.inl c3⟩, fun _ => by omega⟩
      · by_cases c4 : t2 < t1
        · exact ⟨fun q => by omega, fun q => by omega⟩
        · have e : t1 = t2 := by omega
          subst e
          exact ⟨fun q => Or.inr ⟨rfl, Or.inr ⟨rfl, by omega⟩⟩, fun q => by omega⟩
/-- the streets' bounds -/
def SB (M : Nat → Int → Int) (n : Int) : Prop := ∀ s, 0 ≤ s → s < n → ((0 ≤ M 72 s ∧ M 72 s ≤ 15) ∧ (0 ≤ M 73 s ∧ M 73 s ≤ 15)) ∧ ((1 ≤ M 74 s ∧ M 74 s ≤ 120) ∧ (1 ≤ M 75 s ∧ M 75 s ≤ 50000) ∧ (0 ≤ M 76 s ∧ M 76 s ≤ 9999))
theorem SB_w {M : Nat → Int → Int} {n : Int} (h : SB M n) : ∀ s, 0 ≤ s → s < n → 0 ≤ wE M s := fun s h0 h1 => by
  have := (h s h0 h1).2
  show 0 ≤ enc (M 74 s) (M 75 s) (M 76 s)
  unfold enc
  omega
theorem SB_e {M : Nat → Int → Int} {n : Int} (h : SB M n) : ENDS (M 72) (M 73) n := fun s h0 h1 => by
  have := (h s h0 h1).1
  omega
theorem wlk_enc {M : Nat → Int → Int} {n : Int} (h : SB M n) : ∀ {es : List Int} {a b : Int}, wlk (M 72) (M 73) n a es b → ∃ m t l, wvl (fw (wE M)) 0 es = enc m t l ∧ ((es.length : Int) ≤ m ∧ m ≤ 120 * es.length) ∧ (0 ≤ t ∧ t ≤ 50000 * m) ∧ (0 ≤ l ∧ l ≤ 9999 * m)
  | [], _, _, _ => ⟨0, 0, 0, rfl, by simp, by omega, by omega⟩
  | s :: es, a, b, w => by
    obtain ⟨⟨w1, w2, w3⟩, w4⟩ := wlk_cons.mp w
    obtain ⟨m, t, l, e, h1, h2, h3⟩ := wlk_enc h w4
    have hs := (h s w2 w3).2
    refine ⟨M 74 s + m, M 75 s + t, M 76 s + l, ?_, ?_, by omega, by omega⟩
    · show wvl (fw (wE M)) (0 + wE M s) es = _
      rw [fw_t, e, enc_add]
      show 0 + enc (M 74 s) (M 75 s) (M 76 s) + _ = _
      omega
    · rw [List.length_cons]
      omega
/-- the least value is that of a short walk -/
theorem lst_b {M : Nat → Int → Int} {n a b x : Int} (h : SB M n) (a0 : 0 ≤ a) (a1 : a ≤ 15) (q : lst (M 72) (M 73) (fw (wE M)) n a 0 b x) : ∃ m t l, x = enc m t l ∧ (0 ≤ m ∧ m ≤ 1800) ∧ (0 ≤ t ∧ t ≤ 50000 * m) ∧ (0 ≤ l ∧ l ≤ 9999 * m) := by
  obtain ⟨⟨es, w, e⟩, hm⟩ := q
  obtain ⟨es', w', h15, hv⟩ := wlk_15 fw_mon (fw_inf (SB_w h)) (SB_e h) (Nat.le_refl _) w (Int.le_refl 0) a0 (by omega)
  have := hm es' w'
  obtain ⟨m, t, l, e', h1, h2, h3⟩ := wlk_enc h w'
  exact ⟨m, t, l, by omega, by omega, h2, h3⟩
/-- least ways, by three tables -/
def WY (D T L : Int → Int → Int) (M : Nat → Int → Int) (n : Int) : Prop := ∀ a b, 0 ≤ a → a ≤ 15 → 0 ≤ b → b ≤ 15 → (D a b = -1 ∧ ∀ es, ¬ wlk (M 72) (M 73) n a es b) ∨ (D a b ≠ -1 ∧ lst (M 72) (M 73) (fw (wE M)) n a 0 b (enc (D a b) (T a b) (L a b)))
def TB (D T L : Int → Int → Int) : Prop := ∀ a b, 0 ≤ a → a ≤ 15 → 0 ≤ b → b ≤ 15 → D a b = -1 ∨ ((0 ≤ D a b ∧ D a b ≤ 1800) ∧ (0 ≤ T a b ∧ T a b ≤ 50000 * D a b) ∧ (0 ≤ L a b ∧ L a b ≤ 9999 * D a b))
/-- whether the new street makes a way shorter -/
abbrev shC (D T L : Int → Int → Int) (x g m t l : Int) (a b : Int) : Prop := (D a x ≠ -1 ∧ D g b ≠ -1) ∧ (D a b = -1 ∨ enc (D a x + m + D g b) (T a x + t + T g b) (L a x + l + L g b) < enc (D a b) (T a b) (L a b))
def shD (D T L : Int → Int → Int) (x g m t l : Int) (a b : Int) : Int := if shC D T L x g m t l a b then D a x + m + D g b else D a b
def shT (D T L : Int → Int → Int) (x g m t l : Int) (a b : Int) : Int := if shC D T L x g m t l a b then T a x + t + T g b else T a b
def shL (D T L : Int → Int → Int) (x g m t l : Int) (a b : Int) : Int := if shC D T L x g m t l a b then L a x + l + L g b else L a b
theorem wy_add {D T L : Int → Int → Int} {M M1 : Nat → Int → Int} {n x g m t l : Int} (n0 : 0 ≤ n) (hS : SB M n) (hY : WY D T L M n) (hB : TB D T L) (e : ∀ s, 0 ≤ s → s < n → (M1 72 s = M 72 s ∧ M1 73 s = M 73 s) ∧ (M1 74 s = M 74 s ∧ M1 75 s = M 75 s ∧ M1 76 s = M 76 s)) (en : (M1 72 n = x ∧ M1 73 n = g) ∧ (M1 74 n = m ∧ M1 75 n = t ∧ M1 76 n = l)) (hx : (0 ≤ x ∧ x ≤ 15) ∧ (0 ≤ g ∧ g ≤ 15)) (hm : (1 ≤ m ∧ m ≤ 120) ∧ (1 ≤ t ∧ t ≤ 50000) ∧ (0 ≤ l ∧ l ≤ 9999)) : SB M1 (n + 1) ∧ WY (shD D T L x g m t l) (shT D T L x g m t l) (shL D T L x g m t l) M1 (n + 1) := by
  have hS1 : SB M1 (n + 1) := fun s s0 s1 => by
    by_cases c : s = n
    · rw [c, en.1.1, en.1.2, en.2.1, en.2.2.1, en.2.2.2]; exact ⟨hx, hm⟩
    · have := e s s0 (by omega)
      rw [this.1.1, this.1.2, this.2.1, this.2.2.1, this.2.2.2]
      exact hS s s0 (by omega)
  have ew : ∀ s, 0 ≤ s → s < n → wE M1 s = wE M s := fun s s0 s1 => by
    have := e s s0 s1
    show enc _ _ _ = enc _ _ _
    rw [this.2.1, this.2.2.1, this.2.2.2]
  have ewn : wE M1 n = enc m t l := by
    show enc _ _ _ = _
    rw [en.2.1, en.2.2.1, en.2.2.2]
  have up : ∀ {es a b}, wlk (M 72) (M 73) n a es b → wlk (M1 72) (M1 73) n a es b ∧ wvl (fw (wE M1)) 0 es = wvl (fw (wE M)) 0 es := fun {es a b} w => ⟨wlk_cg (fun s s0 s1 => (e s s0 s1).1) w, wvl_cg (fun s hs z => by unfold fw; rw [ew s (w.2 s hs).1 (w.2 s hs).2])⟩
  have dn : ∀ {es a b}, wlk (M1 72) (M1 73) n a es b → wlk (M 72) (M 73) n a es b ∧ wvl (fw (wE M1)) 0 es = wvl (fw (wE M)) 0 es := fun {es a b} w => ⟨wlk_cg (fun s s0 s1 => ⟨(e s s0 s1).1.1.symm, (e s s0 s1).1.2.symm⟩) w, wvl_cg (fun s hs z => by unfold fw; rw [ew s (w.2 s hs).1 (w.2 s hs).2])⟩
  refine ⟨hS1, fun a b a0 a1 b0 b1 => ?_⟩
  have old : ∀ es, wlk (M1 72) (M1 73) n a es b → D a b ≠ -1 ∧ enc (D a b) (T a b) (L a b) ≤ wvl (fw (wE M1)) 0 es := fun es w => by
    obtain ⟨w1, w2⟩ := dn w
    rcases hY a b a0 a1 b0 b1 with q | q
    · exact absurd w1 (q.2 es)
    · rw [w2]; exact ⟨q.1, q.2.2 es w1⟩
  have new : ∀ l1 l2, wlk (M1 72) (M1 73) n a l1 x → wlk (M1 72) (M1 73) n g l2 b → (D a x ≠ -1 ∧ D g b ≠ -1) ∧ enc (D a x + m + D g b) (T a x + t + T g b) (L a x + l + L g b) ≤ wvl (fw (wE M1)) 0 l1 + enc m t l + wvl (fw (wE M1)) 0 l2 := fun l1 l2 w1 w2 => by
    obtain ⟨k1, k2⟩ := dn w1
    obtain ⟨k3, k4⟩ := dn w2
    rcases hY a x a0 a1 hx.1.1 hx.1.2 with q | q
    · exact absurd k1 (q.2 _)
    rcases hY g b hx.2.1 hx.2.2 b0 b1 with p | p
    · exact absurd k3 (p.2 _)
    refine ⟨⟨q.1, p.1⟩, ?_⟩
    have h1 := q.2.2 l1 k1
    have h2 := p.2.2 l2 k3
    rw [k2, k4, enc_add, enc_add]
    omega
  have low : ∀ es, wlk (M1 72) (M1 73) (n + 1) a es b → (D a b ≠ -1 ∧ enc (D a b) (T a b) (L a b) ≤ wvl (fw (wE M1)) 0 es) ∨ ((D a x ≠ -1 ∧ D g b ≠ -1) ∧ enc (D a x + m + D g b) (T a x + t + T g b) (L a x + l + L g b) ≤ wvl (fw (wE M1)) 0 es) := fun es w => by
    rcases wlk_new (w := wE M1) (SB_w hS1) w with k | ⟨l1, l2, k1, k2, k3⟩
    · exact Or.inl (old es k)
    · rw [en.1.1] at k1
      rw [en.1.2] at k2
      have := new l1 l2 k1 k2
      rw [ewn] at k3
      exact Or.inr ⟨this.1, by omega⟩
  by_cases c : shC D T L x g m t l a b
  · refine Or.inr ?_
    unfold shD shT shL
    rw [if_pos c, if_pos c, if_pos c]
    obtain ⟨⟨c1, c2⟩, c3⟩ := c
    rcases hY a x a0 a1 hx.1.1 hx.1.2 with q | ⟨_, ⟨l1, q1, q2⟩, _⟩
    · exact absurd q.1 c1
    rcases hY g b hx.2.1 hx.2.2 b0 b1 with q | ⟨_, ⟨l2, p1, p2⟩, _⟩
    · exact absurd q.1 c2
    have B1 := hB a x a0 a1 hx.1.1 hx.1.2
    have B2 := hB g b hx.2.1 hx.2.2 b0 b1
    refine ⟨by omega, ⟨l1 ++ n :: l2, ?_, ?_⟩, fun es w => ?_⟩
    · refine wlk_app.mpr ⟨x, wlk_le (up q1).1 (by omega), wlk_cons.mpr ⟨⟨en.1.1, n0, by omega⟩, ?_⟩⟩
      rw [en.1.2]
      exact wlk_le (up p1).1 (by omega)
    · rw [wvl_app, (up q1).2, q2]
      show wvl (fw (wE M1)) (enc (D a x) (T a x) (L a x) + wE M1 n) l2 = _
      rw [fw_t, (up p1).2, p2, ewn, enc_add, enc_add]
    · rcases low es w with k | k
      · rcases c3 with c3 | c3
        · exact absurd c3 k.1
        · omega
      · exact k.2
  · unfold shD shT shL
    rw [if_neg c, if_neg c, if_neg c]
    by_cases d : D a b = -1
    · refine Or.inl ⟨d, fun es w => ?_⟩
      rcases low es w with k | k
      · exact k.1 d
      · exact c ⟨k.1, Or.inl d⟩
    · refine Or.inr ⟨d, ?_⟩
      rcases hY a b a0 a1 b0 b1 with q | ⟨_, ⟨es, q1, q2⟩, q3⟩
      · exact absurd q.1 d
      refine ⟨⟨es, wlk_le (up q1).1 (by omega), by rw [(up q1).2]; exact q2⟩, fun es' w => ?_⟩
      rcases low es' w with k | k
      · exact k.2
      · by_cases z : enc (D a x + m + D g b) (T a x + t + T g b) (L a x + l + L g b) < enc (D a b) (T a b) (L a b)
        · exact absurd ⟨k.1, Or.inr z⟩ c
        · omega
theorem wy_tb {D T L : Int → Int → Int} {M : Nat → Int → Int} {n : Int} (hS : SB M n) (hY : WY D T L M n) (hB : ∀ a b, 0 ≤ a → a ≤ 15 → 0 ≤ b → b ≤ 15 → D a b = -1 ∨ eB (D a b) (T a b) (L a b)) : TB D T L := fun a b a0 a1 b0 b1 => by
  rcases hY a b a0 a1 b0 b1 with q | q
  · exact Or.inl q.1
  · refine Or.inr ?_
    rcases hB a b a0 a1 b0 b1 with z | z
    · exact absurd z q.1
    · obtain ⟨m, t, l, e, h1, h2, h3⟩ := lst_b hS a0 a1 q.2
      have := enc_inj z ⟨by omega, h2, h3⟩ e
      omega
/-- both tables hold the same -/
theorem wy_eq {D T L D1 T1 L1 : Int → Int → Int} {M : Nat → Int → Int} {n : Int} (hY : WY D T L M n) (hY1 : WY D1 T1 L1 M n) (hB : TB D T L) (hB1 : TB D1 T1 L1) {a b : Int} (a0 : 0 ≤ a) (a1 : a ≤ 15) (b0 : 0 ≤ b) (b1 : b ≤ 15) : D1 a b = D a b ∧ (D a b ≠ -1 → T1 a b = T a b ∧ L1 a b = L a b) := by
  rcases hY a b a0 a1 b0 b1 with q | ⟨q, q2⟩
  · rcases hY1 a b a0 a1 b0 b1 with p | ⟨p, ⟨es, p1, _⟩, _⟩
    · exact ⟨by rw [q.1, p.1], fun z => absurd q.1 z⟩
    · exact absurd p1 (q.2 es)
  · rcases hY1 a b a0 a1 b0 b1 with p | ⟨p, p2⟩
    · obtain ⟨⟨es, k, _⟩, _⟩ := q2
      exact absurd k (p.2 es)
    · have e := lst_u q2 p2
      have h1 := hB a b a0 a1 b0 b1
      have h2 := hB1 a b a0 a1 b0 b1
      have := enc_inj (m1 := D a b) (t1 := T a b) (l1 := L a b) (m2 := D1 a b) (t2 := T1 a b) (l2 := L1 a b) (by unfold eB; omega) (by unfold eB; omega) e
      omega
end WALKX
