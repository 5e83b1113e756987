/-! BALANCE -/
section BAL
variable {h h' : HH}
/-- the greatest and the least zone, and how far apart they are -/
def fz (L : Int → Int) : Int := if L (if L 0 < L 1 then 1 else 0) < L 2 then 2 else (if L 0 < L 1 then 1 else 0)
def bz (L : Int → Int) : Int := if L 0 < L (if L 1 < L 2 then 1 else 2) then 0 else (if L 1 < L 2 then 1 else 2)
def sp (L : Int → Int) : Int := max (L 0) (max (L 1) (L 2)) - min (L 0) (min (L 1) (L 2))
theorem fz_c (L : Int → Int) : (fz L = 0 ∨ fz L = 1 ∨ fz L = 2) ∧ L (fz L) = max (L 0) (max (L 1) (L 2)) := by
  unfold fz
  by_cases c1 : L 0 < L 1
  · rw [if_pos c1]
    by_cases c2 : L 1 < L 2
    · rw [if_pos c2]; omega
    · rw [if_neg c2]; omega
  · rw [if_neg c1]
    by_cases c2 : L 0 < L 2
    · rw [if_pos c2]; omega
    · rw [if_neg c2]; omega
theorem bz_c (L : Int → Int) : (bz L = 0 ∨ bz L = 1 ∨ bz L = 2) ∧ L (bz L) = min (L 0) (min (L 1) (L 2)) := by
  unfold bz
  by_cases c1 : L 1 < L 2
  · rw [if_pos c1]
    by_cases c2 : L 0 < L 1
    · rw [if_pos c2]; omega
    · rw [if_neg c2]; omega
  · rw [if_neg c1]
    by_cases c2 : L 0 < L 2
    · rw [if_pos c2]; omega
    · rw [if_neg c2]; omega
/-- whether a street leads from a place to one of a zone, or from there -/
def bsd (f t zn : Int → Int) (p z : Int) : Nat → Int
  | 0 => 0
  | n + 1 => if bsd f t zn p z n = 1 ∨ (f n = p ∧ t n ≠ 0 ∧ zn (t n) = z) ∨ (t n = p ∧ f n ≠ 0 ∧ zn (f n) = z) then 1 else 0
theorem bsd_01 {f t zn : Int → Int} {p z : Int} : ∀ n : Nat, bsd f t zn p z n = 0 ∨ bsd f t zn p z n = 1
  | 0 => Or.inl rfl
  | n + 1 => by rw [bsd]; split <;> omega
theorem bsd_1 {f t zn : Int → Int} {p z : Int} : ∀ {n : Nat}, bsd f t zn p z n = 1 ↔ ∃ s : Nat, s < n ∧ ((f s = p ∧ t s ≠ 0 ∧ zn (t s) = z) ∨ (t s = p ∧ f s ≠ 0 ∧ zn (f s) = z))
  | 0 => ⟨fun q => absurd q (by rw [bsd]; omega), fun ⟨s, hs, _⟩ => absurd hs (Nat.not_lt_zero _)⟩
  | n + 1 => by
    rw [bsd]
    constructor
    · intro q
      by_cases c : bsd f t zn p z n = 1 ∨ (f n = p ∧ t n ≠ 0 ∧ zn (t n) = z) ∨ (t n = p ∧ f n ≠ 0 ∧ zn (f n) = z)
      · rcases c with c | c
        · obtain ⟨s, hs, w⟩ := bsd_1.mp c
          exact ⟨s, by omega, w⟩
        · exact ⟨n, by omega, c⟩
      · rw [if_neg c] at q; omega
    · rintro ⟨s, hs, w⟩
      rw [if_pos]
      by_cases c : s = n
      · rw [c] at w; exact Or.inr w
      · exact Or.inl (bsd_1.mpr ⟨s, by omega, w⟩)
/-- the model -/
theorem eB92 (h : HH) (c5 : Int → Int → Int → Int → Option Int) (x1 x2 x4 : Int) : nX12_isBeside_92 h c5 x1 x2 x4 = gd (R32 (x4 + 1)) (c5 x1 x2 1 (x4 + 1)) := rfl
theorem eB96 (h : HH) (c5 : Int → Int → Int → Int → Option Int) (x1 x2 x4 : Int) : nX12_isBeside_96 h c5 x1 x2 x4 = gd (R32 (x4 + 1)) (c5 x1 x2 0 (x4 + 1)) := rfl
theorem eB55 {m : HH} {c5 : Int → Int → Int → Int → Option Int} {p z k : Int} (hk : 0 ≤ k ∧ k < 60) (ha : 0 ≤ m.1 72 k ∧ m.1 72 k ≤ 15) : nX12_isBeside_55 m c5 p z k = c5 p z (if m.1 73 k = p ∧ m.1 72 k ≠ 0 ∧ m.1 100 (m.1 72 k) = z then 1 else 0) (k + 1) := by
  unfold nX12_isBeside_55 bX12_isBeside_55
  rw [eB92, eB96, gd_t hk, gd_t hk, gd_t hk, gd_t (show R32 (k + 1) by omega), gd_t (show R32 (k + 1) by omega), gd_t (by omega)]
  by_cases q1 : m.1 73 k = p
  · by_cases q2 : m.1 72 k = 0
    · rw [if_pos q1, if_pos q2, if_neg (fun q => q.2.1 q2)]
    · by_cases q3 : m.1 100 (m.1 72 k) = z
      · rw [if_pos q1, if_neg q2, if_pos q3, if_pos ⟨q1, q2, q3⟩]
      · rw [if_pos q1, if_neg q2, if_neg q3, if_neg (fun q => q3 q.2.2)]
  · rw [if_neg q1, if_neg (fun q => q1 q.1)]
theorem eB5 {m : HH} {T M : Nat} {p z x k : Int} (hT : m.1 71 9 = T) (hk : 0 ≤ k ∧ k < 60) (hkT : k < T) (ha : (0 ≤ m.1 72 k ∧ m.1 72 k ≤ 15) ∧ (0 ≤ m.1 73 k ∧ m.1 73 k ≤ 15)) (hx : x = 0 ∨ x = 1) : nX12_isBeside_5 m (M + 1) p z x k = nX12_isBeside_5 m M p z (if x = 1 ∨ (m.1 72 k = p ∧ m.1 73 k ≠ 0 ∧ m.1 100 (m.1 73 k) = z) ∨ (m.1 73 k = p ∧ m.1 72 k ≠ 0 ∧ m.1 100 (m.1 72 k) = z) then 1 else 0) (k + 1) := by
  rw [nX12_isBeside_5_s]
  unfold bX12_isBeside_5
  rw [eB92, eB55 hk ha.1, if_pos (by omega), gd_t hk, gd_t hk, gd_t hk, gd_t (show R32 (k + 1) by omega), gd_t (by omega)]
  by_cases c0 : x = 1
  · rw [if_neg (by omega), if_pos (Or.inl c0)]
  · rw [if_pos (by omega)]
    by_cases q1 : m.1 72 k = p
    · by_cases q2 : m.1 73 k = 0
      · rw [if_pos q1, if_pos q2]
        by_cases c : m.1 73 k = p ∧ m.1 72 k ≠ 0 ∧ m.1 100 (m.1 72 k) = z
        · rw [if_pos c, if_pos (Or.inr (Or.inr c))]
        · rw [if_neg c, if_neg]
          rintro (q | q | q)
          · exact c0 q
          · exact q.2.1 q2
          · exact c q
      · by_cases q3 : m.1 100 (m.1 73 k) = z
        · rw [if_pos q1, if_neg q2, if_pos q3, if_pos (Or.inr (Or.inl ⟨q1, q2, q3⟩))]
        · rw [if_pos q1, if_neg q2, if_neg q3]
          by_cases c : m.1 73 k = p ∧ m.1 72 k ≠ 0 ∧ m.1 100 (m.1 72 k) = z
          · rw [if_pos c, if_pos (Or.inr (Or.inr c))]
          · rw [if_neg c, if_neg]
            rintro (q | q | q)
            · exact c0 q
            · exact q3 q.2.2
            · exact c q
    · rw [if_neg q1]
      by_cases c : m.1 73 k = p ∧ m.1 72 k ≠ 0 ∧ m.1 100 (m.1 72 k) = z
      · rw [if_pos c, if_pos (Or.inr (Or.inr c))]
      · rw [if_neg c, if_neg]
        rintro (q | q | q)
        · exact c0 q
        · exact q1 q.1
        · exact c q
theorem lX12_isBeside {m : HH} {T : Nat} (hT : m.1 71 9 = T) (h60 : T ≤ 60) (hs : ∀ s : Nat, s < T → (0 ≤ m.1 72 s ∧ m.1 72 s ≤ 15) ∧ (0 ≤ m.1 73 s ∧ m.1 73 s ≤ 15)) (p z : Int) : ∀ (r N k : Nat), r < N → k + r = T → nX12_isBeside_5 m N p z (bsd (m.1 72) (m.1 73) (m.1 100) p z k) k = some (bsd (m.1 72) (m.1 73) (m.1 100) p z T) := by
  intro r
  induction r with
  | zero =>
    intro N k hN hk
    obtain ⟨M, rfl⟩ := fuel_s hN
    have h01 := bsd_01 (f := m.1 72) (t := m.1 73) (zn := m.1 100) (p := p) (z := z) k
    rw [nX12_isBeside_5_s]
    unfold bX12_isBeside_5
    rw [if_neg (by omega), gd_t (by omega), show k = T by omega]
  | succ r ih =>
    intro N k hN hk
    obtain ⟨M, rfl⟩ := fuel_s hN
    have e := ih M (k + 1) (by omega) (by omega)
    rw [eB5 hT (by omega) (by omega) (hs k (by omega)) (bsd_01 k)]
    rw [bsd, Int.natCast_add] at e
    exact e
theorem sX12_isBeside {m : HH} {T : Nat} (hT : m.1 71 9 = T) (h60 : T ≤ 60) (hs : ∀ s : Nat, s < T → (0 ≤ m.1 72 s ∧ m.1 72 s ≤ 15) ∧ (0 ≤ m.1 73 s ∧ m.1 73 s ≤ 15)) (p z : Int) : nX12_isBeside m p z = some (bsd (m.1 72) (m.1 73) (m.1 100) p z T) := by
  unfold nX12_isBeside bX12_isBeside
  exact lX12_isBeside hT h60 hs p z T 100000 0 (by omega) (by omega)
/-- the class -/
theorem sX9_hasStreet {T : Nat} (hT : h.1 3 3 = T) (h60 : T ≤ 60) (a b : Int) : Ok (nX9_hasStreet h a b) (fun r => (r = 1 ∧ ∃ s : Nat, s < T ∧ ((h.1 4 s = a ∧ h.1 5 s = b) ∨ (h.1 4 s = b ∧ h.1 5 s = a))) ∨ (r = 0 ∧ ∀ s : Nat, s < T → ¬ ((h.1 4 s = a ∧ h.1 5 s = b) ∨ (h.1 4 s = b ∧ h.1 5 s = a)))) := by
  have key : ∀ (r N k : Nat), r < N → k + r = T → (∀ s : Nat, s < k → ¬ ((h.1 4 s = a ∧ h.1 5 s = b) ∨ (h.1 4 s = b ∧ h.1 5 s = a))) → Ok (nX9_hasStreet_2 h N a b k) (fun r => (r = 1 ∧ ∃ s : Nat, s < T ∧ ((h.1 4 s = a ∧ h.1 5 s = b) ∨ (h.1 4 s = b ∧ h.1 5 s = a))) ∨ (r = 0 ∧ ∀ s : Nat, s < T → ¬ ((h.1 4 s = a ∧ h.1 5 s = b) ∨ (h.1 4 s = b ∧ h.1 5 s = a)))) := by
    intro r
    induction r with
    | zero =>
      intro N k hN hk hq
      obtain ⟨M, rfl⟩ := fuel_s hN
      rw [nX9_hasStreet_2_s]
      simp only [bX9_hasStreet_2]
      repeat (first | with_reducible refine ok_gd (by first | omega | decide) ?_ | with_reducible refine ok_bs ?_ | with_reducible refine ok_be (sX12_refuse _ _) ?_ | with_reducible refine ok_be (sX12_told _ _) ?_ | with_reducible refine ok_ndt (sX11_needIndex _ _ _ _) (by omega) ?_ | with_reducible refine ok_ndf (sX11_needIndex _ _ _ _) (by omega) ?_ | with_reducible refine ok_ndt (sX11_needRange _ _ _ _) (by omega) ?_ | with_reducible refine ok_ndf (sX11_needRange _ _ _ _) (by omega) ?_ | with_reducible refine ok_ndt (sX11_needThat2 _ _) (by omega) ?_ | with_reducible refine ok_ndf (sX11_needThat2 _ _) (by omega) ?_ | with_reducible refine ok_ndt (sX11_needState2 _ _) (by omega) ?_ | with_reducible refine ok_ndf (sX11_needState2 _ _) (by omega) ?_ | with_reducible refine ok_ndt (sX11_needElement _ _) (by omega) ?_ | with_reducible refine ok_ndf (sX11_needElement _ _) (by omega) ?_ | with_reducible refine ok_ndt (sX11_needPlace _ _) (by omega) ?_ | with_reducible refine ok_ndf (sX11_needPlace _ _) (by omega) ?_ | with_reducible refine ok_ndt (sX11_needSender _ _) (by omega) ?_ | with_reducible refine ok_ndf (sX11_needSender _ _) (by omega) ?_ | with_reducible refine ok_b2t (sX12_in _ _ _ _) (by omega) ?_ | with_reducible refine ok_b2f (sX12_in _ _ _ _) (by omega) ?_ | with_reducible refine ok_b2t (sX12_isPlace _ _) (by omega) ?_ | with_reducible refine ok_b2f (sX12_isPlace _ _) (by omega) ?_ | with_reducible refine ok_pos (by omega) ?_ | with_reducible refine ok_neg (by omega) ?_ | with_reducible refine ok_tl ?_ | with_reducible refine ok_tr ?_ | with_reducible refine ok_pos True.intro ?_ | with_reducible refine ok_neg not_false ?_ | dsimp only)
      exact ok_some (Or.inr ⟨rfl, fun s hs => hq s (by omega)⟩)
    | succ r ih =>
      intro N k hN hk hq
      obtain ⟨M, rfl⟩ := fuel_s hN
      have ek : (k : Int) + 1 = ((k + 1 : Nat) : Int) := by omega
      rw [nX9_hasStreet_2_s]
      simp only [bX9_hasStreet_2, nX9_hasStreet_34, bX9_hasStreet_34, nX9_hasStreet_35, bX9_hasStreet_35, nX9_hasStreet_64, bX9_hasStreet_64]
      by_cases c1 : h.1 4 k = a ∧ h.1 5 k = b
      · obtain ⟨q1, q2⟩ := c1
        repeat (first | with_reducible refine ok_gd (by first | omega | decide) ?_ | with_reducible refine ok_bs ?_ | with_reducible refine ok_be (sX12_refuse _ _) ?_ | with_reducible refine ok_be (sX12_told _ _) ?_ | with_reducible refine ok_ndt (sX11_needIndex _ _ _ _) (by omega) ?_ | with_reducible refine ok_ndf (sX11_needIndex _ _ _ _) (by omega) ?_ | with_reducible refine ok_ndt (sX11_needRange _ _ _ _) (by omega) ?_ | with_reducible refine ok_ndf (sX11_needRange _ _ _ _) (by omega) ?_ | with_reducible refine ok_ndt (sX11_needThat2 _ _) (by omega) ?_ | with_reducible refine ok_ndf (sX11_needThat2 _ _) (by omega) ?_ | with_reducible refine ok_ndt (sX11_needState2 _ _) (by omega) ?_ | with_reducible refine ok_ndf (sX11_needState2 _ _) (by omega) ?_ | with_reducible refine ok_ndt (sX11_needElement _ _) (by omega) ?_ | with_reducible refine ok_ndf (sX11_needElement _ _) (by omega) ?_ | with_reducible refine ok_ndt (sX11_needPlace _ _) (by omega) ?_ | with_reducible refine ok_ndf (sX11_needPlace _ _) (by omega) ?_ | with_reducible refine ok_ndt (sX11_needSender _ _) (by omega) ?_ | with_reducible refine ok_ndf (sX11_needSender _ _) (by omega) ?_ | with_reducible refine ok_b2t (sX12_in _ _ _ _) (by omega) ?_ | with_reducible refine ok_b2f (sX12_in _ _ _ _) (by omega) ?_ | with_reducible refine ok_b2t (sX12_isPlace _ _) (by omega) ?_ | with_reducible refine ok_b2f (sX12_isPlace _ _) (by omega) ?_ | with_reducible refine ok_pos (by omega) ?_ | with_reducible refine ok_neg (by omega) ?_ | with_reducible refine ok_tl ?_ | with_reducible refine ok_tr ?_ | with_reducible refine ok_pos True.intro ?_ | with_reducible refine ok_neg not_false ?_ | dsimp only)
        exact ok_some (Or.inl ⟨rfl, k, by omega, Or.inl ⟨q1, q2⟩⟩)
      · by_cases c2 : h.1 4 k = b ∧ h.1 5 k = a
        · have yes : ∃ s : Nat, s < T ∧ ((h.1 4 s = a ∧ h.1 5 s = b) ∨ (h.1 4 s = b ∧ h.1 5 s = a)) := ⟨k, by omega, Or.inr c2⟩
          obtain ⟨q1, q2⟩ := c2
          by_cases c3 : h.1 4 k = a
          · have c4 : ¬ h.1 5 k = b := fun q => c1 ⟨c3, q⟩
            repeat (first | with_reducible refine ok_gd (by first | omega | decide) ?_ | with_reducible refine ok_bs ?_ | with_reducible refine ok_be (sX12_refuse _ _) ?_ | with_reducible refine ok_be (sX12_told _ _) ?_ | with_reducible refine ok_ndt (sX11_needIndex _ _ _ _) (by omega) ?_ | with_reducible refine ok_ndf (sX11_needIndex _ _ _ _) (by omega) ?_ | with_reducible refine ok_ndt (sX11_needRange _ _ _ _) (by omega) ?_ | with_reducible refine ok_ndf (sX11_needRange _ _ _ _) (by omega) ?_ | with_reducible refine ok_ndt (sX11_needThat2 _ _) (by omega) ?_ | with_reducible refine ok_ndf (sX11_needThat2 _ _) (by omega) ?_ | with_reducible refine ok_ndt (sX11_needState2 _ _) (by omega) ?_ | with_reducible refine ok_ndf (sX11_needState2 _ _) (by omega) ?_ | with_reducible refine ok_ndt (sX11_needElement _ _) (by omega) ?_ | with_reducible refine ok_ndf (sX11_needElement _ _) (by omega) ?_ | with_reducible refine ok_ndt (sX11_needPlace _ _) (by omega) ?_ | with_reducible refine ok_ndf (sX11_needPlace _ _) (by omega) ?_ | with_reducible refine ok_ndt (sX11_needSender _ _) (by omega) ?_ | with_reducible refine ok_ndf (sX11_needSender _ _) (by omega) ?_ | with_reducible refine ok_b2t (sX12_in _ _ _ _) (by omega) ?_ | with_reducible refine ok_b2f (sX12_in _ _ _ _) (by omega) ?_ | with_reducible refine ok_b2t (sX12_isPlace _ _) (by omega) ?_ | with_reducible refine ok_b2f (sX12_isPlace _ _) (by omega) ?_ | with_reducible refine ok_pos (by omega) ?_ | with_reducible refine ok_neg (by omega) ?_ | with_reducible refine ok_tl ?_ | with_reducible refine ok_tr ?_ | with_reducible refine ok_pos True.intro ?_ | with_reducible refine ok_neg not_false ?_ | dsimp only)
            exact ok_some (Or.inl ⟨rfl, yes⟩)
          · repeat (first | with_reducible refine ok_gd (by first | omega | decide) ?_ | with_reducible refine ok_bs ?_ | with_reducible refine ok_be (sX12_refuse _ _) ?_ | with_reducible refine ok_be (sX12_told _ _) ?_ | with_reducible refine ok_ndt (sX11_needIndex _ _ _ _) (by omega) ?_ | with_reducible refine ok_ndf (sX11_needIndex _ _ _ _) (by omega) ?_ | with_reducible refine ok_ndt (sX11_needRange _ _ _ _) (by omega) ?_ | with_reducible refine ok_ndf (sX11_needRange _ _ _ _) (by omega) ?_ | with_reducible refine ok_ndt (sX11_needThat2 _ _) (by omega) ?_ | with_reducible refine ok_ndf (sX11_needThat2 _ _) (by omega) ?_ | with_reducible refine ok_ndt (sX11_needState2 _ _) (by omega) ?_ | with_reducible refine ok_ndf (sX11_needState2 _ _) (by omega) ?_ | with_reducible refine ok_ndt (sX11_needElement _ _) (by omega) ?_ | with_reducible refine ok_ndf (sX11_needElement _ _) (by omega) ?_ | with_reducible refine ok_ndt (sX11_needPlace _ _) (by omega) ?_ | with_reducible refine ok_ndf (sX11_needPlace _ _) (by omega) ?_ | with_reducible refine ok_ndt (sX11_needSender _ _) (by omega) ?_ | with_reducible refine ok_ndf (sX11_needSender _ _) (by omega) ?_ | with_reducible refine ok_b2t (sX12_in _ _ _ _) (by omega) ?_ | with_reducible refine ok_b2f (sX12_in _ _ _ _) (by omega) ?_ | with_reducible refine ok_b2t (sX12_isPlace _ _) (by omega) ?_ | with_reducible refine ok_b2f (sX12_isPlace _ _) (by omega) ?_ | with_reducible refine ok_pos (by omega) ?_ | with_reducible refine ok_neg (by omega) ?_ | with_reducible refine ok_tl ?_ | with_reducible refine ok_tr ?_ | with_reducible refine ok_pos True.intro ?_ | with_reducible refine ok_neg not_false ?_ | dsimp only)
            exact ok_some (Or.inl ⟨rfl, yes⟩)
        · have nxt := ih M (k + 1) (by omega) (by omega) (fun s hs => by
            by_cases c : s = k
            · rw [c]
              rintro (q | q)
              · exact c1 q
              · exact c2 q
            · exact hq s (by omega))
          rw [← ek] at nxt
          by_cases c3 : h.1 4 k = a
          · have c4 : ¬ h.1 5 k = b := fun q => c1 ⟨c3, q⟩
            by_cases c5 : h.1 4 k = b
            · have c6 : ¬ h.1 5 k = a := fun q => c2 ⟨c5, q⟩
              repeat (first | with_reducible refine ok_gd (by first | omega | decide) ?_ | with_reducible refine ok_bs ?_ | with_reducible refine ok_be (sX12_refuse _ _) ?_ | with_reducible refine ok_be (sX12_told _ _) ?_ | with_reducible refine ok_ndt (sX11_needIndex _ _ _ _) (by omega) ?_ | with_reducible refine ok_ndf (sX11_needIndex _ _ _ _) (by omega) ?_ | with_reducible refine ok_ndt (sX11_needRange _ _ _ _) (by omega) ?_ | with_reducible refine ok_ndf (sX11_needRange _ _ _ _) (by omega) ?_ | with_reducible refine ok_ndt (sX11_needThat2 _ _) (by omega) ?_ | with_reducible refine ok_ndf (sX11_needThat2 _ _) (by omega) ?_ | with_reducible refine ok_ndt (sX11_needState2 _ _) (by omega) ?_ | with_reducible refine ok_ndf (sX11_needState2 _ _) (by omega) ?_ | with_reducible refine ok_ndt (sX11_needElement _ _) (by omega) ?_ | with_reducible refine ok_ndf (sX11_needElement _ _) (by omega) ?_ | with_reducible refine ok_ndt (sX11_needPlace _ _) (by omega) ?_ | with_reducible refine ok_ndf (sX11_needPlace _ _) (by omega) ?_ | with_reducible refine ok_ndt (sX11_needSender _ _) (by omega) ?_ | with_reducible refine ok_ndf (sX11_needSender _ _) (by omega) ?_ | with_reducible refine ok_b2t (sX12_in _ _ _ _) (by omega) ?_ | with_reducible refine ok_b2f (sX12_in _ _ _ _) (by omega) ?_ | with_reducible refine ok_b2t (sX12_isPlace _ _) (by omega) ?_ | with_reducible refine ok_b2f (sX12_isPlace _ _) (by omega) ?_ | with_reducible refine ok_pos (by omega) ?_ | with_reducible refine ok_neg (by omega) ?_ | with_reducible refine ok_tl ?_ | with_reducible refine ok_tr ?_ | with_reducible refine ok_pos True.intro ?_ | with_reducible refine ok_neg not_false ?_ | dsimp only)
              exact nxt
            · repeat (first | with_reducible refine ok_gd (by first | omega | decide) ?_ | with_reducible refine ok_bs ?_ | with_reducible refine ok_be (sX12_refuse _ _) ?_ | with_reducible refine ok_be (sX12_told _ _) ?_ | with_reducible refine ok_ndt (sX11_needIndex _ _ _ _) (by omega) ?_ | with_reducible refine ok_ndf (sX11_needIndex _ _ _ _) (by omega) ?_ | with_reducible refine ok_ndt (sX11_needRange _ _ _ _) (by omega) ?_ | with_reducible refine ok_ndf (sX11_needRange _ _ _ _) (by omega) ?_ | with_reducible refine ok_ndt (sX11_needThat2 _ _) (by omega) ?_ | with_reducible refine ok_ndf (sX11_needThat2 _ _) (by omega) ?_ | with_reducible refine ok_ndt (sX11_needState2 _ _) (by omega) ?_ | with_reducible refine ok_ndf (sX11_needState2 _ _) (by omega) ?_ | with_reducible refine ok_ndt (sX11_needElement _ _) (by omega) ?_ | with_reducible refine ok_ndf (sX11_needElement _ _) (by omega) ?_ | with_reducible refine ok_ndt (sX11_needPlace _ _) (by omega) ?_ | with_reducible refine ok_ndf (sX11_needPlace _ _) (by omega) ?_ | with_reducible refine ok_ndt (sX11_needSender _ _) (by omega) ?_ | with_reducible refine ok_ndf (sX11_needSender _ _) (by omega) ?_ | with_reducible refine ok_b2t (sX12_in _ _ _ _) (by omega) ?_ | with_reducible refine ok_b2f (sX12_in _ _ _ _) (by omega) ?_ | with_reducible refine ok_b2t (sX12_isPlace _ _) (by omega) ?_ | with_reducible refine ok_b2f (sX12_isPlace _ _) (by omega) ?_ | with_reducible refine ok_pos (by omega) ?_ | with_reducible refine ok_neg (by omega) ?_ | with_reducible refine ok_tl ?_ | with_reducible refine ok_tr ?_ | with_reducible refine ok_pos True.intro ?_ | with_reducible refine ok_neg not_false ?_ | dsimp only)
              exact nxt
          · by_cases c5 : h.1 4 k = b
            · have c6 : ¬ h.1 5 k = a := fun q => c2 ⟨c5, q⟩
              repeat (first | with_reducible refine ok_gd (by first | omega | decide) ?_ | with_reducible refine ok_bs ?_ | with_reducible refine ok_be (sX12_refuse _ _) ?_ | with_reducible refine ok_be (sX12_told _ _) ?_ | with_reducible refine ok_ndt (sX11_needIndex _ _ _ _) (by omega) ?_ | with_reducible refine ok_ndf (sX11_needIndex _ _ _ _) (by omega) ?_ | with_reducible refine ok_ndt (sX11_needRange _ _ _ _) (by omega) ?_ | with_reducible refine ok_ndf (sX11_needRange _ _ _ _) (by omega) ?_ | with_reducible refine ok_ndt (sX11_needThat2 _ _) (by omega) ?_ | with_reducible refine ok_ndf (sX11_needThat2 _ _) (by omega) ?_ | with_reducible refine ok_ndt (sX11_needState2 _ _) (by omega) ?_ | with_reducible refine ok_ndf (sX11_needState2 _ _) (by omega) ?_ | with_reducible refine ok_ndt (sX11_needElement _ _) (by omega) ?_ | with_reducible refine ok_ndf (sX11_needElement _ _) (by omega) ?_ | with_reducible refine ok_ndt (sX11_needPlace _ _) (by omega) ?_ | with_reducible refine ok_ndf (sX11_needPlace _ _) (by omega) ?_ | with_reducible refine ok_ndt (sX11_needSender _ _) (by omega) ?_ | with_reducible refine ok_ndf (sX11_needSender _ _) (by omega) ?_ | with_reducible refine ok_b2t (sX12_in _ _ _ _) (by omega) ?_ | with_reducible refine ok_b2f (sX12_in _ _ _ _) (by omega) ?_ | with_reducible refine ok_b2t (sX12_isPlace _ _) (by omega) ?_ | with_reducible refine ok_b2f (sX12_isPlace _ _) (by omega) ?_ | with_reducible refine ok_pos (by omega) ?_ | with_reducible refine ok_neg (by omega) ?_ | with_reducible refine ok_tl ?_ | with_reducible refine ok_tr ?_ | with_reducible refine ok_pos True.intro ?_ | with_reducible refine ok_neg not_false ?_ | dsimp only)
              exact nxt
            · repeat (first | with_reducible refine ok_gd (by first | omega | decide) ?_ | with_reducible refine ok_bs ?_ | with_reducible refine ok_be (sX12_refuse _ _) ?_ | with_reducible refine ok_be (sX12_told _ _) ?_ | with_reducible refine ok_ndt (sX11_needIndex _ _ _ _) (by omega) ?_ | with_reducible refine ok_ndf (sX11_needIndex _ _ _ _) (by omega) ?_ | with_reducible refine ok_ndt (sX11_needRange _ _ _ _) (by omega) ?_ | with_reducible refine ok_ndf (sX11_needRange _ _ _ _) (by omega) ?_ | with_reducible refine ok_ndt (sX11_needThat2 _ _) (by omega) ?_ | with_reducible refine ok_ndf (sX11_needThat2 _ _) (by omega) ?_ | with_reducible refine ok_ndt (sX11_needState2 _ _) (by omega) ?_ | with_reducible refine ok_ndf (sX11_needState2 _ _) (by omega) ?_ | with_reducible refine ok_ndt (sX11_needElement _ _) (by omega) ?_ | with_reducible refine ok_ndf (sX11_needElement _ _) (by omega) ?_ | with_reducible refine ok_ndt (sX11_needPlace _ _) (by omega) ?_ | with_reducible refine ok_ndf (sX11_needPlace _ _) (by omega) ?_ | with_reducible refine ok_ndt (sX11_needSender _ _) (by omega) ?_ | with_reducible refine ok_ndf (sX11_needSender _ _) (by omega) ?_ | with_reducible refine ok_b2t (sX12_in _ _ _ _) (by omega) ?_ | with_reducible refine ok_b2f (sX12_in _ _ _ _) (by omega) ?_ | with_reducible refine ok_b2t (sX12_isPlace _ _) (by omega) ?_ | with_reducible refine ok_b2f (sX12_isPlace _ _) (by omega) ?_ | with_reducible refine ok_pos (by omega) ?_ | with_reducible refine ok_neg (by omega) ?_ | with_reducible refine ok_tl ?_ | with_reducible refine ok_tr ?_ | with_reducible refine ok_pos True.intro ?_ | with_reducible refine ok_neg not_false ?_ | dsimp only)
              exact nxt
  unfold nX9_hasStreet bX9_hasStreet
  exact key T 100000 0 (by omega) (by omega) (fun s hs => absurd hs (Nat.not_lt_zero _))
theorem sX0_touches {T : Nat} (hT : h.1 3 3 = T) (h60 : T ≤ 60) (hst : ∀ s : Nat, s < T → (0 ≤ h.1 4 s ∧ h.1 4 s ≤ 15) ∧ (0 ≤ h.1 5 s ∧ h.1 5 s ≤ 15)) (p z : Int) : nX0_touches h p z = some (bsd (h.1 4) (h.1 5) (h.1 63) p z T) := by
  have key : ∀ (r N k : Nat), r < N → k + r = 16 → 1 ≤ k → (∀ o : Int, 1 ≤ o → o < k → h.1 63 o = z → ∀ s : Nat, s < T → ¬ ((h.1 4 s = p ∧ h.1 5 s = o) ∨ (h.1 4 s = o ∧ h.1 5 s = p))) → Ok (nX0_touches_2 h N p z k) (fun a => a = bsd (h.1 4) (h.1 5) (h.1 63) p z T) := by
    intro r
    induction r with
    | zero =>
      intro N k hN hk k1 hq
      obtain ⟨M, rfl⟩ := fuel_s hN
      rw [nX0_touches_2_s]
      simp only [bX0_touches_2]
      repeat (first | with_reducible refine ok_gd (by first | omega | decide) ?_ | with_reducible refine ok_bs ?_ | with_reducible refine ok_be (sX12_refuse _ _) ?_ | with_reducible refine ok_be (sX12_told _ _) ?_ | with_reducible refine ok_ndt (sX11_needIndex _ _ _ _) (by omega) ?_ | with_reducible refine ok_ndf (sX11_needIndex _ _ _ _) (by omega) ?_ | with_reducible refine ok_ndt (sX11_needRange _ _ _ _) (by omega) ?_ | with_reducible refine ok_ndf (sX11_needRange _ _ _ _) (by omega) ?_ | with_reducible refine ok_ndt (sX11_needThat2 _ _) (by omega) ?_ | with_reducible refine ok_ndf (sX11_needThat2 _ _) (by omega) ?_ | with_reducible refine ok_ndt (sX11_needState2 _ _) (by omega) ?_ | with_reducible refine ok_ndf (sX11_needState2 _ _) (by omega) ?_ | with_reducible refine ok_ndt (sX11_needElement _ _) (by omega) ?_ | with_reducible refine ok_ndf (sX11_needElement _ _) (by omega) ?_ | with_reducible refine ok_ndt (sX11_needPlace _ _) (by omega) ?_ | with_reducible refine ok_ndf (sX11_needPlace _ _) (by omega) ?_ | with_reducible refine ok_ndt (sX11_needSender _ _) (by omega) ?_ | with_reducible refine ok_ndf (sX11_needSender _ _) (by omega) ?_ | with_reducible refine ok_b2t (sX12_in _ _ _ _) (by omega) ?_ | with_reducible refine ok_b2f (sX12_in _ _ _ _) (by omega) ?_ | with_reducible refine ok_b2t (sX12_isPlace _ _) (by omega) ?_ | with_reducible refine ok_b2f (sX12_isPlace _ _) (by omega) ?_ | with_reducible refine ok_pos (by omega) ?_ | with_reducible refine ok_neg (by omega) ?_ | with_reducible refine ok_tl ?_ | with_reducible refine ok_tr ?_ | dsimp only)
      refine ok_some ?_
      rcases bsd_01 (f := h.1 4) (t := h.1 5) (zn := h.1 63) (p := p) (z := z) T with q | q
      · exact q.symm
      · obtain ⟨s, hs, w⟩ := bsd_1.mp q
        have := hst s hs
        rcases w with w | w
        · exact absurd (Or.inl ⟨w.1, rfl⟩) (hq (h.1 5 s) (by omega) (by omega) w.2.2 s hs)
        · exact absurd (Or.inr ⟨rfl, w.1⟩) (hq (h.1 4 s) (by omega) (by omega) w.2.2 s hs)
    | succ r ih =>
      intro N k hN hk k1 hq
      obtain ⟨M, rfl⟩ := fuel_s hN
      have ek : (k : Int) + 1 = ((k + 1 : Nat) : Int) := by omega
      rw [nX0_touches_2_s]
      simp only [bX0_touches_2, nX0_touches_35, bX0_touches_35]
      by_cases c1 : h.1 63 k = z
      · refine ok_pos (by omega) ?_
        refine ok_gd (by omega) ?_
        refine ok_pos c1 ?_
        refine ok_bnd (sX9_hasStreet hT h60 p k) (fun a qa => ?_)
        rcases qa with ⟨qa, s, hs, w⟩ | ⟨qa, hno⟩
        · rw [qa]
          repeat (first | with_reducible refine ok_gd (by first | omega | decide) ?_ | with_reducible refine ok_bs ?_ | with_reducible refine ok_be (sX12_refuse _ _) ?_ | with_reducible refine ok_be (sX12_told _ _) ?_ | with_reducible refine ok_ndt (sX11_needIndex _ _ _ _) (by omega) ?_ | with_reducible refine ok_ndf (sX11_needIndex _ _ _ _) (by omega) ?_ | with_reducible refine ok_ndt (sX11_needRange _ _ _ _) (by omega) ?_ | with_reducible refine ok_ndf (sX11_needRange _ _ _ _) (by omega) ?_ | with_reducible refine ok_ndt (sX11_needThat2 _ _) (by omega) ?_ | with_reducible refine ok_ndf (sX11_needThat2 _ _) (by omega) ?_ | with_reducible refine ok_ndt (sX11_needState2 _ _) (by omega) ?_ | with_reducible refine ok_ndf (sX11_needState2 _ _) (by omega) ?_ | with_reducible refine ok_ndt (sX11_needElement _ _) (by omega) ?_ | with_reducible refine ok_ndf (sX11_needElement _ _) (by omega) ?_ | with_reducible refine ok_ndt (sX11_needPlace _ _) (by omega) ?_ | with_reducible refine ok_ndf (sX11_needPlace _ _) (by omega) ?_ | with_reducible refine ok_ndt (sX11_needSender _ _) (by omega) ?_ | with_reducible refine ok_ndf (sX11_needSender _ _) (by omega) ?_ | with_reducible refine ok_b2t (sX12_in _ _ _ _) (by omega) ?_ | with_reducible refine ok_b2f (sX12_in _ _ _ _) (by omega) ?_ | with_reducible refine ok_b2t (sX12_isPlace _ _) (by omega) ?_ | with_reducible refine ok_b2f (sX12_isPlace _ _) (by omega) ?_ | with_reducible refine ok_pos (by omega) ?_ | with_reducible refine ok_neg (by omega) ?_ | with_reducible refine ok_tl ?_ | with_reducible refine ok_tr ?_ | dsimp only)
          refine ok_some ?_
          refine (bsd_1.mpr ⟨s, hs, ?_⟩).symm
          rcases w with w | w
          · exact Or.inl ⟨w.1, by omega, by rw [w.2]; exact c1⟩
          · exact Or.inr ⟨w.2, by omega, by rw [w.1]; exact c1⟩
        · rw [qa]
          repeat (first | with_reducible refine ok_gd (by first | omega | decide) ?_ | with_reducible refine ok_bs ?_ | with_reducible refine ok_be (sX12_refuse _ _) ?_ | with_reducible refine ok_be (sX12_told _ _) ?_ | with_reducible refine ok_ndt (sX11_needIndex _ _ _ _) (by omega) ?_ | with_reducible refine ok_ndf (sX11_needIndex _ _ _ _) (by omega) ?_ | with_reducible refine ok_ndt (sX11_needRange _ _ _ _) (by omega) ?_ | with_reducible refine ok_ndf (sX11_needRange _ _ _ _) (by omega) ?_ | with_reducible refine ok_ndt (sX11_needThat2 _ _) (by omega) ?_ | with_reducible refine ok_ndf (sX11_needThat2 _ _) (by omega) ?_ | with_reducible refine ok_ndt (sX11_needState2 _ _) (by omega) ?_ | with_reducible refine ok_ndf (sX11_needState2 _ _) (by omega) ?_ | with_reducible refine ok_ndt (sX11_needElement _ _) (by omega) ?_ | with_reducible refine ok_ndf (sX11_needElement _ _) (by omega) ?_ | with_reducible refine ok_ndt (sX11_needPlace _ _) (by omega) ?_ | with_reducible refine ok_ndf (sX11_needPlace _ _) (by omega) ?_ | with_reducible refine ok_ndt (sX11_needSender _ _) (by omega) ?_ | with_reducible refine ok_ndf (sX11_needSender _ _) (by omega) ?_ | with_reducible refine ok_b2t (sX12_in _ _ _ _) (by omega) ?_ | with_reducible refine ok_b2f (sX12_in _ _ _ _) (by omega) ?_ | with_reducible refine ok_b2t (sX12_isPlace _ _) (by omega) ?_ | with_reducible refine ok_b2f (sX12_isPlace _ _) (by omega) ?_ | with_reducible refine ok_pos (by omega) ?_ | with_reducible refine ok_neg (by omega) ?_ | with_reducible refine ok_tl ?_ | with_reducible refine ok_tr ?_ | dsimp only)
          rw [ek]
          refine ih M (k + 1) (by omega) (by omega) (by omega) (fun o o1 o2 hz s hs => ?_)
          by_cases c : o = k
          · rw [c]; exact hno s hs
          · exact hq o o1 (by omega) hz s hs
      · repeat (first | with_reducible refine ok_gd (by first | omega | decide) ?_ | with_reducible refine ok_bs ?_ | with_reducible refine ok_be (sX12_refuse _ _) ?_ | with_reducible refine ok_be (sX12_told _ _) ?_ | with_reducible refine ok_ndt (sX11_needIndex _ _ _ _) (by omega) ?_ | with_reducible refine ok_ndf (sX11_needIndex _ _ _ _) (by omega) ?_ | with_reducible refine ok_ndt (sX11_needRange _ _ _ _) (by omega) ?_ | with_reducible refine ok_ndf (sX11_needRange _ _ _ _) (by omega) ?_ | with_reducible refine ok_ndt (sX11_needThat2 _ _) (by omega) ?_ | with_reducible refine ok_ndf (sX11_needThat2 _ _) (by omega) ?_ | with_reducible refine ok_ndt (sX11_needState2 _ _) (by omega) ?_ | with_reducible refine ok_ndf (sX11_needState2 _ _) (by omega) ?_ | with_reducible refine ok_ndt (sX11_needElement _ _) (by omega) ?_ | with_reducible refine ok_ndf (sX11_needElement _ _) (by omega) ?_ | with_reducible refine ok_ndt (sX11_needPlace _ _) (by omega) ?_ | with_reducible refine ok_ndf (sX11_needPlace _ _) (by omega) ?_ | with_reducible refine ok_ndt (sX11_needSender _ _) (by omega) ?_ | with_reducible refine ok_ndf (sX11_needSender _ _) (by omega) ?_ | with_reducible refine ok_b2t (sX12_in _ _ _ _) (by omega) ?_ | with_reducible refine ok_b2f (sX12_in _ _ _ _) (by omega) ?_ | with_reducible refine ok_b2t (sX12_isPlace _ _) (by omega) ?_ | with_reducible refine ok_b2f (sX12_isPlace _ _) (by omega) ?_ | with_reducible refine ok_pos (by omega) ?_ | with_reducible refine ok_neg (by omega) ?_ | with_reducible refine ok_tl ?_ | with_reducible refine ok_tr ?_ | dsimp only)
        rw [ek]
        refine ih M (k + 1) (by omega) (by omega) (by omega) (fun o o1 o2 hz s hs => ?_)
        by_cases c : o = k
        · rw [c] at hz; exact absurd hz c1
        · exact hq o o1 (by omega) hz s hs
  unfold nX0_touches bX0_touches
  exact ok_is (key 15 100000 1 (by omega) (by omega) (by omega) (fun o o1 o2 => by omega))
theorem bsd_cg {f t f1 t1 zn zm : Int → Int} {p z : Int} : ∀ {n : Nat}, (∀ s : Nat, s < n → (f1 s = f s ∧ t1 s = t s) ∧ ((0 ≤ f s ∧ f s ≤ 15) ∧ (0 ≤ t s ∧ t s ≤ 15))) → (∀ o, 1 ≤ o → o ≤ 15 → zm o = zn o) → bsd f1 t1 zm p z n = bsd f t zn p z n
  | 0, _, _ => rfl
  | n + 1, hs, hz => by
    have h1 := hs n (by omega)
    have ih := bsd_cg (n := n) (p := p) (z := z) (fun s q => hs s (by omega)) hz
    rw [bsd, bsd, ih, h1.1.1, h1.1.2]
    have e1 : (f n = p ∧ t n ≠ 0 ∧ zm (t n) = z) ↔ (f n = p ∧ t n ≠ 0 ∧ zn (t n) = z) := by
      constructor
      · rintro ⟨q1, q2, q3⟩
        exact ⟨q1, q2, by rw [← hz _ (by omega) (by omega)]; exact q3⟩
      · rintro ⟨q1, q2, q3⟩
        exact ⟨q1, q2, by rw [hz _ (by omega) (by omega)]; exact q3⟩
    have e2 : (t n = p ∧ f n ≠ 0 ∧ zm (f n) = z) ↔ (t n = p ∧ f n ≠ 0 ∧ zn (f n) = z) := by
      constructor
      · rintro ⟨q1, q2, q3⟩
        exact ⟨q1, q2, by rw [← hz _ (by omega) (by omega)]; exact q3⟩
      · rintro ⟨q1, q2, q3⟩
        exact ⟨q1, q2, by rw [hz _ (by omega) (by omega)]; exact q3⟩
    simp only [e1, e2]
theorem fz_ne (L : Int → Int) : fz L ≠ bz L := by
  unfold fz bz
  by_cases c1 : L 0 < L 1
  · rw [if_pos c1]
    by_cases c2 : L 1 < L 2
    · rw [if_pos c2, if_pos c2]
      split <;> omega
    · rw [if_neg c2, if_neg c2]
      split <;> omega
  · rw [if_neg c1]
    by_cases c2 : L 0 < L 2
    · rw [if_pos c2]
      by_cases c3 : L 1 < L 2
      · rw [if_pos c3]; split <;> omega
      · rw [if_neg c3]; split <;> omega
    · rw [if_neg c2]
      by_cases c3 : L 1 < L 2
      · rw [if_pos c3]; split <;> omega
      · rw [if_neg c3]; split <;> omega
/-- what the zones' loads are behind a move -/
def mvL (L : Int → Int) (z b x : Int) : Int → Int := fun y => if y = b then L y + x else if y = z then L y - x else L y
theorem ldZ_mv {K : Nat → Int → Int} {zn : Int → Int} {p b z : Int} (p1 : 1 ≤ p) (p2 : p ≤ 15) (hz : zn p = z) (hb : z ≠ b) (y : Int) : ldZ K (updI zn p b) y = mvL (ldZ K zn) z b (ldP K p) y := by
  have hk : (((p - 1).toNat : Nat) : Int) = p - 1 := by omega
  have hu := sumS_upd (g := ldJ K zn y) (g' := ldJ K (updI zn p b) y) (k := (p - 1).toNat) (n := 15) (by omega) (fun j h1 h2 => by
    show (if updI zn p b ((j : Int) + 1) = y then ldP K (j + 1) else 0) = if zn ((j : Int) + 1) = y then ldP K (j + 1) else 0
    rw [updI_n (by omega)])
  rw [hk] at hu
  have e1 : ldJ K (updI zn p b) y (p - 1) = if b = y then ldP K p else 0 := by
    show (if updI zn p b (p - 1 + 1) = y then ldP K (p - 1 + 1) else 0) = _
    rw [show p - 1 + 1 = p by omega, updI_s]
  have e2 : ldJ K zn y (p - 1) = if z = y then ldP K p else 0 := by
    show (if zn (p - 1 + 1) = y then ldP K (p - 1 + 1) else 0) = _
    rw [show p - 1 + 1 = p by omega, hz]
  rw [e1, e2] at hu
  have hu2 : ldZ K (updI zn p b) y = ldZ K zn y + ((if b = y then ldP K p else 0) - if z = y then ldP K p else 0) := hu
  rw [hu2]
  unfold mvL
  by_cases c1 : b = y
  · have c2 : ¬ z = y := by omega
    have c3 : y = b := c1.symm
    rw [if_pos c1, if_pos c3, if_neg c2]; omega
  · have c3 : ¬ y = b := fun q => c1 q.symm
    rw [if_neg c1, if_neg c3]
    by_cases c2 : z = y
    · have c4 : y = z := c2.symm
      rw [if_pos c2, if_pos c4]; omega
    · have c4 : ¬ y = z := fun q => c2 q.symm
      rw [if_neg c2, if_neg c4]; omega
theorem sp_cg {L L1 : Int → Int} (e0 : L1 0 = L 0) (e1 : L1 1 = L 1) (e2 : L1 2 = L 2) : sp L1 = sp L := by unfold sp; rw [e0, e1, e2]
theorem sp_b {L : Int → Int} {B : Int} (hb : ∀ z, 0 ≤ L z ∧ L z ≤ B) : 0 ≤ sp L ∧ sp L ≤ B := by
  have h0 := hb 0
  have h1 := hb 1
  have h2 := hb 2
  unfold sp
  omega
/-- the scan over the places -/
def scn (K : Nat → Int → Int) (f t zn : Int → Int) (T : Nat) : Nat → Int × Int
  | 0 => (-1, sp (ldZ K zn))
  | n + 1 => if (zn ((n : Int) + 1) = fz (ldZ K zn) ∧ ldP K ((n : Int) + 1) ≠ 0 ∧ bsd f t zn ((n : Int) + 1) (bz (ldZ K zn)) T = 1) ∧ sp (mvL (ldZ K zn) (fz (ldZ K zn)) (bz (ldZ K zn)) (ldP K ((n : Int) + 1))) < (scn K f t zn T n).2 then ((n : Int) + 1, sp (mvL (ldZ K zn) (fz (ldZ K zn)) (bz (ldZ K zn)) (ldP K ((n : Int) + 1)))) else scn K f t zn T n
theorem scn_c {K : Nat → Int → Int} {f t zn : Int → Int} {T : Nat} : ∀ n : Nat, (scn K f t zn T n = (-1, sp (ldZ K zn))) ∨ ((1 ≤ (scn K f t zn T n).1 ∧ (scn K f t zn T n).1 ≤ n) ∧ (scn K f t zn T n).2 < sp (ldZ K zn) ∧ zn (scn K f t zn T n).1 = fz (ldZ K zn) ∧ (scn K f t zn T n).2 = sp (mvL (ldZ K zn) (fz (ldZ K zn)) (bz (ldZ K zn)) (ldP K (scn K f t zn T n).1)))
  | 0 => Or.inl rfl
  | n + 1 => by
    have ih := scn_c (K := K) (f := f) (t := t) (zn := zn) (T := T) n
    rw [scn]
    by_cases c : (zn ((n : Int) + 1) = fz (ldZ K zn) ∧ ldP K ((n : Int) + 1) ≠ 0 ∧ bsd f t zn ((n : Int) + 1) (bz (ldZ K zn)) T = 1) ∧ sp (mvL (ldZ K zn) (fz (ldZ K zn)) (bz (ldZ K zn)) (ldP K ((n : Int) + 1))) < (scn K f t zn T n).2
    · rw [if_pos c]
      refine Or.inr ⟨by dsimp only; omega, ?_, c.1.1, rfl⟩
      rcases ih with ih | ih
      · have c2 := c.2
        rw [ih] at c2
        exact c2
      · exact Int.lt_trans c.2 ih.2.1
    · rw [if_neg c]
      rcases ih with ih | ih
      · exact Or.inl ih
      · exact Or.inr ⟨by omega, ih.2⟩
theorem scn_cg {K K1 : Nat → Int → Int} {f t f1 t1 zn zm : Int → Int} {T : Nat} (eP : ∀ p, ldP K1 p = ldP K p) (eL : ldZ K1 zm = ldZ K zn) (ez : ∀ o, 1 ≤ o → o ≤ 15 → zm o = zn o) (es : ∀ s : Nat, s < T → (f1 s = f s ∧ t1 s = t s) ∧ ((0 ≤ f s ∧ f s ≤ 15) ∧ (0 ≤ t s ∧ t s ≤ 15))) : ∀ n : Nat, n ≤ 15 → scn K1 f1 t1 zm T n = scn K f t zn T n
  | 0, _ => by rw [scn, scn, eL]
  | n + 1, hn => by
    rw [scn, scn, scn_cg eP eL ez es n (by omega), eL, eP, bsd_cg es ez, ez _ (by omega) (by omega)]
/-! the class -/
theorem sX0_spread {m : HH} {L : Int → Int} (e : m.1 64 0 = L 0 ∧ m.1 64 1 = L 1 ∧ m.1 64 2 = L 2) (hb : ∀ z, -100000 ≤ L z ∧ L z ≤ 100000) : nX0_spread m = some (sp L) := by
  have h0 := hb 0
  have h1 := hb 1
  have h2 := hb 2
  unfold nX0_spread bX0_spread
  rw [e.1, e.2.1, e.2.2, gd_t (by omega), gd_t (by omega), gd_t (by omega), gd_t (by omega), gd_t (by omega), gd_t (by omega), gd_t (by omega)]
  rfl
theorem sX0_spreadBehind {m : HH} {L : Int → Int} {z b x : Int} (e : m.1 64 0 = L 0 ∧ m.1 64 1 = L 1 ∧ m.1 64 2 = L 2) (hb : ∀ z, 0 ≤ L z ∧ L z ≤ 13500) (hz : 0 ≤ z ∧ z ≤ 2) (hb2 : 0 ≤ b ∧ b ≤ 2) (hx : 0 ≤ x ∧ x ≤ 900) (hne : z ≠ b) : Ok (nX0_spreadBehind z b x m) (fun r => r.1 = sp (mvL L z b x) ∧ Fr (fun c _ => c = 64) m r.2 ∧ (r.2.1 64 0 = L 0 ∧ r.2.1 64 1 = L 1 ∧ r.2.1 64 2 = L 2)) := by
  have hbz := hb z
  have hbb := hb b
  have hfr : ∀ {a : HH}, Fr (fun c _ => c = 64) m a → ∀ {i x : Int}, Fr (fun c _ => c = 64) m (hI a 64 i x) := fun f => fr_I f rfl
  have ez : m.1 64 z = L z := by
    rcases (show z = 0 ∨ z = 1 ∨ z = 2 by omega) with q | q | q <;> rw [q]
    · exact e.1
    · exact e.2.1
    · exact e.2.2
  have eb : m.1 64 b = L b := by
    rcases (show b = 0 ∨ b = 1 ∨ b = 2 by omega) with q | q | q <;> rw [q]
    · exact e.1
    · exact e.2.1
    · exact e.2.2
  have eall : ∀ y, 0 ≤ y → y ≤ 2 → m.1 64 y = L y := fun y y0 y2 => by
    rcases (show y = 0 ∨ y = 1 ∨ y = 2 by omega) with q | q | q <;> rw [q]
    · exact e.1
    · exact e.2.1
    · exact e.2.2
  have hmv : ∀ y, -100000 ≤ mvL L z b x y ∧ mvL L z b x y ≤ 100000 := fun y => by
    have := hb y
    unfold mvL
    split
    · omega
    · split <;> omega
  have r1 : (hI m 64 z (m.1 64 z - x)).1 64 b = L b := by rw [rI_s, updI_n (fun q => hne q.symm), eb]
  have r2 : ∀ y, 0 ≤ y → y ≤ 2 → (hI (hI m 64 z (m.1 64 z - x)) 64 b (L b + x)).1 64 y = mvL L z b x y := fun y y0 y2 => by
    unfold mvL
    rw [rI_s, updI_at, rI_s, updI_at]
    by_cases c1 : y = b
    · rw [if_pos c1, if_pos c1, c1]
    · rw [if_neg c1, if_neg c1]
      by_cases c2 : y = z
      · rw [if_pos c2, if_pos c2, ez, c2]
      · rw [if_neg c2, if_neg c2]; exact eall y y0 y2
  have r3 : (hI (hI m 64 z (m.1 64 z - x)) 64 b (L b + x)).1 64 z = L z - x := by
    rw [r2 z (by omega) (by omega), mvL, if_neg hne, if_pos rfl]
  have r4 : (hI (hI (hI m 64 z (m.1 64 z - x)) 64 b (L b + x)) 64 z (L z - x + x)).1 64 b = L b + x := by
    rw [rI_s, updI_n (fun q => hne q.symm), r2 b (by omega) (by omega), mvL, if_pos rfl]
  simp only [nX0_spreadBehind, bX0_spreadBehind]
  refine ok_gd (by omega) ?_
  refine ok_gd (by omega) ?_
  refine ok_gd (by omega) ?_
  refine ok_bs ?_
  refine ok_gd (by omega) ?_
  rw [r1]
  refine ok_gd (by omega) ?_
  refine ok_gd (by omega) ?_
  refine ok_bs ?_
  refine ok_be (sX0_spread ⟨r2 0 (by omega) (by omega), r2 1 (by omega) (by omega), r2 2 (by omega) (by omega)⟩ hmv) ?_
  refine ok_gd (by omega) ?_
  rw [r3]
  refine ok_gd (by omega) ?_
  refine ok_gd (by omega) ?_
  refine ok_bs ?_
  refine ok_gd (by omega) ?_
  rw [r4]
  refine ok_gd (by omega) ?_
  refine ok_gd (by omega) ?_
  refine ok_bs ?_
  refine ok_some ⟨rfl, hfr (hfr (hfr (hfr fr_r))), ?_⟩
  have fin : ∀ y, 0 ≤ y → y ≤ 2 → (hI (hI (hI (hI m 64 z (m.1 64 z - x)) 64 b (L b + x)) 64 z (L z - x + x)) 64 b (L b + x - x)).1 64 y = L y := fun y y0 y2 => by
    rw [rI_s, updI_at, rI_s, updI_at]
    by_cases c1 : y = b
    · rw [if_pos c1, c1]; omega
    · rw [if_neg c1]
      by_cases c2 : y = z
      · rw [if_pos c2, c2]; omega
      · rw [if_neg c2, r2 y y0 y2, mvL, if_neg c1, if_neg c2]
  exact ⟨fin 0 (by omega) (by omega), fin 1 (by omega) (by omega), fin 2 (by omega) (by omega)⟩
/-- reading in a store whose loads alone are others -/
theorem ldP_fr {m : HH} {c0 : Nat} (f : Fr (fun c _ => c = c0) h m) (h0 : c0 ≠ 13 ∧ c0 ≠ 14 ∧ c0 ≠ 15 ∧ c0 ≠ 20) (p : Int) : ldP m.1 p = ldP h.1 p := by
  unfold ldP ldG
  rw [fr_c f 13 (fun i q => h0.1 q.symm), fr_c f 14 (fun i q => h0.2.1 q.symm), fr_c f 15 (fun i q => h0.2.2.1 q.symm), fr_c f 20 (fun i q => h0.2.2.2 q.symm)]
theorem VAL_fr64 {m : HH} (hv : VAL h.1) (f : Fr (fun c _ => c = 64) h m) : VAL m.1 := VAL_eq hv (fun c hc => fr_c f c (fun i q => by omega)) (by rw [fr_c f 13 (fun i q => by omega)]; exact ⟨rfl, rfl⟩)
theorem ldZ_fr64 {m : HH} (f : Fr (fun c _ => c = 64) h m) (z : Int) : ldZ m.1 (m.1 63) z = ldZ h.1 (h.1 63) z := by
  rw [fr_c f 63 (fun i q => by omega)]
  refine sumS_cg (fun j hj => ?_)
  show (if h.1 63 ((j : Int) + 1) = z then ldP m.1 (j + 1) else 0) = if h.1 63 ((j : Int) + 1) = z then ldP h.1 (j + 1) else 0
  rw [ldP_fr f (by decide)]
theorem fr_II {S : Nat → Int → Prop} {m : HH} (f : Fr S h m) (c : Nat) (i x : Int) : Fr S (hI h c i x) (hI m c i x) := ⟨f.1, fun c' i' q => by
  show up2 m.1 c i x c' i' = up2 h.1 c i x c' i'
  unfold up2
  split
  · rfl
  · exact f.2 c' i' q⟩
/-- what a round of balancing does -/
def balP (h : HH) (T : Nat) : Int × HH → Prop := fun r => ((scn h.1 (h.1 4) (h.1 5) (h.1 63) T 15).1 = -1 ∧ r.1 = 0 ∧ Fr (fun c _ => c = 64) h r.2) ∨ ((scn h.1 (h.1 4) (h.1 5) (h.1 63) T 15).1 ≠ -1 ∧ r.1 = 1 ∧ Fr (fun c _ => c = 64) (hI h 63 (scn h.1 (h.1 4) (h.1 5) (h.1 63) T 15).1 (bz (ldZ h.1 (h.1 63)))) r.2)
theorem sX0_scan (hv : VAL h.1) {T : Nat} (hT : h.1 3 3 = T) (h60 : T ≤ 60) (hst : ∀ s : Nat, s < T → (0 ≤ h.1 4 s ∧ h.1 4 s ≤ 15) ∧ (0 ≤ h.1 5 s ∧ h.1 5 s ≤ 15)) : ∀ (r N k : Nat) (m : HH), r < N → k + r = 15 → Fr (fun c _ => c = 64) h m → (m.1 64 0 = ldZ h.1 (h.1 63) 0 ∧ m.1 64 1 = ldZ h.1 (h.1 63) 1 ∧ m.1 64 2 = ldZ h.1 (h.1 63) 2) → Ok (nX0_balanceOnce_81 N (fz (ldZ h.1 (h.1 63))) (bz (ldZ h.1 (h.1 63))) (scn h.1 (h.1 4) (h.1 5) (h.1 63) T k).1 (scn h.1 (h.1 4) (h.1 5) (h.1 63) T k).2 ((k : Int) + 1) m) (balP h T) := by
  have hf := fz_c (ldZ h.1 (h.1 63))
  have hb := bz_c (ldZ h.1 (h.1 63))
  have hne := fz_ne (ldZ h.1 (h.1 63))
  have hLb := ldZ_b hv (h.1 63)
  intro r
  induction r with
  | zero =>
    intro N k m hN hk f e
    obtain ⟨M, rfl⟩ := fuel_s hN
    have hk : k = 15 := by omega
    rw [hk]
    have hc := scn_c (K := h.1) (f := h.1 4) (t := h.1 5) (zn := h.1 63) (T := T) 15
    rw [nX0_balanceOnce_81_s]
    simp only [bX0_balanceOnce_81, nX0_balanceOnce_177, bX0_balanceOnce_177]
    refine ok_neg (by decide) ?_
    by_cases c : (scn h.1 (h.1 4) (h.1 5) (h.1 63) T 15).1 = -1
    · repeat (first | with_reducible refine ok_gd (by first | omega | decide) ?_ | with_reducible refine ok_bs ?_ | with_reducible refine ok_be (sX12_refuse _ _) ?_ | with_reducible refine ok_be (sX12_told _ _) ?_ | with_reducible refine ok_ndt (sX11_needIndex _ _ _ _) (by omega) ?_ | with_reducible refine ok_ndf (sX11_needIndex _ _ _ _) (by omega) ?_ | with_reducible refine ok_ndt (sX11_needRange _ _ _ _) (by omega) ?_ | with_reducible refine ok_ndf (sX11_needRange _ _ _ _) (by omega) ?_ | with_reducible refine ok_ndt (sX11_needThat2 _ _) (by omega) ?_ | with_reducible refine ok_ndf (sX11_needThat2 _ _) (by omega) ?_ | with_reducible refine ok_ndt (sX11_needState2 _ _) (by omega) ?_ | with_reducible refine ok_ndf (sX11_needState2 _ _) (by omega) ?_ | with_reducible refine ok_ndt (sX11_needElement _ _) (by omega) ?_ | with_reducible refine ok_ndf (sX11_needElement _ _) (by omega) ?_ | with_reducible refine ok_ndt (sX11_needPlace _ _) (by omega) ?_ | with_reducible refine ok_ndf (sX11_needPlace _ _) (by omega) ?_ | with_reducible refine ok_ndt (sX11_needSender _ _) (by omega) ?_ | with_reducible refine ok_ndf (sX11_needSender _ _) (by omega) ?_ | with_reducible refine ok_b2t (sX12_in _ _ _ _) (by omega) ?_ | with_reducible refine ok_b2f (sX12_in _ _ _ _) (by omega) ?_ | with_reducible refine ok_b2t (sX12_isPlace _ _) (by omega) ?_ | with_reducible refine ok_b2f (sX12_isPlace _ _) (by omega) ?_ | with_reducible refine ok_pos (by omega) ?_ | with_reducible refine ok_neg (by omega) ?_ | with_reducible refine ok_tl ?_ | with_reducible refine ok_tr ?_ | dsimp only)
      exact ok_some (Or.inl ⟨c, rfl, f⟩)
    · have hg : 1 ≤ (scn h.1 (h.1 4) (h.1 5) (h.1 63) T 15).1 ∧ (scn h.1 (h.1 4) (h.1 5) (h.1 63) T 15).1 ≤ 15 := by
        rcases hc with q | q
        · rw [q] at c; exact absurd rfl c
        · exact q.1
      repeat (first | with_reducible refine ok_gd (by first | omega | decide) ?_ | with_reducible refine ok_bs ?_ | with_reducible refine ok_be (sX12_refuse _ _) ?_ | with_reducible refine ok_be (sX12_told _ _) ?_ | with_reducible refine ok_ndt (sX11_needIndex _ _ _ _) (by omega) ?_ | with_reducible refine ok_ndf (sX11_needIndex _ _ _ _) (by omega) ?_ | with_reducible refine ok_ndt (sX11_needRange _ _ _ _) (by omega) ?_ | with_reducible refine ok_ndf (sX11_needRange _ _ _ _) (by omega) ?_ | with_reducible refine ok_ndt (sX11_needThat2 _ _) (by omega) ?_ | with_reducible refine ok_ndf (sX11_needThat2 _ _) (by omega) ?_ | with_reducible refine ok_ndt (sX11_needState2 _ _) (by omega) ?_ | with_reducible refine ok_ndf (sX11_needState2 _ _) (by omega) ?_ | with_reducible refine ok_ndt (sX11_needElement _ _) (by omega) ?_ | with_reducible refine ok_ndf (sX11_needElement _ _) (by omega) ?_ | with_reducible refine ok_ndt (sX11_needPlace _ _) (by omega) ?_ | with_reducible refine ok_ndf (sX11_needPlace _ _) (by omega) ?_ | with_reducible refine ok_ndt (sX11_needSender _ _) (by omega) ?_ | with_reducible refine ok_ndf (sX11_needSender _ _) (by omega) ?_ | with_reducible refine ok_b2t (sX12_in _ _ _ _) (by omega) ?_ | with_reducible refine ok_b2f (sX12_in _ _ _ _) (by omega) ?_ | with_reducible refine ok_b2t (sX12_isPlace _ _) (by omega) ?_ | with_reducible refine ok_b2f (sX12_isPlace _ _) (by omega) ?_ | with_reducible refine ok_pos (by omega) ?_ | with_reducible refine ok_neg (by omega) ?_ | with_reducible refine ok_tl ?_ | with_reducible refine ok_tr ?_ | dsimp only)
      exact ok_some (Or.inr ⟨c, rfl, fr_II f _ _ _⟩)
  | succ r ih =>
    intro N k m hN hk f e
    obtain ⟨M, rfl⟩ := fuel_s hN
    have nx := fun m => ih M (k + 1) m (by omega) (by omega)
    have e63 : m.1 63 = h.1 63 := fr_c f 63 (fun i q => by omega)
    have e4 : m.1 4 = h.1 4 := fr_c f 4 (fun i q => by omega)
    have e5 : m.1 5 = h.1 5 := fr_c f 5 (fun i q => by omega)
    have e3 : m.1 3 3 = h.1 3 3 := f.2 3 3 (by omega)
    have ek : ((k + 1 : Nat) : Int) = (k : Int) + 1 := by omega
    have ep : nX0_loadAt m ((k : Int) + 1) = some (ldP h.1 ((k : Int) + 1)) := by rw [sX0_loadAt (VAL_fr64 hv f), ldP_fr f (by decide)]
    have et : nX0_touches m ((k : Int) + 1) (bz (ldZ h.1 (h.1 63))) = some (bsd (h.1 4) (h.1 5) (h.1 63) ((k : Int) + 1) (bz (ldZ h.1 (h.1 63))) T) := by
      rw [sX0_touches (T := T) (by omega) h60 (by rw [e4, e5]; exact hst), e4, e5, e63]
    have h01 := bsd_01 (f := h.1 4) (t := h.1 5) (zn := h.1 63) (p := (k : Int) + 1) (z := bz (ldZ h.1 (h.1 63))) T
    have hpb := ldP_b hv ((k : Int) + 1)
    have skip : scn h.1 (h.1 4) (h.1 5) (h.1 63) T (k + 1) = scn h.1 (h.1 4) (h.1 5) (h.1 63) T k → Ok (nX0_balanceOnce_81 M (fz (ldZ h.1 (h.1 63))) (bz (ldZ h.1 (h.1 63))) (scn h.1 (h.1 4) (h.1 5) (h.1 63) T k).1 (scn h.1 (h.1 4) (h.1 5) (h.1 63) T k).2 ((k : Int) + 1 + 1) m) (balP h T) := fun q => by
      have z := nx m f e
      rw [q, ek] at z
      exact z
    rw [nX0_balanceOnce_81_s]
    simp only [bX0_balanceOnce_81, nX0_balanceOnce_109, bX0_balanceOnce_109, nX0_balanceOnce_149, bX0_balanceOnce_149, nX0_balanceOnce_159, bX0_balanceOnce_159]
    by_cases c1 : h.1 63 ((k : Int) + 1) = fz (ldZ h.1 (h.1 63))
    · have c1' : m.1 63 ((k : Int) + 1) = fz (ldZ h.1 (h.1 63)) := by rw [e63]; exact c1
      by_cases c2 : ldP h.1 ((k : Int) + 1) = 0
      · repeat (first | with_reducible refine ok_gd (by first | omega | decide) ?_ | with_reducible refine ok_bs ?_ | with_reducible refine ok_be (ep) ?_ | with_reducible refine ok_be (sX12_refuse _ _) ?_ | with_reducible refine ok_be (sX12_told _ _) ?_ | with_reducible refine ok_ndt (sX11_needIndex _ _ _ _) (by omega) ?_ | with_reducible refine ok_ndf (sX11_needIndex _ _ _ _) (by omega) ?_ | with_reducible refine ok_ndt (sX11_needRange _ _ _ _) (by omega) ?_ | with_reducible refine ok_ndf (sX11_needRange _ _ _ _) (by omega) ?_ | with_reducible refine ok_ndt (sX11_needThat2 _ _) (by omega) ?_ | with_reducible refine ok_ndf (sX11_needThat2 _ _) (by omega) ?_ | with_reducible refine ok_ndt (sX11_needState2 _ _) (by omega) ?_ | with_reducible refine ok_ndf (sX11_needState2 _ _) (by omega) ?_ | with_reducible refine ok_ndt (sX11_needElement _ _) (by omega) ?_ | with_reducible refine ok_ndf (sX11_needElement _ _) (by omega) ?_ | with_reducible refine ok_ndt (sX11_needPlace _ _) (by omega) ?_ | with_reducible refine ok_ndf (sX11_needPlace _ _) (by omega) ?_ | with_reducible refine ok_ndt (sX11_needSender _ _) (by omega) ?_ | with_reducible refine ok_ndf (sX11_needSender _ _) (by omega) ?_ | with_reducible refine ok_b2t (sX12_in _ _ _ _) (by omega) ?_ | with_reducible refine ok_b2f (sX12_in _ _ _ _) (by omega) ?_ | with_reducible refine ok_b2t (sX12_isPlace _ _) (by omega) ?_ | with_reducible refine ok_b2f (sX12_isPlace _ _) (by omega) ?_ | with_reducible refine ok_pos (by omega) ?_ | with_reducible refine ok_neg (by omega) ?_ | with_reducible refine ok_tl ?_ | with_reducible refine ok_tr ?_ | dsimp only)
        exact skip (by rw [scn, if_neg (fun q => q.1.2.1 c2)])
      · by_cases c3 : bsd (h.1 4) (h.1 5) (h.1 63) ((k : Int) + 1) (bz (ldZ h.1 (h.1 63))) T = 1
        · refine ok_pos (by omega) ?_
          refine ok_gd (by omega) ?_
          refine ok_pos c1' ?_
          refine ok_be ep ?_
          refine ok_pos (by omega) ?_
          refine ok_be et ?_
          refine ok_neg (by omega) ?_
          refine ok_bnd (sX0_spreadBehind (L := ldZ h.1 (h.1 63)) e hLb (by omega) (by omega) (by omega) hne) (fun b hb2 => ?_)
          obtain ⟨b1, b2, b3⟩ := hb2
          have nb := nx b.2 (fr_t f b2) b3
          rw [b1]
          by_cases c4 : sp (mvL (ldZ h.1 (h.1 63)) (fz (ldZ h.1 (h.1 63))) (bz (ldZ h.1 (h.1 63))) (ldP h.1 ((k : Int) + 1))) < (scn h.1 (h.1 4) (h.1 5) (h.1 63) T k).2
          · rw [scn, if_pos ⟨⟨c1, c2, c3⟩, c4⟩, ek] at nb
            refine ok_pos c4 ?_
            refine ok_gd (by omega) ?_
            rw [Int.min_eq_left (Int.le_of_lt c4)]
            exact nb
          · rw [scn, if_neg (fun q => c4 q.2), ek] at nb
            refine ok_neg c4 ?_
            refine ok_gd (by omega) ?_
            rw [Int.min_eq_right (Int.not_lt.mp c4)]
            exact nb
        · repeat (first | with_reducible refine ok_gd (by first | omega | decide) ?_ | with_reducible refine ok_bs ?_ | with_reducible refine ok_be (et) ?_ | with_reducible refine ok_be (ep) ?_ | with_reducible refine ok_be (sX12_refuse _ _) ?_ | with_reducible refine ok_be (sX12_told _ _) ?_ | with_reducible refine ok_ndt (sX11_needIndex _ _ _ _) (by omega) ?_ | with_reducible refine ok_ndf (sX11_needIndex _ _ _ _) (by omega) ?_ | with_reducible refine ok_ndt (sX11_needRange _ _ _ _) (by omega) ?_ | with_reducible refine ok_ndf (sX11_needRange _ _ _ _) (by omega) ?_ | with_reducible refine ok_ndt (sX11_needThat2 _ _) (by omega) ?_ | with_reducible refine ok_ndf (sX11_needThat2 _ _) (by omega) ?_ | with_reducible refine ok_ndt (sX11_needState2 _ _) (by omega) ?_ | with_reducible refine ok_ndf (sX11_needState2 _ _) (by omega) ?_ | with_reducible refine ok_ndt (sX11_needElement _ _) (by omega) ?_ | with_reducible refine ok_ndf (sX11_needElement _ _) (by omega) ?_ | with_reducible refine ok_ndt (sX11_needPlace _ _) (by omega) ?_ | with_reducible refine ok_ndf (sX11_needPlace _ _) (by omega) ?_ | with_reducible refine ok_ndt (sX11_needSender _ _) (by omega) ?_ | with_reducible refine ok_ndf (sX11_needSender _ _) (by omega) ?_ | with_reducible refine ok_b2t (sX12_in _ _ _ _) (by omega) ?_ | with_reducible refine ok_b2f (sX12_in _ _ _ _) (by omega) ?_ | with_reducible refine ok_b2t (sX12_isPlace _ _) (by omega) ?_ | with_reducible refine ok_b2f (sX12_isPlace _ _) (by omega) ?_ | with_reducible refine ok_pos (by omega) ?_ | with_reducible refine ok_neg (by omega) ?_ | with_reducible refine ok_tl ?_ | with_reducible refine ok_tr ?_ | dsimp only)
          exact skip (by rw [scn, if_neg (fun q => c3 q.1.2.2)])
    · have c1' : ¬ m.1 63 ((k : Int) + 1) = fz (ldZ h.1 (h.1 63)) := by rw [e63]; exact c1
      refine ok_pos (by omega) ?_
      refine ok_gd (by omega) ?_
      refine ok_neg c1' ?_
      refine ok_neg (by decide) ?_
      refine ok_gd (by omega) ?_
      exact skip (by rw [scn, if_neg (fun q => c1 q.1.1)])
theorem sX0_balanceOnce (hv : VAL h.1) {T : Nat} (hT : h.1 3 3 = T) (h60 : T ≤ 60) (hst : ∀ s : Nat, s < T → (0 ≤ h.1 4 s ∧ h.1 4 s ≤ 15) ∧ (0 ≤ h.1 5 s ∧ h.1 5 s ≤ 15)) : Ok (nX0_balanceOnce h) (balP h T) := by
  have hLb := ldZ_b hv (h.1 63)
  have hl : ∀ {m : HH}, Fr (fun c _ => c = 64) h m → ∀ z, nX0_loadOf m z = some (ldZ h.1 (h.1 63) z) := fun f z => by
    rw [sX0_loadOf (VAL_fr64 hv f), ldZ_fr64 f]
  have hfr : ∀ {a : HH}, Fr (fun c _ => c = 64) h a → ∀ {i x : Int}, Fr (fun c _ => c = 64) h (hI a 64 i x) := fun f => fr_I f rfl
  obtain ⟨L0, hL0⟩ : ∃ x, x = ldZ h.1 (h.1 63) 0 := ⟨_, rfl⟩
  obtain ⟨L1, hL1⟩ : ∃ x, x = ldZ h.1 (h.1 63) 1 := ⟨_, rfl⟩
  obtain ⟨L2, hL2⟩ : ∃ x, x = ldZ h.1 (h.1 63) 2 := ⟨_, rfl⟩
  have hl0 : ∀ {m : HH}, Fr (fun c _ => c = 64) h m → nX0_loadOf m 0 = some L0 := fun f => by rw [hl f, hL0]
  have hl1 : ∀ {m : HH}, Fr (fun c _ => c = 64) h m → nX0_loadOf m (0 + 1) = some L1 := fun f => by rw [hl f, hL1]; rfl
  have hl2 : ∀ {m : HH}, Fr (fun c _ => c = 64) h m → nX0_loadOf m (0 + 1 + 1) = some L2 := fun f => by rw [hl f, hL2]; rfl
  have fin : ∀ {m : HH}, Fr (fun c _ => c = 64) h m → (m.1 64 0 = L0 ∧ m.1 64 1 = L1 ∧ m.1 64 2 = L2) → ∀ {x y : Int}, x = fz (ldZ h.1 (h.1 63)) → y = bz (ldZ h.1 (h.1 63)) → Ok (bnd (nX0_spread m) fun r1 => nX0_balanceOnce_81 100000 x y (-1) r1 1 m) (balP h T) := fun {m} f e {x y} ex ey => by
    rw [hL0, hL1, hL2] at e
    refine ok_be (sX0_spread (L := ldZ h.1 (h.1 63)) e (fun z => by have := hLb z; omega)) ?_
    rw [ex, ey]
    exact sX0_scan hv hT h60 hst 15 100000 0 m (by omega) (by omega) f e
  have f1 : Fr (fun c _ => c = 64) h (hI h 64 0 L0) := hfr fr_r
  have f2 : Fr (fun c _ => c = 64) h (hI (hI h 64 0 L0) 64 1 L1) := hfr f1
  have f3 : Fr (fun c _ => c = 64) h (hI (hI (hI h 64 0 L0) 64 1 L1) 64 2 L2) := hfr f2
  have g3 : (hI (hI (hI h 64 0 L0) 64 1 L1) 64 2 L2).1 64 0 = L0 ∧ (hI (hI (hI h 64 0 L0) 64 1 L1) 64 2 L2).1 64 1 = L1 ∧ (hI (hI (hI h 64 0 L0) 64 1 L1) 64 2 L2).1 64 2 = L2 := by simp (disch := decide) only [rI_s, rI_n, rI_2, rC_s, rC_n, rC_2, rJ_1, rJ_s, rJ_n, updI_at, if_pos, if_neg]; exact ⟨trivial, trivial, trivial⟩
  have two : ∀ {x y : Int}, (x = 0 ∨ x = 1) → (y = 0 ∨ y = 1) → x = (if L0 < L1 then 1 else 0) → y = (if L1 ≤ L0 then 1 else 0) → Ok (nX0_balanceOnce_6 (99997 + 1) x y (0 + 1 + 1) (hI (hI h 64 0 L0) 64 1 L1)) (balP h T) := fun {x y} hx hy ex ey => by
    have gx : (hI (hI (hI h 64 0 L0) 64 1 L1) 64 2 L2).1 64 x = if x = 0 then L0 else L1 := by
      rcases hx with q | q <;> rw [q]
      · exact g3.1
      · exact g3.2.1
    have gy : (hI (hI (hI h 64 0 L0) 64 1 L1) 64 2 L2).1 64 y = if y = 0 then L0 else L1 := by
      rcases hy with q | q <;> rw [q]
      · exact g3.1
      · exact g3.2.1
    rw [nX0_balanceOnce_6_s]
    simp only [bX0_balanceOnce_6, nX0_balanceOnce_42, bX0_balanceOnce_42, nX0_balanceOnce_63, bX0_balanceOnce_63]
    refine ok_pos (by decide) ?_
    refine ok_be (hl2 f2) ?_
    refine ok_gd (by decide) ?_
    refine ok_bs ?_
    refine ok_gd (by decide) ?_
    refine ok_gd (by omega) ?_
    have last : ∀ {x y : Int}, x = fz (ldZ h.1 (h.1 63)) → y = bz (ldZ h.1 (h.1 63)) → Ok (nX0_balanceOnce_6 (99996 + 1) x y (0 + 1 + 1 + 1) (hI (hI (hI h 64 0 L0) 64 1 L1) 64 2 L2)) (balP h T) := fun {x y} ex ey => by
      rw [nX0_balanceOnce_6_s]
      simp only [bX0_balanceOnce_6]
      refine ok_neg (by decide) ?_
      exact fin f3 g3 ex ey
    have e2 : (hI (hI (hI h 64 0 L0) 64 1 L1) 64 (0 + 1 + 1) L2).1 64 (0 + 1 + 1) = L2 := g3.2.2
    have e10 : (if (1 : Int) = 0 then L0 else L1) = L1 := if_neg (by decide)
    have e00 : (if (0 : Int) = 0 then L0 else L1) = L0 := if_pos rfl
    have fzE : fz (ldZ h.1 (h.1 63)) = if (if x = 0 then L0 else L1) < L2 then 2 else x := by
      unfold fz
      rw [← hL0, ← hL1, ← hL2]
      by_cases c : L0 < L1
      · rw [if_pos c] at ex
        rw [if_pos c, ← hL1, ex, e10]
      · rw [if_neg c] at ex
        rw [if_neg c, ← hL0, ex, e00]
    have bzE : bz (ldZ h.1 (h.1 63)) = if (if y = 0 then L0 else L1) < L2 then y else 2 := by
      unfold bz
      rw [← hL0, ← hL1, ← hL2]
      by_cases c : L1 ≤ L0
      · rw [if_pos c] at ey
        rw [ey, e10]
        by_cases c2 : L1 < L2
        · rw [if_pos c2, ← hL1, if_neg (show ¬ L0 < L1 by omega)]
        · rw [if_neg c2, ← hL2, if_neg (show ¬ L0 < L2 by omega)]
      · rw [if_neg c] at ey
        rw [ey, e00]
        by_cases c2 : L1 < L2
        · rw [if_pos c2, ← hL1, if_pos (show L0 < L1 by omega), if_pos (show L0 < L2 by omega)]
        · rw [if_neg c2, ← hL2]
    have up : ∀ {a : Int}, a = fz (ldZ h.1 (h.1 63)) → Ok (gd ((0 : Int) ≤ 0 + 1 + 1 ∧ (0 : Int) + 1 + 1 < 3) <| gd ((0 : Int) ≤ y ∧ y < (3 : Int)) <| if ((hI (hI (hI h 64 0 L0) 64 1 L1) 64 (0 + 1 + 1) L2).1 64 y : Int) < (hI (hI (hI h 64 0 L0) 64 1 L1) 64 (0 + 1 + 1) L2).1 64 (0 + 1 + 1) then gd (R32 ((0 : Int) + 1 + 1 + 1)) (nX0_balanceOnce_6 99997 a y (0 + 1 + 1 + 1) (hI (hI (hI h 64 0 L0) 64 1 L1) 64 (0 + 1 + 1) L2)) else gd (R32 ((0 : Int) + 1 + 1 + 1)) (nX0_balanceOnce_6 99997 a (0 + 1 + 1) (0 + 1 + 1 + 1) (hI (hI (hI h 64 0 L0) 64 1 L1) 64 (0 + 1 + 1) L2))) (balP h T) := fun {a} ea => by
      refine ok_gd (by decide) ?_
      refine ok_gd (by omega) ?_
      have gy' : (hI (hI (hI h 64 0 L0) 64 1 L1) 64 (0 + 1 + 1) L2).1 64 y = if y = 0 then L0 else L1 := gy
      rw [gy', e2]
      by_cases c : (if y = 0 then L0 else L1) < L2
      · rw [if_pos c] at bzE
        refine ok_pos c ?_
        refine ok_gd (by decide) ?_
        exact last ea bzE.symm
      · rw [if_neg c] at bzE
        refine ok_neg c ?_
        refine ok_gd (by decide) ?_
        exact last ea bzE.symm
    have gx' : (hI (hI (hI h 64 0 L0) 64 1 L1) 64 (0 + 1 + 1) L2).1 64 x = if x = 0 then L0 else L1 := gx
    rw [gx', e2]
    by_cases c : (if x = 0 then L0 else L1) < L2
    · rw [if_pos c] at fzE
      refine ok_pos c ?_
      exact up fzE.symm
    · rw [if_neg c] at fzE
      refine ok_neg c ?_
      exact up fzE.symm
  simp only [nX0_balanceOnce, bX0_balanceOnce]
  rw [show (100000 : Nat) = 99999 + 1 from rfl, nX0_balanceOnce_6_s]
  simp only [bX0_balanceOnce_6, nX0_balanceOnce_42, bX0_balanceOnce_42, nX0_balanceOnce_63, bX0_balanceOnce_63]
  have q0 : (hI h 64 0 L0).1 64 0 = L0 := by simp (disch := decide) only [rI_s, rI_n, rI_2, rC_s, rC_n, rC_2, rJ_1, rJ_s, rJ_n, updI_at, if_pos, if_neg]
  refine ok_pos (by decide) ?_
  refine ok_be (hl0 fr_r) ?_
  refine ok_gd (by decide) ?_
  refine ok_bs ?_
  refine ok_gd (by decide) ?_
  refine ok_gd (by decide) ?_
  rw [q0]
  refine ok_neg (by omega) ?_
  refine ok_gd (by decide) ?_
  refine ok_gd (by decide) ?_
  refine ok_neg (by omega) ?_
  refine ok_gd (by decide) ?_
  rw [show (99999 : Nat) = 99998 + 1 from rfl, nX0_balanceOnce_6_s]
  simp only [bX0_balanceOnce_6, nX0_balanceOnce_42, bX0_balanceOnce_42, nX0_balanceOnce_63, bX0_balanceOnce_63]
  have q10 : (hI (hI h 64 0 L0) 64 (0 + 1) L1).1 64 0 = L0 := by
    show (hI (hI h 64 0 L0) 64 1 L1).1 64 0 = L0
    simp (disch := decide) only [rI_s, rI_n, rI_2, rC_s, rC_n, rC_2, rJ_1, rJ_s, rJ_n, updI_at, if_pos, if_neg]
  have q11 : (hI (hI h 64 0 L0) 64 (0 + 1) L1).1 64 (0 + 1) = L1 := by
    show (hI (hI h 64 0 L0) 64 1 L1).1 64 1 = L1
    simp (disch := decide) only [rI_s, rI_n, rI_2, rC_s, rC_n, rC_2, rJ_1, rJ_s, rJ_n, updI_at, if_pos, if_neg]
  refine ok_pos (by decide) ?_
  refine ok_be (hl1 f1) ?_
  refine ok_gd (by decide) ?_
  refine ok_bs ?_
  refine ok_gd (by decide) ?_
  refine ok_gd (by decide) ?_
  rw [q10, q11]
  by_cases c : L0 < L1
  · refine ok_pos c ?_
    refine ok_gd (by decide) ?_
    refine ok_gd (by decide) ?_
    refine ok_pos c ?_
    refine ok_gd (by decide) ?_
    exact two (Or.inr rfl) (Or.inl rfl) (if_pos c).symm (if_neg (by omega)).symm
  · refine ok_neg c ?_
    refine ok_gd (by decide) ?_
    refine ok_gd (by decide) ?_
    refine ok_neg c ?_
    refine ok_gd (by decide) ?_
    exact two (Or.inl rfl) (Or.inr rfl) (if_neg c).symm (if_pos (by omega)).symm
/-! the model -/
theorem hI_back {m : HH} {c : Nat} {i x y : Int} (e : m.1 c i = y) : hI (hI m c i x) c i y = m := by
  refine Prod.ext ?_ rfl
  funext c' i'
  show up2 (up2 m.1 c i x) c i y c' i' = m.1 c' i'
  unfold up2
  by_cases q : c' = c ∧ i' = i
  · rw [if_pos q, q.1, q.2, e]
  · rw [if_neg q, if_neg q]
theorem sX12_greatestZone {m : HH} {L : Int → Int} (hl : ∀ z, nX12_loadOf m z = some (L z)) : nX12_greatestZone m = some (fz L) := by
  have s3 : ∀ x, nX12_greatestZone_4 m (99997 + 1) x 3 = some x := fun x => by
    rw [nX12_greatestZone_4_s]
    simp only [bX12_greatestZone_4]
    rw [if_neg (by decide)]
  have s2 : ∀ x, nX12_greatestZone_4 m (99998 + 1) x 2 = some (if L x < L 2 then 2 else x) := fun x => by
    rw [nX12_greatestZone_4_s]
    simp only [bX12_greatestZone_4, nX12_greatestZone_27, bX12_greatestZone_27]
    rw [if_pos (by decide), hl, bnd_some, hl, bnd_some]
    by_cases c : L x < L 2
    · rw [if_pos c, if_pos c, gd_t (by decide)]; exact s3 2
    · rw [if_neg c, if_neg c, gd_t (by decide)]; exact s3 x
  unfold nX12_greatestZone bX12_greatestZone
  rw [show (100000 : Nat) = 99999 + 1 from rfl, nX12_greatestZone_4_s]
  simp only [bX12_greatestZone_4, nX12_greatestZone_27, bX12_greatestZone_27]
  rw [if_pos (by decide), hl, bnd_some, hl, bnd_some]
  unfold fz
  by_cases c : L 0 < L 1
  · rw [if_pos c, if_pos c, gd_t (by decide)]; exact s2 1
  · rw [if_neg c, if_neg c, gd_t (by decide)]; exact s2 0
theorem sX12_leastZone {m : HH} {L : Int → Int} (hl : ∀ z, nX12_loadOf m z = some (L z)) : nX12_leastZone m = some (bz L) := by
  have s3 : ∀ x, nX12_leastZone_4 m (99997 + 1) x (-1) = some x := fun x => by
    rw [nX12_leastZone_4_s]
    simp only [bX12_leastZone_4]
    rw [if_pos (by decide)]
  have s2 : ∀ x, nX12_leastZone_4 m (99998 + 1) x 0 = some (if L 0 < L x then 0 else x) := fun x => by
    rw [nX12_leastZone_4_s]
    simp only [bX12_leastZone_4, nX12_leastZone_26, bX12_leastZone_26]
    rw [if_neg (by decide), hl, bnd_some, hl, bnd_some]
    by_cases c : L 0 < L x
    · rw [if_pos c, if_pos c, gd_t (by decide)]; exact s3 0
    · rw [if_neg c, if_neg c, gd_t (by decide)]; exact s3 x
  unfold nX12_leastZone bX12_leastZone
  rw [show (100000 : Nat) = 99999 + 1 from rfl, nX12_leastZone_4_s]
  simp only [bX12_leastZone_4, nX12_leastZone_26, bX12_leastZone_26]
  rw [if_neg (by decide), hl, bnd_some, hl, bnd_some]
  unfold bz
  by_cases c : L 1 < L 2
  · rw [if_pos c, if_pos c, gd_t (by decide)]; exact s2 1
  · rw [if_neg c, if_neg c, gd_t (by decide)]; exact s2 2
theorem sX12_apart {m : HH} {L : Int → Int} (hl : ∀ z, nX12_loadOf m z = some (L z)) (hb : ∀ z, 0 ≤ L z ∧ L z ≤ 13500) : nX12_apart m = some (sp L) := by
  have h1 := hb (fz L)
  have h2 := hb (bz L)
  have h3 := fz_c L
  have h4 := bz_c L
  unfold nX12_apart bX12_apart
  rw [sX12_greatestZone hl, bnd_some, hl, bnd_some, sX12_leastZone hl, bnd_some, hl, bnd_some, gd_t (by omega), h3.2, h4.2]
  rfl
theorem sX12_scan {m : HH} (hv : VAL h.1) (hm : RM h.1 m) {T : Nat} (hT : m.1 71 9 = T) (h60 : T ≤ 60) (hs : ∀ s : Nat, s < T → (0 ≤ m.1 72 s ∧ m.1 72 s ≤ 15) ∧ (0 ≤ m.1 73 s ∧ m.1 73 s ≤ 15)) : ∀ (r N k : Nat), r < N → k + r = 15 → nX12_balances_21 N (fz (ldZ h.1 (m.1 100))) (bz (ldZ h.1 (m.1 100))) (scn h.1 (m.1 72) (m.1 73) (m.1 100) T k).2 (scn h.1 (m.1 72) (m.1 73) (m.1 100) T k).1 ((k : Int) + 1) m = some (if (scn h.1 (m.1 72) (m.1 73) (m.1 100) T 15).1 = -1 then (0, m) else (1, hI m 100 (scn h.1 (m.1 72) (m.1 73) (m.1 100) T 15).1 (bz (ldZ h.1 (m.1 100))))) := by
  have hf := fz_c (ldZ h.1 (m.1 100))
  have hb := bz_c (ldZ h.1 (m.1 100))
  have hne := fz_ne (ldZ h.1 (m.1 100))
  intro r
  induction r with
  | zero =>
    intro N k hN hk
    obtain ⟨M, rfl⟩ := fuel_s hN
    have hk : k = 15 := by omega
    rw [hk]
    have hc := scn_c (K := h.1) (f := m.1 72) (t := m.1 73) (zn := m.1 100) (T := T) 15
    rw [nX12_balances_21_s]
    simp only [bX12_balances_21, nX12_balances_119, bX12_balances_119]
    rw [if_neg (by decide)]
    by_cases c : (scn h.1 (m.1 72) (m.1 73) (m.1 100) T 15).1 = -1
    · rw [if_pos c, if_pos c, if_pos c, gd_t (by decide)]
    · have hg : 1 ≤ (scn h.1 (m.1 72) (m.1 73) (m.1 100) T 15).1 ∧ (scn h.1 (m.1 72) (m.1 73) (m.1 100) T 15).1 ≤ 15 := by
        rcases hc with q | q
        · rw [q] at c; exact absurd rfl c
        · exact q.1
      rw [if_neg c, if_neg c, gd_t (by omega), bnd_some, if_neg c, gd_t (by decide)]
  | succ r ih =>
    intro N k hN hk
    obtain ⟨M, rfl⟩ := fuel_s hN
    have nx := ih M (k + 1) (by omega) (by omega)
    have ek : ((k + 1 : Nat) : Int) = (k : Int) + 1 := by omega
    rw [ek] at nx
    have hpb := ldP_b hv ((k : Int) + 1)
    have h01 := bsd_01 (f := m.1 72) (t := m.1 73) (zn := m.1 100) (p := (k : Int) + 1) (z := bz (ldZ h.1 (m.1 100))) T
    have hm4 : RM h.1 (hI m 100 ((k : Int) + 1) (bz (ldZ h.1 (m.1 100)))) := RM_eq hm (fun c hc => rI_n (by omega)) (fun i hi => by rw [rI_n (by decide)])
    rw [nX12_balances_21_s]
    simp only [bX12_balances_21, nX12_balances_91, bX12_balances_91, nX12_balances_99, bX12_balances_99]
    rw [if_pos (by omega), if_neg hne, gd_t (by omega)]
    by_cases c1 : m.1 100 ((k : Int) + 1) = fz (ldZ h.1 (m.1 100))
    · rw [if_pos c1, sX12_loadOfPlace hv hm, bnd_some]
      by_cases c2 : ldP h.1 ((k : Int) + 1) = 0
      · rw [if_pos c2, gd_t (by omega)]
        rw [scn, if_neg (fun q => q.1.2.1 c2)] at nx
        exact nx
      · rw [if_neg c2, sX12_isBeside hT h60 hs, bnd_some]
        by_cases c3 : bsd (m.1 72) (m.1 73) (m.1 100) ((k : Int) + 1) (bz (ldZ h.1 (m.1 100))) T = 1
        · have c3' : ¬ bsd (m.1 72) (m.1 73) (m.1 100) ((k : Int) + 1) (bz (ldZ h.1 (m.1 100))) T = 0 := by omega
          have hl : ∀ z, nX12_loadOf (hI m 100 ((k : Int) + 1) (bz (ldZ h.1 (m.1 100)))) z = some (ldZ h.1 (updI (m.1 100) ((k : Int) + 1) (bz (ldZ h.1 (m.1 100)))) z) := fun z => by
            rw [sX12_loadOf hv hm4, rI_s]
          have ea := sX12_apart hl (fun z => ldZ_b hv _ z)
          have hsp : sp (ldZ h.1 (updI (m.1 100) ((k : Int) + 1) (bz (ldZ h.1 (m.1 100))))) = sp (mvL (ldZ h.1 (m.1 100)) (fz (ldZ h.1 (m.1 100))) (bz (ldZ h.1 (m.1 100))) (ldP h.1 ((k : Int) + 1))) := sp_cg (ldZ_mv (by omega) (by omega) c1 hne 0) (ldZ_mv (by omega) (by omega) c1 hne 1) (ldZ_mv (by omega) (by omega) c1 hne 2)
          rw [hsp] at ea
          rw [if_neg c3', gd_t (by omega), bnd_some, ea, bnd_some, bnd_some]
          by_cases c4 : sp (mvL (ldZ h.1 (m.1 100)) (fz (ldZ h.1 (m.1 100))) (bz (ldZ h.1 (m.1 100))) (ldP h.1 ((k : Int) + 1))) < (scn h.1 (m.1 72) (m.1 73) (m.1 100) T k).2
          · rw [if_pos c4, gd_t (by omega), bnd_some, gd_t (by omega), hI_back c1]
            rw [scn, if_pos ⟨⟨c1, c2, c3⟩, c4⟩] at nx
            exact nx
          · rw [if_neg c4, gd_t (by omega), bnd_some, gd_t (by omega), hI_back c1]
            rw [scn, if_neg (fun q => c4 q.2)] at nx
            exact nx
        · have c3' : bsd (m.1 72) (m.1 73) (m.1 100) ((k : Int) + 1) (bz (ldZ h.1 (m.1 100))) T = 0 := by omega
          rw [if_pos c3', gd_t (by omega)]
          rw [scn, if_neg (fun q => c3 q.1.2.2)] at nx
          exact nx
    · rw [if_neg c1, gd_t (by omega)]
      rw [scn, if_neg (fun q => c1 q.1.1)] at nx
      exact nx
theorem sX12_balances {m : HH} (hv : VAL h.1) (hm : RM h.1 m) {T : Nat} (hT : m.1 71 9 = T) (h60 : T ≤ 60) (hs : ∀ s : Nat, s < T → (0 ≤ m.1 72 s ∧ m.1 72 s ≤ 15) ∧ (0 ≤ m.1 73 s ∧ m.1 73 s ≤ 15)) : nX12_balances m = some (if (scn h.1 (m.1 72) (m.1 73) (m.1 100) T 15).1 = -1 then (0, m) else (1, hI m 100 (scn h.1 (m.1 72) (m.1 73) (m.1 100) T 15).1 (bz (ldZ h.1 (m.1 100))))) := by
  have hl : ∀ z, nX12_loadOf m z = some (ldZ h.1 (m.1 100) z) := fun z => sX12_loadOf hv hm z
  unfold nX12_balances bX12_balances
  rw [sX12_greatestZone hl, bnd_some, sX12_leastZone hl, bnd_some, sX12_apart hl (fun z => ldZ_b hv _ z), bnd_some]
  exact sX12_scan hv hm hT h60 hs 15 100000 0 (by omega) (by omega)
theorem inv_zone (i : INV h h') {x1 x2 : Int} (p1 : 1 ≤ x1 ∧ x1 ≤ 15) (p2 : 0 ≤ x2 ∧ x2 ≤ 2) : INV (hI h 63 x1 x2) (hI h' 100 x1 x2) := by
  obtain ⟨⟨⟨a1, a2⟩, a3, a4, a5⟩, ⟨b1, b2, b3⟩, c1, c2, c3⟩ := i
  obtain ⟨d1, d2, d3⟩ := c2
  have f : cTc (scT (fun c => c = 63)) h (hI h 63 x1 x2) := cTc_of (S := fun c _ => c = 63) (fr_I fr_r rfl) (fun c i s => Or.inr s)
  have f' : cTm (scU (fun c => c = 100)) (sc7 (fun i => i = 10)) h' (hI h' 100 x1 x2) := cTm_of (S := fun c i => c = 100) (fr_I fr_r (by omega)) (fun c i s h7 => by dsimp only [scU]; omega) (fun i s => by dsimp only [sc7]; omega)
  refine ⟨⟨⟨(VAL_eq a1 (fun c hc => f.2 c (by dsimp only [scT, scU, sc7, rC, rMm, r7]; omega)) (by rw [f.2 13 (by dsimp only [scT, scU, sc7, rC, rMm, r7]; omega)]; exact ⟨rfl, rfl⟩)), (RM_eq (RM_K a2 (fun c hc => f.2 c (by dsimp only [scT, scU, sc7, rC, rMm, r7]; omega)) (by rw [f.2 13 (by dsimp only [scT, scU, sc7, rC, rMm, r7]; omega)]; exact ⟨rfl, rfl⟩)) (fun c hc => f'.2.1 c (by omega) (by dsimp only [scT, scU, sc7, rC, rMm, r7]; omega)) (fun i hi => f'.2.2 i (by dsimp only [scT, scU, sc7, rC, rMm, r7]; omega)))⟩, (iS_eq a3 (fun c hc => f.2 c (by dsimp only [scT, scU, sc7, rC, rMm, r7]; omega)) (fun c hc => f'.2.1 c (by omega) (by dsimp only [scT, scU, sc7, rC, rMm, r7]; omega)) (f'.2.2 9 (by dsimp only [scT, scU, sc7, rC, rMm, r7]; omega))), (iY_eq a4 (fun c hc => f.2 c (by dsimp only [scT, scU, sc7, rC, rMm, r7]; omega)) (fun c hc => f'.2.1 c (by omega) (by dsimp only [scT, scU, sc7, rC, rMm, r7]; omega))), (iF_eq a5 (f.2 10 (by dsimp only [scT, scU, sc7, rC, rMm, r7]; omega)) (f'.2.1 77 (by omega) (by dsimp only [scT, scU, sc7, rC, rMm, r7]; omega)))⟩, ⟨(iR_eq b1 (f.2 7 (by dsimp only [scT, scU, sc7, rC, rMm, r7]; omega)) (fun c hc => f.2 c (by dsimp only [scT, scU, sc7, rC, rMm, r7]; omega)) (by rw [f.2 13 (by dsimp only [scT, scU, sc7, rC, rMm, r7]; omega)]; exact ⟨rfl, rfl⟩) (fun c hc => f'.2.1 c (by omega) (by dsimp only [scT, scU, sc7, rC, rMm, r7]; omega))), (iH_eq b2 (f.2 7 (by dsimp only [scT, scU, sc7, rC, rMm, r7]; omega)) (fun c hc => f.2 c (by dsimp only [scT, scU, sc7, rC, rMm, r7]; omega)) (by rw [f.2 13 (by dsimp only [scT, scU, sc7, rC, rMm, r7]; omega)]; exact ⟨rfl, rfl⟩) (fun c hc => f'.2.1 c (by omega) (by dsimp only [scT, scU, sc7, rC, rMm, r7]; omega)) (f'.2.2 30 (by dsimp only [scT, scU, sc7, rC, rMm, r7]; omega))), (iQ_eq b3 (fun c hc => f.2 c (by dsimp only [scT, scU, sc7, rC, rMm, r7]; omega)) (by rw [f.2 13 (by dsimp only [scT, scU, sc7, rC, rMm, r7]; omega)]) (by rw [f.2 67 (by dsimp only [scT, scU, sc7, rC, rMm, r7]; omega)]) (fun c hc => f'.2.1 c (by omega) (by dsimp only [scT, scU, sc7, rC, rMm, r7]; omega)))⟩, (iO_eq c1 (f.2 59 (by dsimp only [scT, scU, sc7, rC, rMm, r7]; omega)) (fun c hc => f'.2.1 c (by omega) (by dsimp only [scT, scU, sc7, rC, rMm, r7]; omega)) (fun i hi => f'.2.2 i (by dsimp only [scT, scU, sc7, rC, rMm, r7]; omega))), ?_, (by rw [f.1, f'.1]; exact iL_eq c3 (f.2 67 (by dsimp only [scT, scU, sc7, rC, rMm, r7]; omega)) (fun i hi => f'.2.2 i (by dsimp only [scT, scU, sc7, rC, rMm, r7]; omega)))⟩
  unfold iD
  simp (disch := decide) only [rI_s, rI_n, rI_2, rC_s, rC_n, rC_2, rJ_1, rJ_s, rJ_n, updI_at, if_pos, if_neg]
  refine ⟨d1, fun p p3 p4 => ⟨?_, (d2 p p3 p4).2⟩, ?_, d3.2⟩
  · by_cases q : p = x1
    · rw [if_pos q, if_pos q]; exact ⟨rfl, p2⟩
    · rw [if_neg q, if_neg q]; exact (d2 p p3 p4).1
  · rw [if_neg (by omega)]; exact d3.1
def spZ (h : HH) : Int := sp (ldZ h.1 (h.1 63))
theorem bal_once (i : INV h h') : Ok (nX0_balanceOnce h) (fun a => Ok (nX12_balances h') (fun b => INV a.2 b.2 ∧ ((a.1 = 0 ∧ b.1 = 0) ∨ (a.1 = 1 ∧ b.1 = 1 ∧ spZ a.2 < spZ h)))) := by
  have i0 := i
  have hv := i.1.1.1
  have hm := i.1.1.2
  have hS := i.1.2.1
  have hS1 := hS.1
  have hD := i.2.2.2.1
  have hT : h.1 3 3 = ((h.1 3 3).toNat : Nat) := by omega
  have hst : ∀ s : Nat, s < (h.1 3 3).toNat → (h'.1 72 s = h.1 4 s ∧ h'.1 73 s = h.1 5 s) ∧ ((0 ≤ h.1 4 s ∧ h.1 4 s ≤ 15) ∧ (0 ≤ h.1 5 s ∧ h.1 5 s ≤ 15)) := fun s hs => by
    have := hS.2 s (by omega) (by omega)
    omega
  have hbz := bz_c (ldZ h.1 (h.1 63))
  have eL : ldZ h.1 (h'.1 100) = ldZ h.1 (h.1 63) := funext (fun z => inv_ldZ i z)
  have eS : scn h.1 (h'.1 72) (h'.1 73) (h'.1 100) (h.1 3 3).toNat 15 = scn h.1 (h.1 4) (h.1 5) (h.1 63) (h.1 3 3).toNat 15 := scn_cg (fun _ => rfl) eL (fun o o1 o2 => (hD.2.1 o o1 o2).1.1.symm) hst 15 (by omega)
  have em := sX12_balances (m := h') hv hm (T := (h.1 3 3).toNat) (by omega) (by omega) (fun s hs => by have := hst s hs; omega)
  rw [eS, eL] at em
  have hc := scn_c (K := h.1) (f := h.1 4) (t := h.1 5) (zn := h.1 63) (T := (h.1 3 3).toNat) 15
  refine ok_mono (sX0_balanceOnce hv hT (by omega) (fun s hs => (hst s hs).2)) (fun a ha => ?_)
  rcases ha with ⟨g, a1, f⟩ | ⟨g, a1, f⟩
  · rw [if_pos g] at em
    refine ok_of em ⟨INV_scr i0 (fr_m (fun c i q => by unfold scC; omega) f) fr_r, Or.inl ⟨a1, rfl⟩⟩
  · rw [if_neg g] at em
    rcases hc with q | ⟨q1, q2, q3, q4⟩
    · rw [q] at g; exact absurd rfl g
    · refine ok_of em ⟨INV_scr (inv_zone i0 (by omega) (by omega)) (fr_m (fun c i q => by unfold scC; omega) f) fr_r, Or.inr ⟨a1, rfl, ?_⟩⟩
      have e : ∀ z, ldZ a.2.1 (a.2.1 63) z = mvL (ldZ h.1 (h.1 63)) (fz (ldZ h.1 (h.1 63))) (bz (ldZ h.1 (h.1 63))) (ldP h.1 (scn h.1 (h.1 4) (h.1 5) (h.1 63) (h.1 3 3).toNat 15).1) z := fun z => by
        rw [ldZ_fr64 f, rI_s, ← ldZ_mv (by omega) (by omega) q3 (fz_ne _)]
        refine sumS_cg (fun j hj => ?_)
        have eP : ldP (hI h 63 (scn h.1 (h.1 4) (h.1 5) (h.1 63) (h.1 3 3).toNat 15).1 (bz (ldZ h.1 (h.1 63)))).1 ((j : Int) + 1) = ldP h.1 ((j : Int) + 1) := ldP_fr (c0 := 63) (fr_I fr_r rfl) (by decide) _
        unfold ldJ
        rw [eP]
      show sp (ldZ a.2.1 (a.2.1 63)) < sp (ldZ h.1 (h.1 63))
      rw [sp_cg (e 0) (e 1) (e 2), ← q4]
      exact q2
theorem bal_loop : ∀ (r N M : Nat) (x : Int) (h h' : HH), INV h h' → spZ h ≤ r → r < N → r < M → 0 ≤ x → x + r ≤ 100000 → Ok (nX11_balance_2 N x h) (fun z => Ok (nX12_balance_2 M x h') (fun r => (r.2.1 71 10 = 0 ∧ r.1 = z.1) ∧ INV z.2 r.2)) := by
  intro r
  induction r with
  | zero =>
    intro N M x h h' i hs hN hM x0 x1
    obtain ⟨N, rfl⟩ := fuel_s hN
    obtain ⟨M, rfl⟩ := fuel_s hM
    rw [nX11_balance_2_s, nX12_balance_2_s]
    simp only [bX11_balance_2, bX12_balance_2]
    refine ok_pos (by omega) ?_
    refine ok_bnd (bal_once i) (fun a ha => ?_)
    obtain ⟨b, eb, ib, hb⟩ := ha
    have hp := sp_b (ldZ_b ib.1.1.1 (a.2.1 63))
    rcases hb with ⟨b1, b2⟩ | ⟨b1, b2, b3⟩
    · refine ok_pos b1 ?_
      refine ok_some ?_
      refine ok_be eb ?_
      refine ok_pos b2 ?_
      refine ok_be (sX12_told _ _) ?_
      exact ok_some ⟨⟨rI_s ▸ updI_s, rfl⟩, INV_thr ib⟩
    · have : spZ a.2 = sp (ldZ a.2.1 (a.2.1 63)) := rfl
      omega
  | succ r ih =>
    intro N M x h h' i hs hN hM x0 x1
    obtain ⟨N, rfl⟩ := fuel_s hN
    obtain ⟨M, rfl⟩ := fuel_s hM
    rw [nX11_balance_2_s, nX12_balance_2_s]
    simp only [bX11_balance_2, bX12_balance_2]
    refine ok_pos (by omega) ?_
    refine ok_bnd (bal_once i) (fun a ha => ?_)
    obtain ⟨b, eb, ib, hb⟩ := ha
    rcases hb with ⟨b1, b2⟩ | ⟨b1, b2, b3⟩
    · refine ok_pos b1 ?_
      refine ok_some ?_
      refine ok_be eb ?_
      refine ok_pos b2 ?_
      refine ok_be (sX12_told _ _) ?_
      exact ok_some ⟨⟨rI_s ▸ updI_s, rfl⟩, INV_thr ib⟩
    · refine ok_neg (by omega) ?_
      refine ok_gd (by omega) ?_
      refine ok_mono (ih N M (x + 1) a.2 b.2 ib (by omega) (by omega) (by omega) (by omega) (by omega)) (fun z hz => ?_)
      refine ok_be eb ?_
      refine ok_neg (by omega) ?_
      refine ok_gd (by omega) ?_
      exact hz
theorem op_balance (i : INV h h') : bothW (nX11_balance h) (nX12_balance h') := by
  have hp := sp_b (ldZ_b i.1.1.1 (h.1 63))
  have : spZ h = sp (ldZ h.1 (h.1 63)) := rfl
  unfold nX11_balance bX11_balance nX12_balance bX12_balance bothW
  exact bal_loop 13500 100000 100000 0 h h' i (by omega) (by omega) (by omega) (by omega) (by omega)
end BAL
