/-! THE REMEMBERED ROUNDS: remembered, undone, forgotten; a row laid as a round -/
def sHi : Nat → Int → Prop := fun c i => c = 33 ∨ (c = 32 ∧ (i = 1 ∨ i = 2))
section X
variable {h : HH}
theorem rw0 : rwK 3 28 0 = 28 := rfl
theorem rw1 : rwK 3 28 1 = 29 := rfl
theorem rw2 : rwK 3 28 2 = 30 := rfl
/-- the row of remembered words behind one entry more at a -/
def remR (K : Nat → Int → Int) (a j : Int) : Int := if j = a then K 31 0 else if j = a + 1 then K 31 1 else if j = a + 2 then K 31 2 else if a + 3 ≤ j ∧ j < a + 3 + K 31 0 then K 28 (j - (a + 3)) else if a + 3 + K 31 0 ≤ j ∧ j < a + 3 + K 31 0 + K 31 1 then K 29 (j - (a + 3 + K 31 0)) else if a + 3 + K 31 0 + K 31 1 ≤ j ∧ j < a + 3 + K 31 0 + K 31 1 + K 31 2 then K 30 (j - (a + 3 + K 31 0 + K 31 1)) else K 33 j
theorem sX3_remember_32 (h1 : 0 ≤ h.1 32 1 ∧ h.1 32 1 < 20) (h2 : 0 ≤ h.1 32 2 ∧ h.1 32 2 < 20) (l0 : 0 ≤ h.1 31 0) (l1 : 0 ≤ h.1 31 1) (l2 : 0 ≤ h.1 31 2) (l9 : h.1 31 0 + h.1 31 1 + h.1 31 2 ≤ 9) : Ok (nX3_remember_32 h) (fun g => (g.1 32 1 = h.1 32 1 ∧ g.1 32 2 = h.1 32 2 + 1) ∧ (∀ j, g.1 33 j = remR h.1 (hAt h.1 (h.1 32 2)) j) ∧ Fr sHi h g) := by
  simp only [nX3_remember_32, bX3_remember_32]
  have ea : ((h.1 32 1 + h.1 32 2) % 20) * 12 = hAt h.1 (h.1 32 2) := rfl
  rw [ea]
  generalize hAt h.1 (h.1 32 2) = a at ea ⊢
  have ha : 0 ≤ a ∧ a ≤ 228 := by omega
  repeat (first | with_reducible refine ok_gd (by first | omega | decide) ?_ | with_reducible refine ok_bs ?_ | with_reducible refine ok_pos (by omega) ?_ | with_reducible refine ok_neg (by omega) ?_ | with_reducible refine ok_tl ?_ | with_reducible refine ok_tr ?_)
  rw [show (100000 : Nat) = 99996 + 1 + 1 + 1 + 1 from rfl, nX3_remember_65_s, nX3_remember_65_s, nX3_remember_65_s, nX3_remember_65_s]
  simp only [bX3_remember_65, Int.reduceAdd, rw0, rw1, rw2]
  repeat (first | with_reducible refine ok_gd (by first | omega | decide) ?_ | with_reducible refine ok_bs ?_ | with_reducible refine ok_pos (by omega) ?_ | with_reducible refine ok_neg (by omega) ?_ | with_reducible refine ok_tl ?_ | with_reducible refine ok_tr ?_ | simp (disch := decide) only [rI_s, rI_n, rI_2, rC_s, rC_n, rC_2, rJ_1, rJ_s, rJ_n, updI_at, if_pos, if_neg])
  refine ok_bf rfl ?_
  repeat (first | with_reducible refine ok_gd (by first | omega | decide) ?_ | with_reducible refine ok_bs ?_ | with_reducible refine ok_pos (by omega) ?_ | with_reducible refine ok_neg (by omega) ?_ | with_reducible refine ok_tl ?_ | with_reducible refine ok_tr ?_ | simp (disch := decide) only [rI_s, rI_n, rI_2, rC_s, rC_n, rC_2, rJ_1, rJ_s, rJ_n, updI_at, if_pos, if_neg])
  refine ok_bt rfl ?_
  rw [show lnK 28 = 9 from rfl]
  repeat (first | with_reducible refine ok_gd (by first | omega | decide) ?_ | with_reducible refine ok_bs ?_ | with_reducible refine ok_pos (by omega) ?_ | with_reducible refine ok_neg (by omega) ?_ | with_reducible refine ok_tl ?_ | with_reducible refine ok_tr ?_ | simp (disch := decide) only [rI_s, rI_n, rI_2, rC_s, rC_n, rC_2, rJ_1, rJ_s, rJ_n, updI_at, if_pos, if_neg])
  refine ok_bf rfl ?_
  repeat (first | with_reducible refine ok_gd (by first | omega | decide) ?_ | with_reducible refine ok_bs ?_ | with_reducible refine ok_pos (by omega) ?_ | with_reducible refine ok_neg (by omega) ?_ | with_reducible refine ok_tl ?_ | with_reducible refine ok_tr ?_ | simp (disch := decide) only [rI_s, rI_n, rI_2, rC_s, rC_n, rC_2, rJ_1, rJ_s, rJ_n, updI_at, if_pos, if_neg])
  refine ok_bt rfl ?_
  rw [show lnK 29 = 9 from rfl]
  repeat (first | with_reducible refine ok_gd (by first | omega | decide) ?_ | with_reducible refine ok_bs ?_ | with_reducible refine ok_pos (by omega) ?_ | with_reducible refine ok_neg (by omega) ?_ | with_reducible refine ok_tl ?_ | with_reducible refine ok_tr ?_ | simp (disch := decide) only [rI_s, rI_n, rI_2, rC_s, rC_n, rC_2, rJ_1, rJ_s, rJ_n, updI_at, if_pos, if_neg])
  refine ok_bf rfl ?_
  repeat (first | with_reducible refine ok_gd (by first | omega | decide) ?_ | with_reducible refine ok_bs ?_ | with_reducible refine ok_pos (by omega) ?_ | with_reducible refine ok_neg (by omega) ?_ | with_reducible refine ok_tl ?_ | with_reducible refine ok_tr ?_ | simp (disch := decide) only [rI_s, rI_n, rI_2, rC_s, rC_n, rC_2, rJ_1, rJ_s, rJ_n, updI_at, if_pos, if_neg])
  refine ok_bt rfl ?_
  rw [show lnK 30 = 9 from rfl]
  repeat (first | with_reducible refine ok_gd (by first | omega | decide) ?_ | with_reducible refine ok_bs ?_ | with_reducible refine ok_pos (by omega) ?_ | with_reducible refine ok_neg (by omega) ?_ | with_reducible refine ok_tl ?_ | with_reducible refine ok_tr ?_ | simp (disch := decide) only [rI_s, rI_n, rI_2, rC_s, rC_n, rC_2, rJ_1, rJ_s, rJ_n, updI_at, if_pos, if_neg])
  refine ok_some ⟨⟨?_, ?_⟩, fun j => ?_, ?_⟩
  · simp (disch := decide) only [rI_s, rI_n, rI_2, rC_s, rC_n, rC_2, rJ_1, rJ_s, rJ_n, updI_at, if_pos, if_neg]
  · simp (disch := decide) only [rI_s, rI_n, rI_2, rC_s, rC_n, rC_2, rJ_1, rJ_s, rJ_n, updI_at, if_pos, if_neg]
  · simp (disch := decide) only [rI_s, rI_n, rI_2, rC_s, rC_n, rC_2, rJ_1, rJ_s, rJ_n, updI_at, if_pos, if_neg]
    unfold remR
    simp only [Int.zero_add, Int.add_zero]
    (repeat' split) <;> first | rfl | omega
  · repeat (first | exact fr_r | refine fr_I ?_ (by unfold sHi; omega) | refine fr_C ?_ (by unfold sHi; omega))
theorem sX3_remember (h1 : 0 ≤ h.1 32 1 ∧ h.1 32 1 < 20) (h2 : 0 ≤ h.1 32 2 ∧ h.1 32 2 ≤ 20) (l0 : 0 ≤ h.1 31 0) (l1 : 0 ≤ h.1 31 1) (l2 : 0 ≤ h.1 31 2) (l9 : h.1 31 0 + h.1 31 1 + h.1 31 2 ≤ 9) : Ok (nX3_remember h) (fun g => ∃ sh : Int, (sh = 0 ∨ sh = 1) ∧ (sh = 1 ↔ h.1 32 2 = 20) ∧ (g.1 32 1 = (h.1 32 1 + sh) % 20 ∧ g.1 32 2 = h.1 32 2 - sh + 1) ∧ (∀ j, g.1 33 j = remR h.1 (hAt h.1 (h.1 32 2)) j) ∧ Fr sHi h g) := by
  simp only [nX3_remember, bX3_remember]
  by_cases c : h.1 32 2 = 20
  · repeat (first | with_reducible refine ok_gd (by first | omega | decide) ?_ | with_reducible refine ok_bs ?_ | with_reducible refine ok_pos (by omega) ?_ | with_reducible refine ok_neg (by omega) ?_ | with_reducible refine ok_tl ?_ | with_reducible refine ok_tr ?_ | simp (disch := decide) only [rI_s, rI_n, rI_2, rC_s, rC_n, rC_2, rJ_1, rJ_s, rJ_n, updI_at, if_pos, if_neg])
    have e31 : ∀ x y : Int, (hI (hI h 32 1 x) 32 2 y).1 31 = h.1 31 := fun x y => by rw [rI_n (by decide), rI_n (by decide)]
    have e33 : ∀ x y : Int, (hI (hI h 32 1 x) 32 2 y).1 33 = h.1 33 := fun x y => by rw [rI_n (by decide), rI_n (by decide)]
    have e28 : ∀ x y : Int, (hI (hI h 32 1 x) 32 2 y).1 28 = h.1 28 ∧ (hI (hI h 32 1 x) 32 2 y).1 29 = h.1 29 ∧ (hI (hI h 32 1 x) 32 2 y).1 30 = h.1 30 := fun x y => by rw [rI_n (by decide), rI_n (by decide), rI_n (by decide), rI_n (by decide), rI_n (by decide), rI_n (by decide)]; exact ⟨rfl, rfl, rfl⟩
    have d1 : ∀ x y : Int, (hI (hI h 32 1 x) 32 2 y).1 32 1 = x := fun x y => by simp (disch := decide) only [rI_s, rI_n, rI_2, rC_s, rC_n, rC_2, rJ_1, rJ_s, rJ_n, updI_at, if_pos, if_neg]
    have d2 : ∀ x y : Int, (hI (hI h 32 1 x) 32 2 y).1 32 2 = y := fun x y => by simp (disch := decide) only [rI_s, rI_n, rI_2, rC_s, rC_n, rC_2, rJ_1, rJ_s, rJ_n, updI_at, if_pos, if_neg]
    refine ok_mono (sX3_remember_32 (by rw [d1]; omega) (by rw [d2]; omega) (by rw [e31]; omega) (by rw [e31]; omega) (by rw [e31]; omega) (by rw [e31]; omega)) (fun g q => ⟨1, Or.inr rfl, by omega, ⟨?_, ?_⟩, fun j => ?_, ?_⟩)
    · rw [q.1.1, d1]
    · rw [q.1.2, d2]
    · rw [q.2.1 j]
      have ea : hAt (hI (hI h 32 1 ((h.1 32 1 + 1) % 20)) 32 2 (h.1 32 2 - 1)).1 ((hI (hI h 32 1 ((h.1 32 1 + 1) % 20)) 32 2 (h.1 32 2 - 1)).1 32 2) = hAt h.1 (h.1 32 2) := by
        unfold hAt
        rw [d1, d2]
        omega
      rw [ea]
      unfold remR
      rw [e31, e33, (e28 _ _).1, (e28 _ _).2.1, (e28 _ _).2.2]
    · refine fr_t (fr_I (fr_I fr_r ?_) ?_) q.2.2 <;> (unfold sHi; omega)
  · repeat (first | with_reducible refine ok_gd (by first | omega | decide) ?_ | with_reducible refine ok_bs ?_ | with_reducible refine ok_pos (by omega) ?_ | with_reducible refine ok_neg (by omega) ?_ | with_reducible refine ok_tl ?_ | with_reducible refine ok_tr ?_ | simp (disch := decide) only [rI_s, rI_n, rI_2, rC_s, rC_n, rC_2, rJ_1, rJ_s, rJ_n, updI_at, if_pos, if_neg])
    exact ok_mono (sX3_remember_32 h1 (by omega) l0 l1 l2 l9) (fun g q => ⟨0, Or.inl rfl, by omega, ⟨by rw [q.1.1]; omega, by rw [q.1.2]; omega⟩, q.2.1, q.2.2⟩)
/-- the rounds undone to -/
def sRst : Nat → Int → Prop := fun c i => (28 ≤ c ∧ c ≤ 31) ∨ (c = 32 ∧ i = 2)
theorem sX3_restore (h1 : 0 ≤ h.1 32 1 ∧ h.1 32 1 < 20) (h2 : 0 < h.1 32 2 ∧ h.1 32 2 ≤ 20) (a : Int) (ea : a = hAt h.1 (h.1 32 2 - 1)) (l0 : 0 ≤ h.1 33 a) (l1 : 0 ≤ h.1 33 (a + 1)) (l2 : 0 ≤ h.1 33 (a + 2)) (l9 : h.1 33 a + h.1 33 (a + 1) + h.1 33 (a + 2) ≤ 9) : Ok (nX3_restore h) (fun g => g.1 32 2 = h.1 32 2 - 1 ∧ ((g.1 31 0 = h.1 33 a ∧ g.1 31 1 = h.1 33 (a + 1) ∧ g.1 31 2 = h.1 33 (a + 2)) ∧ (rnd g.1 0 = hL h.1 a 0 ∧ rnd g.1 1 = hL h.1 a 1 ∧ rnd g.1 2 = hL h.1 a 2)) ∧ Fr sRst h g) := by
  simp only [nX3_restore, bX3_restore]
  repeat (first | with_reducible refine ok_gd (by first | omega | decide) ?_ | with_reducible refine ok_bs ?_ | with_reducible refine ok_pos (by omega) ?_ | with_reducible refine ok_neg (by omega) ?_ | with_reducible refine ok_tl ?_ | with_reducible refine ok_tr ?_ | simp (disch := decide) only [rI_s, rI_n, rI_2, rC_s, rC_n, rC_2, rJ_1, rJ_s, rJ_n, updI_at, if_pos, if_neg])
  have ea : ((h.1 32 1 + (h.1 32 2 - 1)) % 20) * 12 = a := by rw [ea]; unfold hAt; omega
  rw [ea]
  have ha : 0 ≤ a ∧ a ≤ 228 := by omega
  repeat (first | with_reducible refine ok_gd (by first | omega | decide) ?_ | with_reducible refine ok_bs ?_ | with_reducible refine ok_pos (by omega) ?_ | with_reducible refine ok_neg (by omega) ?_ | with_reducible refine ok_tl ?_ | with_reducible refine ok_tr ?_ | simp (disch := decide) only [rI_s, rI_n, rI_2, rC_s, rC_n, rC_2, rJ_1, rJ_s, rJ_n, updI_at, if_pos, if_neg])
  rw [show (100000 : Nat) = 99996 + 1 + 1 + 1 + 1 from rfl, nX3_restore_33_s, nX3_restore_33_s, nX3_restore_33_s, nX3_restore_33_s]
  simp only [bX3_restore_33, Int.reduceAdd, rw0, rw1, rw2]
  repeat (first | with_reducible refine ok_gd (by first | omega | decide) ?_ | with_reducible refine ok_bs ?_ | with_reducible refine ok_pos (by omega) ?_ | with_reducible refine ok_neg (by omega) ?_ | with_reducible refine ok_tl ?_ | with_reducible refine ok_tr ?_ | simp (disch := decide) only [rI_s, rI_n, rI_2, rC_s, rC_n, rC_2, rJ_1, rJ_s, rJ_n, updI_at, if_pos, if_neg])
  refine ok_bf rfl ?_
  repeat (first | with_reducible refine ok_gd (by first | omega | decide) ?_ | with_reducible refine ok_bs ?_ | with_reducible refine ok_pos (by omega) ?_ | with_reducible refine ok_neg (by omega) ?_ | with_reducible refine ok_tl ?_ | with_reducible refine ok_tr ?_ | simp (disch := decide) only [rI_s, rI_n, rI_2, rC_s, rC_n, rC_2, rJ_1, rJ_s, rJ_n, updI_at, if_pos, if_neg])
  refine ok_bt rfl ?_
  rw [show lnK 28 = 9 from rfl, show inS 2 70 28 = true from rfl]
  simp only [cond_true, Int.add_zero]
  repeat (first | with_reducible refine ok_gd (by first | omega | decide) ?_ | with_reducible refine ok_bs ?_ | with_reducible refine ok_pos (by omega) ?_ | with_reducible refine ok_neg (by omega) ?_ | with_reducible refine ok_tl ?_ | with_reducible refine ok_tr ?_ | simp (disch := decide) only [rI_s, rI_n, rI_2, rC_s, rC_n, rC_2, rJ_1, rJ_s, rJ_n, updI_at, if_pos, if_neg])
  refine ok_bf rfl ?_
  repeat (first | with_reducible refine ok_gd (by first | omega | decide) ?_ | with_reducible refine ok_bs ?_ | with_reducible refine ok_pos (by omega) ?_ | with_reducible refine ok_neg (by omega) ?_ | with_reducible refine ok_tl ?_ | with_reducible refine ok_tr ?_ | simp (disch := decide) only [rI_s, rI_n, rI_2, rC_s, rC_n, rC_2, rJ_1, rJ_s, rJ_n, updI_at, if_pos, if_neg])
  refine ok_bt rfl ?_
  rw [show lnK 29 = 9 from rfl, show inS 2 70 29 = true from rfl]
  simp only [cond_true, Int.add_zero]
  repeat (first | with_reducible refine ok_gd (by first | omega | decide) ?_ | with_reducible refine ok_bs ?_ | with_reducible refine ok_pos (by omega) ?_ | with_reducible refine ok_neg (by omega) ?_ | with_reducible refine ok_tl ?_ | with_reducible refine ok_tr ?_ | simp (disch := decide) only [rI_s, rI_n, rI_2, rC_s, rC_n, rC_2, rJ_1, rJ_s, rJ_n, updI_at, if_pos, if_neg])
  refine ok_bf rfl ?_
  repeat (first | with_reducible refine ok_gd (by first | omega | decide) ?_ | with_reducible refine ok_bs ?_ | with_reducible refine ok_pos (by omega) ?_ | with_reducible refine ok_neg (by omega) ?_ | with_reducible refine ok_tl ?_ | with_reducible refine ok_tr ?_ | simp (disch := decide) only [rI_s, rI_n, rI_2, rC_s, rC_n, rC_2, rJ_1, rJ_s, rJ_n, updI_at, if_pos, if_neg])
  refine ok_bt rfl ?_
  rw [show lnK 30 = 9 from rfl, show inS 2 70 30 = true from rfl]
  simp only [cond_true, Int.add_zero]
  repeat (first | with_reducible refine ok_gd (by first | omega | decide) ?_ | with_reducible refine ok_bs ?_ | with_reducible refine ok_pos (by omega) ?_ | with_reducible refine ok_neg (by omega) ?_ | with_reducible refine ok_tl ?_ | with_reducible refine ok_tr ?_ | simp (disch := decide) only [rI_s, rI_n, rI_2, rC_s, rC_n, rC_2, rJ_1, rJ_s, rJ_n, updI_at, if_pos, if_neg])
  refine ok_some ⟨?_, ⟨⟨?_, ?_, ?_⟩, ?_, ?_, ?_⟩, ?_⟩
  · simp (disch := decide) only [rI_s, rI_n, rI_2, rC_s, rC_n, rC_2, rJ_1, rJ_s, rJ_n, updI_at, if_pos, if_neg]
  · simp (disch := decide) only [rI_s, rI_n, rI_2, rC_s, rC_n, rC_2, rJ_1, rJ_s, rJ_n, updI_at, if_pos, if_neg]
  · simp (disch := decide) only [rI_s, rI_n, rI_2, rC_s, rC_n, rC_2, rJ_1, rJ_s, rJ_n, updI_at, if_pos, if_neg]
  · simp (disch := decide) only [rI_s, rI_n, rI_2, rC_s, rC_n, rC_2, rJ_1, rJ_s, rJ_n, updI_at, if_pos, if_neg]
  · unfold rnd hL hOf
    simp only [rw0, rw1, rw2, Int.add_zero, if_true]
    simp (disch := decide) only [rI_s, rI_n, rI_2, rC_s, rC_n, rC_2, rJ_1, rJ_s, rJ_n, updI_at, if_pos, if_neg]
    exact rowL_ext (fun j hj => by rw [if_pos (by omega)]; first | done | exact ca (by omega))
  · unfold rnd hL hOf
    simp only [rw0, rw1, rw2]
    simp (disch := decide) only [rI_s, rI_n, rI_2, rC_s, rC_n, rC_2, rJ_1, rJ_s, rJ_n, updI_at, if_pos, if_neg]
    exact rowL_ext (fun j hj => by rw [if_pos (by omega)]; first | done | exact ca (by omega))
  · unfold rnd hL hOf
    simp only [rw0, rw1, rw2]
    simp (disch := decide) only [rI_s, rI_n, rI_2, rC_s, rC_n, rC_2, rJ_1, rJ_s, rJ_n, updI_at, if_pos, if_neg]
    exact rowL_ext (fun j hj => by rw [if_pos (by omega)]; first | done | exact ca (by omega))
  · repeat (first | exact fr_r | refine fr_I ?_ (by unfold sRst; omega) | refine fr_C ?_ (by unfold sRst; omega))
end X
section M
variable {h : HH} {P : HH → Prop}
def sKp : Nat → Int → Prop := fun c i => c = 96 ∨ c = 97 ∨ (c = 71 ∧ i = 30)
theorem lX12_keeps_121 {u : Int} (hu : 0 ≤ u) (hu2 : u ≤ 19) : ∀ (k N : Nat) (i : Int) (g : HH), k < N → i + k = 3 → 0 ≤ i → g.1 71 30 = u → (∀ g', Fr sKp g g' → (∀ j, g'.1 97 j = if 3 * u + i ≤ j ∧ j < 3 * u + 3 then g.1 95 (j - 3 * u) else g.1 97 j) → g'.1 96 = g.1 96 → g'.1 71 30 = u + 1 → P g') → Ok (nX12_keeps_121 N i g) P := by
  intro k
  induction k with
  | zero =>
    intro N i g hN hi h0 hgu hP
    obtain ⟨M, rfl⟩ := fuel_s hN
    rw [nX12_keeps_121_s]
    simp only [bX12_keeps_121]
    repeat (first | with_reducible refine ok_gd (by first | omega | decide) ?_ | with_reducible refine ok_bs ?_ | with_reducible refine ok_pos (by omega) ?_ | with_reducible refine ok_neg (by omega) ?_ | with_reducible refine ok_tl ?_ | with_reducible refine ok_tr ?_)
    refine ok_some (hP _ (fr_I fr_r (by unfold sKp; omega)) (fun j => ?_) ?_ ?_)
    · simp (disch := decide) only [rI_s, rI_n, rI_2, rC_s, rC_n, rC_2, rJ_1, rJ_s, rJ_n, updI_at, if_pos, if_neg]
      rw [if_neg (by omega)]
    · simp (disch := decide) only [rI_s, rI_n, rI_2, rC_s, rC_n, rC_2, rJ_1, rJ_s, rJ_n, updI_at, if_pos, if_neg]
    · simp (disch := decide) only [rI_s, rI_n, rI_2, rC_s, rC_n, rC_2, rJ_1, rJ_s, rJ_n, updI_at, if_pos, if_neg]
      omega
  | succ k ih =>
    intro N i g hN hi h0 hgu hP
    obtain ⟨M, rfl⟩ := fuel_s hN
    rw [nX12_keeps_121_s]
    simp only [bX12_keeps_121]
    repeat (first | with_reducible refine ok_gd (by first | omega | decide) ?_ | with_reducible refine ok_bs ?_ | with_reducible refine ok_pos (by omega) ?_ | with_reducible refine ok_neg (by omega) ?_ | with_reducible refine ok_tl ?_ | with_reducible refine ok_tr ?_)
    refine ih M (i + 1) _ (by omega) (by omega) (by omega) (by simp (disch := decide) only [rI_s, rI_n, rI_2, rC_s, rC_n, rC_2, rJ_1, rJ_s, rJ_n, updI_at, if_pos, if_neg]; exact hgu) (fun g' f e e2 e3 => hP g' (fr_t (fr_I fr_r (by unfold sKp; omega)) f) (fun j => ?_) ?_ e3)
    · rw [e j]
      simp (disch := decide) only [rI_s, rI_n, rI_2, rC_s, rC_n, rC_2, rJ_1, rJ_s, rJ_n, updI_at, if_pos, if_neg]
      (repeat' split) <;> first | rfl | omega | exact ca (by omega)
    · rw [e2]; simp (disch := decide) only [rI_s, rI_n, rI_2, rC_s, rC_n, rC_2, rJ_1, rJ_s, rJ_n, updI_at, if_pos, if_neg]
theorem lX12_keeps_87 {u : Int} (hu : 0 ≤ u) (hu2 : u ≤ 19) : ∀ (k N : Nat) (i : Int) (g : HH), k < N → i + k = 27 → 0 ≤ i → g.1 71 30 = u → (∀ g', Fr sKp g g' → (∀ j, g'.1 96 j = if 27 * u + i ≤ j ∧ j < 27 * u + 27 then g.1 94 (j - 27 * u) else g.1 96 j) → g'.1 97 = g.1 97 → g'.1 71 30 = u → Ok (nX12_keeps_121 100000 0 g') P) → Ok (nX12_keeps_87 N i g) P := by
  intro k
  induction k with
  | zero =>
    intro N i g hN hi h0 hgu hP
    obtain ⟨M, rfl⟩ := fuel_s hN
    rw [nX12_keeps_87_s]
    simp only [bX12_keeps_87]
    repeat (first | with_reducible refine ok_gd (by first | omega | decide) ?_ | with_reducible refine ok_bs ?_ | with_reducible refine ok_pos (by omega) ?_ | with_reducible refine ok_neg (by omega) ?_ | with_reducible refine ok_tl ?_ | with_reducible refine ok_tr ?_)
    exact hP g fr_r (fun j => by rw [if_neg (by omega)]) rfl hgu
  | succ k ih =>
    intro N i g hN hi h0 hgu hP
    obtain ⟨M, rfl⟩ := fuel_s hN
    rw [nX12_keeps_87_s]
    simp only [bX12_keeps_87]
    repeat (first | with_reducible refine ok_gd (by first | omega | decide) ?_ | with_reducible refine ok_bs ?_ | with_reducible refine ok_pos (by omega) ?_ | with_reducible refine ok_neg (by omega) ?_ | with_reducible refine ok_tl ?_ | with_reducible refine ok_tr ?_)
    refine ih M (i + 1) _ (by omega) (by omega) (by omega) (by simp (disch := decide) only [rI_s, rI_n, rI_2, rC_s, rC_n, rC_2, rJ_1, rJ_s, rJ_n, updI_at, if_pos, if_neg]; exact hgu) (fun g' f e e2 e3 => hP g' (fr_t (fr_I fr_r (by unfold sKp; omega)) f) (fun j => ?_) ?_ e3)
    · rw [e j]
      simp (disch := decide) only [rI_s, rI_n, rI_2, rC_s, rC_n, rC_2, rJ_1, rJ_s, rJ_n, updI_at, if_pos, if_neg]
      (repeat' split) <;> first | rfl | omega | exact ca (by omega)
    · rw [e2]; simp (disch := decide) only [rI_s, rI_n, rI_2, rC_s, rC_n, rC_2, rJ_1, rJ_s, rJ_n, updI_at, if_pos, if_neg]
theorem lX12_keeps_85 {u : Int} (hu : 0 ≤ u) (hu2 : u ≤ 19) (g : HH) (hgu : g.1 71 30 = u) : Ok (nX12_keeps_85 g) (fun g' => Fr sKp g g' ∧ (∀ j, g'.1 96 j = if 27 * u ≤ j ∧ j < 27 * u + 27 then g.1 94 (j - 27 * u) else g.1 96 j) ∧ (∀ j, g'.1 97 j = if 3 * u ≤ j ∧ j < 3 * u + 3 then g.1 95 (j - 3 * u) else g.1 97 j) ∧ g'.1 71 30 = u + 1) := by
  simp only [nX12_keeps_85, bX12_keeps_85]
  refine lX12_keeps_87 hu hu2 27 100000 0 g (by omega) (by omega) (by omega) hgu (fun g1 f1 e1 e2 e3 => ?_)
  refine lX12_keeps_121 hu hu2 3 100000 0 g1 (by omega) (by omega) (by omega) e3 (fun g2 f2 e4 e5 e6 => ⟨fr_t f1 f2, fun j => ?_, fun j => ?_, e6⟩)
  · rw [e5, e1 j, Int.add_zero]
  · rw [e4 j, e2, Int.add_zero, f1.2 95 _ (by unfold sKp; omega)]
theorem lX12_keeps_55 {u : Int} (hu : 0 ≤ u) (hu2 : u ≤ 19) : ∀ (k N : Nat) (i : Int) (g : HH), k < N → i + k = 3 * u → 0 ≤ i → g.1 71 30 = u → (∀ g', Fr sKp g g' → (∀ j, g'.1 97 j = if i ≤ j ∧ j < 3 * u then g.1 97 (j + 3) else g.1 97 j) → g'.1 96 = g.1 96 → g'.1 71 30 = u → Ok (nX12_keeps_85 g') P) → Ok (nX12_keeps_55 N i g) P := by
  intro k
  induction k with
  | zero =>
    intro N i g hN hi h0 hgu hP
    obtain ⟨M, rfl⟩ := fuel_s hN
    rw [nX12_keeps_55_s]
    simp only [bX12_keeps_55]
    repeat (first | with_reducible refine ok_gd (by first | omega | decide) ?_ | with_reducible refine ok_bs ?_ | with_reducible refine ok_pos (by omega) ?_ | with_reducible refine ok_neg (by omega) ?_ | with_reducible refine ok_tl ?_ | with_reducible refine ok_tr ?_)
    exact hP g fr_r (fun j => by rw [if_neg (by omega)]) rfl hgu
  | succ k ih =>
    intro N i g hN hi h0 hgu hP
    obtain ⟨M, rfl⟩ := fuel_s hN
    rw [nX12_keeps_55_s]
    simp only [bX12_keeps_55]
    repeat (first | with_reducible refine ok_gd (by first | omega | decide) ?_ | with_reducible refine ok_bs ?_ | with_reducible refine ok_pos (by omega) ?_ | with_reducible refine ok_neg (by omega) ?_ | with_reducible refine ok_tl ?_ | with_reducible refine ok_tr ?_)
    refine ih M (i + 1) _ (by omega) (by omega) (by omega) (by simp (disch := decide) only [rI_s, rI_n, rI_2, rC_s, rC_n, rC_2, rJ_1, rJ_s, rJ_n, updI_at, if_pos, if_neg]; exact hgu) (fun g' f e e2 e3 => hP g' (fr_t (fr_I fr_r (by unfold sKp; omega)) f) (fun j => ?_) ?_ e3)
    · rw [e j]
      simp (disch := decide) only [rI_s, rI_n, rI_2, rC_s, rC_n, rC_2, rJ_1, rJ_s, rJ_n, updI_at, if_pos, if_neg]
      (repeat' split) <;> first | rfl | omega | exact ca (by omega)
    · rw [e2]; simp (disch := decide) only [rI_s, rI_n, rI_2, rC_s, rC_n, rC_2, rJ_1, rJ_s, rJ_n, updI_at, if_pos, if_neg]
theorem lX12_keeps_21 {u : Int} (hu : 0 ≤ u) (hu2 : u ≤ 19) : ∀ (k N : Nat) (i : Int) (g : HH), k < N → i + k = 27 * u → 0 ≤ i → g.1 71 30 = u → (∀ g', Fr sKp g g' → (∀ j, g'.1 96 j = if i ≤ j ∧ j < 27 * u then g.1 96 (j + 27) else g.1 96 j) → g'.1 97 = g.1 97 → g'.1 71 30 = u → Ok (nX12_keeps_55 100000 0 g') P) → Ok (nX12_keeps_21 N i g) P := by
  intro k
  induction k with
  | zero =>
    intro N i g hN hi h0 hgu hP
    obtain ⟨M, rfl⟩ := fuel_s hN
    rw [nX12_keeps_21_s]
    simp only [bX12_keeps_21]
    repeat (first | with_reducible refine ok_gd (by first | omega | decide) ?_ | with_reducible refine ok_bs ?_ | with_reducible refine ok_pos (by omega) ?_ | with_reducible refine ok_neg (by omega) ?_ | with_reducible refine ok_tl ?_ | with_reducible refine ok_tr ?_)
    exact hP g fr_r (fun j => by rw [if_neg (by omega)]) rfl hgu
  | succ k ih =>
    intro N i g hN hi h0 hgu hP
    obtain ⟨M, rfl⟩ := fuel_s hN
    rw [nX12_keeps_21_s]
    simp only [bX12_keeps_21]
    repeat (first | with_reducible refine ok_gd (by first | omega | decide) ?_ | with_reducible refine ok_bs ?_ | with_reducible refine ok_pos (by omega) ?_ | with_reducible refine ok_neg (by omega) ?_ | with_reducible refine ok_tl ?_ | with_reducible refine ok_tr ?_)
    refine ih M (i + 1) _ (by omega) (by omega) (by omega) (by simp (disch := decide) only [rI_s, rI_n, rI_2, rC_s, rC_n, rC_2, rJ_1, rJ_s, rJ_n, updI_at, if_pos, if_neg]; exact hgu) (fun g' f e e2 e3 => hP g' (fr_t (fr_I fr_r (by unfold sKp; omega)) f) (fun j => ?_) ?_ e3)
    · rw [e j]
      simp (disch := decide) only [rI_s, rI_n, rI_2, rC_s, rC_n, rC_2, rJ_1, rJ_s, rJ_n, updI_at, if_pos, if_neg]
      (repeat' split) <;> first | rfl | omega | exact ca (by omega)
    · rw [e2]; simp (disch := decide) only [rI_s, rI_n, rI_2, rC_s, rC_n, rC_2, rJ_1, rJ_s, rJ_n, updI_at, if_pos, if_neg]
theorem sX12_keeps (hu : 0 ≤ h.1 71 30 ∧ h.1 71 30 ≤ 20) : Ok (nX12_keeps h) (fun g => ∃ sh : Int, (sh = 0 ∨ sh = 1) ∧ (sh = 1 ↔ h.1 71 30 = 20) ∧ g.1 71 30 = h.1 71 30 - sh + 1 ∧ Fr sKp h g ∧ (∀ j, 0 ≤ j → g.1 96 j = if 27 * (h.1 71 30 - sh) ≤ j ∧ j < 27 * (h.1 71 30 - sh) + 27 then h.1 94 (j - 27 * (h.1 71 30 - sh)) else if j < 27 * (h.1 71 30 - sh) then h.1 96 (j + 27 * sh) else h.1 96 j) ∧ (∀ j, 0 ≤ j → g.1 97 j = if 3 * (h.1 71 30 - sh) ≤ j ∧ j < 3 * (h.1 71 30 - sh) + 3 then h.1 95 (j - 3 * (h.1 71 30 - sh)) else if j < 3 * (h.1 71 30 - sh) then h.1 97 (j + 3 * sh) else h.1 97 j)) := by
  simp only [nX12_keeps, bX12_keeps]
  by_cases c : h.1 71 30 = 20
  · repeat (first | with_reducible refine ok_gd (by first | omega | decide) ?_ | with_reducible refine ok_bs ?_ | with_reducible refine ok_pos (by omega) ?_ | with_reducible refine ok_neg (by omega) ?_ | with_reducible refine ok_tl ?_ | with_reducible refine ok_tr ?_ | simp (disch := decide) only [rI_s, rI_n, rI_2, rC_s, rC_n, rC_2, rJ_1, rJ_s, rJ_n, updI_at, if_pos, if_neg])
    have d1 : (hI h 71 30 (h.1 71 30 - 1)).1 71 30 = 19 := by simp (disch := decide) only [rI_s, rI_n, rI_2, rC_s, rC_n, rC_2, rJ_1, rJ_s, rJ_n, updI_at, if_pos, if_neg]; omega
    have f0 : Fr sKp h (hI h 71 30 (h.1 71 30 - 1)) := fr_I fr_r (by unfold sKp; omega)
    refine lX12_keeps_21 (u := 19) (by omega) (by omega) (27 * 19) 100000 0 _ (by omega) (by omega) (by omega) d1 (fun g1 f1 e1 e2 e3 => ?_)
    refine lX12_keeps_55 (u := 19) (by omega) (by omega) (3 * 19) 100000 0 _ (by omega) (by omega) (by omega) e3 (fun g2 f2 e4 e5 e6 => ?_)
    refine ok_mono (lX12_keeps_85 (u := 19) (by omega) (by omega) g2 e6) (fun g3 q => ⟨1, Or.inr rfl, by omega, by rw [q.2.2.2]; omega, fr_t f0 (fr_t f1 (fr_t f2 q.1)), fun j hj => ?_, fun j hj => ?_⟩)
    · rw [q.2.1 j, e5, e1 j, f2.2 94 _ (by unfold sKp; omega), f1.2 94 _ (by unfold sKp; omega), c]
      simp (disch := decide) only [rI_s, rI_n, rI_2, rC_s, rC_n, rC_2, rJ_1, rJ_s, rJ_n, updI_at, if_pos, if_neg]
      (repeat' split) <;> first | rfl | omega | exact ca (by omega)
    · rw [q.2.2.1 j, e4 j, e2, f2.2 95 _ (by unfold sKp; omega), f1.2 95 _ (by unfold sKp; omega), c]
      simp (disch := decide) only [rI_s, rI_n, rI_2, rC_s, rC_n, rC_2, rJ_1, rJ_s, rJ_n, updI_at, if_pos, if_neg]
      (repeat' split) <;> first | rfl | omega | exact ca (by omega)
  · repeat (first | with_reducible refine ok_gd (by first | omega | decide) ?_ | with_reducible refine ok_bs ?_ | with_reducible refine ok_pos (by omega) ?_ | with_reducible refine ok_neg (by omega) ?_ | with_reducible refine ok_tl ?_ | with_reducible refine ok_tr ?_ | simp (disch := decide) only [rI_s, rI_n, rI_2, rC_s, rC_n, rC_2, rJ_1, rJ_s, rJ_n, updI_at, if_pos, if_neg])
    refine ok_mono (lX12_keeps_85 (u := h.1 71 30) (by omega) (by omega) h rfl) (fun g q => ⟨0, Or.inl rfl, by omega, by rw [q.2.2.2]; omega, q.1, fun j hj => ?_, fun j hj => ?_⟩)
    · rw [q.2.1 j, Int.sub_zero]
      (repeat' split) <;> first | rfl | omega | exact ca (by omega)
    · rw [q.2.2.1 j, Int.sub_zero]
      (repeat' split) <;> first | rfl | omega | exact ca (by omega)
end M
