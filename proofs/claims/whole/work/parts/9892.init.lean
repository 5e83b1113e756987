/-! THE STORES at the start of the loop -/
def σC (xs : Nat → Int32) : SG := wX11 (uN (σE xs))
def σM (xs : Nat → Int32) : SG := aX12_0 (uN (70, rC70, (σC xs).2.2.1, (σC xs).2.2.2.1, (σC xs).2.2.2.2))
def iB (xs : Nat → Int32) : Nat → Int → Int := (fillW 77 24 100 (119, RX12_54, (σM xs).2.2.1, (σM xs).2.2.2.1, (σM xs).2.2.2.2)).2.2.1
def jB (xs : Nat → Int32) : Nat → Int → Int := (σM xs).2.2.2.1
def aX9 (σ : SG) : SG := (fillW 9 256 (-1) ((fillW 8 256 (-1) ((fillW 7 256 (-1) ((uR (uN ((uR (uN ((uR (uN ((uR (uN ((uR (uN ((uR (uN ((uR (uN ((uR (uN ((uR (uN (σ)) 3 0 4))) 3 1 5))) 3 2 6))) 3 4 7))) 3 5 8))) 3 6 9))) 3 7 10))) 3 8 11))) 3 9 12)))))))
set_option maxRecDepth 100000
theorem iB_3 {xs : Nat → Int32} {x : Int} : iB xs 3 x = 0 := rfl
theorem iB_13 {xs : Nat → Int32} {x : Int} : iB xs 13 x = 0 := rfl
theorem iB_31 {xs : Nat → Int32} {x : Int} : iB xs 31 x = 0 := rfl
theorem iB_32 {xs : Nat → Int32} {x : Int} : iB xs 32 x = 0 := rfl
theorem iB_60 {xs : Nat → Int32} {x : Int} : iB xs 60 x = 0 := rfl
theorem iB_61 {xs : Nat → Int32} {x : Int} : iB xs 61 x = 0 := rfl
theorem iB_62 {xs : Nat → Int32} {x : Int} : iB xs 62 x = 0 := rfl
theorem iB_14 {xs : Nat → Int32} {x : Int} : iB xs 14 x = 0 := rfl
theorem iB_84 {xs : Nat → Int32} {x : Int} : iB xs 84 x = 0 := rfl
theorem iB_86 {xs : Nat → Int32} {x : Int} : iB xs 86 x = 0 := rfl
theorem iB_87 {xs : Nat → Int32} {x : Int} : iB xs 87 x = 0 := rfl
theorem iB_88 {xs : Nat → Int32} {x : Int} : iB xs 88 x = 0 := rfl
theorem iB_95 {xs : Nat → Int32} {x : Int} : iB xs 95 x = 0 := rfl
theorem iB_100 {xs : Nat → Int32} {x : Int} : iB xs 100 x = 0 := rfl
theorem iB_101 {xs : Nat → Int32} {x : Int} : iB xs 101 x = 0 := rfl
theorem iB_102 {xs : Nat → Int32} {x : Int} : iB xs 102 x = 0 := rfl
theorem iB_67_0 {xs : Nat → Int32} : iB xs 67 0 = 100 := rfl
theorem iB_67_1 {xs : Nat → Int32} : iB xs 67 1 = 50 := rfl
theorem iB_67_2 {xs : Nat → Int32} : iB xs 67 2 = 0 := rfl
theorem iB_67_4 {xs : Nat → Int32} : iB xs 67 4 = 0 := rfl
theorem iB_59_0 {xs : Nat → Int32} : iB xs 59 0 = 270 := rfl
theorem iB_59_1 {xs : Nat → Int32} : iB xs 59 1 = 45 := rfl
theorem iB_59_2 {xs : Nat → Int32} : iB xs 59 2 = 540 := rfl
theorem iB_59_3 {xs : Nat → Int32} : iB xs 59 3 = 0 := rfl
theorem iB_59_4 {xs : Nat → Int32} : iB xs 59 4 = 0 := rfl
theorem iB_59_5 {xs : Nat → Int32} : iB xs 59 5 = 0 := rfl
theorem iB_59_6 {xs : Nat → Int32} : iB xs 59 6 = 0 := rfl
theorem iB_59_7 {xs : Nat → Int32} : iB xs 59 7 = 0 := rfl
theorem iB_59_8 {xs : Nat → Int32} : iB xs 59 8 = (-1) := rfl
theorem iB_71_9 {xs : Nat → Int32} : iB xs 71 9 = 0 := rfl
theorem iB_71_21 {xs : Nat → Int32} : iB xs 71 21 = 0 := rfl
theorem iB_71_27 {xs : Nat → Int32} : iB xs 71 27 = 0 := rfl
theorem iB_71_30 {xs : Nat → Int32} : iB xs 71 30 = 0 := rfl
theorem iB_71_33 {xs : Nat → Int32} : iB xs 71 33 = 0 := rfl
theorem iB_71_34 {xs : Nat → Int32} : iB xs 71 34 = 270 := rfl
theorem iB_71_35 {xs : Nat → Int32} : iB xs 71 35 = 45 := rfl
theorem iB_71_36 {xs : Nat → Int32} : iB xs 71 36 = 540 := rfl
theorem iB_71_40 {xs : Nat → Int32} : iB xs 71 40 = 0 := rfl
theorem iB_71_41 {xs : Nat → Int32} : iB xs 71 41 = 100 := rfl
theorem iB_71_42 {xs : Nat → Int32} : iB xs 71 42 = 50 := rfl
theorem iB_71_43 {xs : Nat → Int32} : iB xs 71 43 = 0 := rfl
theorem iB_71_44 {xs : Nat → Int32} : iB xs 71 44 = 0 := rfl
theorem iB_63 {xs : Nat → Int32} {x : Int} : iB xs 63 x = if x = 0 then -1 else 0 := by
  have e : iB xs 63 x = up2 (fun _ _ => 0) 63 0 (-1) 63 x := rfl
  rw [e, up2_at]
theorem iB_10 {xs : Nat → Int32} {x : Int} : iB xs 10 x = if 0 ≤ x ∧ x < 24 then 100 else 0 := rfl
theorem iB_77 {xs : Nat → Int32} {x : Int} : iB xs 77 x = if 0 ≤ x ∧ x < 24 then 100 else 0 := rfl
theorem iB_7 {xs : Nat → Int32} {x : Int} (h : 0 ≤ x ∧ x < 256) : iB xs 7 x = if x % 17 = 0 then 0 else -1 := by
  have e : iB xs 7 x = dgI 16 (aX9 (uN (uN (σE xs)))).2.2.1 7 x := rfl
  have e2 : (aX9 (uN (uN (σE xs)))).2.2.1 7 x = if 0 ≤ x ∧ x < 256 then -1 else 0 := rfl
  rw [e, dgI_at (by omega), e2, if_pos h]
  by_cases c : x % 17 = 0
  · rw [if_pos (by omega), if_pos c]
  · rw [if_neg (by omega), if_neg c]
theorem iB_8 {xs : Nat → Int32} {x : Int} (h : 0 ≤ x ∧ x < 256) : iB xs 8 x = if x % 17 = 0 then 0 else -1 := by
  have e : iB xs 8 x = dgI 16 (aX9 (uN (uN (σE xs)))).2.2.1 8 x := rfl
  have e2 : (aX9 (uN (uN (σE xs)))).2.2.1 8 x = if 0 ≤ x ∧ x < 256 then -1 else 0 := rfl
  rw [e, dgI_at (by omega), e2, if_pos h]
  by_cases c : x % 17 = 0
  · rw [if_pos (by omega), if_pos c]
  · rw [if_neg (by omega), if_neg c]
theorem iB_9 {xs : Nat → Int32} {x : Int} (h : 0 ≤ x ∧ x < 256) : iB xs 9 x = if x % 17 = 0 then 0 else -1 := by
  have e : iB xs 9 x = dgI 16 (aX9 (uN (uN (σE xs)))).2.2.1 9 x := rfl
  have e2 : (aX9 (uN (uN (σE xs)))).2.2.1 9 x = if 0 ≤ x ∧ x < 256 then -1 else 0 := rfl
  rw [e, dgI_at (by omega), e2, if_pos h]
  by_cases c : x % 17 = 0
  · rw [if_pos (by omega), if_pos c]
  · rw [if_neg (by omega), if_neg c]
theorem jB_67 {xs : Nat → Int32} {x : Int} : jB xs 67 x = 0 := rfl
/-- what is known of the store at the start -/
def ST0 (xs : Nat → Int32) (K : Nat → Int → Int) : Prop := (∀ c x, c ≤ 119 → (c < 78 ∨ 80 < c) → K c x = iB xs c x) ∧ WY (gD K) (gT K) (gL K) (iB xs) 0 ∧ TB (gD K) (gT K) (gL K) ∧ ∀ x y, 0 ≤ x → x ≤ 15 → 0 ≤ y → y ≤ 15 → 0 ≤ K 78 (16 * x + y)
section ST
variable {xs : Nat → Int32} {K J : Nat → Int → Int}
theorem st_wlk {u v : Int → Int} {a b : Int} {es : List Int} (h : wlk u v 0 a es b) : es = [] ∧ a = b := by
  cases es with
  | nil => exact ⟨rfl, h.1⟩
  | cons e es =>
    have := (wlk_cons.mp h).1
    omega
theorem st_d (h : ST0 xs K) {a b : Int} (a0 : 0 ≤ a) (a1 : a ≤ 15) (b0 : 0 ≤ b) (b1 : b ≤ 15) : (K 7 (a * 16 + b) = (if a = b then 0 else -1)) ∧ (K 8 (a * 16 + b) = (if a = b then 0 else -1)) ∧ (K 9 (a * 16 + b) = (if a = b then 0 else -1)) := by
  rw [h.1 7 _ (by omega) (by omega), h.1 8 _ (by omega) (by omega), h.1 9 _ (by omega) (by omega), iB_7 (by omega), iB_8 (by omega), iB_9 (by omega)]
  by_cases c : a = b
  · rw [if_pos (by omega), if_pos c]; exact ⟨rfl, rfl, rfl⟩
  · rw [if_neg (by omega), if_neg c]; exact ⟨rfl, rfl, rfl⟩
theorem st_m (h : ST0 xs K) {a b : Int} (a0 : 0 ≤ a) (a1 : a ≤ 15) (b0 : 0 ≤ b) (b1 : b ≤ 15) : (a = b → K 78 (16 * a + b) = 0 ∧ K 79 (16 * a + b) = 0 ∧ K 80 (16 * a + b) = 0) ∧ (a ≠ b → K 78 (16 * a + b) = 1000000000) := by
  have hw := h.2.1 a b a0 a1 b0 b1
  have ht := h.2.2.1 a b a0 a1 b0 b1
  have h0 := h.2.2.2 a b a0 a1 b0 b1
  constructor
  · intro e
    subst e
    rcases hw with ⟨_, w⟩ | ⟨w1, ⟨es, w2, w3⟩, _⟩
    · exact absurd wlk_nil (w [])
    · have e2 := st_wlk w2
      rw [e2.1] at w3
      have w3 : 0 = enc (gD K a a) (gT K a a) (gL K a a) := w3
      unfold enc at w3
      have t := ht.resolve_left w1
      have d0 : gD K a a = 0 := by omega
      have t0 : gT K a a = 0 := by omega
      have l0 : gL K a a = 0 := by omega
      refine ⟨?_, t0, l0⟩
      have d0 : (if K 78 (16 * a + a) = 1000000000 then -1 else K 78 (16 * a + a)) = 0 := d0
      by_cases c : K 78 (16 * a + a) = 1000000000
      · rw [if_pos c] at d0; omega
      · rw [if_neg c] at d0; exact d0
  · intro ne
    rcases hw with ⟨w, _⟩ | ⟨_, ⟨es, w2, _⟩, _⟩
    · have w : (if K 78 (16 * a + b) = 1000000000 then -1 else K 78 (16 * a + b)) = -1 := w
      by_cases c : K 78 (16 * a + b) = 1000000000
      · exact c
      · rw [if_neg c] at w; omega
    · exact absurd (st_wlk w2).2 ne
theorem st_z (h : ST0 xs K) (c : Nat) (x : Int) (hc : c ≤ 119 ∧ (c < 78 ∨ 80 < c)) (e : iB xs c x = 0) : K c x = 0 := by rw [h.1 c x hc.1 hc.2]; exact e
theorem st_v (h : ST0 xs K) (c : Nat) (x y : Int) (hc : c ≤ 119 ∧ (c < 78 ∨ 80 < c)) (e : iB xs c x = y) : K c x = y := by rw [h.1 c x hc.1 hc.2]; exact e
theorem sum_0 {g : Int → Int} : ∀ {n : Nat}, (∀ j : Nat, j < n → g j = 0) → sumS g n = 0
  | 0, _ => rfl
  | n + 1, h => by rw [sumS, sum_0 (fun j hj => h j (by omega)), h n (by omega)]; rfl
theorem st_inv (h : ST0 xs K) (hJ : J 67 5 = 0) : INV (K, J) (K, J) := by
  have z13 : ∀ x, K 13 x = 0 := fun x => st_z h 13 x (by omega) iB_13
  have z3 : ∀ x, K 3 x = 0 := fun x => st_z h 3 x (by omega) iB_3
  have z31 : ∀ x, K 31 x = 0 := fun x => st_z h 31 x (by omega) iB_31
  have z32 : ∀ x, K 32 x = 0 := fun x => st_z h 32 x (by omega) iB_32
  have z60 : ∀ x, K 60 x = 0 := fun x => st_z h 60 x (by omega) iB_60
  have z61 : ∀ x, K 61 x = 0 := fun x => st_z h 61 x (by omega) iB_61
  have z62 : ∀ x, K 62 x = 0 := fun x => st_z h 62 x (by omega) iB_62
  have z84 : ∀ x, K 84 x = 0 := fun x => st_z h 84 x (by omega) iB_84
  have z86 : ∀ x, K 86 x = 0 := fun x => st_z h 86 x (by omega) iB_86
  have z87 : ∀ x, K 87 x = 0 := fun x => st_z h 87 x (by omega) iB_87
  have z88 : ∀ x, K 88 x = 0 := fun x => st_z h 88 x (by omega) iB_88
  have z95 : ∀ x, K 95 x = 0 := fun x => st_z h 95 x (by omega) iB_95
  have z100 : ∀ x, K 100 x = 0 := fun x => st_z h 100 x (by omega) iB_100
  have z101 : ∀ x, K 101 x = 0 := fun x => st_z h 101 x (by omega) iB_101
  have z102 : ∀ x, K 102 x = 0 := fun x => st_z h 102 x (by omega) iB_102
  have d71 : ∀ x, (x = 9 ∨ x = 21 ∨ x = 27 ∨ x = 30 ∨ x = 33 ∨ x = 40 ∨ x = 43 ∨ x = 44) → K 71 x = 0 := fun x hx => by
    rcases hx with e | e | e | e | e | e | e | e <;> subst e
    · exact st_z h 71 _ (by omega) iB_71_9
    · exact st_z h 71 _ (by omega) iB_71_21
    · exact st_z h 71 _ (by omega) iB_71_27
    · exact st_z h 71 _ (by omega) iB_71_30
    · exact st_z h 71 _ (by omega) iB_71_33
    · exact st_z h 71 _ (by omega) iB_71_40
    · exact st_z h 71 _ (by omega) iB_71_43
    · exact st_z h 71 _ (by omega) iB_71_44
  have y34 := st_v h 71 34 _ (by omega) iB_71_34
  have y35 := st_v h 71 35 _ (by omega) iB_71_35
  have y36 := st_v h 71 36 _ (by omega) iB_71_36
  have y41 := st_v h 71 41 _ (by omega) iB_71_41
  have y42 := st_v h 71 42 _ (by omega) iB_71_42
  have w0 := st_v h 59 0 _ (by omega) iB_59_0
  have w1 := st_v h 59 1 _ (by omega) iB_59_1
  have w2 := st_v h 59 2 _ (by omega) iB_59_2
  have w3 := st_v h 59 3 _ (by omega) iB_59_3
  have w4 := st_v h 59 4 _ (by omega) iB_59_4
  have w5 := st_v h 59 5 _ (by omega) iB_59_5
  have w6 := st_v h 59 6 _ (by omega) iB_59_6
  have w7 := st_v h 59 7 _ (by omega) iB_59_7
  have w8 := st_v h 59 8 _ (by omega) iB_59_8
  have u0 := st_v h 67 0 _ (by omega) iB_67_0
  have u1 := st_v h 67 1 _ (by omega) iB_67_1
  have u2 := st_v h 67 2 _ (by omega) iB_67_2
  have u4 := st_v h 67 4 _ (by omega) iB_67_4
  have q63 : ∀ x, K 63 x = if x = 0 then -1 else 0 := fun x => by rw [h.1 63 x (by omega) (by omega)]; exact iB_63
  have q10 : ∀ x, 0 ≤ x → x ≤ 23 → K 10 x = 100 := fun x x0 x1 => by rw [h.1 10 x (by omega) (by omega), iB_10, if_pos (by omega)]
  have q77 : ∀ x, 0 ≤ x → x ≤ 23 → K 77 x = 100 := fun x x0 x1 => by rw [h.1 77 x (by omega) (by omega), iB_77, if_pos (by omega)]
  have rn : ∀ v, rnd K v = [] := fun v => by
    unfold rnd
    rw [z31]
    rfl
  have dk : ∀ a b, 0 ≤ a → a ≤ 15 → 0 ≤ b → b ≤ 15 → dK K a b = (if a = b then 0 else -1) := fun a b a0 a1 b0 b1 => (st_d h a0 a1 b0 b1).1
  refine ⟨⟨⟨?_, ?_⟩, ?_, ?_, ?_⟩, ⟨?_, ?_, ?_⟩, ?_, ?_, ?_⟩
  · refine ⟨⟨by show 0 ≤ K 13 10 ∧ K 13 10 ≤ 9; rw [z13]; omega, by show 0 ≤ K 13 14 ∧ K 13 14 ≤ 3; rw [z13]; omega⟩, fun a b a0 a1 b0 b1 => ?_, fun a a0 a1 => ?_, fun p p0 p1 => ?_, fun v v0 v1 => ?_⟩
    · obtain ⟨_, e8, e9⟩ := st_d h a0 a1 b0 b1
      show -1 ≤ dK K a b ∧ dK K a b ≤ 1800 ∧ (dK K a b = -1 ∨ ((0 ≤ K 8 (a * 16 + b) ∧ K 8 (a * 16 + b) ≤ 50000 * dK K a b) ∧ (0 ≤ K 9 (a * 16 + b) ∧ K 9 (a * 16 + b) ≤ 9999 * dK K a b)))
      rw [dk a b a0 a1 b0 b1, e8, e9]
      by_cases c : a = b
      · rw [if_pos c]; omega
      · rw [if_neg c]; exact ⟨by omega, by omega, Or.inl rfl⟩
    · show dK K a a = 0
      rw [dk a a a0 a1 a0 a1, if_pos rfl]
    · have p1 : p < K 13 10 := p1
      rw [z13] at p1; omega
    · have v1 : v < K 13 14 := v1
      rw [z13] at v1; omega
  · refine ⟨⟨by show K 71 21 = K 13 10; rw [z13, d71 21 (by omega)], by show K 71 27 = K 13 14; rw [z13, d71 27 (by omega)]⟩, fun a b a0 a1 b0 b1 => ?_, fun p p0 p1 => ?_, fun v v0 v1 => ?_⟩
    · obtain ⟨_, e8, e9⟩ := st_d h a0 a1 b0 b1
      obtain ⟨m1, m2⟩ := st_m h a0 a1 b0 b1
      show K 78 (16 * a + b) = gr (dK K a b) ∧ (dK K a b ≠ -1 → K 79 (16 * a + b) = K 8 (a * 16 + b) ∧ K 80 (16 * a + b) = K 9 (a * 16 + b))
      rw [dk a b a0 a1 b0 b1, e8, e9]
      by_cases c : a = b
      · obtain ⟨x1, x2, x3⟩ := m1 c
        simp only [if_pos c]
        rw [x1, x2, x3]
        exact ⟨rfl, fun _ => ⟨rfl, rfl⟩⟩
      · simp only [if_neg c]
        rw [m2 c]
        exact ⟨rfl, fun z => absurd rfl z⟩
    · have p1 : p < K 13 10 := p1
      rw [z13] at p1; omega
    · have v1 : v < K 13 14 := v1
      rw [z13] at v1; omega
  · refine ⟨⟨by show 0 ≤ K 3 3 ∧ K 3 3 ≤ 60; rw [z3]; omega, by show K 71 9 = K 3 3; rw [z3, d71 9 (by omega)]⟩, fun s s0 s1 => ?_⟩
    have s1 : s < K 3 3 := s1
    rw [z3] at s1; omega
  · constructor
    · intro a b a0 a1 b0 b1
      show (dK K a b = -1 ∧ ∀ es, ¬ wlk (K 72) (K 73) (K 3 3) a es b) ∨ (dK K a b ≠ -1 ∧ lst (K 72) (K 73) (fw (wE K)) (K 3 3) a 0 b (enc (dK K a b) (K 8 (a * 16 + b)) (K 9 (a * 16 + b))))
      obtain ⟨_, e8, e9⟩ := st_d h a0 a1 b0 b1
      rw [dk a b a0 a1 b0 b1, e8, e9, z3]
      by_cases c : a = b
      · simp only [if_pos c]
        subst c
        refine Or.inr ⟨by decide, ⟨[], wlk_nil, rfl⟩, fun es hes => ?_⟩
        rw [(st_wlk hes).1]
        exact Int.le_refl _
      · simp only [if_neg c]
        exact Or.inl ⟨by decide, fun es hes => c (st_wlk hes).2⟩
    · intro a b a0 a1 b0 b1 hd
      obtain ⟨_, e8, e9⟩ := st_d h a0 a1 b0 b1
      have hd : dK K a b = -1 := hd
      rw [dk a b a0 a1 b0 b1] at hd
      show K 8 (a * 16 + b) = -1 ∧ K 9 (a * 16 + b) = -1
      rw [e8, e9]
      exact ⟨hd, hd⟩
  · intro x x0 x1
    show K 10 x = K 77 x ∧ (50 ≤ K 10 x ∧ K 10 x ≤ 300)
    rw [q10 x x0 x1, q77 x x0 x1]
    omega
  · refine ⟨⟨fun v v0 v3 => ?_, ?_⟩, fun v v0 v3 => ?_, fun p p0 p1 => ?_⟩
    · show inR K (rnd K v) ∧ (∀ p ∈ rnd K v, K 20 p = 0) ∧ (K 13 14 ≤ v → rnd K v = []) ∧ (v < K 13 14 → costL K v (rnd K v) ≠ -1)
      rw [rn]
      refine ⟨fun p hp => absurd hp List.not_mem_nil, fun p hp => absurd hp List.not_mem_nil, fun _ => rfl, fun z => ?_⟩
      rw [z13] at z; omega
    · show (rnd K 0 ++ (rnd K 1 ++ rnd K 2)).Nodup
      rw [rn, rn, rn]
      exact List.nodup_nil
    · refine ⟨by show 0 ≤ K 31 v ∧ K 31 v ≤ 9; rw [z31]; omega, by show K 95 v = K 31 v; rw [z31, z95], ?_⟩
      show rowL (K 94) (9 * v) (K 95 v).toNat = rnd K v
      rw [rn, z95]
      rfl
    · have p1 : p < K 13 10 := p1
      rw [z13] at p1; omega
  · refine ⟨⟨by show 0 ≤ K 32 1 ∧ K 32 1 < 20; rw [z32]; omega, by show 0 ≤ K 32 2 ∧ K 32 2 ≤ 20; rw [z32]; omega, by show K 71 30 = K 32 2; rw [z32, d71 30 (by omega)]⟩, fun k k0 k1 => ?_⟩
    have k1 : k < K 32 2 := k1
    rw [z32] at k1; omega
  · refine ⟨fun p p0 p1 => ?_, fun p _ _ => ⟨⟨z84 p, z86 p⟩, z87 p, z88 p⟩, ?_⟩
    · have p1 : p < K 13 10 := p1
      rw [z13] at p1; omega
    · show 0 ≤ K 67 2 ∧ K 67 2 ≤ sumS (fun p => if K 20 p = 1 then 1 else 0) (K 13 10).toNat
      rw [u2, z13]
      exact ⟨Int.le_refl _, Int.le_refl _⟩
  · refine ⟨⟨⟨by show 30 ≤ K 59 0 ∧ K 59 0 ≤ 600; omega, by show 5 ≤ K 59 1 ∧ K 59 1 ≤ 120; omega, by show 60 ≤ K 59 2 ∧ K 59 2 ≤ 900; omega⟩, by show 0 ≤ K 59 3 ∧ K 59 3 ≤ 60; omega, by show K 71 33 = K 59 3; rw [w3, d71 33 (by omega)], by show K 71 34 = K 59 0; omega, by show K 71 35 = K 59 1; omega, by show K 71 36 = K 59 2; omega⟩, fun k k0 k1 => ?_, ?_⟩
    · have k1 : k < K 59 3 := k1
      rw [w3] at k1; omega
    · show hrs (K 98) (K 99) (K 59 0) (K 59 1) (K 59 2) (K 59 3).toNat = (K 59 4, K 59 5, K 59 6, K 59 7, K 59 8)
      rw [w3, w4, w5, w6, w7, w8]
      rfl
  · refine ⟨⟨?_, by show K 71 40 = K 60 3; rw [z60, d71 40 (by omega)]⟩, fun p p0 p1 => ?_, by show K 63 0 = -1; rw [q63]; rfl, z61 0, z62 0⟩
    · show K 60 3 = sumS (fun p => if 1 ≤ K 61 p then 1 else 0) 16
      rw [z60, sum_0 (fun j _ => by rw [z61]; rfl)]
    · show (K 63 p = K 100 p ∧ (0 ≤ K 63 p ∧ K 63 p ≤ 2)) ∧ (K 101 p = K 61 p - K 62 p ∧ (0 ≤ K 62 p ∧ K 62 p ≤ K 61 p ∧ K 61 p ≤ 5)) ∧ ((K 102 p = 1 ∧ 1 ≤ K 61 p) ∨ (K 102 p = 0 ∧ K 61 p = 0))
      rw [q63, z100, z101, z61, z62, z102, if_neg (by omega)]
      omega
  · refine ⟨⟨by show 0 ≤ K 67 0 ∧ K 67 0 ≤ 9999; omega, by show 0 ≤ K 67 1 ∧ K 67 1 ≤ 9999; omega, by show 0 ≤ K 67 4 ∧ K 67 4 ≤ 50; omega, by show K 71 41 = K 67 0; omega, by show K 71 42 = K 67 1; omega, by show K 71 43 = K 67 2; rw [u2, d71 43 (by omega)], by show K 71 44 = K 67 4; rw [u4, d71 44 (by omega)]⟩, fun k k0 k1 => ?_, ?_⟩
    · have k1 : k < K 67 4 := k1
      rw [u4] at k1; omega
    · show J 67 5 = sumS (J 68) (K 67 4).toNat
      rw [hJ, u4]
      rfl
end ST
