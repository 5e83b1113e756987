/-! THE INVARIANT between both stores -/
/-- rows of both stores that tell of parcels, vans and ways -/
theorem cst_eq {K K1 : Nat → Int → Int} {v : Int} (h7 : K1 7 = K 7) (hv : K1 23 v = K 23 v ∧ K1 24 v = K 24 v ∧ K1 25 v = K 25 v) : ∀ {l : List Int} {m pl sz : Int}, (∀ p ∈ l, (K1 14 p = K 14 p ∧ K1 15 p = K 15 p) ∧ (K1 17 p = K 17 p ∧ K1 18 p = K 18 p ∧ K1 19 p = K 19 p)) → cst K1 v l m pl sz = cst K v l m pl sz
  | [], m, pl, sz, _ => by
    simp only [cst, dK, h7, hv.1, hv.2.1, hv.2.2]
  | p :: l, m, pl, sz, hl => by
    obtain ⟨⟨e1, e2⟩, e3, e4, e5⟩ := hl p List.mem_cons_self
    have e : srv K1 p pl m = srv K p pl m := by simp only [srv, dK, h7, e1, e3, e4]
    rw [cst, cst, e, e1, e2, e5, cst_eq h7 hv (fun q hq => hl q (List.mem_cons_of_mem _ hq))]
theorem costL_eq {K K1 : Nat → Int → Int} {v : Int} (h7 : K1 7 = K 7) (hv : K1 23 v = K 23 v ∧ K1 24 v = K 24 v ∧ K1 25 v = K 25 v) {l : List Int} (hl : ∀ p ∈ l, (K1 14 p = K 14 p ∧ K1 15 p = K 15 p) ∧ (K1 17 p = K 17 p ∧ K1 18 p = K 18 p ∧ K1 19 p = K 19 p)) : costL K1 v l = costL K v l := by
  rw [costL, costL, cst_eq h7 hv hl, hv.2.1]
/-- rounds that are lawful: their parcels wait, each in one round at most, and each round is kept -/
def GR (K : Nat → Int → Int) (r : Int → List Int) : Prop := (∀ v, 0 ≤ v → v < 3 → inR K (r v) ∧ (∀ p ∈ r v, K 20 p = 0) ∧ (K 13 14 ≤ v → r v = []) ∧ (v < K 13 14 → costL K v (r v) ≠ -1)) ∧ (r 0 ++ (r 1 ++ r 2)).Nodup
theorem GR_eq {K K1 : Nat → Int → Int} {r : Int → List Int} (h : GR K r) (h7 : K1 7 = K 7) (hr : ∀ c, (14 ≤ c ∧ c ≤ 20) ∨ (23 ≤ c ∧ c ≤ 25) → K1 c = K c) (h13 : K1 13 10 = K 13 10 ∧ K1 13 14 = K 13 14) : GR K1 r := by
  refine ⟨fun v h0 h3 => ?_, h.2⟩
  obtain ⟨a, b, c, d⟩ := h.1 v h0 h3
  have e : costL K1 v (r v) = costL K v (r v) := costL_eq h7 (by rw [hr 23 (by omega), hr 24 (by omega), hr 25 (by omega)]; exact ⟨rfl, rfl, rfl⟩) (fun p _ => by rw [hr 14 (by omega), hr 15 (by omega), hr 17 (by omega), hr 18 (by omega), hr 19 (by omega)]; exact ⟨⟨rfl, rfl⟩, rfl, rfl, rfl⟩)
  refine ⟨fun p hp => by rw [h13.1]; exact a p hp, fun p hp => by rw [hr 20 (by omega)]; exact b p hp, by rw [h13.2]; exact c, by rw [h13.2, e]; exact d⟩
/-- streets -/
def iS (K M : Nat → Int → Int) : Prop := ((0 ≤ K 3 3 ∧ K 3 3 ≤ 60) ∧ M 71 9 = K 3 3) ∧ ∀ s, 0 ≤ s → s < K 3 3 → (K 4 s = M 72 s ∧ K 5 s = M 73 s ∧ K 6 s = M 74 s) ∧ ((0 ≤ M 72 s ∧ M 72 s ≤ 15) ∧ (0 ≤ M 73 s ∧ M 73 s ≤ 15)) ∧ ((1 ≤ M 74 s ∧ M 74 s ≤ 120) ∧ (1 ≤ M 75 s ∧ M 75 s ≤ 50000) ∧ (0 ≤ M 76 s ∧ M 76 s ≤ 9999))
def enc (m t l : Int) : Int := m * 1000000000000000000 + t * 1000000000 + l
abbrev wE (M : Nat → Int → Int) : Int → Int := fun s => enc (M 74 s) (M 75 s) (M 76 s)
/-- the ways are the least ones -/
def iY (K M : Nat → Int → Int) : Prop := (∀ a b, 0 ≤ a → a ≤ 15 → 0 ≤ b → b ≤ 15 → (dK K a b = -1 ∧ ∀ es, ¬ wlk (M 72) (M 73) (K 3 3) a es b) ∨ (dK K a b ≠ -1 ∧ lst (M 72) (M 73) (fw (wE M)) (K 3 3) a 0 b (enc (dK K a b) (K 8 (a * 16 + b)) (K 9 (a * 16 + b))))) ∧ ∀ a b, 0 ≤ a → a ≤ 15 → 0 ≤ b → b ≤ 15 → dK K a b = -1 → K 8 (a * 16 + b) = -1 ∧ K 9 (a * 16 + b) = -1
def iF (K M : Nat → Int → Int) : Prop := ∀ i, 0 ≤ i → i ≤ 23 → K 10 i = M 77 i ∧ (50 ≤ K 10 i ∧ K 10 i ≤ 300)
/-- the rounds -/
def iR (K : Nat → Int → Int) (h : HH) : Prop := GR K (rnd K) ∧ (∀ v, 0 ≤ v → v < 3 → (0 ≤ K 31 v ∧ K 31 v ≤ 9) ∧ h.1 95 v = K 31 v ∧ mrd h v = rnd K v) ∧ ∀ p, 0 ≤ p → p < K 13 10 → h.1 90 p = vw K p
/-- what the k-th remembered rounds are -/
def hAt (K : Nat → Int → Int) (k : Int) : Int := ((K 32 1 + k) % 20) * 12
def hOf (K : Nat → Int → Int) (a v : Int) : Int := if v = 0 then a + 3 else if v = 1 then a + 3 + K 33 a else a + 3 + K 33 a + K 33 (a + 1)
def hL (K : Nat → Int → Int) (a v : Int) : List Int := rowL (K 33) (hOf K a v) (K 33 (a + v)).toNat
def mhL (M : Nat → Int → Int) (k v : Int) : List Int := rowL (M 96) (27 * k + 9 * v) (M 97 (3 * k + v)).toNat
def iH (K M : Nat → Int → Int) : Prop := ((0 ≤ K 32 1 ∧ K 32 1 < 20) ∧ (0 ≤ K 32 2 ∧ K 32 2 ≤ 20) ∧ M 71 30 = K 32 2) ∧ ∀ k, 0 ≤ k → k < K 32 2 → GR K (hL K (hAt K k)) ∧ ∀ v, 0 ≤ v → v < 3 → (0 ≤ K 33 (hAt K k + v) ∧ K 33 (hAt K k + v) ≤ 9) ∧ M 97 (3 * k + v) = K 33 (hAt K k + v) ∧ mhL M k v = hL K (hAt K k) v
def sumS (g : Int → Int) : Nat → Int
  | 0 => 0
  | n + 1 => sumS g n + g (n : Int)
/-- parcels: states, and what is not there yet -/
def iQ (K M : Nat → Int → Int) : Prop := (∀ p, 0 ≤ p → p < K 13 10 → (0 ≤ K 20 p ∧ K 20 p ≤ 3) ∧ (0 ≤ K 21 p ∧ K 21 p ≤ 3 ∧ (K 20 p = 0 → K 21 p ≤ 2))) ∧ (∀ p, K 13 10 ≤ p → p < 9 → (M 84 p = 0 ∧ M 86 p = 0) ∧ (M 87 p = 0 ∧ M 88 p = 0)) ∧ (0 ≤ K 67 2 ∧ K 67 2 ≤ sumS (fun p => if K 20 p = 1 then 1 else 0) (K 13 10).toNat)
/-- hours -/
def hrs (knd mns : Int → Int) (drive rest all : Int) : Nat → (Int × Int × Int × Int × Int)
  | 0 => (0, 0, 0, 0, -1)
  | n + 1 => ((hrs knd mns drive rest all n).1 + mns (n : Int),
      (if knd (n : Int) = 0 then (hrs knd mns drive rest all n).2.1 + mns (n : Int) else (hrs knd mns drive rest all n).2.1),
      (if knd (n : Int) = 0 then (if rest ≤ (if knd (n : Int) = 2 then (hrs knd mns drive rest all n).2.2.2.1 + mns (n : Int) else 0) then 0 else (hrs knd mns drive rest all n).2.2.1) + mns (n : Int) else (if rest ≤ (if knd (n : Int) = 2 then (hrs knd mns drive rest all n).2.2.2.1 + mns (n : Int) else 0) then 0 else (hrs knd mns drive rest all n).2.2.1)),
      (if knd (n : Int) = 2 then (hrs knd mns drive rest all n).2.2.2.1 + mns (n : Int) else 0),
      (if (hrs knd mns drive rest all n).2.2.2.2 = -1 ∧ (drive < (if knd (n : Int) = 0 then (if rest ≤ (if knd (n : Int) = 2 then (hrs knd mns drive rest all n).2.2.2.1 + mns (n : Int) else 0) then 0 else (hrs knd mns drive rest all n).2.2.1) + mns (n : Int) else (if rest ≤ (if knd (n : Int) = 2 then (hrs knd mns drive rest all n).2.2.2.1 + mns (n : Int) else 0) then 0 else (hrs knd mns drive rest all n).2.2.1)) ∨ all < (if knd (n : Int) = 0 then (hrs knd mns drive rest all n).2.1 + mns (n : Int) else (hrs knd mns drive rest all n).2.1)) then (n : Int) else (hrs knd mns drive rest all n).2.2.2.2))
def iO (K M : Nat → Int → Int) : Prop := (((30 ≤ K 59 0 ∧ K 59 0 ≤ 600) ∧ (5 ≤ K 59 1 ∧ K 59 1 ≤ 120) ∧ (60 ≤ K 59 2 ∧ K 59 2 ≤ 900)) ∧ (0 ≤ K 59 3 ∧ K 59 3 ≤ 60) ∧ (M 71 33 = K 59 3 ∧ M 71 34 = K 59 0 ∧ M 71 35 = K 59 1 ∧ M 71 36 = K 59 2)) ∧ (∀ k, 0 ≤ k → k < K 59 3 → (0 ≤ M 98 k ∧ M 98 k ≤ 2) ∧ (1 ≤ M 99 k ∧ M 99 k ≤ 600)) ∧ hrs (M 98) (M 99) (K 59 0) (K 59 1) (K 59 2) (K 59 3).toNat = (K 59 4, K 59 5, K 59 6, K 59 7, K 59 8)
/-- lockers and zones -/
def iD (K M : Nat → Int → Int) : Prop := (K 60 3 = sumS (fun p => if 1 ≤ K 61 p then 1 else 0) 16 ∧ M 71 40 = K 60 3) ∧ (∀ p, 1 ≤ p → p ≤ 15 → (K 63 p = M 100 p ∧ (0 ≤ K 63 p ∧ K 63 p ≤ 2)) ∧ (M 101 p = K 61 p - K 62 p ∧ (0 ≤ K 62 p ∧ K 62 p ≤ K 61 p ∧ K 61 p ≤ 5)) ∧ ((M 102 p = 1 ∧ 1 ≤ K 61 p) ∨ (M 102 p = 0 ∧ K 61 p = 0))) ∧ (K 63 0 = -1 ∧ K 61 0 = 0 ∧ K 62 0 = 0)
/-- pay -/
def iL (K L M ML : Nat → Int → Int) : Prop := ((0 ≤ K 67 0 ∧ K 67 0 ≤ 9999) ∧ (0 ≤ K 67 1 ∧ K 67 1 ≤ 9999) ∧ (0 ≤ K 67 4 ∧ K 67 4 ≤ 50) ∧ (M 71 41 = K 67 0 ∧ M 71 42 = K 67 1 ∧ M 71 43 = K 67 2 ∧ M 71 44 = K 67 4)) ∧ (∀ k, 0 ≤ k → k < K 67 4 → L 68 k = ML 103 k ∧ (0 ≤ L 68 k ∧ L 68 k ≤ 100000000000000)) ∧ L 67 5 = sumS (L 68) (K 67 4).toNat
/-- all -/
def INV (h h' : HH) : Prop := ((VAL h.1 ∧ RM h.1 h') ∧ iS h.1 h'.1 ∧ iY h.1 h'.1 ∧ iF h.1 h'.1) ∧ (iR h.1 h' ∧ iH h.1 h'.1 ∧ iQ h.1 h'.1) ∧ (iO h.1 h'.1 ∧ iD h.1 h'.1 ∧ iL h.1 h.2 h'.1 h'.2)
/-- what no promise of the state rests on -/
def scC : Nat → Int → Prop := fun c _ => (c = 11 ∨ c = 12) ∨ (34 ≤ c ∧ c ≤ 58) ∨ (c = 64 ∨ c = 66 ∨ c = 69 ∨ c = 70)
def scM : Nat → Int → Prop := fun c i => 104 ≤ c ∨ (c = 71 ∧ (i = 10 ∨ 51 ≤ i))
theorem vw_eq {K K1 : Nat → Int → Int} (h : ∀ c, 28 ≤ c → c ≤ 31 → K1 c = K c) {p : Int} : vw K1 p = vw K p := by
  have e : ∀ v, 0 ≤ v → v < 3 → rnd K1 v = rnd K v := fun v h0 h3 => by
    have := rwK_r h0 h3
    show rowL (K1 (rwK 3 28 v)) 0 (K1 31 v).toNat = rowL (K (rwK 3 28 v)) 0 (K 31 v).toNat
    rw [h _ (by omega) (by omega), h 31 (by omega) (by omega)]
  rw [vw, vw, e 0 (by omega) (by omega), e 1 (by omega) (by omega), e 2 (by omega) (by omega)]
theorem rnd_eq {K K1 : Nat → Int → Int} (h : ∀ c, 28 ≤ c → c ≤ 31 → K1 c = K c) {v : Int} (h0 : 0 ≤ v) (h3 : v < 3) : rnd K1 v = rnd K v := by
  have := rwK_r h0 h3
  show rowL (K1 (rwK 3 28 v)) 0 (K1 31 v).toNat = rowL (K (rwK 3 28 v)) 0 (K 31 v).toNat
  rw [h _ (by omega) (by omega), h 31 (by omega) (by omega)]
theorem GR_r {K : Nat → Int → Int} {r r1 : Int → List Int} (h : GR K r) (e : ∀ v, 0 ≤ v → v < 3 → r1 v = r v) : GR K r1 := by
  refine ⟨fun v h0 h3 => by rw [e v h0 h3]; exact h.1 v h0 h3, ?_⟩
  rw [e 0 (by omega) (by omega), e 1 (by omega) (by omega), e 2 (by omega) (by omega)]
  exact h.2
/-- lawful rounds by the same rows -/
theorem VAL_eq {K K1 : Nat → Int → Int} (h : VAL K) (hr : ∀ c, (7 ≤ c ∧ c ≤ 9) ∨ (14 ≤ c ∧ c ≤ 19) ∨ (23 ≤ c ∧ c ≤ 25) → K1 c = K c) (h13 : K1 13 10 = K 13 10 ∧ K1 13 14 = K 13 14) : VAL K1 := by
  unfold VAL dK at h ⊢
  rw [hr 7 (by omega), hr 8 (by omega), hr 9 (by omega), hr 14 (by omega), hr 15 (by omega), hr 16 (by omega), hr 17 (by omega), hr 18 (by omega), hr 19 (by omega), hr 23 (by omega), hr 24 (by omega), hr 25 (by omega), h13.1, h13.2]
  exact h
theorem RM_K {K K1 : Nat → Int → Int} {h : HH} (hm : RM K h) (hr : ∀ c, (7 ≤ c ∧ c ≤ 9) ∨ (14 ≤ c ∧ c ≤ 25) → K1 c = K c) (h13 : K1 13 10 = K 13 10 ∧ K1 13 14 = K 13 14) : RM K1 h := by
  unfold RM dK at hm ⊢
  rw [hr 7 (by omega), hr 8 (by omega), hr 9 (by omega), hr 14 (by omega), hr 15 (by omega), hr 16 (by omega), hr 17 (by omega), hr 18 (by omega), hr 19 (by omega), hr 20 (by omega), hr 21 (by omega), hr 22 (by omega), hr 23 (by omega), hr 24 (by omega), hr 25 (by omega), h13.1, h13.2]
  exact hm
theorem iR_eq {K K1 : Nat → Int → Int} {h h1 : HH} (i : iR K h) (h7 : K1 7 = K 7) (hr : ∀ c, (14 ≤ c ∧ c ≤ 20) ∨ (23 ≤ c ∧ c ≤ 25) ∨ (28 ≤ c ∧ c ≤ 31) → K1 c = K c) (h13 : K1 13 10 = K 13 10 ∧ K1 13 14 = K 13 14) (hm : ∀ c, (c = 90 ∨ c = 94 ∨ c = 95) → h1.1 c = h.1 c) : iR K1 h1 := by
  obtain ⟨a, b, c⟩ := i
  have er : ∀ v, 0 ≤ v → v < 3 → rnd K1 v = rnd K v := fun v h0 h3 => rnd_eq (fun c c1 c2 => hr c (by omega)) h0 h3
  refine ⟨GR_r (GR_eq a h7 (fun c hc => hr c (by omega)) h13) er, fun v h0 h3 => ?_, fun p p0 p1 => ?_⟩
  · obtain ⟨b1, b2, b3⟩ := b v h0 h3
    rw [er v h0 h3, hr 31 (by omega), hm 95 (by omega)]
    refine ⟨b1, b2, ?_⟩
    unfold mrd
    rw [hm 94 (by omega), hm 95 (by omega)]
    exact b3
  · rw [hm 90 (by omega), vw_eq (fun c c1 c2 => hr c (by omega))]
    exact c p p0 (by rw [← h13.1]; exact p1)
theorem iH_eq {K K1 M M1 : Nat → Int → Int} (i : iH K M) (h7 : K1 7 = K 7) (hr : ∀ c, (14 ≤ c ∧ c ≤ 20) ∨ (23 ≤ c ∧ c ≤ 25) ∨ (32 ≤ c ∧ c ≤ 33) → K1 c = K c) (h13 : K1 13 10 = K 13 10 ∧ K1 13 14 = K 13 14) (hm : ∀ c, (c = 96 ∨ c = 97) → M1 c = M c) (h30 : M1 71 30 = M 71 30) : iH K1 M1 := by
  obtain ⟨a, b⟩ := i
  have e1 : ∀ k, hAt K1 k = hAt K k := fun k => by unfold hAt; rw [hr 32 (by omega)]
  have e2 : ∀ a v, hL K1 a v = hL K a v := fun a v => by unfold hL hOf; rw [hr 33 (by omega)]
  unfold iH
  rw [hr 32 (by omega), h30]
  refine ⟨a, fun k k0 k1 => ?_⟩
  obtain ⟨b1, b2⟩ := b k k0 k1
  rw [e1 k]
  refine ⟨GR_r (GR_eq b1 h7 (fun c hc => hr c (by omega)) h13) (fun v _ _ => e2 _ v), fun v h0 h3 => ?_⟩
  obtain ⟨b3, b4, b5⟩ := b2 v h0 h3
  rw [hr 33 (by omega), hm 97 (by omega), e2]
  refine ⟨b3, b4, ?_⟩
  unfold mhL
  rw [hm 96 (by omega), hm 97 (by omega)]
  exact b5
theorem INV_scr {h h1 h' h1' : HH} (i : INV h h') (f : Fr scC h h1) (f' : Fr scM h' h1') : INV h1 h1' := by
  have e : ∀ c, ¬ scC c 0 → h1.1 c = h.1 c := fun c hc => fr_c f c (fun i => hc)
  have e' : ∀ c, c ≠ 71 → c < 104 → h1'.1 c = h'.1 c := fun c hc hd => fr_c f' c (fun i q => by unfold scM at q; omega)
  have e7 : ∀ i, i ≠ 10 → i < 51 → h1'.1 71 i = h'.1 71 i := fun i hc hd => f'.2 71 i (by unfold scM; omega)
  have q7 := e 7 (by unfold scC; omega)
  have q8 := e 8 (by unfold scC; omega)
  have qr : ∀ c, (7 ≤ c ∧ c ≤ 9) ∨ (13 ≤ c ∧ c ≤ 33) → h1.1 c = h.1 c := fun c hc => e c (by unfold scC; omega)
  have q13 : h1.1 13 10 = h.1 13 10 ∧ h1.1 13 14 = h.1 13 14 := by rw [qr 13 (by omega)]; exact ⟨rfl, rfl⟩
  obtain ⟨⟨⟨a1, a2⟩, a3, a4, a5⟩, ⟨b1, b2, b3⟩, c1, c2, c3⟩ := i
  refine ⟨⟨⟨VAL_eq a1 (fun c hc => qr c (by omega)) q13, RM_K (RM_fr a2 f' (fun c i s r => by unfold scM at s; unfold rmP at r; omega)) (fun c hc => qr c (by omega)) q13⟩, ?_, ?_, ?_⟩, ⟨iR_eq b1 q7 (fun c hc => qr c (by omega)) q13 (fun c hc => e' c (by omega) (by omega)), iH_eq b2 q7 (fun c hc => qr c (by omega)) q13 (fun c hc => e' c (by omega) (by omega)) (e7 30 (by omega) (by omega)), ?_⟩, ?_, ?_, ?_⟩
  · unfold iS at a3 ⊢
    rw [e 3 (by unfold scC; omega), e 4 (by unfold scC; omega), e 5 (by unfold scC; omega), e 6 (by unfold scC; omega), e7 9 (by omega) (by omega), e' 72 (by omega) (by omega), e' 73 (by omega) (by omega), e' 74 (by omega) (by omega), e' 75 (by omega) (by omega), e' 76 (by omega) (by omega)]
    exact a3
  · unfold iY dK wE at a4 ⊢
    rw [e 3 (by unfold scC; omega), q7, q8, qr 9 (by omega), e' 72 (by omega) (by omega), e' 73 (by omega) (by omega), e' 74 (by omega) (by omega), e' 75 (by omega) (by omega), e' 76 (by omega) (by omega)]
    exact a4
  · unfold iF at a5 ⊢
    rw [e 10 (by unfold scC; omega), e' 77 (by omega) (by omega)]
    exact a5
  · unfold iQ at b3 ⊢
    rw [qr 13 (by omega), qr 20 (by omega), qr 21 (by omega), e 67 (by unfold scC; omega), e' 84 (by omega) (by omega), e' 86 (by omega) (by omega), e' 87 (by omega) (by omega), e' 88 (by omega) (by omega)]
    exact b3
  · unfold iO at c1 ⊢
    rw [e 59 (by unfold scC; omega), e7 33 (by omega) (by omega), e7 34 (by omega) (by omega), e7 35 (by omega) (by omega), e7 36 (by omega) (by omega), e' 98 (by omega) (by omega), e' 99 (by omega) (by omega)]
    exact c1
  · unfold iD at c2 ⊢
    rw [e 60 (by unfold scC; omega), e 61 (by unfold scC; omega), e 62 (by unfold scC; omega), e 63 (by unfold scC; omega), e7 40 (by omega) (by omega), e' 100 (by omega) (by omega), e' 101 (by omega) (by omega), e' 102 (by omega) (by omega)]
    exact c2
  · unfold iL at c3 ⊢
    rw [e 67 (by unfold scC; omega), f.1, f'.1, e7 41 (by omega) (by omega), e7 42 (by omega) (by omega), e7 43 (by omega) (by omega), e7 44 (by omega) (by omega)]
    exact c3
theorem INV_thr {h h' : HH} (i : INV h h') {x : Int} : INV h (hI h' 71 10 x) := INV_scr i fr_r (fr_I fr_r (by unfold scM; omega))
