/-! THE MODEL holds the same parcels, vans and ways as a store K of the class; how it drives rows -/
def gr (x : Int) : Int := if x = -1 then 1000000000 else x
theorem gr_c (x : Int) : (x = -1 ∧ gr x = 1000000000) ∨ (x ≠ -1 ∧ gr x = x) := by
  unfold gr
  by_cases c : x = -1
  · rw [if_pos c]; exact .inl ⟨c, rfl⟩
  · rw [if_neg c]; exact .inr ⟨c, rfl⟩
def RM (K : Nat → Int → Int) (h : HH) : Prop := (h.1 71 21 = K 13 10 ∧ h.1 71 27 = K 13 14) ∧ (∀ a b : Int, 0 ≤ a → a ≤ 15 → 0 ≤ b → b ≤ 15 → h.1 78 (16 * a + b) = gr (dK K a b) ∧ (dK K a b ≠ -1 → h.1 79 (16 * a + b) = K 8 (a * 16 + b) ∧ h.1 80 (16 * a + b) = K 9 (a * 16 + b))) ∧ (∀ p : Int, 0 ≤ p → p < K 13 10 → (h.1 81 p = K 14 p ∧ h.1 82 p = K 15 p ∧ h.1 83 p = K 16 p ∧ h.1 84 p = K 17 p) ∧ (h.1 85 p = K 18 p ∧ h.1 86 p = K 19 p ∧ h.1 87 p = K 20 p ∧ h.1 88 p = K 21 p ∧ h.1 89 p = K 22 p)) ∧ (∀ v : Int, 0 ≤ v → v < K 13 14 → h.1 91 v = K 23 v ∧ h.1 92 v = K 24 v ∧ h.1 93 v = K 25 v)
/-- where RM looks -/
def rmP (c : Nat) (i : Int) : Prop := (78 ≤ c ∧ c ≤ 89) ∨ (91 ≤ c ∧ c ≤ 93) ∨ (c = 71 ∧ (i = 21 ∨ i = 27))
theorem RM_fr {K : Nat → Int → Int} {h h1 : HH} {S : Nat → Int → Prop} (hm : RM K h) (f : Fr S h h1) (q : ∀ c i, S c i → ¬ rmP c i) : RM K h1 := by
  have e : ∀ c i, rmP c i → h1.1 c i = h.1 c i := fun c i r => f.2 c i (fun s => q c i s r)
  obtain ⟨⟨a1, a2⟩, a3, a4, a5⟩ := hm
  refine ⟨⟨?_, ?_⟩, fun a b b1 b2 b3 b4 => ⟨?_, fun z => ⟨?_, ?_⟩⟩, fun p p1 p2 => ⟨⟨?_, ?_, ?_, ?_⟩, ?_, ?_, ?_, ?_, ?_⟩, fun v v1 v2 => ⟨?_, ?_, ?_⟩⟩
  · rw [e 71 21 (by unfold rmP; omega), a1]
  · rw [e 71 27 (by unfold rmP; omega), a2]
  · rw [e 78 _ (by unfold rmP; omega), (a3 a b b1 b2 b3 b4).1]
  · rw [e 79 _ (by unfold rmP; omega), ((a3 a b b1 b2 b3 b4).2 z).1]
  · rw [e 80 _ (by unfold rmP; omega), ((a3 a b b1 b2 b3 b4).2 z).2]
  · rw [e 81 _ (by unfold rmP; omega), (a4 p p1 p2).1.1]
  · rw [e 82 _ (by unfold rmP; omega), (a4 p p1 p2).1.2.1]
  · rw [e 83 _ (by unfold rmP; omega), (a4 p p1 p2).1.2.2.1]
  · rw [e 84 _ (by unfold rmP; omega), (a4 p p1 p2).1.2.2.2]
  · rw [e 85 _ (by unfold rmP; omega), (a4 p p1 p2).2.1]
  · rw [e 86 _ (by unfold rmP; omega), (a4 p p1 p2).2.2.1]
  · rw [e 87 _ (by unfold rmP; omega), (a4 p p1 p2).2.2.2.1]
  · rw [e 88 _ (by unfold rmP; omega), (a4 p p1 p2).2.2.2.2.1]
  · rw [e 89 _ (by unfold rmP; omega), (a4 p p1 p2).2.2.2.2.2]
  · rw [e 91 _ (by unfold rmP; omega), (a5 v v1 v2).1]
  · rw [e 92 _ (by unfold rmP; omega), (a5 v v1 v2).2.1]
  · rw [e 93 _ (by unfold rmP; omega), (a5 v v1 v2).2.2]
def sumL (g : Int → Int) : List Int → Int
  | [] => 0
  | x :: l => g x + sumL g l
/-- the sum of one number (7 minutes, 8 meters, 9 tolls) over the ways of a row -/
def swL (K : Nat → Int → Int) (f : Nat) : List Int → Int → Int
  | [], pl => K f (pl * 16 + 0)
  | p :: l, pl => K f (pl * 16 + K 14 p) + swL K f l (K 14 p)
/-- the minute at which the service of p begins -/
def atL (K : Nat → Int → Int) (p : Int) : List Int → Int → Int → Int
  | [], m, _ => m
  | x :: l, m, pl => if x = p then srv K x pl m else atL K p l (srv K x pl m + K 19 x) (K 14 x)
section M
variable {K : Nat → Int → Int} {h : HH}
theorem rm_p (hm : RM K h) {p : Int} (h1 : 0 ≤ p) (h2 : p < K 13 10) : (h.1 81 p = K 14 p ∧ h.1 82 p = K 15 p ∧ h.1 83 p = K 16 p ∧ h.1 84 p = K 17 p) ∧ (h.1 85 p = K 18 p ∧ h.1 86 p = K 19 p ∧ h.1 87 p = K 20 p ∧ h.1 88 p = K 21 p ∧ h.1 89 p = K 22 p) := hm.2.2.1 p h1 h2
theorem rm_v (hm : RM K h) {v : Int} (h1 : 0 ≤ v) (h2 : v < K 13 14) : h.1 91 v = K 23 v ∧ h.1 92 v = K 24 v ∧ h.1 93 v = K 25 v := hm.2.2.2 v h1 h2
theorem rm_D (hm : RM K h) {a b : Int} (h1 : 0 ≤ a) (h2 : a ≤ 15) (h3 : 0 ≤ b) (h4 : b ≤ 15) : h.1 78 (16 * a + b) = gr (dK K a b) ∧ (dK K a b ≠ -1 → h.1 79 (16 * a + b) = K 8 (a * 16 + b) ∧ h.1 80 (16 * a + b) = K 9 (a * 16 + b)) := hm.2.1 a b h1 h2 h3 h4
theorem sX12_d (hm : RM K h) {a b : Int} (h1 : 0 ≤ a) (h2 : a ≤ 15) (h3 : 0 ≤ b) (h4 : b ≤ 15) : nX12_d h a b = some (gr (dK K a b)) := by
  unfold nX12_d bX12_d
  rw [gd_t (by omega), gd_t (by omega), gd_t (by omega), (rm_D hm h1 h2 h3 h4).1]
theorem sX12_more {a b : Int} : nX12_more h a b = some (max a b) := by
  unfold nX12_more bX12_more
  by_cases c : a < b
  · rw [if_pos c]; congr 1; omega
  · rw [if_neg c]; congr 1; omega
theorem sX12_less {a b : Int} : nX12_less h a b = some (min a b) := by
  unfold nX12_less bX12_less
  by_cases c : a < b
  · rw [if_pos c]; congr 1; omega
  · rw [if_neg c]; congr 1; omega
theorem sX12_isVan (hm : RM K h) (hv : VAL K) {v : Int} : nX12_isVan h v = some (b2i (0 ≤ v ∧ v < K 13 14)) := by
  have hn := v_n hv
  have e := hm.1.2
  unfold nX12_isVan bX12_isVan
  rw [e, gd_t (by omega), sX12_in, bnd_some, gd_t b2i_01]
  congr 1
  unfold b2i
  by_cases c : 0 ≤ v ∧ v < K 13 14
  · rw [if_pos c, if_pos (by omega)]
  · rw [if_neg c, if_neg (by omega)]
theorem sX12_isParcel (hm : RM K h) (hv : VAL K) {v : Int} : nX12_isParcel h v = some (b2i (0 ≤ v ∧ v < K 13 10)) := by
  have hn := v_n hv
  have e := hm.1.1
  unfold nX12_isParcel bX12_isParcel
  rw [e, gd_t (by omega), sX12_in, bnd_some, gd_t b2i_01]
  congr 1
  unfold b2i
  by_cases c : 0 ≤ v ∧ v < K 13 10
  · rw [if_pos c, if_pos (by omega)]
  · rw [if_neg c, if_neg (by omega)]
/-- what driving a row writes -/
def sDr : Nat → Int → Prop := fun c i => c = 108 ∨ (c = 71 ∧ 53 ≤ i ∧ i ≤ 57)
theorem srv_K (hv : VAL K) {p pl m : Int} (h1 : 0 ≤ p) (h2 : p < K 13 10) : srv K p pl m = -1 ∨ (0 ≤ srv K p pl m ∧ srv K p pl m ≤ 1439 ∧ m + dK K pl (K 14 p) ≤ srv K p pl m ∧ dK K pl (K 14 p) ≠ -1) := srv_r (h := (K, K)) hv h1 h2
def drR (K : Nat → Int → Int) (v : Int) (l : List Int) (m pl : Int) (h1 : HH) (r : Int × HH) : Prop := Fr sDr h1 r.2 ∧ r.1 = cst K v l m pl (h1.1 71 57) ∧ (r.1 ≠ -1 → (r.2.1 71 53 = h1.1 71 53 + swL K 7 l pl ∧ r.2.1 71 54 = h1.1 71 54 + (r.1 + K 24 v - m - swL K 7 l pl - sumL (K 19) l) ∧ r.2.1 71 55 = h1.1 71 55 + swL K 8 l pl ∧ r.2.1 71 56 = h1.1 71 56 + swL K 9 l pl ∧ r.2.1 71 57 = h1.1 71 57 + sumL (K 15) l) ∧ (l.Nodup → ∀ p ∈ l, r.2.1 108 p = atL K p l m pl) ∧ ∀ p, p ∉ l → r.2.1 108 p = h1.1 108 p)
theorem sX12_drives_x {M : Nat} {v m pl i : Int} {h : HH} (hx : h.1 71 51 < i) : nX12_drives_37 (M + 1) v m pl i h = bX12_drives_267 v m h := by
  rw [nX12_drives_37_s, bX12_drives_37, if_pos hx]
  rfl
theorem sX12_drives_0 {M : Nat} {v m pl i : Int} {h : HH} (hx : h.1 71 51 = 0) (hi : i = 0) : nX12_drives_37 (M + 1) v m pl i h = bX12_drives_267 v m h := by
  rw [nX12_drives_37_s, bX12_drives_37, if_neg (by omega), if_neg (by omega)]
  rfl
theorem sX12_drives_37 (hv : VAL K) {v : Int} (hv0 : 0 ≤ v) (hv1 : v < K 13 14) {n : Int} (hn9 : n ≤ 9) (hn1 : 0 < n) : ∀ (l : List Int) (N : Nat) (i m pl : Int) (h1 : HH), l.length + 1 < N → i + l.length = n → 0 ≤ i → rowL (h1.1 105) i l.length = l → h1.1 71 51 = n → RM K h1 → inR K l → 0 ≤ m → m ≤ 1499 → 0 ≤ pl → pl ≤ 15 → (0 ≤ h1.1 71 53 ∧ h1.1 71 53 ≤ 1800 * i) → (0 ≤ h1.1 71 54 ∧ h1.1 71 54 ≤ 1439 * i) → (0 ≤ h1.1 71 55 ∧ h1.1 71 55 ≤ 90000000 * i) → (0 ≤ h1.1 71 56 ∧ h1.1 71 56 ≤ 18000000 * i) → (0 ≤ h1.1 71 57 ∧ h1.1 71 57 ≤ 100 * i) → Ok (nX12_drives_37 N v m pl i h1) (drR K v l m pl h1) := by
  have hn := v_n hv
  have hvv := v_v hv hv0 hv1
  intro l
  induction l with
  | nil =>
    intro N i m pl h1 hN hi h0 hrow h51 hm hin hm0 hm1 hp0 hp1 b53 b54 b55 b56 b57
    obtain ⟨M, rfl⟩ := fuel_s hN
    obtain ⟨M, rfl⟩ : ∃ M', M = M' + 1 := fuel_s (k := 0) (by simp only [List.length_nil] at hN; omega)
    have hd := v_D hv hp0 hp1 (b := 0) (by omega) (by omega)
    obtain ⟨e78, e79⟩ := rm_D hm hp0 hp1 (b := 0) (by omega) (by omega)
    have hrv := rm_v hm hv0 hv1
    have hg := gr_c (dK K pl 0)
    have e7 : K 7 (pl * 16 + 0) = dK K pl 0 := rfl
    simp only [List.length_nil, Int.natCast_zero, Int.add_zero] at hi
    rw [nX12_drives_37_s]
    simp only [bX12_drives_267, nX12_drives_267, bX12_drives_261, nX12_drives_261, bX12_drives_214, nX12_drives_214, bX12_drives_165, nX12_drives_165, bX12_drives_78, nX12_drives_78, bX12_drives_37, bX12_drives, nX12_drives]
    refine ok_neg (by omega) ?_
    refine ok_pos (by omega) ?_
    refine ok_neg (by omega) ?_
    refine ok_be (sX12_d hm hp0 hp1 (by omega) (by omega)) ?_
    with_reducible refine ok_ite (fun c1 => ?_) (fun c1 => ?_)
    · refine ok_some ⟨fr_r, ?_, fun q => absurd rfl q⟩
      rw [cst, if_pos (by omega)]
    · have hd1 : dK K pl 0 ≠ -1 := by omega
      obtain ⟨e79, e80⟩ := e79 hd1
      repeat (first | with_reducible refine ok_gd (by first | omega | decide) ?_ | with_reducible refine ok_bs ?_ | with_reducible refine ok_be (sX12_d hm hp0 hp1 (by omega) (by omega)) ?_ | with_reducible refine ok_pos (by omega) ?_ | with_reducible refine ok_neg (by omega) ?_ | with_reducible refine ok_tl ?_ | with_reducible refine ok_tr ?_ | simp (disch := decide) only [rI_s, rI_n, rI_2, rC_s, rC_n, rC_2, rJ_1, rJ_s, rJ_n, updI_at, if_pos, if_neg])
      rw [sX12_drives_x (by simp (disch := decide) only [rI_s, rI_n, rI_2, rC_s, rC_n, rC_2, rJ_1, rJ_s, rJ_n, updI_at, if_pos, if_neg]; omega)]
      have hF : ∀ z : HH, z = hI (hI (hI h1 71 53 (h1.1 71 53 + gr (dK K pl 0))) 71 55 (h1.1 71 55 + h1.1 79 (16 * pl + 0))) 71 56 (h1.1 71 56 + h1.1 80 (16 * pl + 0)) → Fr sDr h1 z := by
        intro z hz
        rw [hz]
        repeat (first | exact fr_r | refine fr_I ?_ (by unfold sDr; omega))
      simp only [bX12_drives_267]
      repeat (first | with_reducible refine ok_gd (by first | omega | decide) ?_ | with_reducible refine ok_bs ?_ | with_reducible refine ok_pos (by omega) ?_ | with_reducible refine ok_neg (by omega) ?_ | with_reducible refine ok_tl ?_ | with_reducible refine ok_tr ?_ | simp (disch := decide) only [rI_s, rI_n, rI_2, rC_s, rC_n, rC_2, rJ_1, rJ_s, rJ_n, updI_at, if_pos, if_neg])
      with_reducible refine ok_ite (fun c2 => ?_) (fun c2 => ?_)
      · exact ok_some ⟨hF _ rfl, by rw [cst, if_pos (by omega)], fun q => absurd rfl q⟩
      · repeat (first | with_reducible refine ok_gd (by first | omega | decide) ?_ | with_reducible refine ok_bs ?_ | with_reducible refine ok_pos (by omega) ?_ | with_reducible refine ok_neg (by omega) ?_ | with_reducible refine ok_tl ?_ | with_reducible refine ok_tr ?_ | simp (disch := decide) only [rI_s, rI_n, rI_2, rC_s, rC_n, rC_2, rJ_1, rJ_s, rJ_n, updI_at, if_pos, if_neg])
        with_reducible refine ok_ite (fun c3 => ?_) (fun c3 => ?_)
        · exact ok_some ⟨hF _ rfl, by rw [cst, if_pos (by omega)], fun q => absurd rfl q⟩
        · repeat (first | with_reducible refine ok_gd (by first | omega | decide) ?_ | with_reducible refine ok_bs ?_ | with_reducible refine ok_pos (by omega) ?_ | with_reducible refine ok_neg (by omega) ?_ | with_reducible refine ok_tl ?_ | with_reducible refine ok_tr ?_ | simp (disch := decide) only [rI_s, rI_n, rI_2, rC_s, rC_n, rC_2, rJ_1, rJ_s, rJ_n, updI_at, if_pos, if_neg])
          refine ok_some ⟨hF _ rfl, by rw [cst, if_neg (by omega)]; show _ = _; omega, fun q => ⟨⟨?_, ?_, ?_, ?_, ?_⟩, fun _ p hp => absurd hp List.not_mem_nil, fun p hp => ?_⟩⟩
          · simp (disch := decide) only [rI_s, rI_n, rI_2, rC_s, rC_n, rC_2, rJ_1, rJ_s, rJ_n, updI_at, if_pos, if_neg]
            simp only [swL]
            omega
          · simp (disch := decide) only [rI_s, rI_n, rI_2, rC_s, rC_n, rC_2, rJ_1, rJ_s, rJ_n, updI_at, if_pos, if_neg]
            simp only [swL, sumL]
            omega
          · simp (disch := decide) only [rI_s, rI_n, rI_2, rC_s, rC_n, rC_2, rJ_1, rJ_s, rJ_n, updI_at, if_pos, if_neg]
            simp only [swL]
            omega
          · simp (disch := decide) only [rI_s, rI_n, rI_2, rC_s, rC_n, rC_2, rJ_1, rJ_s, rJ_n, updI_at, if_pos, if_neg]
            simp only [swL]
            omega
          · simp (disch := decide) only [rI_s, rI_n, rI_2, rC_s, rC_n, rC_2, rJ_1, rJ_s, rJ_n, updI_at, if_pos, if_neg]
            simp only [sumL]
            omega
          · simp (disch := decide) only [rI_s, rI_n, rI_2, rC_s, rC_n, rC_2, rJ_1, rJ_s, rJ_n, updI_at, if_pos, if_neg]
  | cons x l ih =>
    intro N i m pl h1 hN hi h0 hrow h51 hm hin hm0 hm1 hp0 hp1 b53 b54 b55 b56 b57
    obtain ⟨M, rfl⟩ := fuel_s hN
    obtain ⟨hx, hin⟩ := inR_c hin
    rw [List.length_cons] at hi hN
    rw [List.length_cons, rowL] at hrow
    obtain ⟨hx0, hrow⟩ := List.cons.inj hrow
    have hpp := v_p hv hx.1 hx.2
    have hd := v_D hv hp0 hp1 (b := K 14 x) (by omega) (by omega)
    obtain ⟨e78, e79⟩ := rm_D hm hp0 hp1 (b := K 14 x) (by omega) (by omega)
    have hrp := rm_p hm hx.1 hx.2
    have e81 := hrp.1.1
    have hg := gr_c (dK K pl (K 14 x))
    have e7 : K 7 (pl * 16 + K 14 x) = dK K pl (K 14 x) := rfl
    have hsr := srv_K hv (pl := pl) (m := m) hx.1 hx.2
    rw [nX12_drives_37_s]
    simp only [bX12_drives_267, nX12_drives_267, bX12_drives_261, nX12_drives_261, bX12_drives_214, nX12_drives_214, bX12_drives_165, nX12_drives_165, bX12_drives_78, nX12_drives_78, bX12_drives_37, bX12_drives, nX12_drives]
    refine ok_neg (by omega) ?_
    refine ok_pos (by omega) ?_
    refine ok_pos (by omega) ?_
    refine ok_gd (by omega) ?_
    rw [hx0, e81]
    refine ok_gd (by omega) ?_
    refine ok_be (sX12_d hm hp0 hp1 (by omega) (by omega)) ?_
    with_reducible refine ok_ite (fun c1 => ?_) (fun c1 => ?_)
    · refine ok_some ⟨fr_r, ?_, fun q => absurd rfl q⟩
      rw [cst, if_pos (by unfold srv; rw [if_pos (by omega)])]
    · have hd1 : dK K pl (K 14 x) ≠ -1 := by omega
      obtain ⟨e79, e80⟩ := e79 hd1
      have esr : srv K x pl m = if K 18 x < max (m + dK K pl (K 14 x)) (K 17 x) then -1 else max (m + dK K pl (K 14 x)) (K 17 x) := by rw [srv, if_neg hd1]
      repeat (first | with_reducible refine ok_gd (by first | omega | decide) ?_ | with_reducible refine ok_bs ?_ | with_reducible refine ok_be (sX12_d hm hp0 hp1 (by omega) (by omega)) ?_ | simp (disch := decide) only [rI_s, rI_n, rI_2, rC_s, rC_n, rC_2, rJ_1, rJ_s, rJ_n, updI_at, if_pos, if_neg])
      refine ok_pos (by omega) ?_
      refine ok_gd (by omega) ?_
      rw [hx0]
      repeat (first | with_reducible refine ok_gd (by first | omega | decide) ?_ | with_reducible refine ok_bs ?_ | with_reducible refine ok_be sX12_more ?_ | simp (disch := decide) only [rI_s, rI_n, rI_2, rC_s, rC_n, rC_2, rJ_1, rJ_s, rJ_n, updI_at, if_pos, if_neg])
      with_reducible refine ok_ite (fun c2 => ?_) (fun c2 => ?_)
      · refine ok_some ⟨?_, by rw [cst, if_pos (by rw [esr, if_pos (by omega)])], fun q => absurd rfl q⟩
        repeat (first | exact fr_r | refine fr_I ?_ (by unfold sDr; omega))
      · have esr2 : srv K x pl m = max (m + dK K pl (K 14 x)) (K 17 x) := by rw [esr, if_neg (by omega)]
        repeat (first | with_reducible refine ok_gd (by first | omega | decide) ?_ | with_reducible refine ok_bs ?_ | simp (disch := decide) only [rI_s, rI_n, rI_2, rC_s, rC_n, rC_2, rJ_1, rJ_s, rJ_n, updI_at, if_pos, if_neg])
        refine ok_mono (ih M (i + 1) _ _ _ ?_ ?_ ?_ ?_ ?_ ?_ hin ?_ ?_ ?_ ?_ ?_ ?_ ?_ ?_ ?_) (fun r q => ?_)
        · omega
        · omega
        · omega
        · simp (disch := decide) only [rI_s, rI_n, rI_2, rC_s, rC_n, rC_2, rJ_1, rJ_s, rJ_n, updI_at, if_pos, if_neg]
          exact hrow
        · simp (disch := decide) only [rI_s, rI_n, rI_2, rC_s, rC_n, rC_2, rJ_1, rJ_s, rJ_n, updI_at, if_pos, if_neg]
          exact h51
        · refine RM_fr (S := sDr) hm ?_ (fun c i q => by unfold sDr at q; unfold rmP; omega)
          repeat (first | exact fr_r | refine fr_I ?_ (by unfold sDr; omega))
        · omega
        · omega
        · omega
        · omega
        · simp (disch := decide) only [rI_s, rI_n, rI_2, rC_s, rC_n, rC_2, rJ_1, rJ_s, rJ_n, updI_at, if_pos, if_neg]
          omega
        · simp (disch := decide) only [rI_s, rI_n, rI_2, rC_s, rC_n, rC_2, rJ_1, rJ_s, rJ_n, updI_at, if_pos, if_neg]
          omega
        · simp (disch := decide) only [rI_s, rI_n, rI_2, rC_s, rC_n, rC_2, rJ_1, rJ_s, rJ_n, updI_at, if_pos, if_neg]
          omega
        · simp (disch := decide) only [rI_s, rI_n, rI_2, rC_s, rC_n, rC_2, rJ_1, rJ_s, rJ_n, updI_at, if_pos, if_neg]
          omega
        · simp (disch := decide) only [rI_s, rI_n, rI_2, rC_s, rC_n, rC_2, rJ_1, rJ_s, rJ_n, updI_at, if_pos, if_neg]
          omega
        · have em : (m + gr (dK K pl (K 14 x)) + max 0 (h1.1 84 x - (m + gr (dK K pl (K 14 x))))) + h1.1 86 x = srv K x pl m + K 19 x := by omega
          rw [em] at q
          obtain ⟨q1, q2, q3⟩ := q
          refine ⟨fr_t ?_ q1, ?_, fun z => ?_⟩
          · repeat (first | exact fr_r | refine fr_I ?_ (by unfold sDr; omega))
          · rw [q2, cst, if_neg (by omega)]
            congr 1
            simp (disch := decide) only [rI_s, rI_n, rI_2, rC_s, rC_n, rC_2, rJ_1, rJ_s, rJ_n, updI_at, if_pos, if_neg]
            omega
          · obtain ⟨⟨z1, z2, z3, z4, z5⟩, z6, z7⟩ := q3 z
            refine ⟨⟨?_, ?_, ?_, ?_, ?_⟩, fun nd p hp => ?_, fun p hp => ?_⟩
            · rw [z1]
              simp (disch := decide) only [rI_s, rI_n, rI_2, rC_s, rC_n, rC_2, rJ_1, rJ_s, rJ_n, updI_at, if_pos, if_neg]
              simp only [swL]
              omega
            · rw [z2]
              simp (disch := decide) only [rI_s, rI_n, rI_2, rC_s, rC_n, rC_2, rJ_1, rJ_s, rJ_n, updI_at, if_pos, if_neg]
              simp only [swL, sumL]
              omega
            · rw [z3]
              simp (disch := decide) only [rI_s, rI_n, rI_2, rC_s, rC_n, rC_2, rJ_1, rJ_s, rJ_n, updI_at, if_pos, if_neg]
              simp only [swL]
              omega
            · rw [z4]
              simp (disch := decide) only [rI_s, rI_n, rI_2, rC_s, rC_n, rC_2, rJ_1, rJ_s, rJ_n, updI_at, if_pos, if_neg]
              simp only [swL]
              omega
            · rw [z5]
              simp (disch := decide) only [rI_s, rI_n, rI_2, rC_s, rC_n, rC_2, rJ_1, rJ_s, rJ_n, updI_at, if_pos, if_neg]
              simp only [sumL]
              omega
            · rw [atL]
              obtain ⟨nx, nd⟩ := List.nodup_cons.mp nd
              rcases List.mem_cons.mp hp with rfl | hp
              · rw [if_pos rfl, z7 _ nx]
                simp (disch := decide) only [rI_s, rI_n, rI_2, rC_s, rC_n, rC_2, rJ_1, rJ_s, rJ_n, updI_at, if_pos, if_neg]
                omega
              · rw [if_neg (fun e => nx (by rw [e]; exact hp)), z6 nd p hp]
            · rw [z7 p (fun e => hp (List.mem_cons_of_mem _ e))]
              have hpx : p ≠ x := fun e => hp (by rw [e]; exact List.mem_cons_self)
              simp (disch := decide) only [rI_s, rI_n, rI_2, rC_s, rC_n, rC_2, rJ_1, rJ_s, rJ_n, updI_at, if_pos, if_neg]
              rw [if_neg hpx]
theorem sX12_drives (hv : VAL K) (hm : RM K h) {v : Int} (hv0 : 0 ≤ v) (hv1 : v < K 13 14) (h0 : 0 ≤ h.1 71 51) (h9 : h.1 71 51 ≤ 9) (hin : inR K (rowL (h.1 105) 0 (h.1 71 51).toNat)) : Ok (nX12_drives v h) (fun r => r.1 = costL K v (rowL (h.1 105) 0 (h.1 71 51).toNat) ∧ Fr sDr h r.2 ∧ (r.1 ≠ -1 → (r.2.1 71 53 = swL K 7 (rowL (h.1 105) 0 (h.1 71 51).toNat) 0 ∧ r.2.1 71 54 = r.1 - swL K 7 (rowL (h.1 105) 0 (h.1 71 51).toNat) 0 - sumL (K 19) (rowL (h.1 105) 0 (h.1 71 51).toNat) ∧ r.2.1 71 55 = swL K 8 (rowL (h.1 105) 0 (h.1 71 51).toNat) 0 ∧ r.2.1 71 56 = swL K 9 (rowL (h.1 105) 0 (h.1 71 51).toNat) 0 ∧ r.2.1 71 57 = sumL (K 15) (rowL (h.1 105) 0 (h.1 71 51).toNat)) ∧ ((rowL (h.1 105) 0 (h.1 71 51).toNat).Nodup → ∀ p ∈ rowL (h.1 105) 0 (h.1 71 51).toNat, r.2.1 108 p = atL K p (rowL (h.1 105) 0 (h.1 71 51).toNat) (K 24 v) 0))) := by
  have hn := v_n hv
  have hvv := v_v hv hv0 hv1
  have hrv := rm_v hm hv0 hv1
  unfold nX12_drives bX12_drives
  repeat (first | with_reducible refine ok_gd (by first | omega | decide) ?_ | with_reducible refine ok_bs ?_ | with_reducible refine ok_pos (by omega) ?_ | with_reducible refine ok_neg (by omega) ?_ | with_reducible refine ok_tl ?_ | with_reducible refine ok_tr ?_ | simp (disch := decide) only [rI_s, rI_n, rI_2, rC_s, rC_n, rC_2, rJ_1, rJ_s, rJ_n, updI_at, if_pos, if_neg])
  generalize hl : rowL (h.1 105) 0 (h.1 71 51).toNat = l at hin ⊢
  have hlen : (l.length : Int) = h.1 71 51 := by rw [← hl, rowL_len]; omega
  have hF : Fr sDr h (hI (hI (hI (hI (hI h 71 53 0) 71 54 0) 71 55 0) 71 56 0) 71 57 0) := by
    repeat (first | exact fr_r | refine fr_I ?_ (by unfold sDr; omega))
  by_cases c0 : h.1 71 51 = 0
  · have e0 : l = [] := List.eq_nil_of_length_eq_zero (by omega)
    subst e0
    have d0 := v_0 hv (a := 0) (by omega) (by omega)
    have d1 := v_D hv (a := 0) (b := 0) (by omega) (by omega) (by omega) (by omega)
    have e7 : K 7 (0 * 16 + 0) = dK K 0 0 := rfl
    rw [show (100000 : Nat) = 99999 + 1 from rfl, sX12_drives_0 (by simp (disch := decide) only [rI_s, rI_n, rI_2, rC_s, rC_n, rC_2, rJ_1, rJ_s, rJ_n, updI_at, if_pos, if_neg]; omega) rfl]
    simp only [bX12_drives_267]
    repeat (first | with_reducible refine ok_gd (by first | omega | decide) ?_ | with_reducible refine ok_bs ?_ | with_reducible refine ok_pos (by omega) ?_ | with_reducible refine ok_neg (by omega) ?_ | with_reducible refine ok_tl ?_ | with_reducible refine ok_tr ?_ | simp (disch := decide) only [rI_s, rI_n, rI_2, rC_s, rC_n, rC_2, rJ_1, rJ_s, rJ_n, updI_at, if_pos, if_neg])
    refine ok_some ⟨?_, hF, fun _ => ⟨⟨?_, ?_, ?_, ?_, ?_⟩, fun _ p hp => absurd hp List.not_mem_nil⟩⟩
    · rw [costL, cst, if_neg (by omega)]; show _ = _; omega
    · simp (disch := decide) only [rI_s, rI_n, rI_2, rC_s, rC_n, rC_2, rJ_1, rJ_s, rJ_n, updI_at, if_pos, if_neg]
      simp only [swL]
      omega
    · simp (disch := decide) only [rI_s, rI_n, rI_2, rC_s, rC_n, rC_2, rJ_1, rJ_s, rJ_n, updI_at, if_pos, if_neg]
      simp only [swL, sumL]
      omega
    · simp (disch := decide) only [rI_s, rI_n, rI_2, rC_s, rC_n, rC_2, rJ_1, rJ_s, rJ_n, updI_at, if_pos, if_neg]
      simp only [swL]
      omega
    · simp (disch := decide) only [rI_s, rI_n, rI_2, rC_s, rC_n, rC_2, rJ_1, rJ_s, rJ_n, updI_at, if_pos, if_neg]
      simp only [swL]
      omega
    · simp (disch := decide) only [rI_s, rI_n, rI_2, rC_s, rC_n, rC_2, rJ_1, rJ_s, rJ_n, updI_at, if_pos, if_neg]
      rfl
  · refine ok_mono (sX12_drives_37 hv hv0 hv1 (n := h.1 71 51) (by omega) (by omega) l 100000 0 _ 0 _ (by omega) (by omega) (by omega) ?_ ?_ ?_ hin (by omega) (by omega) (by omega) (by omega) ?_ ?_ ?_ ?_ ?_) (fun r q => ?_)
    · simp (disch := decide) only [rI_s, rI_n, rI_2, rC_s, rC_n, rC_2, rJ_1, rJ_s, rJ_n, updI_at, if_pos, if_neg]
      rw [← hl, rowL_len]
    · simp (disch := decide) only [rI_s, rI_n, rI_2, rC_s, rC_n, rC_2, rJ_1, rJ_s, rJ_n, updI_at, if_pos, if_neg]
    · exact RM_fr (S := sDr) hm hF (fun c i q => by unfold sDr at q; unfold rmP; omega)
    · simp (disch := decide) only [rI_s, rI_n, rI_2, rC_s, rC_n, rC_2, rJ_1, rJ_s, rJ_n, updI_at, if_pos, if_neg]; omega
    · simp (disch := decide) only [rI_s, rI_n, rI_2, rC_s, rC_n, rC_2, rJ_1, rJ_s, rJ_n, updI_at, if_pos, if_neg]; omega
    · simp (disch := decide) only [rI_s, rI_n, rI_2, rC_s, rC_n, rC_2, rJ_1, rJ_s, rJ_n, updI_at, if_pos, if_neg]; omega
    · simp (disch := decide) only [rI_s, rI_n, rI_2, rC_s, rC_n, rC_2, rJ_1, rJ_s, rJ_n, updI_at, if_pos, if_neg]; omega
    · simp (disch := decide) only [rI_s, rI_n, rI_2, rC_s, rC_n, rC_2, rJ_1, rJ_s, rJ_n, updI_at, if_pos, if_neg]; omega
    · obtain ⟨q1, q2, q3⟩ := q
      refine ⟨?_, fr_t hF q1, fun z => ?_⟩
      · rw [q2, costL]
        simp (disch := decide) only [rI_s, rI_n, rI_2, rC_s, rC_n, rC_2, rJ_1, rJ_s, rJ_n, updI_at, if_pos, if_neg]
        rw [hrv.2.1]
      · obtain ⟨⟨z1, z2, z3, z4, z5⟩, z6, z7⟩ := q3 z
        refine ⟨⟨?_, ?_, ?_, ?_, ?_⟩, fun nd p hp => ?_⟩
        · rw [z1]; simp (disch := decide) only [rI_s, rI_n, rI_2, rC_s, rC_n, rC_2, rJ_1, rJ_s, rJ_n, updI_at, if_pos, if_neg]; omega
        · rw [z2]; simp (disch := decide) only [rI_s, rI_n, rI_2, rC_s, rC_n, rC_2, rJ_1, rJ_s, rJ_n, updI_at, if_pos, if_neg]; omega
        · rw [z3]; simp (disch := decide) only [rI_s, rI_n, rI_2, rC_s, rC_n, rC_2, rJ_1, rJ_s, rJ_n, updI_at, if_pos, if_neg]; omega
        · rw [z4]; simp (disch := decide) only [rI_s, rI_n, rI_2, rC_s, rC_n, rC_2, rJ_1, rJ_s, rJ_n, updI_at, if_pos, if_neg]; omega
        · rw [z5]; simp (disch := decide) only [rI_s, rI_n, rI_2, rC_s, rC_n, rC_2, rJ_1, rJ_s, rJ_n, updI_at, if_pos, if_neg]; omega
        · rw [z6 nd p hp, hrv.2.1]
end M
