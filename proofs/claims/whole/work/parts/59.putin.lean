/-! PUT IN: looking for the least place -/
section PUTIN
variable {h h' m : HH} {K : Nat → Int → Int} {l : List Int}
theorem sc_c (f : Fr scC h m) (c : Nat) (q : ¬ scC c 0) : m.1 c = h.1 c := fr_c f c (fun i s => q s)
theorem sc_cost (f : Fr scC h m) (v : Int) (l : List Int) : costL m.1 v l = costL h.1 v l := costL_eq (sc_c f 7 (by unfold scC; omega)) (by rw [sc_c f 23 (by unfold scC; omega), sc_c f 24 (by unfold scC; omega), sc_c f 25 (by unfold scC; omega)]; exact ⟨rfl, rfl, rfl⟩) (fun p _ => by
  rw [sc_c f 14 (by unfold scC; omega), sc_c f 15 (by unfold scC; omega), sc_c f 17 (by unfold scC; omega), sc_c f 18 (by unfold scC; omega), sc_c f 19 (by unfold scC; omega)]
  exact ⟨⟨rfl, rfl⟩, rfl, rfl, rfl⟩)
theorem sc_rnd (f : Fr scC h m) {v : Int} (v0 : 0 ≤ v) (v3 : v < 3) : rnd m.1 v = rnd h.1 v := rnd_eq (fun c c1 c2 => sc_c f c (by unfold scC; omega)) v0 v3
theorem sc_31 (f : Fr scC h m) : m.1 31 = h.1 31 := sc_c f 31 (by unfold scC; omega)
theorem sc_13 (f : Fr scC h m) : m.1 13 = h.1 13 := sc_c f 13 (by unfold scC; omega)
theorem sc_inR (f : Fr scC h m) {l : List Int} (q : inR h.1 l) : inR m.1 l := fun p hp => by rw [sc_13 f]; exact q p hp
/-- a parcel that is in no round finds all rounds short -/
theorem len8 (i : INV h h') {p v : Int} (p0 : 0 ≤ p) (p1 : p < h.1 13 10) (hp : vw h.1 p = -1) (v0 : 0 ≤ v) (v3 : v < 3) : h.1 31 v ≤ 8 := by
  have hn := inv_n i
  have hb := (inv_RV i v v0 v3)
  by_cases z : h.1 31 v = 9
  · have nd : (p :: rnd h.1 v).Nodup := List.nodup_cons.mpr ⟨vwR_no hp v0 v3, GR_nd i.2.1.1.1 v0 v3⟩
    have := nodup_len (m := 9) nd (fun q hq => by
      rcases List.mem_cons.mp hq with e | e
      · omega
      · have := hb.2 q e
        omega)
    rw [List.length_cons, rnd_len] at this
    omega
  · omega
/-- the invariant behind a change of rounds that stands between what is remembered and scratch -/
theorem INV_late {H g1 g g1' g' : HH} {S S' : Nat → Int → Prop} {R : Int → List Int} (i : INV H m) (q1 : pRem H g1) (f : Fr S g1 g) (hS : ∀ c i, S c i → scC c i ∨ (28 ≤ c ∧ c ≤ 31)) (q3 : pKp m g1') (f' : Fr S' g1' g') (hS' : ∀ c i, S' c i → scM c i ∨ (c = 90 ∨ c = 94 ∨ c = 95)) (hR : GR H.1 R) (hc : ∀ v, 0 ≤ v → v < 3 → (0 ≤ g.1 31 v ∧ g.1 31 v ≤ 9) ∧ rnd g.1 v = R v) (hm : ∀ v, 0 ≤ v → v < 3 → g'.1 95 v = g.1 31 v ∧ mrd g' v = R v) (hw : ∀ p, 0 ≤ p → p < H.1 13 10 → g'.1 90 p = vwR R p) : INV g g' := by
  have r1 := rem_31 q1
  have k1 := kp_fr q3
  have c1 : cTc rC H g := cTc_of (S := fun c i => sHi c i ∨ S c i) (fr_t (fr_m (fun c i s => Or.inl s) r1.2) (fr_m (fun c i s => Or.inr s) f)) (fun c i s => by
    rcases s with s | s
    · unfold sHi at s; dsimp only [rC, scT]; omega
    · have := hS c i s
      unfold scC at this
      dsimp only [rC, scT]; omega)
  have c2 : cTm rMm r7 m g' := cTm_of (S := fun c i => sKp c i ∨ S' c i) (fr_t (fr_m (fun c i s => Or.inl s) k1.2.2.2) (fr_m (fun c i s => Or.inr s) f')) (fun c i s h7 => by
    rcases s with s | s
    · unfold sKp at s; dsimp only [rMm, scU]; omega
    · have := hS' c i s
      unfold scM at this
      dsimp only [rMm, scU]; omega) (fun i s => by
    rcases s with s | s
    · unfold sKp at s; dsimp only [r7, sc7]; omega
    · have := hS' 71 i s
      unfold scM at this
      dsimp only [r7, sc7]; omega)
  refine INV_rnd i c1 c2 hR hc hm hw (fun hG => iH_chg i q1 q3 ⟨fr_c f 32 (fun j s => ?_), fr_c f 33 (fun j s => ?_)⟩ ⟨fr_c f' 96 (fun j s => ?_), fr_c f' 97 (fun j s => ?_), f'.2 71 30 (fun s => ?_)⟩ hG)
  · have := hS 32 j s
    unfold scC at this; omega
  · have := hS 33 j s
    unfold scC at this; omega
  · have := hS' 96 j s
    unfold scM at this; omega
  · have := hS' 97 j s
    unfold scM at this; omega
  · have := hS' 71 30 s
    unfold scM at this; omega
/-! the least place: what both sides look for -/
def fpT (K : Nat → Int → Int) (v p had : Int) (l : List Int) (j : Int) (s : Int × Int × Int) : Int × Int × Int := if costL K v (insL l j.toNat p) ≠ -1 ∧ (s.1 = -1 ∨ costL K v (insL l j.toNat p) - had < s.2.2) then (v, j, costL K v (insL l j.toNat p) - had) else s
def fpI (K : Nat → Int → Int) (v p had : Int) (l : List Int) : Nat → Int → Int × Int × Int → Int × Int × Int
  | 0, _, s => s
  | k + 1, j, s => fpI K v p had l k (j + 1) (fpT K v p had l j s)
def fpO (K : Nat → Int → Int) (p : Int) : Nat → Int → Int × Int × Int → Int × Int × Int
  | 0, _, s => s
  | k + 1, v, s => fpO K p k (v + 1) (fpI K v p (costL K v (rnd K v)) (rnd K v) ((K 31 v).toNat + 1) 0 s)
/-- what is found is a place -/
def fpOK (K : Nat → Int → Int) (p : Int) (s : Int × Int × Int) : Prop := s.1 = -1 ∨ ((0 ≤ s.1 ∧ s.1 < K 13 14) ∧ (0 ≤ s.2.1 ∧ s.2.1 ≤ K 31 s.1) ∧ costL K s.1 (insL (rnd K s.1) s.2.1.toNat p) ≠ -1)
theorem fpI_ok {p v had : Int} (v0 : 0 ≤ v) (v1 : v < K 13 14) : ∀ {k : Nat} {j : Int} {s : Int × Int × Int}, 0 ≤ j → j + k ≤ K 31 v + 1 → fpOK K p s → fpOK K p (fpI K v p had (rnd K v) k j s)
  | 0, _, _, _, _, hs => hs
  | k + 1, j, s, j0, j1, hs => by
    rw [fpI]
    refine fpI_ok v0 v1 (by omega) (by omega) ?_
    unfold fpT
    by_cases c : costL K v (insL (rnd K v) j.toNat p) ≠ -1 ∧ (s.1 = -1 ∨ costL K v (insL (rnd K v) j.toNat p) - had < s.2.2)
    · rw [if_pos c]
      exact Or.inr ⟨⟨v0, v1⟩, ⟨j0, by dsimp only; omega⟩, c.1⟩
    · rw [if_neg c]; exact hs
theorem fpO_ok {p : Int} (h31 : ∀ v, 0 ≤ v → v < K 13 14 → 0 ≤ K 31 v) : ∀ {k : Nat} {v : Int} {s : Int × Int × Int}, 0 ≤ v → v + k ≤ K 13 14 → fpOK K p s → fpOK K p (fpO K p k v s)
  | 0, _, _, _, _, hs => hs
  | k + 1, v, s, v0, v1, hs => by
    rw [fpO]
    have := h31 v v0 (by omega)
    exact fpO_ok h31 (by omega) (by omega) (fpI_ok v0 (by omega) (by omega) (by omega) hs)
/-! the class -/
abbrev sFP : Nat → Int → Prop := fun c _ => c = 34 ∨ c = 35
theorem sFP_sc (f : Fr sFP h m) : Fr scC h m := fr_m (fun c i s => by unfold scC; dsimp only [sFP] at s; omega) f
def stC (m : HH) (s : Int × Int × Int) : Prop := m.1 34 7 = s.1 ∧ (s.1 ≠ -1 → m.1 34 8 = s.2.1 ∧ m.1 34 9 = s.2.2)
theorem a9_35 : A9 35 := ⟨⟨rfl, rfl⟩, rfl⟩
theorem rw35 {v : Int} (v0 : 0 ≤ v) (v3 : v < 3) : rwK 3 28 v ≠ 35 := by have := rwK_r v0 v3; omega
theorem insL_in (i : INV h h') {p v : Int} (p0 : 0 ≤ p) (p1 : p < h.1 13 10) (v0 : 0 ≤ v) (v3 : v < 3) {k : Nat} : inR h.1 (insL (rnd h.1 v) k p) := fun q hq => by
  rcases insL_m.mp hq with e | e
  · omega
  · exact (inv_RV i v v0 v3).2 q e
theorem c_fpI (i : INV h h') {p v had : Int} (p0 : 0 ≤ p) (p1 : p < h.1 13 10) (hp : vw h.1 p = -1) (v0 : 0 ≤ v) (v1 : v < h.1 13 14) (hhad : -1 ≤ had ∧ had ≤ 2000) {c7 : Int → Int → HH → Option HH} {P : HH → Prop} : ∀ (r N : Nat) (j : Int) (s : Int × Int × Int) (m : HH), r < N → j + r = h.1 31 v + 1 → 0 ≤ j → Fr sFP h m → stC m s → (∀ m', Fr sFP h m' → stC m' (fpI h.1 v p had (rnd h.1 v) r j s) → Ok (c7 p (v + 1) m') P) → Ok (nX7_findPlace_30 c7 N p v had j m) P := by
  have hn := inv_n i
  have h8 := len8 i p0 p1 hp v0 (by omega)
  have hb := inv_RV i v v0 (by omega)
  intro r
  induction r with
  | zero =>
    intro N j s m hN hj j0 f hs hk
    obtain ⟨M, rfl⟩ := fuel_s hN
    have e31 := sc_31 (sFP_sc f)
    rw [nX7_findPlace_30_s]
    simp only [bX7_findPlace_30]
    refine ok_gd (by omega) ?_
    refine ok_pos (by rw [e31]; omega) ?_
    refine ok_gd (by omega) ?_
    exact hk m f hs
  | succ r ih =>
    intro N j s m hN hj j0 f hs hk
    obtain ⟨M, rfl⟩ := fuel_s hN
    have fs := sFP_sc f
    have im : INV m h' := INV_scr i fs fr_r
    have e31 : m.1 31 v = h.1 31 v := by rw [sc_31 fs]
    rw [nX7_findPlace_30_s]
    simp only [bX7_findPlace_30]
    refine ok_gd (by omega) ?_
    refine ok_neg (by omega) ?_
    refine ok_gd (by omega) ?_
    refine ok_bf (rwK_0 v0 (by omega)) ?_
    refine ok_gd (by omega) ?_
    rw [e31]
    refine ok_bnd (sX6_insert (h := m) (a9_rw v0 (by omega)) a9_35 (rw35 v0 (by omega)) (n := h.1 31 v) (i := j) (p := p) j0 (by omega) h8) (fun q z => ?_)
    obtain ⟨⟨z1, z2⟩, z3⟩ := z
    have er : rowL (m.1 (rwK 3 28 v)) 0 (h.1 31 v).toNat = rnd h.1 v := by
      rw [← sc_rnd fs v0 (by omega), rnd, e31]
    rw [er] at z2
    have fq : Fr sFP h q.2 := fr_t f (fr_m (fun c i s => by unfold sA at s; exact Or.inr s) z3)
    have iq : INV q.2 h' := INV_scr i (sFP_sc fq) fr_r
    have hin : inR h.1 (insL (rnd h.1 v) j.toNat p) := insL_in i p0 p1 v0 (by omega)
    have ec := sX2_costOf iq.1.1.1 a9_35 (v := v) (n := h.1 31 v + 1) v0 (by rw [sc_13 (sFP_sc fq)]; exact v1) (by omega) (by omega) (by rw [z2]; exact sc_inR (sFP_sc fq) hin)
    rw [z2, sc_cost (sFP_sc fq)] at ec
    have cb := costL_b i.1.1.1 v0 v1 hin
    rw [z1]
    refine ok_be ec ?_
    have s34 : ∀ k, q.2.1 34 k = m.1 34 k := fun k => by rw [fr_c z3 34 (fun i s => by unfold sA at s; omega)]
    have hs2 : stC q.2 s := by unfold stC; rw [s34, s34, s34]; exact hs
    have step : ∀ m', Fr sFP h m' → stC m' (fpT h.1 v p had (rnd h.1 v) j s) → Ok (nX7_findPlace_30 c7 M p v had (j + 1) m') P := fun m' f' hs' => ih M (j + 1) _ m' (by omega) (by omega) (by omega) f' hs' (fun m'' f'' hs'' => hk m'' f'' (by rw [fpI]; exact hs''))
    have keep : fpT h.1 v p had (rnd h.1 v) j s = s → Ok (nX7_findPlace_134 c7 (nX7_findPlace_30 c7 M) p v had j q.2) P := fun e => by
      simp only [nX7_findPlace_134, bX7_findPlace_134]
      refine ok_gd (by omega) ?_
      exact step q.2 fq (by rw [e]; exact hs2)
    have take : fpT h.1 v p had (rnd h.1 v) j s = (v, j, costL h.1 v (insL (rnd h.1 v) j.toNat p) - had) → Ok (nX7_findPlace_115 c7 (nX7_findPlace_30 c7 M) p v had j (costL h.1 v (insL (rnd h.1 v) j.toNat p)) q.2) P := fun e => by
      simp only [nX7_findPlace_115, bX7_findPlace_115, nX7_findPlace_134, bX7_findPlace_134]
      refine ok_bs ?_
      refine ok_bs ?_
      refine ok_gd (by omega) ?_
      refine ok_bs ?_
      refine ok_gd (by omega) ?_
      refine step _ (fr_I (fr_I (fr_I fq (Or.inl rfl)) (Or.inl rfl)) (Or.inl rfl)) ?_
      rw [e]
      unfold stC
      simp (disch := decide) only [rI_s, rI_n, rI_2, rC_s, rC_n, rC_2, rJ_1, rJ_s, rJ_n, updI_at, if_pos, if_neg]
      exact ⟨trivial, fun _ => ⟨trivial, trivial⟩⟩
    by_cases c1 : costL h.1 v (insL (rnd h.1 v) j.toNat p) = -1
    · refine ok_pos c1 ?_
      exact keep (if_neg (fun q => q.1 c1))
    · refine ok_neg c1 ?_
      rw [s34, s34, hs.1]
      by_cases c2 : s.1 = -1
      · refine ok_pos c2 ?_
        exact take (if_pos ⟨c1, Or.inl c2⟩)
      · refine ok_neg c2 ?_
        refine ok_gd (by omega) ?_
        rw [(hs.2 c2).2]
        by_cases c3 : costL h.1 v (insL (rnd h.1 v) j.toNat p) - had < s.2.2
        · refine ok_pos c3 ?_
          exact take (if_pos ⟨c1, Or.inr c3⟩)
        · refine ok_neg c3 ?_
          refine keep (if_neg ?_)
          rintro ⟨_, q | q⟩
          · exact c2 q
          · exact c3 q
theorem c_findPlace (i : INV h h') {p : Int} (p0 : 0 ≤ p) (p1 : p < h.1 13 10) (hp : vw h.1 p = -1) : Ok (nX7_findPlace p h) (fun g => Fr sFP h g ∧ stC g (fpO h.1 p (h.1 13 14).toNat 0 (-1, 0, 0))) := by
  have hn := inv_n i
  have key : ∀ (r N : Nat) (v : Int) (s : Int × Int × Int) (m : HH), r < N → v + r = h.1 13 14 → 0 ≤ v → Fr sFP h m → stC m s → Ok (nX7_findPlace_7 N p v m) (fun g => Fr sFP h g ∧ stC g (fpO h.1 p r v s)) := by
    intro r
    induction r with
    | zero =>
      intro N v s m hN hv v0 f hs
      obtain ⟨M, rfl⟩ := fuel_s hN
      have e13 := sc_13 (sFP_sc f)
      rw [nX7_findPlace_7_s]
      simp only [bX7_findPlace_7]
      refine ok_neg (by rw [e13]; omega) ?_
      exact ok_some ⟨f, hs⟩
    | succ r ih =>
      intro N v s m hN hv v0 f hs
      obtain ⟨M, rfl⟩ := fuel_s hN
      have fs := sFP_sc f
      have e13 := sc_13 fs
      have im : INV m h' := INV_scr i fs fr_r
      have hb := inv_RV i v v0 (by omega)
      have cb := costL_b i.1.1.1 v0 (by omega) hb.2
      rw [nX7_findPlace_7_s]
      simp only [bX7_findPlace_7]
      refine ok_pos (by rw [e13]; omega) ?_
      refine ok_be (sX6_costNow im.1.1.1 (inv_RV im) v0 (by rw [e13]; omega)) ?_
      rw [sc_rnd fs v0 (by omega), sc_cost fs]
      refine c_fpI i p0 p1 hp v0 (by omega) cb ((h.1 31 v).toNat + 1) 100000 0 s m (by omega) (by omega) (by omega) f hs (fun m' f' hs' => ?_)
      refine ok_mono (ih M (v + 1) _ m' (by omega) (by omega) (by omega) f' hs') (fun g hg => ⟨hg.1, by rw [fpO]; exact hg.2⟩)
  unfold nX7_findPlace bX7_findPlace
  refine ok_bs ?_
  exact key (h.1 13 14).toNat 100000 0 _ _ (by omega) (by omega) (by omega) (fr_I fr_r (Or.inl rfl)) ⟨by simp (disch := decide) only [rI_s, rI_n, rI_2, rC_s, rC_n, rC_2, rJ_1, rJ_s, rJ_n, updI_at, if_pos, if_neg], fun q => absurd rfl q⟩
/-! the model -/
def stM (m : HH) (s : Int × Int × Int) : Prop := m.1 71 63 = s.1 ∧ (s.1 ≠ -1 → m.1 71 64 = s.2.1 ∧ m.1 71 65 = s.2.2)
theorem m_fpI (i : INV h h') {p v had : Int} (p0 : 0 ≤ p) (p1 : p < h.1 13 10) (hp : vw h.1 p = -1) (v0 : 0 ≤ v) (v1 : v < h.1 13 14) (hhad : -1 ≤ had ∧ had ≤ 2000) {c7 : Int → Int → HH → Option HH} {P : HH → Prop} : ∀ (r N : Nat) (j : Int) (s : Int × Int × Int) (m : HH), r < N → j + r = h.1 31 v + 1 → 0 ≤ j → Fr scM h' m → stM m s → (∀ m', Fr scM h' m' → stM m' (fpI h.1 v p had (rnd h.1 v) r j s) → Ok (c7 p (v + 1) m') P) → Ok (nX12_looksFor_24 c7 N p v had j m) P := by
  have hn := inv_n i
  have h8 := len8 i p0 p1 hp v0 (by omega)
  have hb := inv_RV i v v0 (by omega)
  have hr1 := i.2.1.1.2.1 v v0 (by omega)
  intro r
  induction r with
  | zero =>
    intro N j s m hN hj j0 f hs hk
    obtain ⟨M, rfl⟩ := fuel_s hN
    have e95 : m.1 95 v = h'.1 95 v := f.2 95 v (by unfold scM; omega)
    rw [nX12_looksFor_24_s]
    simp only [bX12_looksFor_24]
    refine ok_gd (by omega) ?_
    refine ok_pos (by omega) ?_
    refine ok_gd (by omega) ?_
    exact hk m f hs
  | succ r ih =>
    intro N j s m hN hj j0 f hs hk
    obtain ⟨M, rfl⟩ := fuel_s hN
    have im : INV h m := INV_scr i fr_r f
    have e95 : m.1 95 v = h'.1 95 v := f.2 95 v (by unfold scM; omega)
    have hin : inR h.1 (insL (rnd h.1 v) j.toNat p) := insL_in i p0 p1 v0 (by omega)
    have cb := costL_b i.1.1.1 v0 v1 hin
    rw [nX12_looksFor_24_s]
    simp only [bX12_looksFor_24]
    refine ok_gd (by omega) ?_
    refine ok_neg (by omega) ?_
    refine ok_bnd (inv_loads im v0 (by omega)) (fun m1 w1 => ?_)
    refine ok_bnd (sX12_inserts (h := m1) (i := j) (p := p) j0 (by omega) (by omega)) (fun m2 w2 => ?_)
    have f2 : Fr scM h' m2 := fr_t f (row_scM (fr_t w1.1 w2.1))
    have i2 : INV h m2 := INV_scr i fr_r f2
    refine ok_bnd (inv_drives i2 v0 v1 (l := insL (rnd h.1 v) j.toNat p) (by omega) (by rw [w2.2.2, w1.2.2]) hin) (fun q w3 => ?_)
    have f3 : Fr scM h' q.2 := fr_t f2 (dr_scM w3.2.1)
    rw [w3.1]
    have s7 : ∀ k, 63 ≤ k → k ≤ 65 → q.2.1 71 k = m.1 71 k := fun k k0 k1 => by rw [w3.2.1.2 71 k (by unfold sDr; omega), w2.1.2 71 k (by unfold sRow; omega), w1.1.2 71 k (by unfold sRow; omega)]
    have hs2 : stM q.2 s := by unfold stM; rw [s7 63 (by omega) (by omega), s7 64 (by omega) (by omega), s7 65 (by omega) (by omega)]; exact hs
    have step : ∀ m', Fr scM h' m' → stM m' (fpT h.1 v p had (rnd h.1 v) j s) → Ok (nX12_looksFor_24 c7 M p v had (j + 1) m') P := fun m' f' hs' => ih M (j + 1) _ m' (by omega) (by omega) (by omega) f' hs' (fun m'' f'' hs'' => hk m'' f'' (by rw [fpI]; exact hs''))
    have keep : fpT h.1 v p had (rnd h.1 v) j s = s → Ok (nX12_looksFor_98 c7 (nX12_looksFor_24 c7 M) p v had j q.2) P := fun e => by
      simp only [nX12_looksFor_98, bX12_looksFor_98]
      refine ok_gd (by omega) ?_
      exact step q.2 f3 (by rw [e]; exact hs2)
    have take : fpT h.1 v p had (rnd h.1 v) j s = (v, j, costL h.1 v (insL (rnd h.1 v) j.toNat p) - had) → Ok (nX12_looksFor_79 c7 (nX12_looksFor_24 c7 M) p v had j (costL h.1 v (insL (rnd h.1 v) j.toNat p)) q.2) P := fun e => by
      simp only [nX12_looksFor_79, bX12_looksFor_79, nX12_looksFor_98, bX12_looksFor_98]
      refine ok_bs ?_
      refine ok_bs ?_
      refine ok_gd (by omega) ?_
      refine ok_bs ?_
      refine ok_gd (by omega) ?_
      refine step _ (fr_I (fr_I (fr_I f3 (by unfold scM; omega)) (by unfold scM; omega)) (by unfold scM; omega)) ?_
      rw [e]
      unfold stM
      simp (disch := decide) only [rI_s, rI_n, rI_2, rC_s, rC_n, rC_2, rJ_1, rJ_s, rJ_n, updI_at, if_pos, if_neg]
      exact ⟨trivial, fun _ => ⟨trivial, trivial⟩⟩
    by_cases c1 : costL h.1 v (insL (rnd h.1 v) j.toNat p) = -1
    · refine ok_pos c1 ?_
      exact keep (if_neg (fun q => q.1 c1))
    · refine ok_neg c1 ?_
      rw [s7 63 (by omega) (by omega), s7 65 (by omega) (by omega), hs.1]
      by_cases c2 : s.1 = -1
      · refine ok_pos c2 ?_
        exact take (if_pos ⟨c1, Or.inl c2⟩)
      · refine ok_neg c2 ?_
        refine ok_gd (by omega) ?_
        rw [(hs.2 c2).2]
        by_cases c3 : costL h.1 v (insL (rnd h.1 v) j.toNat p) - had < s.2.2
        · refine ok_pos c3 ?_
          exact take (if_pos ⟨c1, Or.inr c3⟩)
        · refine ok_neg c3 ?_
          refine keep (if_neg ?_)
          rintro ⟨_, q | q⟩
          · exact c2 q
          · exact c3 q
theorem m_looksFor (i : INV h h') {p : Int} (p0 : 0 ≤ p) (p1 : p < h.1 13 10) (hp : vw h.1 p = -1) : Ok (nX12_looksFor p h') (fun g => Fr scM h' g ∧ stM g (fpO h.1 p (h.1 13 14).toNat 0 (-1, 0, 0))) := by
  have hn := inv_n i
  have key : ∀ (r N : Nat) (v : Int) (s : Int × Int × Int) (m : HH), r < N → v + r = h.1 13 14 → 0 ≤ v → Fr scM h' m → stM m s → Ok (nX12_looksFor_7 N p v m) (fun g => Fr scM h' g ∧ stM g (fpO h.1 p r v s)) := by
    intro r
    induction r with
    | zero =>
      intro N v s m hN hv v0 f hs
      obtain ⟨M, rfl⟩ := fuel_s hN
      have e27 : m.1 71 27 = h'.1 71 27 := f.2 71 27 (by unfold scM; omega)
      rw [nX12_looksFor_7_s]
      simp only [bX12_looksFor_7]
      refine ok_neg (by omega) ?_
      exact ok_some ⟨f, hs⟩
    | succ r ih =>
      intro N v s m hN hv v0 f hs
      obtain ⟨M, rfl⟩ := fuel_s hN
      have e27 : m.1 71 27 = h'.1 71 27 := f.2 71 27 (by unfold scM; omega)
      have im : INV h m := INV_scr i fr_r f
      have hb := inv_RV i v v0 (by omega)
      have hr1 := i.2.1.1.2.1 v v0 (by omega)
      have cb := costL_b i.1.1.1 v0 (by omega) hb.2
      rw [nX12_looksFor_7_s]
      simp only [bX12_looksFor_7, nX12_costOf, bX12_costOf, bnd_bnd, bnd_some]
      refine ok_pos (by omega) ?_
      refine ok_bnd (inv_loads im v0 (by omega)) (fun m1 w1 => ?_)
      have i1 : INV h m1 := INV_scr im fr_r (row_scM w1.1)
      refine ok_bnd (inv_drives i1 v0 (by omega) (l := rnd h.1 v) (by omega) w1.2.2 hb.2) (fun q w3 => ?_)
      have s7 : ∀ k, 63 ≤ k → k ≤ 65 → q.2.1 71 k = m.1 71 k := fun k k0 k1 => by rw [w3.2.1.2 71 k (by unfold sDr; omega), w1.1.2 71 k (by unfold sRow; omega)]
      have hs2 : stM q.2 s := by unfold stM; rw [s7 63 (by omega) (by omega), s7 64 (by omega) (by omega), s7 65 (by omega) (by omega)]; exact hs
      rw [w3.1]
      refine m_fpI i p0 p1 hp v0 (by omega) cb ((h.1 31 v).toNat + 1) 100000 0 s q.2 (by omega) (by omega) (by omega) (fr_t (fr_t f (row_scM w1.1)) (dr_scM w3.2.1)) hs2 (fun m' f' hs' => ?_)
      refine ok_mono (ih M (v + 1) _ m' (by omega) (by omega) (by omega) f' hs') (fun g hg => ⟨hg.1, by rw [fpO]; exact hg.2⟩)
  unfold nX12_looksFor bX12_looksFor
  refine ok_bs ?_
  exact key (h.1 13 14).toNat 100000 0 _ _ (by omega) (by omega) (by omega) (fr_I fr_r (by unfold scM; omega)) ⟨by simp (disch := decide) only [rI_s, rI_n, rI_2, rC_s, rC_n, rC_2, rJ_1, rJ_s, rJ_n, updI_at, if_pos, if_neg], fun q => absurd rfl q⟩
theorem op_putInCost (i : INV h h') (x1 : Int) : both (nX11_putInCost x1 h) (nX12_putInCost x1 h') (cdX 1 0 2 0) := by
  have i0 := i
  have hv := i.1.1.1
  have hm := i.1.1.2
  have hn := inv_n i
  have hr := inv_RV i
  have hq := i.2.1.1.2.2
  simp only [nX11_putInCost, bX11_putInCost, nX12_putInCost, bX12_putInCost, nX12_putInCost_50, bX12_putInCost_50, both]
  by_cases p2 : 0 ≤ x1 ∧ x1 < h.1 13 10
  · by_cases p4 : h.1 20 x1 = 0 ∧ vw h.1 x1 = -1
    · repeat (first | with_reducible refine ok_gd (by first | omega | decide) ?_ | with_reducible refine ok_bs ?_ | with_reducible refine ok_be (sX12_refuse _ _) ?_ | with_reducible refine ok_be (sX12_told _ _) ?_ | with_reducible refine ok_ndt (sX11_needVan hv) (by omega) ?_ | with_reducible refine ok_ndf (sX11_needVan hv) (by omega) ?_ | with_reducible refine ok_ndt (sX11_needParcel hv) (by omega) ?_ | with_reducible refine ok_ndf (sX11_needParcel hv) (by omega) ?_ | with_reducible refine ok_ndt (sX11_needIndex _ _ _ _) (by omega) ?_ | with_reducible refine ok_ndf (sX11_needIndex _ _ _ _) (by omega) ?_ | with_reducible refine ok_ndt (sX11_needRange _ _ _ _) (by omega) ?_ | with_reducible refine ok_ndf (sX11_needRange _ _ _ _) (by omega) ?_ | with_reducible refine ok_ndt (sX11_needThat2 _ _) (by omega) ?_ | with_reducible refine ok_ndf (sX11_needThat2 _ _) (by omega) ?_ | with_reducible refine ok_ndt (sX11_needState2 _ _) (by omega) ?_ | with_reducible refine ok_ndf (sX11_needState2 _ _) (by omega) ?_ | with_reducible refine ok_ndt (sX11_needElement _ _) (by omega) ?_ | with_reducible refine ok_ndf (sX11_needElement _ _) (by omega) ?_ | with_reducible refine ok_ndt (sX11_needPlace _ _) (by omega) ?_ | with_reducible refine ok_ndf (sX11_needPlace _ _) (by omega) ?_ | with_reducible refine ok_ndt (sX11_needSender _ _) (by omega) ?_ | with_reducible refine ok_ndf (sX11_needSender _ _) (by omega) ?_ | with_reducible refine ok_b2t (sX6_canTake hr (by omega) (by omega)) (by omega) ?_ | with_reducible refine ok_b2f (sX6_canTake hr (by omega) (by omega)) (by omega) ?_ | with_reducible refine ok_b2t (sX12_isVan hm hv) (by omega) ?_ | with_reducible refine ok_b2f (sX12_isVan hm hv) (by omega) ?_ | with_reducible refine ok_b2t (sX12_isParcel hm hv) (by omega) ?_ | with_reducible refine ok_b2f (sX12_isParcel hm hv) (by omega) ?_ | with_reducible refine ok_b2t (sX12_in _ _ _ _) (by omega) ?_ | with_reducible refine ok_b2f (sX12_in _ _ _ _) (by omega) ?_ | with_reducible refine ok_b2t (sX12_isPlace _ _) (by omega) ?_ | with_reducible refine ok_b2f (sX12_isPlace _ _) (by omega) ?_ | with_reducible refine ok_pos (by omega) ?_ | with_reducible refine ok_neg (by omega) ?_ | with_reducible refine ok_tl ?_ | with_reducible refine ok_tr ?_ | dsimp only)
      refine ok_bnd (c_findPlace i p2.1 p2.2 p4.2) (fun g hg => ?_)
      have ho := fpO_ok (K := h.1) (p := x1) (fun v v0 v1 => (hr v v0 (by omega)).1.1) (k := (h.1 13 14).toNat) (v := 0) (s := (-1, 0, 0)) (by omega) (by omega) (Or.inl rfl)
      obtain ⟨s, hs⟩ : ∃ s, s = fpO h.1 x1 (h.1 13 14).toNat 0 (-1, 0, 0) := ⟨_, rfl⟩
      have mk := m_looksFor i p2.1 p2.2 p4.2
      rw [← hs] at hg ho mk
      have fg := sFP_sc hg.1
      rw [hg.2.1]
      by_cases c : s.1 = -1
      · repeat (first | with_reducible refine ok_gd (by first | omega | decide) ?_ | with_reducible refine ok_bs ?_ | with_reducible refine ok_be (sX12_refuse _ _) ?_ | with_reducible refine ok_be (sX12_told _ _) ?_ | with_reducible refine ok_ndt (sX11_needIndex _ _ _ _) (by omega) ?_ | with_reducible refine ok_ndf (sX11_needIndex _ _ _ _) (by omega) ?_ | with_reducible refine ok_ndt (sX11_needRange _ _ _ _) (by omega) ?_ | with_reducible refine ok_ndf (sX11_needRange _ _ _ _) (by omega) ?_ | with_reducible refine ok_ndt (sX11_needThat2 _ _) (by omega) ?_ | with_reducible refine ok_ndf (sX11_needThat2 _ _) (by omega) ?_ | with_reducible refine ok_ndt (sX11_needState2 _ _) (by omega) ?_ | with_reducible refine ok_ndf (sX11_needState2 _ _) (by omega) ?_ | with_reducible refine ok_ndt (sX11_needElement _ _) (by omega) ?_ | with_reducible refine ok_ndf (sX11_needElement _ _) (by omega) ?_ | with_reducible refine ok_ndt (sX11_needPlace _ _) (by omega) ?_ | with_reducible refine ok_ndf (sX11_needPlace _ _) (by omega) ?_ | with_reducible refine ok_ndt (sX11_needSender _ _) (by omega) ?_ | with_reducible refine ok_ndf (sX11_needSender _ _) (by omega) ?_ | with_reducible refine ok_b2t (sX12_in _ _ _ _) (by omega) ?_ | with_reducible refine ok_b2f (sX12_in _ _ _ _) (by omega) ?_ | with_reducible refine ok_b2t (sX12_isPlace _ _) (by omega) ?_ | with_reducible refine ok_b2f (sX12_isPlace _ _) (by omega) ?_ | with_reducible refine ok_pos (by omega) ?_ | with_reducible refine ok_neg (by omega) ?_ | with_reducible refine ok_tl ?_ | with_reducible refine ok_tr ?_ | dsimp only)
        refine ok_some ?_
        repeat (first | with_reducible refine ok_gd (by first | omega | decide) ?_ | with_reducible refine ok_bs ?_ | with_reducible refine ok_be (sX12_refuse _ _) ?_ | with_reducible refine ok_be (sX12_told _ _) ?_ | with_reducible refine ok_ndt (sX11_needVan hv) (by omega) ?_ | with_reducible refine ok_ndf (sX11_needVan hv) (by omega) ?_ | with_reducible refine ok_ndt (sX11_needParcel hv) (by omega) ?_ | with_reducible refine ok_ndf (sX11_needParcel hv) (by omega) ?_ | with_reducible refine ok_ndt (sX11_needIndex _ _ _ _) (by omega) ?_ | with_reducible refine ok_ndf (sX11_needIndex _ _ _ _) (by omega) ?_ | with_reducible refine ok_ndt (sX11_needRange _ _ _ _) (by omega) ?_ | with_reducible refine ok_ndf (sX11_needRange _ _ _ _) (by omega) ?_ | with_reducible refine ok_ndt (sX11_needThat2 _ _) (by omega) ?_ | with_reducible refine ok_ndf (sX11_needThat2 _ _) (by omega) ?_ | with_reducible refine ok_ndt (sX11_needState2 _ _) (by omega) ?_ | with_reducible refine ok_ndf (sX11_needState2 _ _) (by omega) ?_ | with_reducible refine ok_ndt (sX11_needElement _ _) (by omega) ?_ | with_reducible refine ok_ndf (sX11_needElement _ _) (by omega) ?_ | with_reducible refine ok_ndt (sX11_needPlace _ _) (by omega) ?_ | with_reducible refine ok_ndf (sX11_needPlace _ _) (by omega) ?_ | with_reducible refine ok_ndt (sX11_needSender _ _) (by omega) ?_ | with_reducible refine ok_ndf (sX11_needSender _ _) (by omega) ?_ | with_reducible refine ok_b2t (sX12_canBePut hm hq (by omega) (by omega) (by omega)) (by omega) ?_ | with_reducible refine ok_b2f (sX12_canBePut hm hq (by omega) (by omega) (by omega)) (by omega) ?_ | with_reducible refine ok_b2t (sX12_isVan hm hv) (by omega) ?_ | with_reducible refine ok_b2f (sX12_isVan hm hv) (by omega) ?_ | with_reducible refine ok_b2t (sX12_isParcel hm hv) (by omega) ?_ | with_reducible refine ok_b2f (sX12_isParcel hm hv) (by omega) ?_ | with_reducible refine ok_b2t (sX12_in _ _ _ _) (by omega) ?_ | with_reducible refine ok_b2f (sX12_in _ _ _ _) (by omega) ?_ | with_reducible refine ok_b2t (sX12_isPlace _ _) (by omega) ?_ | with_reducible refine ok_b2f (sX12_isPlace _ _) (by omega) ?_ | with_reducible refine ok_pos (by omega) ?_ | with_reducible refine ok_neg (by omega) ?_ | with_reducible refine ok_tl ?_ | with_reducible refine ok_tr ?_ | dsimp only)
        refine ok_bnd mk (fun g' hg' => ?_)
        rw [hg'.2.1]
        repeat (first | with_reducible refine ok_gd (by first | omega | decide) ?_ | with_reducible refine ok_bs ?_ | with_reducible refine ok_be (sX12_refuse _ _) ?_ | with_reducible refine ok_be (sX12_told _ _) ?_ | with_reducible refine ok_ndt (sX11_needIndex _ _ _ _) (by omega) ?_ | with_reducible refine ok_ndf (sX11_needIndex _ _ _ _) (by omega) ?_ | with_reducible refine ok_ndt (sX11_needRange _ _ _ _) (by omega) ?_ | with_reducible refine ok_ndf (sX11_needRange _ _ _ _) (by omega) ?_ | with_reducible refine ok_ndt (sX11_needThat2 _ _) (by omega) ?_ | with_reducible refine ok_ndf (sX11_needThat2 _ _) (by omega) ?_ | with_reducible refine ok_ndt (sX11_needState2 _ _) (by omega) ?_ | with_reducible refine ok_ndf (sX11_needState2 _ _) (by omega) ?_ | with_reducible refine ok_ndt (sX11_needElement _ _) (by omega) ?_ | with_reducible refine ok_ndf (sX11_needElement _ _) (by omega) ?_ | with_reducible refine ok_ndt (sX11_needPlace _ _) (by omega) ?_ | with_reducible refine ok_ndf (sX11_needPlace _ _) (by omega) ?_ | with_reducible refine ok_ndt (sX11_needSender _ _) (by omega) ?_ | with_reducible refine ok_ndf (sX11_needSender _ _) (by omega) ?_ | with_reducible refine ok_b2t (sX12_in _ _ _ _) (by omega) ?_ | with_reducible refine ok_b2f (sX12_in _ _ _ _) (by omega) ?_ | with_reducible refine ok_b2t (sX12_isPlace _ _) (by omega) ?_ | with_reducible refine ok_b2f (sX12_isPlace _ _) (by omega) ?_ | with_reducible refine ok_pos (by omega) ?_ | with_reducible refine ok_neg (by omega) ?_ | with_reducible refine ok_tl ?_ | with_reducible refine ok_tr ?_ | dsimp only)
        exact both_ok rfl (INV_thr (INV_scr i fg hg'.1))
      · repeat (first | with_reducible refine ok_gd (by first | omega | decide) ?_ | with_reducible refine ok_bs ?_ | with_reducible refine ok_be (sX12_refuse _ _) ?_ | with_reducible refine ok_be (sX12_told _ _) ?_ | with_reducible refine ok_ndt (sX11_needIndex _ _ _ _) (by omega) ?_ | with_reducible refine ok_ndf (sX11_needIndex _ _ _ _) (by omega) ?_ | with_reducible refine ok_ndt (sX11_needRange _ _ _ _) (by omega) ?_ | with_reducible refine ok_ndf (sX11_needRange _ _ _ _) (by omega) ?_ | with_reducible refine ok_ndt (sX11_needThat2 _ _) (by omega) ?_ | with_reducible refine ok_ndf (sX11_needThat2 _ _) (by omega) ?_ | with_reducible refine ok_ndt (sX11_needState2 _ _) (by omega) ?_ | with_reducible refine ok_ndf (sX11_needState2 _ _) (by omega) ?_ | with_reducible refine ok_ndt (sX11_needElement _ _) (by omega) ?_ | with_reducible refine ok_ndf (sX11_needElement _ _) (by omega) ?_ | with_reducible refine ok_ndt (sX11_needPlace _ _) (by omega) ?_ | with_reducible refine ok_ndf (sX11_needPlace _ _) (by omega) ?_ | with_reducible refine ok_ndt (sX11_needSender _ _) (by omega) ?_ | with_reducible refine ok_ndf (sX11_needSender _ _) (by omega) ?_ | with_reducible refine ok_b2t (sX12_in _ _ _ _) (by omega) ?_ | with_reducible refine ok_b2f (sX12_in _ _ _ _) (by omega) ?_ | with_reducible refine ok_b2t (sX12_isPlace _ _) (by omega) ?_ | with_reducible refine ok_b2f (sX12_isPlace _ _) (by omega) ?_ | with_reducible refine ok_pos (by omega) ?_ | with_reducible refine ok_neg (by omega) ?_ | with_reducible refine ok_tl ?_ | with_reducible refine ok_tr ?_ | dsimp only)
        refine ok_some ?_
        repeat (first | with_reducible refine ok_gd (by first | omega | decide) ?_ | with_reducible refine ok_bs ?_ | with_reducible refine ok_be (sX12_refuse _ _) ?_ | with_reducible refine ok_be (sX12_told _ _) ?_ | with_reducible refine ok_ndt (sX11_needVan hv) (by omega) ?_ | with_reducible refine ok_ndf (sX11_needVan hv) (by omega) ?_ | with_reducible refine ok_ndt (sX11_needParcel hv) (by omega) ?_ | with_reducible refine ok_ndf (sX11_needParcel hv) (by omega) ?_ | with_reducible refine ok_ndt (sX11_needIndex _ _ _ _) (by omega) ?_ | with_reducible refine ok_ndf (sX11_needIndex _ _ _ _) (by omega) ?_ | with_reducible refine ok_ndt (sX11_needRange _ _ _ _) (by omega) ?_ | with_reducible refine ok_ndf (sX11_needRange _ _ _ _) (by omega) ?_ | with_reducible refine ok_ndt (sX11_needThat2 _ _) (by omega) ?_ | with_reducible refine ok_ndf (sX11_needThat2 _ _) (by omega) ?_ | with_reducible refine ok_ndt (sX11_needState2 _ _) (by omega) ?_ | with_reducible refine ok_ndf (sX11_needState2 _ _) (by omega) ?_ | with_reducible refine ok_ndt (sX11_needElement _ _) (by omega) ?_ | with_reducible refine ok_ndf (sX11_needElement _ _) (by omega) ?_ | with_reducible refine ok_ndt (sX11_needPlace _ _) (by omega) ?_ | with_reducible refine ok_ndf (sX11_needPlace _ _) (by omega) ?_ | with_reducible refine ok_ndt (sX11_needSender _ _) (by omega) ?_ | with_reducible refine ok_ndf (sX11_needSender _ _) (by omega) ?_ | with_reducible refine ok_b2t (sX12_canBePut hm hq (by omega) (by omega) (by omega)) (by omega) ?_ | with_reducible refine ok_b2f (sX12_canBePut hm hq (by omega) (by omega) (by omega)) (by omega) ?_ | with_reducible refine ok_b2t (sX12_isVan hm hv) (by omega) ?_ | with_reducible refine ok_b2f (sX12_isVan hm hv) (by omega) ?_ | with_reducible refine ok_b2t (sX12_isParcel hm hv) (by omega) ?_ | with_reducible refine ok_b2f (sX12_isParcel hm hv) (by omega) ?_ | with_reducible refine ok_b2t (sX12_in _ _ _ _) (by omega) ?_ | with_reducible refine ok_b2f (sX12_in _ _ _ _) (by omega) ?_ | with_reducible refine ok_b2t (sX12_isPlace _ _) (by omega) ?_ | with_reducible refine ok_b2f (sX12_isPlace _ _) (by omega) ?_ | with_reducible refine ok_pos (by omega) ?_ | with_reducible refine ok_neg (by omega) ?_ | with_reducible refine ok_tl ?_ | with_reducible refine ok_tr ?_ | dsimp only)
        refine ok_bnd mk (fun g' hg' => ?_)
        rw [hg'.2.1]
        repeat (first | with_reducible refine ok_gd (by first | omega | decide) ?_ | with_reducible refine ok_bs ?_ | with_reducible refine ok_be (sX12_refuse _ _) ?_ | with_reducible refine ok_be (sX12_told _ _) ?_ | with_reducible refine ok_ndt (sX11_needIndex _ _ _ _) (by omega) ?_ | with_reducible refine ok_ndf (sX11_needIndex _ _ _ _) (by omega) ?_ | with_reducible refine ok_ndt (sX11_needRange _ _ _ _) (by omega) ?_ | with_reducible refine ok_ndf (sX11_needRange _ _ _ _) (by omega) ?_ | with_reducible refine ok_ndt (sX11_needThat2 _ _) (by omega) ?_ | with_reducible refine ok_ndf (sX11_needThat2 _ _) (by omega) ?_ | with_reducible refine ok_ndt (sX11_needState2 _ _) (by omega) ?_ | with_reducible refine ok_ndf (sX11_needState2 _ _) (by omega) ?_ | with_reducible refine ok_ndt (sX11_needElement _ _) (by omega) ?_ | with_reducible refine ok_ndf (sX11_needElement _ _) (by omega) ?_ | with_reducible refine ok_ndt (sX11_needPlace _ _) (by omega) ?_ | with_reducible refine ok_ndf (sX11_needPlace _ _) (by omega) ?_ | with_reducible refine ok_ndt (sX11_needSender _ _) (by omega) ?_ | with_reducible refine ok_ndf (sX11_needSender _ _) (by omega) ?_ | with_reducible refine ok_b2t (sX12_in _ _ _ _) (by omega) ?_ | with_reducible refine ok_b2f (sX12_in _ _ _ _) (by omega) ?_ | with_reducible refine ok_b2t (sX12_isPlace _ _) (by omega) ?_ | with_reducible refine ok_b2f (sX12_isPlace _ _) (by omega) ?_ | with_reducible refine ok_pos (by omega) ?_ | with_reducible refine ok_neg (by omega) ?_ | with_reducible refine ok_tl ?_ | with_reducible refine ok_tr ?_ | dsimp only)
        exact both_ok (by rw [(hg'.2.2 c).2, (hg.2.2 c).2]) (INV_thr (INV_scr i fg hg'.1))
    · repeat (first | with_reducible refine ok_gd (by first | omega | decide) ?_ | with_reducible refine ok_bs ?_ | with_reducible refine ok_be (sX12_refuse _ _) ?_ | with_reducible refine ok_be (sX12_told _ _) ?_ | with_reducible refine ok_ndt (sX11_needVan hv) (by omega) ?_ | with_reducible refine ok_ndf (sX11_needVan hv) (by omega) ?_ | with_reducible refine ok_ndt (sX11_needParcel hv) (by omega) ?_ | with_reducible refine ok_ndf (sX11_needParcel hv) (by omega) ?_ | with_reducible refine ok_ndt (sX11_needIndex _ _ _ _) (by omega) ?_ | with_reducible refine ok_ndf (sX11_needIndex _ _ _ _) (by omega) ?_ | with_reducible refine ok_ndt (sX11_needRange _ _ _ _) (by omega) ?_ | with_reducible refine ok_ndf (sX11_needRange _ _ _ _) (by omega) ?_ | with_reducible refine ok_ndt (sX11_needThat2 _ _) (by omega) ?_ | with_reducible refine ok_ndf (sX11_needThat2 _ _) (by omega) ?_ | with_reducible refine ok_ndt (sX11_needState2 _ _) (by omega) ?_ | with_reducible refine ok_ndf (sX11_needState2 _ _) (by omega) ?_ | with_reducible refine ok_ndt (sX11_needElement _ _) (by omega) ?_ | with_reducible refine ok_ndf (sX11_needElement _ _) (by omega) ?_ | with_reducible refine ok_ndt (sX11_needPlace _ _) (by omega) ?_ | with_reducible refine ok_ndf (sX11_needPlace _ _) (by omega) ?_ | with_reducible refine ok_ndt (sX11_needSender _ _) (by omega) ?_ | with_reducible refine ok_ndf (sX11_needSender _ _) (by omega) ?_ | with_reducible refine ok_b2t (sX12_canBePut hm hq (by omega) (by omega) (by omega)) (by omega) ?_ | with_reducible refine ok_b2f (sX12_canBePut hm hq (by omega) (by omega) (by omega)) (by omega) ?_ | with_reducible refine ok_b2t (sX6_canTake hr (by omega) (by omega)) (by omega) ?_ | with_reducible refine ok_b2f (sX6_canTake hr (by omega) (by omega)) (by omega) ?_ | with_reducible refine ok_b2t (sX12_isVan hm hv) (by omega) ?_ | with_reducible refine ok_b2f (sX12_isVan hm hv) (by omega) ?_ | with_reducible refine ok_b2t (sX12_isParcel hm hv) (by omega) ?_ | with_reducible refine ok_b2f (sX12_isParcel hm hv) (by omega) ?_ | with_reducible refine ok_b2t (sX12_in _ _ _ _) (by omega) ?_ | with_reducible refine ok_b2f (sX12_in _ _ _ _) (by omega) ?_ | with_reducible refine ok_b2t (sX12_isPlace _ _) (by omega) ?_ | with_reducible refine ok_b2f (sX12_isPlace _ _) (by omega) ?_ | with_reducible refine ok_pos (by omega) ?_ | with_reducible refine ok_neg (by omega) ?_ | with_reducible refine ok_tl ?_ | with_reducible refine ok_tr ?_ | dsimp only)
      refine ok_some ?_
      repeat (first | with_reducible refine ok_gd (by first | omega | decide) ?_ | with_reducible refine ok_bs ?_ | with_reducible refine ok_be (sX12_refuse _ _) ?_ | with_reducible refine ok_be (sX12_told _ _) ?_ | with_reducible refine ok_ndt (sX11_needVan hv) (by omega) ?_ | with_reducible refine ok_ndf (sX11_needVan hv) (by omega) ?_ | with_reducible refine ok_ndt (sX11_needParcel hv) (by omega) ?_ | with_reducible refine ok_ndf (sX11_needParcel hv) (by omega) ?_ | with_reducible refine ok_ndt (sX11_needIndex _ _ _ _) (by omega) ?_ | with_reducible refine ok_ndf (sX11_needIndex _ _ _ _) (by omega) ?_ | with_reducible refine ok_ndt (sX11_needRange _ _ _ _) (by omega) ?_ | with_reducible refine ok_ndf (sX11_needRange _ _ _ _) (by omega) ?_ | with_reducible refine ok_ndt (sX11_needThat2 _ _) (by omega) ?_ | with_reducible refine ok_ndf (sX11_needThat2 _ _) (by omega) ?_ | with_reducible refine ok_ndt (sX11_needState2 _ _) (by omega) ?_ | with_reducible refine ok_ndf (sX11_needState2 _ _) (by omega) ?_ | with_reducible refine ok_ndt (sX11_needElement _ _) (by omega) ?_ | with_reducible refine ok_ndf (sX11_needElement _ _) (by omega) ?_ | with_reducible refine ok_ndt (sX11_needPlace _ _) (by omega) ?_ | with_reducible refine ok_ndf (sX11_needPlace _ _) (by omega) ?_ | with_reducible refine ok_ndt (sX11_needSender _ _) (by omega) ?_ | with_reducible refine ok_ndf (sX11_needSender _ _) (by omega) ?_ | with_reducible refine ok_b2t (sX12_canBePut hm hq (by omega) (by omega) (by omega)) (by omega) ?_ | with_reducible refine ok_b2f (sX12_canBePut hm hq (by omega) (by omega) (by omega)) (by omega) ?_ | with_reducible refine ok_b2t (sX12_isVan hm hv) (by omega) ?_ | with_reducible refine ok_b2f (sX12_isVan hm hv) (by omega) ?_ | with_reducible refine ok_b2t (sX12_isParcel hm hv) (by omega) ?_ | with_reducible refine ok_b2f (sX12_isParcel hm hv) (by omega) ?_ | with_reducible refine ok_b2t (sX12_in _ _ _ _) (by omega) ?_ | with_reducible refine ok_b2f (sX12_in _ _ _ _) (by omega) ?_ | with_reducible refine ok_b2t (sX12_isPlace _ _) (by omega) ?_ | with_reducible refine ok_b2f (sX12_isPlace _ _) (by omega) ?_ | with_reducible refine ok_pos (by omega) ?_ | with_reducible refine ok_neg (by omega) ?_ | with_reducible refine ok_tl ?_ | with_reducible refine ok_tr ?_ | dsimp only)
      exact both_thr i0 (by decide) rfl
  · repeat (first | with_reducible refine ok_gd (by first | omega | decide) ?_ | with_reducible refine ok_bs ?_ | with_reducible refine ok_be (sX12_refuse _ _) ?_ | with_reducible refine ok_be (sX12_told _ _) ?_ | with_reducible refine ok_ndt (sX11_needVan hv) (by omega) ?_ | with_reducible refine ok_ndf (sX11_needVan hv) (by omega) ?_ | with_reducible refine ok_ndt (sX11_needParcel hv) (by omega) ?_ | with_reducible refine ok_ndf (sX11_needParcel hv) (by omega) ?_ | with_reducible refine ok_ndt (sX11_needIndex _ _ _ _) (by omega) ?_ | with_reducible refine ok_ndf (sX11_needIndex _ _ _ _) (by omega) ?_ | with_reducible refine ok_ndt (sX11_needRange _ _ _ _) (by omega) ?_ | with_reducible refine ok_ndf (sX11_needRange _ _ _ _) (by omega) ?_ | with_reducible refine ok_ndt (sX11_needThat2 _ _) (by omega) ?_ | with_reducible refine ok_ndf (sX11_needThat2 _ _) (by omega) ?_ | with_reducible refine ok_ndt (sX11_needState2 _ _) (by omega) ?_ | with_reducible refine ok_ndf (sX11_needState2 _ _) (by omega) ?_ | with_reducible refine ok_ndt (sX11_needElement _ _) (by omega) ?_ | with_reducible refine ok_ndf (sX11_needElement _ _) (by omega) ?_ | with_reducible refine ok_ndt (sX11_needPlace _ _) (by omega) ?_ | with_reducible refine ok_ndf (sX11_needPlace _ _) (by omega) ?_ | with_reducible refine ok_ndt (sX11_needSender _ _) (by omega) ?_ | with_reducible refine ok_ndf (sX11_needSender _ _) (by omega) ?_ | with_reducible refine ok_b2t (sX12_isVan hm hv) (by omega) ?_ | with_reducible refine ok_b2f (sX12_isVan hm hv) (by omega) ?_ | with_reducible refine ok_b2t (sX12_isParcel hm hv) (by omega) ?_ | with_reducible refine ok_b2f (sX12_isParcel hm hv) (by omega) ?_ | with_reducible refine ok_b2t (sX12_in _ _ _ _) (by omega) ?_ | with_reducible refine ok_b2f (sX12_in _ _ _ _) (by omega) ?_ | with_reducible refine ok_b2t (sX12_isPlace _ _) (by omega) ?_ | with_reducible refine ok_b2f (sX12_isPlace _ _) (by omega) ?_ | with_reducible refine ok_pos (by omega) ?_ | with_reducible refine ok_neg (by omega) ?_ | with_reducible refine ok_tl ?_ | with_reducible refine ok_tr ?_ | dsimp only)
    refine ok_some ?_
    repeat (first | with_reducible refine ok_gd (by first | omega | decide) ?_ | with_reducible refine ok_bs ?_ | with_reducible refine ok_be (sX12_refuse _ _) ?_ | with_reducible refine ok_be (sX12_told _ _) ?_ | with_reducible refine ok_ndt (sX11_needVan hv) (by omega) ?_ | with_reducible refine ok_ndf (sX11_needVan hv) (by omega) ?_ | with_reducible refine ok_ndt (sX11_needParcel hv) (by omega) ?_ | with_reducible refine ok_ndf (sX11_needParcel hv) (by omega) ?_ | with_reducible refine ok_ndt (sX11_needIndex _ _ _ _) (by omega) ?_ | with_reducible refine ok_ndf (sX11_needIndex _ _ _ _) (by omega) ?_ | with_reducible refine ok_ndt (sX11_needRange _ _ _ _) (by omega) ?_ | with_reducible refine ok_ndf (sX11_needRange _ _ _ _) (by omega) ?_ | with_reducible refine ok_ndt (sX11_needThat2 _ _) (by omega) ?_ | with_reducible refine ok_ndf (sX11_needThat2 _ _) (by omega) ?_ | with_reducible refine ok_ndt (sX11_needState2 _ _) (by omega) ?_ | with_reducible refine ok_ndf (sX11_needState2 _ _) (by omega) ?_ | with_reducible refine ok_ndt (sX11_needElement _ _) (by omega) ?_ | with_reducible refine ok_ndf (sX11_needElement _ _) (by omega) ?_ | with_reducible refine ok_ndt (sX11_needPlace _ _) (by omega) ?_ | with_reducible refine ok_ndf (sX11_needPlace _ _) (by omega) ?_ | with_reducible refine ok_ndt (sX11_needSender _ _) (by omega) ?_ | with_reducible refine ok_ndf (sX11_needSender _ _) (by omega) ?_ | with_reducible refine ok_b2t (sX12_isVan hm hv) (by omega) ?_ | with_reducible refine ok_b2f (sX12_isVan hm hv) (by omega) ?_ | with_reducible refine ok_b2t (sX12_isParcel hm hv) (by omega) ?_ | with_reducible refine ok_b2f (sX12_isParcel hm hv) (by omega) ?_ | with_reducible refine ok_b2t (sX12_in _ _ _ _) (by omega) ?_ | with_reducible refine ok_b2f (sX12_in _ _ _ _) (by omega) ?_ | with_reducible refine ok_b2t (sX12_isPlace _ _) (by omega) ?_ | with_reducible refine ok_b2f (sX12_isPlace _ _) (by omega) ?_ | with_reducible refine ok_pos (by omega) ?_ | with_reducible refine ok_neg (by omega) ?_ | with_reducible refine ok_tl ?_ | with_reducible refine ok_tr ?_ | dsimp only)
    exact both_thr i0 (by decide) rfl
theorem op_putIn (i : INV h h') (x1 : Int) : both (nX11_putIn x1 h) (nX12_putIn x1 h') (cdX 1 0 2 3) := by
  have i0 := i
  have hv := i.1.1.1
  have hm := i.1.1.2
  have hn := inv_n i
  have hr := inv_RV i
  have hq := i.2.1.1.2.2
  simp only [nX11_putIn, bX11_putIn, nX11_putIn_42, bX11_putIn_42, nX12_putIn, bX12_putIn, both]
  by_cases p2 : 0 ≤ x1 ∧ x1 < h.1 13 10
  · by_cases p4 : h.1 20 x1 = 0 ∧ vw h.1 x1 = -1
    · repeat (first | with_reducible refine ok_gd (by first | omega | decide) ?_ | with_reducible refine ok_bs ?_ | with_reducible refine ok_be (sX12_refuse _ _) ?_ | with_reducible refine ok_be (sX12_told _ _) ?_ | with_reducible refine ok_ndt (sX11_needVan hv) (by omega) ?_ | with_reducible refine ok_ndf (sX11_needVan hv) (by omega) ?_ | with_reducible refine ok_ndt (sX11_needParcel hv) (by omega) ?_ | with_reducible refine ok_ndf (sX11_needParcel hv) (by omega) ?_ | with_reducible refine ok_ndt (sX11_needIndex _ _ _ _) (by omega) ?_ | with_reducible refine ok_ndf (sX11_needIndex _ _ _ _) (by omega) ?_ | with_reducible refine ok_ndt (sX11_needRange _ _ _ _) (by omega) ?_ | with_reducible refine ok_ndf (sX11_needRange _ _ _ _) (by omega) ?_ | with_reducible refine ok_ndt (sX11_needThat2 _ _) (by omega) ?_ | with_reducible refine ok_ndf (sX11_needThat2 _ _) (by omega) ?_ | with_reducible refine ok_ndt (sX11_needState2 _ _) (by omega) ?_ | with_reducible refine ok_ndf (sX11_needState2 _ _) (by omega) ?_ | with_reducible refine ok_ndt (sX11_needElement _ _) (by omega) ?_ | with_reducible refine ok_ndf (sX11_needElement _ _) (by omega) ?_ | with_reducible refine ok_ndt (sX11_needPlace _ _) (by omega) ?_ | with_reducible refine ok_ndf (sX11_needPlace _ _) (by omega) ?_ | with_reducible refine ok_ndt (sX11_needSender _ _) (by omega) ?_ | with_reducible refine ok_ndf (sX11_needSender _ _) (by omega) ?_ | with_reducible refine ok_b2t (sX6_canTake hr (by omega) (by omega)) (by omega) ?_ | with_reducible refine ok_b2f (sX6_canTake hr (by omega) (by omega)) (by omega) ?_ | with_reducible refine ok_b2t (sX12_isVan hm hv) (by omega) ?_ | with_reducible refine ok_b2f (sX12_isVan hm hv) (by omega) ?_ | with_reducible refine ok_b2t (sX12_isParcel hm hv) (by omega) ?_ | with_reducible refine ok_b2f (sX12_isParcel hm hv) (by omega) ?_ | with_reducible refine ok_b2t (sX12_in _ _ _ _) (by omega) ?_ | with_reducible refine ok_b2f (sX12_in _ _ _ _) (by omega) ?_ | with_reducible refine ok_b2t (sX12_isPlace _ _) (by omega) ?_ | with_reducible refine ok_b2f (sX12_isPlace _ _) (by omega) ?_ | with_reducible refine ok_pos (by omega) ?_ | with_reducible refine ok_neg (by omega) ?_ | with_reducible refine ok_tl ?_ | with_reducible refine ok_tr ?_ | dsimp only)
      refine ok_bnd (c_findPlace i p2.1 p2.2 p4.2) (fun g hg => ?_)
      have ho := fpO_ok (K := h.1) (p := x1) (fun v v0 v1 => (hr v v0 (by omega)).1.1) (k := (h.1 13 14).toNat) (v := 0) (s := (-1, 0, 0)) (by omega) (by omega) (Or.inl rfl)
      obtain ⟨s, hs⟩ : ∃ s, s = fpO h.1 x1 (h.1 13 14).toNat 0 (-1, 0, 0) := ⟨_, rfl⟩
      have mk := m_looksFor i p2.1 p2.2 p4.2
      rw [← hs] at hg ho mk
      have fg := sFP_sc hg.1
      have ig : INV g h' := INV_scr i fg fr_r
      rw [hg.2.1]
      by_cases c : s.1 = -1
      · repeat (first | with_reducible refine ok_gd (by first | omega | decide) ?_ | with_reducible refine ok_bs ?_ | with_reducible refine ok_be (sX12_refuse _ _) ?_ | with_reducible refine ok_be (sX12_told _ _) ?_ | with_reducible refine ok_ndt (sX11_needIndex _ _ _ _) (by omega) ?_ | with_reducible refine ok_ndf (sX11_needIndex _ _ _ _) (by omega) ?_ | with_reducible refine ok_ndt (sX11_needRange _ _ _ _) (by omega) ?_ | with_reducible refine ok_ndf (sX11_needRange _ _ _ _) (by omega) ?_ | with_reducible refine ok_ndt (sX11_needThat2 _ _) (by omega) ?_ | with_reducible refine ok_ndf (sX11_needThat2 _ _) (by omega) ?_ | with_reducible refine ok_ndt (sX11_needState2 _ _) (by omega) ?_ | with_reducible refine ok_ndf (sX11_needState2 _ _) (by omega) ?_ | with_reducible refine ok_ndt (sX11_needElement _ _) (by omega) ?_ | with_reducible refine ok_ndf (sX11_needElement _ _) (by omega) ?_ | with_reducible refine ok_ndt (sX11_needPlace _ _) (by omega) ?_ | with_reducible refine ok_ndf (sX11_needPlace _ _) (by omega) ?_ | with_reducible refine ok_ndt (sX11_needSender _ _) (by omega) ?_ | with_reducible refine ok_ndf (sX11_needSender _ _) (by omega) ?_ | with_reducible refine ok_b2t (sX12_in _ _ _ _) (by omega) ?_ | with_reducible refine ok_b2f (sX12_in _ _ _ _) (by omega) ?_ | with_reducible refine ok_b2t (sX12_isPlace _ _) (by omega) ?_ | with_reducible refine ok_b2f (sX12_isPlace _ _) (by omega) ?_ | with_reducible refine ok_pos (by omega) ?_ | with_reducible refine ok_neg (by omega) ?_ | with_reducible refine ok_tl ?_ | with_reducible refine ok_tr ?_ | dsimp only)
        refine ok_some ?_
        repeat (first | with_reducible refine ok_gd (by first | omega | decide) ?_ | with_reducible refine ok_bs ?_ | with_reducible refine ok_be (sX12_refuse _ _) ?_ | with_reducible refine ok_be (sX12_told _ _) ?_ | with_reducible refine ok_ndt (sX11_needVan hv) (by omega) ?_ | with_reducible refine ok_ndf (sX11_needVan hv) (by omega) ?_ | with_reducible refine ok_ndt (sX11_needParcel hv) (by omega) ?_ | with_reducible refine ok_ndf (sX11_needParcel hv) (by omega) ?_ | with_reducible refine ok_ndt (sX11_needIndex _ _ _ _) (by omega) ?_ | with_reducible refine ok_ndf (sX11_needIndex _ _ _ _) (by omega) ?_ | with_reducible refine ok_ndt (sX11_needRange _ _ _ _) (by omega) ?_ | with_reducible refine ok_ndf (sX11_needRange _ _ _ _) (by omega) ?_ | with_reducible refine ok_ndt (sX11_needThat2 _ _) (by omega) ?_ | with_reducible refine ok_ndf (sX11_needThat2 _ _) (by omega) ?_ | with_reducible refine ok_ndt (sX11_needState2 _ _) (by omega) ?_ | with_reducible refine ok_ndf (sX11_needState2 _ _) (by omega) ?_ | with_reducible refine ok_ndt (sX11_needElement _ _) (by omega) ?_ | with_reducible refine ok_ndf (sX11_needElement _ _) (by omega) ?_ | with_reducible refine ok_ndt (sX11_needPlace _ _) (by omega) ?_ | with_reducible refine ok_ndf (sX11_needPlace _ _) (by omega) ?_ | with_reducible refine ok_ndt (sX11_needSender _ _) (by omega) ?_ | with_reducible refine ok_ndf (sX11_needSender _ _) (by omega) ?_ | with_reducible refine ok_b2t (sX12_canBePut hm hq (by omega) (by omega) (by omega)) (by omega) ?_ | with_reducible refine ok_b2f (sX12_canBePut hm hq (by omega) (by omega) (by omega)) (by omega) ?_ | with_reducible refine ok_b2t (sX12_isVan hm hv) (by omega) ?_ | with_reducible refine ok_b2f (sX12_isVan hm hv) (by omega) ?_ | with_reducible refine ok_b2t (sX12_isParcel hm hv) (by omega) ?_ | with_reducible refine ok_b2f (sX12_isParcel hm hv) (by omega) ?_ | with_reducible refine ok_b2t (sX12_in _ _ _ _) (by omega) ?_ | with_reducible refine ok_b2f (sX12_in _ _ _ _) (by omega) ?_ | with_reducible refine ok_b2t (sX12_isPlace _ _) (by omega) ?_ | with_reducible refine ok_b2f (sX12_isPlace _ _) (by omega) ?_ | with_reducible refine ok_pos (by omega) ?_ | with_reducible refine ok_neg (by omega) ?_ | with_reducible refine ok_tl ?_ | with_reducible refine ok_tr ?_ | dsimp only)
        refine ok_bnd mk (fun g' hg' => ?_)
        rw [hg'.2.1]
        repeat (first | with_reducible refine ok_gd (by first | omega | decide) ?_ | with_reducible refine ok_bs ?_ | with_reducible refine ok_be (sX12_refuse _ _) ?_ | with_reducible refine ok_be (sX12_told _ _) ?_ | with_reducible refine ok_ndt (sX11_needIndex _ _ _ _) (by omega) ?_ | with_reducible refine ok_ndf (sX11_needIndex _ _ _ _) (by omega) ?_ | with_reducible refine ok_ndt (sX11_needRange _ _ _ _) (by omega) ?_ | with_reducible refine ok_ndf (sX11_needRange _ _ _ _) (by omega) ?_ | with_reducible refine ok_ndt (sX11_needThat2 _ _) (by omega) ?_ | with_reducible refine ok_ndf (sX11_needThat2 _ _) (by omega) ?_ | with_reducible refine ok_ndt (sX11_needState2 _ _) (by omega) ?_ | with_reducible refine ok_ndf (sX11_needState2 _ _) (by omega) ?_ | with_reducible refine ok_ndt (sX11_needElement _ _) (by omega) ?_ | with_reducible refine ok_ndf (sX11_needElement _ _) (by omega) ?_ | with_reducible refine ok_ndt (sX11_needPlace _ _) (by omega) ?_ | with_reducible refine ok_ndf (sX11_needPlace _ _) (by omega) ?_ | with_reducible refine ok_ndt (sX11_needSender _ _) (by omega) ?_ | with_reducible refine ok_ndf (sX11_needSender _ _) (by omega) ?_ | with_reducible refine ok_b2t (sX12_in _ _ _ _) (by omega) ?_ | with_reducible refine ok_b2f (sX12_in _ _ _ _) (by omega) ?_ | with_reducible refine ok_b2t (sX12_isPlace _ _) (by omega) ?_ | with_reducible refine ok_b2f (sX12_isPlace _ _) (by omega) ?_ | with_reducible refine ok_pos (by omega) ?_ | with_reducible refine ok_neg (by omega) ?_ | with_reducible refine ok_tl ?_ | with_reducible refine ok_tr ?_ | dsimp only)
        exact both_thr (INV_scr i fg hg'.1) (by decide) rfl
      · rcases ho with ho | ⟨⟨v0, v1⟩, ⟨s0, s1⟩, hc⟩
        · exact absurd ho c
        have g8 := (hg.2.2 c).1
        have h8 := len8 i p2.1 p2.2 p4.2 v0 (by omega)
        have hb := (hr s.1 v0 (by omega)).1
        have e31 : g.1 31 s.1 = h.1 31 s.1 := by rw [sc_31 fg]
        repeat (first | with_reducible refine ok_gd (by first | omega | decide) ?_ | with_reducible refine ok_bs ?_ | with_reducible refine ok_be (sX12_refuse _ _) ?_ | with_reducible refine ok_be (sX12_told _ _) ?_ | with_reducible refine ok_ndt (sX11_needIndex _ _ _ _) (by omega) ?_ | with_reducible refine ok_ndf (sX11_needIndex _ _ _ _) (by omega) ?_ | with_reducible refine ok_ndt (sX11_needRange _ _ _ _) (by omega) ?_ | with_reducible refine ok_ndf (sX11_needRange _ _ _ _) (by omega) ?_ | with_reducible refine ok_ndt (sX11_needThat2 _ _) (by omega) ?_ | with_reducible refine ok_ndf (sX11_needThat2 _ _) (by omega) ?_ | with_reducible refine ok_ndt (sX11_needState2 _ _) (by omega) ?_ | with_reducible refine ok_ndf (sX11_needState2 _ _) (by omega) ?_ | with_reducible refine ok_ndt (sX11_needElement _ _) (by omega) ?_ | with_reducible refine ok_ndf (sX11_needElement _ _) (by omega) ?_ | with_reducible refine ok_ndt (sX11_needPlace _ _) (by omega) ?_ | with_reducible refine ok_ndf (sX11_needPlace _ _) (by omega) ?_ | with_reducible refine ok_ndt (sX11_needSender _ _) (by omega) ?_ | with_reducible refine ok_ndf (sX11_needSender _ _) (by omega) ?_ | with_reducible refine ok_b2t (sX12_in _ _ _ _) (by omega) ?_ | with_reducible refine ok_b2f (sX12_in _ _ _ _) (by omega) ?_ | with_reducible refine ok_b2t (sX12_isPlace _ _) (by omega) ?_ | with_reducible refine ok_b2f (sX12_isPlace _ _) (by omega) ?_ | with_reducible refine ok_pos (by omega) ?_ | with_reducible refine ok_neg (by omega) ?_ | with_reducible refine ok_tl ?_ | with_reducible refine ok_tr ?_ | dsimp only)
        refine ok_bf (rwK_0 v0 (by omega)) ?_
        repeat (first | with_reducible refine ok_gd (by first | omega | decide) ?_ | with_reducible refine ok_bs ?_ | with_reducible refine ok_be (sX12_refuse _ _) ?_ | with_reducible refine ok_be (sX12_told _ _) ?_ | with_reducible refine ok_ndt (sX11_needIndex _ _ _ _) (by omega) ?_ | with_reducible refine ok_ndf (sX11_needIndex _ _ _ _) (by omega) ?_ | with_reducible refine ok_ndt (sX11_needRange _ _ _ _) (by omega) ?_ | with_reducible refine ok_ndf (sX11_needRange _ _ _ _) (by omega) ?_ | with_reducible refine ok_ndt (sX11_needThat2 _ _) (by omega) ?_ | with_reducible refine ok_ndf (sX11_needThat2 _ _) (by omega) ?_ | with_reducible refine ok_ndt (sX11_needState2 _ _) (by omega) ?_ | with_reducible refine ok_ndf (sX11_needState2 _ _) (by omega) ?_ | with_reducible refine ok_ndt (sX11_needElement _ _) (by omega) ?_ | with_reducible refine ok_ndf (sX11_needElement _ _) (by omega) ?_ | with_reducible refine ok_ndt (sX11_needPlace _ _) (by omega) ?_ | with_reducible refine ok_ndf (sX11_needPlace _ _) (by omega) ?_ | with_reducible refine ok_ndt (sX11_needSender _ _) (by omega) ?_ | with_reducible refine ok_ndf (sX11_needSender _ _) (by omega) ?_ | with_reducible refine ok_b2t (sX12_in _ _ _ _) (by omega) ?_ | with_reducible refine ok_b2f (sX12_in _ _ _ _) (by omega) ?_ | with_reducible refine ok_b2t (sX12_isPlace _ _) (by omega) ?_ | with_reducible refine ok_b2f (sX12_isPlace _ _) (by omega) ?_ | with_reducible refine ok_pos (by omega) ?_ | with_reducible refine ok_neg (by omega) ?_ | with_reducible refine ok_tl ?_ | with_reducible refine ok_tr ?_ | dsimp only)
        rw [e31, g8]
        refine ok_bnd (sX6_insert (h := g) (a9_rw v0 (by omega)) a9_69 (rw69 v0 (by omega)).1 (n := h.1 31 s.1) (i := s.2.1) (p := x1) s0 s1 h8) (fun r q => ?_)
        obtain ⟨⟨q1, q2⟩, q3⟩ := q
        have er : rowL (g.1 (rwK 3 28 s.1)) 0 (h.1 31 s.1).toNat = rnd h.1 s.1 := by
          rw [← sc_rnd fg v0 (by omega), rnd, e31]
        rw [er] at q2
        have fr : Fr scC h r.2 := fr_t fg (a69_scC q3)
        have ir : INV r.2 h' := INV_scr i fr fr_r
        have hin : inR h.1 (insL (rnd h.1 s.1) s.2.1.toNat x1) := insL_in i p2.1 p2.2 v0 (by omega)
        have hnin : ∀ w, 0 ≤ w → w < 3 → x1 ∉ rnd h.1 w := fun w w0 w3 => vwR_no p4.2 w0 w3
        have hG : GR h.1 (setR (rnd h.1) s.1 (insL (rnd h.1 s.1) s.2.1.toNat x1)) := GR_set i.2.1.1.1 v0 v1 (fun p hp => ⟨hin p hp, by
          rcases insL_m.mp hp with e | e
          · rw [e]; exact p4.1
          · exact (i.2.1.1.1.1 s.1 v0 (by omega)).2.1 p e⟩) (insL_perm.nodup_iff.mpr (List.nodup_cons.mpr ⟨hnin s.1 v0 (by omega), GR_nd i.2.1.1.1 v0 (by omega)⟩)) (fun p hp w w0 w3 hw => by
          rcases insL_m.mp hp with e | e
          · rw [e]; exact hnin w w0 w3
          · exact fun z => hw (GR_dsj i.2.1.1.1 p w s.1 w0 w3 v0 (by omega) z e)) hc
        have hGr : GR r.2.1 (setR (rnd r.2.1) s.1 (insL (rnd h.1 s.1) s.2.1.toNat x1)) := by
          refine GR_r (r := setR (rnd h.1) s.1 (insL (rnd h.1 s.1) s.2.1.toNat x1)) (GR_eq hG (sc_c fr 7 (by unfold scC; omega)) (fun c hc => sc_c fr c (by unfold scC; omega)) (by rw [sc_13 fr]; exact ⟨rfl, rfl⟩)) (fun w w0 w3 => ?_)
          unfold setR
          rw [sc_rnd fr w0 w3]
        rw [q1]
        refine ok_bnd (sX11_changeRound ir v0 (by rw [sc_13 fr]; exact v1) (n := h.1 31 s.1 + 1) (by omega) (by omega) q2 (sc_inR fr hin)) (fun r1 z => ?_)
        rcases z with ⟨z1, z2, z3⟩ | ⟨z1, z2, g1, z3, z4, z5⟩
        · rw [sc_cost fr] at z1
          exact absurd z1 hc
        rw [z2]
        repeat (first | with_reducible refine ok_gd (by first | omega | decide) ?_ | with_reducible refine ok_bs ?_ | with_reducible refine ok_be (sX12_refuse _ _) ?_ | with_reducible refine ok_be (sX12_told _ _) ?_ | with_reducible refine ok_ndt (sX11_needIndex _ _ _ _) (by omega) ?_ | with_reducible refine ok_ndf (sX11_needIndex _ _ _ _) (by omega) ?_ | with_reducible refine ok_ndt (sX11_needRange _ _ _ _) (by omega) ?_ | with_reducible refine ok_ndf (sX11_needRange _ _ _ _) (by omega) ?_ | with_reducible refine ok_ndt (sX11_needThat2 _ _) (by omega) ?_ | with_reducible refine ok_ndf (sX11_needThat2 _ _) (by omega) ?_ | with_reducible refine ok_ndt (sX11_needState2 _ _) (by omega) ?_ | with_reducible refine ok_ndf (sX11_needState2 _ _) (by omega) ?_ | with_reducible refine ok_ndt (sX11_needElement _ _) (by omega) ?_ | with_reducible refine ok_ndf (sX11_needElement _ _) (by omega) ?_ | with_reducible refine ok_ndt (sX11_needPlace _ _) (by omega) ?_ | with_reducible refine ok_ndf (sX11_needPlace _ _) (by omega) ?_ | with_reducible refine ok_ndt (sX11_needSender _ _) (by omega) ?_ | with_reducible refine ok_ndf (sX11_needSender _ _) (by omega) ?_ | with_reducible refine ok_b2t (sX12_in _ _ _ _) (by omega) ?_ | with_reducible refine ok_b2f (sX12_in _ _ _ _) (by omega) ?_ | with_reducible refine ok_b2t (sX12_isPlace _ _) (by omega) ?_ | with_reducible refine ok_b2f (sX12_isPlace _ _) (by omega) ?_ | with_reducible refine ok_pos (by omega) ?_ | with_reducible refine ok_neg (by omega) ?_ | with_reducible refine ok_tl ?_ | with_reducible refine ok_tr ?_ | dsimp only)
        refine ok_some ?_
        repeat (first | with_reducible refine ok_gd (by first | omega | decide) ?_ | with_reducible refine ok_bs ?_ | with_reducible refine ok_be (sX12_refuse _ _) ?_ | with_reducible refine ok_be (sX12_told _ _) ?_ | with_reducible refine ok_ndt (sX11_needVan hv) (by omega) ?_ | with_reducible refine ok_ndf (sX11_needVan hv) (by omega) ?_ | with_reducible refine ok_ndt (sX11_needParcel hv) (by omega) ?_ | with_reducible refine ok_ndf (sX11_needParcel hv) (by omega) ?_ | with_reducible refine ok_ndt (sX11_needIndex _ _ _ _) (by omega) ?_ | with_reducible refine ok_ndf (sX11_needIndex _ _ _ _) (by omega) ?_ | with_reducible refine ok_ndt (sX11_needRange _ _ _ _) (by omega) ?_ | with_reducible refine ok_ndf (sX11_needRange _ _ _ _) (by omega) ?_ | with_reducible refine ok_ndt (sX11_needThat2 _ _) (by omega) ?_ | with_reducible refine ok_ndf (sX11_needThat2 _ _) (by omega) ?_ | with_reducible refine ok_ndt (sX11_needState2 _ _) (by omega) ?_ | with_reducible refine ok_ndf (sX11_needState2 _ _) (by omega) ?_ | with_reducible refine ok_ndt (sX11_needElement _ _) (by omega) ?_ | with_reducible refine ok_ndf (sX11_needElement _ _) (by omega) ?_ | with_reducible refine ok_ndt (sX11_needPlace _ _) (by omega) ?_ | with_reducible refine ok_ndf (sX11_needPlace _ _) (by omega) ?_ | with_reducible refine ok_ndt (sX11_needSender _ _) (by omega) ?_ | with_reducible refine ok_ndf (sX11_needSender _ _) (by omega) ?_ | with_reducible refine ok_b2t (sX12_canBePut hm hq (by omega) (by omega) (by omega)) (by omega) ?_ | with_reducible refine ok_b2f (sX12_canBePut hm hq (by omega) (by omega) (by omega)) (by omega) ?_ | with_reducible refine ok_b2t (sX12_isVan hm hv) (by omega) ?_ | with_reducible refine ok_b2f (sX12_isVan hm hv) (by omega) ?_ | with_reducible refine ok_b2t (sX12_isParcel hm hv) (by omega) ?_ | with_reducible refine ok_b2f (sX12_isParcel hm hv) (by omega) ?_ | with_reducible refine ok_b2t (sX12_in _ _ _ _) (by omega) ?_ | with_reducible refine ok_b2f (sX12_in _ _ _ _) (by omega) ?_ | with_reducible refine ok_b2t (sX12_isPlace _ _) (by omega) ?_ | with_reducible refine ok_b2f (sX12_isPlace _ _) (by omega) ?_ | with_reducible refine ok_pos (by omega) ?_ | with_reducible refine ok_neg (by omega) ?_ | with_reducible refine ok_tl ?_ | with_reducible refine ok_tr ?_ | dsimp only)
        refine ok_bnd mk (fun g' hg' => ?_)
        rw [hg'.2.1]
        refine ok_neg c ?_
        have ig' : INV r.2 g' := INV_scr i fr hg'.1
        have g64 := (hg'.2.2 c).1
        refine ok_bnd (inv_kp ig') (fun m1 k1 => ?_)
        have kf := kp_fr k1
        have m63 : m1.1 71 63 = s.1 := by rw [kf.2.2.1 63 (by omega)]; exact hg'.2.1
        have m64 : m1.1 71 64 = s.2.1 := by rw [kf.2.2.1 64 (by omega)]; exact g64
        have a0 : RS r.2.1 g' := inv_RS ig'
        have a1 : RS r.2.1 m1 := RS_fr a0 kf.2.2.2 (fun c i s => by unfold sKp at s; omega)
        rw [m63]
        refine ok_bnd (sX12_loads (h := m1) v0 (by omega) (by rw [(a1.1 s.1 v0 (by omega)).2.1]; exact (a1.1 s.1 v0 (by omega)).1.1) (by rw [(a1.1 s.1 v0 (by omega)).2.1]; exact (a1.1 s.1 v0 (by omega)).1.2)) (fun m2 w1 => ?_)
        have e2 : m2.1 71 51 = h.1 31 s.1 := by rw [w1.2.1, (a1.1 s.1 v0 (by omega)).2.1, sc_31 fr]
        have e2' : mrow m2 = rnd h.1 s.1 := by rw [w1.2.2, (a1.1 s.1 v0 (by omega)).2.2, sc_rnd fr v0 (by omega)]
        have m264 : m2.1 71 64 = s.2.1 := by rw [w1.1.2 71 64 (by unfold sRow; omega), m64]
        rw [m264]
        refine ok_bnd (sX12_inserts (h := m2) (i := s.2.1) (p := x1) s0 (by omega) (by omega)) (fun m3 w2 => ?_)
        have m363 : m3.1 71 63 = s.1 := by rw [w2.1.2 71 63 (by unfold sRow; omega), w1.1.2 71 63 (by unfold sRow; omega), m63]
        rw [m363]
        have a3 : RS r.2.1 m3 := RS_fr a1 (fr_t w1.1 w2.1) (fun c i s => by unfold sRow at s; omega)
        have e13 := sc_13 fr
        have e31r := sc_31 fr
        refine ok_bnd (rs_lays (by rw [e13]; exact hn.1.1) (by rw [e13]; exact hn.1.2) a3 v0 (by rw [e13]; exact v1) (n := h.1 31 s.1 + 1) (by omega) hGr (by omega) (by rw [w2.2.2, e2'])) (fun m4 w3 => ?_)
        have m463 : m4.1 71 63 = s.1 := by rw [w3.1.2 71 63 (by unfold sLy; omega), m363]
        rw [m463]
        repeat (first | with_reducible refine ok_gd (by first | omega | decide) ?_ | with_reducible refine ok_bs ?_ | with_reducible refine ok_be (sX12_refuse _ _) ?_ | with_reducible refine ok_be (sX12_told _ _) ?_ | with_reducible refine ok_ndt (sX11_needIndex _ _ _ _) (by omega) ?_ | with_reducible refine ok_ndf (sX11_needIndex _ _ _ _) (by omega) ?_ | with_reducible refine ok_ndt (sX11_needRange _ _ _ _) (by omega) ?_ | with_reducible refine ok_ndf (sX11_needRange _ _ _ _) (by omega) ?_ | with_reducible refine ok_ndt (sX11_needThat2 _ _) (by omega) ?_ | with_reducible refine ok_ndf (sX11_needThat2 _ _) (by omega) ?_ | with_reducible refine ok_ndt (sX11_needState2 _ _) (by omega) ?_ | with_reducible refine ok_ndf (sX11_needState2 _ _) (by omega) ?_ | with_reducible refine ok_ndt (sX11_needElement _ _) (by omega) ?_ | with_reducible refine ok_ndf (sX11_needElement _ _) (by omega) ?_ | with_reducible refine ok_ndt (sX11_needPlace _ _) (by omega) ?_ | with_reducible refine ok_ndf (sX11_needPlace _ _) (by omega) ?_ | with_reducible refine ok_ndt (sX11_needSender _ _) (by omega) ?_ | with_reducible refine ok_ndf (sX11_needSender _ _) (by omega) ?_ | with_reducible refine ok_b2t (sX12_in _ _ _ _) (by omega) ?_ | with_reducible refine ok_b2f (sX12_in _ _ _ _) (by omega) ?_ | with_reducible refine ok_b2t (sX12_isPlace _ _) (by omega) ?_ | with_reducible refine ok_b2f (sX12_isPlace _ _) (by omega) ?_ | with_reducible refine ok_pos (by omega) ?_ | with_reducible refine ok_neg (by omega) ?_ | with_reducible refine ok_tl ?_ | with_reducible refine ok_tr ?_ | dsimp only)
        have r1e := rem_31 z3
        refine both_ok rfl (INV_thr (INV_late (S := sRw s.1) (S' := fun c i => sRow c i ∨ sLy c i) (R := setR (rnd r.2.1) s.1 (insL (rnd h.1 s.1) s.2.1.toNat x1)) ig' z3 z5 (fun c i q => ?_) k1 (fr_t (fr_m (fun c i q => Or.inl q) (fr_t w1.1 w2.1)) (fr_m (fun c i q => Or.inr q) w3.1)) (fun c i q => ?_) hGr (fun w w0 w3' => ?_) (fun w w0 w3' => ?_) w3.2.2))
        · have := rwK_r v0 (show s.1 < 3 by omega)
          unfold sRw at q; omega
        · rcases q with q | q
          · unfold sRow at q; unfold scM; omega
          · unfold sLy at q; omega
        · by_cases cw : w = s.1
          · rw [cw, z4.1, z4.2.1, setR, if_pos rfl]
            refine ⟨by omega, ?_⟩
            rw [← q2, r1e.2.1 |> fun _ => fr_c r1e.2 69 (fun i s => by unfold sHi at s; omega)]
          · rw [(z4.2.2 w w0 w3' cw).1, (z4.2.2 w w0 w3' cw).2, setR, if_neg cw, r1e.1 31 (by omega), rnd_eq (fun c c1 c2 => r1e.1 c (by omega)) w0 w3']
            exact ⟨(inv_RV ir w w0 w3').1, rfl⟩
        · refine ⟨?_, (w3.2.1 w w0 w3').2⟩
          rw [(w3.2.1 w w0 w3').1]
          by_cases cw : w = s.1
          · rw [if_pos cw, cw, z4.1]
          · rw [if_neg cw, (z4.2.2 w w0 w3' cw).1, r1e.1 31 (by omega)]
    · repeat (first | with_reducible refine ok_gd (by first | omega | decide) ?_ | with_reducible refine ok_bs ?_ | with_reducible refine ok_be (sX12_refuse _ _) ?_ | with_reducible refine ok_be (sX12_told _ _) ?_ | with_reducible refine ok_ndt (sX11_needVan hv) (by omega) ?_ | with_reducible refine ok_ndf (sX11_needVan hv) (by omega) ?_ | with_reducible refine ok_ndt (sX11_needParcel hv) (by omega) ?_ | with_reducible refine ok_ndf (sX11_needParcel hv) (by omega) ?_ | with_reducible refine ok_ndt (sX11_needIndex _ _ _ _) (by omega) ?_ | with_reducible refine ok_ndf (sX11_needIndex _ _ _ _) (by omega) ?_ | with_reducible refine ok_ndt (sX11_needRange _ _ _ _) (by omega) ?_ | with_reducible refine ok_ndf (sX11_needRange _ _ _ _) (by omega) ?_ | with_reducible refine ok_ndt (sX11_needThat2 _ _) (by omega) ?_ | with_reducible refine ok_ndf (sX11_needThat2 _ _) (by omega) ?_ | with_reducible refine ok_ndt (sX11_needState2 _ _) (by omega) ?_ | with_reducible refine ok_ndf (sX11_needState2 _ _) (by omega) ?_ | with_reducible refine ok_ndt (sX11_needElement _ _) (by omega) ?_ | with_reducible refine ok_ndf (sX11_needElement _ _) (by omega) ?_ | with_reducible refine ok_ndt (sX11_needPlace _ _) (by omega) ?_ | with_reducible refine ok_ndf (sX11_needPlace _ _) (by omega) ?_ | with_reducible refine ok_ndt (sX11_needSender _ _) (by omega) ?_ | with_reducible refine ok_ndf (sX11_needSender _ _) (by omega) ?_ | with_reducible refine ok_b2t (sX12_canBePut hm hq (by omega) (by omega) (by omega)) (by omega) ?_ | with_reducible refine ok_b2f (sX12_canBePut hm hq (by omega) (by omega) (by omega)) (by omega) ?_ | with_reducible refine ok_b2t (sX6_canTake hr (by omega) (by omega)) (by omega) ?_ | with_reducible refine ok_b2f (sX6_canTake hr (by omega) (by omega)) (by omega) ?_ | with_reducible refine ok_b2t (sX12_isVan hm hv) (by omega) ?_ | with_reducible refine ok_b2f (sX12_isVan hm hv) (by omega) ?_ | with_reducible refine ok_b2t (sX12_isParcel hm hv) (by omega) ?_ | with_reducible refine ok_b2f (sX12_isParcel hm hv) (by omega) ?_ | with_reducible refine ok_b2t (sX12_in _ _ _ _) (by omega) ?_ | with_reducible refine ok_b2f (sX12_in _ _ _ _) (by omega) ?_ | with_reducible refine ok_b2t (sX12_isPlace _ _) (by omega) ?_ | with_reducible refine ok_b2f (sX12_isPlace _ _) (by omega) ?_ | with_reducible refine ok_pos (by omega) ?_ | with_reducible refine ok_neg (by omega) ?_ | with_reducible refine ok_tl ?_ | with_reducible refine ok_tr ?_ | dsimp only)
      refine ok_some ?_
      repeat (first | with_reducible refine ok_gd (by first | omega | decide) ?_ | with_reducible refine ok_bs ?_ | with_reducible refine ok_be (sX12_refuse _ _) ?_ | with_reducible refine ok_be (sX12_told _ _) ?_ | with_reducible refine ok_ndt (sX11_needVan hv) (by omega) ?_ | with_reducible refine ok_ndf (sX11_needVan hv) (by omega) ?_ | with_reducible refine ok_ndt (sX11_needParcel hv) (by omega) ?_ | with_reducible refine ok_ndf (sX11_needParcel hv) (by omega) ?_ | with_reducible refine ok_ndt (sX11_needIndex _ _ _ _) (by omega) ?_ | with_reducible refine ok_ndf (sX11_needIndex _ _ _ _) (by omega) ?_ | with_reducible refine ok_ndt (sX11_needRange _ _ _ _) (by omega) ?_ | with_reducible refine ok_ndf (sX11_needRange _ _ _ _) (by omega) ?_ | with_reducible refine ok_ndt (sX11_needThat2 _ _) (by omega) ?_ | with_reducible refine ok_ndf (sX11_needThat2 _ _) (by omega) ?_ | with_reducible refine ok_ndt (sX11_needState2 _ _) (by omega) ?_ | with_reducible refine ok_ndf (sX11_needState2 _ _) (by omega) ?_ | with_reducible refine ok_ndt (sX11_needElement _ _) (by omega) ?_ | with_reducible refine ok_ndf (sX11_needElement _ _) (by omega) ?_ | with_reducible refine ok_ndt (sX11_needPlace _ _) (by omega) ?_ | with_reducible refine ok_ndf (sX11_needPlace _ _) (by omega) ?_ | with_reducible refine ok_ndt (sX11_needSender _ _) (by omega) ?_ | with_reducible refine ok_ndf (sX11_needSender _ _) (by omega) ?_ | with_reducible refine ok_b2t (sX12_canBePut hm hq (by omega) (by omega) (by omega)) (by omega) ?_ | with_reducible refine ok_b2f (sX12_canBePut hm hq (by omega) (by omega) (by omega)) (by omega) ?_ | with_reducible refine ok_b2t (sX12_isVan hm hv) (by omega) ?_ | with_reducible refine ok_b2f (sX12_isVan hm hv) (by omega) ?_ | with_reducible refine ok_b2t (sX12_isParcel hm hv) (by omega) ?_ | with_reducible refine ok_b2f (sX12_isParcel hm hv) (by omega) ?_ | with_reducible refine ok_b2t (sX12_in _ _ _ _) (by omega) ?_ | with_reducible refine ok_b2f (sX12_in _ _ _ _) (by omega) ?_ | with_reducible refine ok_b2t (sX12_isPlace _ _) (by omega) ?_ | with_reducible refine ok_b2f (sX12_isPlace _ _) (by omega) ?_ | with_reducible refine ok_pos (by omega) ?_ | with_reducible refine ok_neg (by omega) ?_ | with_reducible refine ok_tl ?_ | with_reducible refine ok_tr ?_ | dsimp only)
      exact both_thr i0 (by decide) rfl
  · repeat (first | with_reducible refine ok_gd (by first | omega | decide) ?_ | with_reducible refine ok_bs ?_ | with_reducible refine ok_be (sX12_refuse _ _) ?_ | with_reducible refine ok_be (sX12_told _ _) ?_ | with_reducible refine ok_ndt (sX11_needVan hv) (by omega) ?_ | with_reducible refine ok_ndf (sX11_needVan hv) (by omega) ?_ | with_reducible refine ok_ndt (sX11_needParcel hv) (by omega) ?_ | with_reducible refine ok_ndf (sX11_needParcel hv) (by omega) ?_ | with_reducible refine ok_ndt (sX11_needIndex _ _ _ _) (by omega) ?_ | with_reducible refine ok_ndf (sX11_needIndex _ _ _ _) (by omega) ?_ | with_reducible refine ok_ndt (sX11_needRange _ _ _ _) (by omega) ?_ | with_reducible refine ok_ndf (sX11_needRange _ _ _ _) (by omega) ?_ | with_reducible refine ok_ndt (sX11_needThat2 _ _) (by omega) ?_ | with_reducible refine ok_ndf (sX11_needThat2 _ _) (by omega) ?_ | with_reducible refine ok_ndt (sX11_needState2 _ _) (by omega) ?_ | with_reducible refine ok_ndf (sX11_needState2 _ _) (by omega) ?_ | with_reducible refine ok_ndt (sX11_needElement _ _) (by omega) ?_ | with_reducible refine ok_ndf (sX11_needElement _ _) (by omega) ?_ | with_reducible refine ok_ndt (sX11_needPlace _ _) (by omega) ?_ | with_reducible refine ok_ndf (sX11_needPlace _ _) (by omega) ?_ | with_reducible refine ok_ndt (sX11_needSender _ _) (by omega) ?_ | with_reducible refine ok_ndf (sX11_needSender _ _) (by omega) ?_ | with_reducible refine ok_b2t (sX12_isVan hm hv) (by omega) ?_ | with_reducible refine ok_b2f (sX12_isVan hm hv) (by omega) ?_ | with_reducible refine ok_b2t (sX12_isParcel hm hv) (by omega) ?_ | with_reducible refine ok_b2f (sX12_isParcel hm hv) (by omega) ?_ | with_reducible refine ok_b2t (sX12_in _ _ _ _) (by omega) ?_ | with_reducible refine ok_b2f (sX12_in _ _ _ _) (by omega) ?_ | with_reducible refine ok_b2t (sX12_isPlace _ _) (by omega) ?_ | with_reducible refine ok_b2f (sX12_isPlace _ _) (by omega) ?_ | with_reducible refine ok_pos (by omega) ?_ | with_reducible refine ok_neg (by omega) ?_ | with_reducible refine ok_tl ?_ | with_reducible refine ok_tr ?_ | dsimp only)
    refine ok_some ?_
    repeat (first | with_reducible refine ok_gd (by first | omega | decide) ?_ | with_reducible refine ok_bs ?_ | with_reducible refine ok_be (sX12_refuse _ _) ?_ | with_reducible refine ok_be (sX12_told _ _) ?_ | with_reducible refine ok_ndt (sX11_needVan hv) (by omega) ?_ | with_reducible refine ok_ndf (sX11_needVan hv) (by omega) ?_ | with_reducible refine ok_ndt (sX11_needParcel hv) (by omega) ?_ | with_reducible refine ok_ndf (sX11_needParcel hv) (by omega) ?_ | with_reducible refine ok_ndt (sX11_needIndex _ _ _ _) (by omega) ?_ | with_reducible refine ok_ndf (sX11_needIndex _ _ _ _) (by omega) ?_ | with_reducible refine ok_ndt (sX11_needRange _ _ _ _) (by omega) ?_ | with_reducible refine ok_ndf (sX11_needRange _ _ _ _) (by omega) ?_ | with_reducible refine ok_ndt (sX11_needThat2 _ _) (by omega) ?_ | with_reducible refine ok_ndf (sX11_needThat2 _ _) (by omega) ?_ | with_reducible refine ok_ndt (sX11_needState2 _ _) (by omega) ?_ | with_reducible refine ok_ndf (sX11_needState2 _ _) (by omega) ?_ | with_reducible refine ok_ndt (sX11_needElement _ _) (by omega) ?_ | with_reducible refine ok_ndf (sX11_needElement _ _) (by omega) ?_ | with_reducible refine ok_ndt (sX11_needPlace _ _) (by omega) ?_ | with_reducible refine ok_ndf (sX11_needPlace _ _) (by omega) ?_ | with_reducible refine ok_ndt (sX11_needSender _ _) (by omega) ?_ | with_reducible refine ok_ndf (sX11_needSender _ _) (by omega) ?_ | with_reducible refine ok_b2t (sX12_isVan hm hv) (by omega) ?_ | with_reducible refine ok_b2f (sX12_isVan hm hv) (by omega) ?_ | with_reducible refine ok_b2t (sX12_isParcel hm hv) (by omega) ?_ | with_reducible refine ok_b2f (sX12_isParcel hm hv) (by omega) ?_ | with_reducible refine ok_b2t (sX12_in _ _ _ _) (by omega) ?_ | with_reducible refine ok_b2f (sX12_in _ _ _ _) (by omega) ?_ | with_reducible refine ok_b2t (sX12_isPlace _ _) (by omega) ?_ | with_reducible refine ok_b2f (sX12_isPlace _ _) (by omega) ?_ | with_reducible refine ok_pos (by omega) ?_ | with_reducible refine ok_neg (by omega) ?_ | with_reducible refine ok_tl ?_ | with_reducible refine ok_tr ?_ | dsimp only)
    exact both_thr i0 (by decide) rfl
end PUTIN
