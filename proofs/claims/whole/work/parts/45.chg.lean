/-! A ROUND CHANGED on both sides -/
def setR (r : Int → List Int) (v : Int) (l : List Int) : Int → List Int := fun w => if w = v then l else r w
def pRem (h g : HH) : Prop := ∃ sh : Int, (sh = 0 ∨ sh = 1) ∧ (sh = 1 ↔ h.1 32 2 = 20) ∧ (g.1 32 1 = (h.1 32 1 + sh) % 20 ∧ g.1 32 2 = h.1 32 2 - sh + 1) ∧ (∀ j, g.1 33 j = remR h.1 (hAt h.1 (h.1 32 2)) j) ∧ Fr sHi h g
def pKp (h g : HH) : Prop := ∃ sh : Int, (sh = 0 ∨ sh = 1) ∧ (sh = 1 ↔ h.1 71 30 = 20) ∧ g.1 71 30 = h.1 71 30 - sh + 1 ∧ Fr sKp h g ∧ (∀ j, 0 ≤ j → g.1 96 j = if 27 * (h.1 71 30 - sh) ≤ j ∧ j < 27 * (h.1 71 30 - sh) + 27 then h.1 94 (j - 27 * (h.1 71 30 - sh)) else if j < 27 * (h.1 71 30 - sh) then h.1 96 (j + 27 * sh) else h.1 96 j) ∧ (∀ j, 0 ≤ j → g.1 97 j = if 3 * (h.1 71 30 - sh) ≤ j ∧ j < 3 * (h.1 71 30 - sh) + 3 then h.1 95 (j - 3 * (h.1 71 30 - sh)) else if j < 3 * (h.1 71 30 - sh) then h.1 97 (j + 3 * sh) else h.1 97 j)
section CH
variable {K : Nat → Int → Int} {h h' g g' : HH} {r : Int → List Int}
theorem nd3 (a : ∀ v, 0 ≤ v → v < 3 → (r v).Nodup) (d : dsj r) : (r 0 ++ (r 1 ++ r 2)).Nodup := by
  have q : ∀ v w, 0 ≤ v → v < 3 → 0 ≤ w → w < 3 → v ≠ w → ∀ x ∈ r v, ∀ y ∈ r w, x ≠ y := fun v w v0 v3 w0 w3 hvw x hx y hy e => hvw (d x v w v0 v3 w0 w3 hx (by rw [e]; exact hy))
  refine List.nodup_append.mpr ⟨a 0 (by omega) (by omega), List.nodup_append.mpr ⟨a 1 (by omega) (by omega), a 2 (by omega) (by omega), q 1 2 (by omega) (by omega) (by omega) (by omega) (by omega)⟩, fun x hx y hy => ?_⟩
  rcases List.mem_append.mp hy with hy | hy
  · exact q 0 1 (by omega) (by omega) (by omega) (by omega) (by omega) x hx y hy
  · exact q 0 2 (by omega) (by omega) (by omega) (by omega) (by omega) x hx y hy
theorem GR_set (hg : GR K r) {v : Int} {l : List Int} (v0 : 0 ≤ v) (v1 : v < K 13 14) (hl : ∀ p ∈ l, (0 ≤ p ∧ p < K 13 10) ∧ K 20 p = 0) (hn : l.Nodup) (hd : ∀ p ∈ l, ∀ w, 0 ≤ w → w < 3 → w ≠ v → p ∉ r w) (hc : costL K v l ≠ -1) : GR K (setR r v l) := by
  have e1 : setR r v l v = l := if_pos rfl
  have e2 : ∀ w, w ≠ v → setR r v l w = r w := fun w hw => if_neg hw
  refine ⟨fun w w0 w3 => ?_, nd3 (fun w w0 w3 => ?_) (fun p a b a0 a3 b0 b3 ha hb => ?_)⟩
  · by_cases c : w = v
    · rw [c, e1]
      exact ⟨fun p hp => (hl p hp).1, fun p hp => (hl p hp).2, fun z => by omega, fun _ => hc⟩
    · rw [e2 w c]; exact hg.1 w w0 w3
  · by_cases c : w = v
    · rw [c, e1]; exact hn
    · rw [e2 w c]; exact GR_nd hg w0 w3
  · by_cases ca : a = v <;> by_cases cb : b = v
    · omega
    · rw [ca, e1] at ha
      rw [e2 b cb] at hb
      exact absurd hb (hd p ha b b0 b3 cb)
    · rw [cb, e1] at hb
      rw [e2 a ca] at ha
      exact absurd ha (hd p hb a a0 a3 ca)
    · rw [e2 a ca] at ha
      rw [e2 b cb] at hb
      exact GR_dsj hg p a b a0 a3 b0 b3 ha hb
theorem inv_n (i : INV h h') : ((0 ≤ h.1 13 10 ∧ h.1 13 10 ≤ 9) ∧ (0 ≤ h.1 13 14 ∧ h.1 13 14 ≤ 3)) ∧ (h'.1 71 21 = h.1 13 10 ∧ h'.1 71 27 = h.1 13 14) := ⟨v_n i.1.1.1, i.1.1.2.1⟩
theorem inv_RV (i : INV h h') : RV h.1 := fun v h0 h3 => ⟨(i.2.1.1.2.1 v h0 h3).1, (i.2.1.1.1.1 v h0 h3).1⟩
theorem inv_rem (i : INV h h') : Ok (nX3_remember h) (pRem h) := by
  have hg := i.2.1.1.1
  have hn := inv_n i
  have hl := GR_len hg hn.1.1.2 hn.1.1.1
  rw [rnd_len, rnd_len, rnd_len] at hl
  have r0 := (inv_RV i 0 (by omega) (by omega)).1
  have r1 := (inv_RV i 1 (by omega) (by omega)).1
  have r2 := (inv_RV i 2 (by omega) (by omega)).1
  have hh := i.2.1.2.1.1
  exact sX3_remember hh.1 hh.2.1 r0.1 r1.1 r2.1 (by omega)
theorem inv_kp (i : INV h h') : Ok (nX12_keeps h') (pKp h') := by
  have hh := i.2.1.2.1.1
  exact sX12_keeps (by omega)
/-- remembered: what stays -/
theorem rem_31 (q : pRem h g) : (∀ c, c < 32 → g.1 c = h.1 c) ∧ Fr sHi h g := by
  obtain ⟨sh, -, -, -, -, f⟩ := q
  exact ⟨fun c hc => fr_c f c (fun i s => by unfold sHi at s; omega), f⟩
theorem kp_fr (q : pKp h g) : (∀ c, c < 96 → c ≠ 71 → g.1 c = h.1 c) ∧ (∀ c, 98 ≤ c → g.1 c = h.1 c) ∧ (∀ i, i ≠ 30 → g.1 71 i = h.1 71 i) ∧ Fr sKp h g := by
  obtain ⟨sh, -, -, -, f, -⟩ := q
  exact ⟨fun c hc h7 => fr_c f c (fun i s => by unfold sKp at s; omega), fun c hc => fr_c f c (fun i s => by unfold sKp at s; omega), fun i hi => f.2 71 i (by unfold sKp; omega), f⟩
/-- what a change of rounds leaves of what is remembered -/
theorem iH_chg (i : INV h h') {g1 g1' : HH} (q1 : pRem h g1) (q3 : pKp h' g1') (e1 : g.1 32 = g1.1 32 ∧ g.1 33 = g1.1 33) (e3 : g'.1 96 = g1'.1 96 ∧ g'.1 97 = g1'.1 97 ∧ g'.1 71 30 = g1'.1 71 30) (hG : ∀ R, GR h.1 R → GR g.1 R) : iH g.1 g'.1 := by
  have hn := inv_n i
  obtain ⟨sh, s1, s2, s3, s4, -⟩ := q1
  obtain ⟨sh', t1, t2, t3, -, t4, t5⟩ := q3
  exact iH_rem i.2.1.2.1 hn.1.1 i.2.1.1.1 i.2.1.1.2.1 hG s1 s2 t1 t2 (by rw [e1.1]; exact s3.1) (by rw [e1.1]; exact s3.2) (by rw [e1.2]; exact s4) (by rw [e3.2.2]; exact t3) (by rw [e3.1]; exact t4) (by rw [e3.2.1]; exact t5)
/-- one round changed -/
theorem INV_chg (i : INV h h') {v n : Int} {b : Nat} {g1 g2 g1' g2' : HH} {l : List Int} (v0 : 0 ≤ v) (v1 : v < h.1 13 14) (hn0 : 0 ≤ n) (hn9 : n ≤ 9) (hb : b < 32 ∨ 34 ≤ b) (hl : rowL (h.1 b) 0 n.toNat = l) (hR : GR h.1 (setR (rnd h.1) v l)) (q1 : pRem h g1)
    (q2 : (g2.1 31 v = n ∧ rnd g2.1 v = rowL (g1.1 b) 0 n.toNat ∧ ∀ w : Int, 0 ≤ w → w < 3 → w ≠ v → g2.1 31 w = g1.1 31 w ∧ rnd g2.1 w = rnd g1.1 w) ∧ Fr (sRw v) g1 g2) (q3 : pKp h' g1') (h51 : h'.1 71 51 = n)
    (q4 : Fr sLy g1' g2' ∧ (∀ w, 0 ≤ w → w < 3 → g2'.1 95 w = (if w = v then g1'.1 71 51 else g1'.1 95 w) ∧ mrd g2' w = setR (rnd h.1) v l w) ∧ ∀ p, 0 ≤ p → p < h.1 13 10 → g2'.1 90 p = vwR (setR (rnd h.1) v l) p) : INV g2 g2' := by
  have hn := inv_n i
  have f1 := rem_31 q1
  have f3 := kp_fr q3
  have fz := rwK_r v0 (by omega : v < 3)
  have f : cTc rC h g2 := cTc_of (S := fun c i => (28 ≤ c ∧ c ≤ 31) ∨ c = 32 ∨ c = 33) (fr_t (fr_m (fun c i s => by unfold sHi at s; omega) f1.2) (fr_m (fun c i s => by unfold sRw at s; omega) q2.2)) (fun c i s => by dsimp only [rC, scT]; omega)
  have f' : cTm rMm r7 h' g2' := cTm_of (S := fun c i => (c = 90 ∨ (94 ≤ c ∧ c ≤ 97)) ∨ (c = 71 ∧ i = 30)) (fr_t (fr_m (fun c i s => by unfold sKp at s; omega) f3.2.2.2) (fr_m (fun c i s => by unfold sLy at s; omega) q4.1)) (fun c i s h7 => by dsimp only [rMm, scU]; omega) (fun i s => by dsimp only [r7, sc7]; omega)
  have e31 : ∀ w, g1.1 31 w = h.1 31 w := fun w => by rw [f1.1 31 (by omega)]
  have ernd : ∀ w, 0 ≤ w → w < 3 → rnd g1.1 w = rnd h.1 w := fun w w0 w3 => rnd_eq (fun c c1 c2 => f1.1 c (by omega)) w0 w3
  have eb : g1.1 b = h.1 b := by
    rcases hb with hb | hb
    · exact f1.1 b hb
    · exact fr_c f1.2 b (fun i s => by unfold sHi at s; omega)
  refine INV_rnd i f f' hR (fun w w0 w3 => ?_) (fun w w0 w3 => ⟨?_, (q4.2.1 w w0 w3).2⟩) q4.2.2 (fun hG => iH_chg i q1 q3 ⟨?_, ?_⟩ ⟨?_, ?_, ?_⟩ hG)
  · by_cases c : w = v
    · rw [c, q2.1.1, q2.1.2.1, eb, hl]
      exact ⟨⟨hn0, hn9⟩, (if_pos rfl).symm⟩
    · obtain ⟨z1, z2⟩ := q2.1.2.2 w w0 w3 c
      rw [z1, z2, e31, ernd w w0 w3]
      exact ⟨(inv_RV i w w0 w3).1, (if_neg c).symm⟩
  · rw [(q4.2.1 w w0 w3).1]
    by_cases c : w = v
    · rw [if_pos c, c, q2.1.1, f3.2.2.1 51 (by omega), h51]
    · rw [if_neg c, (q2.1.2.2 w w0 w3 c).1, e31, f3.1 95 (by omega) (by omega)]
      exact (i.2.1.1.2.1 w w0 w3).2.1
  · exact fr_c q2.2 32 (fun i s => by unfold sRw at s; omega)
  · exact fr_c q2.2 33 (fun i s => by unfold sRw at s; omega)
  · exact fr_c q4.1 96 (fun i s => by unfold sLy at s; omega)
  · exact fr_c q4.1 97 (fun i s => by unfold sLy at s; omega)
  · exact q4.1.2 71 30 (by unfold sLy; omega)
/-- the model lays the changed round -/
theorem inv_lays (i : INV h h') {v n : Int} {g1' : HH} {l : List Int} (v0 : 0 ≤ v) (v1 : v < h.1 13 14) (hn0 : 0 ≤ n) (hn9 : n ≤ 9) (hR : GR h.1 (setR (rnd h.1) v l)) (q3 : pKp h' g1') (h51 : h'.1 71 51 = n) (hl : mrow h' = l) : Ok (nX12_lays v g1') (fun g2' => Fr sLy g1' g2' ∧ (∀ w, 0 ≤ w → w < 3 → g2'.1 95 w = (if w = v then g1'.1 71 51 else g1'.1 95 w) ∧ mrd g2' w = setR (rnd h.1) v l w) ∧ ∀ p, 0 ≤ p → p < h.1 13 10 → g2'.1 90 p = vwR (setR (rnd h.1) v l) p) := by
  have hn := inv_n i
  have f3 := kp_fr q3
  have e51 : g1'.1 71 51 = n := by rw [f3.2.2.1 51 (by omega), h51]
  refine sX12_lays (n := h.1 13 10) (vans := h.1 13 14) v0 (by omega) (by rw [f3.2.2.1 21 (by omega)]; exact hn.2.1) (by rw [f3.2.2.1 27 (by omega)]; exact hn.2.2) (by omega) (by omega) (by omega) (by omega) (by omega) (GR_dsj hR) (fun u u0 u3 => ⟨GR_len1 hR hn.1.1.2 hn.1.1.1 u0 u3, (hR.1 u u0 u3).1⟩) (fun u u0 u3 => (hR.1 u (by omega) u3).2.2.1 u0) ?_ (fun w w0 w3 hw => ⟨?_, ?_⟩)
  · rw [setR, if_pos rfl, ← hl]
    unfold mrow
    rw [f3.2.2.1 51 (by omega), f3.2.1 105 (by omega)]
  · rw [setR, if_neg hw, ← (i.2.1.1.2.1 w w0 w3).2.2]
    unfold mrd
    rw [f3.1 94 (by omega) (by omega), f3.1 95 (by omega) (by omega)]
  · rw [f3.1 95 (by omega) (by omega), (i.2.1.1.2.1 w w0 w3).2.1]
    exact (inv_RV i w w0 w3).1
end CH
