/-! WALKS over numbered streets: labels that go on from street to street; least labels -/
section WALKS
def chn (u v : Int → Int) : Int → List Int → Int → Prop
  | a, [], b => a = b
  | a, s :: l, b => u s = a ∧ chn u v (v s) l b
def wvl (f : Int → Int → Int) : Int → List Int → Int
  | t, [] => t
  | t, s :: l => wvl f (f s t) l
/-- a walk over the streets below n -/
def wlk (u v : Int → Int) (n : Int) (a : Int) (es : List Int) (b : Int) : Prop := chn u v a es b ∧ ∀ s ∈ es, 0 ≤ s ∧ s < n
/-- the least label at b of all walks from a with t -/
def lst (u v : Int → Int) (f : Int → Int → Int) (n a t b x : Int) : Prop := (∃ es, wlk u v n a es b ∧ wvl f t es = x) ∧ ∀ es, wlk u v n a es b → x ≤ wvl f t es
def MON (f : Int → Int → Int) (n : Int) : Prop := ∀ s, 0 ≤ s → s < n → ∀ x y, 0 ≤ x → x ≤ y → f s x ≤ f s y
def INF (f : Int → Int → Int) (n : Int) : Prop := ∀ s, 0 ≤ s → s < n → ∀ x, 0 ≤ x → x ≤ f s x
variable {u v : Int → Int} {f : Int → Int → Int} {n : Int}
theorem chn_app : ∀ {l l' : List Int} {a b : Int}, chn u v a (l ++ l') b ↔ ∃ c, chn u v a l c ∧ chn u v c l' b
  | [], l', a, b => ⟨fun h => ⟨a, rfl, h⟩, fun ⟨c, h, k⟩ => by cases h; exact k⟩
  | s :: l, l', a, b => by
    show (u s = a ∧ chn u v (v s) (l ++ l') b) ↔ ∃ c, (u s = a ∧ chn u v (v s) l c) ∧ chn u v c l' b
    rw [chn_app]
    exact ⟨fun ⟨h, c, k, m⟩ => ⟨c, ⟨h, k⟩, m⟩, fun ⟨c, ⟨h, k⟩, m⟩ => ⟨h, c, k, m⟩⟩
theorem wvl_app : ∀ {l l' : List Int} {t : Int}, wvl f t (l ++ l') = wvl f (wvl f t l) l'
  | [], _, _ => rfl
  | _ :: l, l', t => wvl_app (l := l)
theorem wlk_nil {a : Int} : wlk u v n a [] a := ⟨rfl, fun s h => absurd h List.not_mem_nil⟩
theorem wlk_cons {a b s : Int} {l : List Int} : wlk u v n a (s :: l) b ↔ (u s = a ∧ 0 ≤ s ∧ s < n) ∧ wlk u v n (v s) l b :=
  ⟨fun h => ⟨⟨h.1.1, h.2 s List.mem_cons_self⟩, h.1.2, fun x hx => h.2 x (List.mem_cons_of_mem _ hx)⟩, fun h => ⟨⟨h.1.1, h.2.1⟩, fun x hx => by
    rcases List.mem_cons.mp hx with rfl | hx
    · exact h.1.2
    · exact h.2.2 x hx⟩⟩
theorem wlk_app {a b : Int} {l l' : List Int} : wlk u v n a (l ++ l') b ↔ ∃ c, wlk u v n a l c ∧ wlk u v n c l' b :=
  ⟨fun h => by
    obtain ⟨c, k, m⟩ := chn_app.mp h.1
    exact ⟨c, ⟨k, fun s hs => h.2 s (List.mem_append_left _ hs)⟩, ⟨m, fun s hs => h.2 s (List.mem_append_right _ hs)⟩⟩, fun ⟨c, k, m⟩ => ⟨chn_app.mpr ⟨c, k.1, m.1⟩, fun s hs => (List.mem_append.mp hs).elim (k.2 s) (m.2 s)⟩⟩
theorem wlk_snoc {a s : Int} {l : List Int} (h : wlk u v n a l (u s)) (h0 : 0 ≤ s) (h1 : s < n) : wlk u v n a (l ++ [s]) (v s) := wlk_app.mpr ⟨_, h, wlk_cons.mpr ⟨⟨rfl, h0, h1⟩, wlk_nil⟩⟩
theorem wvl_snoc {t s : Int} {l : List Int} : wvl f t (l ++ [s]) = f s (wvl f t l) := by rw [wvl_app]; rfl
theorem wlk_le {a b : Int} {l : List Int} {m : Int} (h : wlk u v n a l b) (hm : n ≤ m) : wlk u v m a l b := ⟨h.1, fun s hs => ⟨(h.2 s hs).1, by have := (h.2 s hs).2; omega⟩⟩
theorem wvl_inf (hi : INF f n) : ∀ {l : List Int} {a b t : Int}, wlk u v n a l b → 0 ≤ t → t ≤ wvl f t l
  | [], _, _, t, _, _ => Int.le_refl t
  | s :: l, a, b, t, h, h0 => by
    obtain ⟨⟨-, h1, h2⟩, h3⟩ := wlk_cons.mp h
    have q := hi s h1 h2 t h0
    exact Int.le_trans q (wvl_inf hi h3 (by omega))
theorem wvl_mono (hm : MON f n) (hi : INF f n) : ∀ {l : List Int} {a b t t' : Int}, wlk u v n a l b → 0 ≤ t → t ≤ t' → wvl f t l ≤ wvl f t' l
  | [], _, _, t, t', _, _, h => h
  | s :: l, a, b, t, t', h, h0, ht => by
    obtain ⟨⟨-, h1, h2⟩, h3⟩ := wlk_cons.mp h
    have q := hi s h1 h2 t h0
    show wvl f (f s t) l ≤ wvl f (f s t') l
    exact wvl_mono hm hi h3 (by omega) (hm s h1 h2 t t' h0 ht)
/-- what is apart and below m is at most m -/
theorem nodup_len : ∀ {m : Nat} {l : List Int}, l.Nodup → (∀ x ∈ l, 0 ≤ x ∧ x < (m : Int)) → l.length ≤ m
  | 0, [], _, _ => Nat.le_refl 0
  | 0, x :: l, _, h => absurd (h x List.mem_cons_self) (by omega)
  | m + 1, l, hd, h => by
    have q : (l.erase (m : Int)).length ≤ m := nodup_len (hd.erase _) (fun x hx => by
      have h1 := (hd.mem_erase_iff).mp hx
      have := h x h1.2
      have := h1.1
      omega)
    have e := List.length_erase (a := (m : Int)) (l := l)
    by_cases c : (m : Int) ∈ l
    · rw [if_pos c] at e; omega
    · rw [if_neg c] at e; omega
/-- a walk that comes twice to a place has a shorter one beside it -/
theorem wlk_short (hm : MON f n) (hi : INF f n) : ∀ {l : List Int} {a b t : Int}, wlk u v n a l b → 0 ≤ t → ¬ (a :: l.map v).Nodup → ∃ l', wlk u v n a l' b ∧ l'.length < l.length ∧ wvl f t l' ≤ wvl f t l
  | [], a, b, t, h, h0, hd => absurd (by simp) hd
  | s :: l, a, b, t, h, h0, hd => by
    obtain ⟨⟨h1, h2, h3⟩, h4⟩ := wlk_cons.mp h
    have q := hi s h2 h3 t h0
    by_cases c : (v s :: l.map v).Nodup
    · have ha : a ∈ (v s :: l.map v) := Classical.byContradiction (fun z => hd (List.nodup_cons.mpr ⟨z, c⟩))
      rw [← List.map_cons] at ha
      obtain ⟨x, hx, e⟩ := List.mem_map.mp ha
      obtain ⟨l1, l2, e2⟩ := List.append_of_mem hx
      have e3 : s :: l = (l1 ++ [x]) ++ l2 := by rw [e2]; simp
      rw [e3] at h
      obtain ⟨d, k1, k2⟩ := wlk_app.mp h
      obtain ⟨d', k3, k4⟩ := wlk_app.mp k1
      have ed : v x = d := (wlk_cons.mp k4).2.1
      refine ⟨l2, ?_, ?_, ?_⟩
      · rw [← e, ed]; exact k2
      · rw [e3]; simp; omega
      · rw [e3, wvl_app]
        exact wvl_mono hm hi k2 h0 (wvl_inf hi k1 h0)
    · obtain ⟨l', k1, k2, k3⟩ := wlk_short hm hi h4 (t := f s t) (by omega) c
      exact ⟨s :: l', wlk_cons.mpr ⟨⟨h1, h2, h3⟩, k1⟩, by rw [List.length_cons, List.length_cons]; omega, k3⟩
def ENDS (u v : Int → Int) (n : Int) : Prop := ∀ s, 0 ≤ s → s < n → (0 ≤ u s ∧ u s < 16) ∧ (0 ≤ v s ∧ v s < 16)
theorem wlk_in (he : ENDS u v n) : ∀ {l : List Int} {a b : Int}, wlk u v n a l b → ∀ x ∈ l.map v, 0 ≤ x ∧ x < 16
  | [], _, _, _, x, hx => absurd hx List.not_mem_nil
  | s :: l, a, b, h, x, hx => by
    obtain ⟨⟨-, h1, h2⟩, h3⟩ := wlk_cons.mp h
    rw [List.map_cons] at hx
    rcases List.mem_cons.mp hx with rfl | hx
    · exact (he s h1 h2).2
    · exact wlk_in he h3 x hx
/-- fifteen streets are enough -/
theorem wlk_15 (hm : MON f n) (hi : INF f n) (he : ENDS u v n) : ∀ {k : Nat} {l : List Int} {a b t : Int}, l.length ≤ k → wlk u v n a l b → 0 ≤ t → 0 ≤ a → a < 16 → ∃ l', wlk u v n a l' b ∧ l'.length ≤ 15 ∧ wvl f t l' ≤ wvl f t l
  | 0, l, a, b, t, hl, h, _, _, _ => ⟨l, h, by omega, Int.le_refl _⟩
  | k + 1, l, a, b, t, hl, h, h0, ha, ha' => by
    by_cases c : (a :: l.map v).Nodup
    · refine ⟨l, h, ?_, Int.le_refl _⟩
      have := nodup_len (m := 16) c (fun x hx => by
        rcases List.mem_cons.mp hx with rfl | hx
        · exact ⟨ha, ha'⟩
        · exact wlk_in he h x hx)
      rw [List.length_cons, List.length_map] at this
      omega
    · obtain ⟨l1, k1, k2, k3⟩ := wlk_short hm hi h h0 c
      obtain ⟨l2, k4, k5, k6⟩ := wlk_15 hm hi he (k := k) (by omega) k1 h0 ha ha'
      exact ⟨l2, k4, k5, Int.le_trans k6 k3⟩
theorem lst_u {a t b x y : Int} (h : lst u v f n a t b x) (k : lst u v f n a t b y) : x = y := by
  obtain ⟨⟨e1, w1, v1⟩, m1⟩ := h
  obtain ⟨⟨e2, w2, v2⟩, m2⟩ := k
  have := m1 _ w2
  have := m2 _ w1
  omega
/-- labels that no street makes less are below those of all walks -/
theorem lab_le {A : Int → Int} {G : Int} (hm : MON f n) (hi : INF f n) (hc : ∀ s, 0 ≤ s → s < n → A (u s) < G → A (v s) < G ∧ A (v s) ≤ f s (A (u s))) (h0 : ∀ b, 0 ≤ A b) : ∀ {l : List Int} {a b t : Int}, wlk u v n a l b → A a < G → A a ≤ t → A b < G ∧ A b ≤ wvl f t l
  | [], a, b, t, h, hG, hA => by cases h.1; exact ⟨hG, hA⟩
  | s :: l, a, b, t, h, hG, hA => by
    obtain ⟨⟨h1, h2, h3⟩, h4⟩ := wlk_cons.mp h
    rw [← h1] at hG hA
    have q := hc s h2 h3 hG
    have q2 := hm s h2 h3 _ _ (h0 (u s)) hA
    show A b < G ∧ A b ≤ wvl f (f s t) l
    exact lab_le hm hi hc h0 h4 q.1 (by omega)
/-- labels behind some rounds: below those of the walks of so many streets -/
def rndOk (u v : Int → Int) (f : Int → Int → Int) (n G a t : Int) (r : Nat) (A : Int → Int) : Prop := ∀ l b, l.length ≤ r → wlk u v n a l b → A b < G ∧ A b ≤ wvl f t l
theorem rnd_0 {A : Int → Int} {G a t : Int} (hG : A a < G) (hA : A a ≤ t) : rndOk u v f n G a t 0 A := fun l b hl h => by
  cases l with
  | nil => cases h.1; exact ⟨hG, hA⟩
  | cons s l => simp at hl
theorem rnd_s {A B : Int → Int} {G a t : Int} {r : Nat} (hm : MON f n) (h0 : ∀ b, 0 ≤ A b) (hr : rndOk u v f n G a t r A) (hB : ∀ b, B b ≤ A b) (hs : ∀ s, 0 ≤ s → s < n → A (u s) < G → B (v s) < G ∧ B (v s) ≤ f s (A (u s))) : rndOk u v f n G a t (r + 1) B := fun l b hl h => by
  by_cases c : l.length ≤ r
  · have := hr l b c h
    have := hB b
    omega
  · have hne : l ≠ [] := fun e => by rw [e] at c; exact c (Nat.zero_le _)
    have e : l = l.dropLast ++ [l.getLast hne] := (List.dropLast_concat_getLast hne).symm
    have hlen : l.dropLast.length ≤ r := by rw [List.length_dropLast]; omega
    rw [e] at h
    obtain ⟨d, k1, k2⟩ := wlk_app.mp h
    obtain ⟨⟨e1, h1, h2⟩, k3⟩ := wlk_cons.mp k2
    rw [← e1] at k1
    have q := hr _ _ hlen k1
    have e3 : v (l.getLast hne) = b := k3.1
    have q2 := hs _ h1 h2 q.1
    rw [e3] at q2
    rw [e, wvl_snoc]
    have := hm _ h1 h2 _ _ (h0 (u (l.getLast hne))) q.2
    omega
/-- fifteen rounds: below those of all walks -/
theorem rnd_15 {A : Int → Int} {G a t : Int} {r : Nat} (hm : MON f n) (hi : INF f n) (he : ENDS u v n) (hr : rndOk u v f n G a t r A) (h15 : 15 ≤ r) (ht : 0 ≤ t) (ha : 0 ≤ a) (ha' : a < 16) {l : List Int} {b : Int} (h : wlk u v n a l b) : A b < G ∧ A b ≤ wvl f t l := by
  obtain ⟨l', k1, k2, k3⟩ := wlk_15 hm hi he (Nat.le_refl _) h ht ha ha'
  have := hr l' b (by omega) k1
  omega
end WALKS
section SUMS
variable {u v : Int → Int} {w : Int → Int} {n : Int}
/-- weights that are added -/
def fw (w : Int → Int) : Int → Int → Int := fun s t => t + w s
theorem fw_t : ∀ {l : List Int} {t : Int}, wvl (fw w) t l = t + wvl (fw w) 0 l
  | [], t => by simp [wvl]
  | s :: l, t => by
    show wvl (fw w) (fw w s t) l = t + wvl (fw w) (fw w s 0) l
    rw [fw_t, fw_t (t := fw w s 0)]
    unfold fw
    omega
theorem fw_mon : MON (fw w) n := fun s _ _ x y _ h => by unfold fw; omega
theorem fw_inf (h : ∀ s, 0 ≤ s → s < n → 0 ≤ w s) : INF (fw w) n := fun s h0 h1 x _ => by have := h s h0 h1; unfold fw; omega
theorem wvl_cg {f g : Int → Int → Int} : ∀ {l : List Int} {t : Int}, (∀ s ∈ l, ∀ x, f s x = g s x) → wvl f t l = wvl g t l
  | [], _, _ => rfl
  | s :: l, t, h => by
    show wvl f (f s t) l = wvl g (g s t) l
    rw [h s List.mem_cons_self, wvl_cg (fun s' hs => h s' (List.mem_cons_of_mem _ hs))]
/-- a walk over one street more: an old one, or old ones to its begin and from its end do no worse -/
theorem wlk_new (h0 : ∀ s, 0 ≤ s → s < n + 1 → 0 ≤ w s) : ∀ {l : List Int} {a b : Int}, wlk u v (n + 1) a l b → wlk u v n a l b ∨ ∃ l1 l2, wlk u v n a l1 (u n) ∧ wlk u v n (v n) l2 b ∧ wvl (fw w) 0 l1 + w n + wvl (fw w) 0 l2 ≤ wvl (fw w) 0 l
  | [], a, b, h => Or.inl ⟨h.1, fun s hs => absurd hs List.not_mem_nil⟩
  | s :: l, a, b, h => by
    obtain ⟨⟨h1, h2, h3⟩, h4⟩ := wlk_cons.mp h
    have e : wvl (fw w) 0 (s :: l) = w s + wvl (fw w) 0 l := by
      show wvl (fw w) (0 + w s) l = _
      rw [fw_t]
      omega
    have e0 : wvl (fw w) 0 [] = 0 := rfl
    have hw := h0 s h2 h3
    by_cases c : s = n
    · rw [c] at h1 h4 e hw
      rw [c]
      right
      have hz : wlk u v n a [] (u n) := h1 ▸ wlk_nil
      rcases wlk_new h0 h4 with k | ⟨l1, l2, k1, k2, k3⟩
      · exact ⟨[], l, hz, k, by omega⟩
      · have := wvl_inf (fw_inf (n := n) (fun x a b => h0 x a (by omega))) k1 (Int.le_refl 0)
        exact ⟨[], l2, hz, k2, by omega⟩
    · rcases wlk_new h0 h4 with k | ⟨l1, l2, k1, k2, k3⟩
      · exact Or.inl (wlk_cons.mpr ⟨⟨h1, h2, by omega⟩, k⟩)
      · refine Or.inr ⟨s :: l1, l2, wlk_cons.mpr ⟨⟨h1, h2, by omega⟩, k1⟩, k2, ?_⟩
        have e1 : wvl (fw w) 0 (s :: l1) = w s + wvl (fw w) 0 l1 := by
          show wvl (fw w) (0 + w s) l1 = _
          rw [fw_t]
          omega
        omega
end SUMS
