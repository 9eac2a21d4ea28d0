def fl_nd (D : Nat → Int) : Int := fl_S 16 (fun v => if D v = 0 then 1 else 0)
theorem fl_nd_nn (D : Nat → Int) : 0 ≤ fl_nd D := fl_nonneg (fun i _ => by
  show (0 : Int) ≤ (if D i = 0 then 1 else 0)
  split <;> omega)
theorem fl_nd_put {D : Nat → Int} {v : Nat} {x : Int} (hv : v < 16) (h : D v = 0) (hx : x ≠ 0) : fl_nd (fl_pu D v x) = fl_nd D - 1 := by
  unfold fl_nd
  rw [fl_one (f := fun v => if D v = 0 then 1 else 0) (g := fun i => if fl_pu D v x i = 0 then 1 else 0) hv (fun i _ hi => by
    show (if fl_pu D v x i = 0 then (1 : Int) else 0) = (if D i = 0 then 1 else 0)
    rw [fl_pun hi])]
  show _ + ((if fl_pu D v x v = 0 then (1 : Int) else 0) - (if D v = 0 then 1 else 0)) = _
  rw [fl_pus, if_neg hx, if_pos h]; omega
theorem fl_nd_0 {D : Nat → Int} (h : ∀ x, x < 16 → D x = 0) : fl_nd D = 16 := by
  unfold fl_nd
  rw [fl_congr (g := fun _ => 1) (fun i hi => if_pos (h i hi)), fl_const]; decide
theorem fl_nd_pos {D : Nat → Int} {v : Nat} (hv : v < 16) (h : D v = 0) : 1 ≤ fl_nd D := by
  have := fl_ge1 (f := fun v => if D v = 0 then (1 : Int) else 0) (n := 16) (k := v) (fun i _ => by
    show (0 : Int) ≤ (if D i = 0 then 1 else 0)
    split <;> omega) hv
  rw [if_pos h] at this; exact this
def fl_Wd (L F W D : Nat → Int) (s k : Nat) (rk : Nat → Nat) : Prop :=
  (W s = 1980 ∧ fl_nd D + k = 16) ∧
  (∀ v, v < 16 → 0 ≤ W v ∧ W v ≤ 1980) ∧
  (∀ x, x < 16 → ∀ y, y < 16 → D x ≠ 0 → D y = 0 → W y ≤ W x) ∧
  (∀ v, v < 16 → D v ≠ 0 → 0 < W v ∧ rk v < k) ∧
  (∀ v, v < 16 → 0 < W v → v ≠ s → ∃ u : Nat, u < 16 ∧ F v = (u : Int) ∧ D u ≠ 0 ∧ 1 ≤ L (u * 16 + v) ∧ (D v ≠ 0 → rk u < rk v)) ∧
  (∀ u, u < 16 → D u ≠ 0 → ∀ v, v < 16 → 0 < L (u * 16 + v) → 0 < W v)
def fl_Wi (L F W D : Nat → Int) (s k : Nat) (rk : Nat → Nat) (u j : Nat) : Prop :=
  (W s = 1980 ∧ fl_nd D + (k + 1) = 16 ∧ D u ≠ 0) ∧
  (∀ v, v < 16 → 0 ≤ W v ∧ W v ≤ 1980) ∧
  (∀ x, x < 16 → D x ≠ 0 → W u ≤ W x) ∧
  (∀ y, y < 16 → D y = 0 → W y ≤ W u) ∧
  (∀ v, v < 16 → D v ≠ 0 → 0 < W v ∧ rk v < k + 1) ∧
  (∀ v, v < 16 → 0 < W v → v ≠ s → ∃ u : Nat, u < 16 ∧ F v = (u : Int) ∧ D u ≠ 0 ∧ 1 ≤ L (u * 16 + v) ∧ (D v ≠ 0 → rk u < rk v)) ∧
  (∀ x, x < 16 → D x ≠ 0 → ∀ v, v < 16 → 0 < L (x * 16 + v) → (x ≠ u ∨ v < j) → 0 < W v)
theorem fl_W0 {L F W D : Nat → Int} {s : Nat} (hD : ∀ x, x < 16 → D x = 0) (hW : ∀ x, x < 16 → x ≠ s → W x = 0) (hs : W s = 1980) : fl_Wd L F W D s 0 (fun _ => 0) := by
  refine ⟨⟨hs, by rw [fl_nd_0 hD]; decide⟩, ?_, ?_, ?_, ?_, ?_⟩
  · intro v hv
    by_cases e : v = s
    · subst e; omega
    · rw [hW v hv e]; omega
  · intro x hx _ _ h; exact absurd (hD x hx) h
  · intro x hx h; exact absurd (hD x hx) h
  · intro v hv h hn; rw [hW v hv hn] at h; omega
  · intro x hx h; exact absurd (hD x hx) h
theorem fl_W1 {L F W D : Nat → Int} {s k u : Nat} {rk : Nat → Nat} (h : fl_Wd L F W D s k rk) (hu : u < 16) (hD : D u = 0) (hW : 0 < W u) (hm : ∀ y, y < 16 → D y = 0 → W y ≤ W u) :
    fl_Wi L F W (fl_pu D u 1) s k (fun x => if x = u then k else rk x) u 0 := by
  obtain ⟨⟨a1, a2⟩, b, c, d, e, f⟩ := h
  have hx : ∀ x, x < 16 → fl_pu D u 1 x ≠ 0 → x ≠ u → D x ≠ 0 := fun x _ h1 h2 => by
    rw [fl_pun h2] at h1; exact h1
  refine ⟨⟨a1, by rw [fl_nd_put hu hD (by decide)]; omega, by rw [fl_pus]; decide⟩, b, ?_, ?_, ?_, ?_, ?_⟩
  · intro x hx1 h1
    by_cases ex : x = u
    · rw [ex]; exact Int.le_refl _
    · exact c x hx1 u hu (hx x hx1 h1 ex) hD
  · intro y hy h1
    by_cases ey : y = u
    · rw [ey]; exact Int.le_refl _
    · rw [fl_pun ey] at h1; exact hm y hy h1
  · intro v hv h1
    show 0 < W v ∧ (if v = u then k else rk v) < k + 1
    by_cases ev : v = u
    · rw [if_pos ev, ev]; exact ⟨hW, by omega⟩
    · rw [if_neg ev]
      have := d v hv (hx v hv h1 ev)
      omega
  · intro v hv h1 h2
    obtain ⟨p, p1, p2, p3, p4, p5⟩ := e v hv h1 h2
    have hpu : p ≠ u := fun z => p3 (z ▸ hD)
    refine ⟨p, p1, p2, by rw [fl_pun hpu]; exact p3, p4, fun h3 => ?_⟩
    show (if p = u then k else rk p) < (if v = u then k else rk v)
    rw [if_neg hpu]
    by_cases ev : v = u
    · rw [if_pos ev]; exact (d p p1 p3).2
    · rw [if_neg ev]; exact p5 (hx v hv h3 ev)
  · intro x hx1 h1 v hv hL h2
    have h3 : x ≠ u := by omega
    exact f x hx1 (hx x hx1 h1 h3) v hv hL
theorem fl_W2 {L F W D : Nat → Int} {s k u j : Nat} {rk : Nat → Nat} {a : Int} (h : fl_Wi L F W D s k rk u j) (hu : u < 16) (hj : j < 16) (h1 : a ≤ L (u * 16 + j)) (h2 : a ≤ W u) (h3 : a = L (u * 16 + j) ∨ a = W u) :
    (¬ W j < a → fl_Wi L F W D s k rk u (j + 1)) ∧ (W j < a → fl_Wi L (fl_pu F j (u : Int)) (fl_pu W j a) D s k rk u (j + 1)) := by
  obtain ⟨⟨a1, a2, a3⟩, b, c, d, e, f, o⟩ := h
  have hWu := e u hu a3
  constructor
  · intro hn
    refine ⟨⟨a1, a2, a3⟩, b, c, d, e, f, fun x hx hD v hv hL hc => ?_⟩
    by_cases ev : v = j
    · by_cases ex : x = u
      · subst ex; subst ev; omega
      · exact o x hx hD v hv hL (Or.inl ex)
    · exact o x hx hD v hv hL (by omega)
  · intro hp
    have hDj : D j = 0 := Decidable.byContradiction (fun z => by
      have := c j hj z
      omega)
    have hjs : j ≠ s := by
      intro z
      have := (b u hu).2
      rw [z] at hp; omega
    have hju : j ≠ u := fun z => a3 (z ▸ hDj)
    have hW0 := (b j hj).1
    refine ⟨⟨by rw [fl_pun (Ne.symm hjs)]; exact a1, a2, a3⟩, ?_, ?_, ?_, ?_, ?_, ?_⟩
    · intro v hv
      by_cases ev : v = j
      · have := (b u hu).2
        rw [ev, fl_pus]; omega
      · rw [fl_pun ev]; exact b v hv
    · intro x hx hD
      have ex : x ≠ j := fun z => hD (z ▸ hDj)
      rw [fl_pun ex, fl_pun (Ne.symm hju)]; exact c x hx hD
    · intro y hy hD
      rw [fl_pun (Ne.symm hju)]
      by_cases ey : y = j
      · rw [ey, fl_pus]; exact h2
      · rw [fl_pun ey]; exact d y hy hD
    · intro v hv hD
      have ex : v ≠ j := fun z => hD (z ▸ hDj)
      rw [fl_pun ex]; exact e v hv hD
    · intro v hv hp2 hvs
      by_cases ev : v = j
      · subst ev
        exact ⟨u, hu, fl_pus, a3, by omega, fun z => absurd hDj z⟩
      · rw [fl_pun ev] at hp2 ⊢
        exact f v hv hp2 hvs
    · intro x hx hD v hv hL hc
      by_cases ev : v = j
      · rw [ev, fl_pus]; omega
      · rw [fl_pun ev]; exact o x hx hD v hv hL (by omega)
theorem fl_W3 {L F W D : Nat → Int} {s k u : Nat} {rk : Nat → Nat} (h : fl_Wi L F W D s k rk u 16) (hu : u < 16) : fl_Wd L F W D s (k + 1) rk := by
  obtain ⟨⟨a1, a2, a3⟩, b, c, d, e, f, o⟩ := h
  refine ⟨⟨a1, by omega⟩, b, fun x hx y hy h1 h2 => ?_, e, f, fun x hx hD v hv hL => o x hx hD v hv hL (Or.inr hv)⟩
  have := c x hx h1
  have := d y hy h2
  omega
theorem fl_W4 {L F W D : Nat → Int} {s t k : Nat} {rk : Nat → Nat} (h : fl_Wd L F W D s k rk) (ht : t < 16) (hc : ∀ v, v < 16 → D v = 0 → W v ≤ 0) :
    (0 < W t → fl_Fd L F s t 1) ∧ (¬ 0 < W t → fl_Non L s t 1) := by
  obtain ⟨⟨a1, a2⟩, b, c, d, e, f⟩ := h
  have hdn : ∀ v, v < 16 → 0 < W v → D v ≠ 0 := fun v hv hp z => by
    have := hc v hv z
    omega
  have hnd := fl_nd_nn D
  constructor
  · intro hp
    refine ⟨fun v => if D v = 0 then 16 else rk v, ?_, ?_⟩
    · show (if D t = 0 then 16 else rk t) ≤ 15
      rw [if_neg (hdn t ht hp)]
      have := (d t ht (hdn t ht hp)).2
      omega
    · intro v hv hd hvs
      have hd2 : (if D v = 0 then 16 else rk v) ≤ 15 := hd
      have hDv : D v ≠ 0 := by
        intro z; rw [if_pos z] at hd2; omega
      obtain ⟨p, p1, p2, p3, p4, p5⟩ := e v hv (d v hv hDv).1 hvs
      refine ⟨p, p1, p2, ?_, p4⟩
      show (if D p = 0 then 16 else rk p) < (if D v = 0 then 16 else rk v)
      rw [if_neg p3, if_neg hDv]; exact p5 hDv
  · intro hn
    refine ⟨fun x => decide (0 < W x), ⟨?_, ?_⟩, ?_⟩
    · show decide (0 < W s) = true
      simp [a1]
    · show decide (0 < W t) = false
      simpa using hn
    · intro x hx v hv hA hB
      have hx1 : 0 < W x := by simpa using hA
      have hv1 : ¬ 0 < W v := by simpa using hB
      exact Int.not_le.mp (fun z => hv1 (f x hx (hdn x hx hx1) v hv (by omega)))
