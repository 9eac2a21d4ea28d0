/-- how many nodes are unseen -/
def fl_un (F : Nat → Int) : Int := fl_S 16 (fun v => if F v = -1 then 1 else 0)
theorem fl_un_nn (F : Nat → Int) : 0 ≤ fl_un F := fl_nonneg (fun i _ => by
  show (0 : Int) ≤ (if F i = -1 then 1 else 0)
  split <;> omega)
theorem fl_un_put {F : Nat → Int} {v : Nat} {x : Int} (hv : v < 16) (h : F v = -1) (hx : x ≠ -1) : fl_un (fl_pu F v x) = fl_un F - 1 := by
  unfold fl_un
  rw [fl_one (f := fun v => if F v = -1 then 1 else 0) (g := fun i => if fl_pu F v x i = -1 then 1 else 0) hv (fun i _ hi => by
    show (if fl_pu F v x i = -1 then (1 : Int) else 0) = (if F i = -1 then 1 else 0)
    rw [fl_pun hi])]
  show _ + ((if fl_pu F v x v = -1 then (1 : Int) else 0) - (if F v = -1 then 1 else 0)) = _
  rw [fl_pus, if_neg hx, if_pos h]; omega
theorem fl_un_0 {F : Nat → Int} {s : Nat} (hs : s < 16) (h : ∀ x, x < 16 → x ≠ s → F x = -1) (hF : F s ≠ -1) : fl_un F = 15 := by
  unfold fl_un
  rw [fl_one (f := fun _ => 1) (g := fun i => if F i = -1 then 1 else 0) hs (fun i hi hn => if_pos (h i hi hn)), fl_const]
  show (16 : Int) * 1 + ((if F s = -1 then (1 : Int) else 0) - 1) = 15
  rw [if_neg hF]; omega
theorem fl_un_pos {F : Nat → Int} {v : Nat} (hv : v < 16) (h : F v = -1) : 1 ≤ fl_un F := by
  have := fl_ge1 (f := fun v => if F v = -1 then (1 : Int) else 0) (n := 16) (k := v) (fun i _ => by
    show (0 : Int) ≤ (if F i = -1 then 1 else 0)
    split <;> omega) hv
  rw [if_pos h] at this; exact this
def fl_Dp (L F : Nat → Int) (s : Nat) (g : Int) (u : Nat) (dp : Nat → Nat) (On : Nat → Prop) : Prop :=
  (On u ∧ On s ∧ dp s = 0 ∧ F s = (s : Int)) ∧
  (∀ x, x < 16 → F x ≠ -1 → (dp x : Int) + fl_un F ≤ 15) ∧
  (∀ x, On x → x < 16 ∧ F x ≠ -1 ∧ dp x ≤ dp u) ∧
  (∀ x y, On x → On y → dp x = dp y → x = y) ∧
  (∀ x, x < 16 → F x ≠ -1 → x ≠ s → ∃ p : Nat, p < 16 ∧ F x = (p : Int) ∧ F p ≠ -1 ∧ dp x = dp p + 1 ∧ g ≤ L (p * 16 + x) ∧ (On x → On p)) ∧
  (∀ x, x < 16 → F x ≠ -1 → ¬ On x → ∀ v, v < 16 → g ≤ L (x * 16 + v) → F v ≠ -1)
def fl_Dk (L F : Nat → Int) (s t : Nat) (g : Int) (u k : Nat) : Prop :=
  F t = -1 ∧ s < 16 ∧ u < 16 ∧ s ≠ t ∧ ∃ dp On, fl_Dp L F s g u dp On ∧ (2 * fl_un F + dp u + k ≤ 30 ∨ (u = s ∧ ∀ v, v < 16 → g ≤ L (s * 16 + v) → F v ≠ -1))
theorem fl_D0 {L F : Nat → Int} {s t : Nat} {g : Int} (hs : s < 16) (ht : t < 16) (hst : s ≠ t) (h : ∀ x, x < 16 → x ≠ s → F x = -1) (hF : F s = (s : Int)) : fl_Dk L F s t g s 0 := by
  have hF1 : F s ≠ -1 := by omega
  refine ⟨h t ht (Ne.symm hst), hs, hs, hst, fun _ => 0, fun x => x = s, ⟨⟨rfl, rfl, rfl, hF⟩, ?_, ?_, ?_, ?_, ?_⟩, Or.inl ?_⟩
  · intro x _ _
    rw [fl_un_0 hs h hF1]; exact Int.le_refl _
  · intro x hx; subst hx; exact ⟨hs, hF1, Nat.le_refl _⟩
  · intro x y hx hy _; rw [hx, hy]
  · intro x hx h1 h2; exact absurd (h x hx h2) h1
  · intro x hx h1 h2; exact absurd (h x hx h2) h1
  · rw [fl_un_0 hs h hF1]; exact Int.le_refl _
theorem fl_D1 {L F : Nat → Int} {s t : Nat} {g : Int} {u k v : Nat} (h : fl_Dk L F s t g u k) (hv : v < 16) (hF : F v = -1) (hg : g ≤ L (u * 16 + v)) :
    (v = t → fl_Fd L (fl_pu F v (u : Int)) s t g) ∧ (v ≠ t → fl_Dk L (fl_pu F v (u : Int)) s t g v (k + 1)) := by
  obtain ⟨hft, hs, hu, hst, dp, On, ⟨⟨a1, a2, a3, a4⟩, b, c, d, e, f⟩, hm⟩ := h
  have hFs : F s ≠ -1 := by omega
  have hvs : v ≠ s := fun z => hFs (z ▸ hF)
  have hFu : F u ≠ -1 := (c u a1).2.1
  have hvu : v ≠ u := fun z => hFu (z ▸ hF)
  have hun : fl_un (fl_pu F v (u : Int)) = fl_un F - 1 := fl_un_put hv hF (by omega)
  have hOv : ¬ On v := fun z => (c v z).2.1 hF
  have B : ∀ x, x < 16 → fl_pu F v (u : Int) x ≠ -1 → (((if x = v then dp u + 1 else dp x : Nat) : Int)) + fl_un (fl_pu F v (u : Int)) ≤ 15 := by
    intro x hx hn
    rw [hun]
    by_cases ex : x = v
    · rw [if_pos ex]
      have := b u hu hFu
      omega
    · rw [if_neg ex]
      rw [fl_pun ex] at hn
      have := b x hx hn
      omega
  have E : ∀ x, x < 16 → fl_pu F v (u : Int) x ≠ -1 → x ≠ s → ∃ p : Nat, p < 16 ∧ fl_pu F v (u : Int) x = (p : Int) ∧ fl_pu F v (u : Int) p ≠ -1 ∧ (if x = v then dp u + 1 else dp x) = (if p = v then dp u + 1 else dp p) + 1 ∧ g ≤ L (p * 16 + x) ∧ ((x = v ∨ On x) → (p = v ∨ On p)) := by
    intro x hx hn hxs
    by_cases ex : x = v
    · subst ex
      refine ⟨u, hu, fl_pus, ?_, ?_, hg, fun _ => Or.inr a1⟩
      · rw [fl_pun (Ne.symm hvu)]; exact hFu
      · rw [if_pos rfl, if_neg (Ne.symm hvu)]
    · rw [fl_pun ex] at hn ⊢
      obtain ⟨p, p1, p2, p3, p4, p5, p6⟩ := e x hx hn hxs
      have hpv : p ≠ v := fun z => p3 (z ▸ hF)
      refine ⟨p, p1, p2, ?_, ?_, p5, fun z => Or.inr (p6 (z.resolve_left ex))⟩
      · rw [fl_pun hpv]; exact p3
      · rw [if_neg ex, if_neg hpv]; exact p4
  constructor
  · intro hvt
    refine ⟨fun x => if fl_pu F v (u : Int) x = -1 then 16 else (if x = v then dp u + 1 else dp x), ?_, ?_⟩
    · show (if fl_pu F v (u : Int) t = -1 then 16 else (if t = v then dp u + 1 else dp t)) ≤ 15
      have h1 : fl_pu F v (u : Int) t ≠ -1 := by rw [← hvt, fl_pus]; omega
      rw [if_neg h1]
      have h2 := B t (by omega) h1
      have h3 := fl_un_nn (fl_pu F v (u : Int))
      omega
    · intro x hx hd hxs
      have h1 : fl_pu F v (u : Int) x ≠ -1 := by
        intro z
        have hd2 : (if fl_pu F v (u : Int) x = -1 then 16 else (if x = v then dp u + 1 else dp x)) ≤ 15 := hd
        rw [if_pos z] at hd2; omega
      obtain ⟨p, p1, p2, p3, p4, p5, _⟩ := E x hx h1 hxs
      refine ⟨p, p1, p2, ?_, p5⟩
      show (if fl_pu F v (u : Int) p = -1 then 16 else (if p = v then dp u + 1 else dp p)) < (if fl_pu F v (u : Int) x = -1 then 16 else (if x = v then dp u + 1 else dp x))
      rw [if_neg p3, if_neg h1]; omega
  · intro hvt
    refine ⟨by rw [fl_pun (Ne.symm hvt)]; exact hft, hs, hv, hst, fun x => if x = v then dp u + 1 else dp x, fun x => x = v ∨ On x, ⟨⟨Or.inl rfl, Or.inr a2, ?_, ?_⟩, B, ?_, ?_, E, ?_⟩, Or.inl ?_⟩
    · show (if s = v then dp u + 1 else dp s) = 0
      rw [if_neg (Ne.symm hvs)]; exact a3
    · rw [fl_pun (Ne.symm hvs)]; exact a4
    · intro x hx
      show x < 16 ∧ fl_pu F v (u : Int) x ≠ -1 ∧ (if x = v then dp u + 1 else dp x) ≤ (if v = v then dp u + 1 else dp v)
      rw [if_pos (rfl : v = v)]
      by_cases ex : x = v
      · subst ex
        exact ⟨hv, by rw [fl_pus]; omega, by rw [if_pos rfl]; exact Nat.le_refl _⟩
      · have := c x (hx.resolve_left ex)
        exact ⟨this.1, by rw [fl_pun ex]; exact this.2.1, by rw [if_neg ex]; omega⟩
    · intro x y hx hy hxy
      have hxy2 : (if x = v then dp u + 1 else dp x) = (if y = v then dp u + 1 else dp y) := hxy
      by_cases ex : x = v
      · by_cases ey : y = v
        · rw [ex, ey]
        · have := c y (hy.resolve_left ey)
          rw [if_pos ex, if_neg ey] at hxy2; omega
      · have hcx := c x (hx.resolve_left ex)
        by_cases ey : y = v
        · rw [if_neg ex, if_pos ey] at hxy2; omega
        · rw [if_neg ex, if_neg ey] at hxy2
          exact d x y (hx.resolve_left ex) (hy.resolve_left ey) hxy2
    · intro x hx hn hO w hw hgw
      have ex : x ≠ v := fun z => hO (Or.inl z)
      rw [fl_pun ex] at hn
      have hw1 := f x hx hn (fun z => hO (Or.inr z)) w hw hgw
      by_cases ew : w = v
      · subst ew; exact absurd hF hw1
      · rw [fl_pun ew]; exact hw1
    · show 2 * fl_un (fl_pu F v (u : Int)) + ((if v = v then dp u + 1 else dp v : Nat) : Int) + ((k + 1 : Nat) : Int) ≤ 30
      rw [if_pos (rfl : v = v), hun]
      rcases hm with hm | ⟨hus, hcl⟩
      · omega
      · subst hus; exact absurd hF (hcl v hv hg)
theorem fl_D2 {L F : Nat → Int} {s t : Nat} {g : Int} {u k : Nat} (h : fl_Dk L F s t g u k) (hn : ∀ v, v < 16 → F v = -1 → ¬ g ≤ L (u * 16 + v)) :
    ∃ p : Nat, p < 16 ∧ F u = (p : Int) ∧ p ≠ t ∧ fl_Dk L F s t g p (k + 1) := by
  obtain ⟨hft, hs, hu, hst, dp, On, ⟨⟨a1, a2, a3, a4⟩, b, c, d, e, f⟩, hm⟩ := h
  by_cases hus : u = s
  · subst hus
    refine ⟨u, hu, a4, hst, hft, hs, hu, hst, dp, On, ⟨⟨a1, a2, a3, a4⟩, b, c, d, e, f⟩, Or.inr ⟨rfl, fun v hv hg hF => hn v hv hF hg⟩⟩
  · have hFu := (c u a1).2.1
    obtain ⟨p, p1, p2, p3, p4, p5, p6⟩ := e u hu hFu hus
    refine ⟨p, p1, p2, fun z => p3 (z ▸ hft), hft, hs, p1, hst, dp, fun x => On x ∧ x ≠ u, ⟨⟨⟨p6 a1, fun z => ?_⟩, ⟨a2, fun z => hus z.symm⟩, a3, a4⟩, b, ?_, ?_, ?_, ?_⟩, Or.inl ?_⟩
    · rw [z] at p4; omega
    · intro x hx
      have := c x hx.1
      refine ⟨this.1, this.2.1, ?_⟩
      have : dp x ≠ dp u := fun z => hx.2 (d x u hx.1 a1 z)
      omega
    · intro x y hx hy hxy; exact d x y hx.1 hy.1 hxy
    · intro x hx hF hxs
      obtain ⟨q, q1, q2, q3, q4, q5, q6⟩ := e x hx hF hxs
      refine ⟨q, q1, q2, q3, q4, q5, fun z => ⟨q6 z.1, fun zq => ?_⟩⟩
      have := c x z.1
      rw [zq] at q4; omega
    · intro x hx hF hO v hv hg
      by_cases ex : x = u
      · subst ex; exact fun z => hn v hv z hg
      · exact f x hx hF (fun z => hO ⟨z, ex⟩) v hv hg
    · rcases hm with hm | ⟨hus2, _⟩
      · omega
      · exact absurd hus2 hus
theorem fl_D3 {L F : Nat → Int} {s t : Nat} {g : Int} {u : Nat} (h : fl_Dk L F s t g u 32) : fl_Non L s t g := by
  obtain ⟨hft, hs, hu, hst, dp, On, ⟨⟨a1, a2, a3, a4⟩, b, c, d, e, f⟩, hm⟩ := h
  have hun := fl_un_nn F
  rcases hm with hm | ⟨hus, hcl⟩
  · omega
  · subst hus
    refine ⟨fun x => !decide (F x = -1), ⟨?_, ?_⟩, ?_⟩
    · show (!decide (F u = -1)) = true
      have : F u ≠ -1 := by omega
      simp [this]
    · show (!decide (F t = -1)) = false
      simp [hft]
    · intro x hx v hv hA hB
      have hFx : F x ≠ -1 := by simpa using hA
      have hFv : F v = -1 := by simpa using hB
      by_cases hO : On x
      · have h1 := c x hO
        have : x = u := d x u hO a1 (by omega)
        subst this
        exact Int.not_le.mp (fun z => hcl v hv z hFv)
      · exact Int.not_le.mp (fun z => f x hx hFx hO v hv z hFv)
