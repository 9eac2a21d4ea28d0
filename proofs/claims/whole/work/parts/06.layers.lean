def fl_Rs (L0 V0 L : Nat → Int) : Prop := ∀ a, a < 16 → ∀ b, b < 16 → 0 < L (a * 16 + b) → 0 < L0 (a * 16 + b) ∨ (V0 a ≠ -1 ∧ V0 b ≠ -1 ∧ V0 a = V0 b + 1)
/-- no way of rising levels is left from s to t -/
def fl_Bk (L0 V0 L : Nat → Int) (s t : Nat) : Prop := fl_Rs L0 V0 L ∧
  ∃ D : Nat → Prop, D s ∧ ¬ D t ∧ ∀ a, a < 16 → D a → ∀ b, b < 16 → V0 b = V0 a + 1 → 0 < L (a * 16 + b) → D b
theorem fl_rise {L0 F0 V0 L F1 V1 : Nat → Int} {s t : Nat} (B0 : fl_Bf L0 F0 V0 s) (hK : fl_Bk L0 V0 L s t) (B1 : fl_Bf L F1 V1 s) (ht : t < 16) (h1 : V1 t ≠ -1) : V0 t + 1 ≤ V1 t := by
  obtain ⟨hR, D, d1, d2, d3⟩ := hK
  obtain ⟨p1, p2, p3, p4⟩ := B0
  obtain ⟨q1, q2, q3, q4⟩ := B1
  have key : ∀ n : Nat, ∀ v, v < 16 → V1 v = (n : Int) → V0 v ≠ -1 ∧ V0 v ≤ V1 v ∧ (V0 v = V1 v → D v) := by
    intro n
    induction n using Nat.strongRecOn with
    | ind n ih =>
      intro v hv hn
      by_cases e : v = s
      · subst e
        exact ⟨by omega, by omega, fun _ => d1⟩
      · obtain ⟨u, u1, u2, u3, u4, u5⟩ := q3 v hv (by omega) e
        have hu0 : 0 ≤ V1 u := by
          have := q2 u u1
          omega
        obtain ⟨i1, i2, i3⟩ := ih (V1 u).toNat (by omega) u u1 (by omega)
        rcases hR u u1 v hv u5 with hL | ⟨r1, r2, r3⟩
        · have h4 := p4 u u1 v hv i1 hL
          refine ⟨h4.1, by omega, fun z => ?_⟩
          exact d3 u u1 (i3 (by omega)) v hv (by omega) u5
        · exact ⟨r2, by omega, fun z => by omega⟩
  have h0 : 0 ≤ V1 t := by
    have := q2 t ht
    omega
  obtain ⟨k1, k2, k3⟩ := key (V1 t).toNat t ht (by omega)
  have : V0 t ≠ V1 t := fun z => d2 (k3 z)
  omega
def fl_Ly (C L0 V0 L F V : Nat → Int) (s t u : Nat) (x : Int) (pt : Nat → Nat) : Prop :=
  fl_Inv C L s t x ∧
  (u < 16 ∧ u ≠ t ∧ 0 ≤ V u ∧ V u ≤ 15 ∧ V s = 0 ∧ V t ≠ -1 ∧ s < 16) ∧
  (∀ v, v < 16 → V v = -1 ∨ V v = V0 v) ∧
  (pt 0 = s ∧ pt (V u).toNat = u ∧ ∀ k, k ≤ (V u).toNat → pt k < 16 ∧ V (pt k) = (k : Int) ∧ pt k ≠ t) ∧
  (∀ k, k < (V u).toNat → F (pt (k + 1)) = (pt k : Int) ∧ 1 ≤ L (pt k * 16 + pt (k + 1))) ∧
  fl_Rs L0 V0 L ∧
  (∀ a, a < 16 → V a = -1 → V0 a ≠ -1 → ∀ b, b < 16 → V0 b = V0 a + 1 → 0 < L (a * 16 + b) → V b = -1)
def fl_Lm (V : Nat → Int) (u : Nat) (x : Int) : Int := 16 * (1980 - x) + 2 * (16 - fl_un V) + (15 - V u)
theorem fl_un_le (F : Nat → Int) : fl_un F ≤ 16 := by
  have := fl_le (n := 16) (f := fun v => if F v = -1 then (1 : Int) else 0) (g := fun _ => 1) (fun i _ => by
    show (if F i = -1 then (1 : Int) else 0) ≤ 1
    split <;> omega)
  rw [fl_const] at this
  exact this
theorem fl_un_kill {F : Nat → Int} {v : Nat} (hv : v < 16) (h : F v ≠ -1) : fl_un (fl_pu F v (-1)) = fl_un F + 1 := by
  unfold fl_un
  rw [fl_one (f := fun v => if F v = -1 then 1 else 0) (g := fun i => if fl_pu F v (-1) i = -1 then 1 else 0) hv (fun i _ hi => by
    show (if fl_pu F v (-1) i = -1 then (1 : Int) else 0) = (if F i = -1 then 1 else 0)
    rw [fl_pun hi])]
  show _ + ((if fl_pu F v (-1) v = -1 then (1 : Int) else 0) - (if F v = -1 then 1 else 0)) = _
  rw [fl_pus, if_pos rfl, if_neg h]; omega
theorem fl_Lm_nn {C L0 V0 L F V : Nat → Int} {s t u : Nat} {x : Int} {pt : Nat → Nat} (h : fl_Ly C L0 V0 L F V s t u x pt) (hx : x ≤ 1980) : 0 ≤ fl_Lm V u x := by
  have := fl_un_le V
  have := h.2.1
  unfold fl_Lm; omega
theorem fl_Y0 {C L F V : Nat → Int} {s t : Nat} {x : Int} (hI : fl_Inv C L s t x) (hB : fl_Bf L F V s) (hs : s < 16) (hst : s ≠ t) (hV : V t ≠ -1) : fl_Ly C L V L F V s t s x (fun _ => s) := by
  obtain ⟨p1, p2, p3, p4⟩ := hB
  have e : (V s).toNat = 0 := by omega
  refine ⟨hI, ⟨hs, hst, by omega, by omega, p1, hV, hs⟩, fun v _ => Or.inr rfl, ⟨rfl, rfl, ?_⟩, ?_, fun a _ b _ h => Or.inl h, ?_⟩
  · intro k hk
    have : k = 0 := by omega
    subst this
    exact ⟨hs, p1, hst⟩
  · intro k hk; omega
  · intro a _ h1 h2; exact absurd h1 h2
theorem fl_Y0m {V : Nat → Int} {s : Nat} {x : Int} (hx : 0 ≤ x) (hs : V s = 0) : fl_Lm V s x ≤ 31727 := by
  have := fl_un_nn V
  unfold fl_Lm; omega
/-- one level on -/
theorem fl_Y1 {C L0 V0 L F V : Nat → Int} {s t u v : Nat} {x : Int} {pt : Nat → Nat} (h : fl_Ly C L0 V0 L F V s t u x pt) (hV0 : ∀ v, v < 16 → V0 v ≤ 15) (hv : v < 16) (hvt : v ≠ t) (hV : V v = V u + 1) (hL : 0 < L (u * 16 + v)) :
    fl_Ly C L0 V0 L (fl_pu F v (u : Int)) V s t v x (fun k => if k = (V v).toNat then v else pt k) ∧ fl_Lm V v x = fl_Lm V u x - 1 := by
  obtain ⟨hI, ⟨a1, a2, a3, a4, a5, a6, a7⟩, b, ⟨c1, c2, c3⟩, d, e, f⟩ := h
  have h15 : V v ≤ 15 := by
    have := b v hv
    have := hV0 v hv
    omega
  have en : (V v).toNat = (V u).toNat + 1 := by omega
  have hne : ∀ k, k ≤ (V u).toNat → pt k ≠ v := fun k hk z => by
    have := (c3 k hk).2.1
    rw [z] at this; omega
  refine ⟨⟨hI, ⟨hv, hvt, by omega, h15, a5, a6, a7⟩, b, ⟨?_, ?_, ?_⟩, ?_, e, f⟩, by unfold fl_Lm; omega⟩
  · show (if 0 = (V v).toNat then v else pt 0) = s
    rw [if_neg (by omega)]; exact c1
  · show (if (V v).toNat = (V v).toNat then v else pt (V v).toNat) = v
    rw [if_pos rfl]
  · intro k hk
    show (if k = (V v).toNat then v else pt k) < 16 ∧ V (if k = (V v).toNat then v else pt k) = (k : Int) ∧ (if k = (V v).toNat then v else pt k) ≠ t
    by_cases ek : k = (V v).toNat
    · rw [if_pos ek]; exact ⟨hv, by omega, hvt⟩
    · rw [if_neg ek]; exact c3 k (by omega)
  · intro k hk
    show fl_pu F v (u : Int) (if k + 1 = (V v).toNat then v else pt (k + 1)) = ((if k = (V v).toNat then v else pt k : Nat) : Int) ∧ 1 ≤ L ((if k = (V v).toNat then v else pt k) * 16 + (if k + 1 = (V v).toNat then v else pt (k + 1)))
    rw [if_neg (show ¬ k = (V v).toNat by omega)]
    by_cases ek : k + 1 = (V v).toNat
    · have ek2 : k = (V u).toNat := by omega
      rw [if_pos ek, fl_pus, ek2, c2]
      exact ⟨rfl, by omega⟩
    · rw [if_neg ek, fl_pun (hne _ (by omega))]
      exact d k (by omega)
/-- the way to t -/
theorem fl_Y2 {C L0 V0 L F V : Nat → Int} {s t u : Nat} {x : Int} {pt : Nat → Nat} (h : fl_Ly C L0 V0 L F V s t u x pt) (hV0 : ∀ v, v < 16 → V0 v ≤ 15) (ht : t < 16) (hV : V t = V u + 1) (hL : 0 < L (u * 16 + t)) :
    ∃ (m : Nat) (c : Nat → Nat), fl_Ch L (fl_pu F t (u : Int)) s t 1 m c ∧ ∀ a, 1 ≤ a → (∀ j, j < m → a ≤ L (c (j + 1) * 16 + c j)) →
      fl_Ly C L0 V0 (fl_ms L c a m) (fl_pu F t (u : Int)) V s t s (x + a) (fun _ => s) ∧ fl_Lm V s (x + a) ≤ fl_Lm V u x - 1 := by
  obtain ⟨hI, ⟨a1, a2, a3, a4, a5, a6, a7⟩, b, ⟨c1, c2, c3⟩, d, e, f⟩ := h
  have h15 : V t ≤ 15 := by
    have := b t ht
    have := hV0 t ht
    omega
  have hne : ∀ k, k ≤ (V u).toNat → pt k ≠ t := fun k hk z => by
    have := (c3 k hk).2.1
    rw [z] at this; omega
  have hcj : ∀ j, 1 ≤ j → j ≤ (V u).toNat + 1 → (if j = 0 then t else pt ((V u).toNat + 1 - j)) = pt ((V u).toNat + 1 - j) := fun j h1 _ => if_neg (by omega)
  have hC : fl_Ch L (fl_pu F t (u : Int)) s t 1 ((V u).toNat + 1) (fun j => if j = 0 then t else pt ((V u).toNat + 1 - j)) := by
    refine ⟨by omega, rfl, ?_, ?_, ?_, ?_⟩
    · show (if (V u).toNat + 1 = 0 then t else pt ((V u).toNat + 1 - ((V u).toNat + 1))) = s
      rw [if_neg (by omega), Nat.sub_self]; exact c1
    · intro j hj
      show (if j = 0 then t else pt ((V u).toNat + 1 - j)) < 16
      by_cases ej : j = 0
      · rw [if_pos ej]; exact ht
      · rw [if_neg ej]; exact (c3 _ (by omega)).1
    · intro i j hij hj
      show (if i = 0 then t else pt ((V u).toNat + 1 - i)) ≠ (if j = 0 then t else pt ((V u).toNat + 1 - j))
      rw [if_neg (show ¬ j = 0 by omega)]
      by_cases ei : i = 0
      · rw [if_pos ei]; exact Ne.symm (hne _ (by omega))
      · rw [if_neg ei]
        intro z
        have z1 := (c3 ((V u).toNat + 1 - i) (by omega)).2.1
        have z2 := (c3 ((V u).toNat + 1 - j) (by omega)).2.1
        rw [z] at z1; omega
    · intro j hj
      show fl_pu F t (u : Int) (if j = 0 then t else pt ((V u).toNat + 1 - j)) = ((if j + 1 = 0 then t else pt ((V u).toNat + 1 - (j + 1)) : Nat) : Int) ∧ 1 ≤ L ((if j + 1 = 0 then t else pt ((V u).toNat + 1 - (j + 1))) * 16 + (if j = 0 then t else pt ((V u).toNat + 1 - j)))
      rw [if_neg (show ¬ j + 1 = 0 by omega)]
      by_cases ej : j = 0
      · subst ej
        rw [if_pos rfl, fl_pus, show (V u).toNat + 1 - (0 + 1) = (V u).toNat by omega, c2]
        exact ⟨rfl, by omega⟩
      · rw [if_neg ej, fl_pun (hne _ (by omega))]
        have := d ((V u).toNat + 1 - (j + 1)) (by omega)
        rw [show (V u).toNat + 1 - (j + 1) + 1 = (V u).toNat + 1 - j by omega] at this
        exact this
  refine ⟨_, _, hC, fun a h1 ha => ?_⟩
  have e0 : (V s).toNat = 0 := by omega
  have lev : ∀ k, k < (V u).toNat + 1 → V (if k = 0 then t else pt ((V u).toNat + 1 - k)) = V (if k + 1 = 0 then t else pt ((V u).toNat + 1 - (k + 1))) + 1 ∧ V (if k + 1 = 0 then t else pt ((V u).toNat + 1 - (k + 1))) = (((V u).toNat - k : Nat) : Int) := by
    intro k hk
    rw [if_neg (show ¬ k + 1 = 0 by omega)]
    have z2 := (c3 ((V u).toNat + 1 - (k + 1)) (by omega)).2.1
    by_cases ek : k = 0
    · rw [if_pos ek]; omega
    · rw [if_neg ek]
      have z1 := (c3 ((V u).toNat + 1 - k) (by omega)).2.1
      omega
  have res := fl_ms_res hC (a := a) (by omega) _ (Nat.le_refl _)
  have V0e : ∀ w, w < 16 → 0 ≤ V w → V0 w = V w := fun w hw h0 => by
    have := b w hw
    omega
  have hst : s ≠ t := by
    have := (c3 0 (by omega)).2.2
    rw [c1] at this; exact this
  refine ⟨⟨fl_fill hC hI (by omega) ha, ⟨a7, hst, by omega, by omega, a5, a6, a7⟩, b, ⟨rfl, rfl, ?_⟩, ?_, ?_, ?_⟩, ?_⟩
  · intro k hk
    have : k = 0 := by omega
    subst this
    exact ⟨a7, a5, hst⟩
  · intro k hk; omega
  · intro p hp q hq hpos
    rcases res p hp q hq hpos with r | ⟨k, hk, rfl, rfl⟩
    · exact e p hp q hq r
    · have hl := lev k hk
      have w1 := V0e _ hp (by omega)
      have w2 := V0e _ hq (by omega)
      exact Or.inr ⟨by omega, by omega, by omega⟩
  · intro p hp h2 h3 q hq h4 hpos
    rcases res p hp q hq hpos with r | ⟨k, hk, rfl, rfl⟩
    · exact f p hp h2 h3 q hq h4 r
    · have hl := lev k hk
      omega
  · unfold fl_Lm; omega
/-- a dead end -/
theorem fl_Y3 {C L0 V0 L F V : Nat → Int} {s t u : Nat} {x : Int} {pt : Nat → Nat} (h : fl_Ly C L0 V0 L F V s t u x pt) (hus : u ≠ s) (hn : ∀ v, v < 16 → V v = V u + 1 → ¬ 0 < L (u * 16 + v)) :
    ∃ p : Nat, p < 16 ∧ F u = (p : Int) ∧ p ≠ t ∧ fl_Ly C L0 V0 L F (fl_pu V u (-1)) s t p x pt ∧ fl_Lm (fl_pu V u (-1)) p x = fl_Lm V u x - 1 := by
  obtain ⟨hI, ⟨a1, a2, a3, a4, a5, a6, a7⟩, b, ⟨c1, c2, c3⟩, d, e, f⟩ := h
  have hk : 0 < (V u).toNat := by
    apply Nat.pos_of_ne_zero
    intro z
    rw [z, c1] at c2; exact hus c2.symm
  have hd := d ((V u).toNat - 1) (by omega)
  rw [show (V u).toNat - 1 + 1 = (V u).toNat by omega, c2] at hd
  have hp := c3 ((V u).toNat - 1) (by omega)
  have hpu : pt ((V u).toNat - 1) ≠ u := fun z => by
    rw [z] at hp; omega
  have hVp : fl_pu V u (-1) (pt ((V u).toNat - 1)) = (((V u).toNat - 1 : Nat) : Int) := by
    rw [fl_pun hpu]; exact hp.2.1
  have hne : ∀ k, k < (V u).toNat → pt k ≠ u := fun k hk z => by
    have := (c3 k (by omega)).2.1
    rw [z] at this; omega
  have e1 : (fl_pu V u (-1) (pt ((V u).toNat - 1))).toNat = (V u).toNat - 1 := by omega
  refine ⟨pt ((V u).toNat - 1), hp.1, hd.1, hp.2.2, ⟨hI, ⟨hp.1, hp.2.2, by omega, by omega, ?_, ?_, a7⟩, ?_, ⟨c1, by rw [e1], ?_⟩, ?_, e, ?_⟩, ?_⟩
  · rw [fl_pun (Ne.symm hus)]; exact a5
  · rw [fl_pun (Ne.symm a2)]; exact a6
  · intro v hv
    by_cases ev : v = u
    · rw [ev, fl_pus]; exact Or.inl rfl
    · rw [fl_pun ev]; exact b v hv
  · intro k hk
    rw [e1] at hk
    rw [fl_pun (hne k (by omega))]
    exact c3 k (by omega)
  · intro k hk
    rw [e1] at hk
    exact d k (by omega)
  · intro p hp1 h1 h2 q hq h3 h4
    have hq1 : V q = -1 := by
      by_cases ep : p = u
      · subst ep
        have h5 := b p hp1
        have h6 := b q hq
        have h7 := hn q hq
        by_cases h8 : V q = V p + 1
        · exact absurd h4 (h7 h8)
        · omega
      · rw [fl_pun ep] at h1
        exact f p hp1 h1 h2 q hq h3 h4
    by_cases eq : q = u
    · rw [eq, fl_pus]
    · rw [fl_pun eq]; exact hq1
  · unfold fl_Lm
    rw [fl_un_kill a1 (by omega), hVp]; omega
/-- s is a dead end -/
theorem fl_Y4 {C L0 V0 L F V : Nat → Int} {s t : Nat} {x : Int} {pt : Nat → Nat} (h : fl_Ly C L0 V0 L F V s t s x pt) (hV0 : ∀ v, v < 16 → V0 v = -1 ∨ 0 ≤ V0 v) (h0 : V0 s = 0) (hn : ∀ v, v < 16 → V v = V s + 1 → ¬ 0 < L (s * 16 + v)) : fl_Bk L0 V0 L s t := by
  obtain ⟨hI, ⟨a1, a2, a3, a4, a5, a6, a7⟩, b, ⟨c1, c2, c3⟩, d, e, f⟩ := h
  refine ⟨e, fun a => a = s ∨ (V a = -1 ∧ V0 a ≠ -1), Or.inl rfl, ?_, ?_⟩
  · intro z
    rcases z with z | z
    · exact a2 z.symm
    · exact a6 z.1
  · intro p hp hD q hq h1 h2
    rcases hD with rfl | ⟨h3, h4⟩
    · have h5 := hn q hq
      have h6 := b q hq
      by_cases h7 : V q = V p + 1
      · exact absurd h2 (h5 h7)
      · exact Or.inr ⟨by omega, by omega⟩
    · have h5 := hV0 p hp
      exact Or.inr ⟨f p hp h3 h4 q hq h1 h2, by omega⟩
