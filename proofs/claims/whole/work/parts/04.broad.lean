/-- V: the levels of all that s reaches by L, F: a node before -/
def fl_Bf (L F V : Nat → Int) (s : Nat) : Prop :=
  V s = 0 ∧ (∀ v, v < 16 → V v = -1 ∨ (0 ≤ V v ∧ V v ≤ 15)) ∧
  (∀ v, v < 16 → V v ≠ -1 → v ≠ s → ∃ u : Nat, u < 16 ∧ F v = (u : Int) ∧ V u ≠ -1 ∧ V v = V u + 1 ∧ 0 < L (u * 16 + v)) ∧
  (∀ u, u < 16 → ∀ v, v < 16 → V u ≠ -1 → 0 < L (u * 16 + v) → V v ≠ -1 ∧ V v ≤ V u + 1)
theorem fl_Bf_fd {L F V : Nat → Int} {s t : Nat} (h : fl_Bf L F V s) (ht : t < 16) (hV : V t ≠ -1) : fl_Fd L F s t 1 := by
  obtain ⟨h1, h2, h3, h4⟩ := h
  refine ⟨fun v => if V v = -1 then 16 else (V v).toNat, ?_, ?_⟩
  · show (if V t = -1 then 16 else (V t).toNat) ≤ 15
    rw [if_neg hV]
    have := h2 t ht
    omega
  · intro v hv hd hvs
    have hd2 : (if V v = -1 then 16 else (V v).toNat) ≤ 15 := hd
    have hVv : V v ≠ -1 := by
      intro z; rw [if_pos z] at hd2; omega
    obtain ⟨u, u1, u2, u3, u4, u5⟩ := h3 v hv hVv hvs
    refine ⟨u, u1, u2, ?_, by omega⟩
    show (if V u = -1 then 16 else (V u).toNat) < (if V v = -1 then 16 else (V v).toNat)
    rw [if_neg u3, if_neg hVv]
    have := h2 u u1
    have := h2 v hv
    omega
theorem fl_Bf_non {L F V : Nat → Int} {s t : Nat} (h : fl_Bf L F V s) (hV : V t = -1) : fl_Non L s t 1 := by
  obtain ⟨h1, h2, h3, h4⟩ := h
  refine ⟨fun x => !decide (V x = -1), ⟨?_, ?_⟩, ?_⟩
  · show (!decide (V s = -1)) = true
    have : V s ≠ -1 := by omega
    simp [this]
  · show (!decide (V t = -1)) = false
    simp [hV]
  · intro x hx v hv hA hB
    have hx1 : V x ≠ -1 := by simpa using hA
    have hv1 : V v = -1 := by simpa using hB
    exact Int.not_le.mp (fun z => (h4 x hx v hv hx1 (by omega)).1 hv1)
def fl_Bq (L F V Q : Nat → Int) (s i w : Nat) (ln : Nat → Nat) : Prop :=
  (V s = 0 ∧ F s = (s : Int) ∧ 1 ≤ w ∧ (w : Int) + fl_un F = 16) ∧
  (∀ v, v < 16 → (F v = -1 ↔ V v = -1)) ∧
  (∀ v, v < 16 → F v ≠ -1 → 0 ≤ V v ∧ V v + fl_un F ≤ 15) ∧
  (∀ j, j < w → Q j = (ln j : Int) ∧ ln j < 16 ∧ F (ln j) ≠ -1) ∧
  (∀ x, x < 16 → F x ≠ -1 → ∃ j, j < w ∧ ln j = x) ∧
  (∀ v, v < 16 → F v ≠ -1 → v ≠ s → ∃ u : Nat, u < 16 ∧ F v = (u : Int) ∧ F u ≠ -1 ∧ V v = V u + 1 ∧ 0 < L (u * 16 + v)) ∧
  (∀ j k, j ≤ k → k < w → V (ln j) ≤ V (ln k)) ∧
  (∀ k, k < w → i < w → V (ln k) ≤ V (ln i) + 1) ∧
  (∀ j, j < i → j < w → ∀ v, v < 16 → 0 < L (ln j * 16 + v) → F v ≠ -1 ∧ V v ≤ V (ln j) + 1)
theorem fl_Bq_w {L F V Q : Nat → Int} {s i w : Nat} {ln : Nat → Nat} (h : fl_Bq L F V Q s i w ln) : w ≤ 16 := by
  have := fl_un_nn F
  have := h.1.2.2.2
  omega
theorem fl_Bq0 {L F V Q : Nat → Int} {s : Nat} (hs : s < 16) (hF : ∀ x, x < 16 → x ≠ s → F x = -1) (hFs : F s = (s : Int)) (hV : ∀ x, x < 16 → x ≠ s → V x = -1) (hVs : V s = 0) (hQ : Q 0 = (s : Int)) : fl_Bq L F V Q s 0 1 (fun _ => s) := by
  have hF1 : F s ≠ -1 := by omega
  have hun := fl_un_0 hs hF hF1
  refine ⟨⟨hVs, hFs, by omega, by rw [hun]; decide⟩, ?_, ?_, ?_, ?_, ?_, ?_, ?_, ?_⟩
  · intro v hv
    by_cases e : v = s
    · subst e; constructor <;> intro z <;> omega
    · exact ⟨fun _ => hV v hv e, fun _ => hF v hv e⟩
  · intro v hv hn
    by_cases e : v = s
    · subst e; omega
    · exact absurd (hF v hv e) hn
  · intro j hj
    have : j = 0 := by omega
    subst this
    exact ⟨hQ, hs, hF1⟩
  · intro x hx hn
    by_cases e : x = s
    · exact ⟨0, by omega, e.symm⟩
    · exact absurd (hF x hx e) hn
  · intro v hv hn e; exact absurd (hF v hv e) hn
  · intro j k _ _; exact Int.le_refl _
  · intro k _ _; show V s ≤ V s + 1; omega
  · intro j hj; omega
theorem fl_Bq1 {L F V Q : Nat → Int} {s i w v : Nat} {ln : Nat → Nat} (h : fl_Bq L F V Q s i w ln) (hi : i < w) (hv : v < 16) (hF : F v = -1) (hL : 0 < L (ln i * 16 + v)) :
    w < 16 ∧ fl_Bq L (fl_pu F v (ln i : Int)) (fl_pu V v (V (ln i) + 1)) (fl_pu Q w (v : Int)) s i (w + 1) (fun j => if j = w then v else ln j) := by
  obtain ⟨⟨a1, a2, a3, a4⟩, b, c, d, e, f, m, n, o⟩ := h
  have hFs : F s ≠ -1 := by omega
  have hvs : v ≠ s := fun z => hFs (z ▸ hF)
  have hu := d i hi
  have hvu : v ≠ ln i := fun z => hu.2.2 (z ▸ hF)
  have hun : fl_un (fl_pu F v (ln i : Int)) = fl_un F - 1 := fl_un_put hv hF (by omega)
  have hpos := fl_un_pos hv hF
  have hln : ∀ j, j < w → (if j = w then v else ln j) = ln j := fun j hj => if_neg (by omega)
  have hlv : ∀ j, j < w → ln j ≠ v := fun j hj z => (d j hj).2.2 (z ▸ hF)
  have hVl : ∀ j, j < w → fl_pu V v (V (ln i) + 1) (ln j) = V (ln j) := fun j hj => fl_pun (hlv j hj)
  refine ⟨by omega, ⟨?_, ?_, by omega, by rw [hun]; omega⟩, ?_, ?_, ?_, ?_, ?_, ?_, ?_, ?_⟩
  · rw [fl_pun (Ne.symm hvs)]; exact a1
  · rw [fl_pun (Ne.symm hvs)]; exact a2
  · intro x hx
    by_cases ex : x = v
    · subst ex
      rw [fl_pus, fl_pus]
      have := c (ln i) hu.2.1 hu.2.2
      constructor <;> intro z <;> omega
    · rw [fl_pun ex, fl_pun ex]; exact b x hx
  · intro x hx hn
    rw [hun]
    by_cases ex : x = v
    · subst ex
      rw [fl_pus]
      have := c (ln i) hu.2.1 hu.2.2
      omega
    · rw [fl_pun ex] at hn ⊢
      have := c x hx hn
      omega
  · intro j hj
    show fl_pu Q w (v : Int) j = ((if j = w then v else ln j : Nat) : Int) ∧ (if j = w then v else ln j) < 16 ∧ fl_pu F v (ln i : Int) (if j = w then v else ln j) ≠ -1
    by_cases ej : j = w
    · rw [if_pos ej, ej, fl_pus, fl_pus]
      exact ⟨rfl, hv, by omega⟩
    · rw [if_neg ej, fl_pun ej, fl_pun (hlv j (by omega))]
      exact d j (by omega)
  · intro x hx hn
    by_cases ex : x = v
    · exact ⟨w, by omega, (if_pos rfl).trans ex.symm⟩
    · rw [fl_pun ex] at hn
      obtain ⟨j, hj, hjx⟩ := e x hx hn
      exact ⟨j, by omega, (if_neg (by omega)).trans hjx⟩
  · intro x hx hn hxs
    by_cases ex : x = v
    · subst ex
      refine ⟨ln i, hu.2.1, fl_pus, ?_, ?_, hL⟩
      · rw [fl_pun (Ne.symm hvu)]; exact hu.2.2
      · rw [fl_pus, fl_pun (Ne.symm hvu)]
    · rw [fl_pun ex] at hn
      obtain ⟨p, p1, p2, p3, p4, p5⟩ := f x hx hn hxs
      have hpv : p ≠ v := fun z => p3 (z ▸ hF)
      refine ⟨p, p1, ?_, ?_, ?_, p5⟩
      · rw [fl_pun ex]; exact p2
      · rw [fl_pun hpv]; exact p3
      · rw [fl_pun ex, fl_pun hpv]; exact p4
  · intro j k hjk hk
    show fl_pu V v (V (ln i) + 1) (if j = w then v else ln j) ≤ fl_pu V v (V (ln i) + 1) (if k = w then v else ln k)
    by_cases ek : k = w
    · rw [if_pos ek, fl_pus]
      by_cases ej : j = w
      · rw [if_pos ej, fl_pus]; exact Int.le_refl _
      · rw [if_neg ej, hVl j (by omega)]; exact n j (by omega) hi
    · have ej : ¬ j = w := by omega
      rw [if_neg ek, if_neg ej, hVl j (by omega), hVl k (by omega)]
      exact m j k hjk (by omega)
  · intro k hk _
    show fl_pu V v (V (ln i) + 1) (if k = w then v else ln k) ≤ fl_pu V v (V (ln i) + 1) (if i = w then v else ln i) + 1
    rw [hln i hi, hVl i hi]
    by_cases ek : k = w
    · rw [if_pos ek, fl_pus]; exact Int.le_refl _
    · rw [if_neg ek, hVl k (by omega)]; exact n k (by omega) hi
  · intro j hj hjw x hx hLx
    have hLx2 : 0 < L ((if j = w then v else ln j) * 16 + x) := hLx
    show fl_pu F v (ln i : Int) x ≠ -1 ∧ fl_pu V v (V (ln i) + 1) x ≤ fl_pu V v (V (ln i) + 1) (if j = w then v else ln j) + 1
    rw [hln j (by omega)] at hLx2 ⊢
    have h1 := o j hj (by omega) x hx hLx2
    have ex : x ≠ v := fun z => h1.1 (z ▸ hF)
    rw [fl_pun ex, fl_pun ex, hVl j (by omega)]
    exact h1
theorem fl_Bq2 {L F V Q : Nat → Int} {s i w : Nat} {ln : Nat → Nat} (h : fl_Bq L F V Q s i w ln) (hi : i < w) (hc : ∀ v, v < 16 → 0 < L (ln i * 16 + v) → F v ≠ -1) : fl_Bq L F V Q s (i + 1) w ln := by
  obtain ⟨a, b, c, d, e, f, m, n, o⟩ := h
  refine ⟨a, b, c, d, e, f, m, ?_, ?_⟩
  · intro k hk hi1
    have h1 := n k hk hi
    have h2 := m i (i + 1) (by omega) hi1
    omega
  · intro j hj hjw v hv hL
    by_cases ej : j = i
    · subst ej
      have h1 := hc v hv hL
      obtain ⟨k, hk, hkv⟩ := e v hv h1
      have h2 := n k hk hi
      rw [hkv] at h2
      exact ⟨h1, h2⟩
    · exact o j (by omega) hjw v hv hL
theorem fl_Bq3 {L F V Q : Nat → Int} {s i w : Nat} {ln : Nat → Nat} (h : fl_Bq L F V Q s i w ln) (hi : w ≤ i) : fl_Bf L F V s := by
  obtain ⟨⟨a1, a2, a3, a4⟩, b, c, d, e, f, m, n, o⟩ := h
  have hun := fl_un_nn F
  have nb : ∀ v, v < 16 → V v ≠ -1 → F v ≠ -1 := fun v hv hn z => hn ((b v hv).mp z)
  have nf : ∀ v, v < 16 → F v ≠ -1 → V v ≠ -1 := fun v hv hn z => hn ((b v hv).mpr z)
  refine ⟨a1, ?_, ?_, ?_⟩
  · intro v hv
    by_cases hV : V v = -1
    · exact Or.inl hV
    · have := c v hv (nb v hv hV)
      exact Or.inr (by omega)
  · intro v hv hV hvs
    obtain ⟨u, u1, u2, u3, u4, u5⟩ := f v hv (nb v hv hV) hvs
    exact ⟨u, u1, u2, nf u u1 u3, u4, u5⟩
  · intro u hu v hv hV hL
    obtain ⟨j, hj, hju⟩ := e u hu (nb u hu hV)
    subst hju
    have := o j (by omega) hj v hv hL
    exact ⟨nf v hv this.1, this.2⟩
