/-- S holds s and not t -/
def fl_Sd (S : Nat → Bool) (s t : Nat) : Prop := S s = true ∧ S t = false
/-- the least size of a side -/
def fl_Min (C : Nat → Int) (s t : Nat) (x : Int) : Prop := (∃ S, fl_Sd S s t ∧ fl_cut C S = x) ∧ ∀ S, fl_Sd S s t → x ≤ fl_cut C S
theorem fl_Min_u {C : Nat → Int} {s t : Nat} {x y : Int} (hx : fl_Min C s t x) (hy : fl_Min C s t y) : x = y := by
  obtain ⟨⟨S, hS, rfl⟩, h1⟩ := hx
  obtain ⟨⟨T, hT, rfl⟩, h2⟩ := hy
  have := h1 T hT
  have := h2 S hS
  omega
/-- x has gone from s to t, and L is left -/
def fl_Inv (C L : Nat → Int) (s t : Nat) (x : Int) : Prop := fl_ok L ∧ ∀ S, fl_Sd S s t → x + fl_cut L S = fl_cut C S
/-- no way of at least g from s to t -/
def fl_Non (L : Nat → Int) (s t : Nat) (g : Int) : Prop := ∃ A : Nat → Bool, fl_Sd A s t ∧ ∀ u, u < 16 → ∀ v, v < 16 → A u = true → A v = false → L (u * 16 + v) < g
theorem fl_end {C L : Nat → Int} {s t : Nat} {x : Int} (h : fl_Inv C L s t x) (hn : fl_Non L s t 1) : fl_Min C s t x := by
  obtain ⟨hok, hc⟩ := h
  obtain ⟨A, hA, hz⟩ := hn
  have h0 : fl_cut L A = 0 := fl_cut_0 (fun u hu v hv h1 h2 => by
    have := hz u hu v hv h1 h2
    have := (hok u hu v hv).1
    omega)
  refine ⟨⟨A, hA, ?_⟩, fun S hS => ?_⟩
  · have := hc A hA
    omega
  · have := hc S hS
    have := fl_ok_nn hok S
    omega
theorem fl_Inv_le {C L : Nat → Int} {s t : Nat} {x B : Int} (h : fl_Inv C L s t x) (hB : ∃ S, fl_Sd S s t ∧ fl_cut C S ≤ B) : x ≤ B := by
  obtain ⟨S, hS, hb⟩ := hB
  have := h.2 S hS
  have := fl_ok_nn h.1 S
  omega
/-- the way back from t by F: c 0 = t .. c m = s -/
def fl_Ch (L F : Nat → Int) (s t : Nat) (g : Int) (m : Nat) (c : Nat → Nat) : Prop :=
  m ≤ 15 ∧ c 0 = t ∧ c m = s ∧ (∀ j, j ≤ m → c j < 16) ∧ (∀ i j, i < j → j ≤ m → c i ≠ c j) ∧
  ∀ j, j < m → F (c j) = (c (j + 1) : Int) ∧ g ≤ L (c (j + 1) * 16 + c j)
theorem fl_Ch_ns {L F : Nat → Int} {s t : Nat} {g : Int} {m : Nat} {c : Nat → Nat} (h : fl_Ch L F s t g m c) {j : Nat} (hj : j < m) : c j ≠ s := by
  obtain ⟨_, _, h3, _, h5, _⟩ := h
  rw [← h3]; exact h5 j m hj (Nat.le_refl _)
/-- a tree of ways back: d falls along F -/
def fl_Fd (L F : Nat → Int) (s t : Nat) (g : Int) : Prop := ∃ d : Nat → Nat, d t ≤ 15 ∧
  ∀ v, v < 16 → d v ≤ 15 → v ≠ s → ∃ u : Nat, u < 16 ∧ F v = (u : Int) ∧ d u < d v ∧ g ≤ L (u * 16 + v)
theorem fl_Fd_Ch {L F : Nat → Int} {s t : Nat} {g : Int} (ht : t < 16) (h : fl_Fd L F s t g) : ∃ (m : Nat) (c : Nat → Nat), fl_Ch L F s t g m c := by
  obtain ⟨d, hd, hT⟩ := h
  have key : ∀ n v, v < 16 → d v = n → n ≤ 15 → ∃ (m : Nat) (c : Nat → Nat), m ≤ n ∧ c 0 = v ∧ c m = s ∧ (∀ j, j ≤ m → c j < 16) ∧ (∀ i j, i < j → j ≤ m → d (c j) < d (c i)) ∧
      ∀ j, j < m → F (c j) = (c (j + 1) : Int) ∧ g ≤ L (c (j + 1) * 16 + c j) := by
    intro n
    induction n using Nat.strongRecOn with
    | ind n ih =>
      intro v hv hn h15
      by_cases e : v = s
      · exact ⟨0, fun _ => v, by omega, rfl, e, fun j _ => hv, fun i j h1 h2 => by omega, fun j hj => by omega⟩
      · obtain ⟨u, hu, hF, hlt, hg⟩ := hT v hv (by omega) e
        obtain ⟨m, c, h1, h2, h3, h4, h5, h6⟩ := ih (d u) (by omega) u hu rfl (by omega)
        refine ⟨m + 1, fun j => if j = 0 then v else c (j - 1), by omega, rfl, ?_, ?_, ?_, ?_⟩
        · show (if m + 1 = 0 then v else c (m + 1 - 1)) = s
          rw [if_neg (by omega)]; exact h3
        · intro j hj
          show (if j = 0 then v else c (j - 1)) < 16
          split
          · exact hv
          · exact h4 _ (by omega)
        · intro i j hij hj
          show d (if j = 0 then v else c (j - 1)) < d (if i = 0 then v else c (i - 1))
          rw [if_neg (show ¬ j = 0 by omega)]
          by_cases ei : i = 0
          · rw [if_pos ei]
            by_cases ej : j = 1
            · subst ej; show d (c 0) < d v; rw [h2]; exact hlt
            · have := h5 0 (j - 1) (by omega) (by omega)
              rw [h2] at this; omega
          · rw [if_neg ei]; exact h5 (i - 1) (j - 1) (by omega) (by omega)
        · intro j hj
          show F (if j = 0 then v else c (j - 1)) = ((if j + 1 = 0 then v else c (j + 1 - 1) : Nat) : Int) ∧ g ≤ L ((if j + 1 = 0 then v else c (j + 1 - 1)) * 16 + (if j = 0 then v else c (j - 1)))
          rw [if_neg (show ¬ j + 1 = 0 by omega), Nat.add_sub_cancel]
          by_cases ej : j = 0
          · subst ej; rw [if_pos rfl, h2]; exact ⟨hF, hg⟩
          · rw [if_neg ej]
            have := h6 (j - 1) (by omega)
            rw [show j - 1 + 1 = j by omega] at this
            exact this
  obtain ⟨m, c, h1, h2, h3, h4, h5, h6⟩ := key (d t) t ht rfl hd
  refine ⟨m, c, by omega, h2, h3, h4, fun i j hij hj e => ?_, h6⟩
  have := h5 i j hij hj
  rw [e] at this; omega
/-- L after j steps of the way back have been filled with a -/
def fl_ms (L : Nat → Int) (c : Nat → Nat) (a : Int) : Nat → Nat → Int
  | 0 => L
  | j + 1 => fl_mv (fl_ms L c a j) (c (j + 1)) (c j) a
theorem fl_ms_cut (L : Nat → Int) (c : Nat → Nat) (a : Int) (S : Nat → Bool) {m : Nat} (hc : ∀ j, j ≤ m → c j < 16) : ∀ j, j ≤ m → fl_cut (fl_ms L c a j) S = fl_cut L S - a * (fl_b (S (c j)) - fl_b (S (c 0))) := by
  intro j
  induction j with
  | zero => intro _; show fl_cut L S = _; rw [Int.sub_self, Int.mul_zero, Int.sub_zero]
  | succ j ih =>
    intro hj
    show fl_cut (fl_mv (fl_ms L c a j) (c (j + 1)) (c j) a) S = _
    rw [fl_cut_mv _ S a (hc _ hj) (hc _ (by omega)), ih (by omega)]
    cases S (c (j + 1)) <;> cases S (c j) <;> cases S (c 0) <;> simp [fl_b] <;> omega
theorem fl_ms_at {L F : Nat → Int} {s t : Nat} {g : Int} {m : Nat} {c : Nat → Nat} (h : fl_Ch L F s t g m c) (a : Int) : ∀ j, j ≤ m → ∀ k, j ≤ k → k < m → fl_ms L c a j (c (k + 1) * 16 + c k) = L (c (k + 1) * 16 + c k) := by
  obtain ⟨_, _, _, h4, h5, _⟩ := h
  intro j
  induction j with
  | zero => intro _ k _ _; rfl
  | succ j ih =>
    intro hj k hk hm
    show fl_mv (fl_ms L c a j) (c (j + 1)) (c j) a _ = _
    rw [fl_mv_at a (h4 _ (by omega)) (h4 _ (by omega)) (h4 _ (by omega)) (h4 _ (by omega)), ih (by omega) k (by omega) hm]
    have n1 : ¬ (c (k + 1) = c (j + 1) ∧ c k = c j) := fun z => h5 j k (by omega) (by omega) z.2.symm
    have n2 : ¬ (c (k + 1) = c j ∧ c k = c (j + 1)) := fun z => h5 j (k + 1) (by omega) (by omega) z.1.symm
    rw [if_neg n1, if_neg n2]; omega
theorem fl_ms_ok {L F : Nat → Int} {s t : Nat} {g : Int} {m : Nat} {c : Nat → Nat} (h : fl_Ch L F s t g m c) (hok : fl_ok L) {a : Int} (h0 : 0 ≤ a) (ha : ∀ j, j < m → a ≤ L (c (j + 1) * 16 + c j)) : ∀ j, j ≤ m → fl_ok (fl_ms L c a j) := by
  intro j
  induction j with
  | zero => intro _; exact hok
  | succ j ih =>
    intro hj
    refine fl_ok_mv (ih (by omega)) (h.2.2.2.1 _ hj) (h.2.2.2.1 _ (by omega)) h0 ?_
    rw [fl_ms_at h a j (by omega) j (Nat.le_refl _) (by omega)]
    exact ha j (by omega)
theorem fl_ms_res {L F : Nat → Int} {s t : Nat} {g : Int} {m : Nat} {c : Nat → Nat} (h : fl_Ch L F s t g m c) {a : Int} (h0 : 0 ≤ a) : ∀ j, j ≤ m → ∀ x, x < 16 → ∀ y, y < 16 → 0 < fl_ms L c a j (x * 16 + y) → 0 < L (x * 16 + y) ∨ ∃ k, k < m ∧ x = c k ∧ y = c (k + 1) := by
  intro j
  induction j with
  | zero => intro _ x _ y _ hp; exact Or.inl hp
  | succ j ih =>
    intro hj x hx y hy hp
    by_cases e : x = c j ∧ y = c (j + 1)
    · exact Or.inr ⟨j, by omega, e⟩
    · refine ih (by omega) x hx y hy ?_
      have hp2 : 0 < fl_mv (fl_ms L c a j) (c (j + 1)) (c j) a (x * 16 + y) := hp
      rw [fl_mv_at a (h.2.2.2.1 _ hj) (h.2.2.2.1 _ (by omega)) hx hy, if_neg e] at hp2
      split at hp2 <;> omega
theorem fl_fill {C L F : Nat → Int} {s t : Nat} {g x : Int} {m : Nat} {c : Nat → Nat} (h : fl_Ch L F s t g m c) (hI : fl_Inv C L s t x) {a : Int} (h0 : 0 ≤ a) (ha : ∀ j, j < m → a ≤ L (c (j + 1) * 16 + c j)) : fl_Inv C (fl_ms L c a m) s t (x + a) := by
  refine ⟨fl_ms_ok h hI.1 h0 ha m (Nat.le_refl _), fun S hS => ?_⟩
  rw [fl_ms_cut L c a S h.2.2.2.1 m (Nat.le_refl _), h.2.2.1, h.2.1, hS.1, hS.2]
  have := hI.2 S hS
  simp [fl_b]; omega
