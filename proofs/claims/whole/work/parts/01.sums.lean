/-- f 0 + .. + f (n - 1) -/
def fl_S : Nat → (Nat → Int) → Int
  | 0, _ => 0
  | n + 1, f => fl_S n f + f n
theorem fl_S0 (f : Nat → Int) : fl_S 0 f = 0 := rfl
theorem fl_Ss (n : Nat) (f : Nat → Int) : fl_S (n + 1) f = fl_S n f + f n := rfl
theorem fl_congr {n : Nat} {f g : Nat → Int} (h : ∀ i, i < n → f i = g i) : fl_S n f = fl_S n g := by
  induction n with
  | zero => rfl
  | succ n ih => rw [fl_Ss, fl_Ss, ih (fun i hi => h i (by omega)), h n (by omega)]
theorem fl_le {n : Nat} {f g : Nat → Int} (h : ∀ i, i < n → f i ≤ g i) : fl_S n f ≤ fl_S n g := by
  induction n with
  | zero => exact Int.le_refl _
  | succ n ih =>
    have h1 := ih (fun i hi => h i (by omega))
    have h2 := h n (by omega)
    rw [fl_Ss, fl_Ss]; omega
theorem fl_const (n : Nat) (c : Int) : fl_S n (fun _ => c) = (n : Int) * c := by
  induction n with
  | zero => simp [fl_S0]
  | succ n ih => rw [fl_Ss, ih, Int.natCast_add, Int.add_mul]; simp
theorem fl_zero {n : Nat} {f : Nat → Int} (h : ∀ i, i < n → f i = 0) : fl_S n f = 0 := by
  rw [fl_congr (g := fun _ => 0) h, fl_const]; simp
theorem fl_nonneg {n : Nat} {f : Nat → Int} (h : ∀ i, i < n → 0 ≤ f i) : 0 ≤ fl_S n f := by
  have := fl_le (f := fun _ => 0) (g := f) h
  rw [fl_const] at this; simpa using this
theorem fl_nonpos {n : Nat} {f : Nat → Int} (h : ∀ i, i < n → f i ≤ 0) : fl_S n f ≤ 0 := by
  have := fl_le (f := f) (g := fun _ => 0) h
  rw [fl_const] at this; simpa using this
theorem fl_add (n : Nat) (f g : Nat → Int) : fl_S n (fun i => f i + g i) = fl_S n f + fl_S n g := by
  induction n with
  | zero => rfl
  | succ n ih => rw [fl_Ss, fl_Ss, fl_Ss, ih]; omega
theorem fl_one {n k : Nat} {f g : Nat → Int} (hk : k < n) (h : ∀ i, i < n → i ≠ k → g i = f i) : fl_S n g = fl_S n f + (g k - f k) := by
  induction n with
  | zero => omega
  | succ n ih =>
    rw [fl_Ss, fl_Ss]
    by_cases e : k = n
    · subst e
      rw [fl_congr (f := g) (g := f) (fun i hi => h i (by omega) (by omega))]; omega
    · rw [ih (by omega) (fun i hi => h i (by omega)), h n (by omega) (by omega)]; omega
theorem fl_ge1 {n k : Nat} {f : Nat → Int} (h : ∀ i, i < n → 0 ≤ f i) (hk : k < n) : f k ≤ fl_S n f := by
  have h1 := fl_one (f := f) (g := fun i => if i = k then 0 else f i) hk (fun i _ hi => if_neg hi)
  have h2 : 0 ≤ fl_S n (fun i => if i = k then 0 else f i) := fl_nonneg (fun i hi => by
    show 0 ≤ (if i = k then 0 else f i)
    split
    · omega
    · exact h i hi)
  rw [h1] at h2
  rw [if_pos rfl] at h2; omega
theorem fl_swap (n m : Nat) (f : Nat → Nat → Int) : fl_S n (fun i => fl_S m (fun j => f i j)) = fl_S m (fun j => fl_S n (fun i => f i j)) := by
  induction n with
  | zero => exact (fl_zero (fun _ _ => rfl)).symm
  | succ n ih =>
    rw [fl_Ss, ih, ← fl_add]; exact fl_congr (fun j _ => rfl)
/-- the function with x at k -/
def fl_pu (L : Nat → Int) (k : Nat) (x : Int) : Nat → Int := fun j => if j = k then x else L j
theorem fl_pus {L : Nat → Int} {k : Nat} {x : Int} : fl_pu L k x k = x := if_pos rfl
theorem fl_pun {L : Nat → Int} {k j : Nat} {x : Int} (h : j ≠ k) : fl_pu L k x j = L j := if_neg h
/-- an array's ints -/
def fl_v (a : Nat → Int32) : Nat → Int := fun i => (a i).toInt
theorem fl_vu (a : Nat → Int32) (k : Nat) (x : Int32) : fl_v (upd a k x) = fl_pu (fl_v a) k x.toInt := by
  funext j
  show (upd a k x j).toInt = if j = k then x.toInt else (a j).toInt
  unfold upd
  split <;> rfl
/-- what leaves S by L -/
def fl_cut (L : Nat → Int) (S : Nat → Bool) : Int := fl_S 256 (fun i => if S (i / 16) && !S (i % 16) then L i else 0)
theorem fl_cut_pu (L : Nat → Int) (S : Nat → Bool) {k : Nat} (x : Int) (hk : k < 256) : fl_cut (fl_pu L k x) S = fl_cut L S + (if S (k / 16) && !S (k % 16) then x - L k else 0) := by
  unfold fl_cut
  rw [fl_one (f := fun i => if S (i / 16) && !S (i % 16) then L i else 0) (g := fun i => if S (i / 16) && !S (i % 16) then fl_pu L k x i else 0) hk (fun i _ hi => by
    show (if S (i / 16) && !S (i % 16) then fl_pu L k x i else 0) = (if S (i / 16) && !S (i % 16) then L i else 0)
    rw [fl_pun hi])]
  show _ + ((if S (k / 16) && !S (k % 16) then fl_pu L k x k else 0) - (if S (k / 16) && !S (k % 16) then L k else 0)) = _
  rw [fl_pus]
  split <;> simp
theorem fl_cut_0 {L : Nat → Int} {S : Nat → Bool} (h : ∀ u, u < 16 → ∀ v, v < 16 → S u = true → S v = false → L (u * 16 + v) = 0) : fl_cut L S = 0 := by
  refine fl_zero (fun i hi => ?_)
  show (if S (i / 16) && !S (i % 16) then L i else 0) = 0
  split
  · next e =>
    rw [Bool.and_eq_true] at e
    have := h (i / 16) (by omega) (i % 16) (by omega) e.1 (by simpa using e.2)
    have e2 : i / 16 * 16 + i % 16 = i := by omega
    rw [e2] at this; exact this
  · rfl
theorem fl_cut_nn {L : Nat → Int} {S : Nat → Bool} (h : ∀ u, u < 16 → ∀ v, v < 16 → 0 ≤ L (u * 16 + v)) : 0 ≤ fl_cut L S := by
  refine fl_nonneg (fun i hi => ?_)
  show 0 ≤ (if S (i / 16) && !S (i % 16) then L i else 0)
  split
  · have := h (i / 16) (by omega) (i % 16) (by omega)
    have e2 : i / 16 * 16 + i % 16 = i := by omega
    rw [e2] at this; exact this
  · exact Int.le_refl _
def fl_b (b : Bool) : Int := if b then 1 else 0
/-- a goes from u to v: what is left there, and back -/
def fl_mv (L : Nat → Int) (u v : Nat) (a : Int) : Nat → Int :=
  fl_pu (fl_pu L (u * 16 + v) (L (u * 16 + v) - a)) (v * 16 + u) (fl_pu L (u * 16 + v) (L (u * 16 + v) - a) (v * 16 + u) + a)
theorem fl_cut_mv (L : Nat → Int) (S : Nat → Bool) {u v : Nat} (a : Int) (hu : u < 16) (hv : v < 16) : fl_cut (fl_mv L u v a) S = fl_cut L S - a * (fl_b (S u) - fl_b (S v)) := by
  unfold fl_mv
  rw [fl_cut_pu _ S _ (by omega), fl_cut_pu _ S _ (by omega)]
  have e1 : (u * 16 + v) / 16 = u := by omega
  have e2 : (u * 16 + v) % 16 = v := by omega
  have e3 : (v * 16 + u) / 16 = v := by omega
  have e4 : (v * 16 + u) % 16 = u := by omega
  rw [e1, e2, e3, e4]
  cases S u <;> cases S v <;> simp [fl_b] <;> omega
theorem fl_mv_at {L : Nat → Int} {u v x y : Nat} (a : Int) (hu : u < 16) (hv : v < 16) (hx : x < 16) (hy : y < 16) :
    fl_mv L u v a (x * 16 + y) = L (x * 16 + y) - (if x = u ∧ y = v then a else 0) + (if x = v ∧ y = u then a else 0) := by
  unfold fl_mv fl_pu
  have e1 : x * 16 + y = v * 16 + u ↔ x = v ∧ y = u := by omega
  have e2 : x * 16 + y = u * 16 + v ↔ x = u ∧ y = v := by omega
  have e3 : v * 16 + u = u * 16 + v ↔ u = v := by omega
  by_cases h1 : x = v ∧ y = u
  · obtain ⟨rfl, rfl⟩ := h1
    by_cases h3 : y = x
    · subst h3; simp
    · simp [e3, h3]
  · by_cases h2 : x = u ∧ y = v
    · obtain ⟨rfl, rfl⟩ := h2
      have h4 : ¬ (x * 16 + y = y * 16 + x) := by omega
      simp [h4, h1]
    · simp [e1, e2, h1, h2]
/-- what is left is no less than 0, and a pair's sum is small -/
def fl_ok (L : Nat → Int) : Prop := ∀ u, u < 16 → ∀ v, v < 16 → 0 ≤ L (u * 16 + v) ∧ L (u * 16 + v) + L (v * 16 + u) ≤ 4000
theorem fl_ok_le {L : Nat → Int} (h : fl_ok L) {u v : Nat} (hu : u < 16) (hv : v < 16) : 0 ≤ L (u * 16 + v) ∧ L (u * 16 + v) ≤ 4000 := by
  have h1 := h u hu v hv
  have h2 := h v hv u hu
  omega
theorem fl_ok_mv {L : Nat → Int} (h : fl_ok L) {u v : Nat} (hu : u < 16) (hv : v < 16) {a : Int} (h0 : 0 ≤ a) (ha : a ≤ L (u * 16 + v)) : fl_ok (fl_mv L u v a) := by
  intro x hx y hy
  rw [fl_mv_at a hu hv hx hy, fl_mv_at a hu hv hy hx]
  have h1 := h x hx y hy
  have h2 := h y hy x hx
  by_cases e1 : x = u ∧ y = v
  · obtain ⟨rfl, rfl⟩ := e1
    by_cases e2 : x = y
    · subst e2; simp; omega
    · have : ¬ (y = x ∧ x = y) := by omega
      have : ¬ (x = y ∧ y = x) := by omega
      simp [*]; omega
  · by_cases e2 : x = v ∧ y = u
    · obtain ⟨rfl, rfl⟩ := e2
      have e3 : ¬ x = y := by omega
      have : ¬ (y = x ∧ x = y) := by omega
      have : ¬ (x = y ∧ y = x) := by omega
      simp [*]; omega
    · have e3 : ¬ (y = u ∧ x = v) := by omega
      have e4 : ¬ (y = v ∧ x = u) := by omega
      simp [e1, e2, e3, e4]; omega
theorem fl_ok_nn {L : Nat → Int} (h : fl_ok L) (S : Nat → Bool) : 0 ≤ fl_cut L S := fl_cut_nn (fun u hu v hv => (h u hu v hv).1)
