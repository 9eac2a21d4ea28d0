/-- what the arcs before n that leave S carry, none more than most -/
def fl_cs (pr : Nat → Bool) (st en : Nat → Nat) (rm : Nat → Int) (ext : Nat) (most : Int) (S : Nat → Bool) (n : Nat) : Int :=
  fl_S n (fun j => if pr j && (S (st j + ext) && !S (en j)) then (if rm j < most then rm j else most) else 0)
def fl_La (pr : Nat → Bool) (st en : Nat → Nat) (rm : Nat → Int) (ext : Nat) (most : Int) (L : Nat → Int) (k : Nat) : Prop :=
  (∀ S, fl_cut L S = fl_cs pr st en rm ext most S k) ∧ (∀ i, i < 256 → 0 ≤ L i ∧ L i ≤ 99 * (k : Int)) ∧ (∀ i, i < 256 → i / 16 < ext → L i = 0)
theorem fl_La0 {pr : Nat → Bool} {st en : Nat → Nat} {rm : Nat → Int} {ext : Nat} {most : Int} {L : Nat → Int} (h : ∀ i, i < 256 → L i = 0) : fl_La pr st en rm ext most L 0 := by
  refine ⟨fun S => ?_, fun i hi => by rw [h i hi]; omega, fun i hi _ => h i hi⟩
  show fl_cut L S = 0
  exact fl_cut_0 (fun u hu v hv _ _ => h _ (by omega))
theorem fl_La1 {pr : Nat → Bool} {st en : Nat → Nat} {rm : Nat → Int} {ext k : Nat} {most : Int} {L : Nat → Int} (h : fl_La pr st en rm ext most L k) (hp : pr k = false) : fl_La pr st en rm ext most L (k + 1) := by
  obtain ⟨a, b, c⟩ := h
  refine ⟨fun S => ?_, fun i hi => ?_, c⟩
  · unfold fl_cs
    rw [fl_Ss]
    show _ = fl_cs pr st en rm ext most S k + (if pr k && (S (st k + ext) && !S (en k)) then (if rm k < most then rm k else most) else 0)
    rw [a S, hp]; simp
  · have := b i hi
    omega
theorem fl_La2 {pr : Nat → Bool} {st en : Nat → Nat} {rm : Nat → Int} {ext k : Nat} {most : Int} {L : Nat → Int} (h : fl_La pr st en rm ext most L k) (hp : pr k = true) (h1 : st k + ext < 16) (h2 : en k < 16) (h3 : 0 ≤ rm k ∧ rm k ≤ 99) (h4 : 0 ≤ most) {x : Int} (hx : x = L ((st k + ext) * 16 + en k) + (if rm k < most then rm k else most)) :
    fl_La pr st en rm ext most (fl_pu L ((st k + ext) * 16 + en k) x) (k + 1) := by
  obtain ⟨a, b, c⟩ := h
  have hi0 : (st k + ext) * 16 + en k < 256 := by omega
  refine ⟨fun S => ?_, fun i hi => ?_, fun i hi hl => ?_⟩
  · unfold fl_cs
    rw [fl_Ss]
    show _ = fl_cs pr st en rm ext most S k + (if pr k && (S (st k + ext) && !S (en k)) then (if rm k < most then rm k else most) else 0)
    rw [fl_cut_pu L S x hi0, a S, hp, hx]
    have e1 : ((st k + ext) * 16 + en k) / 16 = st k + ext := by omega
    have e2 : ((st k + ext) * 16 + en k) % 16 = en k := by omega
    rw [e1, e2, Bool.true_and]
    cases S (st k + ext) && !S (en k)
    · simp
    · simp; omega
  · by_cases e : i = (st k + ext) * 16 + en k
    · rw [e, fl_pus, hx]
      have := b _ hi0
      split <;> omega
    · rw [fl_pun e]
      have := b i hi
      omega
  · rw [fl_pun (by omega)]; exact c i hi hl
theorem fl_La_ok {pr : Nat → Bool} {st en : Nat → Nat} {rm : Nat → Int} {ext : Nat} {most : Int} {L : Nat → Int} (h : fl_La pr st en rm ext most L 20) : fl_ok L := by
  intro u hu v hv
  have h1 := h.2.1 (u * 16 + v) (by omega)
  have h2 := h.2.1 (v * 16 + u) (by omega)
  omega
theorem fl_cs_le {pr : Nat → Bool} {st en : Nat → Nat} {rm : Nat → Int} {ext : Nat} {most : Int} (S : Nat → Bool) (h : ∀ k, k < 20 → pr k = true → 0 ≤ rm k ∧ rm k ≤ 99) (hm : 0 ≤ most) : 0 ≤ fl_cs pr st en rm ext most S 20 ∧ fl_cs pr st en rm ext most S 20 ≤ 1980 := by
  have key : ∀ j, j < 20 → 0 ≤ (if pr j && (S (st j + ext) && !S (en j)) then (if rm j < most then rm j else most) else 0) ∧ (if pr j && (S (st j + ext) && !S (en j)) then (if rm j < most then rm j else most) else 0) ≤ 99 := by
    intro j hj
    by_cases e : (pr j && (S (st j + ext) && !S (en j))) = true
    · rw [if_pos e]
      rw [Bool.and_eq_true] at e
      have := h j hj e.1
      split <;> omega
    · rw [if_neg e]; omega
  constructor
  · exact fl_nonneg (fun j hj => (key j hj).1)
  · have := fl_le (n := 20) (f := fun j => if pr j && (S (st j + ext) && !S (en j)) then (if rm j < most then rm j else most) else 0) (g := fun _ => 99) (fun j hj => (key j hj).2)
    rw [fl_const] at this
    exact this
/-- what the points before n that S cuts let through -/
def fl_ps (much : Int) (S : Nat → Bool) (n : Nat) : Int := fl_S n (fun p => if S p && !S (p + 8) then much else 0)
def fl_Lp (B : (Nat → Bool) → Int) (much : Int) (L : Nat → Int) (n : Nat) : Prop :=
  (∀ S, fl_cut L S = B S + fl_ps much S n) ∧ (∀ i, i < 256 → 0 ≤ L i ∧ L i ≤ 1980) ∧ ∀ p, n ≤ p → p < 8 → L (p * 16 + p + 8) = 0
theorem fl_Lp1 {B : (Nat → Bool) → Int} {much : Int} {L : Nat → Int} {n : Nat} (h : fl_Lp B much L n) (hn : n < 8) (hm : 0 ≤ much ∧ much ≤ 99) : fl_Lp B much (fl_pu L (n * 16 + n + 8) much) (n + 1) := by
  obtain ⟨a, b, c⟩ := h
  refine ⟨fun S => ?_, fun i hi => ?_, fun p hp h8 => ?_⟩
  · rw [fl_cut_pu L S much (by omega), a S, c n (Nat.le_refl _) hn]
    have e1 : (n * 16 + n + 8) / 16 = n := by omega
    have e2 : (n * 16 + n + 8) % 16 = n + 8 := by omega
    rw [e1, e2]
    show _ = B S + (fl_ps much S n + (if S n && !S (n + 8) then much else 0))
    rw [Int.sub_zero]; omega
  · by_cases e : i = n * 16 + n + 8
    · rw [e, fl_pus]; omega
    · rw [fl_pun e]; exact b i hi
  · rw [fl_pun (by omega)]; exact c p (by omega) h8
theorem fl_Lp_ok {B : (Nat → Bool) → Int} {much : Int} {L : Nat → Int} {n : Nat} (h : fl_Lp B much L n) : fl_ok L := by
  intro u hu v hv
  have h1 := h.2.1 (u * 16 + v) (by omega)
  have h2 := h.2.1 (v * 16 + u) (by omega)
  omega
