theorem fl_bt {n i : Nat} (hi : i < 32) : bt (nI n) i = n.testBit i := by
  show (BitVec.ofNat 32 n).getLsbD i = n.testBit i
  rw [BitVec.getLsbD_ofNat]; simp [hi]
theorem fl_mask (S : Nat → Bool) : ∀ n, ∃ m, m < 2 ^ n ∧ ∀ p, p < n → m.testBit p = S p := by
  intro n
  induction n with
  | zero => exact ⟨0, by decide, fun p hp => by omega⟩
  | succ n ih =>
    obtain ⟨m, hm, hb⟩ := ih
    cases hS : S n with
    | false =>
      refine ⟨m, by rw [Nat.pow_succ]; omega, fun p hp => ?_⟩
      by_cases e : p = n
      · rw [e, hS]; exact Nat.testBit_lt_two_pow hm
      · exact hb p (by omega)
    | true =>
      refine ⟨2 ^ n + m, by rw [Nat.pow_succ]; omega, fun p hp => ?_⟩
      by_cases e : p = n
      · rw [e, hS, Nat.testBit_two_pow_add_eq, Nat.testBit_lt_two_pow hm]; rfl
      · rw [Nat.testBit_two_pow_add_gt (by omega)]; exact hb p (by omega)
def fl_Ev (Sd : Nat → Prop) (sz : Nat → Int) (m : Int) (f : Nat → Int32) (i : Nat) (ev : Int32) : Prop := ∀ b, b < 32 → (bt ev b = true ↔ ∀ j, j < i → Sd j → sz j = m → bt (f j) b = true)
def fl_So (Sd : Nat → Prop) (sz : Nat → Int) (m : Int) (f : Nat → Int32) (i : Nat) (so : Int32) : Prop := ∀ b, b < 32 → (bt so b = true ↔ ∃ j, j < i ∧ Sd j ∧ sz j = m ∧ bt (f j) b = true)
theorem fl_Ev_u {Sd : Nat → Prop} {sz : Nat → Int} {m : Int} {f : Nat → Int32} {i : Nat} {x y : Int32} (hx : fl_Ev Sd sz m f i x) (hy : fl_Ev Sd sz m f i y) : x = y := by
  apply b_ext
  intro b hb
  rw [Bool.eq_iff_iff, hx b hb, hy b hb]
theorem fl_So_u {Sd : Nat → Prop} {sz : Nat → Int} {m : Int} {f : Nat → Int32} {i : Nat} {x y : Int32} (hx : fl_So Sd sz m f i x) (hy : fl_So Sd sz m f i y) : x = y := by
  apply b_ext
  intro b hb
  rw [Bool.eq_iff_iff, hx b hb, hy b hb]
theorem fl_Ev_new {Sd : Nat → Prop} {sz : Nat → Int} {m : Int} {f : Nat → Int32} {i : Nat} (hm : ∀ j, j < i → Sd j → m ≤ sz j) (hs : Sd i) (hl : sz i < m) : fl_Ev Sd sz (sz i) f (i + 1) (f i) := by
  intro b hb
  constructor
  · intro h j hj hd he
    by_cases e : j = i
    · rw [e]; exact h
    · have := hm j (by omega) hd
      omega
  · intro h; exact h i (by omega) hs rfl
theorem fl_So_new {Sd : Nat → Prop} {sz : Nat → Int} {m : Int} {f : Nat → Int32} {i : Nat} (hm : ∀ j, j < i → Sd j → m ≤ sz j) (hs : Sd i) (hl : sz i < m) : fl_So Sd sz (sz i) f (i + 1) (f i) := by
  intro b hb
  constructor
  · intro h; exact ⟨i, by omega, hs, rfl, h⟩
  · rintro ⟨j, hj, hd, he, h⟩
    by_cases e : j = i
    · rw [← e]; exact h
    · have := hm j (by omega) hd
      omega
theorem fl_Ev_eq {Sd : Nat → Prop} {sz : Nat → Int} {m : Int} {f : Nat → Int32} {i : Nat} {ev : Int32} (h : fl_Ev Sd sz m f i ev) (hs : Sd i) (he : sz i = m) : fl_Ev Sd sz m f (i + 1) (ev &&& f i) := by
  intro b hb
  rw [b_and, Bool.and_eq_true, h b hb]
  constructor
  · rintro ⟨h1, h2⟩ j hj hd hz
    by_cases e : j = i
    · rw [e]; exact h2
    · exact h1 j (by omega) hd hz
  · intro h1; exact ⟨fun j hj hd hz => h1 j (by omega) hd hz, h1 i (by omega) hs he⟩
theorem fl_So_eq {Sd : Nat → Prop} {sz : Nat → Int} {m : Int} {f : Nat → Int32} {i : Nat} {so : Int32} (h : fl_So Sd sz m f i so) (hs : Sd i) (he : sz i = m) : fl_So Sd sz m f (i + 1) (so ||| f i) := by
  intro b hb
  rw [b_or, Bool.or_eq_true, h b hb]
  constructor
  · rintro (⟨j, hj, hd, hz, h1⟩ | h1)
    · exact ⟨j, by omega, hd, hz, h1⟩
    · exact ⟨i, by omega, hs, he, h1⟩
  · rintro ⟨j, hj, hd, hz, h1⟩
    by_cases e : j = i
    · exact Or.inr (e ▸ h1)
    · exact Or.inl ⟨j, by omega, hd, hz, h1⟩
theorem fl_Ev_no {Sd : Nat → Prop} {sz : Nat → Int} {m : Int} {f : Nat → Int32} {i : Nat} {ev : Int32} (h : fl_Ev Sd sz m f i ev) (hs : Sd i → sz i ≠ m) : fl_Ev Sd sz m f (i + 1) ev := by
  intro b hb
  rw [h b hb]
  constructor
  · intro h1 j hj hd hz
    by_cases e : j = i
    · exact absurd (e ▸ hz) (hs (e ▸ hd))
    · exact h1 j (by omega) hd hz
  · intro h1 j hj hd hz; exact h1 j (by omega) hd hz
theorem fl_So_no {Sd : Nat → Prop} {sz : Nat → Int} {m : Int} {f : Nat → Int32} {i : Nat} {so : Int32} (h : fl_So Sd sz m f i so) (hs : Sd i → sz i ≠ m) : fl_So Sd sz m f (i + 1) so := by
  intro b hb
  rw [h b hb]
  constructor
  · rintro ⟨j, hj, hd, hz, h1⟩; exact ⟨j, by omega, hd, hz, h1⟩
  · rintro ⟨j, hj, hd, hz, h1⟩
    by_cases e : j = i
    · exact absurd (e ▸ hz) (hs (e ▸ hd))
    · exact ⟨j, by omega, hd, hz, h1⟩
/-- what studySides has found of the sides before i -/
def fl_Stu (B : Int) (Sd : Nat → Prop) (sz : Nat → Int) (ct : Nat → Int32) (i : Nat) (m : Int) (ev so ce cs : Int32) : Prop :=
  (∀ j, j < i → Sd j → m ≤ sz j) ∧ ((m = B ∧ ∀ j, j < i → ¬ Sd j) ∨ ((∃ j, j < i ∧ Sd j ∧ sz j = m) ∧ fl_Ev Sd sz m nI i ev ∧ fl_So Sd sz m nI i so ∧ fl_Ev Sd sz m ct i ce ∧ fl_So Sd sz m ct i cs))
theorem fl_Stu0 {B : Int} {Sd : Nat → Prop} {sz : Nat → Int} {ct : Nat → Int32} {ev so ce cs : Int32} : fl_Stu B Sd sz ct 0 B ev so ce cs := ⟨fun j hj => by omega, Or.inl ⟨rfl, fun j hj => by omega⟩⟩
theorem fl_Stu1 {B : Int} {Sd : Nat → Prop} {sz : Nat → Int} {ct : Nat → Int32} {i : Nat} {m : Int} {ev so ce cs : Int32} (h : fl_Stu B Sd sz ct i m ev so ce cs) (hn : ¬ Sd i) : fl_Stu B Sd sz ct (i + 1) m ev so ce cs := by
  obtain ⟨h1, h2⟩ := h
  refine ⟨fun j hj hd => ?_, ?_⟩
  · by_cases e : j = i
    · exact absurd (e ▸ hd) hn
    · exact h1 j (by omega) hd
  · rcases h2 with ⟨h3, h4⟩ | ⟨⟨j, j1, j2, j3⟩, a, b, c, d⟩
    · refine Or.inl ⟨h3, fun j hj hd => ?_⟩
      by_cases e : j = i
      · exact absurd (e ▸ hd) hn
      · exact h4 j (by omega) hd
    · exact Or.inr ⟨⟨j, by omega, j2, j3⟩, fl_Ev_no a (fun z => absurd z hn), fl_So_no b (fun z => absurd z hn), fl_Ev_no c (fun z => absurd z hn), fl_So_no d (fun z => absurd z hn)⟩
theorem fl_Stu2 {B : Int} {Sd : Nat → Prop} {sz : Nat → Int} {ct : Nat → Int32} {i : Nat} {m : Int} {ev so ce cs : Int32} (h : fl_Stu B Sd sz ct i m ev so ce cs) (hs : Sd i) (hl : sz i < m) : fl_Stu B Sd sz ct (i + 1) (sz i) (nI i) (nI i) (ct i) (ct i) := by
  obtain ⟨h1, _⟩ := h
  refine ⟨fun j hj hd => ?_, Or.inr ⟨⟨i, by omega, hs, rfl⟩, fl_Ev_new h1 hs hl, fl_So_new h1 hs hl, fl_Ev_new h1 hs hl, fl_So_new h1 hs hl⟩⟩
  by_cases e : j = i
  · rw [e]; exact Int.le_refl _
  · have := h1 j (by omega) hd
    omega
theorem fl_Stu3 {B : Int} {Sd : Nat → Prop} {sz : Nat → Int} {ct : Nat → Int32} {i : Nat} {m : Int} {ev so ce cs : Int32} (h : fl_Stu B Sd sz ct i m ev so ce cs) (hs : Sd i) (hb : sz i < B) (he : sz i = m) : fl_Stu B Sd sz ct (i + 1) m (ev &&& nI i) (so ||| nI i) (ce &&& ct i) (cs ||| ct i) := by
  obtain ⟨h1, h2⟩ := h
  refine ⟨fun j hj hd => ?_, ?_⟩
  · by_cases e : j = i
    · rw [e, he]; exact Int.le_refl _
    · exact h1 j (by omega) hd
  · rcases h2 with ⟨h3, h4⟩ | ⟨⟨j, j1, j2, j3⟩, a, b, c, d⟩
    · omega
    · exact Or.inr ⟨⟨j, by omega, j2, j3⟩, fl_Ev_eq a hs he, fl_So_eq b hs he, fl_Ev_eq c hs he, fl_So_eq d hs he⟩
theorem fl_Stu4 {B : Int} {Sd : Nat → Prop} {sz : Nat → Int} {ct : Nat → Int32} {i : Nat} {m : Int} {ev so ce cs : Int32} (h : fl_Stu B Sd sz ct i m ev so ce cs) (hb : sz i < B) (hl : m < sz i) : fl_Stu B Sd sz ct (i + 1) m ev so ce cs := by
  obtain ⟨h1, h2⟩ := h
  refine ⟨fun j hj hd => ?_, ?_⟩
  · by_cases e : j = i
    · rw [e]; omega
    · exact h1 j (by omega) hd
  · rcases h2 with ⟨h3, h4⟩ | ⟨⟨j, j1, j2, j3⟩, a, b, c, d⟩
    · omega
    · exact Or.inr ⟨⟨j, by omega, j2, j3⟩, fl_Ev_no a (fun _ z => by omega), fl_So_no b (fun _ z => by omega), fl_Ev_no c (fun _ z => by omega), fl_So_no d (fun _ z => by omega)⟩
theorem fl_Stu_u {B B' : Int} {Sd : Nat → Prop} {sz : Nat → Int} {ct : Nat → Int32} {n : Nat} {m m' : Int} {ev so ce cs ev' so' ce' cs' : Int32} (h : fl_Stu B Sd sz ct n m ev so ce cs) (h' : fl_Stu B' Sd sz ct n m' ev' so' ce' cs') (hj : ∃ j, j < n ∧ Sd j) :
    m = m' ∧ ev = ev' ∧ so = so' ∧ ce = ce' ∧ cs = cs' := by
  obtain ⟨h1, h2⟩ := h
  obtain ⟨h1', h2'⟩ := h'
  obtain ⟨j, j1, j2⟩ := hj
  rcases h2 with ⟨_, h3⟩ | ⟨⟨i, i1, i2, i3⟩, a, b, c, d⟩
  · exact absurd j2 (h3 j j1)
  · rcases h2' with ⟨_, h3⟩ | ⟨⟨i', i1', i2', i3'⟩, a', b', c', d'⟩
    · exact absurd j2 (h3 j j1)
    · have e1 := h1 i' i1' i2'
      have e2 := h1' i i1 i2
      have e : m = m' := by omega
      subst e
      exact ⟨rfl, fl_Ev_u a a', fl_So_u b b', fl_Ev_u c c', fl_So_u d d'⟩
