theorem fl_bit1 {j : Nat} (h1 : 1 ≤ j) (h2 : j < 256) : ∃ s, s < 8 ∧ j.testBit s = true := by
  apply Classical.byContradiction
  intro hn
  have : j = 0 := Nat.eq_of_testBit_eq (fun i => by
    rw [Nat.zero_testBit]
    by_cases hi : i < 8
    · cases e : j.testBit i
      · rfl
      · exact absurd ⟨i, hi, e⟩ hn
    · have hp : 2 ^ 8 ≤ 2 ^ i := Nat.pow_le_pow_right (n := 2) (i := 8) (j := i) (by decide) (by omega)
      exact Nat.testBit_lt_two_pow (by omega))
  omega
theorem fl_255t : ∀ i, i < 8 → Nat.testBit 255 i = true := by decide
theorem fl_bit0 {j : Nat} (h2 : j < 255) : ∃ t, t < 8 ∧ j.testBit t = false := by
  apply Classical.byContradiction
  intro hn
  have : j = 255 := Nat.eq_of_testBit_eq (fun i => by
    by_cases hi : i < 8
    · rw [fl_255t i hi]
      cases e : j.testBit i
      · exact absurd ⟨i, hi, e⟩ hn
      · rfl
    · have hp : 2 ^ 8 ≤ 2 ^ i := Nat.pow_le_pow_right (n := 2) (i := 8) (j := i) (by decide) (by omega)
      rw [Nat.testBit_lt_two_pow (show j < 2 ^ i by omega), Nat.testBit_lt_two_pow (show 255 < 2 ^ i by omega)])
  omega
theorem fl_Sj_in {s t j : Nat} (ht : t < 8) (h : fl_Sj s t j) : 1 ≤ j ∧ j ≠ 255 := by
  constructor
  · apply Nat.pos_of_ne_zero
    intro z
    have h1 : j.testBit s = true := h.1
    rw [z, Nat.zero_testBit] at h1; cases h1
  · intro z
    have h1 : j.testBit t = false := h.2
    rw [z, fl_255t t ht] at h1; cases h1
def fl_Wk (sz : Nat → Int) (c : Nat) (x : Int) : Prop := x ≤ 10000 ∧ (x = 10000 ∨ ∃ j, j < 255 ∧ 1 ≤ j ∧ sz j = x) ∧ ∀ c', c' < c → c' / 8 ≠ c' % 8 → ∀ j, j < 256 → fl_Sj (c' / 8) (c' % 8) j → x ≤ sz j
theorem fl_Wk_end {sz : Nat → Int} {x : Int} (h : fl_Wk sz 64 x) : fl_Le (fun j => 1 ≤ j) sz 255 10000 x := by
  obtain ⟨h1, h2, h3⟩ := h
  refine ⟨h1, h2, fun j hj h4 => ?_⟩
  obtain ⟨s, hs, es⟩ := fl_bit1 h4 (by omega)
  obtain ⟨t, ht, et⟩ := fl_bit0 hj
  have hst : s ≠ t := fun z => by rw [z, et] at es; cases es
  have e1 : (s * 8 + t) / 8 = s := by omega
  have e2 : (s * 8 + t) % 8 = t := by omega
  exact h3 (s * 8 + t) (by omega) (by rw [e1, e2]; exact hst) j (by omega) (by rw [e1, e2]; exact ⟨es, et⟩)
theorem yw_weak_l {post : Int32 → SY → Prop} {a_there a_froms a_tos a_rooms : Nat → Int32} {pr : Int32} (hT : fl_Th pr a_there) (hN : fl_Net pr a_froms a_tos a_rooms)
    (h : ∀ (x m ev so cs ce : Int32), fl_Wk (fl_sz pr a_froms a_tos a_rooms 99) 64 x.toInt → post x (m, ev, so, cs, ce, a_there, a_froms, a_tos, a_rooms)) :
    ∀ (d c : Nat) (x m ev so cs ce : Int32), c + d = 64 → fl_Wk (fl_sz pr a_froms a_tos a_rooms 99) c x.toInt → wY_weakest_6 post (d + 1) x (nI c) m ev so cs ce a_there a_froms a_tos a_rooms := by
  intro d
  induction d with
  | zero =>
    intro c x m ev so cs ce hc hW
    have e : c = 64 := by omega
    subst e
    exact br_t (nI_le (a := 64) (b := 64) (by omega) (by decide)) (h x m ev so cs ce hW)
  | succ d ih =>
    intro c x m ev so cs ce hc hW
    have e1 : nI c - nI c / 8 * 8 = nI (c % 8) := pk_rem (d := 8) (by omega) (by omega) (by omega)
    have e2 : nI c / 8 = nI (c / 8) := pk_div (d := 8) (by omega) (by omega) (by omega)
    refine br_f (nI_ge (b := 64) (by omega) (by decide)) ⟨by decide, by decide, ?_⟩
    rw [e1, e2]
    refine yw_value hT hN (fun s t hs ht hst es et _ m2 ev2 so2 ce2 cs2 hS => ?_) (fun hn => br_t (by decide) (nm_r (nI_1 c) (ih (c + 1) x m ev so cs ce (by omega) ?_)))
    · rw [nI_eq (by omega) (by omega)] at es et
      obtain ⟨⟨j, j1, j2, j3⟩, hmin⟩ := fl_Stu_Mn hS (fl_side hs ht hst)
      have hb := fl_Cs_b (ext := 0) hN (show (0 : Int) ≤ 99 by decide) (fl_tb j)
      have hj3 : fl_Cs pr a_froms a_tos a_rooms 0 99 (fl_tb j) = m2.toInt := j3
      have hj := fl_Sj_in ht j2
      obtain ⟨w1, w2, w3⟩ := hW
      refine fl_cl (fun hl => ?_) (fun hl => fl_cle (fun hl2 => nm_r (nI_1 c) (ih (c + 1) x m2 ev2 so2 cs2 ce2 (by omega) ⟨w1, w2, fun c' hc' hne j hj hd => ?_⟩)) (fun hl2 => nm_r (nI_1 c) (ih (c + 1) m2 m2 ev2 so2 cs2 ce2 (by omega) ⟨by omega, Or.inr ⟨j, by omega, hj.1, j3⟩, fun c' hc' hne j hj hd => ?_⟩)))
      · rw [fl_z0] at hl; omega
      · by_cases e : c' = c
        · subst e
          rw [es, et] at hd
          have := hmin j hj hd
          omega
        · exact w3 c' (by omega) hne j hj hd
      · by_cases e : c' = c
        · subst e
          rw [es, et] at hd
          exact hmin j hj hd
        · have := w3 c' (by omega) hne j hj hd
          omega
    · obtain ⟨w1, w2, w3⟩ := hW
      refine ⟨w1, w2, fun c' hc' hne j hj hd => ?_⟩
      by_cases e : c' = c
      · subst e
        exact absurd ⟨⟨c' / 8, c' % 8, by omega, by omega, hne, rfl, rfl⟩, by decide, by decide⟩ hn
      · exact w3 c' (by omega) hne j hj hd
theorem yw_weak {post : Int32 → SY → Prop} {f_size f_common f_joined f_cutBySome f_cutByAll : Int32} {a_there a_froms a_tos a_rooms : Nat → Int32} {pr : Int32} (hT : fl_Th pr a_there) (hN : fl_Net pr a_froms a_tos a_rooms)
    (h : ∀ (x m ev so cs ce : Int32), fl_Wk (fl_sz pr a_froms a_tos a_rooms 99) 64 x.toInt → post x (m, ev, so, cs, ce, a_there, a_froms, a_tos, a_rooms)) : wpY_weakest post (f_size, f_common, f_joined, f_cutBySome, f_cutByAll, a_there, a_froms, a_tos, a_rooms) :=
  ⟨64 + 1, yw_weak_l hT hN h 64 0 10000 f_size f_common f_joined f_cutBySome f_cutByAll rfl ⟨by decide, Or.inl (by decide), fun c' hc' => by omega⟩⟩
