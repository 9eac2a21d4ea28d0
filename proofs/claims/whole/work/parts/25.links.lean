/-- x is the least of sz over D below n -/
def fl_Mn (D : Nat → Prop) (sz : Nat → Int) (n : Nat) (x : Int) : Prop := (∃ j, j < n ∧ D j ∧ sz j = x) ∧ ∀ j, j < n → D j → x ≤ sz j
theorem fl_Mn_u {D : Nat → Prop} {sz : Nat → Int} {n : Nat} {x y : Int} (h : fl_Mn D sz n x) (h' : fl_Mn D sz n y) : x = y := by
  obtain ⟨⟨j, j1, j2, j3⟩, h2⟩ := h
  obtain ⟨⟨i, i1, i2, i3⟩, h2'⟩ := h'
  have := h2 i i1 i2
  have := h2' j j1 j2
  omega
theorem fl_Le_Mn {D : Nat → Prop} {sz : Nat → Int} {n : Nat} {B x : Int} (h : fl_Le D sz n B x) (hB : ∃ j, j < n ∧ D j ∧ sz j ≤ B) : fl_Mn D sz n x := by
  obtain ⟨h1, h2, h3⟩ := h
  refine ⟨?_, h3⟩
  rcases h2 with rfl | h2
  · obtain ⟨j, j1, j2, j3⟩ := hB
    have := h3 j j1 j2
    exact ⟨j, j1, j2, by omega⟩
  · exact h2
theorem fl_Stu_Mn {B : Int} {Sd : Nat → Prop} {sz : Nat → Int} {ct : Nat → Int32} {n : Nat} {m : Int} {ev so ce cs : Int32} (h : fl_Stu B Sd sz ct n m ev so ce cs) (hj : ∃ j, j < n ∧ Sd j) : fl_Mn Sd sz n m := by
  obtain ⟨h1, h2⟩ := h
  refine ⟨?_, h1⟩
  rcases h2 with ⟨_, h3⟩ | ⟨h3, _⟩
  · obtain ⟨j, j1, j2⟩ := hj
    exact absurd j2 (h3 j j1)
  · exact h3
theorem fl_side {s t : Nat} (hs : s < 8) (ht : t < 8) (hst : s ≠ t) : ∃ j, j < 256 ∧ fl_Sj s t j := by
  obtain ⟨j, hj, h⟩ := fl_mask (fun p => decide (p = s)) 8
  refine ⟨j, hj, ?_, ?_⟩
  · show j.testBit s = true
    rw [h s hs]; simp
  · show j.testBit t = false
    rw [h t ht]; simp; exact Ne.symm hst
theorem fl_Mc_Mn {pr : Int32} {st en rm : Nat → Int32} {most x : Int} {s t : Nat} (hN : fl_Net pr st en rm) (hs : s < 8) (ht : t < 8) (h : fl_Mc (fl_Cs pr st en rm 0 most) s t x) : fl_Mn (fl_Sj s t) (fl_sz pr st en rm most) 256 x := by
  obtain ⟨⟨S, h1, h2⟩, h3⟩ := h
  refine ⟨?_, fun j _ hd => h3 (fl_tb j) hd⟩
  obtain ⟨j, hj, hb⟩ := fl_mask S 8
  refine ⟨j, hj, ⟨?_, ?_⟩, ?_⟩
  · show j.testBit s = true
    rw [hb s hs]; exact h1.1
  · show j.testBit t = false
    rw [hb t ht]; exact h1.2
  · rw [← h2]
    exact fl_Cg_congr hN (fun p hp => hb p hp) (fun p hp => hb p hp)
theorem fl_Cg_20 {pr : Int32} {st en rm : Nat → Int32} {O I : Nat → Bool} : fl_Cg pr st en rm 1 O I ≤ 20 := by
  have := fl_le (n := 20) (f := fun k => if fl_cf pr st en O I k = true then (if fl_v rm k < 1 then fl_v rm k else 1) else 0) (g := fun _ => 1) (fun j hj => by
    show (if fl_cf pr st en O I j = true then (if fl_v rm j < 1 then fl_v rm j else 1) else 0) ≤ (1 : Int)
    split
    · split <;> omega
    · decide)
  rw [fl_const] at this
  exact this
theorem fl_ps_b {much : Int} (hm : 0 ≤ much ∧ much ≤ 99) (S : Nat → Bool) : fl_ps much S 8 ≤ 792 := by
  have := fl_le (n := 8) (f := fun p => if S p && !S (p + 8) then much else 0) (g := fun _ => 99) (fun j hj => by
    show (if S j && !S (j + 8) then much else 0) ≤ (99 : Int)
    split <;> omega)
  rw [fl_const] at this
  exact this
theorem fl_part {pr : Int32} {st en rm : Nat → Int32} {most much x y : Int} {s t : Nat} (hN : fl_Net pr st en rm) (hs : s < 8) (ht : t < 8) (hst : s ≠ t) (hmo : 0 ≤ most) (hm : 0 ≤ much ∧ much ≤ 99)
    (hX : fl_Mc (fun S => fl_Cs pr st en rm 8 most S + fl_ps much S 8) (s + 8) t x) (hY : fl_Le (fun c => fl_Vd s t c 8) (fl_pz pr st en rm most much) 6561 10000 y) : x = y := by
  obtain ⟨⟨S, h1, h2⟩, h3⟩ := hX
  obtain ⟨y1, y2, y3⟩ := hY
  have hA : ∀ c, fl_Vd s t c 8 → x ≤ fl_pz pr st en rm most much c := by
    intro c hV
    have hd : ∀ p, fl_dg c p < 3 := fun p => Nat.mod_lt _ (by decide)
    have k1 : ∀ p, (fun q => if q < 8 then fl_in c q else fl_out c (q - 8)) (p + 8) = fl_out c p := fun p => by
      show (if p + 8 < 8 then fl_in c (p + 8) else fl_out c (p + 8 - 8)) = fl_out c p
      rw [if_neg (by omega), Nat.add_sub_cancel]
    have k2 : ∀ p, p < 8 → (fun q => if q < 8 then fl_in c q else fl_out c (q - 8)) p = fl_in c p := fun p hp => if_pos hp
    have h4 := h3 (fun q => if q < 8 then fl_in c q else fl_out c (q - 8)) ⟨by
      rw [k1 s]; exact decide_eq_true ((hV s hs).1 rfl), by
      rw [k2 t ht]
      have := (hV t ht).2 rfl
      show decide (0 < fl_dg c t) = false
      simp [this]⟩
    have e1 : fl_Cs pr st en rm 8 most (fun q => if q < 8 then fl_in c q else fl_out c (q - 8)) = fl_Cg pr st en rm most (fl_out c) (fl_in c) := by
      rw [fl_Cs_g]
      exact fl_Cg_congr hN (fun p _ => k1 p) (fun p hp => k2 p hp)
    have e2 : fl_ps much (fun q => if q < 8 then fl_in c q else fl_out c (q - 8)) 8 = fl_pn much c 8 := by
      refine fl_congr (fun p hp => ?_)
      show (if ((fun q => if q < 8 then fl_in c q else fl_out c (q - 8)) p && !(fun q => if q < 8 then fl_in c q else fl_out c (q - 8)) (p + 8)) = true then much else 0) = (if fl_dg c p = 1 then much else 0)
      rw [k1 p, k2 p hp]
      have hd3 := hd p
      by_cases e : fl_dg c p = 1
      · rw [if_pos e, if_pos]
        show (decide (0 < fl_dg c p) && !decide (fl_dg c p = 2)) = true
        simp [e]
      · rw [if_neg e, if_neg]
        show ¬ (decide (0 < fl_dg c p) && !decide (fl_dg c p = 2)) = true
        simp; omega
    have h5 : x ≤ fl_Cs pr st en rm 8 most (fun q => if q < 8 then fl_in c q else fl_out c (q - 8)) + fl_ps much (fun q => if q < 8 then fl_in c q else fl_out c (q - 8)) 8 := h4
    rw [e1, e2] at h5
    have e3 : fl_pz pr st en rm most much c = fl_pn much c 8 + fl_Cg pr st en rm most (fl_out c) (fl_in c) := rfl
    omega
  have hB : ∃ c, c < 6561 ∧ fl_Vd s t c 8 ∧ fl_pz pr st en rm most much c ≤ x := by
    obtain ⟨c, hc, hg⟩ := fl_code 8 (fun p => if p = t then 0 else if S (p + 8) = true then 2 else if S p = true then 1 else 0) (fun p _ => by
      show (if p = t then 0 else if S (p + 8) = true then 2 else if S p = true then 1 else 0) < 3
      split
      · decide
      · split
        · decide
        · split <;> decide)
    have g1 : ∀ p, p < 8 → fl_dg c p = (if p = t then 0 else if S (p + 8) = true then 2 else if S p = true then 1 else 0) := hg
    refine ⟨c, hc, fun b hb => ⟨fun e => ?_, fun e => ?_⟩, ?_⟩
    · rw [g1 b hb, e, if_neg hst, if_pos h1.1]
    · rw [g1 b hb, if_pos e]
    · have h4 : fl_Cs pr st en rm 8 most S + fl_ps much S 8 = x := h2
      have h5 : fl_pn much c 8 ≤ fl_ps much S 8 := by
        refine fl_le (fun p hp => ?_)
        show (if fl_dg c p = 1 then much else 0) ≤ (if (S p && !S (p + 8)) = true then much else 0)
        rw [g1 p hp]
        by_cases a1 : p = t
        · rw [if_pos a1]; simp; split <;> omega
        · rw [if_neg a1]
          cases a2 : S (p + 8)
          · cases a3 : S p
            · simp
            · simp
          · simp
      have h6 : fl_Cg pr st en rm most (fl_out c) (fl_in c) ≤ fl_Cs pr st en rm 8 most S := by
        rw [fl_Cs_g]
        refine fl_le (fun k hk => ?_)
        show (if fl_cf pr st en (fl_out c) (fl_in c) k = true then (if fl_v rm k < most then fl_v rm k else most) else 0) ≤ (if fl_cf pr st en (fun p => S (p + 8)) S k = true then (if fl_v rm k < most then fl_v rm k else most) else 0)
        by_cases a : fl_cf pr st en (fl_out c) (fl_in c) k = true
        · have a0 : (bt pr k && (fl_out c (fl_st st k) && !fl_in c (fl_st en k))) = true := a
          rw [Bool.and_eq_true, Bool.and_eq_true] at a0
          have n1 := hN k hk a0.1
          have o1 : fl_dg c (fl_st st k) = 2 := by
            have := a0.2.1
            exact of_decide_eq_true this
          have i1 : fl_dg c (fl_st en k) = 0 := by
            have z : (!decide (0 < fl_dg c (fl_st en k))) = true := a0.2.2
            simp at z; exact z
          rw [g1 _ n1.1.2] at o1
          rw [g1 _ n1.2.1.2] at i1
          have o2 : S (fl_st st k + 8) = true := by
            by_cases a1 : fl_st st k = t
            · rw [if_pos a1] at o1; cases o1
            · rw [if_neg a1] at o1
              cases a2 : S (fl_st st k + 8)
              · rw [a2] at o1
                cases a3 : S (fl_st st k) <;> simp [a3] at o1
              · rfl
          have i2 : S (fl_st en k) = false := by
            by_cases a1 : fl_st en k = t
            · rw [a1]; exact h1.2
            · rw [if_neg a1] at i1
              cases a2 : S (fl_st en k + 8)
              · rw [a2] at i1
                cases a3 : S (fl_st en k)
                · rfl
                · simp [a3] at i1
              · rw [a2] at i1; simp at i1
          have b : fl_cf pr st en (fun p => S (p + 8)) S k = true := by
            show (bt pr k && (S (fl_st st k + 8) && !S (fl_st en k))) = true
            rw [a0.1, o2, i2]; rfl
          rw [if_pos a, if_pos b]; exact Int.le_refl _
        · rw [if_neg a]
          by_cases b : fl_cf pr st en (fun p => S (p + 8)) S k = true
          · rw [if_pos b]
            have b0 : (bt pr k && (S (fl_st st k + 8) && !S (fl_st en k))) = true := b
            rw [Bool.and_eq_true] at b0
            have n1 := (hN k hk b0.1).2.2
            split <;> omega
          · rw [if_neg b]; exact Int.le_refl _
      have e3 : fl_pz pr st en rm most much c = fl_pn much c 8 + fl_Cg pr st en rm most (fl_out c) (fl_in c) := rfl
      omega
  obtain ⟨c, c1, c2, c3⟩ := hB
  have l1 : y ≤ x := by
    have := y3 c c1 c2
    omega
  have l2 : x ≤ y := by
    rcases y2 with e | ⟨c', c1', c2', c3'⟩
    · have h4 : fl_Cs pr st en rm 8 most S + fl_ps much S 8 = x := h2
      have h5 := (fl_Cs_b (ext := 8) hN hmo S).2
      have h6 := fl_ps_b hm S
      omega
    · have := hA c' c2'
      omega
  omega
