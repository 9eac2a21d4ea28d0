/-- the excess in S -/
def fl_ex (E : Nat → Int) (S : Nat → Bool) : Int := fl_S 16 (fun v => if S v then E v else 0)
theorem fl_ex_pu (E : Nat → Int) (S : Nat → Bool) {k : Nat} (x : Int) (hk : k < 16) : fl_ex (fl_pu E k x) S = fl_ex E S + (if S k then x - E k else 0) := by
  unfold fl_ex
  rw [fl_one (f := fun v => if S v then E v else 0) (g := fun v => if S v then fl_pu E k x v else 0) hk (fun i _ hi => by
    show (if S i then fl_pu E k x i else 0) = (if S i then E i else 0)
    rw [fl_pun hi])]
  show _ + ((if S k then fl_pu E k x k else 0) - (if S k then E k else 0)) = _
  rw [fl_pus]
  split <;> simp
def fl_pe (E : Nat → Int) (u v : Nat) (a : Int) : Nat → Int := fl_pu (fl_pu E u (E u - a)) v (fl_pu E u (E u - a) v + a)
theorem fl_ex_pe (E : Nat → Int) (S : Nat → Bool) {u v : Nat} (a : Int) (hu : u < 16) (hv : v < 16) : fl_ex (fl_pe E u v a) S = fl_ex E S - a * (fl_b (S u) - fl_b (S v)) := by
  unfold fl_pe
  rw [fl_ex_pu _ S _ hv, fl_ex_pu _ S _ hu]
  cases S u <;> cases S v <;> simp [fl_b] <;> omega
theorem fl_pe_at (E : Nat → Int) (u v x : Nat) (a : Int) : fl_pe E u v a x = E x - (if x = u then a else 0) + (if x = v then a else 0) := by
  unfold fl_pe fl_pu
  by_cases h1 : x = v
  · subst h1
    by_cases h2 : x = u
    · subst h2; simp
    · simp [h2]
  · by_cases h2 : x = u
    · subst h2; simp [h1]
    · simp [h1, h2]
def fl_Pf (C L E : Nat → Int) (s : Nat) : Prop := fl_ok L ∧ (∀ S, fl_cut L S - fl_ex E S = fl_cut C S) ∧ ∀ v, v < 16 → v ≠ s → 0 ≤ E v
theorem fl_Pf_tot {C L E : Nat → Int} {s : Nat} (h : fl_Pf C L E s) : fl_ex E (fun _ => true) = 0 := by
  have h1 := h.2.1 (fun _ => true)
  rw [fl_cut_0 (L := L) (fun _ _ _ _ _ z => by cases z), fl_cut_0 (L := C) (fun _ _ _ _ _ z => by cases z)] at h1
  omega
theorem fl_ex_one (E : Nat → Int) {s : Nat} (hs : s < 16) : fl_ex E (fun x => decide (x = s)) = E s := by
  unfold fl_ex
  rw [fl_one (f := fun _ => 0) (g := fun v => if decide (v = s) then E v else 0) hs (fun i _ hi => by simp [hi]), fl_const]
  simp
theorem fl_ex_nn {E : Nat → Int} {s : Nat} {S : Nat → Bool} (h : ∀ v, v < 16 → v ≠ s → 0 ≤ E v) (hS : S s = false) : ∀ i, i < 16 → 0 ≤ (fun v => if S v then E v else 0) i := by
  intro i hi
  show 0 ≤ (if S i then E i else 0)
  by_cases e : i = s
  · rw [e, hS]; simp
  · split
    · exact h i hi e
    · omega
theorem fl_E_b {C L E : Nat → Int} {s : Nat} (hs : s < 16) (h : fl_Pf C L E s) (hB : fl_cut C (fun x => decide (x = s)) ≤ 1980) : -1980 ≤ E s ∧ E s ≤ 0 ∧ ∀ v, v < 16 → v ≠ s → 0 ≤ E v ∧ E v ≤ 1980 := by
  have h1 := h.2.1 (fun x => decide (x = s))
  rw [fl_ex_one E hs] at h1
  have h2 := fl_ok_nn h.1 (fun x => decide (x = s))
  have h3 := fl_Pf_tot h
  have h4 := fl_one (n := 16) (k := s) (f := fun v => if (fun _ => true) v then E v else 0) (g := fun v => if (fun x => !decide (x = s)) v then E v else 0) hs (fun i _ hi => by simp [hi])
  have h5 : fl_S 16 (fun v => if (fun _ => true) v then E v else 0) = 0 := h3
  rw [h5] at h4
  have h6 : (fun v => if (fun x => !decide (x = s)) v then E v else 0) s - (fun v => if (fun (_ : Nat) => true) v then E v else 0) s = - E s := by simp
  rw [h6] at h4
  have nn := fl_ex_nn (S := fun x => !decide (x = s)) h.2.2 (by simp)
  have h7 := fl_nonneg nn
  rw [h4] at h7
  refine ⟨by omega, by omega, fun v hv hvs => ⟨h.2.2 v hv hvs, ?_⟩⟩
  have h8 := fl_ge1 nn hv
  rw [h4] at h8
  have h9 : (if (!decide (v = s)) = true then E v else 0) = E v := by simp [hvs]
  rw [h9] at h8; omega
theorem fl_P0 {C E : Nat → Int} {s : Nat} (hC : fl_ok C) (hE : ∀ v, v < 16 → E v = 0) : fl_Pf C C E s := by
  refine ⟨hC, fun S => ?_, fun v hv _ => by rw [hE v hv]; omega⟩
  have : fl_ex E S = 0 := fl_zero (fun i hi => by
    show (if S i then E i else 0) = 0
    rw [hE i hi]; simp)
  omega
theorem fl_P1 {C L E : Nat → Int} {s u v : Nat} {a : Int} (h : fl_Pf C L E s) (hu : u < 16) (hv : v < 16) (h0 : 0 ≤ a) (ha : a ≤ L (u * 16 + v)) (he : u ≠ s → a ≤ E u) : fl_Pf C (fl_mv L u v a) (fl_pe E u v a) s := by
  refine ⟨fl_ok_mv h.1 hu hv h0 ha, fun S => ?_, fun x hx hxs => ?_⟩
  · rw [fl_cut_mv L S a hu hv, fl_ex_pe E S a hu hv]
    have := h.2.1 S
    omega
  · rw [fl_pe_at]
    have := h.2.2 x hx hxs
    by_cases e : x = u
    · have := he (e ▸ hxs)
      rw [if_pos e, e] at *
      split <;> omega
    · rw [if_neg e]
      split <;> omega
def fl_Hv (L H : Nat → Int) (s t : Nat) : Prop := H s = 16 ∧ H t = 0 ∧ (∀ v, v < 16 → 0 ≤ H v ∧ H v ≤ 31) ∧ ∀ u, u < 16 → ∀ v, v < 16 → 0 < L (u * 16 + v) → H u ≤ H v + 1
theorem fl_del (x b : Int) (n : Nat) : fl_S n (fun j => if x = b + (j : Int) then 1 else 0) = if b ≤ x ∧ x < b + (n : Int) then 1 else 0 := by
  induction n with
  | zero =>
    rw [fl_S0, if_neg (by omega)]
  | succ n ih =>
    rw [fl_Ss, ih]
    by_cases e : x = b + (n : Int)
    · rw [if_pos e, if_neg (by omega), if_pos (by omega)]; rfl
    · rw [if_neg e]
      by_cases e2 : b ≤ x ∧ x < b + (n : Int)
      · rw [if_pos e2, if_pos (by omega)]; rfl
      · rw [if_neg e2, if_neg (by omega)]; rfl
/-- of fifteen heights one is free, if two of sixteen nodes stand elsewhere -/
theorem fl_gap {h : Nat → Int} {b : Int} {s t : Nat} (hs : s < 16) (ht : t < 16) (hst : s ≠ t) (h1 : h s < b ∨ b + 15 ≤ h s) (h2 : h t < b ∨ b + 15 ≤ h t) : ∃ k, b ≤ k ∧ k < b + 15 ∧ ∀ v, v < 16 → h v ≠ k := by
  apply Classical.byContradiction
  intro hno
  have hall : ∀ j : Nat, j < 15 → ∃ v, v < 16 ∧ h v = b + (j : Int) := by
    intro j hj
    apply Classical.byContradiction
    intro hn
    exact hno ⟨b + (j : Int), by omega, by omega, fun v hv z => hn ⟨v, hv, z⟩⟩
  have g1 : fl_S 15 (fun _ => 1) ≤ fl_S 15 (fun j => fl_S 16 (fun v => if h v = b + (j : Int) then 1 else 0)) := by
    refine fl_le (fun j hj => ?_)
    obtain ⟨v, hv, hvj⟩ := hall j hj
    have := fl_ge1 (n := 16) (k := v) (f := fun v => if h v = b + (j : Int) then (1 : Int) else 0) (fun i _ => by
      show (0 : Int) ≤ (if h i = b + (j : Int) then 1 else 0)
      split <;> omega) hv
    rw [if_pos hvj] at this; exact this
  rw [fl_swap 15 16 (fun j v => if h v = b + (j : Int) then 1 else 0)] at g1
  have g2 : fl_S 16 (fun v => fl_S 15 (fun j => if h v = b + (j : Int) then 1 else 0)) ≤ fl_S 16 (fun v => if v = s ∨ v = t then 0 else 1) := by
    refine fl_le (fun v hv => ?_)
    show fl_S 15 (fun j => if h v = b + (j : Int) then 1 else 0) ≤ (if v = s ∨ v = t then 0 else 1)
    rw [fl_del]
    by_cases e : v = s ∨ v = t
    · rw [if_pos e]
      have : ¬ (b ≤ h v ∧ h v < b + ((15 : Nat) : Int)) := by
        rcases e with rfl | rfl <;> omega
      rw [if_neg this]; omega
    · rw [if_neg e]; split <;> omega
  have g3 : fl_S 16 (fun v => if v = s ∨ v = t then (0 : Int) else 1) = 14 := by
    rw [fl_one (n := 16) (k := s) (f := fun v => if v = t then (0 : Int) else 1) (g := fun v => if v = s ∨ v = t then (0 : Int) else 1) hs (fun i _ hi => by simp [hi])]
    rw [fl_one (n := 16) (k := t) (f := fun _ => (1 : Int)) (g := fun v => if v = t then (0 : Int) else 1) ht (fun i _ hi => if_neg hi), fl_const]
    simp [hst]
  rw [fl_const] at g1
  omega
theorem fl_gapcut {L H : Nat → Int} {k : Int} (hok : fl_ok L) (hv : ∀ u, u < 16 → ∀ v, v < 16 → 0 < L (u * 16 + v) → H u ≤ H v + 1) (hk : ∀ v, v < 16 → H v ≠ k) : fl_cut L (fun v => decide (k < H v)) = 0 := by
  refine fl_cut_0 (fun u hu v hv1 h1 h2 => ?_)
  have h3 : k < H u := by simpa using h1
  have h4 : ¬ k < H v := by simpa using h2
  have h5 := hk v hv1
  have h6 := (hok u hu v hv1).1
  have h7 := hv u hu v hv1
  by_cases e : 0 < L (u * 16 + v)
  · have := h7 e
    omega
  · omega
theorem fl_P2 {C L E H : Nat → Int} {s u : Nat} (hC : fl_ok C) (h : fl_Pf C L E s) (hs : s < 16) (hu : u < 16) (hus : u ≠ s) (hE : 0 < E u) (hHs : H s = 16) (hv : ∀ u, u < 16 → ∀ v, v < 16 → 0 < L (u * 16 + v) → H u ≤ H v + 1) : H u ≤ 31 := by
  apply Classical.byContradiction
  intro hn
  obtain ⟨k, k1, k2, k3⟩ := fl_gap (h := H) (b := 17) hs hu (Ne.symm hus) (by omega) (by omega)
  have c0 := fl_gapcut h.1 hv k3
  have c1 := h.2.1 (fun v => decide (k < H v))
  have c2 := fl_ok_nn hC (fun v => decide (k < H v))
  have nn := fl_ex_nn (S := fun v => decide (k < H v)) h.2.2 (by simp; omega)
  have c3 := fl_ge1 nn hu
  have c4 : (if decide (k < H u) = true then E u else 0) = E u := by
    have : k < H u := by omega
    simp [this]
  rw [c4] at c3
  have c5 : fl_S 16 (fun v => if decide (k < H v) = true then E v else 0) = fl_ex E (fun v => decide (k < H v)) := rfl
  rw [c5] at c3; omega
theorem fl_ex_two {E : Nat → Int} {s t : Nat} {S : Nat → Bool} (hs : s < 16) (h : ∀ v, v < 16 → v ≠ s → v ≠ t → E v = 0) (h1 : S s = true) (h2 : S t = false) : fl_ex E S = E s := by
  unfold fl_ex
  rw [fl_one (n := 16) (k := s) (f := fun _ => 0) (g := fun v => if S v then E v else 0) hs (fun i hi hn => by
    show (if S i then E i else 0) = 0
    by_cases e : i = t
    · rw [e, h2]; simp
    · rw [h i hi hn e]; simp), fl_const]
  simp [h1]
theorem fl_P3 {C L E H : Nat → Int} {s t : Nat} (h : fl_Pf C L E s) (hH : fl_Hv L H s t) (hs : s < 16) (ht : t < 16) (hst : s ≠ t) (h0 : ∀ v, v < 16 → v ≠ s → v ≠ t → E v = 0) : fl_Min C s t (E t) := by
  obtain ⟨k, k1, k2, k3⟩ := fl_gap (h := H) (b := 1) hs ht hst (by have := hH.1; omega) (by have := hH.2.1; omega)
  have c0 := fl_gapcut h.1 hH.2.2.2 k3
  have tot := fl_Pf_tot h
  have tot2 : fl_ex E (fun _ => true) = E s + E t := by
    unfold fl_ex
    rw [fl_one (n := 16) (k := t) (f := fun v => if (fun x => !decide (x = t)) v then E v else 0) (g := fun v => if (fun (_ : Nat) => true) v then E v else 0) ht (fun i _ hi => by simp [hi])]
    have e1 : fl_S 16 (fun v => if (fun x => !decide (x = t)) v then E v else 0) = E s := fl_ex_two (S := fun x => !decide (x = t)) hs h0 (by simp [hst]) (by simp)
    rw [e1]; simp
  refine ⟨⟨fun v => decide (k < H v), ⟨by have := hH.1; simp; omega, by have := hH.2.1; simp; omega⟩, ?_⟩, fun S hS => ?_⟩
  · have c1 := h.2.1 (fun v => decide (k < H v))
    rw [fl_ex_two (t := t) hs h0 (by have := hH.1; simp; omega) (by have := hH.2.1; simp; omega)] at c1
    omega
  · have c1 := h.2.1 S
    rw [fl_ex_two hs h0 hS.1 hS.2] at c1
    have := fl_ok_nn h.1 S
    omega
def fl_ph (H E : Nat → Int) (s t : Nat) : Int := fl_S 16 (fun v => if v = s ∨ v = t then 0 else (31 - H v) * 1981 + E v * H v)
theorem fl_ph_nn {H E : Nat → Int} {s t : Nat} (hH : ∀ v, v < 16 → 0 ≤ H v ∧ H v ≤ 31) (hE : ∀ v, v < 16 → v ≠ s → 0 ≤ E v) : 0 ≤ fl_ph H E s t := by
  refine fl_nonneg (fun i hi => ?_)
  show 0 ≤ (if i = s ∨ i = t then 0 else (31 - H i) * 1981 + E i * H i)
  split
  · omega
  · next e =>
    have h1 := hH i hi
    have h2 := Int.mul_nonneg (hE i hi (fun z => e (Or.inl z))) h1.1
    omega
theorem fl_ph_0 {H E : Nat → Int} {s t : Nat} (hH : ∀ v, v < 16 → v ≠ s → H v = 0) : fl_ph H E s t ≤ 982576 := by
  have := fl_le (n := 16) (f := fun v => if v = s ∨ v = t then 0 else (31 - H v) * 1981 + E v * H v) (g := fun _ => 61411) (fun i hi => by
    show (if i = s ∨ i = t then 0 else (31 - H i) * 1981 + E i * H i) ≤ 61411
    split
    · omega
    · next e =>
      rw [hH i hi (fun z => e (Or.inl z))]; simp)
  rw [fl_const] at this
  exact this
theorem fl_ph_E {H E : Nat → Int} {s t k : Nat} (x : Int) (hk : k < 16) : fl_ph H (fl_pu E k x) s t = fl_ph H E s t + (if k = s ∨ k = t then 0 else (x - E k) * H k) := by
  unfold fl_ph
  rw [fl_one (n := 16) (k := k) (f := fun v => if v = s ∨ v = t then 0 else (31 - H v) * 1981 + E v * H v) (g := fun v => if v = s ∨ v = t then 0 else (31 - H v) * 1981 + fl_pu E k x v * H v) hk (fun i _ hi => by
    show (if i = s ∨ i = t then 0 else (31 - H i) * 1981 + fl_pu E k x i * H i) = (if i = s ∨ i = t then 0 else (31 - H i) * 1981 + E i * H i)
    rw [fl_pun hi])]
  show _ + ((if k = s ∨ k = t then 0 else (31 - H k) * 1981 + fl_pu E k x k * H k) - (if k = s ∨ k = t then 0 else (31 - H k) * 1981 + E k * H k)) = _
  rw [fl_pus]
  split
  · omega
  · have := Int.sub_mul x (E k) (H k)
    omega
theorem fl_ph_H {H E : Nat → Int} {s t k : Nat} (x : Int) (hk : k < 16) (h1 : k ≠ s) (h2 : k ≠ t) : fl_ph (fl_pu H k x) E s t = fl_ph H E s t - (x - H k) * (1981 - E k) := by
  unfold fl_ph
  rw [fl_one (n := 16) (k := k) (f := fun v => if v = s ∨ v = t then 0 else (31 - H v) * 1981 + E v * H v) (g := fun v => if v = s ∨ v = t then 0 else (31 - fl_pu H k x v) * 1981 + E v * fl_pu H k x v) hk (fun i _ hi => by
    show (if i = s ∨ i = t then 0 else (31 - fl_pu H k x i) * 1981 + E i * fl_pu H k x i) = (if i = s ∨ i = t then 0 else (31 - H i) * 1981 + E i * H i)
    rw [fl_pun hi])]
  show _ + ((if k = s ∨ k = t then 0 else (31 - fl_pu H k x k) * 1981 + E k * fl_pu H k x k) - (if k = s ∨ k = t then 0 else (31 - H k) * 1981 + E k * H k)) = _
  have hn : ¬ (k = s ∨ k = t) := by omega
  rw [fl_pus, if_neg hn, if_neg hn]
  have e1 := Int.mul_sub (x - H k) 1981 (E k)
  have e2 := Int.sub_mul x (H k) (E k)
  have e3 := Int.mul_comm (E k) x
  have e4 := Int.mul_comm (E k) (H k)
  omega
theorem fl_P4 {C L E H : Nat → Int} {s t u : Nat} {m : Int} (hC : fl_ok C) (h : fl_Pf C L E s) (hH : fl_Hv L H s t) (hs : s < 16) (hB : fl_cut C (fun x => decide (x = s)) ≤ 1980) (hu : u < 16) (hus : u ≠ s) (hut : u ≠ t) (hE : 0 < E u)
    (hn : ∀ v, v < 16 → H u = H v + 1 → ¬ 0 < L (u * 16 + v)) (h1 : ∀ v, v < 16 → 0 < L (u * 16 + v) → m ≤ H v) (h2 : m = 32 ∨ ∃ v, v < 16 ∧ 0 < L (u * 16 + v) ∧ m = H v) :
    fl_Hv L (fl_pu H u (m + 1)) s t ∧ fl_ph (fl_pu H u (m + 1)) E s t ≤ fl_ph H E s t - 1 := by
  obtain ⟨a1, a2, a3, a4⟩ := hH
  have hm : H u ≤ m := by
    rcases h2 with h2 | ⟨v, v1, v2, v3⟩
    · have := a3 u hu
      omega
    · have e1 := hn v v1
      have e2 := a4 u hu v v1 v2
      by_cases e3 : H u = H v + 1
      · exact absurd v2 (e1 e3)
      · omega
  have val : ∀ x, x < 16 → ∀ y, y < 16 → 0 < L (x * 16 + y) → fl_pu H u (m + 1) x ≤ fl_pu H u (m + 1) y + 1 := by
    intro x hx y hy hL
    by_cases ex : x = u
    · subst ex
      rw [fl_pus]
      by_cases ey : y = x
      · rw [ey, fl_pus]; omega
      · rw [fl_pun ey]
        have := h1 y hy hL
        omega
    · rw [fl_pun ex]
      have e1 := a4 x hx y hy hL
      by_cases ey : y = u
      · rw [ey, fl_pus]; rw [ey] at e1; omega
      · rw [fl_pun ey]; exact e1
  have hs1 : fl_pu H u (m + 1) s = 16 := by rw [fl_pun (Ne.symm hus)]; exact a1
  have h31 := fl_P2 hC h hs hu hus hE hs1 val
  rw [fl_pus] at h31
  refine ⟨⟨hs1, by rw [fl_pun (Ne.symm hut)]; exact a2, fun v hv => ?_, val⟩, ?_⟩
  · by_cases ev : v = u
    · rw [ev, fl_pus]
      have := a3 u hu
      omega
    · rw [fl_pun ev]; exact a3 v hv
  · rw [fl_ph_H _ hu hus hut]
    have hb := (fl_E_b hs h hB).2.2 u hu hus
    have := Int.mul_pos (a := m + 1 - H u) (b := 1981 - E u) (by omega) (by omega)
    omega
theorem fl_P5 {C L E H : Nat → Int} {s t u v : Nat} {a : Int} (h : fl_Pf C L E s) (hH : fl_Hv L H s t) (hu : u < 16) (hv : v < 16) (hus : u ≠ s) (hut : u ≠ t) (hd : H u = H v + 1) (h1 : 1 ≤ a) (h2 : a ≤ E u) (h3 : a ≤ L (u * 16 + v)) :
    fl_Pf C (fl_mv L u v a) (fl_pe E u v a) s ∧ fl_Hv (fl_mv L u v a) H s t ∧ fl_ph H (fl_pe E u v a) s t ≤ fl_ph H E s t - 1 := by
  obtain ⟨a1, a2, a3, a4⟩ := hH
  have huv : v ≠ u := fun z => by rw [z] at hd; omega
  refine ⟨fl_P1 h hu hv (by omega) h3 (fun _ => h2), ⟨a1, a2, a3, fun x hx y hy hL => ?_⟩, ?_⟩
  · rw [fl_mv_at a hu hv hx hy] at hL
    by_cases e : x = v ∧ y = u
    · rw [e.1, e.2]; omega
    · rw [if_neg e] at hL
      refine a4 x hx y hy ?_
      split at hL <;> omega
  · unfold fl_pe
    rw [fl_ph_E _ hv, fl_ph_E _ hu, fl_pun huv, if_neg (show ¬ (u = s ∨ u = t) by omega)]
    have e1 : (E u - a - E u) * H u = - (a * H u) := by
      rw [show E u - a - E u = -a by omega, Int.neg_mul]
    have e2 : (E v + a - E v) * H v = a * H v := by
      rw [show E v + a - E v = a by omega]
    have e3 : a * H u = a * H v + a := by rw [hd, Int.mul_add, Int.mul_one]
    have e4 := Int.mul_nonneg (show 0 ≤ a by omega) (a3 v hv).1
    rw [e1, e2]
    split <;> omega
theorem fl_P6 {C L E : Nat → Int} {s i : Nat} (h : fl_Pf C L E s) (hs : s < 16) (hi : i < 16) (h0 : ∀ w, w < i → w ≠ s → L (s * 16 + w) = 0) :
    fl_Pf C (fl_mv L s i (L (s * 16 + i))) (fl_pe E s i (L (s * 16 + i))) s ∧ ∀ w, w < i + 1 → w ≠ s → fl_mv L s i (L (s * 16 + i)) (s * 16 + w) = 0 := by
  refine ⟨fl_P1 h hs hi (h.1 s hs i hi).1 (Int.le_refl _) (fun z => absurd rfl z), fun w hw hws => ?_⟩
  rw [fl_mv_at _ hs hi hs (by omega), if_neg (show ¬ (s = i ∧ w = s) by omega)]
  by_cases e : w = i
  · subst e; simp
  · rw [if_neg (by omega), h0 w (by omega) hws]; rfl
theorem fl_P7 {L H : Nat → Int} {s t : Nat} (hst : s ≠ t) (ht : t < 16) (h0 : ∀ w, w < 16 → w ≠ s → L (s * 16 + w) = 0) (hs : H s = 16) (hH : ∀ v, v < 16 → v ≠ s → H v = 0) : fl_Hv L H s t := by
  refine ⟨hs, hH t ht (Ne.symm hst), fun v hv => ?_, fun u hu v hv hL => ?_⟩
  · by_cases e : v = s
    · rw [e, hs]; omega
    · rw [hH v hv e]; omega
  · by_cases e : v = s
    · rw [e, hs]
      by_cases e2 : u = s
      · rw [e2, hs]; omega
      · rw [hH u hu e2]; omega
    · by_cases e2 : u = s
      · rw [e2, h0 v hv e] at hL; omega
      · rw [hH u hu e2, hH v hv e]; omega
