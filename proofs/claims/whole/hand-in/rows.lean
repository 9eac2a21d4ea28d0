section
theorem pk_us {f : Nat → Int32} {k : Nat} {x : Int32} : upd f k x k = x := if_pos rfl
theorem pk_un {f : Nat → Int32} {k j : Nat} {x : Int32} (h : j ≠ k) : upd f k x j = f j := if_neg h
theorem pk_sub {a b : Nat} (h : b ≤ a) : nI a - nI b = nI (a - b) := by
  obtain ⟨c, rfl⟩ : ∃ c, a = c + b := ⟨a - b, by omega⟩
  rw [← nI_add, Int32.add_sub_cancel, Nat.add_sub_cancel]
theorem pk_m1 (n : Nat) : nI (n + 1) + (-1) = nI n := by
  rw [← nI_1, Int32.add_assoc, show (1 : Int32) + (-1) = 0 from rfl, Int32.add_zero]
theorem pk_mul (a b : Nat) : nI a * nI b = nI (a * b) := (Int32.ofNat_mul a b).symm
theorem pk_div {a d : Nat} (ha : a < 2 ^ 31) (h0 : 0 < d) (hd : d < 2 ^ 31) : nI a / nI d = nI (a / d) := by
  apply Int32.toInt_inj.mp
  rw [lg_idiv_nonneg (by rw [nI_toInt ha]; omega) (by rw [nI_toInt hd]; omega), nI_toInt ha, nI_toInt hd, nI_toInt (Nat.lt_of_le_of_lt (Nat.div_le_self a d) ha)]
  first | rfl | exact (Int.natCast_ediv _ _).symm
theorem pk_rem {a d : Nat} (ha : a < 2 ^ 31) (h0 : 0 < d) (hd : d < 2 ^ 31) : nI a - nI a / nI d * nI d = nI (a % d) := by
  rw [pk_div ha h0 hd, pk_mul, pk_sub (Nat.div_mul_le_self a d)]
  exact congrArg nI (by have := Nat.div_add_mod' a d; omega)
theorem pk_ix (x : Int32) {n : Nat} (hn : n < 2 ^ 31) : x < 0 ∨ nI n ≤ x ∨ ∃ j : Nat, j < n ∧ x = nI j := by
  by_cases h : x < 0
  · exact Or.inl h
  · obtain ⟨j, hj, rfl⟩ := nI_of h
    by_cases h2 : j < n
    · exact Or.inr (Or.inr ⟨j, h2, rfl⟩)
    · exact Or.inr (Or.inl (nI_le (by omega) hj))
theorem pk_le {x y : Int32} {A B : Prop} (a b : Nat) (f : a ≤ b → A) (g : b < a → B) (hx : x = nI a := by rfl) (hy : y = nI b := by rfl) (ha : a < 2 ^ 31 := by omega) (hb : b < 2 ^ 31 := by omega) : (x ≤ y → A) ∧ (¬ x ≤ y → B) := by
  subst hx hy
  rw [nI_leI ha hb]
  exact ⟨f, fun z => g (by omega)⟩
theorem pk_lt {x y : Int32} {A B : Prop} (a b : Nat) (f : a < b → A) (g : b ≤ a → B) (hx : x = nI a := by rfl) (hy : y = nI b := by rfl) (ha : a < 2 ^ 31 := by omega) (hb : b < 2 ^ 31 := by omega) : (x < y → A) ∧ (¬ x < y → B) := by
  subst hx hy
  rw [nI_ltI ha hb]
  exact ⟨f, fun z => g (by omega)⟩
theorem pk_eq {x y : Int32} {A B : Prop} (a b : Nat) (f : a = b → A) (g : a ≠ b → B) (hx : x = nI a := by rfl) (hy : y = nI b := by rfl) (ha : a < 2 ^ 31 := by omega) (hb : b < 2 ^ 31 := by omega) : (x = y → A) ∧ (¬ x = y → B) := by
  subst hx hy
  rw [nI_eq ha hb]
  exact ⟨f, g⟩
theorem pk_in {x : Int32} (n N : Nat) (h : n < N) (hx : x = nI n := by rfl) (hN : N < 2 ^ 31 := by omega) : vp_in x N := by
  subst hx
  exact vp_in_nI h hN
theorem pk_cl {x : Int32} (n : Nat) (hx : x = nI n := by rfl) (h : n < 2 ^ 31 := by omega) : x.toNatClampNeg = n := by
  subst hx
  exact nI_clamp h
theorem pk_loop {σ : Type} (W : Nat → Nat → σ → Prop) (I : Nat → σ → Prop) (e i0 : Nat) (s : σ) (hi : i0 ≤ e) (h0 : I i0 s) (hx : ∀ n s, I e s → W (n + 1) e s)
    (hs : ∀ n i s, i < e → I i s → (∀ s', I (i + 1) s' → W n (i + 1) s') → W (n + 1) i s) : ∃ n, W n i0 s :=
  ⟨e + 1, loop_i W I e hx hs (e + 1) i0 s hi (by omega) h0⟩
def bt (x : Int32) (i : Nat) : Bool := x.toBitVec.getLsbD i
theorem b_ext {x y : Int32} (h : ∀ i, i < 32 → bt x i = bt y i) : x = y := Int32.toBitVec_inj.mp (BitVec.eq_of_getLsbD_eq (fun i hi => h i hi))
theorem b_or (x y : Int32) (i : Nat) : bt (x ||| y) i = (bt x i || bt y i) := by unfold bt; rw [Int32.toBitVec_or, BitVec.getLsbD_or]
theorem b_and (x y : Int32) (i : Nat) : bt (x &&& y) i = (bt x i && bt y i) := by unfold bt; rw [Int32.toBitVec_and, BitVec.getLsbD_and]
theorem b_xor (x y : Int32) (i : Nat) : bt (x ^^^ y) i = (bt x i ^^ bt y i) := by unfold bt; rw [Int32.toBitVec_xor, BitVec.getLsbD_xor]
theorem b_big {x : Int32} {i : Nat} (h : 32 ≤ i) : bt x i = false := BitVec.getLsbD_of_ge _ _ h
theorem b_m1 : ∀ i, i < 32 → bt (-1) i = true := by decide +kernel
theorem b_0 (i : Nat) : bt 0 i = false := BitVec.getLsbD_zero
theorem s_l : ∀ n, n < 32 → ((nI n &&& 31).toBitVec.smod 32).toNat = n := by decide +kernel
theorem b_shl (n : Nat) (hn : n < 32) (x : Int32) {i : Nat} (hi : i < 32) : bt (x <<< (nI n &&& 31)) i = (decide (n ≤ i) && bt x (i - n)) := by
  unfold bt
  rw [Int32.toBitVec_shiftLeft]
  show (x.toBitVec <<< ((nI n &&& 31).toBitVec.smod 32).toNat).getLsbD i = _
  rw [s_l n hn, BitVec.getLsbD_shiftLeft]
  rcases Nat.lt_or_ge i n with h | h
  · simp [h, Nat.not_le.mpr h]
  · simp [hi, h, Nat.not_lt.mpr h]
theorem b_sshr (n : Nat) (hn : n < 32) (x : Int32) {i : Nat} (hi : i < 32) : bt (x >>> (nI n &&& 31)) i = if n + i < 32 then bt x (n + i) else bt x 31 := by
  unfold bt
  rw [Int32.toBitVec_shiftRight]
  show (x.toBitVec.sshiftRight ((nI n &&& 31).toBitVec.smod 32).toNat).getLsbD i = _
  rw [s_l n hn, BitVec.getLsbD_sshiftRight, BitVec.msb_eq_getLsbD_last]
  simp [hi]
theorem fl_tadd {x y : Int32} (h1 : -2147483648 ≤ x.toInt + y.toInt) (h2 : x.toInt + y.toInt < 2147483648) : (x + y).toInt = x.toInt + y.toInt := by
  rw [Int32.toInt_add]
  exact Int.bmod_eq_of_le (by omega) (by omega)
theorem fl_tsub {x y : Int32} (h1 : -2147483648 ≤ x.toInt - y.toInt) (h2 : x.toInt - y.toInt < 2147483648) : (x - y).toInt = x.toInt - y.toInt := by
  rw [Int32.toInt_sub]
  exact Int.bmod_eq_of_le (by omega) (by omega)
theorem fl_tn {x : Int32} {n : Nat} (h : x.toInt = (n : Int)) (hn : n < 2 ^ 31) : x = nI n := Int32.toInt_inj.mp (by rw [h, nI_toInt hn])
theorem fl_t1 {x : Int32} (h : x.toInt = -1) : x = -1 := Int32.toInt_inj.mp (by rw [h]; decide)
theorem fl_t0 {x : Int32} (h : x.toInt = 0) : x = 0 := Int32.toInt_inj.mp (by rw [h]; decide)
theorem fl_cl {x y : Int32} {A B : Prop} (f : x.toInt < y.toInt → A) (g : ¬ x.toInt < y.toInt → B) : (x < y → A) ∧ (¬ x < y → B) := by
  rw [Int32.lt_iff_toInt_lt]; exact ⟨f, g⟩
theorem fl_cle {x y : Int32} {A B : Prop} (f : x.toInt ≤ y.toInt → A) (g : ¬ x.toInt ≤ y.toInt → B) : (x ≤ y → A) ∧ (¬ x ≤ y → B) := by
  rw [Int32.le_iff_toInt_le]; exact ⟨f, g⟩
theorem fl_ce {x y : Int32} {A B : Prop} (f : x.toInt = y.toInt → A) (g : ¬ x.toInt = y.toInt → B) : (x = y → A) ∧ (¬ x = y → B) := by
  rw [← Int32.toInt_inj]; exact ⟨f, g⟩
theorem fl_ix (u v : Nat) : nI u * 16 + nI v = nI (u * 16 + v) := by
  rw [← nI_add, ← pk_mul]; rfl
theorem fl_ixc {u v : Nat} (hu : u < 16) (hv : v < 16) : (nI u * 16 + nI v).toNatClampNeg = u * 16 + v := by
  rw [fl_ix]; exact nI_clamp (by omega)
theorem fl_ixi {u v : Nat} (hu : u < 16) (hv : v < 16) : vp_in (nI u * 16 + nI v) 256 := by
  rw [fl_ix]; exact vp_in_nI (by omega) (by omega)
theorem fl_bit {x : Int32} {j : Nat} (hj : j < 32) : ((x >>> (nI j &&& 31)) &&& 1 = 1 ↔ bt x j = true) ∧ ((x >>> (nI j &&& 31)) &&& 1 = 0 ↔ bt x j = false) := by
  have h1 : ∀ i, i < 32 → bt 1 i = decide (i = 0) := by decide +kernel
  have key : (x >>> (nI j &&& 31)) &&& 1 = if bt x j = true then 1 else 0 := by
    apply b_ext
    intro i hi
    rw [b_and, b_sshr j hj x hi, h1 i hi]
    by_cases e : i = 0
    · subst e
      rw [if_pos (by omega)]
      by_cases hb : bt x j = true
      · rw [if_pos hb, h1 0 (by omega)]; simpa using hb
      · rw [if_neg hb, b_0]; simpa using hb
    · rw [decide_eq_false e, Bool.and_false]
      split
      · rw [h1 i hi, decide_eq_false e]
      · rw [b_0]
  rw [key]
  cases bt x j
  · simp
  · simp
theorem fl_sh1 {k i : Nat} (hk : k < 32) (hi : i < 32) : bt ((1 : Int32) <<< (nI k &&& 31)) i = decide (i = k) := by
  have h1 : ∀ i, i < 32 → bt 1 i = decide (i = 0) := by decide +kernel
  rw [b_shl k hk 1 hi, h1 (i - k) (by omega)]
  by_cases e : i = k
  · subst e; simp
  · by_cases e2 : k ≤ i
    · simp [e]; omega
    · simp [e, e2]
end
section
/-- f 0 + .. + f (n - 1) -/
def fl_S : Nat → (Nat → Int) → Int
  | 0, _ => 0
  | n + 1, f => fl_S n f + f n
theorem fl_S0 (f : Nat → Int) : fl_S 0 f = 0 := rfl
theorem fl_Ss (n : Nat) (f : Nat → Int) : fl_S (n + 1) f = fl_S n f + f n := rfl
theorem fl_congr {n : Nat} {f g : Nat → Int} (h : ∀ i, i < n → f i = g i) : fl_S n f = fl_S n g := by
  induction n with
  | zero => rfl
  | succ n ih => rw [fl_Ss, fl_Ss, ih (fun i hi => h i (by omega)), h n (by omega)]
theorem fl_le {n : Nat} {f g : Nat → Int} (h : ∀ i, i < n → f i ≤ g i) : fl_S n f ≤ fl_S n g := by
  induction n with
  | zero => exact Int.le_refl _
  | succ n ih =>
    have h1 := ih (fun i hi => h i (by omega))
    have h2 := h n (by omega)
    rw [fl_Ss, fl_Ss]; omega
theorem fl_const (n : Nat) (c : Int) : fl_S n (fun _ => c) = (n : Int) * c := by
  induction n with
  | zero => simp [fl_S0]
  | succ n ih => rw [fl_Ss, ih, Int.natCast_add, Int.add_mul]; simp
theorem fl_zero {n : Nat} {f : Nat → Int} (h : ∀ i, i < n → f i = 0) : fl_S n f = 0 := by
  rw [fl_congr (g := fun _ => 0) h, fl_const]; simp
theorem fl_nonneg {n : Nat} {f : Nat → Int} (h : ∀ i, i < n → 0 ≤ f i) : 0 ≤ fl_S n f := by
  have := fl_le (f := fun _ => 0) (g := f) h
  rw [fl_const] at this; simpa using this
theorem fl_nonpos {n : Nat} {f : Nat → Int} (h : ∀ i, i < n → f i ≤ 0) : fl_S n f ≤ 0 := by
  have := fl_le (f := f) (g := fun _ => 0) h
  rw [fl_const] at this; simpa using this
theorem fl_add (n : Nat) (f g : Nat → Int) : fl_S n (fun i => f i + g i) = fl_S n f + fl_S n g := by
  induction n with
  | zero => rfl
  | succ n ih => rw [fl_Ss, fl_Ss, fl_Ss, ih]; omega
theorem fl_one {n k : Nat} {f g : Nat → Int} (hk : k < n) (h : ∀ i, i < n → i ≠ k → g i = f i) : fl_S n g = fl_S n f + (g k - f k) := by
  induction n with
  | zero => omega
  | succ n ih =>
    rw [fl_Ss, fl_Ss]
    by_cases e : k = n
    · subst e
      rw [fl_congr (f := g) (g := f) (fun i hi => h i (by omega) (by omega))]; omega
    · rw [ih (by omega) (fun i hi => h i (by omega)), h n (by omega) (by omega)]; omega
theorem fl_ge1 {n k : Nat} {f : Nat → Int} (h : ∀ i, i < n → 0 ≤ f i) (hk : k < n) : f k ≤ fl_S n f := by
  have h1 := fl_one (f := f) (g := fun i => if i = k then 0 else f i) hk (fun i _ hi => if_neg hi)
  have h2 : 0 ≤ fl_S n (fun i => if i = k then 0 else f i) := fl_nonneg (fun i hi => by
    show 0 ≤ (if i = k then 0 else f i)
    split
    · omega
    · exact h i hi)
  rw [h1] at h2
  rw [if_pos rfl] at h2; omega
theorem fl_swap (n m : Nat) (f : Nat → Nat → Int) : fl_S n (fun i => fl_S m (fun j => f i j)) = fl_S m (fun j => fl_S n (fun i => f i j)) := by
  induction n with
  | zero => exact (fl_zero (fun _ _ => rfl)).symm
  | succ n ih =>
    rw [fl_Ss, ih, ← fl_add]; exact fl_congr (fun j _ => rfl)
/-- the function with x at k -/
def fl_pu (L : Nat → Int) (k : Nat) (x : Int) : Nat → Int := fun j => if j = k then x else L j
theorem fl_pus {L : Nat → Int} {k : Nat} {x : Int} : fl_pu L k x k = x := if_pos rfl
theorem fl_pun {L : Nat → Int} {k j : Nat} {x : Int} (h : j ≠ k) : fl_pu L k x j = L j := if_neg h
/-- an array's ints -/
def fl_v (a : Nat → Int32) : Nat → Int := fun i => (a i).toInt
theorem fl_vu (a : Nat → Int32) (k : Nat) (x : Int32) : fl_v (upd a k x) = fl_pu (fl_v a) k x.toInt := by
  funext j
  show (upd a k x j).toInt = if j = k then x.toInt else (a j).toInt
  unfold upd
  split <;> rfl
/-- what leaves S by L -/
def fl_cut (L : Nat → Int) (S : Nat → Bool) : Int := fl_S 256 (fun i => if S (i / 16) && !S (i % 16) then L i else 0)
theorem fl_cut_pu (L : Nat → Int) (S : Nat → Bool) {k : Nat} (x : Int) (hk : k < 256) : fl_cut (fl_pu L k x) S = fl_cut L S + (if S (k / 16) && !S (k % 16) then x - L k else 0) := by
  unfold fl_cut
  rw [fl_one (f := fun i => if S (i / 16) && !S (i % 16) then L i else 0) (g := fun i => if S (i / 16) && !S (i % 16) then fl_pu L k x i else 0) hk (fun i _ hi => by
    show (if S (i / 16) && !S (i % 16) then fl_pu L k x i else 0) = (if S (i / 16) && !S (i % 16) then L i else 0)
    rw [fl_pun hi])]
  show _ + ((if S (k / 16) && !S (k % 16) then fl_pu L k x k else 0) - (if S (k / 16) && !S (k % 16) then L k else 0)) = _
  rw [fl_pus]
  split <;> simp
theorem fl_cut_0 {L : Nat → Int} {S : Nat → Bool} (h : ∀ u, u < 16 → ∀ v, v < 16 → S u = true → S v = false → L (u * 16 + v) = 0) : fl_cut L S = 0 := by
  refine fl_zero (fun i hi => ?_)
  show (if S (i / 16) && !S (i % 16) then L i else 0) = 0
  split
  · next e =>
    rw [Bool.and_eq_true] at e
    have := h (i / 16) (by omega) (i % 16) (by omega) e.1 (by simpa using e.2)
    have e2 : i / 16 * 16 + i % 16 = i := by omega
    rw [e2] at this; exact this
  · rfl
theorem fl_cut_nn {L : Nat → Int} {S : Nat → Bool} (h : ∀ u, u < 16 → ∀ v, v < 16 → 0 ≤ L (u * 16 + v)) : 0 ≤ fl_cut L S := by
  refine fl_nonneg (fun i hi => ?_)
  show 0 ≤ (if S (i / 16) && !S (i % 16) then L i else 0)
  split
  · have := h (i / 16) (by omega) (i % 16) (by omega)
    have e2 : i / 16 * 16 + i % 16 = i := by omega
    rw [e2] at this; exact this
  · exact Int.le_refl _
def fl_b (b : Bool) : Int := if b then 1 else 0
/-- a goes from u to v: what is left there, and back -/
def fl_mv (L : Nat → Int) (u v : Nat) (a : Int) : Nat → Int :=
  fl_pu (fl_pu L (u * 16 + v) (L (u * 16 + v) - a)) (v * 16 + u) (fl_pu L (u * 16 + v) (L (u * 16 + v) - a) (v * 16 + u) + a)
theorem fl_cut_mv (L : Nat → Int) (S : Nat → Bool) {u v : Nat} (a : Int) (hu : u < 16) (hv : v < 16) : fl_cut (fl_mv L u v a) S = fl_cut L S - a * (fl_b (S u) - fl_b (S v)) := by
  unfold fl_mv
  rw [fl_cut_pu _ S _ (by omega), fl_cut_pu _ S _ (by omega)]
  have e1 : (u * 16 + v) / 16 = u := by omega
  have e2 : (u * 16 + v) % 16 = v := by omega
  have e3 : (v * 16 + u) / 16 = v := by omega
  have e4 : (v * 16 + u) % 16 = u := by omega
  rw [e1, e2, e3, e4]
  cases S u <;> cases S v <;> simp [fl_b] <;> omega
theorem fl_mv_at {L : Nat → Int} {u v x y : Nat} (a : Int) (hu : u < 16) (hv : v < 16) (hx : x < 16) (hy : y < 16) :
    fl_mv L u v a (x * 16 + y) = L (x * 16 + y) - (if x = u ∧ y = v then a else 0) + (if x = v ∧ y = u then a else 0) := by
  unfold fl_mv fl_pu
  have e1 : x * 16 + y = v * 16 + u ↔ x = v ∧ y = u := by omega
  have e2 : x * 16 + y = u * 16 + v ↔ x = u ∧ y = v := by omega
  have e3 : v * 16 + u = u * 16 + v ↔ u = v := by omega
  by_cases h1 : x = v ∧ y = u
  · obtain ⟨rfl, rfl⟩ := h1
    by_cases h3 : y = x
    · subst h3; simp
    · simp [e3, h3]
  · by_cases h2 : x = u ∧ y = v
    · obtain ⟨rfl, rfl⟩ := h2
      have h4 : ¬ (x * 16 + y = y * 16 + x) := by omega
      simp [h4, h1]
    · simp [e1, e2, h1, h2]
/-- what is left is no less than 0, and a pair's sum is small -/
def fl_ok (L : Nat → Int) : Prop := ∀ u, u < 16 → ∀ v, v < 16 → 0 ≤ L (u * 16 + v) ∧ L (u * 16 + v) + L (v * 16 + u) ≤ 4000
theorem fl_ok_le {L : Nat → Int} (h : fl_ok L) {u v : Nat} (hu : u < 16) (hv : v < 16) : 0 ≤ L (u * 16 + v) ∧ L (u * 16 + v) ≤ 4000 := by
  have h1 := h u hu v hv
  have h2 := h v hv u hu
  omega
theorem fl_ok_mv {L : Nat → Int} (h : fl_ok L) {u v : Nat} (hu : u < 16) (hv : v < 16) {a : Int} (h0 : 0 ≤ a) (ha : a ≤ L (u * 16 + v)) : fl_ok (fl_mv L u v a) := by
  intro x hx y hy
  rw [fl_mv_at a hu hv hx hy, fl_mv_at a hu hv hy hx]
  have h1 := h x hx y hy
  have h2 := h y hy x hx
  by_cases e1 : x = u ∧ y = v
  · obtain ⟨rfl, rfl⟩ := e1
    by_cases e2 : x = y
    · subst e2; simp; omega
    · have : ¬ (y = x ∧ x = y) := by omega
      have : ¬ (x = y ∧ y = x) := by omega
      simp [*]; omega
  · by_cases e2 : x = v ∧ y = u
    · obtain ⟨rfl, rfl⟩ := e2
      have e3 : ¬ x = y := by omega
      have : ¬ (y = x ∧ x = y) := by omega
      have : ¬ (x = y ∧ y = x) := by omega
      simp [*]; omega
    · have e3 : ¬ (y = u ∧ x = v) := by omega
      have e4 : ¬ (y = v ∧ x = u) := by omega
      simp [e1, e2, e3, e4]; omega
theorem fl_ok_nn {L : Nat → Int} (h : fl_ok L) (S : Nat → Bool) : 0 ≤ fl_cut L S := fl_cut_nn (fun u hu v hv => (h u hu v hv).1)
end
section
/-- S holds s and not t -/
def fl_Sd (S : Nat → Bool) (s t : Nat) : Prop := S s = true ∧ S t = false
/-- the least size of a side -/
def fl_Min (C : Nat → Int) (s t : Nat) (x : Int) : Prop := (∃ S, fl_Sd S s t ∧ fl_cut C S = x) ∧ ∀ S, fl_Sd S s t → x ≤ fl_cut C S
theorem fl_Min_u {C : Nat → Int} {s t : Nat} {x y : Int} (hx : fl_Min C s t x) (hy : fl_Min C s t y) : x = y := by
  obtain ⟨⟨S, hS, rfl⟩, h1⟩ := hx
  obtain ⟨⟨T, hT, rfl⟩, h2⟩ := hy
  have := h1 T hT
  have := h2 S hS
  omega
/-- x has gone from s to t, and L is left -/
def fl_Inv (C L : Nat → Int) (s t : Nat) (x : Int) : Prop := fl_ok L ∧ ∀ S, fl_Sd S s t → x + fl_cut L S = fl_cut C S
/-- no way of at least g from s to t -/
def fl_Non (L : Nat → Int) (s t : Nat) (g : Int) : Prop := ∃ A : Nat → Bool, fl_Sd A s t ∧ ∀ u, u < 16 → ∀ v, v < 16 → A u = true → A v = false → L (u * 16 + v) < g
theorem fl_end {C L : Nat → Int} {s t : Nat} {x : Int} (h : fl_Inv C L s t x) (hn : fl_Non L s t 1) : fl_Min C s t x := by
  obtain ⟨hok, hc⟩ := h
  obtain ⟨A, hA, hz⟩ := hn
  have h0 : fl_cut L A = 0 := fl_cut_0 (fun u hu v hv h1 h2 => by
    have := hz u hu v hv h1 h2
    have := (hok u hu v hv).1
    omega)
  refine ⟨⟨A, hA, ?_⟩, fun S hS => ?_⟩
  · have := hc A hA
    omega
  · have := hc S hS
    have := fl_ok_nn hok S
    omega
theorem fl_Inv_le {C L : Nat → Int} {s t : Nat} {x B : Int} (h : fl_Inv C L s t x) (hB : ∃ S, fl_Sd S s t ∧ fl_cut C S ≤ B) : x ≤ B := by
  obtain ⟨S, hS, hb⟩ := hB
  have := h.2 S hS
  have := fl_ok_nn h.1 S
  omega
/-- the way back from t by F: c 0 = t .. c m = s -/
def fl_Ch (L F : Nat → Int) (s t : Nat) (g : Int) (m : Nat) (c : Nat → Nat) : Prop :=
  m ≤ 15 ∧ c 0 = t ∧ c m = s ∧ (∀ j, j ≤ m → c j < 16) ∧ (∀ i j, i < j → j ≤ m → c i ≠ c j) ∧
  ∀ j, j < m → F (c j) = (c (j + 1) : Int) ∧ g ≤ L (c (j + 1) * 16 + c j)
theorem fl_Ch_ns {L F : Nat → Int} {s t : Nat} {g : Int} {m : Nat} {c : Nat → Nat} (h : fl_Ch L F s t g m c) {j : Nat} (hj : j < m) : c j ≠ s := by
  obtain ⟨_, _, h3, _, h5, _⟩ := h
  rw [← h3]; exact h5 j m hj (Nat.le_refl _)
/-- a tree of ways back: d falls along F -/
def fl_Fd (L F : Nat → Int) (s t : Nat) (g : Int) : Prop := ∃ d : Nat → Nat, d t ≤ 15 ∧
  ∀ v, v < 16 → d v ≤ 15 → v ≠ s → ∃ u : Nat, u < 16 ∧ F v = (u : Int) ∧ d u < d v ∧ g ≤ L (u * 16 + v)
theorem fl_Fd_Ch {L F : Nat → Int} {s t : Nat} {g : Int} (ht : t < 16) (h : fl_Fd L F s t g) : ∃ (m : Nat) (c : Nat → Nat), fl_Ch L F s t g m c := by
  obtain ⟨d, hd, hT⟩ := h
  have key : ∀ n v, v < 16 → d v = n → n ≤ 15 → ∃ (m : Nat) (c : Nat → Nat), m ≤ n ∧ c 0 = v ∧ c m = s ∧ (∀ j, j ≤ m → c j < 16) ∧ (∀ i j, i < j → j ≤ m → d (c j) < d (c i)) ∧
      ∀ j, j < m → F (c j) = (c (j + 1) : Int) ∧ g ≤ L (c (j + 1) * 16 + c j) := by
    intro n
    induction n using Nat.strongRecOn with
    | ind n ih =>
      intro v hv hn h15
      by_cases e : v = s
      · exact ⟨0, fun _ => v, by omega, rfl, e, fun j _ => hv, fun i j h1 h2 => by omega, fun j hj => by omega⟩
      · obtain ⟨u, hu, hF, hlt, hg⟩ := hT v hv (by omega) e
        obtain ⟨m, c, h1, h2, h3, h4, h5, h6⟩ := ih (d u) (by omega) u hu rfl (by omega)
        refine ⟨m + 1, fun j => if j = 0 then v else c (j - 1), by omega, rfl, ?_, ?_, ?_, ?_⟩
        · show (if m + 1 = 0 then v else c (m + 1 - 1)) = s
          rw [if_neg (by omega)]; exact h3
        · intro j hj
          show (if j = 0 then v else c (j - 1)) < 16
          split
          · exact hv
          · exact h4 _ (by omega)
        · intro i j hij hj
          show d (if j = 0 then v else c (j - 1)) < d (if i = 0 then v else c (i - 1))
          rw [if_neg (show ¬ j = 0 by omega)]
          by_cases ei : i = 0
          · rw [if_pos ei]
            by_cases ej : j = 1
            · subst ej; show d (c 0) < d v; rw [h2]; exact hlt
            · have := h5 0 (j - 1) (by omega) (by omega)
              rw [h2] at this; omega
          · rw [if_neg ei]; exact h5 (i - 1) (j - 1) (by omega) (by omega)
        · intro j hj
          show F (if j = 0 then v else c (j - 1)) = ((if j + 1 = 0 then v else c (j + 1 - 1) : Nat) : Int) ∧ g ≤ L ((if j + 1 = 0 then v else c (j + 1 - 1)) * 16 + (if j = 0 then v else c (j - 1)))
          rw [if_neg (show ¬ j + 1 = 0 by omega), Nat.add_sub_cancel]
          by_cases ej : j = 0
          · subst ej; rw [if_pos rfl, h2]; exact ⟨hF, hg⟩
          · rw [if_neg ej]
            have := h6 (j - 1) (by omega)
            rw [show j - 1 + 1 = j by omega] at this
            exact this
  obtain ⟨m, c, h1, h2, h3, h4, h5, h6⟩ := key (d t) t ht rfl hd
  refine ⟨m, c, by omega, h2, h3, h4, fun i j hij hj e => ?_, h6⟩
  have := h5 i j hij hj
  rw [e] at this; omega
/-- L after j steps of the way back have been filled with a -/
def fl_ms (L : Nat → Int) (c : Nat → Nat) (a : Int) : Nat → Nat → Int
  | 0 => L
  | j + 1 => fl_mv (fl_ms L c a j) (c (j + 1)) (c j) a
theorem fl_ms_cut (L : Nat → Int) (c : Nat → Nat) (a : Int) (S : Nat → Bool) {m : Nat} (hc : ∀ j, j ≤ m → c j < 16) : ∀ j, j ≤ m → fl_cut (fl_ms L c a j) S = fl_cut L S - a * (fl_b (S (c j)) - fl_b (S (c 0))) := by
  intro j
  induction j with
  | zero => intro _; show fl_cut L S = _; rw [Int.sub_self, Int.mul_zero, Int.sub_zero]
  | succ j ih =>
    intro hj
    show fl_cut (fl_mv (fl_ms L c a j) (c (j + 1)) (c j) a) S = _
    rw [fl_cut_mv _ S a (hc _ hj) (hc _ (by omega)), ih (by omega)]
    cases S (c (j + 1)) <;> cases S (c j) <;> cases S (c 0) <;> simp [fl_b] <;> omega
theorem fl_ms_at {L F : Nat → Int} {s t : Nat} {g : Int} {m : Nat} {c : Nat → Nat} (h : fl_Ch L F s t g m c) (a : Int) : ∀ j, j ≤ m → ∀ k, j ≤ k → k < m → fl_ms L c a j (c (k + 1) * 16 + c k) = L (c (k + 1) * 16 + c k) := by
  obtain ⟨_, _, _, h4, h5, _⟩ := h
  intro j
  induction j with
  | zero => intro _ k _ _; rfl
  | succ j ih =>
    intro hj k hk hm
    show fl_mv (fl_ms L c a j) (c (j + 1)) (c j) a _ = _
    rw [fl_mv_at a (h4 _ (by omega)) (h4 _ (by omega)) (h4 _ (by omega)) (h4 _ (by omega)), ih (by omega) k (by omega) hm]
    have n1 : ¬ (c (k + 1) = c (j + 1) ∧ c k = c j) := fun z => h5 j k (by omega) (by omega) z.2.symm
    have n2 : ¬ (c (k + 1) = c j ∧ c k = c (j + 1)) := fun z => h5 j (k + 1) (by omega) (by omega) z.1.symm
    rw [if_neg n1, if_neg n2]; omega
theorem fl_ms_ok {L F : Nat → Int} {s t : Nat} {g : Int} {m : Nat} {c : Nat → Nat} (h : fl_Ch L F s t g m c) (hok : fl_ok L) {a : Int} (h0 : 0 ≤ a) (ha : ∀ j, j < m → a ≤ L (c (j + 1) * 16 + c j)) : ∀ j, j ≤ m → fl_ok (fl_ms L c a j) := by
  intro j
  induction j with
  | zero => intro _; exact hok
  | succ j ih =>
    intro hj
    refine fl_ok_mv (ih (by omega)) (h.2.2.2.1 _ hj) (h.2.2.2.1 _ (by omega)) h0 ?_
    rw [fl_ms_at h a j (by omega) j (Nat.le_refl _) (by omega)]
    exact ha j (by omega)
theorem fl_ms_res {L F : Nat → Int} {s t : Nat} {g : Int} {m : Nat} {c : Nat → Nat} (h : fl_Ch L F s t g m c) {a : Int} (h0 : 0 ≤ a) : ∀ j, j ≤ m → ∀ x, x < 16 → ∀ y, y < 16 → 0 < fl_ms L c a j (x * 16 + y) → 0 < L (x * 16 + y) ∨ ∃ k, k < m ∧ x = c k ∧ y = c (k + 1) := by
  intro j
  induction j with
  | zero => intro _ x _ y _ hp; exact Or.inl hp
  | succ j ih =>
    intro hj x hx y hy hp
    by_cases e : x = c j ∧ y = c (j + 1)
    · exact Or.inr ⟨j, by omega, e⟩
    · refine ih (by omega) x hx y hy ?_
      have hp2 : 0 < fl_mv (fl_ms L c a j) (c (j + 1)) (c j) a (x * 16 + y) := hp
      rw [fl_mv_at a (h.2.2.2.1 _ hj) (h.2.2.2.1 _ (by omega)) hx hy, if_neg e] at hp2
      split at hp2 <;> omega
theorem fl_fill {C L F : Nat → Int} {s t : Nat} {g x : Int} {m : Nat} {c : Nat → Nat} (h : fl_Ch L F s t g m c) (hI : fl_Inv C L s t x) {a : Int} (h0 : 0 ≤ a) (ha : ∀ j, j < m → a ≤ L (c (j + 1) * 16 + c j)) : fl_Inv C (fl_ms L c a m) s t (x + a) := by
  refine ⟨fl_ms_ok h hI.1 h0 ha m (Nat.le_refl _), fun S hS => ?_⟩
  rw [fl_ms_cut L c a S h.2.2.2.1 m (Nat.le_refl _), h.2.2.1, h.2.1, hS.1, hS.2]
  have := hI.2 S hS
  simp [fl_b]; omega
end
section
/-- how many nodes are unseen -/
def fl_un (F : Nat → Int) : Int := fl_S 16 (fun v => if F v = -1 then 1 else 0)
theorem fl_un_nn (F : Nat → Int) : 0 ≤ fl_un F := fl_nonneg (fun i _ => by
  show (0 : Int) ≤ (if F i = -1 then 1 else 0)
  split <;> omega)
theorem fl_un_put {F : Nat → Int} {v : Nat} {x : Int} (hv : v < 16) (h : F v = -1) (hx : x ≠ -1) : fl_un (fl_pu F v x) = fl_un F - 1 := by
  unfold fl_un
  rw [fl_one (f := fun v => if F v = -1 then 1 else 0) (g := fun i => if fl_pu F v x i = -1 then 1 else 0) hv (fun i _ hi => by
    show (if fl_pu F v x i = -1 then (1 : Int) else 0) = (if F i = -1 then 1 else 0)
    rw [fl_pun hi])]
  show _ + ((if fl_pu F v x v = -1 then (1 : Int) else 0) - (if F v = -1 then 1 else 0)) = _
  rw [fl_pus, if_neg hx, if_pos h]; omega
theorem fl_un_0 {F : Nat → Int} {s : Nat} (hs : s < 16) (h : ∀ x, x < 16 → x ≠ s → F x = -1) (hF : F s ≠ -1) : fl_un F = 15 := by
  unfold fl_un
  rw [fl_one (f := fun _ => 1) (g := fun i => if F i = -1 then 1 else 0) hs (fun i hi hn => if_pos (h i hi hn)), fl_const]
  show (16 : Int) * 1 + ((if F s = -1 then (1 : Int) else 0) - 1) = 15
  rw [if_neg hF]; omega
theorem fl_un_pos {F : Nat → Int} {v : Nat} (hv : v < 16) (h : F v = -1) : 1 ≤ fl_un F := by
  have := fl_ge1 (f := fun v => if F v = -1 then (1 : Int) else 0) (n := 16) (k := v) (fun i _ => by
    show (0 : Int) ≤ (if F i = -1 then 1 else 0)
    split <;> omega) hv
  rw [if_pos h] at this; exact this
def fl_Dp (L F : Nat → Int) (s : Nat) (g : Int) (u : Nat) (dp : Nat → Nat) (On : Nat → Prop) : Prop :=
  (On u ∧ On s ∧ dp s = 0 ∧ F s = (s : Int)) ∧
  (∀ x, x < 16 → F x ≠ -1 → (dp x : Int) + fl_un F ≤ 15) ∧
  (∀ x, On x → x < 16 ∧ F x ≠ -1 ∧ dp x ≤ dp u) ∧
  (∀ x y, On x → On y → dp x = dp y → x = y) ∧
  (∀ x, x < 16 → F x ≠ -1 → x ≠ s → ∃ p : Nat, p < 16 ∧ F x = (p : Int) ∧ F p ≠ -1 ∧ dp x = dp p + 1 ∧ g ≤ L (p * 16 + x) ∧ (On x → On p)) ∧
  (∀ x, x < 16 → F x ≠ -1 → ¬ On x → ∀ v, v < 16 → g ≤ L (x * 16 + v) → F v ≠ -1)
def fl_Dk (L F : Nat → Int) (s t : Nat) (g : Int) (u k : Nat) : Prop :=
  F t = -1 ∧ s < 16 ∧ u < 16 ∧ s ≠ t ∧ ∃ dp On, fl_Dp L F s g u dp On ∧ (2 * fl_un F + dp u + k ≤ 30 ∨ (u = s ∧ ∀ v, v < 16 → g ≤ L (s * 16 + v) → F v ≠ -1))
theorem fl_D0 {L F : Nat → Int} {s t : Nat} {g : Int} (hs : s < 16) (ht : t < 16) (hst : s ≠ t) (h : ∀ x, x < 16 → x ≠ s → F x = -1) (hF : F s = (s : Int)) : fl_Dk L F s t g s 0 := by
  have hF1 : F s ≠ -1 := by omega
  refine ⟨h t ht (Ne.symm hst), hs, hs, hst, fun _ => 0, fun x => x = s, ⟨⟨rfl, rfl, rfl, hF⟩, ?_, ?_, ?_, ?_, ?_⟩, Or.inl ?_⟩
  · intro x _ _
    rw [fl_un_0 hs h hF1]; exact Int.le_refl _
  · intro x hx; subst hx; exact ⟨hs, hF1, Nat.le_refl _⟩
  · intro x y hx hy _; rw [hx, hy]
  · intro x hx h1 h2; exact absurd (h x hx h2) h1
  · intro x hx h1 h2; exact absurd (h x hx h2) h1
  · rw [fl_un_0 hs h hF1]; exact Int.le_refl _
theorem fl_D1 {L F : Nat → Int} {s t : Nat} {g : Int} {u k v : Nat} (h : fl_Dk L F s t g u k) (hv : v < 16) (hF : F v = -1) (hg : g ≤ L (u * 16 + v)) :
    (v = t → fl_Fd L (fl_pu F v (u : Int)) s t g) ∧ (v ≠ t → fl_Dk L (fl_pu F v (u : Int)) s t g v (k + 1)) := by
  obtain ⟨hft, hs, hu, hst, dp, On, ⟨⟨a1, a2, a3, a4⟩, b, c, d, e, f⟩, hm⟩ := h
  have hFs : F s ≠ -1 := by omega
  have hvs : v ≠ s := fun z => hFs (z ▸ hF)
  have hFu : F u ≠ -1 := (c u a1).2.1
  have hvu : v ≠ u := fun z => hFu (z ▸ hF)
  have hun : fl_un (fl_pu F v (u : Int)) = fl_un F - 1 := fl_un_put hv hF (by omega)
  have hOv : ¬ On v := fun z => (c v z).2.1 hF
  have B : ∀ x, x < 16 → fl_pu F v (u : Int) x ≠ -1 → (((if x = v then dp u + 1 else dp x : Nat) : Int)) + fl_un (fl_pu F v (u : Int)) ≤ 15 := by
    intro x hx hn
    rw [hun]
    by_cases ex : x = v
    · rw [if_pos ex]
      have := b u hu hFu
      omega
    · rw [if_neg ex]
      rw [fl_pun ex] at hn
      have := b x hx hn
      omega
  have E : ∀ x, x < 16 → fl_pu F v (u : Int) x ≠ -1 → x ≠ s → ∃ p : Nat, p < 16 ∧ fl_pu F v (u : Int) x = (p : Int) ∧ fl_pu F v (u : Int) p ≠ -1 ∧ (if x = v then dp u + 1 else dp x) = (if p = v then dp u + 1 else dp p) + 1 ∧ g ≤ L (p * 16 + x) ∧ ((x = v ∨ On x) → (p = v ∨ On p)) := by
    intro x hx hn hxs
    by_cases ex : x = v
    · subst ex
      refine ⟨u, hu, fl_pus, ?_, ?_, hg, fun _ => Or.inr a1⟩
      · rw [fl_pun (Ne.symm hvu)]; exact hFu
      · rw [if_pos rfl, if_neg (Ne.symm hvu)]
    · rw [fl_pun ex] at hn ⊢
      obtain ⟨p, p1, p2, p3, p4, p5, p6⟩ := e x hx hn hxs
      have hpv : p ≠ v := fun z => p3 (z ▸ hF)
      refine ⟨p, p1, p2, ?_, ?_, p5, fun z => Or.inr (p6 (z.resolve_left ex))⟩
      · rw [fl_pun hpv]; exact p3
      · rw [if_neg ex, if_neg hpv]; exact p4
  constructor
  · intro hvt
    refine ⟨fun x => if fl_pu F v (u : Int) x = -1 then 16 else (if x = v then dp u + 1 else dp x), ?_, ?_⟩
    · show (if fl_pu F v (u : Int) t = -1 then 16 else (if t = v then dp u + 1 else dp t)) ≤ 15
      have h1 : fl_pu F v (u : Int) t ≠ -1 := by rw [← hvt, fl_pus]; omega
      rw [if_neg h1]
      have h2 := B t (by omega) h1
      have h3 := fl_un_nn (fl_pu F v (u : Int))
      omega
    · intro x hx hd hxs
      have h1 : fl_pu F v (u : Int) x ≠ -1 := by
        intro z
        have hd2 : (if fl_pu F v (u : Int) x = -1 then 16 else (if x = v then dp u + 1 else dp x)) ≤ 15 := hd
        rw [if_pos z] at hd2; omega
      obtain ⟨p, p1, p2, p3, p4, p5, _⟩ := E x hx h1 hxs
      refine ⟨p, p1, p2, ?_, p5⟩
      show (if fl_pu F v (u : Int) p = -1 then 16 else (if p = v then dp u + 1 else dp p)) < (if fl_pu F v (u : Int) x = -1 then 16 else (if x = v then dp u + 1 else dp x))
      rw [if_neg p3, if_neg h1]; omega
  · intro hvt
    refine ⟨by rw [fl_pun (Ne.symm hvt)]; exact hft, hs, hv, hst, fun x => if x = v then dp u + 1 else dp x, fun x => x = v ∨ On x, ⟨⟨Or.inl rfl, Or.inr a2, ?_, ?_⟩, B, ?_, ?_, E, ?_⟩, Or.inl ?_⟩
    · show (if s = v then dp u + 1 else dp s) = 0
      rw [if_neg (Ne.symm hvs)]; exact a3
    · rw [fl_pun (Ne.symm hvs)]; exact a4
    · intro x hx
      show x < 16 ∧ fl_pu F v (u : Int) x ≠ -1 ∧ (if x = v then dp u + 1 else dp x) ≤ (if v = v then dp u + 1 else dp v)
      rw [if_pos (rfl : v = v)]
      by_cases ex : x = v
      · subst ex
        exact ⟨hv, by rw [fl_pus]; omega, by rw [if_pos rfl]; exact Nat.le_refl _⟩
      · have := c x (hx.resolve_left ex)
        exact ⟨this.1, by rw [fl_pun ex]; exact this.2.1, by rw [if_neg ex]; omega⟩
    · intro x y hx hy hxy
      have hxy2 : (if x = v then dp u + 1 else dp x) = (if y = v then dp u + 1 else dp y) := hxy
      by_cases ex : x = v
      · by_cases ey : y = v
        · rw [ex, ey]
        · have := c y (hy.resolve_left ey)
          rw [if_pos ex, if_neg ey] at hxy2; omega
      · have hcx := c x (hx.resolve_left ex)
        by_cases ey : y = v
        · rw [if_neg ex, if_pos ey] at hxy2; omega
        · rw [if_neg ex, if_neg ey] at hxy2
          exact d x y (hx.resolve_left ex) (hy.resolve_left ey) hxy2
    · intro x hx hn hO w hw hgw
      have ex : x ≠ v := fun z => hO (Or.inl z)
      rw [fl_pun ex] at hn
      have hw1 := f x hx hn (fun z => hO (Or.inr z)) w hw hgw
      by_cases ew : w = v
      · subst ew; exact absurd hF hw1
      · rw [fl_pun ew]; exact hw1
    · show 2 * fl_un (fl_pu F v (u : Int)) + ((if v = v then dp u + 1 else dp v : Nat) : Int) + ((k + 1 : Nat) : Int) ≤ 30
      rw [if_pos (rfl : v = v), hun]
      rcases hm with hm | ⟨hus, hcl⟩
      · omega
      · subst hus; exact absurd hF (hcl v hv hg)
theorem fl_D2 {L F : Nat → Int} {s t : Nat} {g : Int} {u k : Nat} (h : fl_Dk L F s t g u k) (hn : ∀ v, v < 16 → F v = -1 → ¬ g ≤ L (u * 16 + v)) :
    ∃ p : Nat, p < 16 ∧ F u = (p : Int) ∧ p ≠ t ∧ fl_Dk L F s t g p (k + 1) := by
  obtain ⟨hft, hs, hu, hst, dp, On, ⟨⟨a1, a2, a3, a4⟩, b, c, d, e, f⟩, hm⟩ := h
  by_cases hus : u = s
  · subst hus
    refine ⟨u, hu, a4, hst, hft, hs, hu, hst, dp, On, ⟨⟨a1, a2, a3, a4⟩, b, c, d, e, f⟩, Or.inr ⟨rfl, fun v hv hg hF => hn v hv hF hg⟩⟩
  · have hFu := (c u a1).2.1
    obtain ⟨p, p1, p2, p3, p4, p5, p6⟩ := e u hu hFu hus
    refine ⟨p, p1, p2, fun z => p3 (z ▸ hft), hft, hs, p1, hst, dp, fun x => On x ∧ x ≠ u, ⟨⟨⟨p6 a1, fun z => ?_⟩, ⟨a2, fun z => hus z.symm⟩, a3, a4⟩, b, ?_, ?_, ?_, ?_⟩, Or.inl ?_⟩
    · rw [z] at p4; omega
    · intro x hx
      have := c x hx.1
      refine ⟨this.1, this.2.1, ?_⟩
      have : dp x ≠ dp u := fun z => hx.2 (d x u hx.1 a1 z)
      omega
    · intro x y hx hy hxy; exact d x y hx.1 hy.1 hxy
    · intro x hx hF hxs
      obtain ⟨q, q1, q2, q3, q4, q5, q6⟩ := e x hx hF hxs
      refine ⟨q, q1, q2, q3, q4, q5, fun z => ⟨q6 z.1, fun zq => ?_⟩⟩
      have := c x z.1
      rw [zq] at q4; omega
    · intro x hx hF hO v hv hg
      by_cases ex : x = u
      · subst ex; exact fun z => hn v hv z hg
      · exact f x hx hF (fun z => hO ⟨z, ex⟩) v hv hg
    · rcases hm with hm | ⟨hus2, _⟩
      · omega
      · exact absurd hus2 hus
theorem fl_D3 {L F : Nat → Int} {s t : Nat} {g : Int} {u : Nat} (h : fl_Dk L F s t g u 32) : fl_Non L s t g := by
  obtain ⟨hft, hs, hu, hst, dp, On, ⟨⟨a1, a2, a3, a4⟩, b, c, d, e, f⟩, hm⟩ := h
  have hun := fl_un_nn F
  rcases hm with hm | ⟨hus, hcl⟩
  · omega
  · subst hus
    refine ⟨fun x => !decide (F x = -1), ⟨?_, ?_⟩, ?_⟩
    · show (!decide (F u = -1)) = true
      have : F u ≠ -1 := by omega
      simp [this]
    · show (!decide (F t = -1)) = false
      simp [hft]
    · intro x hx v hv hA hB
      have hFx : F x ≠ -1 := by simpa using hA
      have hFv : F v = -1 := by simpa using hB
      by_cases hO : On x
      · have h1 := c x hO
        have : x = u := d x u hO a1 (by omega)
        subst this
        exact Int.not_le.mp (fun z => hcl v hv z hFv)
      · exact Int.not_le.mp (fun z => f x hx hFx hO v hv z hFv)
end
section
/-- V: the levels of all that s reaches by L, F: a node before -/
def fl_Bf (L F V : Nat → Int) (s : Nat) : Prop :=
  V s = 0 ∧ (∀ v, v < 16 → V v = -1 ∨ (0 ≤ V v ∧ V v ≤ 15)) ∧
  (∀ v, v < 16 → V v ≠ -1 → v ≠ s → ∃ u : Nat, u < 16 ∧ F v = (u : Int) ∧ V u ≠ -1 ∧ V v = V u + 1 ∧ 0 < L (u * 16 + v)) ∧
  (∀ u, u < 16 → ∀ v, v < 16 → V u ≠ -1 → 0 < L (u * 16 + v) → V v ≠ -1 ∧ V v ≤ V u + 1)
theorem fl_Bf_fd {L F V : Nat → Int} {s t : Nat} (h : fl_Bf L F V s) (ht : t < 16) (hV : V t ≠ -1) : fl_Fd L F s t 1 := by
  obtain ⟨h1, h2, h3, h4⟩ := h
  refine ⟨fun v => if V v = -1 then 16 else (V v).toNat, ?_, ?_⟩
  · show (if V t = -1 then 16 else (V t).toNat) ≤ 15
    rw [if_neg hV]
    have := h2 t ht
    omega
  · intro v hv hd hvs
    have hd2 : (if V v = -1 then 16 else (V v).toNat) ≤ 15 := hd
    have hVv : V v ≠ -1 := by
      intro z; rw [if_pos z] at hd2; omega
    obtain ⟨u, u1, u2, u3, u4, u5⟩ := h3 v hv hVv hvs
    refine ⟨u, u1, u2, ?_, by omega⟩
    show (if V u = -1 then 16 else (V u).toNat) < (if V v = -1 then 16 else (V v).toNat)
    rw [if_neg u3, if_neg hVv]
    have := h2 u u1
    have := h2 v hv
    omega
theorem fl_Bf_non {L F V : Nat → Int} {s t : Nat} (h : fl_Bf L F V s) (hV : V t = -1) : fl_Non L s t 1 := by
  obtain ⟨h1, h2, h3, h4⟩ := h
  refine ⟨fun x => !decide (V x = -1), ⟨?_, ?_⟩, ?_⟩
  · show (!decide (V s = -1)) = true
    have : V s ≠ -1 := by omega
    simp [this]
  · show (!decide (V t = -1)) = false
    simp [hV]
  · intro x hx v hv hA hB
    have hx1 : V x ≠ -1 := by simpa using hA
    have hv1 : V v = -1 := by simpa using hB
    exact Int.not_le.mp (fun z => (h4 x hx v hv hx1 (by omega)).1 hv1)
def fl_Bq (L F V Q : Nat → Int) (s i w : Nat) (ln : Nat → Nat) : Prop :=
  (V s = 0 ∧ F s = (s : Int) ∧ 1 ≤ w ∧ (w : Int) + fl_un F = 16) ∧
  (∀ v, v < 16 → (F v = -1 ↔ V v = -1)) ∧
  (∀ v, v < 16 → F v ≠ -1 → 0 ≤ V v ∧ V v + fl_un F ≤ 15) ∧
  (∀ j, j < w → Q j = (ln j : Int) ∧ ln j < 16 ∧ F (ln j) ≠ -1) ∧
  (∀ x, x < 16 → F x ≠ -1 → ∃ j, j < w ∧ ln j = x) ∧
  (∀ v, v < 16 → F v ≠ -1 → v ≠ s → ∃ u : Nat, u < 16 ∧ F v = (u : Int) ∧ F u ≠ -1 ∧ V v = V u + 1 ∧ 0 < L (u * 16 + v)) ∧
  (∀ j k, j ≤ k → k < w → V (ln j) ≤ V (ln k)) ∧
  (∀ k, k < w → i < w → V (ln k) ≤ V (ln i) + 1) ∧
  (∀ j, j < i → j < w → ∀ v, v < 16 → 0 < L (ln j * 16 + v) → F v ≠ -1 ∧ V v ≤ V (ln j) + 1)
theorem fl_Bq_w {L F V Q : Nat → Int} {s i w : Nat} {ln : Nat → Nat} (h : fl_Bq L F V Q s i w ln) : w ≤ 16 := by
  have := fl_un_nn F
  have := h.1.2.2.2
  omega
theorem fl_Bq0 {L F V Q : Nat → Int} {s : Nat} (hs : s < 16) (hF : ∀ x, x < 16 → x ≠ s → F x = -1) (hFs : F s = (s : Int)) (hV : ∀ x, x < 16 → x ≠ s → V x = -1) (hVs : V s = 0) (hQ : Q 0 = (s : Int)) : fl_Bq L F V Q s 0 1 (fun _ => s) := by
  have hF1 : F s ≠ -1 := by omega
  have hun := fl_un_0 hs hF hF1
  refine ⟨⟨hVs, hFs, by omega, by rw [hun]; decide⟩, ?_, ?_, ?_, ?_, ?_, ?_, ?_, ?_⟩
  · intro v hv
    by_cases e : v = s
    · subst e; constructor <;> intro z <;> omega
    · exact ⟨fun _ => hV v hv e, fun _ => hF v hv e⟩
  · intro v hv hn
    by_cases e : v = s
    · subst e; omega
    · exact absurd (hF v hv e) hn
  · intro j hj
    have : j = 0 := by omega
    subst this
    exact ⟨hQ, hs, hF1⟩
  · intro x hx hn
    by_cases e : x = s
    · exact ⟨0, by omega, e.symm⟩
    · exact absurd (hF x hx e) hn
  · intro v hv hn e; exact absurd (hF v hv e) hn
  · intro j k _ _; exact Int.le_refl _
  · intro k _ _; show V s ≤ V s + 1; omega
  · intro j hj; omega
theorem fl_Bq1 {L F V Q : Nat → Int} {s i w v : Nat} {ln : Nat → Nat} (h : fl_Bq L F V Q s i w ln) (hi : i < w) (hv : v < 16) (hF : F v = -1) (hL : 0 < L (ln i * 16 + v)) :
    w < 16 ∧ fl_Bq L (fl_pu F v (ln i : Int)) (fl_pu V v (V (ln i) + 1)) (fl_pu Q w (v : Int)) s i (w + 1) (fun j => if j = w then v else ln j) := by
  obtain ⟨⟨a1, a2, a3, a4⟩, b, c, d, e, f, m, n, o⟩ := h
  have hFs : F s ≠ -1 := by omega
  have hvs : v ≠ s := fun z => hFs (z ▸ hF)
  have hu := d i hi
  have hvu : v ≠ ln i := fun z => hu.2.2 (z ▸ hF)
  have hun : fl_un (fl_pu F v (ln i : Int)) = fl_un F - 1 := fl_un_put hv hF (by omega)
  have hpos := fl_un_pos hv hF
  have hln : ∀ j, j < w → (if j = w then v else ln j) = ln j := fun j hj => if_neg (by omega)
  have hlv : ∀ j, j < w → ln j ≠ v := fun j hj z => (d j hj).2.2 (z ▸ hF)
  have hVl : ∀ j, j < w → fl_pu V v (V (ln i) + 1) (ln j) = V (ln j) := fun j hj => fl_pun (hlv j hj)
  refine ⟨by omega, ⟨?_, ?_, by omega, by rw [hun]; omega⟩, ?_, ?_, ?_, ?_, ?_, ?_, ?_, ?_⟩
  · rw [fl_pun (Ne.symm hvs)]; exact a1
  · rw [fl_pun (Ne.symm hvs)]; exact a2
  · intro x hx
    by_cases ex : x = v
    · subst ex
      rw [fl_pus, fl_pus]
      have := c (ln i) hu.2.1 hu.2.2
      constructor <;> intro z <;> omega
    · rw [fl_pun ex, fl_pun ex]; exact b x hx
  · intro x hx hn
    rw [hun]
    by_cases ex : x = v
    · subst ex
      rw [fl_pus]
      have := c (ln i) hu.2.1 hu.2.2
      omega
    · rw [fl_pun ex] at hn ⊢
      have := c x hx hn
      omega
  · intro j hj
    show fl_pu Q w (v : Int) j = ((if j = w then v else ln j : Nat) : Int) ∧ (if j = w then v else ln j) < 16 ∧ fl_pu F v (ln i : Int) (if j = w then v else ln j) ≠ -1
    by_cases ej : j = w
    · rw [if_pos ej, ej, fl_pus, fl_pus]
      exact ⟨rfl, hv, by omega⟩
    · rw [if_neg ej, fl_pun ej, fl_pun (hlv j (by omega))]
      exact d j (by omega)
  · intro x hx hn
    by_cases ex : x = v
    · exact ⟨w, by omega, (if_pos rfl).trans ex.symm⟩
    · rw [fl_pun ex] at hn
      obtain ⟨j, hj, hjx⟩ := e x hx hn
      exact ⟨j, by omega, (if_neg (by omega)).trans hjx⟩
  · intro x hx hn hxs
    by_cases ex : x = v
    · subst ex
      refine ⟨ln i, hu.2.1, fl_pus, ?_, ?_, hL⟩
      · rw [fl_pun (Ne.symm hvu)]; exact hu.2.2
      · rw [fl_pus, fl_pun (Ne.symm hvu)]
    · rw [fl_pun ex] at hn
      obtain ⟨p, p1, p2, p3, p4, p5⟩ := f x hx hn hxs
      have hpv : p ≠ v := fun z => p3 (z ▸ hF)
      refine ⟨p, p1, ?_, ?_, ?_, p5⟩
      · rw [fl_pun ex]; exact p2
      · rw [fl_pun hpv]; exact p3
      · rw [fl_pun ex, fl_pun hpv]; exact p4
  · intro j k hjk hk
    show fl_pu V v (V (ln i) + 1) (if j = w then v else ln j) ≤ fl_pu V v (V (ln i) + 1) (if k = w then v else ln k)
    by_cases ek : k = w
    · rw [if_pos ek, fl_pus]
      by_cases ej : j = w
      · rw [if_pos ej, fl_pus]; exact Int.le_refl _
      · rw [if_neg ej, hVl j (by omega)]; exact n j (by omega) hi
    · have ej : ¬ j = w := by omega
      rw [if_neg ek, if_neg ej, hVl j (by omega), hVl k (by omega)]
      exact m j k hjk (by omega)
  · intro k hk _
    show fl_pu V v (V (ln i) + 1) (if k = w then v else ln k) ≤ fl_pu V v (V (ln i) + 1) (if i = w then v else ln i) + 1
    rw [hln i hi, hVl i hi]
    by_cases ek : k = w
    · rw [if_pos ek, fl_pus]; exact Int.le_refl _
    · rw [if_neg ek, hVl k (by omega)]; exact n k (by omega) hi
  · intro j hj hjw x hx hLx
    have hLx2 : 0 < L ((if j = w then v else ln j) * 16 + x) := hLx
    show fl_pu F v (ln i : Int) x ≠ -1 ∧ fl_pu V v (V (ln i) + 1) x ≤ fl_pu V v (V (ln i) + 1) (if j = w then v else ln j) + 1
    rw [hln j (by omega)] at hLx2 ⊢
    have h1 := o j hj (by omega) x hx hLx2
    have ex : x ≠ v := fun z => h1.1 (z ▸ hF)
    rw [fl_pun ex, fl_pun ex, hVl j (by omega)]
    exact h1
theorem fl_Bq2 {L F V Q : Nat → Int} {s i w : Nat} {ln : Nat → Nat} (h : fl_Bq L F V Q s i w ln) (hi : i < w) (hc : ∀ v, v < 16 → 0 < L (ln i * 16 + v) → F v ≠ -1) : fl_Bq L F V Q s (i + 1) w ln := by
  obtain ⟨a, b, c, d, e, f, m, n, o⟩ := h
  refine ⟨a, b, c, d, e, f, m, ?_, ?_⟩
  · intro k hk hi1
    have h1 := n k hk hi
    have h2 := m i (i + 1) (by omega) hi1
    omega
  · intro j hj hjw v hv hL
    by_cases ej : j = i
    · subst ej
      have h1 := hc v hv hL
      obtain ⟨k, hk, hkv⟩ := e v hv h1
      have h2 := n k hk hi
      rw [hkv] at h2
      exact ⟨h1, h2⟩
    · exact o j (by omega) hjw v hv hL
theorem fl_Bq3 {L F V Q : Nat → Int} {s i w : Nat} {ln : Nat → Nat} (h : fl_Bq L F V Q s i w ln) (hi : w ≤ i) : fl_Bf L F V s := by
  obtain ⟨⟨a1, a2, a3, a4⟩, b, c, d, e, f, m, n, o⟩ := h
  have hun := fl_un_nn F
  have nb : ∀ v, v < 16 → V v ≠ -1 → F v ≠ -1 := fun v hv hn z => hn ((b v hv).mp z)
  have nf : ∀ v, v < 16 → F v ≠ -1 → V v ≠ -1 := fun v hv hn z => hn ((b v hv).mpr z)
  refine ⟨a1, ?_, ?_, ?_⟩
  · intro v hv
    by_cases hV : V v = -1
    · exact Or.inl hV
    · have := c v hv (nb v hv hV)
      exact Or.inr (by omega)
  · intro v hv hV hvs
    obtain ⟨u, u1, u2, u3, u4, u5⟩ := f v hv (nb v hv hV) hvs
    exact ⟨u, u1, u2, nf u u1 u3, u4, u5⟩
  · intro u hu v hv hV hL
    obtain ⟨j, hj, hju⟩ := e u hu (nb u hu hV)
    subst hju
    have := o j (by omega) hj v hv hL
    exact ⟨nf v hv this.1, this.2⟩
end
section
def fl_nd (D : Nat → Int) : Int := fl_S 16 (fun v => if D v = 0 then 1 else 0)
theorem fl_nd_nn (D : Nat → Int) : 0 ≤ fl_nd D := fl_nonneg (fun i _ => by
  show (0 : Int) ≤ (if D i = 0 then 1 else 0)
  split <;> omega)
theorem fl_nd_put {D : Nat → Int} {v : Nat} {x : Int} (hv : v < 16) (h : D v = 0) (hx : x ≠ 0) : fl_nd (fl_pu D v x) = fl_nd D - 1 := by
  unfold fl_nd
  rw [fl_one (f := fun v => if D v = 0 then 1 else 0) (g := fun i => if fl_pu D v x i = 0 then 1 else 0) hv (fun i _ hi => by
    show (if fl_pu D v x i = 0 then (1 : Int) else 0) = (if D i = 0 then 1 else 0)
    rw [fl_pun hi])]
  show _ + ((if fl_pu D v x v = 0 then (1 : Int) else 0) - (if D v = 0 then 1 else 0)) = _
  rw [fl_pus, if_neg hx, if_pos h]; omega
theorem fl_nd_0 {D : Nat → Int} (h : ∀ x, x < 16 → D x = 0) : fl_nd D = 16 := by
  unfold fl_nd
  rw [fl_congr (g := fun _ => 1) (fun i hi => if_pos (h i hi)), fl_const]; decide
theorem fl_nd_pos {D : Nat → Int} {v : Nat} (hv : v < 16) (h : D v = 0) : 1 ≤ fl_nd D := by
  have := fl_ge1 (f := fun v => if D v = 0 then (1 : Int) else 0) (n := 16) (k := v) (fun i _ => by
    show (0 : Int) ≤ (if D i = 0 then 1 else 0)
    split <;> omega) hv
  rw [if_pos h] at this; exact this
def fl_Wd (L F W D : Nat → Int) (s k : Nat) (rk : Nat → Nat) : Prop :=
  (W s = 1980 ∧ fl_nd D + k = 16) ∧
  (∀ v, v < 16 → 0 ≤ W v ∧ W v ≤ 1980) ∧
  (∀ x, x < 16 → ∀ y, y < 16 → D x ≠ 0 → D y = 0 → W y ≤ W x) ∧
  (∀ v, v < 16 → D v ≠ 0 → 0 < W v ∧ rk v < k) ∧
  (∀ v, v < 16 → 0 < W v → v ≠ s → ∃ u : Nat, u < 16 ∧ F v = (u : Int) ∧ D u ≠ 0 ∧ 1 ≤ L (u * 16 + v) ∧ (D v ≠ 0 → rk u < rk v)) ∧
  (∀ u, u < 16 → D u ≠ 0 → ∀ v, v < 16 → 0 < L (u * 16 + v) → 0 < W v)
def fl_Wi (L F W D : Nat → Int) (s k : Nat) (rk : Nat → Nat) (u j : Nat) : Prop :=
  (W s = 1980 ∧ fl_nd D + (k + 1) = 16 ∧ D u ≠ 0) ∧
  (∀ v, v < 16 → 0 ≤ W v ∧ W v ≤ 1980) ∧
  (∀ x, x < 16 → D x ≠ 0 → W u ≤ W x) ∧
  (∀ y, y < 16 → D y = 0 → W y ≤ W u) ∧
  (∀ v, v < 16 → D v ≠ 0 → 0 < W v ∧ rk v < k + 1) ∧
  (∀ v, v < 16 → 0 < W v → v ≠ s → ∃ u : Nat, u < 16 ∧ F v = (u : Int) ∧ D u ≠ 0 ∧ 1 ≤ L (u * 16 + v) ∧ (D v ≠ 0 → rk u < rk v)) ∧
  (∀ x, x < 16 → D x ≠ 0 → ∀ v, v < 16 → 0 < L (x * 16 + v) → (x ≠ u ∨ v < j) → 0 < W v)
theorem fl_W0 {L F W D : Nat → Int} {s : Nat} (hD : ∀ x, x < 16 → D x = 0) (hW : ∀ x, x < 16 → x ≠ s → W x = 0) (hs : W s = 1980) : fl_Wd L F W D s 0 (fun _ => 0) := by
  refine ⟨⟨hs, by rw [fl_nd_0 hD]; decide⟩, ?_, ?_, ?_, ?_, ?_⟩
  · intro v hv
    by_cases e : v = s
    · subst e; omega
    · rw [hW v hv e]; omega
  · intro x hx _ _ h; exact absurd (hD x hx) h
  · intro x hx h; exact absurd (hD x hx) h
  · intro v hv h hn; rw [hW v hv hn] at h; omega
  · intro x hx h; exact absurd (hD x hx) h
theorem fl_W1 {L F W D : Nat → Int} {s k u : Nat} {rk : Nat → Nat} (h : fl_Wd L F W D s k rk) (hu : u < 16) (hD : D u = 0) (hW : 0 < W u) (hm : ∀ y, y < 16 → D y = 0 → W y ≤ W u) :
    fl_Wi L F W (fl_pu D u 1) s k (fun x => if x = u then k else rk x) u 0 := by
  obtain ⟨⟨a1, a2⟩, b, c, d, e, f⟩ := h
  have hx : ∀ x, x < 16 → fl_pu D u 1 x ≠ 0 → x ≠ u → D x ≠ 0 := fun x _ h1 h2 => by
    rw [fl_pun h2] at h1; exact h1
  refine ⟨⟨a1, by rw [fl_nd_put hu hD (by decide)]; omega, by rw [fl_pus]; decide⟩, b, ?_, ?_, ?_, ?_, ?_⟩
  · intro x hx1 h1
    by_cases ex : x = u
    · rw [ex]; exact Int.le_refl _
    · exact c x hx1 u hu (hx x hx1 h1 ex) hD
  · intro y hy h1
    by_cases ey : y = u
    · rw [ey]; exact Int.le_refl _
    · rw [fl_pun ey] at h1; exact hm y hy h1
  · intro v hv h1
    show 0 < W v ∧ (if v = u then k else rk v) < k + 1
    by_cases ev : v = u
    · rw [if_pos ev, ev]; exact ⟨hW, by omega⟩
    · rw [if_neg ev]
      have := d v hv (hx v hv h1 ev)
      omega
  · intro v hv h1 h2
    obtain ⟨p, p1, p2, p3, p4, p5⟩ := e v hv h1 h2
    have hpu : p ≠ u := fun z => p3 (z ▸ hD)
    refine ⟨p, p1, p2, by rw [fl_pun hpu]; exact p3, p4, fun h3 => ?_⟩
    show (if p = u then k else rk p) < (if v = u then k else rk v)
    rw [if_neg hpu]
    by_cases ev : v = u
    · rw [if_pos ev]; exact (d p p1 p3).2
    · rw [if_neg ev]; exact p5 (hx v hv h3 ev)
  · intro x hx1 h1 v hv hL h2
    have h3 : x ≠ u := by omega
    exact f x hx1 (hx x hx1 h1 h3) v hv hL
theorem fl_W2 {L F W D : Nat → Int} {s k u j : Nat} {rk : Nat → Nat} {a : Int} (h : fl_Wi L F W D s k rk u j) (hu : u < 16) (hj : j < 16) (h1 : a ≤ L (u * 16 + j)) (h2 : a ≤ W u) (h3 : a = L (u * 16 + j) ∨ a = W u) :
    (¬ W j < a → fl_Wi L F W D s k rk u (j + 1)) ∧ (W j < a → fl_Wi L (fl_pu F j (u : Int)) (fl_pu W j a) D s k rk u (j + 1)) := by
  obtain ⟨⟨a1, a2, a3⟩, b, c, d, e, f, o⟩ := h
  have hWu := e u hu a3
  constructor
  · intro hn
    refine ⟨⟨a1, a2, a3⟩, b, c, d, e, f, fun x hx hD v hv hL hc => ?_⟩
    by_cases ev : v = j
    · by_cases ex : x = u
      · subst ex; subst ev; omega
      · exact o x hx hD v hv hL (Or.inl ex)
    · exact o x hx hD v hv hL (by omega)
  · intro hp
    have hDj : D j = 0 := Decidable.byContradiction (fun z => by
      have := c j hj z
      omega)
    have hjs : j ≠ s := by
      intro z
      have := (b u hu).2
      rw [z] at hp; omega
    have hju : j ≠ u := fun z => a3 (z ▸ hDj)
    have hW0 := (b j hj).1
    refine ⟨⟨by rw [fl_pun (Ne.symm hjs)]; exact a1, a2, a3⟩, ?_, ?_, ?_, ?_, ?_, ?_⟩
    · intro v hv
      by_cases ev : v = j
      · have := (b u hu).2
        rw [ev, fl_pus]; omega
      · rw [fl_pun ev]; exact b v hv
    · intro x hx hD
      have ex : x ≠ j := fun z => hD (z ▸ hDj)
      rw [fl_pun ex, fl_pun (Ne.symm hju)]; exact c x hx hD
    · intro y hy hD
      rw [fl_pun (Ne.symm hju)]
      by_cases ey : y = j
      · rw [ey, fl_pus]; exact h2
      · rw [fl_pun ey]; exact d y hy hD
    · intro v hv hD
      have ex : v ≠ j := fun z => hD (z ▸ hDj)
      rw [fl_pun ex]; exact e v hv hD
    · intro v hv hp2 hvs
      by_cases ev : v = j
      · subst ev
        exact ⟨u, hu, fl_pus, a3, by omega, fun z => absurd hDj z⟩
      · rw [fl_pun ev] at hp2 ⊢
        exact f v hv hp2 hvs
    · intro x hx hD v hv hL hc
      by_cases ev : v = j
      · rw [ev, fl_pus]; omega
      · rw [fl_pun ev]; exact o x hx hD v hv hL (by omega)
theorem fl_W3 {L F W D : Nat → Int} {s k u : Nat} {rk : Nat → Nat} (h : fl_Wi L F W D s k rk u 16) (hu : u < 16) : fl_Wd L F W D s (k + 1) rk := by
  obtain ⟨⟨a1, a2, a3⟩, b, c, d, e, f, o⟩ := h
  refine ⟨⟨a1, by omega⟩, b, fun x hx y hy h1 h2 => ?_, e, f, fun x hx hD v hv hL => o x hx hD v hv hL (Or.inr hv)⟩
  have := c x hx h1
  have := d y hy h2
  omega
theorem fl_W4 {L F W D : Nat → Int} {s t k : Nat} {rk : Nat → Nat} (h : fl_Wd L F W D s k rk) (ht : t < 16) (hc : ∀ v, v < 16 → D v = 0 → W v ≤ 0) :
    (0 < W t → fl_Fd L F s t 1) ∧ (¬ 0 < W t → fl_Non L s t 1) := by
  obtain ⟨⟨a1, a2⟩, b, c, d, e, f⟩ := h
  have hdn : ∀ v, v < 16 → 0 < W v → D v ≠ 0 := fun v hv hp z => by
    have := hc v hv z
    omega
  have hnd := fl_nd_nn D
  constructor
  · intro hp
    refine ⟨fun v => if D v = 0 then 16 else rk v, ?_, ?_⟩
    · show (if D t = 0 then 16 else rk t) ≤ 15
      rw [if_neg (hdn t ht hp)]
      have := (d t ht (hdn t ht hp)).2
      omega
    · intro v hv hd hvs
      have hd2 : (if D v = 0 then 16 else rk v) ≤ 15 := hd
      have hDv : D v ≠ 0 := by
        intro z; rw [if_pos z] at hd2; omega
      obtain ⟨p, p1, p2, p3, p4, p5⟩ := e v hv (d v hv hDv).1 hvs
      refine ⟨p, p1, p2, ?_, p4⟩
      show (if D p = 0 then 16 else rk p) < (if D v = 0 then 16 else rk v)
      rw [if_neg p3, if_neg hDv]; exact p5 hDv
  · intro hn
    refine ⟨fun x => decide (0 < W x), ⟨?_, ?_⟩, ?_⟩
    · show decide (0 < W s) = true
      simp [a1]
    · show decide (0 < W t) = false
      simpa using hn
    · intro x hx v hv hA hB
      have hx1 : 0 < W x := by simpa using hA
      have hv1 : ¬ 0 < W v := by simpa using hB
      exact Int.not_le.mp (fun z => hv1 (f x hx (hdn x hx hx1) v hv (by omega)))
end
section
def fl_Rs (L0 V0 L : Nat → Int) : Prop := ∀ a, a < 16 → ∀ b, b < 16 → 0 < L (a * 16 + b) → 0 < L0 (a * 16 + b) ∨ (V0 a ≠ -1 ∧ V0 b ≠ -1 ∧ V0 a = V0 b + 1)
/-- no way of rising levels is left from s to t -/
def fl_Bk (L0 V0 L : Nat → Int) (s t : Nat) : Prop := fl_Rs L0 V0 L ∧
  ∃ D : Nat → Prop, D s ∧ ¬ D t ∧ ∀ a, a < 16 → D a → ∀ b, b < 16 → V0 b = V0 a + 1 → 0 < L (a * 16 + b) → D b
theorem fl_rise {L0 F0 V0 L F1 V1 : Nat → Int} {s t : Nat} (B0 : fl_Bf L0 F0 V0 s) (hK : fl_Bk L0 V0 L s t) (B1 : fl_Bf L F1 V1 s) (ht : t < 16) (h1 : V1 t ≠ -1) : V0 t + 1 ≤ V1 t := by
  obtain ⟨hR, D, d1, d2, d3⟩ := hK
  obtain ⟨p1, p2, p3, p4⟩ := B0
  obtain ⟨q1, q2, q3, q4⟩ := B1
  have key : ∀ n : Nat, ∀ v, v < 16 → V1 v = (n : Int) → V0 v ≠ -1 ∧ V0 v ≤ V1 v ∧ (V0 v = V1 v → D v) := by
    intro n
    induction n using Nat.strongRecOn with
    | ind n ih =>
      intro v hv hn
      by_cases e : v = s
      · subst e
        exact ⟨by omega, by omega, fun _ => d1⟩
      · obtain ⟨u, u1, u2, u3, u4, u5⟩ := q3 v hv (by omega) e
        have hu0 : 0 ≤ V1 u := by
          have := q2 u u1
          omega
        obtain ⟨i1, i2, i3⟩ := ih (V1 u).toNat (by omega) u u1 (by omega)
        rcases hR u u1 v hv u5 with hL | ⟨r1, r2, r3⟩
        · have h4 := p4 u u1 v hv i1 hL
          refine ⟨h4.1, by omega, fun z => ?_⟩
          exact d3 u u1 (i3 (by omega)) v hv (by omega) u5
        · exact ⟨r2, by omega, fun z => by omega⟩
  have h0 : 0 ≤ V1 t := by
    have := q2 t ht
    omega
  obtain ⟨k1, k2, k3⟩ := key (V1 t).toNat t ht (by omega)
  have : V0 t ≠ V1 t := fun z => d2 (k3 z)
  omega
def fl_Ly (C L0 V0 L F V : Nat → Int) (s t u : Nat) (x : Int) (pt : Nat → Nat) : Prop :=
  fl_Inv C L s t x ∧
  (u < 16 ∧ u ≠ t ∧ 0 ≤ V u ∧ V u ≤ 15 ∧ V s = 0 ∧ V t ≠ -1 ∧ s < 16) ∧
  (∀ v, v < 16 → V v = -1 ∨ V v = V0 v) ∧
  (pt 0 = s ∧ pt (V u).toNat = u ∧ ∀ k, k ≤ (V u).toNat → pt k < 16 ∧ V (pt k) = (k : Int) ∧ pt k ≠ t) ∧
  (∀ k, k < (V u).toNat → F (pt (k + 1)) = (pt k : Int) ∧ 1 ≤ L (pt k * 16 + pt (k + 1))) ∧
  fl_Rs L0 V0 L ∧
  (∀ a, a < 16 → V a = -1 → V0 a ≠ -1 → ∀ b, b < 16 → V0 b = V0 a + 1 → 0 < L (a * 16 + b) → V b = -1)
def fl_Lm (V : Nat → Int) (u : Nat) (x : Int) : Int := 16 * (1980 - x) + 2 * (16 - fl_un V) + (15 - V u)
theorem fl_un_le (F : Nat → Int) : fl_un F ≤ 16 := by
  have := fl_le (n := 16) (f := fun v => if F v = -1 then (1 : Int) else 0) (g := fun _ => 1) (fun i _ => by
    show (if F i = -1 then (1 : Int) else 0) ≤ 1
    split <;> omega)
  rw [fl_const] at this
  exact this
theorem fl_un_kill {F : Nat → Int} {v : Nat} (hv : v < 16) (h : F v ≠ -1) : fl_un (fl_pu F v (-1)) = fl_un F + 1 := by
  unfold fl_un
  rw [fl_one (f := fun v => if F v = -1 then 1 else 0) (g := fun i => if fl_pu F v (-1) i = -1 then 1 else 0) hv (fun i _ hi => by
    show (if fl_pu F v (-1) i = -1 then (1 : Int) else 0) = (if F i = -1 then 1 else 0)
    rw [fl_pun hi])]
  show _ + ((if fl_pu F v (-1) v = -1 then (1 : Int) else 0) - (if F v = -1 then 1 else 0)) = _
  rw [fl_pus, if_pos rfl, if_neg h]; omega
theorem fl_Lm_nn {C L0 V0 L F V : Nat → Int} {s t u : Nat} {x : Int} {pt : Nat → Nat} (h : fl_Ly C L0 V0 L F V s t u x pt) (hx : x ≤ 1980) : 0 ≤ fl_Lm V u x := by
  have := fl_un_le V
  have := h.2.1
  unfold fl_Lm; omega
theorem fl_Y0 {C L F V : Nat → Int} {s t : Nat} {x : Int} (hI : fl_Inv C L s t x) (hB : fl_Bf L F V s) (hs : s < 16) (hst : s ≠ t) (hV : V t ≠ -1) : fl_Ly C L V L F V s t s x (fun _ => s) := by
  obtain ⟨p1, p2, p3, p4⟩ := hB
  have e : (V s).toNat = 0 := by omega
  refine ⟨hI, ⟨hs, hst, by omega, by omega, p1, hV, hs⟩, fun v _ => Or.inr rfl, ⟨rfl, rfl, ?_⟩, ?_, fun a _ b _ h => Or.inl h, ?_⟩
  · intro k hk
    have : k = 0 := by omega
    subst this
    exact ⟨hs, p1, hst⟩
  · intro k hk; omega
  · intro a _ h1 h2; exact absurd h1 h2
theorem fl_Y0m {V : Nat → Int} {s : Nat} {x : Int} (hx : 0 ≤ x) (hs : V s = 0) : fl_Lm V s x ≤ 31727 := by
  have := fl_un_nn V
  unfold fl_Lm; omega
/-- one level on -/
theorem fl_Y1 {C L0 V0 L F V : Nat → Int} {s t u v : Nat} {x : Int} {pt : Nat → Nat} (h : fl_Ly C L0 V0 L F V s t u x pt) (hV0 : ∀ v, v < 16 → V0 v ≤ 15) (hv : v < 16) (hvt : v ≠ t) (hV : V v = V u + 1) (hL : 0 < L (u * 16 + v)) :
    fl_Ly C L0 V0 L (fl_pu F v (u : Int)) V s t v x (fun k => if k = (V v).toNat then v else pt k) ∧ fl_Lm V v x = fl_Lm V u x - 1 := by
  obtain ⟨hI, ⟨a1, a2, a3, a4, a5, a6, a7⟩, b, ⟨c1, c2, c3⟩, d, e, f⟩ := h
  have h15 : V v ≤ 15 := by
    have := b v hv
    have := hV0 v hv
    omega
  have en : (V v).toNat = (V u).toNat + 1 := by omega
  have hne : ∀ k, k ≤ (V u).toNat → pt k ≠ v := fun k hk z => by
    have := (c3 k hk).2.1
    rw [z] at this; omega
  refine ⟨⟨hI, ⟨hv, hvt, by omega, h15, a5, a6, a7⟩, b, ⟨?_, ?_, ?_⟩, ?_, e, f⟩, by unfold fl_Lm; omega⟩
  · show (if 0 = (V v).toNat then v else pt 0) = s
    rw [if_neg (by omega)]; exact c1
  · show (if (V v).toNat = (V v).toNat then v else pt (V v).toNat) = v
    rw [if_pos rfl]
  · intro k hk
    show (if k = (V v).toNat then v else pt k) < 16 ∧ V (if k = (V v).toNat then v else pt k) = (k : Int) ∧ (if k = (V v).toNat then v else pt k) ≠ t
    by_cases ek : k = (V v).toNat
    · rw [if_pos ek]; exact ⟨hv, by omega, hvt⟩
    · rw [if_neg ek]; exact c3 k (by omega)
  · intro k hk
    show fl_pu F v (u : Int) (if k + 1 = (V v).toNat then v else pt (k + 1)) = ((if k = (V v).toNat then v else pt k : Nat) : Int) ∧ 1 ≤ L ((if k = (V v).toNat then v else pt k) * 16 + (if k + 1 = (V v).toNat then v else pt (k + 1)))
    rw [if_neg (show ¬ k = (V v).toNat by omega)]
    by_cases ek : k + 1 = (V v).toNat
    · have ek2 : k = (V u).toNat := by omega
      rw [if_pos ek, fl_pus, ek2, c2]
      exact ⟨rfl, by omega⟩
    · rw [if_neg ek, fl_pun (hne _ (by omega))]
      exact d k (by omega)
/-- the way to t -/
theorem fl_Y2 {C L0 V0 L F V : Nat → Int} {s t u : Nat} {x : Int} {pt : Nat → Nat} (h : fl_Ly C L0 V0 L F V s t u x pt) (hV0 : ∀ v, v < 16 → V0 v ≤ 15) (ht : t < 16) (hV : V t = V u + 1) (hL : 0 < L (u * 16 + t)) :
    ∃ (m : Nat) (c : Nat → Nat), fl_Ch L (fl_pu F t (u : Int)) s t 1 m c ∧ ∀ a, 1 ≤ a → (∀ j, j < m → a ≤ L (c (j + 1) * 16 + c j)) →
      fl_Ly C L0 V0 (fl_ms L c a m) (fl_pu F t (u : Int)) V s t s (x + a) (fun _ => s) ∧ fl_Lm V s (x + a) ≤ fl_Lm V u x - 1 := by
  obtain ⟨hI, ⟨a1, a2, a3, a4, a5, a6, a7⟩, b, ⟨c1, c2, c3⟩, d, e, f⟩ := h
  have h15 : V t ≤ 15 := by
    have := b t ht
    have := hV0 t ht
    omega
  have hne : ∀ k, k ≤ (V u).toNat → pt k ≠ t := fun k hk z => by
    have := (c3 k hk).2.1
    rw [z] at this; omega
  have hcj : ∀ j, 1 ≤ j → j ≤ (V u).toNat + 1 → (if j = 0 then t else pt ((V u).toNat + 1 - j)) = pt ((V u).toNat + 1 - j) := fun j h1 _ => if_neg (by omega)
  have hC : fl_Ch L (fl_pu F t (u : Int)) s t 1 ((V u).toNat + 1) (fun j => if j = 0 then t else pt ((V u).toNat + 1 - j)) := by
    refine ⟨by omega, rfl, ?_, ?_, ?_, ?_⟩
    · show (if (V u).toNat + 1 = 0 then t else pt ((V u).toNat + 1 - ((V u).toNat + 1))) = s
      rw [if_neg (by omega), Nat.sub_self]; exact c1
    · intro j hj
      show (if j = 0 then t else pt ((V u).toNat + 1 - j)) < 16
      by_cases ej : j = 0
      · rw [if_pos ej]; exact ht
      · rw [if_neg ej]; exact (c3 _ (by omega)).1
    · intro i j hij hj
      show (if i = 0 then t else pt ((V u).toNat + 1 - i)) ≠ (if j = 0 then t else pt ((V u).toNat + 1 - j))
      rw [if_neg (show ¬ j = 0 by omega)]
      by_cases ei : i = 0
      · rw [if_pos ei]; exact Ne.symm (hne _ (by omega))
      · rw [if_neg ei]
        intro z
        have z1 := (c3 ((V u).toNat + 1 - i) (by omega)).2.1
        have z2 := (c3 ((V u).toNat + 1 - j) (by omega)).2.1
        rw [z] at z1; omega
    · intro j hj
      show fl_pu F t (u : Int) (if j = 0 then t else pt ((V u).toNat + 1 - j)) = ((if j + 1 = 0 then t else pt ((V u).toNat + 1 - (j + 1)) : Nat) : Int) ∧ 1 ≤ L ((if j + 1 = 0 then t else pt ((V u).toNat + 1 - (j + 1))) * 16 + (if j = 0 then t else pt ((V u).toNat + 1 - j)))
      rw [if_neg (show ¬ j + 1 = 0 by omega)]
      by_cases ej : j = 0
      · subst ej
        rw [if_pos rfl, fl_pus, show (V u).toNat + 1 - (0 + 1) = (V u).toNat by omega, c2]
        exact ⟨rfl, by omega⟩
      · rw [if_neg ej, fl_pun (hne _ (by omega))]
        have := d ((V u).toNat + 1 - (j + 1)) (by omega)
        rw [show (V u).toNat + 1 - (j + 1) + 1 = (V u).toNat + 1 - j by omega] at this
        exact this
  refine ⟨_, _, hC, fun a h1 ha => ?_⟩
  have e0 : (V s).toNat = 0 := by omega
  have lev : ∀ k, k < (V u).toNat + 1 → V (if k = 0 then t else pt ((V u).toNat + 1 - k)) = V (if k + 1 = 0 then t else pt ((V u).toNat + 1 - (k + 1))) + 1 ∧ V (if k + 1 = 0 then t else pt ((V u).toNat + 1 - (k + 1))) = (((V u).toNat - k : Nat) : Int) := by
    intro k hk
    rw [if_neg (show ¬ k + 1 = 0 by omega)]
    have z2 := (c3 ((V u).toNat + 1 - (k + 1)) (by omega)).2.1
    by_cases ek : k = 0
    · rw [if_pos ek]; omega
    · rw [if_neg ek]
      have z1 := (c3 ((V u).toNat + 1 - k) (by omega)).2.1
      omega
  have res := fl_ms_res hC (a := a) (by omega) _ (Nat.le_refl _)
  have V0e : ∀ w, w < 16 → 0 ≤ V w → V0 w = V w := fun w hw h0 => by
    have := b w hw
    omega
  have hst : s ≠ t := by
    have := (c3 0 (by omega)).2.2
    rw [c1] at this; exact this
  refine ⟨⟨fl_fill hC hI (by omega) ha, ⟨a7, hst, by omega, by omega, a5, a6, a7⟩, b, ⟨rfl, rfl, ?_⟩, ?_, ?_, ?_⟩, ?_⟩
  · intro k hk
    have : k = 0 := by omega
    subst this
    exact ⟨a7, a5, hst⟩
  · intro k hk; omega
  · intro p hp q hq hpos
    rcases res p hp q hq hpos with r | ⟨k, hk, rfl, rfl⟩
    · exact e p hp q hq r
    · have hl := lev k hk
      have w1 := V0e _ hp (by omega)
      have w2 := V0e _ hq (by omega)
      exact Or.inr ⟨by omega, by omega, by omega⟩
  · intro p hp h2 h3 q hq h4 hpos
    rcases res p hp q hq hpos with r | ⟨k, hk, rfl, rfl⟩
    · exact f p hp h2 h3 q hq h4 r
    · have hl := lev k hk
      omega
  · unfold fl_Lm; omega
/-- a dead end -/
theorem fl_Y3 {C L0 V0 L F V : Nat → Int} {s t u : Nat} {x : Int} {pt : Nat → Nat} (h : fl_Ly C L0 V0 L F V s t u x pt) (hus : u ≠ s) (hn : ∀ v, v < 16 → V v = V u + 1 → ¬ 0 < L (u * 16 + v)) :
    ∃ p : Nat, p < 16 ∧ F u = (p : Int) ∧ p ≠ t ∧ fl_Ly C L0 V0 L F (fl_pu V u (-1)) s t p x pt ∧ fl_Lm (fl_pu V u (-1)) p x = fl_Lm V u x - 1 := by
  obtain ⟨hI, ⟨a1, a2, a3, a4, a5, a6, a7⟩, b, ⟨c1, c2, c3⟩, d, e, f⟩ := h
  have hk : 0 < (V u).toNat := by
    apply Nat.pos_of_ne_zero
    intro z
    rw [z, c1] at c2; exact hus c2.symm
  have hd := d ((V u).toNat - 1) (by omega)
  rw [show (V u).toNat - 1 + 1 = (V u).toNat by omega, c2] at hd
  have hp := c3 ((V u).toNat - 1) (by omega)
  have hpu : pt ((V u).toNat - 1) ≠ u := fun z => by
    rw [z] at hp; omega
  have hVp : fl_pu V u (-1) (pt ((V u).toNat - 1)) = (((V u).toNat - 1 : Nat) : Int) := by
    rw [fl_pun hpu]; exact hp.2.1
  have hne : ∀ k, k < (V u).toNat → pt k ≠ u := fun k hk z => by
    have := (c3 k (by omega)).2.1
    rw [z] at this; omega
  have e1 : (fl_pu V u (-1) (pt ((V u).toNat - 1))).toNat = (V u).toNat - 1 := by omega
  refine ⟨pt ((V u).toNat - 1), hp.1, hd.1, hp.2.2, ⟨hI, ⟨hp.1, hp.2.2, by omega, by omega, ?_, ?_, a7⟩, ?_, ⟨c1, by rw [e1], ?_⟩, ?_, e, ?_⟩, ?_⟩
  · rw [fl_pun (Ne.symm hus)]; exact a5
  · rw [fl_pun (Ne.symm a2)]; exact a6
  · intro v hv
    by_cases ev : v = u
    · rw [ev, fl_pus]; exact Or.inl rfl
    · rw [fl_pun ev]; exact b v hv
  · intro k hk
    rw [e1] at hk
    rw [fl_pun (hne k (by omega))]
    exact c3 k (by omega)
  · intro k hk
    rw [e1] at hk
    exact d k (by omega)
  · intro p hp1 h1 h2 q hq h3 h4
    have hq1 : V q = -1 := by
      by_cases ep : p = u
      · subst ep
        have h5 := b p hp1
        have h6 := b q hq
        have h7 := hn q hq
        by_cases h8 : V q = V p + 1
        · exact absurd h4 (h7 h8)
        · omega
      · rw [fl_pun ep] at h1
        exact f p hp1 h1 h2 q hq h3 h4
    by_cases eq : q = u
    · rw [eq, fl_pus]
    · rw [fl_pun eq]; exact hq1
  · unfold fl_Lm
    rw [fl_un_kill a1 (by omega), hVp]; omega
/-- s is a dead end -/
theorem fl_Y4 {C L0 V0 L F V : Nat → Int} {s t : Nat} {x : Int} {pt : Nat → Nat} (h : fl_Ly C L0 V0 L F V s t s x pt) (hV0 : ∀ v, v < 16 → V0 v = -1 ∨ 0 ≤ V0 v) (h0 : V0 s = 0) (hn : ∀ v, v < 16 → V v = V s + 1 → ¬ 0 < L (s * 16 + v)) : fl_Bk L0 V0 L s t := by
  obtain ⟨hI, ⟨a1, a2, a3, a4, a5, a6, a7⟩, b, ⟨c1, c2, c3⟩, d, e, f⟩ := h
  refine ⟨e, fun a => a = s ∨ (V a = -1 ∧ V0 a ≠ -1), Or.inl rfl, ?_, ?_⟩
  · intro z
    rcases z with z | z
    · exact a2 z.symm
    · exact a6 z.1
  · intro p hp hD q hq h1 h2
    rcases hD with rfl | ⟨h3, h4⟩
    · have h5 := hn q hq
      have h6 := b q hq
      by_cases h7 : V q = V p + 1
      · exact absurd h2 (h5 h7)
      · exact Or.inr ⟨by omega, by omega⟩
    · have h5 := hV0 p hp
      exact Or.inr ⟨f p hp h3 h4 q hq h1 h2, by omega⟩
end
section
/-- the excess in S -/
def fl_ex (E : Nat → Int) (S : Nat → Bool) : Int := fl_S 16 (fun v => if S v then E v else 0)
theorem fl_ex_pu (E : Nat → Int) (S : Nat → Bool) {k : Nat} (x : Int) (hk : k < 16) : fl_ex (fl_pu E k x) S = fl_ex E S + (if S k then x - E k else 0) := by
  unfold fl_ex
  rw [fl_one (f := fun v => if S v then E v else 0) (g := fun v => if S v then fl_pu E k x v else 0) hk (fun i _ hi => by
    show (if S i then fl_pu E k x i else 0) = (if S i then E i else 0)
    rw [fl_pun hi])]
  show _ + ((if S k then fl_pu E k x k else 0) - (if S k then E k else 0)) = _
  rw [fl_pus]
  split <;> simp
def fl_pe (E : Nat → Int) (u v : Nat) (a : Int) : Nat → Int := fl_pu (fl_pu E u (E u - a)) v (fl_pu E u (E u - a) v + a)
theorem fl_ex_pe (E : Nat → Int) (S : Nat → Bool) {u v : Nat} (a : Int) (hu : u < 16) (hv : v < 16) : fl_ex (fl_pe E u v a) S = fl_ex E S - a * (fl_b (S u) - fl_b (S v)) := by
  unfold fl_pe
  rw [fl_ex_pu _ S _ hv, fl_ex_pu _ S _ hu]
  cases S u <;> cases S v <;> simp [fl_b] <;> omega
theorem fl_pe_at (E : Nat → Int) (u v x : Nat) (a : Int) : fl_pe E u v a x = E x - (if x = u then a else 0) + (if x = v then a else 0) := by
  unfold fl_pe fl_pu
  by_cases h1 : x = v
  · subst h1
    by_cases h2 : x = u
    · subst h2; simp
    · simp [h2]
  · by_cases h2 : x = u
    · subst h2; simp [h1]
    · simp [h1, h2]
def fl_Pf (C L E : Nat → Int) (s : Nat) : Prop := fl_ok L ∧ (∀ S, fl_cut L S - fl_ex E S = fl_cut C S) ∧ ∀ v, v < 16 → v ≠ s → 0 ≤ E v
theorem fl_Pf_tot {C L E : Nat → Int} {s : Nat} (h : fl_Pf C L E s) : fl_ex E (fun _ => true) = 0 := by
  have h1 := h.2.1 (fun _ => true)
  rw [fl_cut_0 (L := L) (fun _ _ _ _ _ z => by cases z), fl_cut_0 (L := C) (fun _ _ _ _ _ z => by cases z)] at h1
  omega
theorem fl_ex_one (E : Nat → Int) {s : Nat} (hs : s < 16) : fl_ex E (fun x => decide (x = s)) = E s := by
  unfold fl_ex
  rw [fl_one (f := fun _ => 0) (g := fun v => if decide (v = s) then E v else 0) hs (fun i _ hi => by simp [hi]), fl_const]
  simp
theorem fl_ex_nn {E : Nat → Int} {s : Nat} {S : Nat → Bool} (h : ∀ v, v < 16 → v ≠ s → 0 ≤ E v) (hS : S s = false) : ∀ i, i < 16 → 0 ≤ (fun v => if S v then E v else 0) i := by
  intro i hi
  show 0 ≤ (if S i then E i else 0)
  by_cases e : i = s
  · rw [e, hS]; simp
  · split
    · exact h i hi e
    · omega
theorem fl_E_b {C L E : Nat → Int} {s : Nat} (hs : s < 16) (h : fl_Pf C L E s) (hB : fl_cut C (fun x => decide (x = s)) ≤ 1980) : -1980 ≤ E s ∧ E s ≤ 0 ∧ ∀ v, v < 16 → v ≠ s → 0 ≤ E v ∧ E v ≤ 1980 := by
  have h1 := h.2.1 (fun x => decide (x = s))
  rw [fl_ex_one E hs] at h1
  have h2 := fl_ok_nn h.1 (fun x => decide (x = s))
  have h3 := fl_Pf_tot h
  have h4 := fl_one (n := 16) (k := s) (f := fun v => if (fun _ => true) v then E v else 0) (g := fun v => if (fun x => !decide (x = s)) v then E v else 0) hs (fun i _ hi => by simp [hi])
  have h5 : fl_S 16 (fun v => if (fun _ => true) v then E v else 0) = 0 := h3
  rw [h5] at h4
  have h6 : (fun v => if (fun x => !decide (x = s)) v then E v else 0) s - (fun v => if (fun (_ : Nat) => true) v then E v else 0) s = - E s := by simp
  rw [h6] at h4
  have nn := fl_ex_nn (S := fun x => !decide (x = s)) h.2.2 (by simp)
  have h7 := fl_nonneg nn
  rw [h4] at h7
  refine ⟨by omega, by omega, fun v hv hvs => ⟨h.2.2 v hv hvs, ?_⟩⟩
  have h8 := fl_ge1 nn hv
  rw [h4] at h8
  have h9 : (if (!decide (v = s)) = true then E v else 0) = E v := by simp [hvs]
  rw [h9] at h8; omega
theorem fl_P0 {C E : Nat → Int} {s : Nat} (hC : fl_ok C) (hE : ∀ v, v < 16 → E v = 0) : fl_Pf C C E s := by
  refine ⟨hC, fun S => ?_, fun v hv _ => by rw [hE v hv]; omega⟩
  have : fl_ex E S = 0 := fl_zero (fun i hi => by
    show (if S i then E i else 0) = 0
    rw [hE i hi]; simp)
  omega
theorem fl_P1 {C L E : Nat → Int} {s u v : Nat} {a : Int} (h : fl_Pf C L E s) (hu : u < 16) (hv : v < 16) (h0 : 0 ≤ a) (ha : a ≤ L (u * 16 + v)) (he : u ≠ s → a ≤ E u) : fl_Pf C (fl_mv L u v a) (fl_pe E u v a) s := by
  refine ⟨fl_ok_mv h.1 hu hv h0 ha, fun S => ?_, fun x hx hxs => ?_⟩
  · rw [fl_cut_mv L S a hu hv, fl_ex_pe E S a hu hv]
    have := h.2.1 S
    omega
  · rw [fl_pe_at]
    have := h.2.2 x hx hxs
    by_cases e : x = u
    · have := he (e ▸ hxs)
      rw [if_pos e, e] at *
      split <;> omega
    · rw [if_neg e]
      split <;> omega
def fl_Hv (L H : Nat → Int) (s t : Nat) : Prop := H s = 16 ∧ H t = 0 ∧ (∀ v, v < 16 → 0 ≤ H v ∧ H v ≤ 31) ∧ ∀ u, u < 16 → ∀ v, v < 16 → 0 < L (u * 16 + v) → H u ≤ H v + 1
theorem fl_del (x b : Int) (n : Nat) : fl_S n (fun j => if x = b + (j : Int) then 1 else 0) = if b ≤ x ∧ x < b + (n : Int) then 1 else 0 := by
  induction n with
  | zero =>
    rw [fl_S0, if_neg (by omega)]
  | succ n ih =>
    rw [fl_Ss, ih]
    by_cases e : x = b + (n : Int)
    · rw [if_pos e, if_neg (by omega), if_pos (by omega)]; rfl
    · rw [if_neg e]
      by_cases e2 : b ≤ x ∧ x < b + (n : Int)
      · rw [if_pos e2, if_pos (by omega)]; rfl
      · rw [if_neg e2, if_neg (by omega)]; rfl
/-- of fifteen heights one is free, if two of sixteen nodes stand elsewhere -/
theorem fl_gap {h : Nat → Int} {b : Int} {s t : Nat} (hs : s < 16) (ht : t < 16) (hst : s ≠ t) (h1 : h s < b ∨ b + 15 ≤ h s) (h2 : h t < b ∨ b + 15 ≤ h t) : ∃ k, b ≤ k ∧ k < b + 15 ∧ ∀ v, v < 16 → h v ≠ k := by
  apply Classical.byContradiction
  intro hno
  have hall : ∀ j : Nat, j < 15 → ∃ v, v < 16 ∧ h v = b + (j : Int) := by
    intro j hj
    apply Classical.byContradiction
    intro hn
    exact hno ⟨b + (j : Int), by omega, by omega, fun v hv z => hn ⟨v, hv, z⟩⟩
  have g1 : fl_S 15 (fun _ => 1) ≤ fl_S 15 (fun j => fl_S 16 (fun v => if h v = b + (j : Int) then 1 else 0)) := by
    refine fl_le (fun j hj => ?_)
    obtain ⟨v, hv, hvj⟩ := hall j hj
    have := fl_ge1 (n := 16) (k := v) (f := fun v => if h v = b + (j : Int) then (1 : Int) else 0) (fun i _ => by
      show (0 : Int) ≤ (if h i = b + (j : Int) then 1 else 0)
      split <;> omega) hv
    rw [if_pos hvj] at this; exact this
  rw [fl_swap 15 16 (fun j v => if h v = b + (j : Int) then 1 else 0)] at g1
  have g2 : fl_S 16 (fun v => fl_S 15 (fun j => if h v = b + (j : Int) then 1 else 0)) ≤ fl_S 16 (fun v => if v = s ∨ v = t then 0 else 1) := by
    refine fl_le (fun v hv => ?_)
    show fl_S 15 (fun j => if h v = b + (j : Int) then 1 else 0) ≤ (if v = s ∨ v = t then 0 else 1)
    rw [fl_del]
    by_cases e : v = s ∨ v = t
    · rw [if_pos e]
      have : ¬ (b ≤ h v ∧ h v < b + ((15 : Nat) : Int)) := by
        rcases e with rfl | rfl <;> omega
      rw [if_neg this]; omega
    · rw [if_neg e]; split <;> omega
  have g3 : fl_S 16 (fun v => if v = s ∨ v = t then (0 : Int) else 1) = 14 := by
    rw [fl_one (n := 16) (k := s) (f := fun v => if v = t then (0 : Int) else 1) (g := fun v => if v = s ∨ v = t then (0 : Int) else 1) hs (fun i _ hi => by simp [hi])]
    rw [fl_one (n := 16) (k := t) (f := fun _ => (1 : Int)) (g := fun v => if v = t then (0 : Int) else 1) ht (fun i _ hi => if_neg hi), fl_const]
    simp [hst]
  rw [fl_const] at g1
  omega
theorem fl_gapcut {L H : Nat → Int} {k : Int} (hok : fl_ok L) (hv : ∀ u, u < 16 → ∀ v, v < 16 → 0 < L (u * 16 + v) → H u ≤ H v + 1) (hk : ∀ v, v < 16 → H v ≠ k) : fl_cut L (fun v => decide (k < H v)) = 0 := by
  refine fl_cut_0 (fun u hu v hv1 h1 h2 => ?_)
  have h3 : k < H u := by simpa using h1
  have h4 : ¬ k < H v := by simpa using h2
  have h5 := hk v hv1
  have h6 := (hok u hu v hv1).1
  have h7 := hv u hu v hv1
  by_cases e : 0 < L (u * 16 + v)
  · have := h7 e
    omega
  · omega
theorem fl_P2 {C L E H : Nat → Int} {s u : Nat} (hC : fl_ok C) (h : fl_Pf C L E s) (hs : s < 16) (hu : u < 16) (hus : u ≠ s) (hE : 0 < E u) (hHs : H s = 16) (hv : ∀ u, u < 16 → ∀ v, v < 16 → 0 < L (u * 16 + v) → H u ≤ H v + 1) : H u ≤ 31 := by
  apply Classical.byContradiction
  intro hn
  obtain ⟨k, k1, k2, k3⟩ := fl_gap (h := H) (b := 17) hs hu (Ne.symm hus) (by omega) (by omega)
  have c0 := fl_gapcut h.1 hv k3
  have c1 := h.2.1 (fun v => decide (k < H v))
  have c2 := fl_ok_nn hC (fun v => decide (k < H v))
  have nn := fl_ex_nn (S := fun v => decide (k < H v)) h.2.2 (by simp; omega)
  have c3 := fl_ge1 nn hu
  have c4 : (if decide (k < H u) = true then E u else 0) = E u := by
    have : k < H u := by omega
    simp [this]
  rw [c4] at c3
  have c5 : fl_S 16 (fun v => if decide (k < H v) = true then E v else 0) = fl_ex E (fun v => decide (k < H v)) := rfl
  rw [c5] at c3; omega
theorem fl_ex_two {E : Nat → Int} {s t : Nat} {S : Nat → Bool} (hs : s < 16) (h : ∀ v, v < 16 → v ≠ s → v ≠ t → E v = 0) (h1 : S s = true) (h2 : S t = false) : fl_ex E S = E s := by
  unfold fl_ex
  rw [fl_one (n := 16) (k := s) (f := fun _ => 0) (g := fun v => if S v then E v else 0) hs (fun i hi hn => by
    show (if S i then E i else 0) = 0
    by_cases e : i = t
    · rw [e, h2]; simp
    · rw [h i hi hn e]; simp), fl_const]
  simp [h1]
theorem fl_P3 {C L E H : Nat → Int} {s t : Nat} (h : fl_Pf C L E s) (hH : fl_Hv L H s t) (hs : s < 16) (ht : t < 16) (hst : s ≠ t) (h0 : ∀ v, v < 16 → v ≠ s → v ≠ t → E v = 0) : fl_Min C s t (E t) := by
  obtain ⟨k, k1, k2, k3⟩ := fl_gap (h := H) (b := 1) hs ht hst (by have := hH.1; omega) (by have := hH.2.1; omega)
  have c0 := fl_gapcut h.1 hH.2.2.2 k3
  have tot := fl_Pf_tot h
  have tot2 : fl_ex E (fun _ => true) = E s + E t := by
    unfold fl_ex
    rw [fl_one (n := 16) (k := t) (f := fun v => if (fun x => !decide (x = t)) v then E v else 0) (g := fun v => if (fun (_ : Nat) => true) v then E v else 0) ht (fun i _ hi => by simp [hi])]
    have e1 : fl_S 16 (fun v => if (fun x => !decide (x = t)) v then E v else 0) = E s := fl_ex_two (S := fun x => !decide (x = t)) hs h0 (by simp [hst]) (by simp)
    rw [e1]; simp
  refine ⟨⟨fun v => decide (k < H v), ⟨by have := hH.1; simp; omega, by have := hH.2.1; simp; omega⟩, ?_⟩, fun S hS => ?_⟩
  · have c1 := h.2.1 (fun v => decide (k < H v))
    rw [fl_ex_two (t := t) hs h0 (by have := hH.1; simp; omega) (by have := hH.2.1; simp; omega)] at c1
    omega
  · have c1 := h.2.1 S
    rw [fl_ex_two hs h0 hS.1 hS.2] at c1
    have := fl_ok_nn h.1 S
    omega
def fl_ph (H E : Nat → Int) (s t : Nat) : Int := fl_S 16 (fun v => if v = s ∨ v = t then 0 else (31 - H v) * 1981 + E v * H v)
theorem fl_ph_nn {H E : Nat → Int} {s t : Nat} (hH : ∀ v, v < 16 → 0 ≤ H v ∧ H v ≤ 31) (hE : ∀ v, v < 16 → v ≠ s → 0 ≤ E v) : 0 ≤ fl_ph H E s t := by
  refine fl_nonneg (fun i hi => ?_)
  show 0 ≤ (if i = s ∨ i = t then 0 else (31 - H i) * 1981 + E i * H i)
  split
  · omega
  · next e =>
    have h1 := hH i hi
    have h2 := Int.mul_nonneg (hE i hi (fun z => e (Or.inl z))) h1.1
    omega
theorem fl_ph_0 {H E : Nat → Int} {s t : Nat} (hH : ∀ v, v < 16 → v ≠ s → H v = 0) : fl_ph H E s t ≤ 982576 := by
  have := fl_le (n := 16) (f := fun v => if v = s ∨ v = t then 0 else (31 - H v) * 1981 + E v * H v) (g := fun _ => 61411) (fun i hi => by
    show (if i = s ∨ i = t then 0 else (31 - H i) * 1981 + E i * H i) ≤ 61411
    split
    · omega
    · next e =>
      rw [hH i hi (fun z => e (Or.inl z))]; simp)
  rw [fl_const] at this
  exact this
theorem fl_ph_E {H E : Nat → Int} {s t k : Nat} (x : Int) (hk : k < 16) : fl_ph H (fl_pu E k x) s t = fl_ph H E s t + (if k = s ∨ k = t then 0 else (x - E k) * H k) := by
  unfold fl_ph
  rw [fl_one (n := 16) (k := k) (f := fun v => if v = s ∨ v = t then 0 else (31 - H v) * 1981 + E v * H v) (g := fun v => if v = s ∨ v = t then 0 else (31 - H v) * 1981 + fl_pu E k x v * H v) hk (fun i _ hi => by
    show (if i = s ∨ i = t then 0 else (31 - H i) * 1981 + fl_pu E k x i * H i) = (if i = s ∨ i = t then 0 else (31 - H i) * 1981 + E i * H i)
    rw [fl_pun hi])]
  show _ + ((if k = s ∨ k = t then 0 else (31 - H k) * 1981 + fl_pu E k x k * H k) - (if k = s ∨ k = t then 0 else (31 - H k) * 1981 + E k * H k)) = _
  rw [fl_pus]
  split
  · omega
  · have := Int.sub_mul x (E k) (H k)
    omega
theorem fl_ph_H {H E : Nat → Int} {s t k : Nat} (x : Int) (hk : k < 16) (h1 : k ≠ s) (h2 : k ≠ t) : fl_ph (fl_pu H k x) E s t = fl_ph H E s t - (x - H k) * (1981 - E k) := by
  unfold fl_ph
  rw [fl_one (n := 16) (k := k) (f := fun v => if v = s ∨ v = t then 0 else (31 - H v) * 1981 + E v * H v) (g := fun v => if v = s ∨ v = t then 0 else (31 - fl_pu H k x v) * 1981 + E v * fl_pu H k x v) hk (fun i _ hi => by
    show (if i = s ∨ i = t then 0 else (31 - fl_pu H k x i) * 1981 + E i * fl_pu H k x i) = (if i = s ∨ i = t then 0 else (31 - H i) * 1981 + E i * H i)
    rw [fl_pun hi])]
  show _ + ((if k = s ∨ k = t then 0 else (31 - fl_pu H k x k) * 1981 + E k * fl_pu H k x k) - (if k = s ∨ k = t then 0 else (31 - H k) * 1981 + E k * H k)) = _
  have hn : ¬ (k = s ∨ k = t) := by omega
  rw [fl_pus, if_neg hn, if_neg hn]
  have e1 := Int.mul_sub (x - H k) 1981 (E k)
  have e2 := Int.sub_mul x (H k) (E k)
  have e3 := Int.mul_comm (E k) x
  have e4 := Int.mul_comm (E k) (H k)
  omega
theorem fl_P4 {C L E H : Nat → Int} {s t u : Nat} {m : Int} (hC : fl_ok C) (h : fl_Pf C L E s) (hH : fl_Hv L H s t) (hs : s < 16) (hB : fl_cut C (fun x => decide (x = s)) ≤ 1980) (hu : u < 16) (hus : u ≠ s) (hut : u ≠ t) (hE : 0 < E u)
    (hn : ∀ v, v < 16 → H u = H v + 1 → ¬ 0 < L (u * 16 + v)) (h1 : ∀ v, v < 16 → 0 < L (u * 16 + v) → m ≤ H v) (h2 : m = 32 ∨ ∃ v, v < 16 ∧ 0 < L (u * 16 + v) ∧ m = H v) :
    fl_Hv L (fl_pu H u (m + 1)) s t ∧ fl_ph (fl_pu H u (m + 1)) E s t ≤ fl_ph H E s t - 1 := by
  obtain ⟨a1, a2, a3, a4⟩ := hH
  have hm : H u ≤ m := by
    rcases h2 with h2 | ⟨v, v1, v2, v3⟩
    · have := a3 u hu
      omega
    · have e1 := hn v v1
      have e2 := a4 u hu v v1 v2
      by_cases e3 : H u = H v + 1
      · exact absurd v2 (e1 e3)
      · omega
  have val : ∀ x, x < 16 → ∀ y, y < 16 → 0 < L (x * 16 + y) → fl_pu H u (m + 1) x ≤ fl_pu H u (m + 1) y + 1 := by
    intro x hx y hy hL
    by_cases ex : x = u
    · subst ex
      rw [fl_pus]
      by_cases ey : y = x
      · rw [ey, fl_pus]; omega
      · rw [fl_pun ey]
        have := h1 y hy hL
        omega
    · rw [fl_pun ex]
      have e1 := a4 x hx y hy hL
      by_cases ey : y = u
      · rw [ey, fl_pus]; rw [ey] at e1; omega
      · rw [fl_pun ey]; exact e1
  have hs1 : fl_pu H u (m + 1) s = 16 := by rw [fl_pun (Ne.symm hus)]; exact a1
  have h31 := fl_P2 hC h hs hu hus hE hs1 val
  rw [fl_pus] at h31
  refine ⟨⟨hs1, by rw [fl_pun (Ne.symm hut)]; exact a2, fun v hv => ?_, val⟩, ?_⟩
  · by_cases ev : v = u
    · rw [ev, fl_pus]
      have := a3 u hu
      omega
    · rw [fl_pun ev]; exact a3 v hv
  · rw [fl_ph_H _ hu hus hut]
    have hb := (fl_E_b hs h hB).2.2 u hu hus
    have := Int.mul_pos (a := m + 1 - H u) (b := 1981 - E u) (by omega) (by omega)
    omega
theorem fl_P5 {C L E H : Nat → Int} {s t u v : Nat} {a : Int} (h : fl_Pf C L E s) (hH : fl_Hv L H s t) (hu : u < 16) (hv : v < 16) (hus : u ≠ s) (hut : u ≠ t) (hd : H u = H v + 1) (h1 : 1 ≤ a) (h2 : a ≤ E u) (h3 : a ≤ L (u * 16 + v)) :
    fl_Pf C (fl_mv L u v a) (fl_pe E u v a) s ∧ fl_Hv (fl_mv L u v a) H s t ∧ fl_ph H (fl_pe E u v a) s t ≤ fl_ph H E s t - 1 := by
  obtain ⟨a1, a2, a3, a4⟩ := hH
  have huv : v ≠ u := fun z => by rw [z] at hd; omega
  refine ⟨fl_P1 h hu hv (by omega) h3 (fun _ => h2), ⟨a1, a2, a3, fun x hx y hy hL => ?_⟩, ?_⟩
  · rw [fl_mv_at a hu hv hx hy] at hL
    by_cases e : x = v ∧ y = u
    · rw [e.1, e.2]; omega
    · rw [if_neg e] at hL
      refine a4 x hx y hy ?_
      split at hL <;> omega
  · unfold fl_pe
    rw [fl_ph_E _ hv, fl_ph_E _ hu, fl_pun huv, if_neg (show ¬ (u = s ∨ u = t) by omega)]
    have e1 : (E u - a - E u) * H u = - (a * H u) := by
      rw [show E u - a - E u = -a by omega, Int.neg_mul]
    have e2 : (E v + a - E v) * H v = a * H v := by
      rw [show E v + a - E v = a by omega]
    have e3 : a * H u = a * H v + a := by rw [hd, Int.mul_add, Int.mul_one]
    have e4 := Int.mul_nonneg (show 0 ≤ a by omega) (a3 v hv).1
    rw [e1, e2]
    split <;> omega
theorem fl_P6 {C L E : Nat → Int} {s i : Nat} (h : fl_Pf C L E s) (hs : s < 16) (hi : i < 16) (h0 : ∀ w, w < i → w ≠ s → L (s * 16 + w) = 0) :
    fl_Pf C (fl_mv L s i (L (s * 16 + i))) (fl_pe E s i (L (s * 16 + i))) s ∧ ∀ w, w < i + 1 → w ≠ s → fl_mv L s i (L (s * 16 + i)) (s * 16 + w) = 0 := by
  refine ⟨fl_P1 h hs hi (h.1 s hs i hi).1 (Int.le_refl _) (fun z => absurd rfl z), fun w hw hws => ?_⟩
  rw [fl_mv_at _ hs hi hs (by omega), if_neg (show ¬ (s = i ∧ w = s) by omega)]
  by_cases e : w = i
  · subst e; simp
  · rw [if_neg (by omega), h0 w (by omega) hws]; rfl
theorem fl_P7 {L H : Nat → Int} {s t : Nat} (hst : s ≠ t) (ht : t < 16) (h0 : ∀ w, w < 16 → w ≠ s → L (s * 16 + w) = 0) (hs : H s = 16) (hH : ∀ v, v < 16 → v ≠ s → H v = 0) : fl_Hv L H s t := by
  refine ⟨hs, hH t ht (Ne.symm hst), fun v hv => ?_, fun u hu v hv hL => ?_⟩
  · by_cases e : v = s
    · rw [e, hs]; omega
    · rw [hH v hv e]; omega
  · by_cases e : v = s
    · rw [e, hs]
      by_cases e2 : u = s
      · rw [e2, hs]; omega
      · rw [hH u hu e2]; omega
    · by_cases e2 : u = s
      · rw [e2, h0 v hv e] at hL; omega
      · rw [hH u hu e2, hH v hv e]; omega
end
section
/-- what the arcs before n that leave S carry, none more than most -/
def fl_cs (pr : Nat → Bool) (st en : Nat → Nat) (rm : Nat → Int) (ext : Nat) (most : Int) (S : Nat → Bool) (n : Nat) : Int :=
  fl_S n (fun j => if pr j && (S (st j + ext) && !S (en j)) then (if rm j < most then rm j else most) else 0)
def fl_La (pr : Nat → Bool) (st en : Nat → Nat) (rm : Nat → Int) (ext : Nat) (most : Int) (L : Nat → Int) (k : Nat) : Prop :=
  (∀ S, fl_cut L S = fl_cs pr st en rm ext most S k) ∧ (∀ i, i < 256 → 0 ≤ L i ∧ L i ≤ 99 * (k : Int)) ∧ (∀ i, i < 256 → i / 16 < ext → L i = 0)
theorem fl_La0 {pr : Nat → Bool} {st en : Nat → Nat} {rm : Nat → Int} {ext : Nat} {most : Int} {L : Nat → Int} (h : ∀ i, i < 256 → L i = 0) : fl_La pr st en rm ext most L 0 := by
  refine ⟨fun S => ?_, fun i hi => by rw [h i hi]; omega, fun i hi _ => h i hi⟩
  show fl_cut L S = 0
  exact fl_cut_0 (fun u hu v hv _ _ => h _ (by omega))
theorem fl_La1 {pr : Nat → Bool} {st en : Nat → Nat} {rm : Nat → Int} {ext k : Nat} {most : Int} {L : Nat → Int} (h : fl_La pr st en rm ext most L k) (hp : pr k = false) : fl_La pr st en rm ext most L (k + 1) := by
  obtain ⟨a, b, c⟩ := h
  refine ⟨fun S => ?_, fun i hi => ?_, c⟩
  · unfold fl_cs
    rw [fl_Ss]
    show _ = fl_cs pr st en rm ext most S k + (if pr k && (S (st k + ext) && !S (en k)) then (if rm k < most then rm k else most) else 0)
    rw [a S, hp]; simp
  · have := b i hi
    omega
theorem fl_La2 {pr : Nat → Bool} {st en : Nat → Nat} {rm : Nat → Int} {ext k : Nat} {most : Int} {L : Nat → Int} (h : fl_La pr st en rm ext most L k) (hp : pr k = true) (h1 : st k + ext < 16) (h2 : en k < 16) (h3 : 0 ≤ rm k ∧ rm k ≤ 99) (h4 : 0 ≤ most) {x : Int} (hx : x = L ((st k + ext) * 16 + en k) + (if rm k < most then rm k else most)) :
    fl_La pr st en rm ext most (fl_pu L ((st k + ext) * 16 + en k) x) (k + 1) := by
  obtain ⟨a, b, c⟩ := h
  have hi0 : (st k + ext) * 16 + en k < 256 := by omega
  refine ⟨fun S => ?_, fun i hi => ?_, fun i hi hl => ?_⟩
  · unfold fl_cs
    rw [fl_Ss]
    show _ = fl_cs pr st en rm ext most S k + (if pr k && (S (st k + ext) && !S (en k)) then (if rm k < most then rm k else most) else 0)
    rw [fl_cut_pu L S x hi0, a S, hp, hx]
    have e1 : ((st k + ext) * 16 + en k) / 16 = st k + ext := by omega
    have e2 : ((st k + ext) * 16 + en k) % 16 = en k := by omega
    rw [e1, e2, Bool.true_and]
    cases S (st k + ext) && !S (en k)
    · simp
    · simp; omega
  · by_cases e : i = (st k + ext) * 16 + en k
    · rw [e, fl_pus, hx]
      have := b _ hi0
      split <;> omega
    · rw [fl_pun e]
      have := b i hi
      omega
  · rw [fl_pun (by omega)]; exact c i hi hl
theorem fl_La_ok {pr : Nat → Bool} {st en : Nat → Nat} {rm : Nat → Int} {ext : Nat} {most : Int} {L : Nat → Int} (h : fl_La pr st en rm ext most L 20) : fl_ok L := by
  intro u hu v hv
  have h1 := h.2.1 (u * 16 + v) (by omega)
  have h2 := h.2.1 (v * 16 + u) (by omega)
  omega
theorem fl_cs_le {pr : Nat → Bool} {st en : Nat → Nat} {rm : Nat → Int} {ext : Nat} {most : Int} (S : Nat → Bool) (h : ∀ k, k < 20 → pr k = true → 0 ≤ rm k ∧ rm k ≤ 99) (hm : 0 ≤ most) : 0 ≤ fl_cs pr st en rm ext most S 20 ∧ fl_cs pr st en rm ext most S 20 ≤ 1980 := by
  have key : ∀ j, j < 20 → 0 ≤ (if pr j && (S (st j + ext) && !S (en j)) then (if rm j < most then rm j else most) else 0) ∧ (if pr j && (S (st j + ext) && !S (en j)) then (if rm j < most then rm j else most) else 0) ≤ 99 := by
    intro j hj
    by_cases e : (pr j && (S (st j + ext) && !S (en j))) = true
    · rw [if_pos e]
      rw [Bool.and_eq_true] at e
      have := h j hj e.1
      split <;> omega
    · rw [if_neg e]; omega
  constructor
  · exact fl_nonneg (fun j hj => (key j hj).1)
  · have := fl_le (n := 20) (f := fun j => if pr j && (S (st j + ext) && !S (en j)) then (if rm j < most then rm j else most) else 0) (g := fun _ => 99) (fun j hj => (key j hj).2)
    rw [fl_const] at this
    exact this
/-- what the points before n that S cuts let through -/
def fl_ps (much : Int) (S : Nat → Bool) (n : Nat) : Int := fl_S n (fun p => if S p && !S (p + 8) then much else 0)
def fl_Lp (B : (Nat → Bool) → Int) (much : Int) (L : Nat → Int) (n : Nat) : Prop :=
  (∀ S, fl_cut L S = B S + fl_ps much S n) ∧ (∀ i, i < 256 → 0 ≤ L i ∧ L i ≤ 1980) ∧ ∀ p, n ≤ p → p < 8 → L (p * 16 + p + 8) = 0
theorem fl_Lp1 {B : (Nat → Bool) → Int} {much : Int} {L : Nat → Int} {n : Nat} (h : fl_Lp B much L n) (hn : n < 8) (hm : 0 ≤ much ∧ much ≤ 99) : fl_Lp B much (fl_pu L (n * 16 + n + 8) much) (n + 1) := by
  obtain ⟨a, b, c⟩ := h
  refine ⟨fun S => ?_, fun i hi => ?_, fun p hp h8 => ?_⟩
  · rw [fl_cut_pu L S much (by omega), a S, c n (Nat.le_refl _) hn]
    have e1 : (n * 16 + n + 8) / 16 = n := by omega
    have e2 : (n * 16 + n + 8) % 16 = n + 8 := by omega
    rw [e1, e2]
    show _ = B S + (fl_ps much S n + (if S n && !S (n + 8) then much else 0))
    rw [Int.sub_zero]; omega
  · by_cases e : i = n * 16 + n + 8
    · rw [e, fl_pus]; omega
    · rw [fl_pun e]; exact b i hi
  · rw [fl_pun (by omega)]; exact c p (by omega) h8
theorem fl_Lp_ok {B : (Nat → Bool) → Int} {much : Int} {L : Nat → Int} {n : Nat} (h : fl_Lp B much L n) : fl_ok L := by
  intro u hu v hv
  have h1 := h.2.1 (u * 16 + v) (by omega)
  have h2 := h.2.1 (v * 16 + u) (by omega)
  omega
end
section
theorem fl_bt {n i : Nat} (hi : i < 32) : bt (nI n) i = n.testBit i := by
  show (BitVec.ofNat 32 n).getLsbD i = n.testBit i
  rw [BitVec.getLsbD_ofNat]; simp [hi]
theorem fl_mask (S : Nat → Bool) : ∀ n, ∃ m, m < 2 ^ n ∧ ∀ p, p < n → m.testBit p = S p := by
  intro n
  induction n with
  | zero => exact ⟨0, by decide, fun p hp => by omega⟩
  | succ n ih =>
    obtain ⟨m, hm, hb⟩ := ih
    cases hS : S n with
    | false =>
      refine ⟨m, by rw [Nat.pow_succ]; omega, fun p hp => ?_⟩
      by_cases e : p = n
      · rw [e, hS]; exact Nat.testBit_lt_two_pow hm
      · exact hb p (by omega)
    | true =>
      refine ⟨2 ^ n + m, by rw [Nat.pow_succ]; omega, fun p hp => ?_⟩
      by_cases e : p = n
      · rw [e, hS, Nat.testBit_two_pow_add_eq, Nat.testBit_lt_two_pow hm]; rfl
      · rw [Nat.testBit_two_pow_add_gt (by omega)]; exact hb p (by omega)
def fl_Ev (Sd : Nat → Prop) (sz : Nat → Int) (m : Int) (f : Nat → Int32) (i : Nat) (ev : Int32) : Prop := ∀ b, b < 32 → (bt ev b = true ↔ ∀ j, j < i → Sd j → sz j = m → bt (f j) b = true)
def fl_So (Sd : Nat → Prop) (sz : Nat → Int) (m : Int) (f : Nat → Int32) (i : Nat) (so : Int32) : Prop := ∀ b, b < 32 → (bt so b = true ↔ ∃ j, j < i ∧ Sd j ∧ sz j = m ∧ bt (f j) b = true)
theorem fl_Ev_u {Sd : Nat → Prop} {sz : Nat → Int} {m : Int} {f : Nat → Int32} {i : Nat} {x y : Int32} (hx : fl_Ev Sd sz m f i x) (hy : fl_Ev Sd sz m f i y) : x = y := by
  apply b_ext
  intro b hb
  rw [Bool.eq_iff_iff, hx b hb, hy b hb]
theorem fl_So_u {Sd : Nat → Prop} {sz : Nat → Int} {m : Int} {f : Nat → Int32} {i : Nat} {x y : Int32} (hx : fl_So Sd sz m f i x) (hy : fl_So Sd sz m f i y) : x = y := by
  apply b_ext
  intro b hb
  rw [Bool.eq_iff_iff, hx b hb, hy b hb]
theorem fl_Ev_new {Sd : Nat → Prop} {sz : Nat → Int} {m : Int} {f : Nat → Int32} {i : Nat} (hm : ∀ j, j < i → Sd j → m ≤ sz j) (hs : Sd i) (hl : sz i < m) : fl_Ev Sd sz (sz i) f (i + 1) (f i) := by
  intro b hb
  constructor
  · intro h j hj hd he
    by_cases e : j = i
    · rw [e]; exact h
    · have := hm j (by omega) hd
      omega
  · intro h; exact h i (by omega) hs rfl
theorem fl_So_new {Sd : Nat → Prop} {sz : Nat → Int} {m : Int} {f : Nat → Int32} {i : Nat} (hm : ∀ j, j < i → Sd j → m ≤ sz j) (hs : Sd i) (hl : sz i < m) : fl_So Sd sz (sz i) f (i + 1) (f i) := by
  intro b hb
  constructor
  · intro h; exact ⟨i, by omega, hs, rfl, h⟩
  · rintro ⟨j, hj, hd, he, h⟩
    by_cases e : j = i
    · rw [← e]; exact h
    · have := hm j (by omega) hd
      omega
theorem fl_Ev_eq {Sd : Nat → Prop} {sz : Nat → Int} {m : Int} {f : Nat → Int32} {i : Nat} {ev : Int32} (h : fl_Ev Sd sz m f i ev) (hs : Sd i) (he : sz i = m) : fl_Ev Sd sz m f (i + 1) (ev &&& f i) := by
  intro b hb
  rw [b_and, Bool.and_eq_true, h b hb]
  constructor
  · rintro ⟨h1, h2⟩ j hj hd hz
    by_cases e : j = i
    · rw [e]; exact h2
    · exact h1 j (by omega) hd hz
  · intro h1; exact ⟨fun j hj hd hz => h1 j (by omega) hd hz, h1 i (by omega) hs he⟩
theorem fl_So_eq {Sd : Nat → Prop} {sz : Nat → Int} {m : Int} {f : Nat → Int32} {i : Nat} {so : Int32} (h : fl_So Sd sz m f i so) (hs : Sd i) (he : sz i = m) : fl_So Sd sz m f (i + 1) (so ||| f i) := by
  intro b hb
  rw [b_or, Bool.or_eq_true, h b hb]
  constructor
  · rintro (⟨j, hj, hd, hz, h1⟩ | h1)
    · exact ⟨j, by omega, hd, hz, h1⟩
    · exact ⟨i, by omega, hs, he, h1⟩
  · rintro ⟨j, hj, hd, hz, h1⟩
    by_cases e : j = i
    · exact Or.inr (e ▸ h1)
    · exact Or.inl ⟨j, by omega, hd, hz, h1⟩
theorem fl_Ev_no {Sd : Nat → Prop} {sz : Nat → Int} {m : Int} {f : Nat → Int32} {i : Nat} {ev : Int32} (h : fl_Ev Sd sz m f i ev) (hs : Sd i → sz i ≠ m) : fl_Ev Sd sz m f (i + 1) ev := by
  intro b hb
  rw [h b hb]
  constructor
  · intro h1 j hj hd hz
    by_cases e : j = i
    · exact absurd (e ▸ hz) (hs (e ▸ hd))
    · exact h1 j (by omega) hd hz
  · intro h1 j hj hd hz; exact h1 j (by omega) hd hz
theorem fl_So_no {Sd : Nat → Prop} {sz : Nat → Int} {m : Int} {f : Nat → Int32} {i : Nat} {so : Int32} (h : fl_So Sd sz m f i so) (hs : Sd i → sz i ≠ m) : fl_So Sd sz m f (i + 1) so := by
  intro b hb
  rw [h b hb]
  constructor
  · rintro ⟨j, hj, hd, hz, h1⟩; exact ⟨j, by omega, hd, hz, h1⟩
  · rintro ⟨j, hj, hd, hz, h1⟩
    by_cases e : j = i
    · exact absurd (e ▸ hz) (hs (e ▸ hd))
    · exact ⟨j, by omega, hd, hz, h1⟩
/-- what studySides has found of the sides before i -/
def fl_Stu (B : Int) (Sd : Nat → Prop) (sz : Nat → Int) (ct : Nat → Int32) (i : Nat) (m : Int) (ev so ce cs : Int32) : Prop :=
  (∀ j, j < i → Sd j → m ≤ sz j) ∧ ((m = B ∧ ∀ j, j < i → ¬ Sd j) ∨ ((∃ j, j < i ∧ Sd j ∧ sz j = m) ∧ fl_Ev Sd sz m nI i ev ∧ fl_So Sd sz m nI i so ∧ fl_Ev Sd sz m ct i ce ∧ fl_So Sd sz m ct i cs))
theorem fl_Stu0 {B : Int} {Sd : Nat → Prop} {sz : Nat → Int} {ct : Nat → Int32} {ev so ce cs : Int32} : fl_Stu B Sd sz ct 0 B ev so ce cs := ⟨fun j hj => by omega, Or.inl ⟨rfl, fun j hj => by omega⟩⟩
theorem fl_Stu1 {B : Int} {Sd : Nat → Prop} {sz : Nat → Int} {ct : Nat → Int32} {i : Nat} {m : Int} {ev so ce cs : Int32} (h : fl_Stu B Sd sz ct i m ev so ce cs) (hn : ¬ Sd i) : fl_Stu B Sd sz ct (i + 1) m ev so ce cs := by
  obtain ⟨h1, h2⟩ := h
  refine ⟨fun j hj hd => ?_, ?_⟩
  · by_cases e : j = i
    · exact absurd (e ▸ hd) hn
    · exact h1 j (by omega) hd
  · rcases h2 with ⟨h3, h4⟩ | ⟨⟨j, j1, j2, j3⟩, a, b, c, d⟩
    · refine Or.inl ⟨h3, fun j hj hd => ?_⟩
      by_cases e : j = i
      · exact absurd (e ▸ hd) hn
      · exact h4 j (by omega) hd
    · exact Or.inr ⟨⟨j, by omega, j2, j3⟩, fl_Ev_no a (fun z => absurd z hn), fl_So_no b (fun z => absurd z hn), fl_Ev_no c (fun z => absurd z hn), fl_So_no d (fun z => absurd z hn)⟩
theorem fl_Stu2 {B : Int} {Sd : Nat → Prop} {sz : Nat → Int} {ct : Nat → Int32} {i : Nat} {m : Int} {ev so ce cs : Int32} (h : fl_Stu B Sd sz ct i m ev so ce cs) (hs : Sd i) (hl : sz i < m) : fl_Stu B Sd sz ct (i + 1) (sz i) (nI i) (nI i) (ct i) (ct i) := by
  obtain ⟨h1, _⟩ := h
  refine ⟨fun j hj hd => ?_, Or.inr ⟨⟨i, by omega, hs, rfl⟩, fl_Ev_new h1 hs hl, fl_So_new h1 hs hl, fl_Ev_new h1 hs hl, fl_So_new h1 hs hl⟩⟩
  by_cases e : j = i
  · rw [e]; exact Int.le_refl _
  · have := h1 j (by omega) hd
    omega
theorem fl_Stu3 {B : Int} {Sd : Nat → Prop} {sz : Nat → Int} {ct : Nat → Int32} {i : Nat} {m : Int} {ev so ce cs : Int32} (h : fl_Stu B Sd sz ct i m ev so ce cs) (hs : Sd i) (hb : sz i < B) (he : sz i = m) : fl_Stu B Sd sz ct (i + 1) m (ev &&& nI i) (so ||| nI i) (ce &&& ct i) (cs ||| ct i) := by
  obtain ⟨h1, h2⟩ := h
  refine ⟨fun j hj hd => ?_, ?_⟩
  · by_cases e : j = i
    · rw [e, he]; exact Int.le_refl _
    · exact h1 j (by omega) hd
  · rcases h2 with ⟨h3, h4⟩ | ⟨⟨j, j1, j2, j3⟩, a, b, c, d⟩
    · omega
    · exact Or.inr ⟨⟨j, by omega, j2, j3⟩, fl_Ev_eq a hs he, fl_So_eq b hs he, fl_Ev_eq c hs he, fl_So_eq d hs he⟩
theorem fl_Stu4 {B : Int} {Sd : Nat → Prop} {sz : Nat → Int} {ct : Nat → Int32} {i : Nat} {m : Int} {ev so ce cs : Int32} (h : fl_Stu B Sd sz ct i m ev so ce cs) (hb : sz i < B) (hl : m < sz i) : fl_Stu B Sd sz ct (i + 1) m ev so ce cs := by
  obtain ⟨h1, h2⟩ := h
  refine ⟨fun j hj hd => ?_, ?_⟩
  · by_cases e : j = i
    · rw [e]; omega
    · exact h1 j (by omega) hd
  · rcases h2 with ⟨h3, h4⟩ | ⟨⟨j, j1, j2, j3⟩, a, b, c, d⟩
    · omega
    · exact Or.inr ⟨⟨j, by omega, j2, j3⟩, fl_Ev_no a (fun _ z => by omega), fl_So_no b (fun _ z => by omega), fl_Ev_no c (fun _ z => by omega), fl_So_no d (fun _ z => by omega)⟩
theorem fl_Stu_u {B B' : Int} {Sd : Nat → Prop} {sz : Nat → Int} {ct : Nat → Int32} {n : Nat} {m m' : Int} {ev so ce cs ev' so' ce' cs' : Int32} (h : fl_Stu B Sd sz ct n m ev so ce cs) (h' : fl_Stu B' Sd sz ct n m' ev' so' ce' cs') (hj : ∃ j, j < n ∧ Sd j) :
    m = m' ∧ ev = ev' ∧ so = so' ∧ ce = ce' ∧ cs = cs' := by
  obtain ⟨h1, h2⟩ := h
  obtain ⟨h1', h2'⟩ := h'
  obtain ⟨j, j1, j2⟩ := hj
  rcases h2 with ⟨_, h3⟩ | ⟨⟨i, i1, i2, i3⟩, a, b, c, d⟩
  · exact absurd j2 (h3 j j1)
  · rcases h2' with ⟨_, h3⟩ | ⟨⟨i', i1', i2', i3'⟩, a', b', c', d'⟩
    · exact absurd j2 (h3 j j1)
    · have e1 := h1 i' i1' i2'
      have e2 := h1' i i1 i2
      have e : m = m' := by omega
      subst e
      exact ⟨rfl, fl_Ev_u a a', fl_So_u b b', fl_Ev_u c c', fl_So_u d d'⟩
end
section
theorem fl_vun (a : Nat → Int32) (k : Nat) {n : Nat} (hn : n < 2 ^ 31) : fl_v (upd a k (nI n)) = fl_pu (fl_v a) k (n : Int) := by
  rw [fl_vu, nI_toInt hn]
theorem fl_m1 : (-1 : Int32).toInt = -1 := by decide
theorem fl_z0 : (0 : Int32).toInt = 0 := by decide
theorem fl_nm {n : Nat} (hn : n < 2 ^ 31) : ¬ nI n = (-1 : Int32) := fun h => by
  have h2 := congrArg Int32.toInt h
  rw [nI_toInt hn, fl_m1] at h2; omega
/-- two different points -/
def fl_Two (p q : Int32) : Prop := ∃ a b : Nat, a < 8 ∧ b < 8 ∧ a ≠ b ∧ p = nI a ∧ q = nI b
def fl_Rm (p : Int32) : Prop := 0 ≤ p.toInt ∧ p.toInt ≤ 99
def fl_Pt (p : Int32) : Prop := ∃ a : Nat, a < 8 ∧ p = nI a
theorem fl_Pt_lo {p : Int32} (h : p < 0) : ¬ fl_Pt p := fun ⟨a, ha, e⟩ => nI_pos (n := a) (by omega) (e ▸ h)
theorem fl_Pt_hi {p : Int32} (h : nI 8 ≤ p) : ¬ fl_Pt p := fun ⟨a, ha, e⟩ => nI_ge (a := a) (b := 8) ha (by decide) (e ▸ h)
theorem xw_point {post : Int32 → Prop} {u : SX} {p : Int32} (h1 : fl_Pt p → post 1) (h0 : ¬ fl_Pt p → post 0) : wpX_isPoint post u p := by
  unfold wpX_isPoint
  rcases pk_ix p (n := 8) (by omega) with h | h | ⟨j, hj, rfl⟩
  · exact br_t h (h0 (fl_Pt_lo h))
  · exact br_c (fun _ => h0 (fl_Pt_hi h)) (fun _ => br_t h (h0 (fl_Pt_hi h)))
  · exact br_f (nI_pos (by omega)) (br_f (nI_ge (b := 8) hj (by decide)) (h1 ⟨j, hj, rfl⟩))
theorem xw_ends {post : Int32 → Prop} {u : SX} {p q : Int32} (h1 : fl_Two p q → post 1) (h0 : ¬ fl_Two p q → post 0) : wpX_areEnds post u p q := by
  unfold wpX_areEnds
  refine xw_point (fun hp => br_f (by decide) (xw_point (fun hq => br_f (by decide) ?_) (fun hq => br_t rfl (h0 ?_)))) (fun hp => br_t rfl (h0 ?_))
  · refine br_c (fun e => h0 ?_) (fun e => h1 ?_)
    · rintro ⟨a, b, ha, hb, hab, ea, eb⟩
      rw [ea, eb, nI_eq (by omega) (by omega)] at e; exact hab e
    · obtain ⟨a, ha, ea⟩ := hp
      obtain ⟨b, hb, eb⟩ := hq
      exact ⟨a, b, ha, hb, fun z => e (by rw [ea, eb, z]), ea, eb⟩
  · rintro ⟨a, b, ha, hb, hab, ea, eb⟩; exact hq ⟨b, hb, eb⟩
  · rintro ⟨a, b, ha, hb, hab, ea, eb⟩; exact hp ⟨a, ha, ea⟩
theorem xw_room {post : Int32 → Prop} {u : SX} {p : Int32} (h1 : fl_Rm p → post 1) (h0 : ¬ fl_Rm p → post 0) : wpX_isRoom post u p := by
  unfold wpX_isRoom
  refine fl_cl (fun h => h0 ?_) (fun h => fl_cl (fun h2 => h0 ?_) (fun h2 => h1 ?_))
  · rw [fl_z0] at h; intro z; have := z.1; omega
  · rw [show (99 : Int32).toInt = 99 by decide] at h2; intro z; have := z.2; omega
  · rw [fl_z0] at h
    rw [show (99 : Int32).toInt = 99 by decide] at h2
    exact ⟨by omega, by omega⟩
theorem xw_holds {post : Int32 → Prop} {u : SX} {x : Int32} {j : Nat} (hj : j < 32) (h1 : bt x j = true → post 1) (h0 : bt x j = false → post 0) : wpX_holds post u x (nI j) := by
  unfold wpX_holds
  refine br_c (fun h => h1 ((fl_bit hj).1.mp h)) (fun h => h0 ?_)
  cases e : bt x j
  · rfl
  · exact absurd ((fl_bit hj).1.mpr e) h
def fl_Arc (pr p : Int32) : Prop := ∃ k : Nat, k < 20 ∧ p = nI k ∧ bt pr k = true
theorem xw_isArc {post : Int32 → Prop} {f_present f_leastSize f_inEvery f_inSome f_cutByEvery f_cutBySome : Int32} {a_start a_end a_rooms a_left a_from a_line a_level a_width a_done a_height a_excess : Nat → Int32} {p : Int32} (h1 : fl_Arc f_present p → post 1) (h0 : ¬ fl_Arc f_present p → post 0) : wpX_isArc post (f_present, f_leastSize, f_inEvery, f_inSome, f_cutByEvery, f_cutBySome, a_start, a_end, a_rooms, a_left, a_from, a_line, a_level, a_width, a_done, a_height, a_excess) p := by
  show (p < 0 → post 0) ∧ (¬ p < 0 → _)
  rcases pk_ix p (n := 20) (by omega) with h | h | ⟨j, hj, rfl⟩
  · exact br_t h (h0 (fun ⟨k, hk, e, _⟩ => nI_pos (n := k) (by omega) (e ▸ h)))
  · have hn : ¬ fl_Arc f_present p := fun ⟨k, hk, e, _⟩ => nI_ge (a := k) (b := 20) hk (by decide) (e ▸ h)
    exact br_c (fun _ => h0 hn) (fun _ => br_t h (h0 hn))
  · refine br_f (nI_pos (by omega)) (br_f (nI_ge (b := 20) hj (by decide)) (xw_holds (by omega) (fun hb => br_f (by decide) (h1 ⟨j, hj, rfl, hb⟩)) (fun hb => br_t rfl (h0 ?_))))
    rintro ⟨k, hk, e, hb2⟩
    rw [nI_eq (by omega) (by omega)] at e
    subst e
    rw [hb] at hb2; cases hb2
theorem xw_lesser {post : Int32 → Prop} {u : SX} {p q : Int32} (h : ∀ r : Int32, (r = p ∨ r = q) → r.toInt ≤ p.toInt → r.toInt ≤ q.toInt → post r) : wpX_lesser post u p q := by
  unfold wpX_lesser
  refine fl_cle (fun e => h q (Or.inr rfl) e (Int.le_refl _)) (fun e => h p (Or.inl rfl) (Int.le_refl _) (by omega))
theorem xw_move {post : SX → Prop} {f_present f_leastSize f_inEvery f_inSome f_cutByEvery f_cutBySome : Int32} {a_start a_end a_rooms a_left a_from a_line a_level a_width a_done a_height a_excess : Nat → Int32} {u v : Nat} {a : Int32} (hu : u < 16) (hv : v < 16) (h0 : 0 ≤ a.toInt) (h1 : a.toInt ≤ 100000) (hok : fl_ok (fl_v a_left))
    (h : ∀ l, fl_v l = fl_mv (fl_v a_left) u v a.toInt → post (f_present, f_leastSize, f_inEvery, f_inSome, f_cutByEvery, f_cutBySome, a_start, a_end, a_rooms, l, a_from, a_line, a_level, a_width, a_done, a_height, a_excess)) : wpX_move post (f_present, f_leastSize, f_inEvery, f_inSome, f_cutByEvery, f_cutBySome, a_start, a_end, a_rooms, a_left, a_from, a_line, a_level, a_width, a_done, a_height, a_excess) (nI u) (nI v) a := by
  show vp_in _ 256 ∧ _
  have i1 := fl_ixi hu hv
  have i2 := fl_ixi hv hu
  refine ⟨i1, i1, nm_e ⟨i2, i2, nm_e (h _ ?_)⟩⟩
  rw [fl_ixc hu hv, fl_ixc hv hu]
  have b1 := fl_ok_le hok hu hv
  have b2 := fl_ok_le hok hv hu
  have b1' : 0 ≤ (a_left (u * 16 + v)).toInt ∧ (a_left (u * 16 + v)).toInt ≤ 4000 := b1
  have b2' : 0 ≤ (a_left (v * 16 + u)).toInt ∧ (a_left (v * 16 + u)).toInt ≤ 4000 := b2
  have e1 : (a_left (u * 16 + v) - a).toInt = fl_v a_left (u * 16 + v) - a.toInt := fl_tsub (by omega) (by omega)
  have e2 : fl_v (upd a_left (u * 16 + v) (a_left (u * 16 + v) - a)) = fl_pu (fl_v a_left) (u * 16 + v) (fl_v a_left (u * 16 + v) - a.toInt) := by
    rw [fl_vu, e1]
  have e3 : (upd a_left (u * 16 + v) (a_left (u * 16 + v) - a) (v * 16 + u)).toInt = fl_pu (fl_v a_left) (u * 16 + v) (fl_v a_left (u * 16 + v) - a.toInt) (v * 16 + u) := congrFun e2 (v * 16 + u)
  have b3 : -100000 ≤ fl_pu (fl_v a_left) (u * 16 + v) (fl_v a_left (u * 16 + v) - a.toInt) (v * 16 + u) ∧ fl_pu (fl_v a_left) (u * 16 + v) (fl_v a_left (u * 16 + v) - a.toInt) (v * 16 + u) ≤ 4000 := by
    by_cases e : v * 16 + u = u * 16 + v
    · rw [e, fl_pus]; omega
    · rw [fl_pun e]; omega
  rw [fl_vu, fl_tadd (by rw [e3]; omega) (by rw [e3]; omega), e3, e2]
  rfl
end
section
theorem xw_forget_l {post : SX → Prop} {f_present f_leastSize f_inEvery f_inSome f_cutByEvery f_cutBySome : Int32} {a_start a_end a_rooms a_left a_line a_level a_width a_done a_height a_excess : Nat → Int32} {s : Nat} (hs : s < 16) (h : ∀ f, (∀ v, v < 16 → v ≠ s → fl_v f v = -1) → fl_v f s = (s : Int) → post (f_present, f_leastSize, f_inEvery, f_inSome, f_cutByEvery, f_cutBySome, a_start, a_end, a_rooms, a_left, f, a_line, a_level, a_width, a_done, a_height, a_excess)) :
    ∀ d j f, j + d = 16 → (∀ v, v < j → fl_v f v = -1) → wX_forgetPaths_2 post (nI s) f_present f_leastSize f_inEvery f_inSome f_cutByEvery f_cutBySome (d + 1) (nI j) a_start a_end a_rooms a_left f a_line a_level a_width a_done a_height a_excess := by
  intro d
  induction d with
  | zero =>
    intro j f hj hp
    have e : j = 16 := by omega
    subst e
    refine br_t (nI_le (a := 16) (b := 16) (by omega) (by decide)) ⟨vp_in_nI hs (by decide), nm_e (h _ ?_ ?_)⟩
    · intro v hv hvs
      rw [nI_clamp (by omega), fl_vun _ _ (by omega), fl_pun hvs]; exact hp v hv
    · rw [nI_clamp (by omega), fl_vun _ _ (by omega), fl_pus]
  | succ d ih =>
    intro j f hj hp
    refine br_f (nI_ge (b := 16) (by omega) (by decide)) ⟨vp_in_nI (by omega) (by decide), nm_e (nm_r (nI_1 j) (ih (j + 1) _ (by omega) ?_))⟩
    intro v hv
    rw [nI_clamp (by omega), fl_vu]
    by_cases e : v = j
    · rw [e, fl_pus]; decide
    · rw [fl_pun e]; exact hp v (by omega)
theorem xw_forget {post : SX → Prop} {f_present f_leastSize f_inEvery f_inSome f_cutByEvery f_cutBySome : Int32} {a_start a_end a_rooms a_left a_from a_line a_level a_width a_done a_height a_excess : Nat → Int32} {s : Nat} (hs : s < 16) (h : ∀ f, (∀ v, v < 16 → v ≠ s → fl_v f v = -1) → fl_v f s = (s : Int) → post (f_present, f_leastSize, f_inEvery, f_inSome, f_cutByEvery, f_cutBySome, a_start, a_end, a_rooms, a_left, f, a_line, a_level, a_width, a_done, a_height, a_excess)) : wpX_forgetPaths post (f_present, f_leastSize, f_inEvery, f_inSome, f_cutByEvery, f_cutBySome, a_start, a_end, a_rooms, a_left, a_from, a_line, a_level, a_width, a_done, a_height, a_excess) (nI s) :=
  ⟨17, xw_forget_l hs h 16 0 a_from rfl (fun v hv => by omega)⟩
theorem xw_unseen_l {post : Int32 → Prop} {f_present f_leastSize f_inEvery f_inSome f_cutByEvery f_cutBySome : Int32} {a_start a_end a_rooms a_left a_from a_line a_level a_width a_done a_height a_excess : Nat → Int32} {u : Nat} {g : Int32} (hu : u < 16)
    (h1 : ∀ v, v < 16 → fl_v a_from v = -1 → g.toInt ≤ fl_v a_left (u * 16 + v) → post (nI v))
    (h0 : (∀ v, v < 16 → fl_v a_from v = -1 → ¬ g.toInt ≤ fl_v a_left (u * 16 + v)) → post (-1)) :
    ∀ d j, j + d = 16 → (∀ v, v < j → fl_v a_from v = -1 → ¬ g.toInt ≤ fl_v a_left (u * 16 + v)) → wX_unseenAfter_2 post (nI u) g f_present f_leastSize f_inEvery f_inSome f_cutByEvery f_cutBySome a_start a_end a_rooms a_left a_from a_line a_level a_width a_done a_height a_excess (d + 1) (nI j) := by
  intro d
  induction d with
  | zero =>
    intro j hj hp
    have e : j = 16 := by omega
    subst e
    exact br_t (nI_le (a := 16) (b := 16) (by omega) (by decide)) (h0 hp)
  | succ d ih =>
    intro j hj hp
    refine br_f (nI_ge (b := 16) (by omega) (by decide)) ⟨vp_in_nI (by omega) (by decide), ?_⟩
    rw [nI_clamp (show j < 2 ^ 31 by omega)]
    refine fl_ce (fun hf => ⟨fl_ixi hu (by omega), ?_⟩) (fun hf => nm_r (nI_1 j) (ih (j + 1) (by omega) (lt_s hp (fun z => absurd z hf))))
    rw [fl_ixc hu (by omega)]
    refine fl_cl (fun hl => nm_r (nI_1 j) (ih (j + 1) (by omega) (lt_s hp (fun _ => Int.not_le.mpr hl)))) (fun hl => h1 j (by omega) hf (Int.not_lt.mp hl))
theorem xw_unseen {post : Int32 → Prop} {f_present f_leastSize f_inEvery f_inSome f_cutByEvery f_cutBySome : Int32} {a_start a_end a_rooms a_left a_from a_line a_level a_width a_done a_height a_excess : Nat → Int32} {u : Nat} {g : Int32} (hu : u < 16)
    (h1 : ∀ v, v < 16 → fl_v a_from v = -1 → g.toInt ≤ fl_v a_left (u * 16 + v) → post (nI v))
    (h0 : (∀ v, v < 16 → fl_v a_from v = -1 → ¬ g.toInt ≤ fl_v a_left (u * 16 + v)) → post (-1)) : wpX_unseenAfter post (f_present, f_leastSize, f_inEvery, f_inSome, f_cutByEvery, f_cutBySome, a_start, a_end, a_rooms, a_left, a_from, a_line, a_level, a_width, a_done, a_height, a_excess) (nI u) g :=
  ⟨17, xw_unseen_l hu h1 h0 16 0 rfl (fun v hv => by omega)⟩
theorem xw_deep_l {post : Int32 → SX → Prop} {f_present f_leastSize f_inEvery f_inSome f_cutByEvery f_cutBySome : Int32} {a_start a_end a_rooms a_left a_line a_level a_width a_done a_height a_excess : Nat → Int32} {s t : Nat} {g : Int32} (ht : t < 16)
    (h1 : ∀ f, fl_Fd (fl_v a_left) (fl_v f) s t g.toInt → post 1 (f_present, f_leastSize, f_inEvery, f_inSome, f_cutByEvery, f_cutBySome, a_start, a_end, a_rooms, a_left, f, a_line, a_level, a_width, a_done, a_height, a_excess)) (h0 : ∀ f, fl_Non (fl_v a_left) s t g.toInt → post 0 (f_present, f_leastSize, f_inEvery, f_inSome, f_cutByEvery, f_cutBySome, a_start, a_end, a_rooms, a_left, f, a_line, a_level, a_width, a_done, a_height, a_excess)) :
    ∀ d k u f, k + d = 32 → fl_Dk (fl_v a_left) (fl_v f) s t g.toInt u k → wX_searchDeep_11 post (nI t) g f_present f_leastSize f_inEvery f_inSome f_cutByEvery f_cutBySome (d + 1) (nI u) (nI k) a_start a_end a_rooms a_left f a_line a_level a_width a_done a_height a_excess := by
  intro d
  induction d with
  | zero =>
    intro k u f hk hD
    have e : k = 32 := by omega
    subst e
    exact br_t (nI_le (a := 32) (b := 32) (by omega) (by decide)) (h0 f (fl_D3 hD))
  | succ d ih =>
    intro k u f hk hD
    have hu : u < 16 := hD.2.2.1
    refine br_f (nI_ge (b := 32) (by omega) (by decide)) (xw_unseen hu (fun v hv hF hg => br_f (fl_nm (by omega)) ⟨vp_in_nI hv (by decide), nm_e ?_⟩) (fun hn => br_t rfl ⟨vp_in_nI hu (by decide), ?_⟩))
    · have hh := fl_D1 hD hv hF hg
      rw [← fl_vun f v (n := u) (by omega)] at hh
      rw [nI_clamp (show v < 2 ^ 31 by omega)]
      exact pk_eq v t (fun e => h1 _ (hh.1 e)) (fun e => nm_r (nI_1 k) (ih (k + 1) v _ (by omega) (hh.2 e)))
    · obtain ⟨p, hp, hFp, hpt, hD2⟩ := fl_D2 hD hn
      rw [nI_clamp (show u < 2 ^ 31 by omega)]
      refine nm_r (fl_tn hFp (by omega)) ?_
      exact pk_eq p t (fun e => absurd e hpt) (fun e => nm_r (nI_1 k) (ih (k + 1) p f (by omega) hD2))
theorem xw_deep {post : Int32 → SX → Prop} {f_present f_leastSize f_inEvery f_inSome f_cutByEvery f_cutBySome : Int32} {a_start a_end a_rooms a_left a_from a_line a_level a_width a_done a_height a_excess : Nat → Int32} {s t : Nat} {g : Int32} (hs : s < 16) (ht : t < 16) (hst : s ≠ t)
    (h1 : ∀ f, fl_Fd (fl_v a_left) (fl_v f) s t g.toInt → post 1 (f_present, f_leastSize, f_inEvery, f_inSome, f_cutByEvery, f_cutBySome, a_start, a_end, a_rooms, a_left, f, a_line, a_level, a_width, a_done, a_height, a_excess)) (h0 : ∀ f, fl_Non (fl_v a_left) s t g.toInt → post 0 (f_present, f_leastSize, f_inEvery, f_inSome, f_cutByEvery, f_cutBySome, a_start, a_end, a_rooms, a_left, f, a_line, a_level, a_width, a_done, a_height, a_excess)) : wpX_searchDeep post (f_present, f_leastSize, f_inEvery, f_inSome, f_cutByEvery, f_cutBySome, a_start, a_end, a_rooms, a_left, a_from, a_line, a_level, a_width, a_done, a_height, a_excess) (nI s) (nI t) g := by
  unfold wpX_searchDeep
  exact xw_forget hs (fun f hf hfs => ⟨33, xw_deep_l ht h1 h0 32 0 s f rfl (fl_D0 hs ht hst hf hfs)⟩)
end
section
theorem xw_fill2 {post : Int32 → SX → Prop} {f_present f_leastSize f_inEvery f_inSome f_cutByEvery f_cutBySome : Int32} {a_start a_end a_rooms a_from a_line a_level a_width a_done a_height a_excess : Nat → Int32} {s t : Nat} {g : Int} {x : Int32} {m : Nat} {c : Nat → Nat} {L : Nat → Int} (hC : fl_Ch L (fl_v a_from) s t g m c) (hok : fl_ok L) (h0 : 1 ≤ x.toInt) (h1 : x.toInt ≤ 1980) (ha : ∀ j, j < m → x.toInt ≤ L (c (j + 1) * 16 + c j))
    (h : ∀ l, fl_v l = fl_ms L c x.toInt m → post x (f_present, f_leastSize, f_inEvery, f_inSome, f_cutByEvery, f_cutBySome, a_start, a_end, a_rooms, l, a_from, a_line, a_level, a_width, a_done, a_height, a_excess)) :
    ∀ d i l, i + d = m → fl_v l = fl_ms L c x.toInt i → wX_fillPath_68 post (nI s) x (d + 1) (nI (c i)) (nI i) f_present f_leastSize f_inEvery f_inSome f_cutByEvery f_cutBySome a_start a_end a_rooms l a_from a_line a_level a_width a_done a_height a_excess := by
  have hm := hC.1
  have hc := hC.2.2.2.1
  intro d
  induction d with
  | zero =>
    intro i l hi hl
    have e : i = m := by omega
    subst e
    refine br_f (nI_ge (b := 16) (by omega) (by decide)) (br_t ?_ (h l hl))
    rw [hC.2.2.1]
  | succ d ih =>
    intro i l hi hl
    have hci := hc i (by omega)
    have hci1 := hc (i + 1) (by omega)
    have hF := (hC.2.2.2.2.2 i (by omega)).1
    have hFr : a_from (c i) = nI (c (i + 1)) := fl_tn hF (by omega)
    have hns : ¬ nI (c i) = nI s := by
      rw [nI_eq (by omega) (by have := hc m (by omega); rw [hC.2.2.1] at this; omega)]
      exact fl_Ch_ns hC (by omega)
    refine br_f (nI_ge (b := 16) (by omega) (by decide)) (br_f hns ⟨vp_in_nI hci (by decide), ?_⟩)
    rw [nI_clamp (show c i < 2 ^ 31 by omega), hFr]
    refine xw_move hci1 hci (by omega) (by omega) (by rw [hl]; exact fl_ms_ok hC hok (by omega) ha i (by omega)) (fun l2 hl2 => ⟨vp_in_nI hci (by decide), nm_r hFr (nm_r (nI_1 i) (ih (i + 1) l2 (by omega) ?_))⟩)
    rw [hl2, hl]; rfl
theorem xw_fill1 {post : Int32 → SX → Prop} {f_present f_leastSize f_inEvery f_inSome f_cutByEvery f_cutBySome : Int32} {a_start a_end a_rooms a_left a_from a_line a_level a_width a_done a_height a_excess : Nat → Int32} {s t : Nat} {g : Int} {m : Nat} {c : Nat → Nat} (hC : fl_Ch (fl_v a_left) (fl_v a_from) s t g m c) (hg : 1 ≤ g)
    (h : ∀ x : Int32, 1 ≤ x.toInt → x.toInt ≤ 1980 → (∀ j, j < m → x.toInt ≤ fl_v a_left (c (j + 1) * 16 + c j)) → ∃ n, wX_fillPath_68 post (nI s) x n (nI t) 0 f_present f_leastSize f_inEvery f_inSome f_cutByEvery f_cutBySome a_start a_end a_rooms a_left a_from a_line a_level a_width a_done a_height a_excess) :
    ∀ d i (x : Int32), i + d = m → 1 ≤ x.toInt → x.toInt ≤ 1980 → (∀ j, j < i → x.toInt ≤ fl_v a_left (c (j + 1) * 16 + c j)) → wX_fillPath_10 post (nI s) (nI t) f_present f_leastSize f_inEvery f_inSome f_cutByEvery f_cutBySome a_start a_end a_rooms a_left a_from a_line a_level a_width a_done a_height a_excess (d + 1) x (nI (c i)) (nI i) := by
  have hm := hC.1
  have hc := hC.2.2.2.1
  intro d
  induction d with
  | zero =>
    intro i x hi h1 h2 hx
    have e : i = m := by omega
    subst e
    refine br_f (nI_ge (b := 16) (by omega) (by decide)) (br_t ?_ (h x h1 h2 hx))
    rw [hC.2.2.1]
  | succ d ih =>
    intro i x hi h1 h2 hx
    have hci := hc i (by omega)
    have hci1 := hc (i + 1) (by omega)
    have hF := hC.2.2.2.2.2 i (by omega)
    have hFr : a_from (c i) = nI (c (i + 1)) := fl_tn hF.1 (by omega)
    have hns : ¬ nI (c i) = nI s := by
      rw [nI_eq (by omega) (by have := hc m (by omega); rw [hC.2.2.1] at this; omega)]
      exact fl_Ch_ns hC (by omega)
    refine br_f (nI_ge (b := 16) (by omega) (by decide)) (br_f hns ⟨vp_in_nI hci (by decide), ?_⟩)
    rw [nI_clamp (show c i < 2 ^ 31 by omega), hFr]
    refine ⟨fl_ixi hci1 hci, ?_⟩
    rw [fl_ixc hci1 hci]
    have hL : fl_v a_left (c (i + 1) * 16 + c i) = (a_left (c (i + 1) * 16 + c i)).toInt := rfl
    refine xw_lesser (fun r hr hr1 hr2 => ⟨vp_in_nI hci (by decide), nm_r rfl (nm_r (nI_1 i) (ih (i + 1) r (by omega) ?_ (by omega) ?_))⟩)
    · rcases hr with rfl | rfl
      · exact h1
      · have := hF.2
        omega
    · intro j hj
      by_cases e : j = i
      · subst e; rw [hL]; exact hr2
      · have := hx j (by omega)
        omega
theorem xw_fill {post : Int32 → SX → Prop} {f_present f_leastSize f_inEvery f_inSome f_cutByEvery f_cutBySome : Int32} {a_start a_end a_rooms a_left a_from a_line a_level a_width a_done a_height a_excess : Nat → Int32} {s t : Nat} {g : Int} {m : Nat} {c : Nat → Nat} (hC : fl_Ch (fl_v a_left) (fl_v a_from) s t g m c) (hg : 1 ≤ g) (hok : fl_ok (fl_v a_left))
    (h : ∀ l (x : Int32), 1 ≤ x.toInt → x.toInt ≤ 1980 → (∀ j, j < m → x.toInt ≤ fl_v a_left (c (j + 1) * 16 + c j)) → fl_v l = fl_ms (fl_v a_left) c x.toInt m → post x (f_present, f_leastSize, f_inEvery, f_inSome, f_cutByEvery, f_cutBySome, a_start, a_end, a_rooms, l, a_from, a_line, a_level, a_width, a_done, a_height, a_excess)) : wpX_fillPath post (f_present, f_leastSize, f_inEvery, f_inSome, f_cutByEvery, f_cutBySome, a_start, a_end, a_rooms, a_left, a_from, a_line, a_level, a_width, a_done, a_height, a_excess) (nI s) (nI t) := by
  have h0 := hC.2.1
  have k2 : ∀ x : Int32, 1 ≤ x.toInt → x.toInt ≤ 1980 → (∀ j, j < m → x.toInt ≤ fl_v a_left (c (j + 1) * 16 + c j)) → ∃ n, wX_fillPath_68 post (nI s) x n (nI t) 0 f_present f_leastSize f_inEvery f_inSome f_cutByEvery f_cutBySome a_start a_end a_rooms a_left a_from a_line a_level a_width a_done a_height a_excess := by
    intro x h1 h2 hx
    have k3 : wX_fillPath_68 post (nI s) x (m + 1) (nI (c 0)) (nI 0) f_present f_leastSize f_inEvery f_inSome f_cutByEvery f_cutBySome a_start a_end a_rooms a_left a_from a_line a_level a_width a_done a_height a_excess := xw_fill2 hC hok h1 h2 hx (fun l hl => h l x h1 h2 hx hl) m 0 a_left (by omega) rfl
    rw [h0] at k3
    exact ⟨m + 1, k3⟩
  have key : wX_fillPath_10 post (nI s) (nI t) f_present f_leastSize f_inEvery f_inSome f_cutByEvery f_cutBySome a_start a_end a_rooms a_left a_from a_line a_level a_width a_done a_height a_excess (m + 1) 1980 (nI (c 0)) (nI 0) := xw_fill1 hC hg k2 m 0 1980 (by omega) (by decide) (by decide) (fun j hj => by omega)
  rw [h0] at key
  exact ⟨m + 1, key⟩
end
section
theorem xw_broad70 {post : Int32 → SX → Prop} {J : Int32 → Int32 → (Nat → Int32) → (Nat → Int32) → (Nat → Int32) → (Nat → Int32) → (Nat → Int32) → (Nat → Int32) → (Nat → Int32) → (Nat → Int32) → (Nat → Int32) → (Nat → Int32) → (Nat → Int32) → Prop} {f_present f_leastSize f_inEvery f_inSome f_cutByEvery f_cutBySome : Int32} {a_start a_end a_rooms a_left a_width a_done a_height a_excess : Nat → Int32} {s t i u : Nat} (hi : i < 16)
    (hJ : ∀ w f v q ln, fl_Bq (fl_v a_left) (fl_v f) (fl_v v) (fl_v q) s (i + 1) w ln → J (nI w) (nI (i + 1)) a_start a_end a_rooms a_left f q v a_width a_done a_height a_excess) :
    ∀ d j w f v q ln, j + d = 16 → i < w → ln i = u → fl_Bq (fl_v a_left) (fl_v f) (fl_v v) (fl_v q) s i w ln → (∀ y, y < j → 0 < fl_v a_left (u * 16 + y) → fl_v f y ≠ -1) →
      wX_searchBroad_70 post J (nI t) (nI i) (nI u) f_present f_leastSize f_inEvery f_inSome f_cutByEvery f_cutBySome (d + 1) (nI w) (nI j) a_start a_end a_rooms a_left f q v a_width a_done a_height a_excess := by
  intro d
  induction d with
  | zero =>
    intro j w f v q ln hj hiw hu hB hp
    have e : j = 16 := by omega
    subst e
    refine br_t (nI_le (a := 16) (b := 16) (by omega) (by decide)) (nm_r (nI_1 i) (hJ w f v q ln (fl_Bq2 hB hiw ?_)))
    rw [hu]; exact hp
  | succ d ih =>
    intro j w f v q ln hj hiw hu hB hp
    have hw := fl_Bq_w hB
    have hui := hB.2.2.2.1 i hiw
    rw [hu] at hui
    have hVu := hB.2.2.1 u hui.2.1 hui.2.2
    have hun := fl_un_nn (fl_v f)
    have hVu' : 0 ≤ (v u).toInt ∧ (v u).toInt ≤ 15 := by
      have : fl_v v u = (v u).toInt := rfl
      omega
    refine br_f (nI_ge (b := 16) (by omega) (by decide)) ⟨vp_in_nI (by omega) (by decide), ?_⟩
    rw [nI_clamp (show j < 2 ^ 31 by omega)]
    refine fl_ce (fun hf => ⟨fl_ixi hui.2.1 (by omega), ?_⟩) (fun hf => nm_r (nI_1 j) (ih (j + 1) w f v q ln (by omega) hiw hu hB (lt_s hp (fun _ => hf))))
    rw [fl_ixc hui.2.1 (by omega)]
    refine fl_cle (fun hl => nm_r (nI_1 j) (ih (j + 1) w f v q ln (by omega) hiw hu hB (lt_s hp (fun z => absurd z (Int.not_lt.mpr hl))))) (fun hl => ?_)
    have hl2 : 0 < fl_v a_left (u * 16 + j) := Int.not_le.mp hl
    have hB1 := fl_Bq1 hB hiw (v := j) (by omega) hf (by rw [hu]; exact hl2)
    rw [hu] at hB1
    obtain ⟨hw16, hB1⟩ := hB1
    have e1 : (v u + 1).toInt = fl_v v u + 1 := fl_tadd (by rw [show (1 : Int32).toInt = 1 by decide]; omega) (by rw [show (1 : Int32).toInt = 1 by decide]; omega)
    rw [← fl_vun f j (n := u) (by omega), ← fl_vun q w (n := j) (by omega), ← e1, ← fl_vu] at hB1
    refine ⟨vp_in_nI (by omega) (by decide), nm_e ⟨vp_in_nI hui.2.1 (by decide), vp_in_nI (by omega) (by decide), nm_e ⟨vp_in_nI hw16 (by decide), nm_e (nm_r (nI_1 w) (nm_r (nI_1 j) ?_))⟩⟩⟩
    rw [nI_clamp (show u < 2 ^ 31 by omega), nI_clamp (show w < 2 ^ 31 by omega)]
    refine ih (j + 1) (w + 1) _ _ _ _ (by omega) (by omega) ?_ hB1 (lt_s (fun y hy hL => ?_) (fun _ => ?_))
    · show (if i = w then j else ln i) = u
      rw [if_neg (by omega)]; exact hu
    · rw [fl_vun f j (n := u) (by omega), fl_pun (by omega)]; exact hp y hy hL
    · rw [fl_vun f j (n := u) (by omega), fl_pus]; omega
theorem xw_broad45 {post : Int32 → SX → Prop} {f_present f_leastSize f_inEvery f_inSome f_cutByEvery f_cutBySome : Int32} {a_start a_end a_rooms a_left a_width a_done a_height a_excess : Nat → Int32} {s t : Nat} (ht : t < 16)
    (h1 : ∀ f v q, fl_Bf (fl_v a_left) (fl_v f) (fl_v v) s → fl_v v t ≠ -1 → post 1 (f_present, f_leastSize, f_inEvery, f_inSome, f_cutByEvery, f_cutBySome, a_start, a_end, a_rooms, a_left, f, q, v, a_width, a_done, a_height, a_excess))
    (h0 : ∀ f v q, fl_Bf (fl_v a_left) (fl_v f) (fl_v v) s → fl_v v t = -1 → post 0 (f_present, f_leastSize, f_inEvery, f_inSome, f_cutByEvery, f_cutBySome, a_start, a_end, a_rooms, a_left, f, q, v, a_width, a_done, a_height, a_excess)) :
    ∀ d i w f v q ln, i + d = 16 → fl_Bq (fl_v a_left) (fl_v f) (fl_v v) (fl_v q) s i w ln → wX_searchBroad_45 post (nI t) f_present f_leastSize f_inEvery f_inSome f_cutByEvery f_cutBySome (d + 1) (nI w) (nI i) a_start a_end a_rooms a_left f q v a_width a_done a_height a_excess := by
  have hE : ∀ f v q, fl_Bf (fl_v a_left) (fl_v f) (fl_v v) s → wX_searchBroad_152 post (nI t) f_present f_leastSize f_inEvery f_inSome f_cutByEvery f_cutBySome a_start a_end a_rooms a_left f q v a_width a_done a_height a_excess := by
    intro f v q hB
    refine ⟨vp_in_nI ht (by decide), ?_⟩
    rw [nI_clamp (show t < 2 ^ 31 by omega)]
    exact fl_ce (fun e => h0 f v q hB e) (fun e => h1 f v q hB e)
  intro d
  induction d with
  | zero =>
    intro i w f v q ln hi hB
    have hw := fl_Bq_w hB
    exact br_t (nI_le (by omega) (by omega)) (hE f v q (fl_Bq3 hB (by omega)))
  | succ d ih =>
    intro i w f v q ln hi hB
    have hw := fl_Bq_w hB
    by_cases hiw : w ≤ i
    · exact br_t (nI_le hiw (by omega)) (hE f v q (fl_Bq3 hB hiw))
    · have hq := hB.2.2.2.1 i (by omega)
      refine br_f (nI_ge (by omega) (by omega)) (br_f (nI_ge (b := 16) (by omega) (by decide)) ⟨vp_in_nI (by omega) (by decide), ?_⟩)
      rw [nI_clamp (show i < 2 ^ 31 by omega)]
      refine nm_r (fl_tn hq.1 (by omega)) ⟨17, ?_⟩
      exact xw_broad70 (by omega) (fun w f v q ln hB2 => ih (i + 1) w f v q ln (by omega) hB2) 16 0 w f v q ln rfl (by omega) rfl hB (fun y hy => by omega)
theorem xw_broad7 {post : Int32 → SX → Prop} {f_present f_leastSize f_inEvery f_inSome f_cutByEvery f_cutBySome : Int32} {a_start a_end a_rooms a_left a_from a_line a_width a_done a_height a_excess : Nat → Int32} {s t : Nat} (hs : s < 16) (ht : t < 16) (hf : ∀ v, v < 16 → v ≠ s → fl_v a_from v = -1) (hfs : fl_v a_from s = (s : Int))
    (h1 : ∀ f v q, fl_Bf (fl_v a_left) (fl_v f) (fl_v v) s → fl_v v t ≠ -1 → post 1 (f_present, f_leastSize, f_inEvery, f_inSome, f_cutByEvery, f_cutBySome, a_start, a_end, a_rooms, a_left, f, q, v, a_width, a_done, a_height, a_excess))
    (h0 : ∀ f v q, fl_Bf (fl_v a_left) (fl_v f) (fl_v v) s → fl_v v t = -1 → post 0 (f_present, f_leastSize, f_inEvery, f_inSome, f_cutByEvery, f_cutBySome, a_start, a_end, a_rooms, a_left, f, q, v, a_width, a_done, a_height, a_excess)) :
    ∀ d j v, j + d = 16 → (∀ y, y < j → fl_v v y = -1) → wX_searchBroad_7 post (nI s) (nI t) f_present f_leastSize f_inEvery f_inSome f_cutByEvery f_cutBySome (d + 1) (nI j) a_start a_end a_rooms a_left a_from a_line v a_width a_done a_height a_excess := by
  intro d
  induction d with
  | zero =>
    intro j v hj hp
    have e : j = 16 := by omega
    subst e
    refine br_t (nI_le (a := 16) (b := 16) (by omega) (by decide)) ⟨vp_in_nI hs (by decide), nm_e (nm_e ⟨17, ?_⟩)⟩
    rw [nI_clamp (show s < 2 ^ 31 by omega)]
    refine xw_broad45 (s := s) ht h1 h0 16 0 1 a_from _ _ (fun _ => s) rfl (fl_Bq0 hs hf hfs ?_ ?_ ?_)
    · intro x hx hxs
      rw [fl_vu, fl_pun hxs]; exact hp x hx
    · rw [fl_vu, fl_pus]; decide
    · rw [fl_vun _ _ (by omega), fl_pus]
  | succ d ih =>
    intro j v hj hp
    refine br_f (nI_ge (b := 16) (by omega) (by decide)) ⟨vp_in_nI (by omega) (by decide), nm_e (nm_r (nI_1 j) (ih (j + 1) _ (by omega) ?_))⟩
    intro y hy
    rw [nI_clamp (by omega), fl_vu]
    by_cases e : y = j
    · rw [e, fl_pus]; decide
    · rw [fl_pun e]; exact hp y (by omega)
theorem xw_broad {post : Int32 → SX → Prop} {f_present f_leastSize f_inEvery f_inSome f_cutByEvery f_cutBySome : Int32} {a_start a_end a_rooms a_left a_from a_line a_level a_width a_done a_height a_excess : Nat → Int32} {s t : Nat} (hs : s < 16) (ht : t < 16)
    (h1 : ∀ f v q, fl_Bf (fl_v a_left) (fl_v f) (fl_v v) s → fl_v v t ≠ -1 → post 1 (f_present, f_leastSize, f_inEvery, f_inSome, f_cutByEvery, f_cutBySome, a_start, a_end, a_rooms, a_left, f, q, v, a_width, a_done, a_height, a_excess))
    (h0 : ∀ f v q, fl_Bf (fl_v a_left) (fl_v f) (fl_v v) s → fl_v v t = -1 → post 0 (f_present, f_leastSize, f_inEvery, f_inSome, f_cutByEvery, f_cutBySome, a_start, a_end, a_rooms, a_left, f, q, v, a_width, a_done, a_height, a_excess)) : wpX_searchBroad post (f_present, f_leastSize, f_inEvery, f_inSome, f_cutByEvery, f_cutBySome, a_start, a_end, a_rooms, a_left, a_from, a_line, a_level, a_width, a_done, a_height, a_excess) (nI s) (nI t) := by
  unfold wpX_searchBroad
  exact xw_forget hs (fun f hf hfs => ⟨17, xw_broad7 hs ht hf hfs h1 h0 16 0 a_level rfl (fun y hy => by omega)⟩)
end
section
theorem fl_nar1 : (vp_nar .boolean 1) = 1 := by decide
theorem fl_nar0 : (vp_nar .boolean 0) = 0 := by decide
theorem xw_widest_l {post : Int32 → Prop} {f_present f_leastSize f_inEvery f_inSome f_cutByEvery f_cutBySome : Int32} {a_start a_end a_rooms a_left a_from a_line a_level a_width a_done a_height a_excess : Nat → Int32}
    (h1 : ∀ u, u < 16 → fl_v a_done u = 0 → 0 < fl_v a_width u → (∀ y, y < 16 → fl_v a_done y = 0 → fl_v a_width y ≤ fl_v a_width u) → post (nI u))
    (h0 : (∀ y, y < 16 → fl_v a_done y = 0 → fl_v a_width y ≤ 0) → post (-1)) :
    ∀ d j (x1 x2 : Int32), j + d = 16 → (∀ y, y < j → fl_v a_done y = 0 → fl_v a_width y ≤ x2.toInt) →
      ((x1 = -1 ∧ x2.toInt = 0) ∨ ∃ u : Nat, u < 16 ∧ x1 = nI u ∧ fl_v a_done u = 0 ∧ fl_v a_width u = x2.toInt ∧ 0 < x2.toInt) →
      wX_widestToDo_6 post f_present f_leastSize f_inEvery f_inSome f_cutByEvery f_cutBySome a_start a_end a_rooms a_left a_from a_line a_level a_width a_done a_height a_excess (d + 1) x1 x2 (nI j) := by
  intro d
  induction d with
  | zero =>
    intro j x1 x2 hj hp hx
    have e : j = 16 := by omega
    subst e
    refine br_t (nI_le (a := 16) (b := 16) (by omega) (by decide)) ?_
    rcases hx with ⟨rfl, e2⟩ | ⟨u, hu, rfl, hd, hw, hpos⟩
    · exact h0 (fun y hy hd => by
        have := hp y hy hd
        omega)
    · exact h1 u hu hd (by omega) (fun y hy hd2 => by
        have := hp y hy hd2
        omega)
  | succ d ih =>
    intro j x1 x2 hj hp hx
    refine br_f (nI_ge (b := 16) (by omega) (by decide)) ⟨vp_in_nI (by omega) (by decide), ?_⟩
    rw [nI_clamp (show j < 2 ^ 31 by omega)]
    refine fl_ce (fun hd => ⟨vp_in_nI (by omega) (by decide), ?_⟩) (fun hd => nm_r (nI_1 j) (ih (j + 1) x1 x2 (by omega) (lt_s hp (fun z => absurd z hd)) hx))
    have hd0 : fl_v a_done j = 0 := hd
    refine fl_cle (fun hl => nm_r (nI_1 j) (ih (j + 1) x1 x2 (by omega) (lt_s hp (fun _ => hl)) hx)) (fun hl => ⟨vp_in_nI (by omega) (by decide), nm_e (nm_r (nI_1 j) (ih (j + 1) (nI j) _ (by omega) (lt_s (fun y hy hdy => ?_) (fun _ => Int.le_refl _)) (Or.inr ⟨j, by omega, rfl, hd0, rfl, ?_⟩)))⟩)
    · have h3 := hp y hy hdy
      have h4 : fl_v a_width y ≤ (a_width j).toInt := by omega
      exact h4
    · rcases hx with ⟨_, e2⟩ | ⟨_, _, _, _, _, hpos⟩
      · omega
      · omega
theorem xw_widest {post : Int32 → Prop} {f_present f_leastSize f_inEvery f_inSome f_cutByEvery f_cutBySome : Int32} {a_start a_end a_rooms a_left a_from a_line a_level a_width a_done a_height a_excess : Nat → Int32}
    (h1 : ∀ u, u < 16 → fl_v a_done u = 0 → 0 < fl_v a_width u → (∀ y, y < 16 → fl_v a_done y = 0 → fl_v a_width y ≤ fl_v a_width u) → post (nI u))
    (h0 : (∀ y, y < 16 → fl_v a_done y = 0 → fl_v a_width y ≤ 0) → post (-1)) : wpX_widestToDo post (f_present, f_leastSize, f_inEvery, f_inSome, f_cutByEvery, f_cutBySome, a_start, a_end, a_rooms, a_left, a_from, a_line, a_level, a_width, a_done, a_height, a_excess) :=
  ⟨17, xw_widest_l h1 h0 16 0 (-1) 0 rfl (fun y hy => by omega) (Or.inl ⟨rfl, fl_z0⟩)⟩
theorem xw_pass_l {post : SX → Prop} {f_present f_leastSize f_inEvery f_inSome f_cutByEvery f_cutBySome : Int32} {a_start a_end a_rooms a_left a_line a_level a_done a_height a_excess : Nat → Int32} {s k u : Nat} {rk : Nat → Nat} (hu : u < 16)
    (h : ∀ f w, fl_Wd (fl_v a_left) (fl_v f) (fl_v w) (fl_v a_done) s (k + 1) rk → post (f_present, f_leastSize, f_inEvery, f_inSome, f_cutByEvery, f_cutBySome, a_start, a_end, a_rooms, a_left, f, a_line, a_level, w, a_done, a_height, a_excess)) :
    ∀ d j f w, j + d = 16 → fl_Wi (fl_v a_left) (fl_v f) (fl_v w) (fl_v a_done) s k rk u j → wX_passWidth_2 post (nI u) f_present f_leastSize f_inEvery f_inSome f_cutByEvery f_cutBySome (d + 1) (nI j) a_start a_end a_rooms a_left f a_line a_level w a_done a_height a_excess := by
  intro d
  induction d with
  | zero =>
    intro j f w hj hW
    have e : j = 16 := by omega
    subst e
    exact br_t (nI_le (a := 16) (b := 16) (by omega) (by decide)) (h f w (fl_W3 hW hu))
  | succ d ih =>
    intro j f w hj hW
    have key : ∀ a : Int32, a.toInt ≤ fl_v a_left (u * 16 + j) → a.toInt ≤ fl_v w u → (a.toInt = fl_v a_left (u * 16 + j) ∨ a.toInt = fl_v w u) →
        wX_passWidth_40 post (wX_passWidth_2 post (nI u) f_present f_leastSize f_inEvery f_inSome f_cutByEvery f_cutBySome (d + 1)) (nI u) (nI j) a f_present f_leastSize f_inEvery f_inSome f_cutByEvery f_cutBySome a_start a_end a_rooms a_left f a_line a_level w a_done a_height a_excess := by
      intro a h1 h2 h3
      have hh := fl_W2 hW hu (by omega) h1 h2 h3
      rw [← fl_vun f j (n := u) (by omega), ← fl_vu] at hh
      refine ⟨vp_in_nI (by omega) (by decide), ?_⟩
      rw [nI_clamp (show j < 2 ^ 31 by omega)]
      exact fl_cle (fun hl => nm_r (nI_1 j) (ih (j + 1) f w (by omega) (hh.1 (Int.not_lt.mpr hl)))) (fun hl => ⟨vp_in_nI (by omega) (by decide), nm_e ⟨vp_in_nI (by omega) (by decide), nm_e (nm_r (nI_1 j) (ih (j + 1) _ _ (by omega) (hh.2 (Int.not_le.mp hl))))⟩⟩)
    refine br_f (nI_ge (b := 16) (by omega) (by decide)) ⟨fl_ixi hu (by omega), ?_⟩
    rw [fl_ixc hu (by omega), nI_clamp (show u < 2 ^ 31 by omega)]
    refine nm_e ⟨vp_in_nI hu (by decide), fl_cle (fun hl => ⟨vp_in_nI hu (by decide), key _ hl (Int.le_refl _) (Or.inr rfl)⟩) (fun hl => key _ (Int.le_refl _) ?_ (Or.inl rfl))⟩
    have : fl_v w u = (w u).toInt := rfl
    omega
theorem xw_wide44 {post : Int32 → SX → Prop} {f_present f_leastSize f_inEvery f_inSome f_cutByEvery f_cutBySome : Int32} {a_start a_end a_rooms a_left a_line a_level a_height a_excess : Nat → Int32} {s t : Nat} (ht : t < 16)
    (h1 : ∀ f w dn, fl_Fd (fl_v a_left) (fl_v f) s t 1 → post 1 (f_present, f_leastSize, f_inEvery, f_inSome, f_cutByEvery, f_cutBySome, a_start, a_end, a_rooms, a_left, f, a_line, a_level, w, dn, a_height, a_excess))
    (h0 : ∀ f w dn, fl_Non (fl_v a_left) s t 1 → post 0 (f_present, f_leastSize, f_inEvery, f_inSome, f_cutByEvery, f_cutBySome, a_start, a_end, a_rooms, a_left, f, a_line, a_level, w, dn, a_height, a_excess)) :
    ∀ d k f w dn rk, k + d = 16 → fl_Wd (fl_v a_left) (fl_v f) (fl_v w) (fl_v dn) s k rk → wX_searchWide_44 post (nI t) (d + 1) (nI k) f_present f_leastSize f_inEvery f_inSome f_cutByEvery f_cutBySome a_start a_end a_rooms a_left f a_line a_level w dn a_height a_excess := by
  have hE : ∀ k f w dn rk, fl_Wd (fl_v a_left) (fl_v f) (fl_v w) (fl_v dn) s k rk → (∀ y, y < 16 → fl_v dn y = 0 → fl_v w y ≤ 0) → wX_searchWide_85 post (nI t) f_present f_leastSize f_inEvery f_inSome f_cutByEvery f_cutBySome a_start a_end a_rooms a_left f a_line a_level w dn a_height a_excess := by
    intro k f w dn rk hW hc
    have hh := fl_W4 hW ht hc
    refine ⟨vp_in_nI ht (by decide), ?_⟩
    rw [nI_clamp (show t < 2 ^ 31 by omega)]
    exact fl_cle (fun e => h0 f w dn (hh.2 (Int.not_lt.mpr e))) (fun e => h1 f w dn (hh.1 (Int.not_le.mp e)))
  intro d
  induction d with
  | zero =>
    intro k f w dn rk hk hW
    have e : k = 16 := by omega
    subst e
    refine br_t (nI_le (a := 16) (b := 16) (by omega) (by decide)) (hE 16 f w dn rk hW (fun y hy hd => ?_))
    have h2 := fl_nd_pos hy hd
    have h3 := hW.1.2
    omega
  | succ d ih =>
    intro k f w dn rk hk hW
    refine br_f (nI_ge (b := 16) (by omega) (by decide)) (xw_widest (fun u hu hd hw hm => br_f (fl_nm (by omega)) ⟨vp_in_nI hu (by decide), nm_e ?_⟩) (fun hc => br_t rfl (hE k f w dn rk hW hc)))
    have hh := fl_W1 hW hu hd hw hm
    rw [nI_clamp (show u < 2 ^ 31 by omega), fl_nar1]
    have e1 : fl_v (upd dn u 1) = fl_pu (fl_v dn) u 1 := by rw [fl_vu]; rfl
    rw [← e1] at hh
    exact ⟨17, xw_pass_l hu (fun f2 w2 hW2 => nm_r (nI_1 k) (ih (k + 1) f2 w2 _ _ (by omega) hW2)) 16 0 f w rfl hh⟩
theorem xw_wide7 {post : Int32 → SX → Prop} {f_present f_leastSize f_inEvery f_inSome f_cutByEvery f_cutBySome : Int32} {a_start a_end a_rooms a_left a_from a_line a_level a_height a_excess : Nat → Int32} {s t : Nat} (hs : s < 16) (ht : t < 16)
    (h1 : ∀ f w dn, fl_Fd (fl_v a_left) (fl_v f) s t 1 → post 1 (f_present, f_leastSize, f_inEvery, f_inSome, f_cutByEvery, f_cutBySome, a_start, a_end, a_rooms, a_left, f, a_line, a_level, w, dn, a_height, a_excess))
    (h0 : ∀ f w dn, fl_Non (fl_v a_left) s t 1 → post 0 (f_present, f_leastSize, f_inEvery, f_inSome, f_cutByEvery, f_cutBySome, a_start, a_end, a_rooms, a_left, f, a_line, a_level, w, dn, a_height, a_excess)) :
    ∀ d j w dn, j + d = 16 → (∀ y, y < j → fl_v w y = 0) → (∀ y, y < j → fl_v dn y = 0) → wX_searchWide_7 post (nI s) (nI t) f_present f_leastSize f_inEvery f_inSome f_cutByEvery f_cutBySome (d + 1) (nI j) a_start a_end a_rooms a_left a_from a_line a_level w dn a_height a_excess := by
  intro d
  induction d with
  | zero =>
    intro j w dn hj hw hd
    have e : j = 16 := by omega
    subst e
    refine br_t (nI_le (a := 16) (b := 16) (by omega) (by decide)) ⟨vp_in_nI hs (by decide), nm_e ⟨17, ?_⟩⟩
    rw [nI_clamp (show s < 2 ^ 31 by omega)]
    refine xw_wide44 (s := s) ht h1 h0 16 0 a_from _ dn (fun _ => 0) rfl (fl_W0 hd ?_ ?_)
    · intro x hx hxs
      rw [fl_vu, fl_pun hxs]; exact hw x hx
    · rw [fl_vu, fl_pus]; decide
  | succ d ih =>
    intro j w dn hj hw hd
    refine br_f (nI_ge (b := 16) (by omega) (by decide)) ⟨vp_in_nI (by omega) (by decide), nm_e ⟨vp_in_nI (by omega) (by decide), nm_e (nm_r (nI_1 j) (ih (j + 1) _ _ (by omega) ?_ ?_))⟩⟩
    · intro y hy
      rw [nI_clamp (by omega), fl_vu]
      by_cases e : y = j
      · rw [e, fl_pus]; decide
      · rw [fl_pun e]; exact hw y (by omega)
    · intro y hy
      rw [nI_clamp (by omega), fl_nar0, fl_vu]
      by_cases e : y = j
      · rw [e, fl_pus]; decide
      · rw [fl_pun e]; exact hd y (by omega)
theorem xw_wide {post : Int32 → SX → Prop} {f_present f_leastSize f_inEvery f_inSome f_cutByEvery f_cutBySome : Int32} {a_start a_end a_rooms a_left a_from a_line a_level a_width a_done a_height a_excess : Nat → Int32} {s t : Nat} (hs : s < 16) (ht : t < 16)
    (h1 : ∀ f w dn, fl_Fd (fl_v a_left) (fl_v f) s t 1 → post 1 (f_present, f_leastSize, f_inEvery, f_inSome, f_cutByEvery, f_cutBySome, a_start, a_end, a_rooms, a_left, f, a_line, a_level, w, dn, a_height, a_excess))
    (h0 : ∀ f w dn, fl_Non (fl_v a_left) s t 1 → post 0 (f_present, f_leastSize, f_inEvery, f_inSome, f_cutByEvery, f_cutBySome, a_start, a_end, a_rooms, a_left, f, a_line, a_level, w, dn, a_height, a_excess)) : wpX_searchWide post (f_present, f_leastSize, f_inEvery, f_inSome, f_cutByEvery, f_cutBySome, a_start, a_end, a_rooms, a_left, a_from, a_line, a_level, a_width, a_done, a_height, a_excess) (nI s) (nI t) := by
  unfold wpX_searchWide
  exact xw_forget hs (fun f hf hfs => ⟨17, xw_wide7 hs ht h1 h0 16 0 a_width a_done rfl (fun y hy => by omega) (fun y hy => by omega)⟩)
end
section
theorem fl_one1 : (1 : Int32).toInt = 1 := by decide
theorem xw_find {post : Int32 → SX → Prop} {f_present f_leastSize f_inEvery f_inSome f_cutByEvery f_cutBySome : Int32} {a_start a_end a_rooms a_left a_from a_line a_level a_width a_done a_height a_excess : Nat → Int32} {s t : Nat} {e : Int32} (hs : s < 16) (ht : t < 16) (hst : s ≠ t)
    (h1 : ∀ f q v w dn, fl_Fd (fl_v a_left) (fl_v f) s t 1 → post 1 (f_present, f_leastSize, f_inEvery, f_inSome, f_cutByEvery, f_cutBySome, a_start, a_end, a_rooms, a_left, f, q, v, w, dn, a_height, a_excess))
    (h0 : ∀ f q v w dn, fl_Non (fl_v a_left) s t 1 → post 0 (f_present, f_leastSize, f_inEvery, f_inSome, f_cutByEvery, f_cutBySome, a_start, a_end, a_rooms, a_left, f, q, v, w, dn, a_height, a_excess)) : wpX_findPath post (f_present, f_leastSize, f_inEvery, f_inSome, f_cutByEvery, f_cutBySome, a_start, a_end, a_rooms, a_left, a_from, a_line, a_level, a_width, a_done, a_height, a_excess) e (nI s) (nI t) := by
  show (e = 1 → _) ∧ _
  refine br_c (fun _ => ?_) (fun _ => br_c (fun _ => ?_) (fun _ => ?_))
  · exact xw_broad hs ht (fun f v q hB hV => ⟨rfl, h1 f q v _ _ (fl_Bf_fd hB ht hV)⟩) (fun f v q hB hV => ⟨rfl, h0 f q v _ _ (fl_Bf_non hB hV)⟩)
  · exact xw_wide hs ht (fun f w dn hF => ⟨rfl, h1 f _ _ w dn hF⟩) (fun f w dn hF => ⟨rfl, h0 f _ _ w dn hF⟩)
  · exact xw_deep hs ht hst (fun f hF => ⟨rfl, h1 f _ _ _ _ (fl_one1 ▸ hF)⟩) (fun f hF => ⟨rfl, h0 f _ _ _ _ (fl_one1 ▸ hF)⟩)
theorem xw_paths_l {post : Int32 → SX → Prop} {f_present f_leastSize f_inEvery f_inSome f_cutByEvery f_cutBySome : Int32} {a_start a_end a_rooms a_height a_excess : Nat → Int32} {s t : Nat} {e : Int32} {C : Nat → Int} (hs : s < 16) (ht : t < 16) (hst : s ≠ t) (hB : ∃ S, fl_Sd S s t ∧ fl_cut C S ≤ 1980)
    (hP : ∀ (x : Int32) l f q v w dn, 0 ≤ x.toInt → fl_Min C s t x.toInt → post x (f_present, f_leastSize, f_inEvery, f_inSome, f_cutByEvery, f_cutBySome, a_start, a_end, a_rooms, l, f, q, v, w, dn, a_height, a_excess)) :
    ∀ (d k : Nat) (x : Int32) l f q v w dn, k + d = 1981 → (k : Int) ≤ x.toInt → fl_Inv C (fl_v l) s t x.toInt → wX_flowByPaths_6 post e (nI s) (nI t) (d + 1) x (nI k) f_present f_leastSize f_inEvery f_inSome f_cutByEvery f_cutBySome a_start a_end a_rooms l f q v w dn a_height a_excess := by
  intro d
  induction d with
  | zero =>
    intro k x l f q v w dn hk hkx hI
    have := fl_Inv_le hI hB
    omega
  | succ d ih =>
    intro k x l f q v w dn hk hkx hI
    have hx := fl_Inv_le hI hB
    refine br_f (nI_nlt (a := 1980) (by omega) (by decide)) (xw_find hs ht hst (fun f q v w dn hF => br_f (by decide) ?_) (fun f q v w dn hN => br_t rfl (hP x l f q v w dn (by omega) (fl_end hI hN))))
    obtain ⟨m, c, hC⟩ := fl_Fd_Ch ht hF
    refine xw_fill hC (Int.le_refl _) hI.1 (fun l2 y h1 h2 ha hl => nm_e (nm_r (nI_1 k) (ih (k + 1) _ l2 f q v w dn (by omega) ?_ ?_)))
    · rw [fl_tadd (by omega) (by omega)]; omega
    · rw [fl_tadd (by omega) (by omega), hl]
      exact fl_fill hC hI (by omega) ha
theorem xw_paths {post : Int32 → SX → Prop} {f_present f_leastSize f_inEvery f_inSome f_cutByEvery f_cutBySome : Int32} {a_start a_end a_rooms a_left a_from a_line a_level a_width a_done a_height a_excess : Nat → Int32} {s t : Nat} {e : Int32} (hs : s < 16) (ht : t < 16) (hst : s ≠ t) (hok : fl_ok (fl_v a_left)) (hB : ∃ S, fl_Sd S s t ∧ fl_cut (fl_v a_left) S ≤ 1980)
    (hP : ∀ (x : Int32) l f q v w dn, 0 ≤ x.toInt → fl_Min (fl_v a_left) s t x.toInt → post x (f_present, f_leastSize, f_inEvery, f_inSome, f_cutByEvery, f_cutBySome, a_start, a_end, a_rooms, l, f, q, v, w, dn, a_height, a_excess)) : wpX_flowByPaths post (f_present, f_leastSize, f_inEvery, f_inSome, f_cutByEvery, f_cutBySome, a_start, a_end, a_rooms, a_left, a_from, a_line, a_level, a_width, a_done, a_height, a_excess) e (nI s) (nI t) :=
  ⟨1981 + 1, xw_paths_l hs ht hst hB hP 1981 0 0 a_left a_from a_line a_level a_width a_done rfl (by decide) ⟨hok, fun S _ => by rw [fl_z0]; omega⟩⟩
theorem fl_flo : ∀ sc, sc < 11 → 1 ≤ ((1 : Int32) <<< (nI sc &&& 31)).toInt := by decide +kernel
theorem fl_flo0 : ((1 : Int32) <<< (nI 0 &&& 31)).toInt = 1 := by decide +kernel
theorem xw_scales14 {post : Int32 → SX → Prop} {J : Int32 → Int32 → Int32 → Int32 → Int32 → Int32 → Int32 → Int32 → (Nat → Int32) → (Nat → Int32) → (Nat → Int32) → (Nat → Int32) → (Nat → Int32) → (Nat → Int32) → (Nat → Int32) → (Nat → Int32) → (Nat → Int32) → (Nat → Int32) → (Nat → Int32) → Prop} {f_present f_leastSize f_inEvery f_inSome f_cutByEvery f_cutBySome : Int32} {a_start a_end a_rooms a_line a_level a_width a_done a_height a_excess : Nat → Int32} {s t : Nat} {y : Int32} {C : Nat → Int} (hs : s < 16) (ht : t < 16) (hst : s ≠ t) (hB : ∃ S, fl_Sd S s t ∧ fl_cut C S ≤ 1980) (hy : 1 ≤ ((1 : Int32) <<< (y &&& 31)).toInt)
    (hJ : ∀ (x : Int32) l f, 0 ≤ x.toInt → fl_Inv C (fl_v l) s t x.toInt → fl_Non (fl_v l) s t ((1 : Int32) <<< (y &&& 31)).toInt → ∀ z, z = y + (-1) → J x z f_present f_leastSize f_inEvery f_inSome f_cutByEvery f_cutBySome a_start a_end a_rooms l f a_line a_level a_width a_done a_height a_excess) :
    ∀ (d k : Nat) (x : Int32) l f, k + d = 1981 → (k : Int) ≤ x.toInt → fl_Inv C (fl_v l) s t x.toInt → wX_flowByScales_14 post J (nI s) (nI t) y (d + 1) x (nI k) f_present f_leastSize f_inEvery f_inSome f_cutByEvery f_cutBySome a_start a_end a_rooms l f a_line a_level a_width a_done a_height a_excess := by
  intro d
  induction d with
  | zero =>
    intro k x l f hk hkx hI
    have := fl_Inv_le hI hB
    omega
  | succ d ih =>
    intro k x l f hk hkx hI
    have hx := fl_Inv_le hI hB
    refine br_f (nI_nlt (a := 1980) (by omega) (by decide)) (xw_deep hs ht hst (fun f hF => br_f (by decide) ?_) (fun f hN => br_t rfl (hJ x l f (by omega) hI hN)))
    obtain ⟨m, c, hC⟩ := fl_Fd_Ch ht hF
    refine xw_fill hC hy hI.1 (fun l2 y h1 h2 ha hl => nm_e (nm_r (nI_1 k) (ih (k + 1) _ l2 f (by omega) ?_ ?_)))
    · rw [fl_tadd (by omega) (by omega)]; omega
    · rw [fl_tadd (by omega) (by omega), hl]
      exact fl_fill hC hI (by omega) ha
theorem xw_scales6 {post : Int32 → SX → Prop} {f_present f_leastSize f_inEvery f_inSome f_cutByEvery f_cutBySome : Int32} {a_start a_end a_rooms a_line a_level a_width a_done a_height a_excess : Nat → Int32} {s t : Nat} {C : Nat → Int} (hs : s < 16) (ht : t < 16) (hst : s ≠ t) (hB : ∃ S, fl_Sd S s t ∧ fl_cut C S ≤ 1980)
    (hP : ∀ (x : Int32) l f, 0 ≤ x.toInt → fl_Min C s t x.toInt → post x (f_present, f_leastSize, f_inEvery, f_inSome, f_cutByEvery, f_cutBySome, a_start, a_end, a_rooms, l, f, a_line, a_level, a_width, a_done, a_height, a_excess)) :
    ∀ sc, sc < 11 → ∀ (x : Int32) l f, 0 ≤ x.toInt → fl_Inv C (fl_v l) s t x.toInt → wX_flowByScales_6 post (nI s) (nI t) (sc + 2) x (nI sc) f_present f_leastSize f_inEvery f_inSome f_cutByEvery f_cutBySome a_start a_end a_rooms l f a_line a_level a_width a_done a_height a_excess := by
  intro sc
  induction sc with
  | zero =>
    intro _ x l f hx hI
    refine br_f (nI_pos (by omega)) ⟨1981 + 1, xw_scales14 hs ht hst hB (fl_flo 0 (by omega)) (fun x l f hx hI hN => nm_r (e' := -1) (by decide) (br_t (by decide) (hP x l f hx (fl_end hI ?_)))) 1981 0 x l f rfl (by omega) hI⟩
    rw [fl_flo0] at hN; exact hN
  | succ sc ih =>
    intro h11 x l f hx hI
    exact br_f (nI_pos (by omega)) ⟨1981 + 1, xw_scales14 hs ht hst hB (fl_flo (sc + 1) h11) (fun x l f hx hI hN => nm_r (pk_m1 sc) (ih (by omega) x l f hx hI)) 1981 0 x l f rfl (by omega) hI⟩
theorem xw_scales {post : Int32 → SX → Prop} {f_present f_leastSize f_inEvery f_inSome f_cutByEvery f_cutBySome : Int32} {a_start a_end a_rooms a_left a_from a_line a_level a_width a_done a_height a_excess : Nat → Int32} {s t : Nat} (hs : s < 16) (ht : t < 16) (hst : s ≠ t) (hok : fl_ok (fl_v a_left)) (hB : ∃ S, fl_Sd S s t ∧ fl_cut (fl_v a_left) S ≤ 1980)
    (hP : ∀ (x : Int32) l f, 0 ≤ x.toInt → fl_Min (fl_v a_left) s t x.toInt → post x (f_present, f_leastSize, f_inEvery, f_inSome, f_cutByEvery, f_cutBySome, a_start, a_end, a_rooms, l, f, a_line, a_level, a_width, a_done, a_height, a_excess)) : wpX_flowByScales post (f_present, f_leastSize, f_inEvery, f_inSome, f_cutByEvery, f_cutBySome, a_start, a_end, a_rooms, a_left, a_from, a_line, a_level, a_width, a_done, a_height, a_excess) (nI s) (nI t) :=
  ⟨10 + 2, xw_scales6 hs ht hst hB hP 10 (by omega) 0 a_left a_from (by decide) ⟨hok, fun S _ => by rw [fl_z0]; omega⟩⟩
end
section
theorem xw_next_l {post : Int32 → Prop} {f_present f_leastSize f_inEvery f_inSome f_cutByEvery f_cutBySome : Int32} {a_start a_end a_rooms a_left a_from a_line a_level a_width a_done a_height a_excess : Nat → Int32} {u : Nat} (hu : u < 16) (hb : -1 ≤ fl_v a_level u ∧ fl_v a_level u ≤ 15)
    (h1 : ∀ v, v < 16 → fl_v a_level v = fl_v a_level u + 1 → 0 < fl_v a_left (u * 16 + v) → post (nI v))
    (h0 : (∀ v, v < 16 → fl_v a_level v = fl_v a_level u + 1 → ¬ 0 < fl_v a_left (u * 16 + v)) → post (-1)) :
    ∀ d j, j + d = 16 → (∀ v, v < j → fl_v a_level v = fl_v a_level u + 1 → ¬ 0 < fl_v a_left (u * 16 + v)) → wX_nextLayerAfter_2 post (nI u) f_present f_leastSize f_inEvery f_inSome f_cutByEvery f_cutBySome a_start a_end a_rooms a_left a_from a_line a_level a_width a_done a_height a_excess (d + 1) (nI j) := by
  have hb' : -1 ≤ (a_level u).toInt ∧ (a_level u).toInt ≤ 15 := hb
  have e1 : (a_level u + 1).toInt = fl_v a_level u + 1 := fl_tadd (by rw [fl_one1]; omega) (by rw [fl_one1]; omega)
  intro d
  induction d with
  | zero =>
    intro j hj hp
    have e : j = 16 := by omega
    subst e
    exact br_t (nI_le (a := 16) (b := 16) (by omega) (by decide)) (h0 hp)
  | succ d ih =>
    intro j hj hp
    refine br_f (nI_ge (b := 16) (by omega) (by decide)) ⟨vp_in_nI (by omega) (by decide), vp_in_nI hu (by decide), ?_⟩
    rw [nI_clamp (show j < 2 ^ 31 by omega), nI_clamp (show u < 2 ^ 31 by omega)]
    refine fl_ce (fun hf => ⟨fl_ixi hu (by omega), ?_⟩) (fun hf => nm_r (nI_1 j) (ih (j + 1) (by omega) (lt_s hp (fun z => absurd z (by rw [e1] at hf; exact hf)))))
    rw [e1] at hf
    rw [fl_ixc hu (by omega)]
    exact fl_cle (fun hl => nm_r (nI_1 j) (ih (j + 1) (by omega) (lt_s hp (fun _ => Int.not_lt.mpr hl)))) (fun hl => h1 j (by omega) hf (Int.not_le.mp hl))
theorem xw_next {post : Int32 → Prop} {f_present f_leastSize f_inEvery f_inSome f_cutByEvery f_cutBySome : Int32} {a_start a_end a_rooms a_left a_from a_line a_level a_width a_done a_height a_excess : Nat → Int32} {u : Nat} (hu : u < 16) (hb : -1 ≤ fl_v a_level u ∧ fl_v a_level u ≤ 15)
    (h1 : ∀ v, v < 16 → fl_v a_level v = fl_v a_level u + 1 → 0 < fl_v a_left (u * 16 + v) → post (nI v))
    (h0 : (∀ v, v < 16 → fl_v a_level v = fl_v a_level u + 1 → ¬ 0 < fl_v a_left (u * 16 + v)) → post (-1)) : wpX_nextLayerAfter post (f_present, f_leastSize, f_inEvery, f_inSome, f_cutByEvery, f_cutBySome, a_start, a_end, a_rooms, a_left, a_from, a_line, a_level, a_width, a_done, a_height, a_excess) (nI u) :=
  ⟨16 + 1, xw_next_l hu hb h1 h0 16 0 rfl (fun v hv => by omega)⟩
theorem xw_lay8 {post : Int32 → SX → Prop} {f_present f_leastSize f_inEvery f_inSome f_cutByEvery f_cutBySome : Int32} {a_start a_end a_rooms a_line a_width a_done a_height a_excess : Nat → Int32} {s t : Nat} {C L0 V0 : Nat → Int} {x0 : Int} (ht : t < 16) (hx0 : 0 ≤ x0) (hB : ∃ S, fl_Sd S s t ∧ fl_cut C S ≤ 1980) (hV0 : ∀ v, v < 16 → V0 v = -1 ∨ (0 ≤ V0 v ∧ V0 v ≤ 15)) (hs0 : V0 s = 0)
    (hP : ∀ (x : Int32) l f v, 0 ≤ x.toInt → fl_Inv C (fl_v l) s t (x0 + x.toInt) → fl_Bk L0 V0 (fl_v l) s t → post x (f_present, f_leastSize, f_inEvery, f_inSome, f_cutByEvery, f_cutBySome, a_start, a_end, a_rooms, l, f, a_line, v, a_width, a_done, a_height, a_excess)) :
    ∀ (d k : Nat) (x : Int32) (u : Nat) l f v pt, k + d = 31728 → 0 ≤ x.toInt → fl_Ly C L0 V0 (fl_v l) (fl_v f) (fl_v v) s t u (x0 + x.toInt) pt → fl_Lm (fl_v v) u (x0 + x.toInt) + (k : Int) ≤ 31727 →
      wX_fillLayers_8 post (nI s) (nI t) (d + 1) x (nI u) (nI k) f_present f_leastSize f_inEvery f_inSome f_cutByEvery f_cutBySome a_start a_end a_rooms l f a_line v a_width a_done a_height a_excess := by
  have hV15 : ∀ v, v < 16 → V0 v ≤ 15 := fun v hv => by
    have := hV0 v hv
    omega
  intro d
  induction d with
  | zero =>
    intro k x u l f v pt hk hx hY hM
    have h1 := fl_Inv_le hY.1 hB
    have h2 := fl_Lm_nn hY h1
    omega
  | succ d ih =>
    intro k x u l f v pt hk hx hY hM
    have hle := fl_Inv_le hY.1 hB
    have hu := hY.2.1.1
    have hut := hY.2.1.2.1
    have hVu : 0 ≤ fl_v v u ∧ fl_v v u ≤ 15 := ⟨hY.2.1.2.2.1, hY.2.1.2.2.2.1⟩
    have hs : s < 16 := hY.2.1.2.2.2.2.2.2
    refine br_f (nI_ge (b := 1000000) (by omega) (by decide)) (xw_next hu (by omega) (fun w hw hV hL => br_f (fl_nm (by omega)) ⟨vp_in_nI hw (by decide), nm_e ?_⟩) (fun hn => br_t rfl ?_))
    · rw [nI_clamp (show w < 2 ^ 31 by omega)]
      refine pk_eq w t (fun e => ?_) (fun e => nm_r (nI_1 k) ?_)
      · subst e
        obtain ⟨m, c, hC, hA⟩ := fl_Y2 hY hV15 hw hV hL
        rw [← fl_vun f w (n := u) (by omega)] at hC hA
        refine xw_fill hC (Int.le_refl _) hY.1.1 (fun l2 y h1 h2 ha hl => nm_e (nm_r (nI_1 k) (ih (k + 1) _ s l2 _ v (fun _ => s) (by omega) ?_ ?_ ?_)))
        · rw [fl_tadd (by omega) (by omega)]; omega
        · rw [fl_tadd (by omega) (by omega), hl, ← Int.add_assoc]
          exact (hA y.toInt h1 ha).1
        · have := (hA y.toInt h1 ha).2
          rw [fl_tadd (by omega) (by omega), ← Int.add_assoc]
          omega
      · have hh := fl_Y1 hY hV15 hw e hV hL
        rw [← fl_vun f w (n := u) (by omega)] at hh
        exact ih (k + 1) x w l _ v _ (by omega) hx hh.1 (by have := hh.2; omega)
    · refine pk_eq u s (fun e => ?_) (fun e => ⟨vp_in_nI hu (by decide), nm_e ⟨vp_in_nI hu (by decide), ?_⟩⟩)
      · subst e
        exact hP x l f v hx hY.1 (fl_Y4 hY (fun v hv => by have := hV0 v hv; omega) hs0 hn)
      · obtain ⟨p, hp, hF, hpt, hY2, hM2⟩ := fl_Y3 hY e hn
        have ev : fl_v (upd v u (-1)) = fl_pu (fl_v v) u (-1) := by rw [fl_vu, fl_m1]
        rw [← ev] at hY2 hM2
        rw [nI_clamp (show u < 2 ^ 31 by omega)]
        refine nm_r (fl_tn hF (by omega)) (pk_eq p t (fun z => absurd z hpt) (fun z => nm_r (nI_1 k) (ih (k + 1) x p l f _ pt (by omega) hx hY2 (by omega))))
theorem xw_fillLayers {post : Int32 → SX → Prop} {f_present f_leastSize f_inEvery f_inSome f_cutByEvery f_cutBySome : Int32} {a_start a_end a_rooms a_left a_from a_line a_level a_width a_done a_height a_excess : Nat → Int32} {s t : Nat} {C : Nat → Int} {x0 : Int} (hs : s < 16) (ht : t < 16) (hst : s ≠ t) (hx0 : 0 ≤ x0) (hB : ∃ S, fl_Sd S s t ∧ fl_cut C S ≤ 1980) (hI : fl_Inv C (fl_v a_left) s t x0) (hF : fl_Bf (fl_v a_left) (fl_v a_from) (fl_v a_level) s) (hV : fl_v a_level t ≠ -1)
    (hP : ∀ (x : Int32) l f v, 0 ≤ x.toInt → fl_Inv C (fl_v l) s t (x0 + x.toInt) → fl_Bk (fl_v a_left) (fl_v a_level) (fl_v l) s t → post x (f_present, f_leastSize, f_inEvery, f_inSome, f_cutByEvery, f_cutBySome, a_start, a_end, a_rooms, l, f, a_line, v, a_width, a_done, a_height, a_excess)) : wpX_fillLayers post (f_present, f_leastSize, f_inEvery, f_inSome, f_cutByEvery, f_cutBySome, a_start, a_end, a_rooms, a_left, a_from, a_line, a_level, a_width, a_done, a_height, a_excess) (nI s) (nI t) :=
  ⟨31728 + 1, xw_lay8 ht hx0 hB hF.2.1 hF.1 hP 31728 0 0 s a_left a_from a_level (fun _ => s) rfl (by decide) (by rw [fl_z0, Int.add_zero]; exact fl_Y0 hI hF hs hst hV) (by rw [fl_z0, Int.add_zero]; have := fl_Y0m (V := fl_v a_level) (s := s) hx0 hF.1; omega)⟩
theorem xw_layers5 {post : Int32 → SX → Prop} {f_present f_leastSize f_inEvery f_inSome f_cutByEvery f_cutBySome : Int32} {a_start a_end a_rooms a_width a_done a_height a_excess : Nat → Int32} {s t : Nat} {C : Nat → Int} (hs : s < 16) (ht : t < 16) (hst : s ≠ t) (hB : ∃ S, fl_Sd S s t ∧ fl_cut C S ≤ 1980)
    (hP : ∀ (x : Int32) l f q v, 0 ≤ x.toInt → fl_Min C s t x.toInt → post x (f_present, f_leastSize, f_inEvery, f_inSome, f_cutByEvery, f_cutBySome, a_start, a_end, a_rooms, l, f, q, v, a_width, a_done, a_height, a_excess)) :
    ∀ (d k : Nat) (x : Int32) l f q v, k + d = 15 → 0 ≤ x.toInt → fl_Inv C (fl_v l) s t x.toInt → (∀ F V, fl_Bf (fl_v l) F V s → V t ≠ -1 → (k : Int) + 1 ≤ V t) →
      wX_flowByLayers_5 post (nI s) (nI t) (d + 1) x (nI k) f_present f_leastSize f_inEvery f_inSome f_cutByEvery f_cutBySome a_start a_end a_rooms l f q v a_width a_done a_height a_excess := by
  intro d
  induction d with
  | zero =>
    intro k x l f q v hk hx hI hR
    refine br_f (nI_ge (b := 16) (by omega) (by decide)) (xw_broad hs ht (fun f v q hF hV => ?_) (fun f v q hF hV => br_t rfl (hP x l f q v hx (fl_end hI (fl_Bf_non hF hV)))))
    have h1 := hR _ _ hF hV
    have h2 := hF.2.1 t ht
    omega
  | succ d ih =>
    intro k x l f q v hk hx hI hR
    have hle := fl_Inv_le hI hB
    refine br_f (nI_ge (b := 16) (by omega) (by decide)) (xw_broad hs ht (fun f v q hF hV => br_f (by decide) (xw_fillLayers hs ht hst hx hB hI hF hV (fun y l2 f2 v2 hy hI2 hK => nm_e (nm_r (nI_1 k) (ih (k + 1) _ l2 f2 q v2 (by omega) ?_ ?_ ?_))))) (fun f v q hF hV => br_t rfl (hP x l f q v hx (fl_end hI (fl_Bf_non hF hV)))))
    · have := fl_Inv_le hI2 hB
      rw [fl_tadd (by omega) (by omega)]; omega
    · have := fl_Inv_le hI2 hB
      rw [fl_tadd (by omega) (by omega)]; exact hI2
    · intro F V hF2 hV2
      have h1 := fl_rise hF hK hF2 ht hV2
      have h2 := hR _ _ hF hV
      omega
theorem xw_layers {post : Int32 → SX → Prop} {f_present f_leastSize f_inEvery f_inSome f_cutByEvery f_cutBySome : Int32} {a_start a_end a_rooms a_left a_from a_line a_level a_width a_done a_height a_excess : Nat → Int32} {s t : Nat} (hs : s < 16) (ht : t < 16) (hst : s ≠ t) (hok : fl_ok (fl_v a_left)) (hB : ∃ S, fl_Sd S s t ∧ fl_cut (fl_v a_left) S ≤ 1980)
    (hP : ∀ (x : Int32) l f q v, 0 ≤ x.toInt → fl_Min (fl_v a_left) s t x.toInt → post x (f_present, f_leastSize, f_inEvery, f_inSome, f_cutByEvery, f_cutBySome, a_start, a_end, a_rooms, l, f, q, v, a_width, a_done, a_height, a_excess)) : wpX_flowByLayers post (f_present, f_leastSize, f_inEvery, f_inSome, f_cutByEvery, f_cutBySome, a_start, a_end, a_rooms, a_left, a_from, a_line, a_level, a_width, a_done, a_height, a_excess) (nI s) (nI t) := by
  refine ⟨15 + 1, xw_layers5 hs ht hst hB hP 15 0 0 a_left a_from a_line a_level rfl (by decide) ⟨hok, fun S _ => by rw [fl_z0]; omega⟩ (fun F V hF hV => ?_)⟩
  obtain ⟨u, u1, u2, u3, u4, u5⟩ := hF.2.2.1 t ht hV (Ne.symm hst)
  have := hF.2.1 u u1
  omega
end
section
theorem xw_push {post : SX → Prop} {f_present f_leastSize f_inEvery f_inSome f_cutByEvery f_cutBySome : Int32} {a_start a_end a_rooms a_left a_from a_line a_level a_width a_done a_height a_excess : Nat → Int32} {u v : Nat} {a : Int32} (hu : u < 16) (hv : v < 16) (h0 : 0 ≤ a.toInt) (h1 : a.toInt ≤ 4000) (hok : fl_ok (fl_v a_left)) (hE : ∀ x, x < 16 → -1980 ≤ fl_v a_excess x ∧ fl_v a_excess x ≤ 1980)
    (h : ∀ l e, fl_v l = fl_mv (fl_v a_left) u v a.toInt → fl_v e = fl_pe (fl_v a_excess) u v a.toInt → post (f_present, f_leastSize, f_inEvery, f_inSome, f_cutByEvery, f_cutBySome, a_start, a_end, a_rooms, l, a_from, a_line, a_level, a_width, a_done, a_height, e)) : wpX_push post (f_present, f_leastSize, f_inEvery, f_inSome, f_cutByEvery, f_cutBySome, a_start, a_end, a_rooms, a_left, a_from, a_line, a_level, a_width, a_done, a_height, a_excess) (nI u) (nI v) a := by
  unfold wpX_push
  refine xw_move hu hv h0 (by omega) hok (fun l hl => ⟨vp_in_nI hu (by decide), vp_in_nI hu (by decide), nm_e ⟨vp_in_nI hv (by decide), vp_in_nI hv (by decide), nm_e (h l _ hl ?_)⟩⟩)
  rw [nI_clamp (show u < 2 ^ 31 by omega), nI_clamp (show v < 2 ^ 31 by omega)]
  have b1 : -1980 ≤ (a_excess u).toInt ∧ (a_excess u).toInt ≤ 1980 := hE u hu
  have b2 := hE v hv
  have e1 : (a_excess u - a).toInt = fl_v a_excess u - a.toInt := fl_tsub (by omega) (by omega)
  have e2 : fl_v (upd a_excess u (a_excess u - a)) = fl_pu (fl_v a_excess) u (fl_v a_excess u - a.toInt) := by
    rw [fl_vu, e1]
  have e3 : (upd a_excess u (a_excess u - a) v).toInt = fl_pu (fl_v a_excess) u (fl_v a_excess u - a.toInt) v := congrFun e2 v
  have b3 : -100000 ≤ fl_pu (fl_v a_excess) u (fl_v a_excess u - a.toInt) v ∧ fl_pu (fl_v a_excess) u (fl_v a_excess u - a.toInt) v ≤ 4000 := by
    have b1' := hE u hu
    by_cases e : v = u
    · rw [e, fl_pus]; omega
    · rw [fl_pun e]; omega
  rw [fl_vu, fl_tadd (by rw [e3]; omega) (by rw [e3]; omega), e3, e2]
  rfl
theorem xw_flood38 {post : SX → Prop} {f_present f_leastSize f_inEvery f_inSome f_cutByEvery f_cutBySome : Int32} {a_start a_end a_rooms a_from a_line a_level a_width a_done a_height : Nat → Int32} {s : Nat} {C : Nat → Int} (hs : s < 16) (hB : fl_cut C (fun x => decide (x = s)) ≤ 1980)
    (h : ∀ l e, fl_Pf C (fl_v l) (fl_v e) s → (∀ w, w < 16 → w ≠ s → fl_v l (s * 16 + w) = 0) → post (f_present, f_leastSize, f_inEvery, f_inSome, f_cutByEvery, f_cutBySome, a_start, a_end, a_rooms, l, a_from, a_line, a_level, a_width, a_done, a_height, e)) :
    ∀ (d i : Nat) l e, i + d = 16 → fl_Pf C (fl_v l) (fl_v e) s → (∀ w, w < i → w ≠ s → fl_v l (s * 16 + w) = 0) → wX_flood_38 post (nI s) (d + 1) (nI i) f_present f_leastSize f_inEvery f_inSome f_cutByEvery f_cutBySome a_start a_end a_rooms l a_from a_line a_level a_width a_done a_height e := by
  intro d
  induction d with
  | zero =>
    intro i l e hi hP hz
    have e1 : i = 16 := by omega
    subst e1
    exact br_t (nI_le (a := 16) (b := 16) (by omega) (by decide)) (h l e hP hz)
  | succ d ih =>
    intro i l e hi hP hz
    have hE := fl_E_b hs hP hB
    have hL := fl_ok_le hP.1 hs (show i < 16 by omega)
    have hh := fl_P6 hP hs (show i < 16 by omega) hz
    refine br_f (nI_ge (b := 16) (by omega) (by decide)) ⟨fl_ixi hs (by omega), ?_⟩
    rw [fl_ixc hs (by omega)]
    refine xw_push hs (by omega) hL.1 hL.2 hP.1 (fun x hx => ?_) (fun l2 e2 hl he => nm_r (nI_1 i) (ih (i + 1) l2 e2 (by omega) ?_ ?_))
    · by_cases ex : x = s
      · rw [ex]; omega
      · have := hE.2.2 x hx ex
        omega
    · rw [hl, he]; exact hh.1
    · rw [hl]; exact hh.2
theorem xw_flood2 {post : SX → Prop} {f_present f_leastSize f_inEvery f_inSome f_cutByEvery f_cutBySome : Int32} {a_start a_end a_rooms a_left a_from a_line a_level a_width a_done : Nat → Int32} {s : Nat} (hs : s < 16) (hok : fl_ok (fl_v a_left)) (hB : fl_cut (fl_v a_left) (fun x => decide (x = s)) ≤ 1980)
    (h : ∀ l hh e, fl_Pf (fl_v a_left) (fl_v l) (fl_v e) s → (∀ w, w < 16 → w ≠ s → fl_v l (s * 16 + w) = 0) → fl_v hh s = 16 → (∀ v, v < 16 → v ≠ s → fl_v hh v = 0) → post (f_present, f_leastSize, f_inEvery, f_inSome, f_cutByEvery, f_cutBySome, a_start, a_end, a_rooms, l, a_from, a_line, a_level, a_width, a_done, hh, e)) :
    ∀ (d j : Nat) hh e, j + d = 16 → (∀ y, y < j → fl_v hh y = 0) → (∀ y, y < j → fl_v e y = 0) → wX_flood_2 post (nI s) f_present f_leastSize f_inEvery f_inSome f_cutByEvery f_cutBySome (d + 1) (nI j) a_start a_end a_rooms a_left a_from a_line a_level a_width a_done hh e := by
  intro d
  induction d with
  | zero =>
    intro j hh e hj h1 h2
    have e1 : j = 16 := by omega
    subst e1
    refine br_t (nI_le (a := 16) (b := 16) (by omega) (by decide)) ⟨vp_in_nI hs (by decide), nm_e ⟨16 + 1, ?_⟩⟩
    rw [nI_clamp (show s < 2 ^ 31 by omega)]
    refine xw_flood38 hs hB (fun l e hP hz => h l _ e hP hz ?_ ?_) 16 0 a_left e rfl (fl_P0 hok h2) (fun w hw => by omega)
    · rw [fl_vu, fl_pus]; decide
    · intro v hv hvs
      rw [fl_vu, fl_pun hvs]; exact h1 v hv
  | succ d ih =>
    intro j hh e hj h1 h2
    refine br_f (nI_ge (b := 16) (by omega) (by decide)) ⟨vp_in_nI (by omega) (by decide), nm_e ⟨vp_in_nI (by omega) (by decide), nm_e (nm_r (nI_1 j) (ih (j + 1) _ _ (by omega) ?_ ?_))⟩⟩
    · intro y hy
      rw [nI_clamp (by omega), fl_vu]
      by_cases e : y = j
      · rw [e, fl_pus]; decide
      · rw [fl_pun e]; exact h1 y (by omega)
    · intro y hy
      rw [nI_clamp (by omega), fl_vu]
      by_cases e : y = j
      · rw [e, fl_pus]; decide
      · rw [fl_pun e]; exact h2 y (by omega)
theorem xw_flood {post : SX → Prop} {f_present f_leastSize f_inEvery f_inSome f_cutByEvery f_cutBySome : Int32} {a_start a_end a_rooms a_left a_from a_line a_level a_width a_done a_height a_excess : Nat → Int32} {s : Nat} (hs : s < 16) (hok : fl_ok (fl_v a_left)) (hB : fl_cut (fl_v a_left) (fun x => decide (x = s)) ≤ 1980)
    (h : ∀ l hh e, fl_Pf (fl_v a_left) (fl_v l) (fl_v e) s → (∀ w, w < 16 → w ≠ s → fl_v l (s * 16 + w) = 0) → fl_v hh s = 16 → (∀ v, v < 16 → v ≠ s → fl_v hh v = 0) → post (f_present, f_leastSize, f_inEvery, f_inSome, f_cutByEvery, f_cutBySome, a_start, a_end, a_rooms, l, a_from, a_line, a_level, a_width, a_done, hh, e)) : wpX_flood post (f_present, f_leastSize, f_inEvery, f_inSome, f_cutByEvery, f_cutBySome, a_start, a_end, a_rooms, a_left, a_from, a_line, a_level, a_width, a_done, a_height, a_excess) (nI s) :=
  ⟨16 + 1, xw_flood2 hs hok hB h 16 0 a_height a_excess rfl (fun y hy => by omega) (fun y hy => by omega)⟩
theorem xw_active {post : Int32 → Prop} {f_present f_leastSize f_inEvery f_inSome f_cutByEvery f_cutBySome : Int32} {a_start a_end a_rooms a_left a_from a_line a_level a_width a_done a_height a_excess : Nat → Int32} {v s t : Nat} (hv : v < 16) (hs : s < 16) (ht : t < 16) (h1 : v ≠ s → v ≠ t → 0 < fl_v a_excess v → post 1) (h0 : ¬ (v ≠ s ∧ v ≠ t ∧ 0 < fl_v a_excess v) → post 0) : wpX_isActive post (f_present, f_leastSize, f_inEvery, f_inSome, f_cutByEvery, f_cutBySome, a_start, a_end, a_rooms, a_left, a_from, a_line, a_level, a_width, a_done, a_height, a_excess) (nI v) (nI s) (nI t) := by
  show (nI v = nI s → _) ∧ _
  refine pk_eq v s (fun e => h0 (fun z => z.1 e)) (fun e => pk_eq v t (fun e2 => h0 (fun z => z.2.1 e2)) (fun e2 => ⟨vp_in_nI hv (by decide), ?_⟩))
  rw [nI_clamp (show v < 2 ^ 31 by omega)]
  exact fl_cle (fun hl => h0 (fun z => absurd z.2.2 (Int.not_lt.mpr hl))) (fun hl => h1 e e2 (Int.not_le.mp hl))
theorem xw_highest_l {post : Int32 → Prop} {f_present f_leastSize f_inEvery f_inSome f_cutByEvery f_cutBySome : Int32} {a_start a_end a_rooms a_left a_from a_line a_level a_width a_done a_height a_excess : Nat → Int32} {s t : Nat} (hs : s < 16) (ht : t < 16) (hH : ∀ v, v < 16 → 0 ≤ fl_v a_height v)
    (h1 : ∀ v, v < 16 → v ≠ s → v ≠ t → 0 < fl_v a_excess v → post (nI v)) (h0 : (∀ v, v < 16 → ¬ (v ≠ s ∧ v ≠ t ∧ 0 < fl_v a_excess v)) → post (-1)) :
    ∀ (d j : Nat) (x3 x4 : Int32), j + d = 16 → ((x3 = -1 ∧ x4.toInt = -1 ∧ ∀ v, v < j → ¬ (v ≠ s ∧ v ≠ t ∧ 0 < fl_v a_excess v)) ∨ ∃ v : Nat, v < 16 ∧ x3 = nI v ∧ v ≠ s ∧ v ≠ t ∧ 0 < fl_v a_excess v) →
      wX_highestActive_8 post (nI s) (nI t) f_present f_leastSize f_inEvery f_inSome f_cutByEvery f_cutBySome a_start a_end a_rooms a_left a_from a_line a_level a_width a_done a_height a_excess (d + 1) x3 x4 (nI j) := by
  intro d
  induction d with
  | zero =>
    intro j x3 x4 hj hx
    have e : j = 16 := by omega
    subst e
    refine br_t (nI_le (a := 16) (b := 16) (by omega) (by decide)) ?_
    rcases hx with ⟨rfl, _, hp⟩ | ⟨v, hv, rfl, a, b, c⟩
    · exact h0 hp
    · exact h1 v hv a b c
  | succ d ih =>
    intro j x3 x4 hj hx
    refine br_f (nI_ge (b := 16) (by omega) (by decide)) (xw_active (by omega) hs ht (fun a b c => br_f (by decide) ⟨vp_in_nI (by omega) (by decide), ?_⟩) (fun hn => br_t rfl (nm_r (nI_1 j) (ih (j + 1) x3 x4 (by omega) ?_))))
    · rw [nI_clamp (show j < 2 ^ 31 by omega)]
      refine fl_cle (fun hl => nm_r (nI_1 j) (ih (j + 1) x3 x4 (by omega) ?_)) (fun hl => ⟨vp_in_nI (by omega) (by decide), nm_e (nm_r (nI_1 j) (ih (j + 1) (nI j) _ (by omega) (Or.inr ⟨j, by omega, rfl, a, b, c⟩)))⟩)
      rcases hx with ⟨_, h2, _⟩ | h2
      · have h3 : 0 ≤ (a_height j).toInt := hH j (by omega)
        omega
      · exact Or.inr h2
    · rcases hx with ⟨h2, h3, h4⟩ | h2
      · exact Or.inl ⟨h2, h3, lt_s h4 hn⟩
      · exact Or.inr h2
theorem xw_highest {post : Int32 → Prop} {f_present f_leastSize f_inEvery f_inSome f_cutByEvery f_cutBySome : Int32} {a_start a_end a_rooms a_left a_from a_line a_level a_width a_done a_height a_excess : Nat → Int32} {s t : Nat} (hs : s < 16) (ht : t < 16) (hH : ∀ v, v < 16 → 0 ≤ fl_v a_height v)
    (h1 : ∀ v, v < 16 → v ≠ s → v ≠ t → 0 < fl_v a_excess v → post (nI v)) (h0 : (∀ v, v < 16 → ¬ (v ≠ s ∧ v ≠ t ∧ 0 < fl_v a_excess v)) → post (-1)) : wpX_highestActive post (f_present, f_leastSize, f_inEvery, f_inSome, f_cutByEvery, f_cutBySome, a_start, a_end, a_rooms, a_left, a_from, a_line, a_level, a_width, a_done, a_height, a_excess) (nI s) (nI t) :=
  ⟨16 + 1, xw_highest_l hs ht hH h1 h0 16 0 (-1) (-1) rfl (Or.inl ⟨rfl, fl_m1, fun v hv => by omega⟩)⟩
theorem xw_nexta_l {post : Int32 → Prop} {f_present f_leastSize f_inEvery f_inSome f_cutByEvery f_cutBySome : Int32} {a_start a_end a_rooms a_left a_from a_line a_level a_width a_done a_height a_excess : Nat → Int32} {s t u : Nat} (hs : s < 16) (ht : t < 16) (hu : u < 16)
    (h1 : ∀ v, v < 16 → v ≠ s → v ≠ t → 0 < fl_v a_excess v → post (nI v)) (h0 : (∀ v, v < 16 → ¬ (v ≠ s ∧ v ≠ t ∧ 0 < fl_v a_excess v)) → post (-1)) :
    ∀ (d j : Nat), j + d = 17 → (∀ i, 1 ≤ i → i < j → ¬ ((u + i) % 16 ≠ s ∧ (u + i) % 16 ≠ t ∧ 0 < fl_v a_excess ((u + i) % 16))) → wX_nextActive_3 post (nI u) (nI s) (nI t) f_present f_leastSize f_inEvery f_inSome f_cutByEvery f_cutBySome a_start a_end a_rooms a_left a_from a_line a_level a_width a_done a_height a_excess (d + 1) (nI j) := by
  intro d
  induction d with
  | zero =>
    intro j hj hp
    have e : j = 17 := by omega
    subst e
    refine br_t (nI_lt (a := 16) (b := 17) (by omega) (by decide)) (h0 (fun v hv => ?_))
    by_cases c : u < v
    · have := hp (v - u) (by omega) (by omega)
      rw [show (u + (v - u)) % 16 = v by omega] at this; exact this
    · have := hp (v + 16 - u) (by omega) (by omega)
      rw [show (u + (v + 16 - u)) % 16 = v by omega] at this; exact this
  | succ d ih =>
    intro j hj hp
    have e1 : (nI u + nI j) - (nI u + nI j) / 16 * 16 = nI ((u + j) % 16) := by
      rw [nI_add]; exact pk_rem (d := 16) (by omega) (by omega) (by omega)
    refine br_f (nI_nlt (a := 16) (by omega) (by decide)) ⟨by decide, nm_r e1 (xw_active (by omega) hs ht (fun a b c => br_f (by decide) (h1 _ (by omega) a b c)) (fun hn => br_t rfl (nm_r (nI_1 j) (ih (j + 1) (by omega) (fun i h2 h3 => ?_)))))⟩
    by_cases e : i = j
    · rw [e]; exact hn
    · exact hp i h2 (by omega)
theorem xw_nexta {post : Int32 → Prop} {f_present f_leastSize f_inEvery f_inSome f_cutByEvery f_cutBySome : Int32} {a_start a_end a_rooms a_left a_from a_line a_level a_width a_done a_height a_excess : Nat → Int32} {s t u : Nat} (hs : s < 16) (ht : t < 16) (hu : u < 16)
    (h1 : ∀ v, v < 16 → v ≠ s → v ≠ t → 0 < fl_v a_excess v → post (nI v)) (h0 : (∀ v, v < 16 → ¬ (v ≠ s ∧ v ≠ t ∧ 0 < fl_v a_excess v)) → post (-1)) : wpX_nextActive post (f_present, f_leastSize, f_inEvery, f_inSome, f_cutByEvery, f_cutBySome, a_start, a_end, a_rooms, a_left, a_from, a_line, a_level, a_width, a_done, a_height, a_excess) (nI u) (nI s) (nI t) :=
  ⟨16 + 1, xw_nexta_l hs ht hu h1 h0 16 1 rfl (fun i h2 h3 => by omega)⟩
end
section
theorem xw_down_l {post : Int32 → Prop} {f_present f_leastSize f_inEvery f_inSome f_cutByEvery f_cutBySome : Int32} {a_start a_end a_rooms a_left a_from a_line a_level a_width a_done a_height a_excess : Nat → Int32} {u : Nat} (hu : u < 16) (hH : ∀ v, v < 16 → 0 ≤ fl_v a_height v ∧ fl_v a_height v ≤ 31)
    (h1 : ∀ v, v < 16 → fl_v a_height u = fl_v a_height v + 1 → 0 < fl_v a_left (u * 16 + v) → post (nI v))
    (h0 : (∀ v, v < 16 → fl_v a_height u = fl_v a_height v + 1 → ¬ 0 < fl_v a_left (u * 16 + v)) → post (-1)) :
    ∀ (d j : Nat), j + d = 16 → (∀ v, v < j → fl_v a_height u = fl_v a_height v + 1 → ¬ 0 < fl_v a_left (u * 16 + v)) → wX_downhillFrom_2 post (nI u) f_present f_leastSize f_inEvery f_inSome f_cutByEvery f_cutBySome a_start a_end a_rooms a_left a_from a_line a_level a_width a_done a_height a_excess (d + 1) (nI j) := by
  intro d
  induction d with
  | zero =>
    intro j hj hp
    have e : j = 16 := by omega
    subst e
    exact br_t (nI_le (a := 16) (b := 16) (by omega) (by decide)) (h0 hp)
  | succ d ih =>
    intro j hj hp
    have hb : 0 ≤ (a_height j).toInt ∧ (a_height j).toInt ≤ 31 := hH j (by omega)
    have e1 : (a_height j + 1).toInt = fl_v a_height j + 1 := fl_tadd (by rw [fl_one1]; omega) (by rw [fl_one1]; omega)
    refine br_f (nI_ge (b := 16) (by omega) (by decide)) ⟨vp_in_nI hu (by decide), vp_in_nI (by omega) (by decide), ?_⟩
    rw [nI_clamp (show j < 2 ^ 31 by omega), nI_clamp (show u < 2 ^ 31 by omega)]
    refine fl_ce (fun hf => ⟨fl_ixi hu (by omega), ?_⟩) (fun hf => nm_r (nI_1 j) (ih (j + 1) (by omega) (lt_s hp (fun z => absurd z (by rw [e1] at hf; exact hf)))))
    rw [e1] at hf
    rw [fl_ixc hu (by omega)]
    exact fl_cle (fun hl => nm_r (nI_1 j) (ih (j + 1) (by omega) (lt_s hp (fun _ => Int.not_lt.mpr hl)))) (fun hl => h1 j (by omega) hf (Int.not_le.mp hl))
theorem xw_down {post : Int32 → Prop} {f_present f_leastSize f_inEvery f_inSome f_cutByEvery f_cutBySome : Int32} {a_start a_end a_rooms a_left a_from a_line a_level a_width a_done a_height a_excess : Nat → Int32} {u : Nat} (hu : u < 16) (hH : ∀ v, v < 16 → 0 ≤ fl_v a_height v ∧ fl_v a_height v ≤ 31)
    (h1 : ∀ v, v < 16 → fl_v a_height u = fl_v a_height v + 1 → 0 < fl_v a_left (u * 16 + v) → post (nI v))
    (h0 : (∀ v, v < 16 → fl_v a_height u = fl_v a_height v + 1 → ¬ 0 < fl_v a_left (u * 16 + v)) → post (-1)) : wpX_downhillFrom post (f_present, f_leastSize, f_inEvery, f_inSome, f_cutByEvery, f_cutBySome, a_start, a_end, a_rooms, a_left, a_from, a_line, a_level, a_width, a_done, a_height, a_excess) (nI u) :=
  ⟨16 + 1, xw_down_l hu hH h1 h0 16 0 rfl (fun v hv => by omega)⟩
theorem xw_lift_l {post : SX → Prop} {f_present f_leastSize f_inEvery f_inSome f_cutByEvery f_cutBySome : Int32} {a_start a_end a_rooms a_left a_from a_line a_level a_width a_done a_height a_excess : Nat → Int32} {u : Nat} (hu : u < 16) (hH : ∀ v, v < 16 → 0 ≤ fl_v a_height v ∧ fl_v a_height v ≤ 31)
    (h : ∀ (m : Int) hh, (∀ v, v < 16 → 0 < fl_v a_left (u * 16 + v) → m ≤ fl_v a_height v) → (m = 32 ∨ ∃ v, v < 16 ∧ 0 < fl_v a_left (u * 16 + v) ∧ m = fl_v a_height v) → fl_v hh = fl_pu (fl_v a_height) u (m + 1) → post (f_present, f_leastSize, f_inEvery, f_inSome, f_cutByEvery, f_cutBySome, a_start, a_end, a_rooms, a_left, a_from, a_line, a_level, a_width, a_done, hh, a_excess)) :
    ∀ (d j : Nat) (x : Int32), j + d = 16 → 0 ≤ x.toInt → x.toInt ≤ 32 → (∀ v, v < j → 0 < fl_v a_left (u * 16 + v) → x.toInt ≤ fl_v a_height v) → (x.toInt = 32 ∨ ∃ v, v < 16 ∧ 0 < fl_v a_left (u * 16 + v) ∧ x.toInt = fl_v a_height v) →
      wX_lift_5 post (nI u) f_present f_leastSize f_inEvery f_inSome f_cutByEvery f_cutBySome a_start a_end a_rooms a_left a_from a_line a_level a_width a_done a_height a_excess (d + 1) x (nI j) := by
  intro d
  induction d with
  | zero =>
    intro j x hj hx0 hx1 hp hq
    have e : j = 16 := by omega
    subst e
    refine br_t (nI_le (a := 16) (b := 16) (by omega) (by decide)) ⟨vp_in_nI hu (by decide), nm_e (h x.toInt _ hp hq ?_)⟩
    rw [nI_clamp (show u < 2 ^ 31 by omega), fl_vu, fl_tadd (by rw [fl_one1]; omega) (by rw [fl_one1]; omega), fl_one1]
  | succ d ih =>
    intro j x hj hx0 hx1 hp hq
    have hb : 0 ≤ (a_height j).toInt ∧ (a_height j).toInt ≤ 31 := hH j (by omega)
    refine br_f (nI_ge (b := 16) (by omega) (by decide)) ⟨fl_ixi hu (by omega), ?_⟩
    rw [fl_ixc hu (by omega), nI_clamp (show j < 2 ^ 31 by omega)]
    refine fl_cle (fun hl => nm_r (nI_1 j) (ih (j + 1) x (by omega) hx0 hx1 (lt_s hp (fun z => absurd z (Int.not_lt.mpr hl))) hq)) (fun hl => ⟨vp_in_nI (by omega) (by decide), xw_lesser (fun r hr hr1 hr2 => nm_r (nI_1 j) (ih (j + 1) r (by omega) ?_ (by omega) (lt_s (fun v hv hL => ?_) (fun _ => hr2)) ?_))⟩)
    · rcases hr with rfl | rfl <;> omega
    · have := hp v hv hL
      omega
    · rcases hr with rfl | rfl
      · exact hq
      · exact Or.inr ⟨j, by omega, Int.not_le.mp hl, rfl⟩
theorem xw_lift {post : SX → Prop} {f_present f_leastSize f_inEvery f_inSome f_cutByEvery f_cutBySome : Int32} {a_start a_end a_rooms a_left a_from a_line a_level a_width a_done a_height a_excess : Nat → Int32} {u : Nat} (hu : u < 16) (hH : ∀ v, v < 16 → 0 ≤ fl_v a_height v ∧ fl_v a_height v ≤ 31)
    (h : ∀ (m : Int) hh, (∀ v, v < 16 → 0 < fl_v a_left (u * 16 + v) → m ≤ fl_v a_height v) → (m = 32 ∨ ∃ v, v < 16 ∧ 0 < fl_v a_left (u * 16 + v) ∧ m = fl_v a_height v) → fl_v hh = fl_pu (fl_v a_height) u (m + 1) → post (f_present, f_leastSize, f_inEvery, f_inSome, f_cutByEvery, f_cutBySome, a_start, a_end, a_rooms, a_left, a_from, a_line, a_level, a_width, a_done, hh, a_excess)) : wpX_lift post (f_present, f_leastSize, f_inEvery, f_inSome, f_cutByEvery, f_cutBySome, a_start, a_end, a_rooms, a_left, a_from, a_line, a_level, a_width, a_done, a_height, a_excess) (nI u) :=
  ⟨16 + 1, xw_lift_l hu hH h 16 0 32 rfl (by decide) (by decide) (fun v hv => by omega) (Or.inl (by decide))⟩
theorem xw_excess11 {post : Int32 → SX → Prop} {f_present f_leastSize f_inEvery f_inSome f_cutByEvery f_cutBySome : Int32} {a_start a_end a_rooms a_from a_line a_level a_width a_done : Nat → Int32} {s t : Nat} {eng : Int32} {C : Nat → Int} (hs : s < 16) (ht : t < 16) (hst : s ≠ t) (hC : fl_ok C) (hB : fl_cut C (fun x => decide (x = s)) ≤ 1980)
    (hP : ∀ (x : Int32) l hh e, 0 ≤ x.toInt → fl_Min C s t x.toInt → post x (f_present, f_leastSize, f_inEvery, f_inSome, f_cutByEvery, f_cutBySome, a_start, a_end, a_rooms, l, a_from, a_line, a_level, a_width, a_done, hh, e)) :
    ∀ (d k u : Nat) l hh e, k + d = 982577 → u < 16 → fl_Pf C (fl_v l) (fl_v e) s → fl_Hv (fl_v l) (fl_v hh) s t → fl_ph (fl_v hh) (fl_v e) s t + (k : Int) ≤ 982576 →
      wX_flowByExcess_11 post eng (nI s) (nI t) (d + 1) (nI u) (nI k) f_present f_leastSize f_inEvery f_inSome f_cutByEvery f_cutBySome a_start a_end a_rooms l a_from a_line a_level a_width a_done hh e := by
  intro d
  induction d with
  | zero =>
    intro k u l hh e hk hu hF hV hM
    have := fl_ph_nn (s := s) (t := t) hV.2.2.1 hF.2.2
    omega
  | succ d ih =>
    intro k u l hh e hk hu hF hV hM
    have hnn := fl_ph_nn (s := s) (t := t) hV.2.2.1 hF.2.2
    have hE := fl_E_b hs hF hB
    have hEx : ∀ x, x < 16 → -1980 ≤ fl_v e x ∧ fl_v e x ≤ 1980 := fun x hx => by
      by_cases ex : x = s
      · rw [ex]; omega
      · have := hE.2.2 x hx ex
        omega
    have h0 : (∀ v, v < 16 → ¬ (v ≠ s ∧ v ≠ t ∧ 0 < fl_v e v)) → wX_flowByExcess_41 post (wX_flowByExcess_11 post eng (nI s) (nI t) (d + 1)) eng (nI s) (nI t) (nI k) (-1) f_present f_leastSize f_inEvery f_inSome f_cutByEvery f_cutBySome a_start a_end a_rooms l a_from a_line a_level a_width a_done hh e := by
      intro hn
      refine br_t rfl ⟨vp_in_nI ht (by decide), ?_⟩
      rw [nI_clamp (show t < 2 ^ 31 by omega)]
      refine hP _ l hh e (hE.2.2 t ht (Ne.symm hst)).1 (fl_P3 hF hV hs ht hst (fun v hv h1 h2 => ?_))
      have h3 := hn v hv
      have h4 := hF.2.2 v hv h1
      by_cases h5 : 0 < fl_v e v
      · exact absurd ⟨h1, h2, h5⟩ h3
      · omega
    have h1 : ∀ v, v < 16 → v ≠ s → v ≠ t → 0 < fl_v e v → wX_flowByExcess_41 post (wX_flowByExcess_11 post eng (nI s) (nI t) (d + 1)) eng (nI s) (nI t) (nI k) (nI v) f_present f_leastSize f_inEvery f_inSome f_cutByEvery f_cutBySome a_start a_end a_rooms l a_from a_line a_level a_width a_done hh e := by
      intro v hv hvs hvt hpos
      refine br_f (fl_nm (by omega)) (xw_down hv hV.2.2.1 (fun w hw hd hL => br_f (fl_nm (by omega)) ⟨vp_in_nI hv (by decide), fl_ixi hv hw, ?_⟩) (fun hn => br_t rfl (xw_lift hv hV.2.2.1 (fun m hh2 hm1 hm2 he => nm_r (nI_1 k) ?_))))
      · rw [nI_clamp (show v < 2 ^ 31 by omega), fl_ixc hv hw]
        have hle := fl_ok_le hF.1 hv hw
        have hpos' : 0 < (e v).toInt := hpos
        have hL' : 0 < (l (v * 16 + w)).toInt := hL
        have hle' : (l (v * 16 + w)).toInt ≤ 4000 := hle.2
        refine xw_lesser (fun r hr hr1 hr2 => xw_push hv hw ?_ (by omega) hF.1 hEx (fun l2 e2 hl he => nm_r (nI_1 k) ?_))
        · rcases hr with rfl | rfl <;> omega
        · have hr0 : 1 ≤ r.toInt := by
            rcases hr with rfl | rfl <;> omega
          have hh3 := fl_P5 hF hV hv hw hvs hvt hd hr0 hr1 hr2
          rw [← hl, ← he] at hh3
          exact ih (k + 1) v l2 hh e2 (by omega) hv hh3.1 hh3.2.1 (by have := hh3.2.2; omega)
      · have hh3 := fl_P4 hC hF hV hs hB hv hvs hvt hpos hn hm1 hm2
        rw [← he] at hh3
        exact ih (k + 1) v l hh2 e (by omega) hv hF hh3.1 (by have := hh3.2; omega)
    exact br_f (nI_ge (b := 1000000) (by omega) (by decide)) (br_c (fun _ => xw_highest hs ht (fun v hv => (hV.2.2.1 v hv).1) h1 h0) (fun _ => xw_nexta hs ht hu h1 h0))
theorem xw_excess {post : Int32 → SX → Prop} {f_present f_leastSize f_inEvery f_inSome f_cutByEvery f_cutBySome : Int32} {a_start a_end a_rooms a_left a_from a_line a_level a_width a_done a_height a_excess : Nat → Int32} {s t : Nat} {eng : Int32} (hs : s < 16) (ht : t < 16) (hst : s ≠ t) (hok : fl_ok (fl_v a_left)) (hB : fl_cut (fl_v a_left) (fun x => decide (x = s)) ≤ 1980)
    (hP : ∀ (x : Int32) l hh e, 0 ≤ x.toInt → fl_Min (fl_v a_left) s t x.toInt → post x (f_present, f_leastSize, f_inEvery, f_inSome, f_cutByEvery, f_cutBySome, a_start, a_end, a_rooms, l, a_from, a_line, a_level, a_width, a_done, hh, e)) : wpX_flowByExcess post (f_present, f_leastSize, f_inEvery, f_inSome, f_cutByEvery, f_cutBySome, a_start, a_end, a_rooms, a_left, a_from, a_line, a_level, a_width, a_done, a_height, a_excess) eng (nI s) (nI t) := by
  unfold wpX_flowByExcess
  exact xw_flood hs hok hB (fun l hh e hF hz h1 h2 => ⟨982577 + 1, xw_excess11 hs ht hst hok hB hP 982577 0 s l hh e rfl hs hF (fl_P7 hst ht hz h1 h2) (by have := fl_ph_0 (E := fl_v e) (s := s) (t := t) h2; omega)⟩)
end
section
def fl_st (a : Nat → Int32) : Nat → Nat := fun k => (a k).toNatClampNeg
/-- the arcs that are there go from a point to a point, and have a room -/
def fl_Net (pr : Int32) (st en rm : Nat → Int32) : Prop := ∀ k, k < 20 → bt pr k = true → (st k = nI (fl_st st k) ∧ fl_st st k < 8) ∧ (en k = nI (fl_st en k) ∧ fl_st en k < 8) ∧ 0 ≤ fl_v rm k ∧ fl_v rm k ≤ 99
/-- what the arcs that leave S carry -/
def fl_Cs (pr : Int32) (st en rm : Nat → Int32) (ext : Nat) (most : Int) (S : Nat → Bool) : Int := fl_cs (bt pr) (fl_st st) (fl_st en) (fl_v rm) ext most S 20
/-- the least of B over the sides -/
def fl_Mc (B : (Nat → Bool) → Int) (s t : Nat) (x : Int) : Prop := (∃ S, fl_Sd S s t ∧ B S = x) ∧ ∀ S, fl_Sd S s t → x ≤ B S
theorem fl_Min_c {C : Nat → Int} {B : (Nat → Bool) → Int} {s t : Nat} {x : Int} (h : fl_Min C s t x) (hB : ∀ S, fl_cut C S = B S) : fl_Mc B s t x := by
  obtain ⟨⟨S, h1, h2⟩, h3⟩ := h
  exact ⟨⟨S, h1, by rw [← hB, h2]⟩, fun T hT => by rw [← hB]; exact h3 T hT⟩
theorem xw_lay24 {post : SX → Prop} {f_present f_leastSize f_inEvery f_inSome f_cutByEvery f_cutBySome : Int32} {a_start a_end a_rooms a_from a_line a_level a_width a_done a_height a_excess : Nat → Int32} {ext : Nat} {most : Int32} (hx : ext ≤ 8) (hm : 0 ≤ most.toInt ∧ most.toInt ≤ 99) (hN : fl_Net f_present a_start a_end a_rooms)
    (h : ∀ l, fl_La (bt f_present) (fl_st a_start) (fl_st a_end) (fl_v a_rooms) ext most.toInt (fl_v l) 20 → post (f_present, f_leastSize, f_inEvery, f_inSome, f_cutByEvery, f_cutBySome, a_start, a_end, a_rooms, l, a_from, a_line, a_level, a_width, a_done, a_height, a_excess)) :
    ∀ (d k : Nat) l, k + d = 20 → fl_La (bt f_present) (fl_st a_start) (fl_st a_end) (fl_v a_rooms) ext most.toInt (fl_v l) k → wX_layArcs_24 post (nI ext) most f_present f_leastSize f_inEvery f_inSome f_cutByEvery f_cutBySome (d + 1) (nI k) a_start a_end a_rooms l a_from a_line a_level a_width a_done a_height a_excess := by
  intro d
  induction d with
  | zero =>
    intro k l hk hL
    have e : k = 20 := by omega
    subst e
    exact br_t (nI_le (a := 20) (b := 20) (by omega) (by decide)) (h l hL)
  | succ d ih =>
    intro k l hk hL
    refine br_f (nI_ge (b := 20) (by omega) (by decide)) (xw_holds (by omega) (fun hb => br_f (by decide) ?_) (fun hb => br_t rfl (nm_r (nI_1 k) (ih (k + 1) l (by omega) (fl_La1 hL hb)))))
    obtain ⟨⟨s1, s2⟩, ⟨e1, e2⟩, r1, r2⟩ := hN k (by omega) hb
    rw [nI_clamp (show k < 2 ^ 31 by omega), s1, e1, nI_add]
    have i1 : vp_in (nI (fl_st a_start k + ext) * 16 + nI (fl_st a_end k)) 256 := fl_ixi (by omega) (by omega)
    have hv := hL.2.1 ((fl_st a_start k + ext) * 16 + fl_st a_end k) (by omega)
    have hv' : 0 ≤ (l ((fl_st a_start k + ext) * 16 + fl_st a_end k)).toInt ∧ (l ((fl_st a_start k + ext) * 16 + fl_st a_end k)).toInt ≤ 99 * (k : Int) := hv
    have r1' : 0 ≤ (a_rooms k).toInt := r1
    have r2' : (a_rooms k).toInt ≤ 99 := r2
    refine ⟨vp_in_nI (by omega) (by decide), vp_in_nI (by omega) (by decide), i1, vp_in_nI (by omega) (by decide), xw_lesser (fun r hr hr1 hr2 => ⟨i1, nm_e (nm_r (nI_1 k) (ih (k + 1) _ (by omega) ?_))⟩)⟩
    have hr0 : 0 ≤ r.toInt ∧ r.toInt ≤ 99 := by
      rcases hr with rfl | rfl <;> omega
    have er : r.toInt = (if fl_v a_rooms k < most.toInt then fl_v a_rooms k else most.toInt) := by
      have e3 : fl_v a_rooms k = (a_rooms k).toInt := rfl
      rw [e3]
      rcases hr with rfl | rfl
      · split <;> omega
      · split <;> omega
    rw [fl_ixc (by omega) (by omega), fl_vu]
    refine fl_La2 hL hb (by omega) (by omega) ⟨r1, r2⟩ hm.1 ?_
    rw [fl_tadd (by omega) (by omega), er]; rfl
theorem xw_lay2 {post : SX → Prop} {f_present f_leastSize f_inEvery f_inSome f_cutByEvery f_cutBySome : Int32} {a_start a_end a_rooms a_from a_line a_level a_width a_done a_height a_excess : Nat → Int32} {ext : Nat} {most : Int32} (hx : ext ≤ 8) (hm : 0 ≤ most.toInt ∧ most.toInt ≤ 99) (hN : fl_Net f_present a_start a_end a_rooms)
    (h : ∀ l, fl_La (bt f_present) (fl_st a_start) (fl_st a_end) (fl_v a_rooms) ext most.toInt (fl_v l) 20 → post (f_present, f_leastSize, f_inEvery, f_inSome, f_cutByEvery, f_cutBySome, a_start, a_end, a_rooms, l, a_from, a_line, a_level, a_width, a_done, a_height, a_excess)) :
    ∀ (d j : Nat) l, j + d = 256 → (∀ i, i < j → fl_v l i = 0) → wX_layArcs_2 post (nI ext) most f_present f_leastSize f_inEvery f_inSome f_cutByEvery f_cutBySome (d + 1) (nI j) a_start a_end a_rooms l a_from a_line a_level a_width a_done a_height a_excess := by
  intro d
  induction d with
  | zero =>
    intro j l hj hp
    have e : j = 256 := by omega
    subst e
    exact br_t (nI_le (a := 256) (b := 256) (by omega) (by decide)) ⟨20 + 1, xw_lay24 hx hm hN h 20 0 l rfl (fl_La0 hp)⟩
  | succ d ih =>
    intro j l hj hp
    refine br_f (nI_ge (b := 256) (by omega) (by decide)) ⟨vp_in_nI (by omega) (by decide), nm_e (nm_r (nI_1 j) (ih (j + 1) _ (by omega) ?_))⟩
    intro i hi
    rw [nI_clamp (by omega), fl_vu]
    by_cases e : i = j
    · rw [e, fl_pus]; decide
    · rw [fl_pun e]; exact hp i (by omega)
theorem xw_lay {post : SX → Prop} {f_present f_leastSize f_inEvery f_inSome f_cutByEvery f_cutBySome : Int32} {a_start a_end a_rooms a_left a_from a_line a_level a_width a_done a_height a_excess : Nat → Int32} {ext : Nat} {most : Int32} (hx : ext ≤ 8) (hm : 0 ≤ most.toInt ∧ most.toInt ≤ 99) (hN : fl_Net f_present a_start a_end a_rooms)
    (h : ∀ l, fl_La (bt f_present) (fl_st a_start) (fl_st a_end) (fl_v a_rooms) ext most.toInt (fl_v l) 20 → post (f_present, f_leastSize, f_inEvery, f_inSome, f_cutByEvery, f_cutBySome, a_start, a_end, a_rooms, l, a_from, a_line, a_level, a_width, a_done, a_height, a_excess)) : wpX_layArcs post (f_present, f_leastSize, f_inEvery, f_inSome, f_cutByEvery, f_cutBySome, a_start, a_end, a_rooms, a_left, a_from, a_line, a_level, a_width, a_done, a_height, a_excess) (nI ext) most :=
  ⟨256 + 1, xw_lay2 hx hm hN h 256 0 a_left rfl (fun i hi => by omega)⟩
theorem xw_layP_l {post : SX → Prop} {f_present f_leastSize f_inEvery f_inSome f_cutByEvery f_cutBySome : Int32} {a_start a_end a_rooms a_from a_line a_level a_width a_done a_height a_excess : Nat → Int32} {much : Int32} {B : (Nat → Bool) → Int} (hm : 0 ≤ much.toInt ∧ much.toInt ≤ 99) (h : ∀ l, fl_Lp B much.toInt (fl_v l) 8 → post (f_present, f_leastSize, f_inEvery, f_inSome, f_cutByEvery, f_cutBySome, a_start, a_end, a_rooms, l, a_from, a_line, a_level, a_width, a_done, a_height, a_excess)) :
    ∀ (d p : Nat) l, p + d = 8 → fl_Lp B much.toInt (fl_v l) p → wX_layPoints_2 post much f_present f_leastSize f_inEvery f_inSome f_cutByEvery f_cutBySome (d + 1) (nI p) a_start a_end a_rooms l a_from a_line a_level a_width a_done a_height a_excess := by
  intro d
  induction d with
  | zero =>
    intro p l hp hL
    have e : p = 8 := by omega
    subst e
    exact br_t (nI_le (a := 8) (b := 8) (by omega) (by decide)) (h l hL)
  | succ d ih =>
    intro p l hp hL
    have e1 : nI p * 16 + nI p + 8 = nI (p * 16 + p + 8) := by rw [fl_ix]; exact nI_add (p * 16 + p) 8
    refine br_f (nI_ge (b := 8) (by omega) (by decide)) ?_
    rw [e1, nI_clamp (show p * 16 + p + 8 < 2 ^ 31 by omega)]
    refine ⟨vp_in_nI (by omega) (by decide), nm_e (nm_r (nI_1 p) (ih (p + 1) _ (by omega) ?_))⟩
    rw [fl_vu]
    exact fl_Lp1 hL (by omega) hm
theorem xw_layP {post : SX → Prop} {f_present f_leastSize f_inEvery f_inSome f_cutByEvery f_cutBySome : Int32} {a_start a_end a_rooms a_left a_from a_line a_level a_width a_done a_height a_excess : Nat → Int32} {much : Int32} {B : (Nat → Bool) → Int} (hm : 0 ≤ much.toInt ∧ much.toInt ≤ 99) (h0 : fl_Lp B much.toInt (fl_v a_left) 0) (h : ∀ l, fl_Lp B much.toInt (fl_v l) 8 → post (f_present, f_leastSize, f_inEvery, f_inSome, f_cutByEvery, f_cutBySome, a_start, a_end, a_rooms, l, a_from, a_line, a_level, a_width, a_done, a_height, a_excess)) : wpX_layPoints post (f_present, f_leastSize, f_inEvery, f_inSome, f_cutByEvery, f_cutBySome, a_start, a_end, a_rooms, a_left, a_from, a_line, a_level, a_width, a_done, a_height, a_excess) much :=
  ⟨8 + 1, xw_layP_l hm h 8 0 a_left rfl h0⟩
theorem fl_La_B {pr : Int32} {st en rm : Nat → Int32} {ext s t : Nat} {most : Int} {L : Nat → Int} (hN : fl_Net pr st en rm) (hm : 0 ≤ most) (hst : s ≠ t) (h : fl_La (bt pr) (fl_st st) (fl_st en) (fl_v rm) ext most L 20) :
    fl_cut L (fun x => decide (x = s)) ≤ 1980 ∧ ∃ S, fl_Sd S s t ∧ fl_cut L S ≤ 1980 := by
  have h1 : ∀ S, fl_cut L S ≤ 1980 := fun S => by
    rw [h.1 S]; exact (fl_cs_le S (fun k hk hb => (hN k hk hb).2.2) hm).2
  exact ⟨h1 _, ⟨fun x => decide (x = s), ⟨by simp, by simp; exact Ne.symm hst⟩, h1 _⟩⟩
theorem xw_value {post : Int32 → SX → Prop} {f_present f_leastSize f_inEvery f_inSome f_cutByEvery f_cutBySome : Int32} {a_start a_end a_rooms a_left a_from a_line a_level a_width a_done a_height a_excess : Nat → Int32} {eng p q : Int32} (hN : fl_Net f_present a_start a_end a_rooms)
    (hP : ∀ s t, s < 8 → t < 8 → s ≠ t → p = nI s → q = nI t → 0 ≤ eng.toInt → eng.toInt ≤ 6 → ∀ (x : Int32) l f li v w dn hh e, 0 ≤ x.toInt → fl_Mc (fl_Cs f_present a_start a_end a_rooms 0 99) s t x.toInt → post x (f_present, f_leastSize, f_inEvery, f_inSome, f_cutByEvery, f_cutBySome, a_start, a_end, a_rooms, l, f, li, v, w, dn, hh, e))
    (h0 : ¬ (fl_Two p q ∧ 0 ≤ eng.toInt ∧ eng.toInt ≤ 6) → post (-1) (f_present, f_leastSize, f_inEvery, f_inSome, f_cutByEvery, f_cutBySome, a_start, a_end, a_rooms, a_left, a_from, a_line, a_level, a_width, a_done, a_height, a_excess)) : wpX_value post (f_present, f_leastSize, f_inEvery, f_inSome, f_cutByEvery, f_cutBySome, a_start, a_end, a_rooms, a_left, a_from, a_line, a_level, a_width, a_done, a_height, a_excess) eng p q := by
  unfold wpX_value
  refine xw_ends (fun h2 => br_f (by decide) (fl_cl (fun hl => h0 ?_) (fun hl => fl_cle (fun hl2 => ?_) (fun hl2 => h0 ?_)))) (fun h2 => br_t rfl (h0 (fun z => h2 z.1)))
  · rw [fl_z0] at hl
    intro z
    have := z.2.1
    omega
  · rw [fl_z0] at hl
    rw [show (6 : Int32).toInt = 6 by decide] at hl2
    obtain ⟨s, t, hs, ht, hst, rfl, rfl⟩ := h2
    have P := hP s t hs ht hst rfl rfl (by omega) hl2
    refine xw_lay (ext := 0) (by omega) (by decide) hN (fun l hL => ?_)
    have hok := fl_La_ok hL
    obtain ⟨b1, b2⟩ := fl_La_B hN (by decide) hst hL
    have cv : ∀ x, fl_Min (fl_v l) s t x → fl_Mc (fl_Cs f_present a_start a_end a_rooms 0 99) s t x := fun x hx => fl_Min_c hx hL.1
    have hs16 : s < 16 := by omega
    have ht16 : t < 16 := by omega
    have hp : wpX_flowByPaths post (f_present, f_leastSize, f_inEvery, f_inSome, f_cutByEvery, f_cutBySome, a_start, a_end, a_rooms, l, a_from, a_line, a_level, a_width, a_done, a_height, a_excess) eng (nI s) (nI t) := xw_paths hs16 ht16 hst hok b2 (fun x l f li v w dn h1 h2 => P x l f li v w dn _ _ h1 (cv _ h2))
    have he : wpX_flowByExcess post (f_present, f_leastSize, f_inEvery, f_inSome, f_cutByEvery, f_cutBySome, a_start, a_end, a_rooms, l, a_from, a_line, a_level, a_width, a_done, a_height, a_excess) eng (nI s) (nI t) := xw_excess hs16 ht16 hst hok b1 (fun x l hh e h1 h2 => P x l _ _ _ _ _ hh e h1 (cv _ h2))
    refine br_c (fun _ => hp) (fun _ => br_c (fun _ => hp) (fun _ => br_c (fun _ => ?_) (fun _ => br_c (fun _ => ?_) (fun _ => br_c (fun _ => he) (fun _ => br_c (fun _ => he) (fun _ => trivial))))))
    · exact xw_scales hs16 ht16 hst hok b2 (fun x l f h1 h2 => P x l f _ _ _ _ _ _ h1 (cv _ h2))
    · exact xw_layers hs16 ht16 hst hok b2 (fun x l f li v h1 h2 => P x l f li v _ _ _ _ h1 (cv _ h2))
  · rw [show (6 : Int32).toInt = 6 by decide] at hl2
    intro z
    have := z.2.2
    omega
end
section
/-- the set of those k below n for which f holds -/
def fl_cm (f : Nat → Bool) : Nat → Int32
  | 0 => 0
  | n + 1 => if f n = true then fl_cm f n ||| ((1 : Int32) <<< (nI n &&& 31)) else fl_cm f n
theorem fl_cm_b (f : Nat → Bool) : ∀ n, n ≤ 32 → ∀ b, b < 32 → bt (fl_cm f n) b = (decide (b < n) && f b) := by
  intro n
  induction n with
  | zero => intro _ b _; rw [show fl_cm f 0 = 0 from rfl, b_0]; simp
  | succ n ih =>
    intro hn b hb
    have h1 := ih (by omega) b hb
    show bt (if f n = true then fl_cm f n ||| ((1 : Int32) <<< (nI n &&& 31)) else fl_cm f n) b = _
    by_cases hf : f n = true
    · rw [if_pos hf, b_or, h1, fl_sh1 (by omega) hb]
      by_cases e : b = n
      · subst e; simp [hf]
      · by_cases e2 : b < n
        · simp [e2, e]; omega
        · have e3 : ¬ b < n + 1 := by omega
          simp [e2, e, e3]
    · rw [if_neg hf, h1]
      by_cases e : b = n
      · subst e
        have hf' : f b = false := by simpa using hf
        simp [hf']
      · by_cases e2 : b < n
        · have e3 : b < n + 1 := by omega
          simp [e2, e3]
        · have e3 : ¬ b < n + 1 := by omega
          simp [e2, e3]
/-- the arcs from a point in outs to one not in ins -/
def fl_cf (pr : Int32) (st en : Nat → Int32) (S T : Nat → Bool) : Nat → Bool := fun k => bt pr k && (S (fl_st st k) && !T (fl_st en k))
def fl_tb (j : Nat) : Nat → Bool := fun p => j.testBit p
def fl_ct (pr : Int32) (st en : Nat → Int32) (j : Nat) : Int32 := fl_cm (fl_cf pr st en (fl_tb j) (fl_tb j)) 20
theorem fl_ct_b {pr : Int32} {st en : Nat → Int32} {j b : Nat} (hb : b < 20) : bt (fl_ct pr st en j) b = fl_cf pr st en (fl_tb j) (fl_tb j) b := by
  unfold fl_ct
  rw [fl_cm_b _ 20 (by omega) b (by omega)]; simp [hb]
theorem fl_sz_eq {pr : Int32} {st en rm : Nat → Int32} {j : Nat} (hN : fl_Net pr st en rm) : fl_S 20 (fun k => if bt (fl_ct pr st en j) k = true then fl_v rm k else 0) = fl_Cs pr st en rm 0 99 (fl_tb j) := by
  refine fl_congr (fun k hk => ?_)
  show (if bt (fl_ct pr st en j) k = true then fl_v rm k else 0) = (if (bt pr k && (fl_tb j (fl_st st k + 0) && !fl_tb j (fl_st en k))) = true then (if fl_v rm k < 99 then fl_v rm k else 99) else 0)
  rw [fl_ct_b hk, Nat.add_zero]
  show (if (bt pr k && (fl_tb j (fl_st st k) && !fl_tb j (fl_st en k))) = true then fl_v rm k else 0) = _
  by_cases e : (bt pr k && (fl_tb j (fl_st st k) && !fl_tb j (fl_st en k))) = true
  · rw [if_pos e, if_pos e]
    rw [Bool.and_eq_true] at e
    have := (hN k hk e.1).2.2.2
    split <;> omega
  · rw [if_neg e, if_neg e]
theorem fl_cn_eq {pr : Int32} {st en rm : Nat → Int32} {j : Nat} (hN : fl_Net pr st en rm) : fl_S 20 (fun k => if bt (fl_ct pr st en j) k = true then (if fl_v rm k ≤ 0 then 0 else 1) else 0) = fl_Cs pr st en rm 0 1 (fl_tb j) := by
  refine fl_congr (fun k hk => ?_)
  show (if bt (fl_ct pr st en j) k = true then (if fl_v rm k ≤ 0 then 0 else 1) else 0) = (if (bt pr k && (fl_tb j (fl_st st k + 0) && !fl_tb j (fl_st en k))) = true then (if fl_v rm k < 1 then fl_v rm k else 1) else 0)
  rw [fl_ct_b hk, Nat.add_zero]
  show (if (bt pr k && (fl_tb j (fl_st st k) && !fl_tb j (fl_st en k))) = true then (if fl_v rm k ≤ 0 then 0 else 1) else 0) = _
  by_cases e : (bt pr k && (fl_tb j (fl_st st k) && !fl_tb j (fl_st en k))) = true
  · rw [if_pos e, if_pos e]
    rw [Bool.and_eq_true] at e
    have := (hN k hk e.1).2.2.1
    split <;> split <;> omega
  · rw [if_neg e, if_neg e]
theorem fl_Cs_b {pr : Int32} {st en rm : Nat → Int32} {most : Int} {ext : Nat} (hN : fl_Net pr st en rm) (hm : 0 ≤ most) (S : Nat → Bool) : 0 ≤ fl_Cs pr st en rm ext most S ∧ fl_Cs pr st en rm ext most S ≤ 1980 :=
  fl_cs_le S (fun k hk hb => (hN k hk hb).2.2) hm
theorem xw_isSide {post : Int32 → Prop} {u : SX} {j a b : Nat} (ha : a < 32) (hb : b < 32) (h1 : fl_tb j a = true → fl_tb j b = false → post 1) (h0 : ¬ (fl_tb j a = true ∧ fl_tb j b = false) → post 0) : wpX_isSide post u (nI j) (nI a) (nI b) := by
  obtain ⟨u1, u2, u3, u4, u5, u6, u7, u8, u9, u10, u11, u12, u13, u14, u15, u16, u17⟩ := u
  unfold wpX_isSide
  refine xw_holds ha (fun h2 => br_f (by decide) (xw_holds hb (fun h3 => br_f (by decide) (h0 ?_)) (fun h3 => br_t rfl (h1 ?_ ?_)))) (fun h2 => br_t rfl (h0 ?_))
  · rw [fl_bt hb] at h3
    intro z
    have z2 : j.testBit b = false := z.2
    rw [h3] at z2; cases z2
  · rw [fl_bt ha] at h2; exact h2
  · rw [fl_bt hb] at h3; exact h3
  · rw [fl_bt ha] at h2
    intro z
    have z2 : j.testBit a = true := z.1
    rw [h2] at z2; cases z2
theorem xw_cut_l {post : Int32 → Prop} {f_present f_leastSize f_inEvery f_inSome f_cutByEvery f_cutBySome : Int32} {a_start a_end a_rooms a_left a_from a_line a_level a_width a_done a_height a_excess : Nat → Int32} {j : Nat} (hN : fl_Net f_present a_start a_end a_rooms) (h : post (fl_ct f_present a_start a_end j)) :
    ∀ (d k : Nat), k + d = 20 → wX_arcsCutBy_4 post (nI j) f_present f_leastSize f_inEvery f_inSome f_cutByEvery f_cutBySome a_start a_end a_rooms a_left a_from a_line a_level a_width a_done a_height a_excess (d + 1) (fl_cm (fl_cf f_present a_start a_end (fl_tb j) (fl_tb j)) k) (nI k) := by
  intro d
  induction d with
  | zero =>
    intro k hk
    have e : k = 20 := by omega
    subst e
    exact br_t (nI_le (a := 20) (b := 20) (by omega) (by decide)) h
  | succ d ih =>
    intro k hk
    have e0 : fl_cf f_present a_start a_end (fl_tb j) (fl_tb j) k = (bt f_present k && (fl_tb j (fl_st a_start k) && !fl_tb j (fl_st a_end k))) := rfl
    have en : fl_cf f_present a_start a_end (fl_tb j) (fl_tb j) k = false → fl_cm (fl_cf f_present a_start a_end (fl_tb j) (fl_tb j)) (k + 1) = fl_cm (fl_cf f_present a_start a_end (fl_tb j) (fl_tb j)) k := fun z => if_neg (by rw [z]; decide)
    have ey : fl_cf f_present a_start a_end (fl_tb j) (fl_tb j) k = true → fl_cm (fl_cf f_present a_start a_end (fl_tb j) (fl_tb j)) (k + 1) = fl_cm (fl_cf f_present a_start a_end (fl_tb j) (fl_tb j)) k ||| ((1 : Int32) <<< (nI k &&& 31)) := fun z => if_pos z
    have ihk := ih (k + 1) (by omega)
    refine br_f (nI_ge (b := 20) (by omega) (by decide)) (xw_holds (by omega) (fun hb => br_f (by decide) ⟨vp_in_nI (by omega) (by decide), vp_in_nI (by omega) (by decide), ?_⟩) (fun hb => br_t rfl (nm_r (nI_1 k) ?_)))
    · obtain ⟨⟨s1, s2⟩, ⟨e1, e2⟩, _⟩ := hN k (by omega) hb
      rw [nI_clamp (show k < 2 ^ 31 by omega), s1, e1]
      refine xw_isSide (by omega) (by omega) (fun h1 h2 => br_f (by decide) (nm_e (nm_r (nI_1 k) ?_))) (fun h1 => br_t rfl (nm_r (nI_1 k) ?_))
      · rw [← ey (by rw [e0, hb, h1, h2]; rfl)]; exact ihk
      · rw [en ?_] at ihk
        · exact ihk
        · rw [e0, hb]
          cases c1 : fl_tb j (fl_st a_start k)
          · rfl
          · cases c2 : fl_tb j (fl_st a_end k)
            · exact absurd ⟨c1, c2⟩ h1
            · rfl
    · rw [en (by rw [e0, hb]; rfl)] at ihk
      exact ihk
theorem xw_cut {post : Int32 → Prop} {f_present f_leastSize f_inEvery f_inSome f_cutByEvery f_cutBySome : Int32} {a_start a_end a_rooms a_left a_from a_line a_level a_width a_done a_height a_excess : Nat → Int32} {j : Nat} (hN : fl_Net f_present a_start a_end a_rooms) (h : post (fl_ct f_present a_start a_end j)) : wpX_arcsCutBy post (f_present, f_leastSize, f_inEvery, f_inSome, f_cutByEvery, f_cutBySome, a_start, a_end, a_rooms, a_left, a_from, a_line, a_level, a_width, a_done, a_height, a_excess) (nI j) :=
  ⟨20 + 1, xw_cut_l hN h 20 0 rfl⟩
theorem xw_roomOf_l {post : Int32 → Prop} {f_present f_leastSize f_inEvery f_inSome f_cutByEvery f_cutBySome : Int32} {a_start a_end a_rooms a_left a_from a_line a_level a_width a_done a_height a_excess : Nat → Int32} {j : Nat} (hN : fl_Net f_present a_start a_end a_rooms) (h : ∀ x : Int32, x.toInt = fl_Cs f_present a_start a_end a_rooms 0 99 (fl_tb j) → post x) :
    ∀ (d k : Nat) (x : Int32), k + d = 20 → 0 ≤ x.toInt → x.toInt ≤ 99 * (k : Int) → x.toInt = fl_S k (fun k => if bt (fl_ct f_present a_start a_end j) k = true then fl_v a_rooms k else 0) → wX_roomOf_4 post (fl_ct f_present a_start a_end j) f_present f_leastSize f_inEvery f_inSome f_cutByEvery f_cutBySome a_start a_end a_rooms a_left a_from a_line a_level a_width a_done a_height a_excess (d + 1) x (nI k) := by
  intro d
  induction d with
  | zero =>
    intro k x hk h0 h1 hx
    have e : k = 20 := by omega
    subst e
    exact br_t (nI_le (a := 20) (b := 20) (by omega) (by decide)) (h x (by rw [hx]; exact fl_sz_eq hN))
  | succ d ih =>
    intro k x hk h0 h1 hx
    refine br_f (nI_ge (b := 20) (by omega) (by decide)) (xw_holds (by omega) (fun hb => br_f (by decide) ⟨vp_in_nI (by omega) (by decide), nm_e (nm_r (nI_1 k) (ih (k + 1) _ (by omega) ?_ ?_ ?_))⟩) (fun hb => br_t rfl (nm_r (nI_1 k) (ih (k + 1) x (by omega) h0 (by omega) ?_))))
    all_goals (try rw [nI_clamp (show k < 2 ^ 31 by omega)])
    all_goals (try (have hb2 := hb; rw [fl_ct_b (by omega)] at hb2))
    · have hb3 : (bt f_present k && (fl_tb j (fl_st a_start k) && !fl_tb j (fl_st a_end k))) = true := hb2
      rw [Bool.and_eq_true] at hb3
      have hr := (hN k (by omega) hb3.1).2.2
      have hr' : 0 ≤ (a_rooms k).toInt ∧ (a_rooms k).toInt ≤ 99 := hr
      rw [fl_tadd (by omega) (by omega)]; omega
    · have hb3 : (bt f_present k && (fl_tb j (fl_st a_start k) && !fl_tb j (fl_st a_end k))) = true := hb2
      rw [Bool.and_eq_true] at hb3
      have hr := (hN k (by omega) hb3.1).2.2
      have hr' : 0 ≤ (a_rooms k).toInt ∧ (a_rooms k).toInt ≤ 99 := hr
      rw [fl_tadd (by omega) (by omega)]; omega
    · have hb3 : (bt f_present k && (fl_tb j (fl_st a_start k) && !fl_tb j (fl_st a_end k))) = true := hb2
      rw [Bool.and_eq_true] at hb3
      have hr := (hN k (by omega) hb3.1).2.2
      have hr' : 0 ≤ (a_rooms k).toInt ∧ (a_rooms k).toInt ≤ 99 := hr
      rw [fl_tadd (by omega) (by omega), fl_Ss, if_pos hb, hx]; rfl
    · rw [fl_Ss, if_neg (by rw [hb]; decide), hx]; omega
theorem xw_roomOf {post : Int32 → Prop} {f_present f_leastSize f_inEvery f_inSome f_cutByEvery f_cutBySome : Int32} {a_start a_end a_rooms a_left a_from a_line a_level a_width a_done a_height a_excess : Nat → Int32} {j : Nat} (hN : fl_Net f_present a_start a_end a_rooms) (h : ∀ x : Int32, x.toInt = fl_Cs f_present a_start a_end a_rooms 0 99 (fl_tb j) → post x) : wpX_roomOf post (f_present, f_leastSize, f_inEvery, f_inSome, f_cutByEvery, f_cutBySome, a_start, a_end, a_rooms, a_left, a_from, a_line, a_level, a_width, a_done, a_height, a_excess) (fl_ct f_present a_start a_end j) :=
  ⟨20 + 1, xw_roomOf_l hN h 20 0 0 rfl (by decide) (by decide) (by rw [fl_z0]; rfl)⟩
theorem xw_among_l {post : Int32 → Prop} {f_present f_leastSize f_inEvery f_inSome f_cutByEvery f_cutBySome : Int32} {a_start a_end a_rooms a_left a_from a_line a_level a_width a_done a_height a_excess : Nat → Int32} {j : Nat} (hN : fl_Net f_present a_start a_end a_rooms) (h : ∀ x : Int32, x.toInt = fl_Cs f_present a_start a_end a_rooms 0 1 (fl_tb j) → post x) :
    ∀ (d k : Nat) (x : Int32), k + d = 20 → 0 ≤ x.toInt → x.toInt ≤ (k : Int) → x.toInt = fl_S k (fun k => if bt (fl_ct f_present a_start a_end j) k = true then (if fl_v a_rooms k ≤ 0 then 0 else 1) else 0) → wX_openAmong_4 post (fl_ct f_present a_start a_end j) f_present f_leastSize f_inEvery f_inSome f_cutByEvery f_cutBySome a_start a_end a_rooms a_left a_from a_line a_level a_width a_done a_height a_excess (d + 1) x (nI k) := by
  intro d
  induction d with
  | zero =>
    intro k x hk h0 h1 hx
    have e : k = 20 := by omega
    subst e
    exact br_t (nI_le (a := 20) (b := 20) (by omega) (by decide)) (h x (by rw [hx]; exact fl_cn_eq hN))
  | succ d ih =>
    intro k x hk h0 h1 hx
    refine br_f (nI_ge (b := 20) (by omega) (by decide)) (xw_holds (by omega) (fun hb => br_f (by decide) ⟨vp_in_nI (by omega) (by decide), ?_⟩) (fun hb => br_t rfl (nm_r (nI_1 k) (ih (k + 1) x (by omega) h0 (by omega) ?_))))
    · rw [nI_clamp (show k < 2 ^ 31 by omega)]
      refine fl_cle (fun hl => nm_r (nI_1 k) (ih (k + 1) x (by omega) h0 (by omega) ?_)) (fun hl => nm_e (nm_r (nI_1 k) (ih (k + 1) _ (by omega) ?_ ?_ ?_)))
      · have hl2 : fl_v a_rooms k ≤ 0 := hl
        rw [fl_Ss, if_pos hb, if_pos hl2, hx]; omega
      · rw [fl_tadd (by rw [fl_one1]; omega) (by rw [fl_one1]; omega), fl_one1]; omega
      · rw [fl_tadd (by rw [fl_one1]; omega) (by rw [fl_one1]; omega), fl_one1]; omega
      · have hl2 : ¬ fl_v a_rooms k ≤ 0 := hl
        rw [fl_tadd (by rw [fl_one1]; omega) (by rw [fl_one1]; omega), fl_one1, fl_Ss, if_pos hb, if_neg hl2, hx]
    · rw [fl_Ss, if_neg (by rw [hb]; decide), hx]; omega
theorem xw_among {post : Int32 → Prop} {f_present f_leastSize f_inEvery f_inSome f_cutByEvery f_cutBySome : Int32} {a_start a_end a_rooms a_left a_from a_line a_level a_width a_done a_height a_excess : Nat → Int32} {j : Nat} (hN : fl_Net f_present a_start a_end a_rooms) (h : ∀ x : Int32, x.toInt = fl_Cs f_present a_start a_end a_rooms 0 1 (fl_tb j) → post x) : wpX_openAmong post (f_present, f_leastSize, f_inEvery, f_inSome, f_cutByEvery, f_cutBySome, a_start, a_end, a_rooms, a_left, a_from, a_line, a_level, a_width, a_done, a_height, a_excess) (fl_ct f_present a_start a_end j) :=
  ⟨20 + 1, xw_among_l hN h 20 0 0 rfl (by decide) (by decide) (by rw [fl_z0]; rfl)⟩
end
section
/-- j is a side of s and t -/
def fl_Sj (s t j : Nat) : Prop := fl_tb j s = true ∧ fl_tb j t = false
def fl_sz (pr : Int32) (st en rm : Nat → Int32) (most : Int) : Nat → Int := fun j => fl_Cs pr st en rm 0 most (fl_tb j)
theorem xw_study9 {post : SX → Prop} {f_present : Int32} {a_start a_end a_rooms a_left a_from a_line a_level a_width a_done a_height a_excess : Nat → Int32} {s t : Nat} (hs : s < 32) (ht : t < 32) (hN : fl_Net f_present a_start a_end a_rooms)
    (h : ∀ (m ev so ce cs : Int32), fl_Stu 1981 (fl_Sj s t) (fl_sz f_present a_start a_end a_rooms 99) (fl_ct f_present a_start a_end) 256 m.toInt ev so ce cs → post (f_present, m, ev, so, ce, cs, a_start, a_end, a_rooms, a_left, a_from, a_line, a_level, a_width, a_done, a_height, a_excess)) :
    ∀ (d i : Nat) (m ev so ce cs : Int32), i + d = 256 → fl_Stu 1981 (fl_Sj s t) (fl_sz f_present a_start a_end a_rooms 99) (fl_ct f_present a_start a_end) i m.toInt ev so ce cs → wX_studySides_9 post (nI s) (nI t) (d + 1) (nI i) f_present m ev so ce cs a_start a_end a_rooms a_left a_from a_line a_level a_width a_done a_height a_excess := by
  intro d
  induction d with
  | zero =>
    intro i m ev so ce cs hi hS
    have e : i = 256 := by omega
    subst e
    exact br_t (nI_le (a := 256) (b := 256) (by omega) (by decide)) (h m ev so ce cs hS)
  | succ d ih =>
    intro i m ev so ce cs hi hS
    refine br_f (nI_ge (b := 256) (by omega) (by decide)) (xw_isSide hs ht (fun h1 h2 => br_f (by decide) ?_) (fun h1 => br_t rfl (nm_r (nI_1 i) (ih (i + 1) m ev so ce cs (by omega) (fl_Stu1 hS h1)))))
    have hd : fl_Sj s t i := ⟨h1, h2⟩
    have hb := fl_Cs_b (ext := 0) hN (show (0 : Int) ≤ 99 by decide) (fl_tb i)
    show wpX_studySide _ _ _
    unfold wpX_studySide
    refine xw_cut hN (xw_roomOf hN (fun x hx => fl_cle (fun hl => fl_ce (fun he => nm_e (nm_e (nm_e (nm_e (nm_r (nI_1 i) (ih (i + 1) m _ _ _ _ (by omega) (fl_Stu3 hS hd ?_ ?_))))))) (fun he => nm_r (nI_1 i) (ih (i + 1) m ev so ce cs (by omega) (fl_Stu4 hS ?_ ?_)))) (fun hl => nm_r (nI_1 i) (ih (i + 1) x _ _ _ _ (by omega) ?_))))
    · exact Int.lt_of_le_of_lt hb.2 (by decide)
    · rw [← he, hx]; rfl
    · exact Int.lt_of_le_of_lt hb.2 (by decide)
    · have : x.toInt = fl_sz f_present a_start a_end a_rooms 99 i := hx
      omega
    · have hx2 : x.toInt = fl_sz f_present a_start a_end a_rooms 99 i := hx
      rw [hx2]
      exact fl_Stu2 hS hd (by omega)
theorem xw_study {post : SX → Prop} {f_present f_leastSize f_inEvery f_inSome f_cutByEvery f_cutBySome : Int32} {a_start a_end a_rooms a_left a_from a_line a_level a_width a_done a_height a_excess : Nat → Int32} {s t : Nat} (hs : s < 32) (ht : t < 32) (hN : fl_Net f_present a_start a_end a_rooms)
    (h : ∀ (m ev so ce cs : Int32), fl_Stu 1981 (fl_Sj s t) (fl_sz f_present a_start a_end a_rooms 99) (fl_ct f_present a_start a_end) 256 m.toInt ev so ce cs → post (f_present, m, ev, so, ce, cs, a_start, a_end, a_rooms, a_left, a_from, a_line, a_level, a_width, a_done, a_height, a_excess)) : wpX_studySides post (f_present, f_leastSize, f_inEvery, f_inSome, f_cutByEvery, f_cutBySome, a_start, a_end, a_rooms, a_left, a_from, a_line, a_level, a_width, a_done, a_height, a_excess) (nI s) (nI t) :=
  ⟨256 + 1, xw_study9 hs ht hN h 256 0 1981 f_inEvery f_inSome f_cutByEvery f_cutBySome rfl (by rw [show (1981 : Int32).toInt = 1981 by decide]; exact fl_Stu0)⟩
/-- x is the least of sz over the js before n for which D holds, or at most the bound -/
def fl_Le (D : Nat → Prop) (sz : Nat → Int) (n : Nat) (B x : Int) : Prop := x ≤ B ∧ (x = B ∨ ∃ j, j < n ∧ D j ∧ sz j = x) ∧ ∀ j, j < n → D j → x ≤ sz j
theorem fl_Le_no {D : Nat → Prop} {sz : Nat → Int} {n : Nat} {B x : Int} (h : fl_Le D sz n B x) (hn : D n → x ≤ sz n) : fl_Le D sz (n + 1) B x := by
  obtain ⟨h1, h2, h3⟩ := h
  refine ⟨h1, ?_, fun j hj hd => ?_⟩
  · rcases h2 with h2 | ⟨j, j1, j2, j3⟩
    · exact Or.inl h2
    · exact Or.inr ⟨j, by omega, j2, j3⟩
  · by_cases e : j = n
    · subst e; exact hn hd
    · exact h3 j (by omega) hd
theorem fl_Le_new {D : Nat → Prop} {sz : Nat → Int} {n : Nat} {B x : Int} (h : fl_Le D sz n B x) (hd : D n) (hl : sz n < x) : fl_Le D sz (n + 1) B (sz n) := by
  obtain ⟨h1, h2, h3⟩ := h
  refine ⟨by omega, Or.inr ⟨n, by omega, hd, rfl⟩, fun j hj hd2 => ?_⟩
  by_cases e : j = n
  · subst e; exact Int.le_refl _
  · have := h3 j (by omega) hd2
    omega
theorem fl_Le_u {D : Nat → Prop} {sz : Nat → Int} {n : Nat} {B B' x x' : Int} (h : fl_Le D sz n B x) (h' : fl_Le D sz n B' x') (hB : ∃ j, j < n ∧ D j ∧ sz j ≤ B) (hB' : ∃ j, j < n ∧ D j ∧ sz j ≤ B') : x = x' := by
  obtain ⟨h1, h2, h3⟩ := h
  obtain ⟨h1', h2', h3'⟩ := h'
  have a : x ≤ x' := by
    rcases h2' with rfl | ⟨j, j1, j2, j3⟩
    · obtain ⟨j, j1, j2, j3⟩ := hB'
      have := h3 j j1 j2
      omega
    · have := h3 j j1 j2
      omega
  have b : x' ≤ x := by
    rcases h2 with rfl | ⟨j, j1, j2, j3⟩
    · obtain ⟨j, j1, j2, j3⟩ := hB
      have := h3' j j1 j2
      omega
    · have := h3' j j1 j2
      omega
  omega
theorem xw_weak_l {post : Int32 → Prop} {f_present f_leastSize f_inEvery f_inSome f_cutByEvery f_cutBySome : Int32} {a_start a_end a_rooms a_left a_from a_line a_level a_width a_done a_height a_excess : Nat → Int32} (hN : fl_Net f_present a_start a_end a_rooms) (h : ∀ x : Int32, fl_Le (fun j => 1 ≤ j) (fl_sz f_present a_start a_end a_rooms 99) 255 1980 x.toInt → post x) :
    ∀ (d i : Nat) (x : Int32), i + d = 255 → 1 ≤ i → fl_Le (fun j => 1 ≤ j) (fl_sz f_present a_start a_end a_rooms 99) i 1980 x.toInt → wX_weakest_6 post f_present f_leastSize f_inEvery f_inSome f_cutByEvery f_cutBySome a_start a_end a_rooms a_left a_from a_line a_level a_width a_done a_height a_excess (d + 1) x (nI i) := by
  intro d
  induction d with
  | zero =>
    intro i x hi h1 hL
    have e : i = 255 := by omega
    subst e
    exact br_t (nI_le (a := 255) (b := 255) (by omega) (by decide)) (h x hL)
  | succ d ih =>
    intro i x hi h1 hL
    refine br_f (nI_ge (b := 255) (by omega) (by decide)) (xw_cut hN (xw_roomOf hN (fun y hy => fl_cle (fun hl => nm_r (nI_1 i) (ih (i + 1) x (by omega) (by omega) (fl_Le_no hL (fun _ => ?_)))) (fun hl => nm_r (nI_1 i) (ih (i + 1) y (by omega) (by omega) ?_)))))
    · rw [hy] at hl; exact hl
    · have hy2 : y.toInt = fl_sz f_present a_start a_end a_rooms 99 i := hy
      rw [hy2]
      exact fl_Le_new hL h1 (by omega)
theorem xw_weak {post : Int32 → Prop} {f_present f_leastSize f_inEvery f_inSome f_cutByEvery f_cutBySome : Int32} {a_start a_end a_rooms a_left a_from a_line a_level a_width a_done a_height a_excess : Nat → Int32} (hN : fl_Net f_present a_start a_end a_rooms) (h : ∀ x : Int32, fl_Le (fun j => 1 ≤ j) (fl_sz f_present a_start a_end a_rooms 99) 255 1980 x.toInt → post x) : wpX_weakest post (f_present, f_leastSize, f_inEvery, f_inSome, f_cutByEvery, f_cutBySome, a_start, a_end, a_rooms, a_left, a_from, a_line, a_level, a_width, a_done, a_height, a_excess) :=
  ⟨254 + 1, xw_weak_l hN h 254 1 1980 rfl (by omega) ⟨by decide, Or.inl (by decide), fun j hj hd => by have : 1 ≤ j := hd; omega⟩⟩
theorem xw_few_l {post : Int32 → Prop} {f_present f_leastSize f_inEvery f_inSome f_cutByEvery f_cutBySome : Int32} {a_start a_end a_rooms a_left a_from a_line a_level a_width a_done a_height a_excess : Nat → Int32} {s t : Nat} (hs : s < 32) (ht : t < 32) (hN : fl_Net f_present a_start a_end a_rooms) (h : ∀ x : Int32, fl_Le (fl_Sj s t) (fl_sz f_present a_start a_end a_rooms 1) 256 20 x.toInt → post x) :
    ∀ (d i : Nat) (x : Int32), i + d = 256 → fl_Le (fl_Sj s t) (fl_sz f_present a_start a_end a_rooms 1) i 20 x.toInt → wX_fewest_17 post (nI s) (nI t) f_present f_leastSize f_inEvery f_inSome f_cutByEvery f_cutBySome a_start a_end a_rooms a_left a_from a_line a_level a_width a_done a_height a_excess (d + 1) x (nI i) := by
  intro d
  induction d with
  | zero =>
    intro i x hi hL
    have e : i = 256 := by omega
    subst e
    exact br_t (nI_le (a := 256) (b := 256) (by omega) (by decide)) (h x hL)
  | succ d ih =>
    intro i x hi hL
    refine br_f (nI_ge (b := 256) (by omega) (by decide)) (xw_isSide hs ht (fun h1 h2 => br_f (by decide) (xw_cut hN (xw_among hN (fun y hy => fl_cle (fun hl => nm_r (nI_1 i) (ih (i + 1) x (by omega) (fl_Le_no hL (fun _ => ?_)))) (fun hl => nm_r (nI_1 i) (ih (i + 1) y (by omega) ?_)))))) (fun h1 => br_t rfl (nm_r (nI_1 i) (ih (i + 1) x (by omega) (fl_Le_no hL (fun z => absurd z h1))))))
    · rw [hy] at hl; exact hl
    · have hy2 : y.toInt = fl_sz f_present a_start a_end a_rooms 1 i := hy
      rw [hy2]
      exact fl_Le_new hL ⟨h1, h2⟩ (by omega)
theorem xw_few {post : Int32 → Prop} {f_present f_leastSize f_inEvery f_inSome f_cutByEvery f_cutBySome : Int32} {a_start a_end a_rooms a_left a_from a_line a_level a_width a_done a_height a_excess : Nat → Int32} {p q : Int32} (hN : fl_Net f_present a_start a_end a_rooms) (h : ∀ s t, s < 8 → t < 8 → s ≠ t → p = nI s → q = nI t → ∀ x : Int32, fl_Le (fl_Sj s t) (fl_sz f_present a_start a_end a_rooms 1) 256 20 x.toInt → post x) (h0 : ¬ fl_Two p q → post (-1)) : wpX_fewest post (f_present, f_leastSize, f_inEvery, f_inSome, f_cutByEvery, f_cutBySome, a_start, a_end, a_rooms, a_left, a_from, a_line, a_level, a_width, a_done, a_height, a_excess) p q := by
  unfold wpX_fewest
  refine xw_ends (fun h2 => br_f (by decide) ?_) (fun h2 => br_t rfl (h0 h2))
  obtain ⟨s, t, hs, ht, hst, rfl, rfl⟩ := h2
  exact ⟨256 + 1, xw_few_l (by omega) (by omega) hN (h s t hs ht hst rfl rfl) 256 0 20 rfl ⟨by decide, Or.inl (by decide), fun j hj => by omega⟩⟩
end
section
/-- what is there, on the two sides -/
def fl_Th (pr : Int32) (th : Nat → Int32) : Prop := ∀ k, k < 20 → (th k = 0 ↔ bt pr k = false)
def fl_Cg (pr : Int32) (st en rm : Nat → Int32) (most : Int) (O I : Nat → Bool) : Int := fl_S 20 (fun k => if fl_cf pr st en O I k = true then (if fl_v rm k < most then fl_v rm k else most) else 0)
theorem fl_Cs_g {pr : Int32} {st en rm : Nat → Int32} {most : Int} {ext : Nat} {S : Nat → Bool} : fl_Cs pr st en rm ext most S = fl_Cg pr st en rm most (fun p => S (p + ext)) S := rfl
theorem fl_cf_congr {pr : Int32} {st en rm : Nat → Int32} {O I O' I' : Nat → Bool} (hN : fl_Net pr st en rm) (hO : ∀ p, p < 8 → O p = O' p) (hI : ∀ p, p < 8 → I p = I' p) {k : Nat} (hk : k < 20) : fl_cf pr st en O I k = fl_cf pr st en O' I' k := by
  unfold fl_cf
  cases hb : bt pr k
  · rfl
  · have h := hN k hk hb
    rw [hO _ h.1.2, hI _ h.2.1.2]
theorem fl_Cg_congr {pr : Int32} {st en rm : Nat → Int32} {most : Int} {O I O' I' : Nat → Bool} (hN : fl_Net pr st en rm) (hO : ∀ p, p < 8 → O p = O' p) (hI : ∀ p, p < 8 → I p = I' p) : fl_Cg pr st en rm most O I = fl_Cg pr st en rm most O' I' :=
  fl_congr (fun k hk => by
    show (if fl_cf pr st en O I k = true then (if fl_v rm k < most then fl_v rm k else most) else 0) = (if fl_cf pr st en O' I' k = true then (if fl_v rm k < most then fl_v rm k else most) else 0)
    rw [fl_cf_congr hN hO hI hk])
theorem fl_cm_congr {f g : Nat → Bool} : ∀ n, (∀ k, k < n → f k = g k) → fl_cm f n = fl_cm g n := by
  intro n
  induction n with
  | zero => intro _; rfl
  | succ n ih =>
    intro h
    show (if f n = true then fl_cm f n ||| ((1 : Int32) <<< (nI n &&& 31)) else fl_cm f n) = (if g n = true then fl_cm g n ||| ((1 : Int32) <<< (nI n &&& 31)) else fl_cm g n)
    rw [ih (fun k hk => h k (by omega)), h n (by omega)]
theorem fl_Cg_b {pr : Int32} {st en rm : Nat → Int32} {most : Int} {O I : Nat → Bool} (hN : fl_Net pr st en rm) (hm : 0 ≤ most) : 0 ≤ fl_Cg pr st en rm most O I ∧ fl_Cg pr st en rm most O I ≤ 1980 := by
  have key : ∀ j, j < 20 → 0 ≤ (if fl_cf pr st en O I j = true then (if fl_v rm j < most then fl_v rm j else most) else 0) ∧ (if fl_cf pr st en O I j = true then (if fl_v rm j < most then fl_v rm j else most) else 0) ≤ 99 := by
    intro j hj
    by_cases e : fl_cf pr st en O I j = true
    · rw [if_pos e]
      have e2 : (bt pr j && (O (fl_st st j) && !I (fl_st en j))) = true := e
      rw [Bool.and_eq_true] at e2
      have := (hN j hj e2.1).2.2
      split <;> omega
    · rw [if_neg e]; omega
  constructor
  · exact fl_nonneg (fun j hj => (key j hj).1)
  · have := fl_le (n := 20) (f := fun k => if fl_cf pr st en O I k = true then (if fl_v rm k < most then fl_v rm k else most) else 0) (g := fun _ => 99) (fun j hj => (key j hj).2)
    rw [fl_const] at this
    exact this
theorem yw_point {post : Int32 → Prop} {u : SY} {p : Int32} (h1 : fl_Pt p → post 1) (h0 : ¬ fl_Pt p → post 0) : wpY_point post u p := by
  unfold wpY_point
  rcases pk_ix p (n := 8) (by omega) with h | h | ⟨j, hj, rfl⟩
  · exact br_t h (h0 (fl_Pt_lo h))
  · refine br_c (fun _ => h0 (fl_Pt_hi h)) (fun _ => br_t ?_ (h0 (fl_Pt_hi h)))
    rw [Int32.lt_iff_toInt_lt]
    rw [Int32.le_iff_toInt_le, nI_toInt (by omega)] at h
    rw [show (7 : Int32).toInt = 7 by decide]
    omega
  · exact br_f (nI_pos (by omega)) (br_f (nI_nlt (a := 7) (by omega) (by decide)) (h1 ⟨j, hj, rfl⟩))
theorem yw_two {post : Int32 → Prop} {u : SY} {p q : Int32} (h1 : fl_Two p q → post 1) (h0 : ¬ fl_Two p q → post 0) : wpY_two post u p q := by
  unfold wpY_two
  refine yw_point (fun hp => br_f (by decide) (yw_point (fun hq => br_f (by decide) ?_) (fun hq => br_t rfl (h0 ?_)))) (fun hp => br_t rfl (h0 ?_))
  · refine br_c (fun e => h0 ?_) (fun e => h1 ?_)
    · rintro ⟨a, b, ha, hb, hab, ea, eb⟩
      rw [ea, eb, nI_eq (by omega) (by omega)] at e; exact hab e
    · obtain ⟨a, ha, ea⟩ := hp
      obtain ⟨b, hb, eb⟩ := hq
      exact ⟨a, b, ha, hb, fun z => e (by rw [ea, eb, z]), ea, eb⟩
  · rintro ⟨a, b, ha, hb, hab, ea, eb⟩; exact hq ⟨b, hb, eb⟩
  · rintro ⟨a, b, ha, hb, hab, ea, eb⟩; exact hp ⟨a, ha, ea⟩
theorem yw_amount {post : Int32 → Prop} {u : SY} {p : Int32} (h1 : fl_Rm p → post 1) (h0 : ¬ fl_Rm p → post 0) : wpY_amount post u p := by
  unfold wpY_amount
  refine fl_cl (fun h => h0 ?_) (fun h => fl_cl (fun h2 => h0 ?_) (fun h2 => h1 ?_))
  · rw [fl_z0] at h; intro z; have := z.1; omega
  · rw [show (99 : Int32).toInt = 99 by decide] at h2; intro z; have := z.2; omega
  · rw [fl_z0] at h
    rw [show (99 : Int32).toInt = 99 by decide] at h2
    exact ⟨by omega, by omega⟩
theorem yw_is {post : Int32 → Prop} {f_size f_common f_joined f_cutBySome f_cutByAll : Int32} {a_there a_froms a_tos a_rooms : Nat → Int32} {pr p : Int32} (hT : fl_Th pr a_there) (h1 : fl_Arc pr p → post 1) (h0 : ¬ fl_Arc pr p → post 0) : wpY_is post (f_size, f_common, f_joined, f_cutBySome, f_cutByAll, a_there, a_froms, a_tos, a_rooms) p := by
  show (p < 0 → post 0) ∧ (¬ p < 0 → _)
  rcases pk_ix p (n := 20) (by omega) with h | h | ⟨j, hj, rfl⟩
  · exact br_t h (h0 (fun ⟨k, hk, e, _⟩ => nI_pos (n := k) (by omega) (e ▸ h)))
  · have hn : ¬ fl_Arc pr p := fun ⟨k, hk, e, _⟩ => nI_ge (a := k) (b := 20) hk (by decide) (e ▸ h)
    exact br_c (fun _ => h0 hn) (fun _ => br_t h (h0 hn))
  · refine br_f (nI_pos (by omega)) (br_f (nI_ge (b := 20) hj (by decide)) ⟨vp_in_nI hj (by decide), ?_⟩)
    rw [nI_clamp (show j < 2 ^ 31 by omega)]
    refine br_c (fun hb => h0 ?_) (fun hb => h1 ⟨j, hj, rfl, ?_⟩)
    · rintro ⟨k, hk, e, hb2⟩
      rw [nI_eq (by omega) (by omega)] at e
      subst e
      rw [(hT j hj).mp hb] at hb2; cases hb2
    · cases e : bt pr j
      · exact absurd ((hT j hj).mpr e) hb
      · rfl
theorem yw_cuts {post : Int32 → Prop} {f_size f_common f_joined f_cutBySome f_cutByAll : Int32} {a_there a_froms a_tos a_rooms : Nat → Int32} {pr o i : Int32} {k : Nat} (hT : fl_Th pr a_there) (hN : fl_Net pr a_froms a_tos a_rooms) (hk : k < 20) (h1 : fl_cf pr a_froms a_tos (bt o) (bt i) k = true → post 1) (h0 : fl_cf pr a_froms a_tos (bt o) (bt i) k = false → post 0) : wpY_cuts post (f_size, f_common, f_joined, f_cutBySome, f_cutByAll, a_there, a_froms, a_tos, a_rooms) o i (nI k) := by
  have e0 : fl_cf pr a_froms a_tos (bt o) (bt i) k = (bt pr k && (bt o (fl_st a_froms k) && !bt i (fl_st a_tos k))) := rfl
  refine ⟨vp_in_nI hk (by decide), ?_⟩
  rw [nI_clamp (show k < 2 ^ 31 by omega)]
  refine br_c (fun hb => h0 ?_) (fun hb => ⟨vp_in_nI hk (by decide), ?_⟩)
  · rw [e0, (hT k hk).mp hb]; rfl
  · have hb1 : bt pr k = true := by
      cases e : bt pr k
      · exact absurd ((hT k hk).mpr e) hb
      · rfl
    obtain ⟨⟨s1, s2⟩, ⟨e1, e2⟩, _⟩ := hN k hk hb1
    rw [s1, e1]
    refine br_c (fun h2 => ⟨vp_in_nI hk (by decide), br_c (fun h3 => h1 ?_) (fun h3 => h0 ?_)⟩) (fun h2 => h0 ?_)
    · rw [e0, hb1, (fl_bit (by omega)).1.mp h2, (fl_bit (by omega)).2.mp h3]; rfl
    · rw [e0, hb1, (fl_bit (by omega)).1.mp h2]
      cases e : bt i (fl_st a_tos k)
      · exact absurd ((fl_bit (by omega)).2.mpr e) h3
      · rfl
    · rw [e0, hb1]
      cases e : bt o (fl_st a_froms k)
      · rfl
      · exact absurd ((fl_bit (by omega)).1.mpr e) h2
theorem yw_size_l {post : Int32 → Prop} {f_size f_common f_joined f_cutBySome f_cutByAll : Int32} {a_there a_froms a_tos a_rooms : Nat → Int32} {pr o i b : Int32} {most : Int} (hT : fl_Th pr a_there) (hN : fl_Net pr a_froms a_tos a_rooms) (hb : (b = 0 ∧ most = 99) ∨ (¬ b = 0 ∧ most = 1)) (h : ∀ x : Int32, x.toInt = fl_Cg pr a_froms a_tos a_rooms most (bt o) (bt i) → post x) :
    ∀ (d k : Nat) (x : Int32), k + d = 20 → 0 ≤ x.toInt → x.toInt ≤ 99 * (k : Int) → x.toInt = fl_S k (fun k => if fl_cf pr a_froms a_tos (bt o) (bt i) k = true then (if fl_v a_rooms k < most then fl_v a_rooms k else most) else 0) → wY_sizeOf_6 post o i b f_size f_common f_joined f_cutBySome f_cutByAll a_there a_froms a_tos a_rooms (d + 1) x (nI k) := by
  intro d
  induction d with
  | zero =>
    intro k x hk h0 h1 hx
    have e : k = 20 := by omega
    subst e
    exact br_t (nI_le (a := 20) (b := 20) (by omega) (by decide)) (h x hx)
  | succ d ih =>
    intro k x hk h0 h1 hx
    have key : ∀ z : Int32, (fl_cf pr a_froms a_tos (bt o) (bt i) k = true → z.toInt = (if fl_v a_rooms k < most then fl_v a_rooms k else most)) → wY_sizeOf_42 post (wY_sizeOf_6 post o i b f_size f_common f_joined f_cutBySome f_cutByAll a_there a_froms a_tos a_rooms (d + 1)) o i b x (nI k) z f_size f_common f_joined f_cutBySome f_cutByAll a_there a_froms a_tos a_rooms := by
      intro z hz
      refine yw_cuts hT hN (by omega) (fun hc => br_f (by decide) (nm_e (nm_r (nI_1 k) (ih (k + 1) _ (by omega) ?_ ?_ ?_)))) (fun hc => br_t rfl (nm_r (nI_1 k) (ih (k + 1) x (by omega) h0 (by omega) ?_)))
      · have hc2 : (bt pr k && (bt o (fl_st a_froms k) && !bt i (fl_st a_tos k))) = true := hc
        rw [Bool.and_eq_true] at hc2
        have hr := (hN k (by omega) hc2.1).2.2
        have hz1 := hz hc
        have hz2 : 0 ≤ z.toInt ∧ z.toInt ≤ 99 := by
          rw [hz1]; split <;> omega
        rw [fl_tadd (by omega) (by omega)]; omega
      · have hc2 : (bt pr k && (bt o (fl_st a_froms k) && !bt i (fl_st a_tos k))) = true := hc
        rw [Bool.and_eq_true] at hc2
        have hr := (hN k (by omega) hc2.1).2.2
        have hz1 := hz hc
        have hz2 : 0 ≤ z.toInt ∧ z.toInt ≤ 99 := by
          rw [hz1]; split <;> omega
        rw [fl_tadd (by omega) (by omega)]; omega
      · have hc2 : (bt pr k && (bt o (fl_st a_froms k) && !bt i (fl_st a_tos k))) = true := hc
        rw [Bool.and_eq_true] at hc2
        have hr := (hN k (by omega) hc2.1).2.2
        have hz1 := hz hc
        have hz2 : 0 ≤ z.toInt ∧ z.toInt ≤ 99 := by
          rw [hz1]; split <;> omega
        rw [fl_tadd (by omega) (by omega), fl_Ss, if_pos hc, hx, hz1]
      · rw [fl_Ss, if_neg (by rw [hc]; decide), hx]; omega
    have hrm : fl_cf pr a_froms a_tos (bt o) (bt i) k = true → 0 ≤ fl_v a_rooms k ∧ fl_v a_rooms k ≤ 99 := fun hc => by
      have hc2 : (bt pr k && (bt o (fl_st a_froms k) && !bt i (fl_st a_tos k))) = true := hc
      rw [Bool.and_eq_true] at hc2
      exact (hN k (by omega) hc2.1).2.2
    refine br_f (nI_ge (b := 20) (by omega) (by decide)) ?_
    rw [nI_clamp (show k < 2 ^ 31 by omega)]
    rcases hb with ⟨hb, hm⟩ | ⟨hb, hm⟩
    · refine br_t hb ⟨vp_in_nI (by omega) (by decide), key _ (fun hc => ?_)⟩
      have := hrm hc
      have e3 : (a_rooms k).toInt = fl_v a_rooms k := rfl
      rw [e3, hm]; split <;> omega
    · refine br_f hb ⟨vp_in_nI (by omega) (by decide), fl_cle (fun hl => key _ (fun hc => ?_)) (fun hl => key _ (fun hc => ?_))⟩
      · have := hrm hc
        have hl2 : fl_v a_rooms k ≤ 0 := hl
        rw [fl_z0, hm, if_pos (by omega)]; omega
      · have hl2 : ¬ fl_v a_rooms k ≤ 0 := hl
        rw [fl_one1, hm, if_neg (by omega)]
theorem yw_size {post : Int32 → Prop} {f_size f_common f_joined f_cutBySome f_cutByAll : Int32} {a_there a_froms a_tos a_rooms : Nat → Int32} {pr o i b : Int32} {most : Int} (hT : fl_Th pr a_there) (hN : fl_Net pr a_froms a_tos a_rooms) (hb : (b = 0 ∧ most = 99) ∨ (¬ b = 0 ∧ most = 1)) (h : ∀ x : Int32, x.toInt = fl_Cg pr a_froms a_tos a_rooms most (bt o) (bt i) → post x) : wpY_sizeOf post (f_size, f_common, f_joined, f_cutBySome, f_cutByAll, a_there, a_froms, a_tos, a_rooms) o i b :=
  ⟨20 + 1, yw_size_l hT hN hb h 20 0 0 rfl (by decide) (by decide) (by rw [fl_z0]; rfl)⟩
end
section
theorem fl_255 : ∀ i, i < 256 → (255 : Int32) &&& nI i = nI i := by decide +kernel
theorem fl_or0 (x : Int32) : (0 : Int32) ||| x = x := b_ext (fun b hb => by rw [b_or, b_0, Bool.false_or])
theorem fl_andm (x : Int32) : (-1 : Int32) &&& x = x := b_ext (fun b hb => by rw [b_and, b_m1 b hb, Bool.true_and])
theorem fl_ct_y {pr : Int32} {st en rm : Nat → Int32} {i : Nat} (hN : fl_Net pr st en rm) : fl_cm (fl_cf pr st en (bt (nI i)) (bt (nI i))) 20 = fl_ct pr st en i :=
  fl_cm_congr 20 (fun k hk => fl_cf_congr hN (fun p hp => fl_bt (by omega)) (fun p hp => fl_bt (by omega)) hk)
theorem fl_sz_y {pr : Int32} {st en rm : Nat → Int32} {i : Nat} {most : Int} (hN : fl_Net pr st en rm) : fl_Cg pr st en rm most (bt (nI i)) (bt (nI i)) = fl_sz pr st en rm most i :=
  fl_Cg_congr hN (fun p hp => fl_bt (by omega)) (fun p hp => fl_bt (by omega))
theorem yw_gather_l {post : SY → Prop} {f_size f_common f_joined f_cutBySome f_cutByAll : Int32} {a_there a_froms a_tos a_rooms : Nat → Int32} {pr o : Int32} (hT : fl_Th pr a_there) (hN : fl_Net pr a_froms a_tos a_rooms)
    (h : post (f_size, f_common &&& o, f_joined ||| o, f_cutBySome ||| fl_cm (fl_cf pr a_froms a_tos (bt o) (bt o)) 20, f_cutByAll &&& fl_cm (fl_cf pr a_froms a_tos (bt o) (bt o)) 20, a_there, a_froms, a_tos, a_rooms)) :
    ∀ (d k : Nat), k + d = 20 → wY_gather_4 post o f_size f_common f_joined f_cutBySome f_cutByAll a_there a_froms a_tos a_rooms (d + 1) (fl_cm (fl_cf pr a_froms a_tos (bt o) (bt o)) k) (nI k) := by
  intro d
  induction d with
  | zero =>
    intro k hk
    have e : k = 20 := by omega
    subst e
    exact br_t (nI_le (a := 20) (b := 20) (by omega) (by decide)) (nm_e (nm_e (nm_e (nm_e h))))
  | succ d ih =>
    intro k hk
    have ihk := ih (k + 1) (by omega)
    refine br_f (nI_ge (b := 20) (by omega) (by decide)) (yw_cuts hT hN (by omega) (fun hc => br_f (by decide) (nm_e (nm_r (nI_1 k) ?_))) (fun hc => br_t rfl (nm_r (nI_1 k) ?_)))
    · have e : fl_cm (fl_cf pr a_froms a_tos (bt o) (bt o)) (k + 1) = fl_cm (fl_cf pr a_froms a_tos (bt o) (bt o)) k ||| ((1 : Int32) <<< (nI k &&& 31)) := if_pos hc
      rw [← e]; exact ihk
    · have e : fl_cm (fl_cf pr a_froms a_tos (bt o) (bt o)) (k + 1) = fl_cm (fl_cf pr a_froms a_tos (bt o) (bt o)) k := if_neg (by rw [hc]; decide)
      rw [e] at ihk; exact ihk
theorem yw_gather {post : SY → Prop} {f_size f_common f_joined f_cutBySome f_cutByAll : Int32} {a_there a_froms a_tos a_rooms : Nat → Int32} {pr : Int32} {i : Nat} (hT : fl_Th pr a_there) (hN : fl_Net pr a_froms a_tos a_rooms)
    (h : post (f_size, f_common &&& nI i, f_joined ||| nI i, f_cutBySome ||| fl_ct pr a_froms a_tos i, f_cutByAll &&& fl_ct pr a_froms a_tos i, a_there, a_froms, a_tos, a_rooms)) : wpY_gather post (f_size, f_common, f_joined, f_cutBySome, f_cutByAll, a_there, a_froms, a_tos, a_rooms) (nI i) :=
  ⟨20 + 1, yw_gather_l hT hN (by rw [fl_ct_y hN]; exact h) 20 0 rfl⟩
theorem yw_search_l {post : SY → Prop} {a_there a_froms a_tos a_rooms : Nat → Int32} {pr b : Int32} {s t : Nat} {most : Int} (hs : s < 32) (ht : t < 32) (hm : 0 ≤ most) (hT : fl_Th pr a_there) (hN : fl_Net pr a_froms a_tos a_rooms) (hb : (b = 0 ∧ most = 99) ∨ (¬ b = 0 ∧ most = 1))
    (h : ∀ (m ev so ce cs : Int32), fl_Stu 10000 (fl_Sj s t) (fl_sz pr a_froms a_tos a_rooms most) (fl_ct pr a_froms a_tos) 256 m.toInt ev so ce cs → post (m, ev, so, cs, ce, a_there, a_froms, a_tos, a_rooms)) :
    ∀ (d i : Nat) (m ev so ce cs : Int32), i + d = 256 → fl_Stu 10000 (fl_Sj s t) (fl_sz pr a_froms a_tos a_rooms most) (fl_ct pr a_froms a_tos) i m.toInt ev so ce cs → wY_search_10 post (nI s) (nI t) b (d + 1) (nI i) m ev so cs ce a_there a_froms a_tos a_rooms := by
  intro d
  induction d with
  | zero =>
    intro i m ev so ce cs hi hS
    have e : i = 256 := by omega
    subst e
    exact br_t (nI_le (a := 256) (b := 256) (by omega) (by decide)) (h m ev so ce cs hS)
  | succ d ih =>
    intro i m ev so ce cs hi hS
    have B := fl_Cg_b (O := bt (nI i)) (I := bt (nI i)) hN hm
    rw [fl_sz_y hN] at B
    refine br_f (nI_ge (b := 256) (by omega) (by decide)) (br_c (fun h1 => br_c (fun h2 => ?_) (fun h2 => nm_r (nI_1 i) (ih (i + 1) m ev so ce cs (by omega) (fl_Stu1 hS ?_)))) (fun h1 => nm_r (nI_1 i) (ih (i + 1) m ev so ce cs (by omega) (fl_Stu1 hS ?_))))
    · have hd : fl_Sj s t i := ⟨by show i.testBit s = true; rw [← fl_bt (n := i) hs]; exact (fl_bit hs).1.mp h1, by show i.testBit t = false; rw [← fl_bt (n := i) ht]; exact (fl_bit ht).2.mp h2⟩
      refine yw_size hT hN hb (fun x hx => ?_)
      rw [fl_sz_y hN] at hx
      refine fl_cle (fun hl => ?_) (fun hl => ?_)
      · refine fl_ce (fun he => yw_gather hT hN (nm_r (nI_1 i) (ih (i + 1) m _ _ _ _ (by omega) (fl_Stu3 hS hd (by omega) (by omega))))) (fun he => nm_r (nI_1 i) (ih (i + 1) m ev so ce cs (by omega) (fl_Stu4 hS (by omega) (by omega))))
      · refine br_t rfl (yw_gather hT hN (nm_r (nI_1 i) ?_))
        rw [fl_255 i (by omega), fl_or0, fl_or0, fl_andm]
        refine ih (i + 1) x _ _ _ _ (by omega) ?_
        rw [hx]
        exact fl_Stu2 hS hd (by omega)
    · intro z
      have z2 : i.testBit t = false := z.2
      rw [← fl_bt (n := i) ht] at z2
      exact h2 ((fl_bit ht).2.mpr z2)
    · intro z
      have z2 : i.testBit s = true := z.1
      rw [← fl_bt (n := i) hs] at z2
      exact h1 ((fl_bit hs).1.mpr z2)
theorem yw_search {post : SY → Prop} {f_size f_common f_joined f_cutBySome f_cutByAll : Int32} {a_there a_froms a_tos a_rooms : Nat → Int32} {pr b : Int32} {s t : Nat} {most : Int} (hs : s < 32) (ht : t < 32) (hm : 0 ≤ most) (hT : fl_Th pr a_there) (hN : fl_Net pr a_froms a_tos a_rooms) (hb : (b = 0 ∧ most = 99) ∨ (¬ b = 0 ∧ most = 1))
    (h : ∀ (m ev so ce cs : Int32), fl_Stu 10000 (fl_Sj s t) (fl_sz pr a_froms a_tos a_rooms most) (fl_ct pr a_froms a_tos) 256 m.toInt ev so ce cs → post (m, ev, so, cs, ce, a_there, a_froms, a_tos, a_rooms)) : wpY_search post (f_size, f_common, f_joined, f_cutBySome, f_cutByAll, a_there, a_froms, a_tos, a_rooms) (nI s) (nI t) b :=
  ⟨256 + 1, yw_search_l hs ht hm hT hN hb h 256 0 10000 f_common f_joined f_cutByAll f_cutBySome rfl (by rw [show (10000 : Int32).toInt = 10000 by decide]; exact fl_Stu0)⟩
def fl_En (e : Int32) : Prop := 0 ≤ e.toInt ∧ e.toInt ≤ 6
theorem yw_engine {post : Int32 → Prop} {u : SY} {p : Int32} (h1 : fl_En p → post 1) (h0 : ¬ fl_En p → post 0) : wpY_engine post u p := by
  unfold wpY_engine
  refine fl_cl (fun h => h0 ?_) (fun h => fl_cl (fun h2 => h0 ?_) (fun h2 => h1 ?_))
  · rw [fl_z0] at h; intro z; have := z.1; omega
  · rw [show (6 : Int32).toInt = 6 by decide] at h2; intro z; have := z.2; omega
  · rw [fl_z0] at h
    rw [show (6 : Int32).toInt = 6 by decide] at h2
    exact ⟨by omega, by omega⟩
theorem yw_value {post : Int32 → SY → Prop} {f_size f_common f_joined f_cutBySome f_cutByAll : Int32} {a_there a_froms a_tos a_rooms : Nat → Int32} {pr eng p q : Int32} (hT : fl_Th pr a_there) (hN : fl_Net pr a_froms a_tos a_rooms)
    (hP : ∀ s t, s < 8 → t < 8 → s ≠ t → p = nI s → q = nI t → fl_En eng → ∀ (m ev so ce cs : Int32), fl_Stu 10000 (fl_Sj s t) (fl_sz pr a_froms a_tos a_rooms 99) (fl_ct pr a_froms a_tos) 256 m.toInt ev so ce cs → post m (m, ev, so, cs, ce, a_there, a_froms, a_tos, a_rooms))
    (h0 : ¬ (fl_Two p q ∧ fl_En eng) → post (-1) (f_size, f_common, f_joined, f_cutBySome, f_cutByAll, a_there, a_froms, a_tos, a_rooms)) : wpY_value post (f_size, f_common, f_joined, f_cutBySome, f_cutByAll, a_there, a_froms, a_tos, a_rooms) eng p q := by
  unfold wpY_value
  refine yw_engine (fun he => br_f (by decide) (yw_two (fun h2 => br_f (by decide) ?_) (fun h2 => br_t rfl (h0 (fun z => h2 z.1))))) (fun he => br_t rfl (h0 (fun z => he z.2)))
  obtain ⟨s, t, hs, ht, hst, rfl, rfl⟩ := h2
  exact yw_search (by omega) (by omega) (by decide) hT hN (Or.inl ⟨rfl, rfl⟩) (hP s t hs ht hst rfl rfl he)
end
section
def fl_sh (c : Nat) : Nat → Nat
  | 0 => c
  | p + 1 => fl_sh c p / 3
def fl_dg (c p : Nat) : Nat := fl_sh c p % 3
theorem fl_sh_s (c : Nat) : ∀ p, fl_sh c (p + 1) = fl_sh (c / 3) p := by
  intro p
  induction p with
  | zero => rfl
  | succ p ih => show fl_sh c (p + 1) / 3 = fl_sh (c / 3) p / 3; rw [ih]
theorem fl_sh_le (c : Nat) : ∀ p, fl_sh c p ≤ c := by
  intro p
  induction p with
  | zero => exact Nat.le_refl _
  | succ p ih => show fl_sh c p / 3 ≤ c; omega
theorem fl_code : ∀ (n : Nat) (g : Nat → Nat), (∀ p, p < n → g p < 3) → ∃ c, c < 3 ^ n ∧ ∀ p, p < n → fl_dg c p = g p := by
  intro n
  induction n with
  | zero => intro g _; exact ⟨0, by decide, fun p hp => by omega⟩
  | succ n ih =>
    intro g hg
    obtain ⟨c, hc, h⟩ := ih (fun p => g (p + 1)) (fun p hp => hg (p + 1) (by omega))
    have h0 := hg 0 (by omega)
    refine ⟨g 0 + 3 * c, by rw [Nat.pow_succ]; omega, fun p hp => ?_⟩
    cases p with
    | zero => show (g 0 + 3 * c) % 3 = g 0; omega
    | succ p =>
      show fl_sh (g 0 + 3 * c) (p + 1) % 3 = g (p + 1)
      rw [fl_sh_s, show (g 0 + 3 * c) / 3 = c by omega]
      exact h p (by omega)
/-- s wholly in, t wholly out, as far as n -/
def fl_Vd (s t c n : Nat) : Prop := ∀ b, b < n → (b = s → fl_dg c b = 2) ∧ (b = t → fl_dg c b = 0)
def fl_in (c : Nat) : Nat → Bool := fun q => decide (0 < fl_dg c q)
def fl_out (c : Nat) : Nat → Bool := fun q => decide (fl_dg c q = 2)
def fl_pn (much : Int) (c n : Nat) : Int := fl_S n (fun q => if fl_dg c q = 1 then much else 0)
def fl_pz (pr : Int32) (st en rm : Nat → Int32) (most much : Int) : Nat → Int := fun c => fl_pn much c 8 + fl_Cg pr st en rm most (fl_out c) (fl_in c)
theorem fl_pn_b {much : Int} (hm : 0 ≤ much ∧ much ≤ 99) (c : Nat) : ∀ n : Nat, 0 ≤ fl_pn much c n ∧ fl_pn much c n ≤ 99 * (n : Int) := by
  intro n
  induction n with
  | zero => exact ⟨Int.le_refl _, Int.le_refl _⟩
  | succ n ih =>
    have e : fl_pn much c (n + 1) = fl_pn much c n + (if fl_dg c n = 1 then much else 0) := rfl
    rw [e]
    split <;> omega
def fl_Q (s t c : Nat) (much : Int) (p : Nat) (n : Int) : Prop := ((fl_Vd s t c p ∧ n = fl_pn much c p) ∨ (¬ fl_Vd s t c p ∧ 20000 ≤ n)) ∧ 0 ≤ n ∧ n ≤ 20000 + 99 * (p : Int)
theorem fl_Q0 (s t c : Nat) (much : Int) : fl_Q s t c much 0 0 := ⟨Or.inl ⟨fun b hb => by omega, rfl⟩, by decide, by decide⟩
theorem fl_Q1 {s t c p : Nat} {much n : Int} (h : fl_Q s t c much p n) (hm : 0 ≤ much ∧ much ≤ 99) (h1 : p = s → fl_dg c p = 2) (h2 : p = t → fl_dg c p = 0) : fl_Q s t c much (p + 1) (if fl_dg c p = 1 then n + much else n) := by
  obtain ⟨h3, h4, h5⟩ := h
  have e : fl_pn much c (p + 1) = fl_pn much c p + (if fl_dg c p = 1 then much else 0) := rfl
  refine ⟨?_, by split <;> omega, by split <;> omega⟩
  rcases h3 with ⟨h6, h7⟩ | ⟨h6, h7⟩
  · refine Or.inl ⟨lt_s h6 ⟨h1, h2⟩, ?_⟩
    rw [e, h7]; split <;> omega
  · refine Or.inr ⟨fun z => h6 (fun b hb => z b (by omega)), ?_⟩
    split <;> omega
theorem fl_Q2 {s t c p : Nat} {much : Int} (h : ¬ ((p = s → fl_dg c p = 2) ∧ (p = t → fl_dg c p = 0))) : fl_Q s t c much (p + 1) 20000 :=
  ⟨Or.inr ⟨fun z => h (z p (by omega)), by decide⟩, by decide, by omega⟩
theorem yw_part32 {post : Int32 → Prop} {J : Int32 → Int32 → Prop} {f_size f_common f_joined f_cutBySome f_cutByAll : Int32} {a_there a_froms a_tos a_rooms : Nat → Int32} {pr much b least : Int32} {s t c : Nat} {most : Int} (hs : s < 8) (ht : t < 8) (hc : c < 6561) (hmo : 0 ≤ most) (hm : 0 ≤ much.toInt ∧ much.toInt ≤ 99) (hT : fl_Th pr a_there) (hN : fl_Net pr a_froms a_tos a_rooms) (hb : (b = 0 ∧ most = 99) ∨ (¬ b = 0 ∧ most = 1))
    (hL : fl_Le (fun c => fl_Vd s t c 8) (fl_pz pr a_froms a_tos a_rooms most much.toInt) c 10000 least.toInt)
    (hJ : ∀ z : Int32, fl_Le (fun c => fl_Vd s t c 8) (fl_pz pr a_froms a_tos a_rooms most much.toInt) (c + 1) 10000 z.toInt → J z (nI (c + 1))) :
    ∀ (d p : Nat) (n : Int32), p + d = 8 → fl_Q s t c much.toInt p n.toInt → wY_parted_32 post J (nI s) (nI t) much b least (nI c) f_size f_common f_joined f_cutBySome f_cutByAll a_there a_froms a_tos a_rooms (d + 1) (fl_cm (fl_in c) p) (fl_cm (fl_out c) p) n (nI (fl_sh c p)) (nI p) := by
  intro d
  induction d with
  | zero =>
    intro p n hp hQ
    have e : p = 8 := by omega
    subst e
    have hn := fl_pn_b hm c 8
    refine br_t (nI_le (a := 8) (b := 8) (by omega) (by decide)) (fl_cl (fun hl => ?_) (fun hl => ?_))
    · rw [show (10000 : Int32).toInt = 10000 by decide] at hl
      refine yw_size hT hN hb (fun r hr => ?_)
      have hr2 : r.toInt = fl_Cg pr a_froms a_tos a_rooms most (fl_out c) (fl_in c) := by
        rw [hr]
        refine fl_Cg_congr hN (fun q hq => ?_) (fun q hq => ?_)
        · rw [fl_cm_b _ 8 (by omega) q (by omega)]; simp [hq]
        · rw [fl_cm_b _ 8 (by omega) q (by omega)]; simp [hq]
      have hrb := fl_Cg_b (O := fl_out c) (I := fl_in c) hN hmo
      rw [← hr2] at hrb
      obtain ⟨h3, h4, h5⟩ := hQ
      rcases h3 with ⟨h6, h7⟩ | ⟨h6, h7⟩
      · have hz : (n + r).toInt = fl_pz pr a_froms a_tos a_rooms most much.toInt c := by
          rw [fl_tadd (by omega) (by omega), h7, hr2]; rfl
        refine fl_cle (fun hl2 => nm_r (nI_1 c) (hJ least (fl_Le_no hL (fun _ => by rw [← hz]; exact hl2)))) (fun hl2 => nm_r (nI_1 c) (hJ _ ?_))
        rw [hz]
        exact fl_Le_new hL h6 (by omega)
      · omega
    · rw [show (10000 : Int32).toInt = 10000 by decide] at hl
      obtain ⟨h3, h4, h5⟩ := hQ
      have hle := hL.1
      rcases h3 with ⟨h6, h7⟩ | ⟨h6, h7⟩
      · omega
      · exact fl_cle (fun hl2 => nm_r (nI_1 c) (hJ least (fl_Le_no hL (fun z => absurd z h6)))) (fun hl2 => by omega)
  | succ d ih =>
    intro p n hp hQ
    have hdg : fl_dg c p < 3 := Nat.mod_lt _ (by decide)
    have hsh := fl_sh_le c p
    have K : ∀ n2 : Int32, fl_Q s t c much.toInt (p + 1) n2.toInt → ∀ y, y = nI p + 1 → wY_parted_32 post J (nI s) (nI t) much b least (nI c) f_size f_common f_joined f_cutBySome f_cutByAll a_there a_froms a_tos a_rooms (d + 1) (fl_cm (fl_in c) (p + 1)) (fl_cm (fl_out c) (p + 1)) n2 (nI (fl_sh c (p + 1))) y :=
      fun n2 h => nm_r (nI_1 p) (ih (p + 1) n2 (by omega) h)
    have KB : ¬ ((p = s → fl_dg c p = 2) ∧ (p = t → fl_dg c p = 0)) → ∀ y, y = nI p + 1 → wY_parted_32 post J (nI s) (nI t) much b least (nI c) f_size f_common f_joined f_cutBySome f_cutByAll a_there a_froms a_tos a_rooms (d + 1) (fl_cm (fl_in c) (p + 1)) (fl_cm (fl_out c) (p + 1)) 20000 (nI (fl_sh c (p + 1))) y :=
      fun h => K 20000 (by rw [show (20000 : Int32).toInt = 20000 by decide]; exact fl_Q2 h)
    have K119 : ∀ n2 : Int32, n2.toInt = (if fl_dg c p = 1 then n.toInt + much.toInt else n.toInt) → (p = s → fl_dg c p = 2) → wY_parted_119 post J (wY_parted_32 post J (nI s) (nI t) much b least (nI c) f_size f_common f_joined f_cutBySome f_cutByAll a_there a_froms a_tos a_rooms (d + 1)) (nI s) (nI t) much b least (nI c) (fl_cm (fl_in c) (p + 1)) (fl_cm (fl_out c) (p + 1)) n2 (nI (fl_sh c (p + 1))) (nI p) (nI (fl_dg c p)) f_size f_common f_joined f_cutBySome f_cutByAll a_there a_froms a_tos a_rooms := by
      intro n2 hn2 h1
      refine pk_eq p t (fun e => pk_eq (fl_dg c p) 0 (fun e2 => K n2 ?_) (fun e2 => KB (fun z => e2 (z.2 e)))) (fun e => K n2 ?_)
      · rw [hn2]; exact fl_Q1 hQ hm h1 (fun _ => e2)
      · rw [hn2]; exact fl_Q1 hQ hm h1 (fun z => absurd z e)
    have K105 : ∀ n2 : Int32, n2.toInt = (if fl_dg c p = 1 then n.toInt + much.toInt else n.toInt) → wY_parted_105 post J (wY_parted_32 post J (nI s) (nI t) much b least (nI c) f_size f_common f_joined f_cutBySome f_cutByAll a_there a_froms a_tos a_rooms (d + 1)) (nI s) (nI t) much b least (nI c) (fl_cm (fl_in c) (p + 1)) (fl_cm (fl_out c) (p + 1)) (nI (fl_sh c (p + 1))) (nI p) (nI (fl_dg c p)) n2 f_size f_common f_joined f_cutBySome f_cutByAll a_there a_froms a_tos a_rooms := by
      intro n2 hn2
      exact pk_eq p s (fun e => pk_eq (fl_dg c p) 2 (fun e2 => K119 n2 hn2 (fun _ => e2)) (fun e2 => KB (fun z => e2 (z.1 e)))) (fun e => K119 n2 hn2 (fun z => absurd z e))
    have K88 : wY_parted_88 post J (wY_parted_32 post J (nI s) (nI t) much b least (nI c) f_size f_common f_joined f_cutBySome f_cutByAll a_there a_froms a_tos a_rooms (d + 1)) (nI s) (nI t) much b least (nI c) (fl_cm (fl_in c) (p + 1)) n (nI (fl_sh c (p + 1))) (nI p) (nI (fl_dg c p)) (fl_cm (fl_out c) (p + 1)) f_size f_common f_joined f_cutBySome f_cutByAll a_there a_froms a_tos a_rooms := by
      refine pk_eq (fl_dg c p) 1 (fun e => K105 _ ?_) (fun e => K105 n ?_)
      · have h4 := hQ.2.1
        have h5 := hQ.2.2
        rw [if_pos e, fl_tadd (by omega) (by omega)]
      · rw [if_neg e]
    have K68 : wY_parted_68 post J (wY_parted_32 post J (nI s) (nI t) much b least (nI c) f_size f_common f_joined f_cutBySome f_cutByAll a_there a_froms a_tos a_rooms (d + 1)) (nI s) (nI t) much b least (nI c) (fl_cm (fl_out c) p) n (nI (fl_sh c (p + 1))) (nI p) (nI (fl_dg c p)) (fl_cm (fl_in c) (p + 1)) f_size f_common f_joined f_cutBySome f_cutByAll a_there a_froms a_tos a_rooms := by
      refine pk_eq (fl_dg c p) 2 (fun e => ?_) (fun e => ?_)
      · have e3 : fl_cm (fl_out c) (p + 1) = fl_cm (fl_out c) p ||| ((1 : Int32) <<< (nI p &&& 31)) := if_pos (decide_eq_true e)
        rw [← e3]; exact K88
      · have e3 : fl_cm (fl_out c) (p + 1) = fl_cm (fl_out c) p := if_neg (by show ¬ decide (fl_dg c p = 2) = true; simpa using e)
        rw [e3] at K88; exact K88
    have e1 : nI (fl_sh c p) - nI (fl_sh c p) / 3 * 3 = nI (fl_dg c p) := pk_rem (d := 3) (by omega) (by omega) (by omega)
    have e2 : nI (fl_sh c p) / 3 = nI (fl_sh c (p + 1)) := pk_div (d := 3) (by omega) (by omega) (by omega)
    refine br_f (nI_ge (b := 8) (by omega) (by decide)) ⟨by decide, nm_r e1 ⟨by decide, nm_r e2 (pk_le (fl_dg c p) 0 (fun e => ?_) (fun e => ?_))⟩⟩
    · have e3 : fl_cm (fl_in c) (p + 1) = fl_cm (fl_in c) p := if_neg (by show ¬ decide (0 < fl_dg c p) = true; simp; omega)
      rw [e3] at K68; exact K68
    · have e3 : fl_cm (fl_in c) (p + 1) = fl_cm (fl_in c) p ||| ((1 : Int32) <<< (nI p &&& 31)) := if_pos (decide_eq_true e)
      rw [← e3]; exact K68
theorem yw_part8 {post : Int32 → Prop} {f_size f_common f_joined f_cutBySome f_cutByAll : Int32} {a_there a_froms a_tos a_rooms : Nat → Int32} {pr much b : Int32} {s t : Nat} {most : Int} (hs : s < 8) (ht : t < 8) (hmo : 0 ≤ most) (hm : 0 ≤ much.toInt ∧ much.toInt ≤ 99) (hT : fl_Th pr a_there) (hN : fl_Net pr a_froms a_tos a_rooms) (hb : (b = 0 ∧ most = 99) ∨ (¬ b = 0 ∧ most = 1))
    (h : ∀ x : Int32, fl_Le (fun c => fl_Vd s t c 8) (fl_pz pr a_froms a_tos a_rooms most much.toInt) 6561 10000 x.toInt → post x) :
    ∀ (d c : Nat) (x : Int32), c + d = 6561 → fl_Le (fun c => fl_Vd s t c 8) (fl_pz pr a_froms a_tos a_rooms most much.toInt) c 10000 x.toInt → wY_parted_8 post (nI s) (nI t) much b f_size f_common f_joined f_cutBySome f_cutByAll a_there a_froms a_tos a_rooms (d + 1) x (nI c) := by
  intro d
  induction d with
  | zero =>
    intro c x hc hL
    have e : c = 6561 := by omega
    subst e
    exact br_t (nI_le (a := 6561) (b := 6561) (by omega) (by decide)) (h x hL)
  | succ d ih =>
    intro c x hc hL
    exact br_f (nI_ge (b := 6561) (by omega) (by decide)) ⟨8 + 1, yw_part32 hs ht (by omega) hmo hm hT hN hb hL (fun z hz => ih (c + 1) z (by omega) hz) 8 0 0 rfl (by rw [fl_z0]; exact fl_Q0 s t c much.toInt)⟩
theorem yw_parted {post : Int32 → Prop} {f_size f_common f_joined f_cutBySome f_cutByAll : Int32} {a_there a_froms a_tos a_rooms : Nat → Int32} {pr much b : Int32} {s t : Nat} {most : Int} (hs : s < 8) (ht : t < 8) (hmo : 0 ≤ most) (hm : 0 ≤ much.toInt ∧ much.toInt ≤ 99) (hT : fl_Th pr a_there) (hN : fl_Net pr a_froms a_tos a_rooms) (hb : (b = 0 ∧ most = 99) ∨ (¬ b = 0 ∧ most = 1))
    (h : ∀ x : Int32, fl_Le (fun c => fl_Vd s t c 8) (fl_pz pr a_froms a_tos a_rooms most much.toInt) 6561 10000 x.toInt → post x) : wpY_parted post (f_size, f_common, f_joined, f_cutBySome, f_cutByAll, a_there, a_froms, a_tos, a_rooms) (nI s) (nI t) much b :=
  ⟨6561 + 1, yw_part8 hs ht hmo hm hT hN hb h 6561 0 10000 rfl ⟨by decide, Or.inl (by decide), fun j hj => by omega⟩⟩
end
section
/-- x is the least of sz over D below n -/
def fl_Mn (D : Nat → Prop) (sz : Nat → Int) (n : Nat) (x : Int) : Prop := (∃ j, j < n ∧ D j ∧ sz j = x) ∧ ∀ j, j < n → D j → x ≤ sz j
theorem fl_Mn_u {D : Nat → Prop} {sz : Nat → Int} {n : Nat} {x y : Int} (h : fl_Mn D sz n x) (h' : fl_Mn D sz n y) : x = y := by
  obtain ⟨⟨j, j1, j2, j3⟩, h2⟩ := h
  obtain ⟨⟨i, i1, i2, i3⟩, h2'⟩ := h'
  have := h2 i i1 i2
  have := h2' j j1 j2
  omega
theorem fl_Le_Mn {D : Nat → Prop} {sz : Nat → Int} {n : Nat} {B x : Int} (h : fl_Le D sz n B x) (hB : ∃ j, j < n ∧ D j ∧ sz j ≤ B) : fl_Mn D sz n x := by
  obtain ⟨h1, h2, h3⟩ := h
  refine ⟨?_, h3⟩
  rcases h2 with rfl | h2
  · obtain ⟨j, j1, j2, j3⟩ := hB
    have := h3 j j1 j2
    exact ⟨j, j1, j2, by omega⟩
  · exact h2
theorem fl_Stu_Mn {B : Int} {Sd : Nat → Prop} {sz : Nat → Int} {ct : Nat → Int32} {n : Nat} {m : Int} {ev so ce cs : Int32} (h : fl_Stu B Sd sz ct n m ev so ce cs) (hj : ∃ j, j < n ∧ Sd j) : fl_Mn Sd sz n m := by
  obtain ⟨h1, h2⟩ := h
  refine ⟨?_, h1⟩
  rcases h2 with ⟨_, h3⟩ | ⟨h3, _⟩
  · obtain ⟨j, j1, j2⟩ := hj
    exact absurd j2 (h3 j j1)
  · exact h3
theorem fl_side {s t : Nat} (hs : s < 8) (ht : t < 8) (hst : s ≠ t) : ∃ j, j < 256 ∧ fl_Sj s t j := by
  obtain ⟨j, hj, h⟩ := fl_mask (fun p => decide (p = s)) 8
  refine ⟨j, hj, ?_, ?_⟩
  · show j.testBit s = true
    rw [h s hs]; simp
  · show j.testBit t = false
    rw [h t ht]; simp; exact Ne.symm hst
theorem fl_Mc_Mn {pr : Int32} {st en rm : Nat → Int32} {most x : Int} {s t : Nat} (hN : fl_Net pr st en rm) (hs : s < 8) (ht : t < 8) (h : fl_Mc (fl_Cs pr st en rm 0 most) s t x) : fl_Mn (fl_Sj s t) (fl_sz pr st en rm most) 256 x := by
  obtain ⟨⟨S, h1, h2⟩, h3⟩ := h
  refine ⟨?_, fun j _ hd => h3 (fl_tb j) hd⟩
  obtain ⟨j, hj, hb⟩ := fl_mask S 8
  refine ⟨j, hj, ⟨?_, ?_⟩, ?_⟩
  · show j.testBit s = true
    rw [hb s hs]; exact h1.1
  · show j.testBit t = false
    rw [hb t ht]; exact h1.2
  · rw [← h2]
    exact fl_Cg_congr hN (fun p hp => hb p hp) (fun p hp => hb p hp)
theorem fl_Cg_20 {pr : Int32} {st en rm : Nat → Int32} {O I : Nat → Bool} : fl_Cg pr st en rm 1 O I ≤ 20 := by
  have := fl_le (n := 20) (f := fun k => if fl_cf pr st en O I k = true then (if fl_v rm k < 1 then fl_v rm k else 1) else 0) (g := fun _ => 1) (fun j hj => by
    show (if fl_cf pr st en O I j = true then (if fl_v rm j < 1 then fl_v rm j else 1) else 0) ≤ (1 : Int)
    split
    · split <;> omega
    · decide)
  rw [fl_const] at this
  exact this
theorem fl_ps_b {much : Int} (hm : 0 ≤ much ∧ much ≤ 99) (S : Nat → Bool) : fl_ps much S 8 ≤ 792 := by
  have := fl_le (n := 8) (f := fun p => if S p && !S (p + 8) then much else 0) (g := fun _ => 99) (fun j hj => by
    show (if S j && !S (j + 8) then much else 0) ≤ (99 : Int)
    split <;> omega)
  rw [fl_const] at this
  exact this
theorem fl_part {pr : Int32} {st en rm : Nat → Int32} {most much x y : Int} {s t : Nat} (hN : fl_Net pr st en rm) (hs : s < 8) (ht : t < 8) (hst : s ≠ t) (hmo : 0 ≤ most) (hm : 0 ≤ much ∧ much ≤ 99)
    (hX : fl_Mc (fun S => fl_Cs pr st en rm 8 most S + fl_ps much S 8) (s + 8) t x) (hY : fl_Le (fun c => fl_Vd s t c 8) (fl_pz pr st en rm most much) 6561 10000 y) : x = y := by
  obtain ⟨⟨S, h1, h2⟩, h3⟩ := hX
  obtain ⟨y1, y2, y3⟩ := hY
  have hA : ∀ c, fl_Vd s t c 8 → x ≤ fl_pz pr st en rm most much c := by
    intro c hV
    have hd : ∀ p, fl_dg c p < 3 := fun p => Nat.mod_lt _ (by decide)
    have k1 : ∀ p, (fun q => if q < 8 then fl_in c q else fl_out c (q - 8)) (p + 8) = fl_out c p := fun p => by
      show (if p + 8 < 8 then fl_in c (p + 8) else fl_out c (p + 8 - 8)) = fl_out c p
      rw [if_neg (by omega), Nat.add_sub_cancel]
    have k2 : ∀ p, p < 8 → (fun q => if q < 8 then fl_in c q else fl_out c (q - 8)) p = fl_in c p := fun p hp => if_pos hp
    have h4 := h3 (fun q => if q < 8 then fl_in c q else fl_out c (q - 8)) ⟨by
      rw [k1 s]; exact decide_eq_true ((hV s hs).1 rfl), by
      rw [k2 t ht]
      have := (hV t ht).2 rfl
      show decide (0 < fl_dg c t) = false
      simp [this]⟩
    have e1 : fl_Cs pr st en rm 8 most (fun q => if q < 8 then fl_in c q else fl_out c (q - 8)) = fl_Cg pr st en rm most (fl_out c) (fl_in c) := by
      rw [fl_Cs_g]
      exact fl_Cg_congr hN (fun p _ => k1 p) (fun p hp => k2 p hp)
    have e2 : fl_ps much (fun q => if q < 8 then fl_in c q else fl_out c (q - 8)) 8 = fl_pn much c 8 := by
      refine fl_congr (fun p hp => ?_)
      show (if ((fun q => if q < 8 then fl_in c q else fl_out c (q - 8)) p && !(fun q => if q < 8 then fl_in c q else fl_out c (q - 8)) (p + 8)) = true then much else 0) = (if fl_dg c p = 1 then much else 0)
      rw [k1 p, k2 p hp]
      have hd3 := hd p
      by_cases e : fl_dg c p = 1
      · rw [if_pos e, if_pos]
        show (decide (0 < fl_dg c p) && !decide (fl_dg c p = 2)) = true
        simp [e]
      · rw [if_neg e, if_neg]
        show ¬ (decide (0 < fl_dg c p) && !decide (fl_dg c p = 2)) = true
        simp; omega
    have h5 : x ≤ fl_Cs pr st en rm 8 most (fun q => if q < 8 then fl_in c q else fl_out c (q - 8)) + fl_ps much (fun q => if q < 8 then fl_in c q else fl_out c (q - 8)) 8 := h4
    rw [e1, e2] at h5
    have e3 : fl_pz pr st en rm most much c = fl_pn much c 8 + fl_Cg pr st en rm most (fl_out c) (fl_in c) := rfl
    omega
  have hB : ∃ c, c < 6561 ∧ fl_Vd s t c 8 ∧ fl_pz pr st en rm most much c ≤ x := by
    obtain ⟨c, hc, hg⟩ := fl_code 8 (fun p => if p = t then 0 else if S (p + 8) = true then 2 else if S p = true then 1 else 0) (fun p _ => by
      show (if p = t then 0 else if S (p + 8) = true then 2 else if S p = true then 1 else 0) < 3
      split
      · decide
      · split
        · decide
        · split <;> decide)
    have g1 : ∀ p, p < 8 → fl_dg c p = (if p = t then 0 else if S (p + 8) = true then 2 else if S p = true then 1 else 0) := hg
    refine ⟨c, hc, fun b hb => ⟨fun e => ?_, fun e => ?_⟩, ?_⟩
    · rw [g1 b hb, e, if_neg hst, if_pos h1.1]
    · rw [g1 b hb, if_pos e]
    · have h4 : fl_Cs pr st en rm 8 most S + fl_ps much S 8 = x := h2
      have h5 : fl_pn much c 8 ≤ fl_ps much S 8 := by
        refine fl_le (fun p hp => ?_)
        show (if fl_dg c p = 1 then much else 0) ≤ (if (S p && !S (p + 8)) = true then much else 0)
        rw [g1 p hp]
        by_cases a1 : p = t
        · rw [if_pos a1]; simp; split <;> omega
        · rw [if_neg a1]
          cases a2 : S (p + 8)
          · cases a3 : S p
            · simp
            · simp
          · simp
      have h6 : fl_Cg pr st en rm most (fl_out c) (fl_in c) ≤ fl_Cs pr st en rm 8 most S := by
        rw [fl_Cs_g]
        refine fl_le (fun k hk => ?_)
        show (if fl_cf pr st en (fl_out c) (fl_in c) k = true then (if fl_v rm k < most then fl_v rm k else most) else 0) ≤ (if fl_cf pr st en (fun p => S (p + 8)) S k = true then (if fl_v rm k < most then fl_v rm k else most) else 0)
        by_cases a : fl_cf pr st en (fl_out c) (fl_in c) k = true
        · have a0 : (bt pr k && (fl_out c (fl_st st k) && !fl_in c (fl_st en k))) = true := a
          rw [Bool.and_eq_true, Bool.and_eq_true] at a0
          have n1 := hN k hk a0.1
          have o1 : fl_dg c (fl_st st k) = 2 := by
            have := a0.2.1
            exact of_decide_eq_true this
          have i1 : fl_dg c (fl_st en k) = 0 := by
            have z : (!decide (0 < fl_dg c (fl_st en k))) = true := a0.2.2
            simp at z; exact z
          rw [g1 _ n1.1.2] at o1
          rw [g1 _ n1.2.1.2] at i1
          have o2 : S (fl_st st k + 8) = true := by
            by_cases a1 : fl_st st k = t
            · rw [if_pos a1] at o1; cases o1
            · rw [if_neg a1] at o1
              cases a2 : S (fl_st st k + 8)
              · rw [a2] at o1
                cases a3 : S (fl_st st k) <;> simp [a3] at o1
              · rfl
          have i2 : S (fl_st en k) = false := by
            by_cases a1 : fl_st en k = t
            · rw [a1]; exact h1.2
            · rw [if_neg a1] at i1
              cases a2 : S (fl_st en k + 8)
              · rw [a2] at i1
                cases a3 : S (fl_st en k)
                · rfl
                · simp [a3] at i1
              · rw [a2] at i1; simp at i1
          have b : fl_cf pr st en (fun p => S (p + 8)) S k = true := by
            show (bt pr k && (S (fl_st st k + 8) && !S (fl_st en k))) = true
            rw [a0.1, o2, i2]; rfl
          rw [if_pos a, if_pos b]; exact Int.le_refl _
        · rw [if_neg a]
          by_cases b : fl_cf pr st en (fun p => S (p + 8)) S k = true
          · rw [if_pos b]
            have b0 : (bt pr k && (S (fl_st st k + 8) && !S (fl_st en k))) = true := b
            rw [Bool.and_eq_true] at b0
            have n1 := (hN k hk b0.1).2.2
            split <;> omega
          · rw [if_neg b]; exact Int.le_refl _
      have e3 : fl_pz pr st en rm most much c = fl_pn much c 8 + fl_Cg pr st en rm most (fl_out c) (fl_in c) := rfl
      omega
  obtain ⟨c, c1, c2, c3⟩ := hB
  have l1 : y ≤ x := by
    have := y3 c c1 c2
    omega
  have l2 : x ≤ y := by
    rcases y2 with e | ⟨c', c1', c2', c3'⟩
    · have h4 : fl_Cs pr st en rm 8 most S + fl_ps much S 8 = x := h2
      have h5 := (fl_Cs_b (ext := 8) hN hmo S).2
      have h6 := fl_ps_b hm S
      omega
    · have := hA c' c2'
      omega
  omega
end
section
theorem fl_bit1 {j : Nat} (h1 : 1 ≤ j) (h2 : j < 256) : ∃ s, s < 8 ∧ j.testBit s = true := by
  apply Classical.byContradiction
  intro hn
  have : j = 0 := Nat.eq_of_testBit_eq (fun i => by
    rw [Nat.zero_testBit]
    by_cases hi : i < 8
    · cases e : j.testBit i
      · rfl
      · exact absurd ⟨i, hi, e⟩ hn
    · have hp : 2 ^ 8 ≤ 2 ^ i := Nat.pow_le_pow_right (n := 2) (i := 8) (j := i) (by decide) (by omega)
      exact Nat.testBit_lt_two_pow (by omega))
  omega
theorem fl_255t : ∀ i, i < 8 → Nat.testBit 255 i = true := by decide
theorem fl_bit0 {j : Nat} (h2 : j < 255) : ∃ t, t < 8 ∧ j.testBit t = false := by
  apply Classical.byContradiction
  intro hn
  have : j = 255 := Nat.eq_of_testBit_eq (fun i => by
    by_cases hi : i < 8
    · rw [fl_255t i hi]
      cases e : j.testBit i
      · exact absurd ⟨i, hi, e⟩ hn
      · rfl
    · have hp : 2 ^ 8 ≤ 2 ^ i := Nat.pow_le_pow_right (n := 2) (i := 8) (j := i) (by decide) (by omega)
      rw [Nat.testBit_lt_two_pow (show j < 2 ^ i by omega), Nat.testBit_lt_two_pow (show 255 < 2 ^ i by omega)])
  omega
theorem fl_Sj_in {s t j : Nat} (ht : t < 8) (h : fl_Sj s t j) : 1 ≤ j ∧ j ≠ 255 := by
  constructor
  · apply Nat.pos_of_ne_zero
    intro z
    have h1 : j.testBit s = true := h.1
    rw [z, Nat.zero_testBit] at h1; cases h1
  · intro z
    have h1 : j.testBit t = false := h.2
    rw [z, fl_255t t ht] at h1; cases h1
def fl_Wk (sz : Nat → Int) (c : Nat) (x : Int) : Prop := x ≤ 10000 ∧ (x = 10000 ∨ ∃ j, j < 255 ∧ 1 ≤ j ∧ sz j = x) ∧ ∀ c', c' < c → c' / 8 ≠ c' % 8 → ∀ j, j < 256 → fl_Sj (c' / 8) (c' % 8) j → x ≤ sz j
theorem fl_Wk_end {sz : Nat → Int} {x : Int} (h : fl_Wk sz 64 x) : fl_Le (fun j => 1 ≤ j) sz 255 10000 x := by
  obtain ⟨h1, h2, h3⟩ := h
  refine ⟨h1, h2, fun j hj h4 => ?_⟩
  obtain ⟨s, hs, es⟩ := fl_bit1 h4 (by omega)
  obtain ⟨t, ht, et⟩ := fl_bit0 hj
  have hst : s ≠ t := fun z => by rw [z, et] at es; cases es
  have e1 : (s * 8 + t) / 8 = s := by omega
  have e2 : (s * 8 + t) % 8 = t := by omega
  exact h3 (s * 8 + t) (by omega) (by rw [e1, e2]; exact hst) j (by omega) (by rw [e1, e2]; exact ⟨es, et⟩)
theorem yw_weak_l {post : Int32 → SY → Prop} {a_there a_froms a_tos a_rooms : Nat → Int32} {pr : Int32} (hT : fl_Th pr a_there) (hN : fl_Net pr a_froms a_tos a_rooms)
    (h : ∀ (x m ev so cs ce : Int32), fl_Wk (fl_sz pr a_froms a_tos a_rooms 99) 64 x.toInt → post x (m, ev, so, cs, ce, a_there, a_froms, a_tos, a_rooms)) :
    ∀ (d c : Nat) (x m ev so cs ce : Int32), c + d = 64 → fl_Wk (fl_sz pr a_froms a_tos a_rooms 99) c x.toInt → wY_weakest_6 post (d + 1) x (nI c) m ev so cs ce a_there a_froms a_tos a_rooms := by
  intro d
  induction d with
  | zero =>
    intro c x m ev so cs ce hc hW
    have e : c = 64 := by omega
    subst e
    exact br_t (nI_le (a := 64) (b := 64) (by omega) (by decide)) (h x m ev so cs ce hW)
  | succ d ih =>
    intro c x m ev so cs ce hc hW
    have e1 : nI c - nI c / 8 * 8 = nI (c % 8) := pk_rem (d := 8) (by omega) (by omega) (by omega)
    have e2 : nI c / 8 = nI (c / 8) := pk_div (d := 8) (by omega) (by omega) (by omega)
    refine br_f (nI_ge (b := 64) (by omega) (by decide)) ⟨by decide, by decide, ?_⟩
    rw [e1, e2]
    refine yw_value hT hN (fun s t hs ht hst es et _ m2 ev2 so2 ce2 cs2 hS => ?_) (fun hn => br_t (by decide) (nm_r (nI_1 c) (ih (c + 1) x m ev so cs ce (by omega) ?_)))
    · rw [nI_eq (by omega) (by omega)] at es et
      obtain ⟨⟨j, j1, j2, j3⟩, hmin⟩ := fl_Stu_Mn hS (fl_side hs ht hst)
      have hb := fl_Cs_b (ext := 0) hN (show (0 : Int) ≤ 99 by decide) (fl_tb j)
      have hj3 : fl_Cs pr a_froms a_tos a_rooms 0 99 (fl_tb j) = m2.toInt := j3
      have hj := fl_Sj_in ht j2
      obtain ⟨w1, w2, w3⟩ := hW
      refine fl_cl (fun hl => ?_) (fun hl => fl_cle (fun hl2 => nm_r (nI_1 c) (ih (c + 1) x m2 ev2 so2 cs2 ce2 (by omega) ⟨w1, w2, fun c' hc' hne j hj hd => ?_⟩)) (fun hl2 => nm_r (nI_1 c) (ih (c + 1) m2 m2 ev2 so2 cs2 ce2 (by omega) ⟨by omega, Or.inr ⟨j, by omega, hj.1, j3⟩, fun c' hc' hne j hj hd => ?_⟩)))
      · rw [fl_z0] at hl; omega
      · by_cases e : c' = c
        · subst e
          rw [es, et] at hd
          have := hmin j hj hd
          omega
        · exact w3 c' (by omega) hne j hj hd
      · by_cases e : c' = c
        · subst e
          rw [es, et] at hd
          exact hmin j hj hd
        · have := w3 c' (by omega) hne j hj hd
          omega
    · obtain ⟨w1, w2, w3⟩ := hW
      refine ⟨w1, w2, fun c' hc' hne j hj hd => ?_⟩
      by_cases e : c' = c
      · subst e
        exact absurd ⟨⟨c' / 8, c' % 8, by omega, by omega, hne, rfl, rfl⟩, by decide, by decide⟩ hn
      · exact w3 c' (by omega) hne j hj hd
theorem yw_weak {post : Int32 → SY → Prop} {f_size f_common f_joined f_cutBySome f_cutByAll : Int32} {a_there a_froms a_tos a_rooms : Nat → Int32} {pr : Int32} (hT : fl_Th pr a_there) (hN : fl_Net pr a_froms a_tos a_rooms)
    (h : ∀ (x m ev so cs ce : Int32), fl_Wk (fl_sz pr a_froms a_tos a_rooms 99) 64 x.toInt → post x (m, ev, so, cs, ce, a_there, a_froms, a_tos, a_rooms)) : wpY_weakest post (f_size, f_common, f_joined, f_cutBySome, f_cutByAll, a_there, a_froms, a_tos, a_rooms) :=
  ⟨64 + 1, yw_weak_l hT hN h 64 0 10000 f_size f_common f_joined f_cutBySome f_cutByAll rfl ⟨by decide, Or.inl (by decide), fun c' hc' => by omega⟩⟩
end
section
def fl_sb (k : Nat) : Int32 := (1 : Int32) <<< (nI k &&& 31)
/-- the same arcs on the two sides, and no others -/
def fl_R (pr : Int32) (st en rm th fr to ro : Nat → Int32) : Prop := fr = st ∧ to = en ∧ ro = rm ∧ fl_Th pr th ∧ fl_Net pr st en rm ∧ ∀ b, 20 ≤ b → b < 32 → bt pr b = false
def i_Rel (k : Nat) (u : SX) (v : SY) : Prop := k = k ∧ fl_R u.1 u.2.2.2.2.2.2.1 u.2.2.2.2.2.2.2.1 u.2.2.2.2.2.2.2.2.1 v.2.2.2.2.2.1 v.2.2.2.2.2.2.1 v.2.2.2.2.2.2.2.1 v.2.2.2.2.2.2.2.2
theorem i_up {k : Nat} {u : SX} {v : SY} (h : i_Rel k u v) : i_Rel (k + 5) u v := ⟨rfl, h.2⟩
theorem i_vc0 : wpX_init (fun u => wpY_init (fun v => i_Rel 0 u v)) := by
  refine ⟨rfl, rfl, rfl, rfl, fun k _ => ?_, fun k _ hb => ?_, fun b _ _ => b_0 b⟩
  · exact ⟨fun _ => b_0 k, fun _ => rfl⟩
  · have hb2 : bt 0 k = true := hb
    rw [b_0] at hb2; cases hb2
theorem fl_R_add {pr x y z : Int32} {st en rm th : Nat → Int32} {k : Nat} (h : fl_R pr st en rm th st en rm) (hk : k < 20) (h2 : fl_Two x y) (h3 : fl_Rm z) :
    fl_R (pr ||| ((1 : Int32) <<< (nI k &&& 31))) (upd st k x) (upd en k y) (upd rm k z) (upd th k 1) (upd st k x) (upd en k y) (upd rm k z) := by
  obtain ⟨_, _, _, hT, hN, hH⟩ := h
  obtain ⟨a, b, ha, hb, _, rfl, rfl⟩ := h2
  refine ⟨rfl, rfl, rfl, fun j hj => ?_, fun j hj hbt => ?_, fun j h4 h5 => ?_⟩
  · rw [b_or, fl_sh1 (by omega) (by omega)]
    by_cases e : j = k
    · subst e
      rw [pk_us]
      simp
    · rw [pk_un e, hT j hj]
      simp [e]
  · by_cases e : j = k
    · subst e
      have s1 : fl_st (upd st j (nI a)) j = a := by
        show (upd st j (nI a) j).toNatClampNeg = a
        rw [pk_us]; exact nI_clamp (by omega)
      have s2 : fl_st (upd en j (nI b)) j = b := by
        show (upd en j (nI b) j).toNatClampNeg = b
        rw [pk_us]; exact nI_clamp (by omega)
      rw [s1, s2, pk_us, pk_us]
      refine ⟨⟨rfl, ha⟩, ⟨rfl, hb⟩, ?_⟩
      show 0 ≤ (upd rm j z j).toInt ∧ (upd rm j z j).toInt ≤ 99
      rw [pk_us]; exact h3
    · have hb2 : bt pr j = true := by
        rw [b_or, fl_sh1 (by omega) (by omega)] at hbt
        simpa [e] using hbt
      have hn := hN j hj hb2
      have s1 : fl_st (upd st k (nI a)) j = fl_st st j := by
        show (upd st k (nI a) j).toNatClampNeg = (st j).toNatClampNeg
        rw [pk_un e]
      have s2 : fl_st (upd en k (nI b)) j = fl_st en j := by
        show (upd en k (nI b) j).toNatClampNeg = (en j).toNatClampNeg
        rw [pk_un e]
      rw [s1, s2, pk_un e, pk_un e]
      refine ⟨hn.1, hn.2.1, ?_⟩
      show 0 ≤ (upd rm k z j).toInt ∧ (upd rm k z j).toInt ≤ 99
      rw [pk_un e]; exact hn.2.2
  · rw [b_or, fl_sh1 (by omega) h5, hH j h4 h5]
    have : ¬ j = k := by omega
    simp [this]
theorem xw_add_l {post : Int32 → SX → Prop} {f_present f_leastSize f_inEvery f_inSome f_cutByEvery f_cutBySome : Int32} {a_start a_end a_rooms a_left a_from a_line a_level a_width a_done a_height a_excess : Nat → Int32} {x y z : Int32}
    (h1 : ∀ k, k < 20 → bt f_present k = false → (∀ j, j < k → bt f_present j = true) → post (nI k) (f_present ||| fl_sb k, f_leastSize, f_inEvery, f_inSome, f_cutByEvery, f_cutBySome, upd a_start k x, upd a_end k y, upd a_rooms k z, a_left, a_from, a_line, a_level, a_width, a_done, a_height, a_excess))
    (h0 : (∀ j, j < 20 → bt f_present j = true) → post (-2) (f_present, f_leastSize, f_inEvery, f_inSome, f_cutByEvery, f_cutBySome, a_start, a_end, a_rooms, a_left, a_from, a_line, a_level, a_width, a_done, a_height, a_excess)) :
    ∀ (d k : Nat), k + d = 20 → (∀ j, j < k → bt f_present j = true) → wX_add_22 post x y z f_present f_leastSize f_inEvery f_inSome f_cutByEvery f_cutBySome a_start a_end a_rooms a_left a_from a_line a_level a_width a_done a_height a_excess (d + 1) (nI k) := by
  intro d
  induction d with
  | zero =>
    intro k hk hp
    have e : k = 20 := by omega
    subst e
    exact br_t (nI_le (a := 20) (b := 20) (by omega) (by decide)) (h0 hp)
  | succ d ih =>
    intro k hk hp
    refine br_f (nI_ge (b := 20) (by omega) (by decide)) (xw_isArc (fun ha => br_f (by decide) (nm_r (nI_1 k) (ih (k + 1) (by omega) (lt_s hp ?_)))) (fun ha => br_t rfl (nm_e ⟨vp_in_nI (by omega) (by decide), nm_e ⟨vp_in_nI (by omega) (by decide), nm_e ⟨vp_in_nI (by omega) (by decide), nm_e ?_⟩⟩⟩)))
    · obtain ⟨j, hj, e, hb⟩ := ha
      rw [nI_eq (by omega) (by omega)] at e
      subst e; exact hb
    · rw [nI_clamp (show k < 2 ^ 31 by omega)]
      refine h1 k (by omega) ?_ hp
      cases e : bt f_present k
      · rfl
      · exact absurd ⟨k, by omega, rfl, e⟩ ha
theorem yw_add_l {post : Int32 → SY → Prop} {f_size f_common f_joined f_cutBySome f_cutByAll : Int32} {a_there a_froms a_tos a_rooms : Nat → Int32} {x y z : Int32} {k : Nat} (hk : k ≤ 20) (hp : ∀ j, j < k → ¬ a_there j = 0)
    (h1 : k < 20 → a_there k = 0 ∧ post (nI k) (f_size, f_common, f_joined, f_cutBySome, f_cutByAll, upd a_there k 1, upd a_froms k x, upd a_tos k y, upd a_rooms k z)) (h0 : k = 20 → post (-2) (f_size, f_common, f_joined, f_cutBySome, f_cutByAll, a_there, a_froms, a_tos, a_rooms)) :
    ∀ (d j : Nat), j + d = k → wY_add_22 post x y z f_size f_common f_joined f_cutBySome f_cutByAll a_there a_froms a_tos a_rooms (d + 1) (nI j) := by
  intro d
  induction d with
  | zero =>
    intro j hj
    have e : j = k := by omega
    subst e
    by_cases h20 : j = 20
    · have := h0 h20
      subst h20
      exact br_t (nI_le (a := 20) (b := 20) (by omega) (by decide)) this
    · have hh := h1 (by omega)
      refine br_f (nI_ge (b := 20) (by omega) (by decide)) ⟨vp_in_nI (by omega) (by decide), ?_⟩
      rw [nI_clamp (show j < 2 ^ 31 by omega), fl_nar1]
      exact br_t hh.1 ⟨vp_in_nI (by omega) (by decide), nm_e ⟨vp_in_nI (by omega) (by decide), nm_e ⟨vp_in_nI (by omega) (by decide), nm_e ⟨vp_in_nI (by omega) (by decide), nm_e hh.2⟩⟩⟩⟩
  | succ d ih =>
    intro j hj
    refine br_f (nI_ge (b := 20) (by omega) (by decide)) ⟨vp_in_nI (by omega) (by decide), ?_⟩
    rw [nI_clamp (show j < 2 ^ 31 by omega)]
    exact br_f (hp j (by omega)) (nm_r (nI_1 j) (ih (j + 1) (by omega)))
theorem i_vc_add {k : Nat} {u : SX} {v : SY} (I : i_Rel k u v) (hk : k + 5 ≤ 2560) (v1 : Int32) (v2 : Int32) (v3 : Int32) : wpX_add (fun r u' => wpY_add (fun r' v' => r' = r ∧ i_Rel (k + 5) u' v') v v1 v2 v3) u v1 v2 v3 := by
  obtain ⟨u1, u2, u3, u4, u5, u6, u7, u8, u9, u10, u11, u12, u13, u14, u15, u16, u17⟩ := u
  obtain ⟨w1, w2, w3, w4, w5, w6, w7, w8, w9⟩ := v
  have I2 : fl_R u1 u7 u8 u9 w6 w7 w8 w9 := I.2
  obtain ⟨rfl, rfl, rfl, hT, hN, hH⟩ := I2
  have hR : fl_R u1 w7 w8 w9 w6 w7 w8 w9 := ⟨rfl, rfl, rfl, hT, hN, hH⟩
  have hthere : ∀ j, j < 20 → bt u1 j = true → ¬ w6 j = 0 := fun j hj hb z => by
    rw [(hT j hj).mp z] at hb; cases hb
  unfold wpX_add
  refine xw_ends (fun h2 => br_f (by decide) (xw_room (fun h3 => br_f (by decide) ⟨20 + 1, xw_add_l (fun j hj hb hp => ?_) (fun hp => ?_) 20 0 rfl (fun j hj => by omega)⟩) (fun h3 => br_t rfl ?_))) (fun h2 => br_t rfl ?_)
  · unfold wpY_add
    refine yw_two (fun _ => br_f (by decide) (yw_amount (fun _ => br_f (by decide) ⟨j + 1, yw_add_l (k := j) (by omega) (fun i hi => hthere i (by omega) (hp i hi)) (fun _ => ⟨(hT j hj).mpr hb, rfl, rfl, fl_R_add hR hj h2 h3⟩) (fun z => by omega) j 0 (by omega)⟩) (fun z => absurd h3 z))) (fun z => absurd h2 z)
  · unfold wpY_add
    exact yw_two (fun _ => br_f (by decide) (yw_amount (fun _ => br_f (by decide) ⟨20 + 1, yw_add_l (k := 20) (by omega) (fun i hi => hthere i hi (hp i hi)) (fun z => by omega) (fun _ => ⟨rfl, rfl, hR⟩) 20 0 rfl⟩) (fun z => absurd h3 z))) (fun z => absurd h2 z)
  · unfold wpY_add
    exact yw_two (fun _ => br_f (by decide) (yw_amount (fun z => absurd z h3) (fun _ => br_t rfl ⟨rfl, rfl, hR⟩))) (fun z => absurd h2 z)
  · unfold wpY_add
    exact yw_two (fun z => absurd z h2) (fun _ => br_t rfl ⟨rfl, rfl, hR⟩)
theorem fl_R_rem {pr : Int32} {st en rm th : Nat → Int32} {k : Nat} (h : fl_R pr st en rm th st en rm) (hk : k < 20) :
    fl_R (pr &&& (((1 : Int32) <<< (nI k &&& 31)) ^^^ (-1))) st en rm (upd th k 0) st en rm := by
  obtain ⟨_, _, _, hT, hN, hH⟩ := h
  have hb : ∀ j, j < 32 → bt (pr &&& (((1 : Int32) <<< (nI k &&& 31)) ^^^ (-1))) j = (bt pr j && !decide (j = k)) := fun j hj => by
    rw [b_and, b_xor, fl_sh1 (by omega) hj, b_m1 j hj, Bool.xor_true]
  refine ⟨rfl, rfl, rfl, fun j hj => ?_, fun j hj hbt => ?_, fun j h4 h5 => ?_⟩
  · rw [hb j (by omega)]
    by_cases e : j = k
    · subst e
      rw [pk_us]; simp
    · rw [pk_un e, hT j hj]; simp [e]
  · rw [hb j (by omega), Bool.and_eq_true] at hbt
    exact hN j hj hbt.1
  · rw [hb j h5, hH j h4 h5]; rfl
theorem i_vc_remove {k : Nat} {u : SX} {v : SY} (I : i_Rel k u v) (hk : k + 5 ≤ 2560) (v1 : Int32) : wpX_remove (fun r u' => wpY_remove (fun r' v' => r' = r ∧ i_Rel (k + 5) u' v') v v1) u v1 := by
  obtain ⟨u1, u2, u3, u4, u5, u6, u7, u8, u9, u10, u11, u12, u13, u14, u15, u16, u17⟩ := u
  obtain ⟨w1, w2, w3, w4, w5, w6, w7, w8, w9⟩ := v
  have I2 : fl_R u1 u7 u8 u9 w6 w7 w8 w9 := I.2
  obtain ⟨rfl, rfl, rfl, hT, hN, hH⟩ := I2
  have hR : fl_R u1 w7 w8 w9 w6 w7 w8 w9 := ⟨rfl, rfl, rfl, hT, hN, hH⟩
  unfold wpX_remove
  refine xw_isArc (fun ha => br_f (by decide) (nm_e ?_)) (fun ha => br_t rfl ?_)
  · obtain ⟨j, hj, rfl, hb⟩ := ha
    have hi : vp_in (nI j) 20 := vp_in_nI hj (by decide)
    refine ⟨hi, ?_⟩
    unfold wpY_remove
    refine yw_is hT (fun _ => br_f (by decide) ⟨hi, nm_e ⟨hi, rfl, rfl, ?_⟩⟩) (fun z => absurd ⟨j, hj, rfl, hb⟩ z)
    have := fl_R_rem hR hj
    rw [← fl_nar0, ← nI_clamp (show j < 2 ^ 31 by omega)] at this
    rw [nI_clamp (show j < 2 ^ 31 by omega)] at this ⊢
    exact this
  · unfold wpY_remove
    exact yw_is hT (fun z => absurd z ha) (fun _ => br_t rfl ⟨rfl, rfl, hR⟩)
end
section
theorem fl_R_chg {pr z : Int32} {st en rm th : Nat → Int32} {k : Nat} (h : fl_R pr st en rm th st en rm) (h3 : fl_Rm z) : fl_R pr st en (upd rm k z) th st en (upd rm k z) := by
  obtain ⟨_, _, _, hT, hN, hH⟩ := h
  refine ⟨rfl, rfl, rfl, hT, fun j hj hb => ?_, hH⟩
  have hn := hN j hj hb
  refine ⟨hn.1, hn.2.1, ?_⟩
  show 0 ≤ (upd rm k z j).toInt ∧ (upd rm k z j).toInt ≤ 99
  by_cases e : j = k
  · subst e
    rw [pk_us]; exact h3
  · rw [pk_un e]; exact hn.2.2
theorem i_vc_change {k : Nat} {u : SX} {v : SY} (I : i_Rel k u v) (hk : k + 5 ≤ 2560) (v1 : Int32) (v2 : Int32) : wpX_change (fun r u' => wpY_change (fun r' v' => r' = r ∧ i_Rel (k + 5) u' v') v v1 v2) u v1 v2 := by
  obtain ⟨u1, u2, u3, u4, u5, u6, u7, u8, u9, u10, u11, u12, u13, u14, u15, u16, u17⟩ := u
  obtain ⟨w1, w2, w3, w4, w5, w6, w7, w8, w9⟩ := v
  have I2 : fl_R u1 u7 u8 u9 w6 w7 w8 w9 := I.2
  obtain ⟨rfl, rfl, rfl, hT, hN, hH⟩ := I2
  have hR : fl_R u1 w7 w8 w9 w6 w7 w8 w9 := ⟨rfl, rfl, rfl, hT, hN, hH⟩
  unfold wpX_change
  refine xw_isArc (fun ha => br_f (by decide) (xw_room (fun h3 => br_f (by decide) ?_) (fun h3 => br_t rfl ?_))) (fun ha => br_t rfl ?_)
  · have hi : vp_in v1 20 := by
      obtain ⟨j, hj, rfl, hb⟩ := ha
      exact vp_in_nI hj (by decide)
    refine ⟨hi, nm_e ⟨hi, nm_e ?_⟩⟩
    unfold wpY_change
    exact yw_is hT (fun _ => br_f (by decide) (yw_amount (fun _ => br_f (by decide) ⟨hi, nm_e ⟨hi, nm_e ⟨rfl, rfl, fl_R_chg hR h3⟩⟩⟩) (fun z => absurd h3 z))) (fun z => absurd ha z)
  · unfold wpY_change
    exact yw_is hT (fun _ => br_f (by decide) (yw_amount (fun z => absurd z h3) (fun _ => br_t rfl ⟨rfl, rfl, hR⟩))) (fun z => absurd ha z)
  · unfold wpY_change
    exact yw_is hT (fun z => absurd z ha) (fun _ => br_t rfl ⟨rfl, rfl, hR⟩)
theorem yw_arcs_l {post : Int32 → Prop} {f_size f_common f_joined f_cutBySome f_cutByAll : Int32} {a_there a_froms a_tos a_rooms : Nat → Int32} {pr : Int32} (hT : fl_Th pr a_there) (h : post (fl_cm (bt pr) 20)) : ∀ (d k : Nat), k + d = 20 → wY_arcs_4 post f_size f_common f_joined f_cutBySome f_cutByAll a_there a_froms a_tos a_rooms (d + 1) (fl_cm (bt pr) k) (nI k) := by
  intro d
  induction d with
  | zero =>
    intro k hk
    have e : k = 20 := by omega
    subst e
    exact br_t (nI_le (a := 20) (b := 20) (by omega) (by decide)) h
  | succ d ih =>
    intro k hk
    have ihk := ih (k + 1) (by omega)
    refine br_f (nI_ge (b := 20) (by omega) (by decide)) ⟨vp_in_nI (by omega) (by decide), ?_⟩
    rw [nI_clamp (show k < 2 ^ 31 by omega)]
    refine br_c (fun hz => nm_r (nI_1 k) ?_) (fun hz => nm_e (nm_r (nI_1 k) ?_))
    · have e : fl_cm (bt pr) (k + 1) = fl_cm (bt pr) k := if_neg (by rw [(hT k (by omega)).mp hz]; decide)
      rw [e] at ihk; exact ihk
    · have hb : bt pr k = true := by
        cases e : bt pr k
        · exact absurd ((hT k (by omega)).mpr e) hz
        · rfl
      have e : fl_cm (bt pr) (k + 1) = fl_cm (bt pr) k ||| ((1 : Int32) <<< (nI k &&& 31)) := if_pos hb
      rw [← e]; exact ihk
theorem i_vc_arcs {k : Nat} {u : SX} {v : SY} (I : i_Rel k u v) (hk : k + 5 ≤ 2560) : wpX_arcs (fun r => wpY_arcs (fun r' => r' = r ∧ i_Rel (k + 5) u v) v) u := by
  obtain ⟨u1, u2, u3, u4, u5, u6, u7, u8, u9, u10, u11, u12, u13, u14, u15, u16, u17⟩ := u
  obtain ⟨w1, w2, w3, w4, w5, w6, w7, w8, w9⟩ := v
  have I2 : fl_R u1 u7 u8 u9 w6 w7 w8 w9 := I.2
  have hI : ∀ n, i_Rel n (u1, u2, u3, u4, u5, u6, u7, u8, u9, u10, u11, u12, u13, u14, u15, u16, u17) (w1, w2, w3, w4, w5, w6, w7, w8, w9) := fun n => ⟨rfl, I2⟩
  obtain ⟨e1, e2, e3, hT, hN, hH⟩ := I2
  refine ⟨20 + 1, yw_arcs_l hT ⟨b_ext (fun b hb => ?_), hI _⟩ 20 0 rfl⟩
  rw [fl_cm_b _ 20 (by omega) b hb]
  by_cases e : b < 20
  · simp [e]
  · rw [hH b (by omega) hb]; simp
theorem i_vc_value {k : Nat} {u : SX} {v : SY} (I : i_Rel k u v) (hk : k + 5 ≤ 2560) (v1 : Int32) (v2 : Int32) (v3 : Int32) : wpX_value (fun r u' => wpY_value (fun r' v' => r' = r ∧ i_Rel (k + 5) u' v') v v1 v2 v3) u v1 v2 v3 := by
  obtain ⟨u1, u2, u3, u4, u5, u6, u7, u8, u9, u10, u11, u12, u13, u14, u15, u16, u17⟩ := u
  obtain ⟨w1, w2, w3, w4, w5, w6, w7, w8, w9⟩ := v
  have I2 : fl_R u1 u7 u8 u9 w6 w7 w8 w9 := I.2
  obtain ⟨rfl, rfl, rfl, hT, hN, hH⟩ := I2
  have hR : fl_R u1 w7 w8 w9 w6 w7 w8 w9 := ⟨rfl, rfl, rfl, hT, hN, hH⟩
  refine xw_value hN (fun s t hs ht hst e2 e3 h0 h6 x l f li lv w dn hh e hx hM => ?_) (fun hn => ?_)
  · subst e2 e3
    refine yw_value hT hN (fun s' t' hs' ht' hst' e2 e3 _ m ev so ce cs hS => ?_) (fun hn => absurd ⟨⟨s, t, hs, ht, hst, rfl, rfl⟩, h0, h6⟩ hn)
    rw [nI_eq (by omega) (by omega)] at e2 e3
    subst e2 e3
    exact ⟨Int32.toInt_inj.mp (fl_Mn_u (fl_Stu_Mn hS (fl_side hs ht hst)) (fl_Mc_Mn hN hs ht hM)), rfl, hR⟩
  · exact yw_value hT hN (fun s' t' hs' ht' hst' e2 e3 he m ev so ce cs hS => absurd ⟨⟨s', t', hs', ht', hst', e2, e3⟩, he.1, he.2⟩ hn) (fun _ => ⟨rfl, rfl, hR⟩)
theorem yw_agree {post : Int32 → Prop} {u : SY} {e o p q : Int32} (h1 : fl_En e → fl_En o → fl_Two p q → post 1) (h0 : ¬ (fl_En e ∧ fl_En o ∧ fl_Two p q) → post 0) : wpY_agree post u e o p q := by
  obtain ⟨w1, w2, w3, w4, w5, w6, w7, w8, w9⟩ := u
  unfold wpY_agree
  exact yw_engine (fun a => br_f (by decide) (yw_engine (fun b => br_f (by decide) (yw_two (fun c => br_f (by decide) (h1 a b c)) (fun c => br_t rfl (h0 (fun z => c z.2.2))))) (fun b => br_t rfl (h0 (fun z => b z.2.1))))) (fun a => br_t rfl (h0 (fun z => a z.1)))
theorem i_vc_agree {k : Nat} {u : SX} {v : SY} (I : i_Rel k u v) (hk : k + 5 ≤ 2560) (v1 : Int32) (v2 : Int32) (v3 : Int32) (v4 : Int32) : wpX_agree (fun r u' => wpY_agree (fun r' => r' = r ∧ i_Rel (k + 5) u' v) v v1 v2 v3 v4) u v1 v2 v3 v4 := by
  obtain ⟨u1, u2, u3, u4, u5, u6, u7, u8, u9, u10, u11, u12, u13, u14, u15, u16, u17⟩ := u
  obtain ⟨w1, w2, w3, w4, w5, w6, w7, w8, w9⟩ := v
  have I2 : fl_R u1 u7 u8 u9 w6 w7 w8 w9 := I.2
  obtain ⟨rfl, rfl, rfl, hT, hN, hH⟩ := I2
  have hR : fl_R u1 w7 w8 w9 w6 w7 w8 w9 := ⟨rfl, rfl, rfl, hT, hN, hH⟩
  unfold wpX_agree
  refine xw_value hN (fun s t hs ht hst e2 e3 h0 h6 x l f li lv w dn hh e hx hM => ?_) (fun hn => ?_)
  · have hxm : ¬ x = (-1 : Int32) := fun z => by
      rw [z, fl_m1] at hx; omega
    refine xw_value hN (fun s' t' hs' ht' hst' e2' e3' h0' h6' x' l' f' li' lv' w' dn' hh' e' hx' hM' => br_f hxm ?_) (fun hn => br_f hxm ?_)
    · rw [e2, nI_eq (by omega) (by omega)] at e2'
      rw [e3, nI_eq (by omega) (by omega)] at e3'
      subst e2' e3'
      refine br_t (Int32.toInt_inj.mp (fl_Mn_u (fl_Mc_Mn hN hs ht hM) (fl_Mc_Mn hN hs ht hM'))) ?_
      exact yw_agree (fun _ _ _ => ⟨rfl, rfl, hR⟩) (fun z => absurd ⟨⟨h0, h6⟩, ⟨h0', h6'⟩, ⟨s, t, hs, ht, hst, e2, e3⟩⟩ z)
    · refine br_f hxm ?_
      exact yw_agree (fun _ b c => absurd ⟨c, b.1, b.2⟩ hn) (fun _ => ⟨rfl, rfl, hR⟩)
  · refine xw_value hN (fun s' t' hs' ht' hst' e2' e3' h0' h6' x' l' f' li' lv' w' dn' hh' e' hx' hM' => br_t rfl ?_) (fun hn2 => br_t rfl ?_)
    · exact yw_agree (fun a _ c => absurd ⟨c, a.1, a.2⟩ hn) (fun _ => ⟨rfl, rfl, hR⟩)
    · exact yw_agree (fun a _ c => absurd ⟨c, a.1, a.2⟩ hn) (fun _ => ⟨rfl, rfl, hR⟩)
theorem fl_Stu_pos {pr : Int32} {st en rm : Nat → Int32} {B : Int} {s t : Nat} {m ev so ce cs : Int32} (hN : fl_Net pr st en rm) (hs : s < 8) (ht : t < 8) (hst : s ≠ t) (h : fl_Stu B (fl_Sj s t) (fl_sz pr st en rm 99) (fl_ct pr st en) 256 m.toInt ev so ce cs) : 0 ≤ m.toInt := by
  obtain ⟨⟨j, _, _, j3⟩, _⟩ := fl_Stu_Mn h (fl_side hs ht hst)
  have hb := fl_Cs_b (ext := 0) hN (show (0 : Int) ≤ 99 by decide) (fl_tb j)
  have j4 : fl_Cs pr st en rm 0 99 (fl_tb j) = m.toInt := j3
  omega
theorem i_vc_least {k : Nat} {u : SX} {v : SY} (I : i_Rel k u v) (hk : k + 5 ≤ 2560) (v1 : Int32) (v2 : Int32) : wpX_least (fun r u' => wpY_least (fun r' v' => r' = r ∧ i_Rel (k + 5) u' v') v v1 v2) u v1 v2 := by
  obtain ⟨u1, u2, u3, u4, u5, u6, u7, u8, u9, u10, u11, u12, u13, u14, u15, u16, u17⟩ := u
  obtain ⟨w1, w2, w3, w4, w5, w6, w7, w8, w9⟩ := v
  have I2 : fl_R u1 u7 u8 u9 w6 w7 w8 w9 := I.2
  obtain ⟨rfl, rfl, rfl, hT, hN, hH⟩ := I2
  have hR : fl_R u1 w7 w8 w9 w6 w7 w8 w9 := ⟨rfl, rfl, rfl, hT, hN, hH⟩
  unfold wpX_least
  refine xw_ends (fun h2 => br_f (by decide) ?_) (fun h2 => br_t rfl ?_)
  · obtain ⟨s, t, hs, ht, hst, rfl, rfl⟩ := h2
    refine xw_study (by omega) (by omega) hN (fun m ev so ce cs hS => ?_)
    unfold wpY_least
    refine yw_value hT hN (fun s' t' hs' ht' hst' e2 e3 _ m' ev' so' ce' cs' hS' => ?_) (fun hn => absurd ⟨⟨s, t, hs, ht, hst, rfl, rfl⟩, by decide, by decide⟩ hn)
    rw [nI_eq (by omega) (by omega)] at e2 e3
    subst e2 e3
    have hp := fl_Stu_pos hN hs ht hst hS'
    obtain ⟨_, q1, q2, q3, q4⟩ := fl_Stu_u hS' hS (fl_side hs ht hst)
    exact br_t (Int32.le_iff_toInt_le.mpr (by rw [fl_z0]; exact hp)) ⟨q1, rfl, hR⟩
  · unfold wpY_least
    exact yw_value hT hN (fun s' t' hs' ht' hst' e2 e3 he m ev so ce cs hS => absurd ⟨s', t', hs', ht', hst', e2, e3⟩ h2) (fun _ => br_f (by decide) ⟨rfl, rfl, hR⟩)
theorem i_vc_most {k : Nat} {u : SX} {v : SY} (I : i_Rel k u v) (hk : k + 5 ≤ 2560) (v1 : Int32) (v2 : Int32) : wpX_most (fun r u' => wpY_most (fun r' v' => r' = r ∧ i_Rel (k + 5) u' v') v v1 v2) u v1 v2 := by
  obtain ⟨u1, u2, u3, u4, u5, u6, u7, u8, u9, u10, u11, u12, u13, u14, u15, u16, u17⟩ := u
  obtain ⟨w1, w2, w3, w4, w5, w6, w7, w8, w9⟩ := v
  have I2 : fl_R u1 u7 u8 u9 w6 w7 w8 w9 := I.2
  obtain ⟨rfl, rfl, rfl, hT, hN, hH⟩ := I2
  have hR : fl_R u1 w7 w8 w9 w6 w7 w8 w9 := ⟨rfl, rfl, rfl, hT, hN, hH⟩
  unfold wpX_most
  refine xw_ends (fun h2 => br_f (by decide) ?_) (fun h2 => br_t rfl ?_)
  · obtain ⟨s, t, hs, ht, hst, rfl, rfl⟩ := h2
    refine xw_study (by omega) (by omega) hN (fun m ev so ce cs hS => ?_)
    unfold wpY_most
    refine yw_value hT hN (fun s' t' hs' ht' hst' e2 e3 _ m' ev' so' ce' cs' hS' => ?_) (fun hn => absurd ⟨⟨s, t, hs, ht, hst, rfl, rfl⟩, by decide, by decide⟩ hn)
    rw [nI_eq (by omega) (by omega)] at e2 e3
    subst e2 e3
    have hp := fl_Stu_pos hN hs ht hst hS'
    obtain ⟨_, q1, q2, q3, q4⟩ := fl_Stu_u hS' hS (fl_side hs ht hst)
    exact br_t (Int32.le_iff_toInt_le.mpr (by rw [fl_z0]; exact hp)) ⟨q2, rfl, hR⟩
  · unfold wpY_most
    exact yw_value hT hN (fun s' t' hs' ht' hst' e2 e3 he m ev so ce cs hS => absurd ⟨s', t', hs', ht', hst', e2, e3⟩ h2) (fun _ => br_f (by decide) ⟨rfl, rfl, hR⟩)
theorem i_vc_tight {k : Nat} {u : SX} {v : SY} (I : i_Rel k u v) (hk : k + 5 ≤ 2560) (v1 : Int32) (v2 : Int32) : wpX_tight (fun r u' => wpY_tight (fun r' v' => r' = r ∧ i_Rel (k + 5) u' v') v v1 v2) u v1 v2 := by
  obtain ⟨u1, u2, u3, u4, u5, u6, u7, u8, u9, u10, u11, u12, u13, u14, u15, u16, u17⟩ := u
  obtain ⟨w1, w2, w3, w4, w5, w6, w7, w8, w9⟩ := v
  have I2 : fl_R u1 u7 u8 u9 w6 w7 w8 w9 := I.2
  obtain ⟨rfl, rfl, rfl, hT, hN, hH⟩ := I2
  have hR : fl_R u1 w7 w8 w9 w6 w7 w8 w9 := ⟨rfl, rfl, rfl, hT, hN, hH⟩
  unfold wpX_tight
  refine xw_ends (fun h2 => br_f (by decide) ?_) (fun h2 => br_t rfl ?_)
  · obtain ⟨s, t, hs, ht, hst, rfl, rfl⟩ := h2
    refine xw_study (by omega) (by omega) hN (fun m ev so ce cs hS => ?_)
    unfold wpY_tight
    refine yw_value hT hN (fun s' t' hs' ht' hst' e2 e3 _ m' ev' so' ce' cs' hS' => ?_) (fun hn => absurd ⟨⟨s, t, hs, ht, hst, rfl, rfl⟩, by decide, by decide⟩ hn)
    rw [nI_eq (by omega) (by omega)] at e2 e3
    subst e2 e3
    have hp := fl_Stu_pos hN hs ht hst hS'
    obtain ⟨_, q1, q2, q3, q4⟩ := fl_Stu_u hS' hS (fl_side hs ht hst)
    exact br_t (Int32.le_iff_toInt_le.mpr (by rw [fl_z0]; exact hp)) ⟨q4, rfl, hR⟩
  · unfold wpY_tight
    exact yw_value hT hN (fun s' t' hs' ht' hst' e2 e3 he m ev so ce cs hS => absurd ⟨s', t', hs', ht', hst', e2, e3⟩ h2) (fun _ => br_f (by decide) ⟨rfl, rfl, hR⟩)
theorem i_vc_widening {k : Nat} {u : SX} {v : SY} (I : i_Rel k u v) (hk : k + 5 ≤ 2560) (v1 : Int32) (v2 : Int32) : wpX_widening (fun r u' => wpY_widening (fun r' v' => r' = r ∧ i_Rel (k + 5) u' v') v v1 v2) u v1 v2 := by
  obtain ⟨u1, u2, u3, u4, u5, u6, u7, u8, u9, u10, u11, u12, u13, u14, u15, u16, u17⟩ := u
  obtain ⟨w1, w2, w3, w4, w5, w6, w7, w8, w9⟩ := v
  have I2 : fl_R u1 u7 u8 u9 w6 w7 w8 w9 := I.2
  obtain ⟨rfl, rfl, rfl, hT, hN, hH⟩ := I2
  have hR : fl_R u1 w7 w8 w9 w6 w7 w8 w9 := ⟨rfl, rfl, rfl, hT, hN, hH⟩
  unfold wpX_widening
  refine xw_ends (fun h2 => br_f (by decide) ?_) (fun h2 => br_t rfl ?_)
  · obtain ⟨s, t, hs, ht, hst, rfl, rfl⟩ := h2
    refine xw_study (by omega) (by omega) hN (fun m ev so ce cs hS => ?_)
    unfold wpY_widening
    refine yw_value hT hN (fun s' t' hs' ht' hst' e2 e3 _ m' ev' so' ce' cs' hS' => ?_) (fun hn => absurd ⟨⟨s, t, hs, ht, hst, rfl, rfl⟩, by decide, by decide⟩ hn)
    rw [nI_eq (by omega) (by omega)] at e2 e3
    subst e2 e3
    have hp := fl_Stu_pos hN hs ht hst hS'
    obtain ⟨_, q1, q2, q3, q4⟩ := fl_Stu_u hS' hS (fl_side hs ht hst)
    exact br_t (Int32.le_iff_toInt_le.mpr (by rw [fl_z0]; exact hp)) ⟨q3, rfl, hR⟩
  · unfold wpY_widening
    exact yw_value hT hN (fun s' t' hs' ht' hst' e2 e3 he m ev so ce cs hS => absurd ⟨s', t', hs', ht', hst', e2, e3⟩ h2) (fun _ => br_f (by decide) ⟨rfl, rfl, hR⟩)
end
section
theorem i_vc_apart {k : Nat} {u : SX} {v : SY} (I : i_Rel k u v) (hk : k + 5 ≤ 2560) (v1 : Int32) (v2 : Int32) : wpX_apart (fun r u' => wpY_apart (fun r' v' => r' = r ∧ i_Rel (k + 5) u' v') v v1 v2) u v1 v2 := by
  obtain ⟨u1, u2, u3, u4, u5, u6, u7, u8, u9, u10, u11, u12, u13, u14, u15, u16, u17⟩ := u
  obtain ⟨w1, w2, w3, w4, w5, w6, w7, w8, w9⟩ := v
  have I2 : fl_R u1 u7 u8 u9 w6 w7 w8 w9 := I.2
  obtain ⟨rfl, rfl, rfl, hT, hN, hH⟩ := I2
  have hR : fl_R u1 w7 w8 w9 w6 w7 w8 w9 := ⟨rfl, rfl, rfl, hT, hN, hH⟩
  unfold wpX_apart
  refine xw_ends (fun h2 => br_f (by decide) ?_) (fun h2 => br_t rfl ?_)
  · obtain ⟨s, t, hs, ht, hst, rfl, rfl⟩ := h2
    refine xw_lay (ext := 0) (by omega) (by decide) hN (fun l hL => ?_)
    obtain ⟨_, b2⟩ := fl_La_B hN (by decide) hst hL
    refine xw_paths (by omega) (by omega) hst (fl_La_ok hL) b2 (fun x l2 f li lv w dn hx hM => ?_)
    have hM2 : fl_Mc (fl_Cs u1 w7 w8 w9 0 1) s t x.toInt := fl_Min_c hM hL.1
    unfold wpY_apart wpY_fewest
    refine yw_two (fun _ => br_f (by decide) (yw_search (by omega) (by omega) (by decide) hT hN (Or.inr ⟨by decide, rfl⟩) (fun m ev so ce cs hS => ⟨?_, rfl, hR⟩))) (fun z => absurd ⟨s, t, hs, ht, hst, rfl, rfl⟩ z)
    exact Int32.toInt_inj.mp (fl_Mn_u (fl_Stu_Mn hS (fl_side hs ht hst)) (fl_Mc_Mn hN hs ht hM2))
  · unfold wpY_apart wpY_fewest
    exact yw_two (fun z => absurd z h2) (fun _ => br_t rfl ⟨rfl, rfl, hR⟩)
theorem fl_Lp_B {pr : Int32} {st en rm : Nat → Int32} {s t : Nat} {most much : Int} {L : Nat → Int} (hN : fl_Net pr st en rm) (hm : 0 ≤ most) (ht : t < 8) (h : fl_Lp (fl_Cs pr st en rm 8 most) much L 8) :
    ∃ S, fl_Sd S (s + 8) t ∧ fl_cut L S ≤ 1980 := by
  refine ⟨fun x => decide (8 ≤ x), ⟨by simp, by simp; exact ht⟩, ?_⟩
  rw [h.1]
  have e : fl_ps much (fun x => decide (8 ≤ x)) 8 = 0 := fl_zero (fun p hp => by
    show (if (decide (8 ≤ p) && !decide (8 ≤ p + 8)) = true then much else 0) = 0
    rw [if_neg]; simp)
  rw [e]
  have := (fl_Cs_b (ext := 8) hN hm (fun x => decide (8 ≤ x))).2
  omega
theorem fl_La_Lp {pr : Int32} {st en rm : Nat → Int32} {most much : Int} {L : Nat → Int} (h : fl_La (bt pr) (fl_st st) (fl_st en) (fl_v rm) 8 most L 20) : fl_Lp (fl_Cs pr st en rm 8 most) much L 0 := by
  refine ⟨fun S => ?_, fun i hi => ?_, fun p _ hp => h.2.2 _ (by omega) (by omega)⟩
  · rw [h.1 S]
    show fl_Cs pr st en rm 8 most S = fl_Cs pr st en rm 8 most S + 0
    omega
  · have := h.2.1 i hi
    omega
theorem fl_add8 (s : Nat) : nI s + 8 = nI (s + 8) := nI_add s 8
theorem i_vc_separate {k : Nat} {u : SX} {v : SY} (I : i_Rel k u v) (hk : k + 5 ≤ 2560) (v1 : Int32) (v2 : Int32) : wpX_separate (fun r u' => wpY_separate (fun r' => r' = r ∧ i_Rel (k + 5) u' v) v v1 v2) u v1 v2 := by
  obtain ⟨u1, u2, u3, u4, u5, u6, u7, u8, u9, u10, u11, u12, u13, u14, u15, u16, u17⟩ := u
  obtain ⟨w1, w2, w3, w4, w5, w6, w7, w8, w9⟩ := v
  have I2 : fl_R u1 u7 u8 u9 w6 w7 w8 w9 := I.2
  obtain ⟨rfl, rfl, rfl, hT, hN, hH⟩ := I2
  have hR : fl_R u1 w7 w8 w9 w6 w7 w8 w9 := ⟨rfl, rfl, rfl, hT, hN, hH⟩
  unfold wpX_separate
  refine xw_ends (fun h2 => br_f (by decide) ?_) (fun h2 => br_t rfl ?_)
  · obtain ⟨s, t, hs, ht, hst, rfl, rfl⟩ := h2
    refine xw_lay (ext := 8) (by omega) (by decide) hN (fun l hL => ?_)
    refine xw_layP (by decide) (fl_La_Lp hL) (fun l2 hP => ?_)
    rw [fl_add8]
    refine xw_paths (by omega) (by omega) (by omega) (fl_Lp_ok hP) (fl_Lp_B hN (by decide) ht hP) (fun x l3 f li lv w dn hx hM => ?_)
    have hM2 := fl_Min_c hM hP.1
    unfold wpY_separate
    refine yw_two (fun _ => br_f (by decide) (yw_parted hs ht (by decide) (by decide) hT hN (Or.inr ⟨by decide, rfl⟩) (fun y hy => ⟨?_, rfl, hR⟩))) (fun z => absurd ⟨s, t, hs, ht, hst, rfl, rfl⟩ z)
    exact Int32.toInt_inj.mp (fl_part hN hs ht hst (by decide) (by decide) hM2 hy).symm
  · unfold wpY_separate
    exact yw_two (fun z => absurd z h2) (fun _ => br_t rfl ⟨rfl, rfl, hR⟩)
theorem i_vc_weakest {k : Nat} {u : SX} {v : SY} (I : i_Rel k u v) (hk : k + 5 ≤ 2560) : wpX_weakest (fun r => wpY_weakest (fun r' v' => r' = r ∧ i_Rel (k + 5) u v') v) u := by
  obtain ⟨u1, u2, u3, u4, u5, u6, u7, u8, u9, u10, u11, u12, u13, u14, u15, u16, u17⟩ := u
  obtain ⟨w1, w2, w3, w4, w5, w6, w7, w8, w9⟩ := v
  have I2 : fl_R u1 u7 u8 u9 w6 w7 w8 w9 := I.2
  obtain ⟨rfl, rfl, rfl, hT, hN, hH⟩ := I2
  have hR : fl_R u1 w7 w8 w9 w6 w7 w8 w9 := ⟨rfl, rfl, rfl, hT, hN, hH⟩
  refine xw_weak hN (fun x hx => yw_weak hT hN (fun y m ev so cs ce hy => ⟨?_, rfl, hR⟩))
  have hb := fl_Cs_b (ext := 0) hN (show (0 : Int) ≤ 99 by decide) (fl_tb 1)
  have hb2 : fl_sz u1 w7 w8 w9 99 1 ≤ 1980 := hb.2
  exact Int32.toInt_inj.mp (fl_Le_u (fl_Wk_end hy) hx ⟨1, by decide, by decide, by omega⟩ ⟨1, by decide, by decide, hb2⟩)
theorem i_vc_throttled {k : Nat} {u : SX} {v : SY} (I : i_Rel k u v) (hk : k + 5 ≤ 2560) (v1 : Int32) (v2 : Int32) (v3 : Int32) : wpX_throttled (fun r u' => wpY_throttled (fun r' => r' = r ∧ i_Rel (k + 5) u' v) v v1 v2 v3) u v1 v2 v3 := by
  obtain ⟨u1, u2, u3, u4, u5, u6, u7, u8, u9, u10, u11, u12, u13, u14, u15, u16, u17⟩ := u
  obtain ⟨w1, w2, w3, w4, w5, w6, w7, w8, w9⟩ := v
  have I2 : fl_R u1 u7 u8 u9 w6 w7 w8 w9 := I.2
  obtain ⟨rfl, rfl, rfl, hT, hN, hH⟩ := I2
  have hR : fl_R u1 w7 w8 w9 w6 w7 w8 w9 := ⟨rfl, rfl, rfl, hT, hN, hH⟩
  unfold wpX_throttled
  refine xw_ends (fun h2 => br_f (by decide) (xw_room (fun h3 => br_f (by decide) ?_) (fun h3 => br_t rfl ?_))) (fun h2 => br_t rfl ?_)
  · obtain ⟨s, t, hs, ht, hst, rfl, rfl⟩ := h2
    refine xw_lay (ext := 8) (by omega) (by decide) hN (fun l hL => ?_)
    refine xw_layP h3 (fl_La_Lp hL) (fun l2 hP => ?_)
    rw [fl_add8]
    refine xw_layers (by omega) (by omega) (by omega) (fl_Lp_ok hP) (fl_Lp_B hN (by decide) ht hP) (fun x l3 f li lv hx hM => ?_)
    have hM2 := fl_Min_c hM hP.1
    unfold wpY_throttled
    refine yw_two (fun _ => br_f (by decide) (yw_amount (fun _ => br_f (by decide) (yw_parted hs ht (by decide) h3 hT hN (Or.inl ⟨rfl, rfl⟩) (fun y hy => ⟨?_, rfl, hR⟩))) (fun z => absurd h3 z))) (fun z => absurd ⟨s, t, hs, ht, hst, rfl, rfl⟩ z)
    exact Int32.toInt_inj.mp (fl_part hN hs ht hst (by decide) h3 hM2 hy).symm
  · unfold wpY_throttled
    exact yw_two (fun _ => br_f (by decide) (yw_amount (fun z => absurd z h3) (fun _ => br_t rfl ⟨rfl, rfl, hR⟩))) (fun z => absurd h2 z)
  · unfold wpY_throttled
    exact yw_two (fun z => absurd z h2) (fun _ => br_t rfl ⟨rfl, rfl, hR⟩)
theorem i_vc_fewest {k : Nat} {u : SX} {v : SY} (I : i_Rel k u v) (hk : k + 5 ≤ 2560) (v1 : Int32) (v2 : Int32) : wpX_fewest (fun r => wpY_fewest (fun r' v' => r' = r ∧ i_Rel (k + 5) u v') v v1 v2) u v1 v2 := by
  obtain ⟨u1, u2, u3, u4, u5, u6, u7, u8, u9, u10, u11, u12, u13, u14, u15, u16, u17⟩ := u
  obtain ⟨w1, w2, w3, w4, w5, w6, w7, w8, w9⟩ := v
  have I2 : fl_R u1 u7 u8 u9 w6 w7 w8 w9 := I.2
  obtain ⟨rfl, rfl, rfl, hT, hN, hH⟩ := I2
  have hR : fl_R u1 w7 w8 w9 w6 w7 w8 w9 := ⟨rfl, rfl, rfl, hT, hN, hH⟩
  refine xw_few hN (fun s t hs ht hst e1 e2 x hx => ?_) (fun h2 => ?_)
  · subst e1 e2
    unfold wpY_fewest
    refine yw_two (fun _ => br_f (by decide) (yw_search (by omega) (by omega) (by decide) hT hN (Or.inr ⟨by decide, rfl⟩) (fun m ev so ce cs hS => ⟨?_, rfl, hR⟩))) (fun z => absurd ⟨s, t, hs, ht, hst, rfl, rfl⟩ z)
    have hsd := fl_side hs ht hst
    obtain ⟨j, j1, j2⟩ := hsd
    exact Int32.toInt_inj.mp (fl_Mn_u (fl_Stu_Mn hS ⟨j, j1, j2⟩) (fl_Le_Mn hx ⟨j, j1, j2, fl_Cg_20⟩))
  · unfold wpY_fewest
    exact yw_two (fun z => absurd z h2) (fun _ => br_t rfl ⟨rfl, rfl, hR⟩)
end
