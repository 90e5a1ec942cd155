theorem pk_us {f : Nat → Int32} {k : Nat} {x : Int32} : upd f k x k = x := if_pos rfl
theorem pk_un {f : Nat → Int32} {k j : Nat} {x : Int32} (h : j ≠ k) : upd f k x j = f j := if_neg h
theorem pk_sub {a b : Nat} (h : b ≤ a) : nI a - nI b = nI (a - b) := by
  obtain ⟨c, rfl⟩ : ∃ c, a = c + b := ⟨a - b, by omega⟩
  rw [← nI_add, Int32.add_sub_cancel, Nat.add_sub_cancel]
theorem pk_m1 (n : Nat) : nI (n + 1) + (-1) = nI n := by
  rw [← nI_1, Int32.add_assoc, show (1 : Int32) + (-1) = 0 from rfl, Int32.add_zero]
theorem pk_mul (a b : Nat) : nI a * nI b = nI (a * b) := (Int32.ofNat_mul a b).symm
theorem pk_div {a d : Nat} (ha : a < 2 ^ 31) (h0 : 0 < d) (hd : d < 2 ^ 31) : nI a / nI d = nI (a / d) := by
  apply Int32.toInt_inj.mp
  rw [lg_idiv_nonneg (by rw [nI_toInt ha]; omega) (by rw [nI_toInt hd]; omega), nI_toInt ha, nI_toInt hd, nI_toInt (Nat.lt_of_le_of_lt (Nat.div_le_self a d) ha)]
  first | rfl | exact (Int.natCast_ediv _ _).symm
theorem pk_rem {a d : Nat} (ha : a < 2 ^ 31) (h0 : 0 < d) (hd : d < 2 ^ 31) : nI a - nI a / nI d * nI d = nI (a % d) := by
  rw [pk_div ha h0 hd, pk_mul, pk_sub (Nat.div_mul_le_self a d)]
  exact congrArg nI (by have := Nat.div_add_mod' a d; omega)
theorem pk_ix (x : Int32) {n : Nat} (hn : n < 2 ^ 31) : x < 0 ∨ nI n ≤ x ∨ ∃ j : Nat, j < n ∧ x = nI j := by
  by_cases h : x < 0
  · exact Or.inl h
  · obtain ⟨j, hj, rfl⟩ := nI_of h
    by_cases h2 : j < n
    · exact Or.inr (Or.inr ⟨j, h2, rfl⟩)
    · exact Or.inr (Or.inl (nI_le (by omega) hj))
theorem pk_le {x y : Int32} {A B : Prop} (a b : Nat) (f : a ≤ b → A) (g : b < a → B) (hx : x = nI a := by rfl) (hy : y = nI b := by rfl) (ha : a < 2 ^ 31 := by omega) (hb : b < 2 ^ 31 := by omega) : (x ≤ y → A) ∧ (¬ x ≤ y → B) := by
  subst hx hy
  rw [nI_leI ha hb]
  exact ⟨f, fun z => g (by omega)⟩
theorem pk_lt {x y : Int32} {A B : Prop} (a b : Nat) (f : a < b → A) (g : b ≤ a → B) (hx : x = nI a := by rfl) (hy : y = nI b := by rfl) (ha : a < 2 ^ 31 := by omega) (hb : b < 2 ^ 31 := by omega) : (x < y → A) ∧ (¬ x < y → B) := by
  subst hx hy
  rw [nI_ltI ha hb]
  exact ⟨f, fun z => g (by omega)⟩
theorem pk_eq {x y : Int32} {A B : Prop} (a b : Nat) (f : a = b → A) (g : a ≠ b → B) (hx : x = nI a := by rfl) (hy : y = nI b := by rfl) (ha : a < 2 ^ 31 := by omega) (hb : b < 2 ^ 31 := by omega) : (x = y → A) ∧ (¬ x = y → B) := by
  subst hx hy
  rw [nI_eq ha hb]
  exact ⟨f, g⟩
theorem pk_in {x : Int32} (n N : Nat) (h : n < N) (hx : x = nI n := by rfl) (hN : N < 2 ^ 31 := by omega) : vp_in x N := by
  subst hx
  exact vp_in_nI h hN
theorem pk_cl {x : Int32} (n : Nat) (hx : x = nI n := by rfl) (h : n < 2 ^ 31 := by omega) : x.toNatClampNeg = n := by
  subst hx
  exact nI_clamp h
theorem pk_loop {σ : Type} (W : Nat → Nat → σ → Prop) (I : Nat → σ → Prop) (e i0 : Nat) (s : σ) (hi : i0 ≤ e) (h0 : I i0 s) (hx : ∀ n s, I e s → W (n + 1) e s)
    (hs : ∀ n i s, i < e → I i s → (∀ s', I (i + 1) s' → W n (i + 1) s') → W (n + 1) i s) : ∃ n, W n i0 s :=
  ⟨e + 1, loop_i W I e hx hs (e + 1) i0 s hi (by omega) h0⟩
theorem co_dec {N : Nat} {P : Nat → Prop} [DecidablePred P] (h : (List.range N).all (fun i => decide (P i)) = true) {i : Nat} (hi : i < N) : P i := by
  have := List.all_eq_true.mp h i (List.mem_range.mpr hi)
  exact of_decide_eq_true this
def ps_st (i : Nat) : Nat := if i % 9 % 8 = 0 ∧ i / 9 % 8 = 0 then 8 else if i % 9 % 4 = 0 ∧ i / 9 % 4 = 0 then 4 else if i % 9 % 2 = 0 ∧ i / 9 % 2 = 0 then 2 else 1
def ps_bf (s p j : Nat) : Nat := if s < ps_st j then 1 else if ps_st j = s then (if j < p then 1 else 0) else 0
def ps_c (s p : Nat) : Nat → Nat
  | 0 => 0
  | n + 1 => ps_c s p n + ps_bf s p n
def ps_pl (i : Nat) : Nat := ps_c (ps_st i) i 81
theorem ps_bf_le (s p j : Nat) : ps_bf s p j ≤ 1 := by
  unfold ps_bf
  repeat' split
  all_goals omega
theorem ps_c_le (s p : Nat) : ∀ n, ps_c s p n ≤ n := by
  intro n
  induction n with
  | zero => exact Nat.le_refl 0
  | succ n ih =>
    have h := ps_bf_le s p n
    show ps_c s p n + ps_bf s p n ≤ n + 1
    omega
theorem ps_pl_le (i : Nat) : ps_pl i ≤ 81 := ps_c_le _ _ 81
theorem ps_next (s p : Nat) : ∀ n, ps_c s (p + 1) n = ps_c s p n + (if p < n ∧ ps_st p = s then 1 else 0) := by
  intro n
  induction n with
  | zero => rw [if_neg (by omega)]; rfl
  | succ n ih =>
    show ps_c s (p + 1) n + ps_bf s (p + 1) n = ps_c s p n + ps_bf s p n + (if p < n + 1 ∧ ps_st p = s then 1 else 0)
    rw [ih]
    by_cases e : n = p
    · subst e
      unfold ps_bf
      repeat' split
      all_goals omega
    · unfold ps_bf
      repeat' split
      all_goals omega
theorem ps_st_in (j : Nat) : ps_st j = 8 ∨ ps_st j = 4 ∨ ps_st j = 2 ∨ ps_st j = 1 := by
  unfold ps_st
  repeat' split
  all_goals omega
theorem ps_c80 : ps_c 8 0 81 = 0 := by decide +kernel
theorem ps_c84 : ps_c 8 81 81 = ps_c 4 0 81 := by decide +kernel
theorem ps_c42 : ps_c 4 81 81 = ps_c 2 0 81 := by decide +kernel
theorem ps_c21 : ps_c 2 81 81 = ps_c 1 0 81 := by decide +kernel
/-- the ranks are right at all places that come before (s, p) -/
def ps_RK (s p : Nat) (a : Nat → Int32) : Prop := ∀ j, j < 81 → (s < ps_st j ∨ (ps_st j = s ∧ j < p)) → a j = nI (ps_pl j)
theorem ps_RK0 (a : Nat → Int32) : ps_RK 8 0 a := by
  intro j hj h
  have := ps_st_in j
  omega
theorem ps_RKn {s t : Nat} {a : Nat → Int32} (hs : (s = 8 ∧ t = 4) ∨ (s = 4 ∧ t = 2) ∨ (s = 2 ∧ t = 1)) (h : ps_RK s 81 a) : ps_RK t 0 a := by
  intro j hj hh
  have := ps_st_in j
  exact h j hj (by omega)
theorem ps_RKe {a : Nat → Int32} (h : ps_RK 1 81 a) : ∀ j, j < 81 → a j = nI (ps_pl j) := by
  intro j hj
  have := ps_st_in j
  exact h j hj (by omega)
theorem ps_RKs {s p : Nat} {a : Nat → Int32} (e : ps_st p = s) (h : ps_RK s p a) : ps_RK s (p + 1) (upd a p (nI (ps_c s p 81))) := by
  intro j hj hh
  by_cases q : j = p
  · subst q
    rw [pk_us, ← e]
    rfl
  · rw [pk_un q]
    exact h j hj (by omega)
theorem ps_RKk {s p : Nat} {a : Nat → Int32} (e : ps_st p ≠ s) (h : ps_RK s p a) : ps_RK s (p + 1) a := by
  intro j hj hh
  by_cases q : j = p
  · subst q
    exact h j hj (by omega)
  · exact h j hj (by omega)
