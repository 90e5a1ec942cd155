section
theorem pk_us {f : Nat → Int32} {k : Nat} {x : Int32} : upd f k x k = x := if_pos rfl
theorem pk_un {f : Nat → Int32} {k j : Nat} {x : Int32} (h : j ≠ k) : upd f k x j = f j := if_neg h
theorem pk_sub {a b : Nat} (h : b ≤ a) : nI a - nI b = nI (a - b) := by
  obtain ⟨c, rfl⟩ : ∃ c, a = c + b := ⟨a - b, by omega⟩
  rw [← nI_add, Int32.add_sub_cancel, Nat.add_sub_cancel]
theorem pk_m1 (n : Nat) : nI (n + 1) + (-1) = nI n := by
  rw [← nI_1, Int32.add_assoc, show (1 : Int32) + (-1) = 0 from rfl, Int32.add_zero]
theorem pk_mul (a b : Nat) : nI a * nI b = nI (a * b) := (Int32.ofNat_mul a b).symm
theorem pk_div {a d : Nat} (ha : a < 2 ^ 31) (h0 : 0 < d) (hd : d < 2 ^ 31) : nI a / nI d = nI (a / d) := by
  apply Int32.toInt_inj.mp
  rw [lg_idiv_nonneg (by rw [nI_toInt ha]; omega) (by rw [nI_toInt hd]; omega), nI_toInt ha, nI_toInt hd, nI_toInt (Nat.lt_of_le_of_lt (Nat.div_le_self a d) ha)]
  first | rfl | exact (Int.natCast_ediv _ _).symm
theorem pk_rem {a d : Nat} (ha : a < 2 ^ 31) (h0 : 0 < d) (hd : d < 2 ^ 31) : nI a - nI a / nI d * nI d = nI (a % d) := by
  rw [pk_div ha h0 hd, pk_mul, pk_sub (Nat.div_mul_le_self a d)]
  exact congrArg nI (by have := Nat.div_add_mod' a d; omega)
theorem pk_ix (x : Int32) {n : Nat} (hn : n < 2 ^ 31) : x < 0 ∨ nI n ≤ x ∨ ∃ j : Nat, j < n ∧ x = nI j := by
  by_cases h : x < 0
  · exact Or.inl h
  · obtain ⟨j, hj, rfl⟩ := nI_of h
    by_cases h2 : j < n
    · exact Or.inr (Or.inr ⟨j, h2, rfl⟩)
    · exact Or.inr (Or.inl (nI_le (by omega) hj))
theorem pk_le {x y : Int32} {A B : Prop} (a b : Nat) (f : a ≤ b → A) (g : b < a → B) (hx : x = nI a := by rfl) (hy : y = nI b := by rfl) (ha : a < 2 ^ 31 := by omega) (hb : b < 2 ^ 31 := by omega) : (x ≤ y → A) ∧ (¬ x ≤ y → B) := by
  subst hx hy
  rw [nI_leI ha hb]
  exact ⟨f, fun z => g (by omega)⟩
theorem pk_lt {x y : Int32} {A B : Prop} (a b : Nat) (f : a < b → A) (g : b ≤ a → B) (hx : x = nI a := by rfl) (hy : y = nI b := by rfl) (ha : a < 2 ^ 31 := by omega) (hb : b < 2 ^ 31 := by omega) : (x < y → A) ∧ (¬ x < y → B) := by
  subst hx hy
  rw [nI_ltI ha hb]
  exact ⟨f, fun z => g (by omega)⟩
theorem pk_eq {x y : Int32} {A B : Prop} (a b : Nat) (f : a = b → A) (g : a ≠ b → B) (hx : x = nI a := by rfl) (hy : y = nI b := by rfl) (ha : a < 2 ^ 31 := by omega) (hb : b < 2 ^ 31 := by omega) : (x = y → A) ∧ (¬ x = y → B) := by
  subst hx hy
  rw [nI_eq ha hb]
  exact ⟨f, g⟩
theorem pk_in {x : Int32} (n N : Nat) (h : n < N) (hx : x = nI n := by rfl) (hN : N < 2 ^ 31 := by omega) : vp_in x N := by
  subst hx
  exact vp_in_nI h hN
theorem pk_cl {x : Int32} (n : Nat) (hx : x = nI n := by rfl) (h : n < 2 ^ 31 := by omega) : x.toNatClampNeg = n := by
  subst hx
  exact nI_clamp h
theorem pk_loop {σ : Type} (W : Nat → Nat → σ → Prop) (I : Nat → σ → Prop) (e i0 : Nat) (s : σ) (hi : i0 ≤ e) (h0 : I i0 s) (hx : ∀ n s, I e s → W (n + 1) e s)
    (hs : ∀ n i s, i < e → I i s → (∀ s', I (i + 1) s' → W n (i + 1) s') → W (n + 1) i s) : ∃ n, W n i0 s :=
  ⟨e + 1, loop_i W I e hx hs (e + 1) i0 s hi (by omega) h0⟩
theorem co_dec {N : Nat} {P : Nat → Prop} [DecidablePred P] (h : (List.range N).all (fun i => decide (P i)) = true) {i : Nat} (hi : i < N) : P i := by
  have := List.all_eq_true.mp h i (List.mem_range.mpr hi)
  exact of_decide_eq_true this
def ps_st (i : Nat) : Nat := if i % 9 % 8 = 0 ∧ i / 9 % 8 = 0 then 8 else if i % 9 % 4 = 0 ∧ i / 9 % 4 = 0 then 4 else if i % 9 % 2 = 0 ∧ i / 9 % 2 = 0 then 2 else 1
def ps_bf (s p j : Nat) : Nat := if s < ps_st j then 1 else if ps_st j = s then (if j < p then 1 else 0) else 0
def ps_c (s p : Nat) : Nat → Nat
  | 0 => 0
  | n + 1 => ps_c s p n + ps_bf s p n
def ps_pl (i : Nat) : Nat := ps_c (ps_st i) i 81
theorem ps_bf_le (s p j : Nat) : ps_bf s p j ≤ 1 := by
  unfold ps_bf
  repeat' split
  all_goals omega
theorem ps_c_le (s p : Nat) : ∀ n, ps_c s p n ≤ n := by
  intro n
  induction n with
  | zero => exact Nat.le_refl 0
  | succ n ih =>
    have h := ps_bf_le s p n
    show ps_c s p n + ps_bf s p n ≤ n + 1
    omega
theorem ps_pl_le (i : Nat) : ps_pl i ≤ 81 := ps_c_le _ _ 81
theorem ps_next (s p : Nat) : ∀ n, ps_c s (p + 1) n = ps_c s p n + (if p < n ∧ ps_st p = s then 1 else 0) := by
  intro n
  induction n with
  | zero => rw [if_neg (by omega)]; rfl
  | succ n ih =>
    show ps_c s (p + 1) n + ps_bf s (p + 1) n = ps_c s p n + ps_bf s p n + (if p < n + 1 ∧ ps_st p = s then 1 else 0)
    rw [ih]
    by_cases e : n = p
    · subst e
      unfold ps_bf
      repeat' split
      all_goals omega
    · unfold ps_bf
      repeat' split
      all_goals omega
theorem ps_st_in (j : Nat) : ps_st j = 8 ∨ ps_st j = 4 ∨ ps_st j = 2 ∨ ps_st j = 1 := by
  unfold ps_st
  repeat' split
  all_goals omega
theorem ps_c80 : ps_c 8 0 81 = 0 := by decide +kernel
theorem ps_c84 : ps_c 8 81 81 = ps_c 4 0 81 := by decide +kernel
theorem ps_c42 : ps_c 4 81 81 = ps_c 2 0 81 := by decide +kernel
theorem ps_c21 : ps_c 2 81 81 = ps_c 1 0 81 := by decide +kernel
/-- the ranks are right at all places that come before (s, p) -/
def ps_RK (s p : Nat) (a : Nat → Int32) : Prop := ∀ j, j < 81 → (s < ps_st j ∨ (ps_st j = s ∧ j < p)) → a j = nI (ps_pl j)
theorem ps_RK0 (a : Nat → Int32) : ps_RK 8 0 a := by
  intro j hj h
  have := ps_st_in j
  omega
theorem ps_RKn {s t : Nat} {a : Nat → Int32} (hs : (s = 8 ∧ t = 4) ∨ (s = 4 ∧ t = 2) ∨ (s = 2 ∧ t = 1)) (h : ps_RK s 81 a) : ps_RK t 0 a := by
  intro j hj hh
  have := ps_st_in j
  exact h j hj (by omega)
theorem ps_RKe {a : Nat → Int32} (h : ps_RK 1 81 a) : ∀ j, j < 81 → a j = nI (ps_pl j) := by
  intro j hj
  have := ps_st_in j
  exact h j hj (by omega)
theorem ps_RKs {s p : Nat} {a : Nat → Int32} (e : ps_st p = s) (h : ps_RK s p a) : ps_RK s (p + 1) (upd a p (nI (ps_c s p 81))) := by
  intro j hj hh
  by_cases q : j = p
  · subst q
    rw [pk_us, ← e]
    rfl
  · rw [pk_un q]
    exact h j hj (by omega)
theorem ps_RKk {s p : Nat} {a : Nat → Int32} (e : ps_st p ≠ s) (h : ps_RK s p a) : ps_RK s (p + 1) a := by
  intro j hj hh
  by_cases q : j = p
  · subst q
    exact h j hj (by omega)
  · exact h j hj (by omega)
end
section
theorem pz_ix (j i : Nat) : nI j * 9 + nI i = nI (j * 9 + i) := by
  rw [show (9 : Int32) = nI 9 from rfl, pk_mul, nI_add]
theorem pz_iy (j i : Nat) : 9 * nI j + nI i = nI (j * 9 + i) := by
  rw [show (9 : Int32) = nI 9 from rfl, pk_mul, nI_add, Nat.mul_comm]
theorem pz_br {c d A B : Prop} (e : c ↔ d) (f : d → A) (g : ¬ d → B) : (c → A) ∧ (¬ c → B) := ⟨fun h => f (e.mp h), fun h => g (fun q => h (e.mpr q))⟩
theorem pz_cs {s p : Nat} (hp : p < 81) (e : ps_st p = s) : ps_c s (p + 1) 81 = ps_c s p 81 + 1 := by
  rw [ps_next, if_pos ⟨hp, e⟩]
theorem pz_ck {s p : Nat} (e : ps_st p ≠ s) : ps_c s (p + 1) 81 = ps_c s p 81 := by
  rw [ps_next, if_neg (fun q => e q.2)]
  rfl
def px_so (b : Int32) : Int32 := if b - b / 8 * 8 = 0 then 8 else if b - b / 4 * 4 = 0 then 4 else if b - b / 2 * 2 = 0 then 2 else 1
theorem px_so_v : ∀ y, y < 9 → ∀ x, x < 9 → px_so (nI x ||| nI y) = nI (ps_st (y * 9 + x)) := by decide +kernel
theorem px_stepOf {post : Int32 → Prop} {p0 p1 v : Int32} (e : px_so (p0 ||| p1) = v) (h : post v) : wpX_stepOf post p0 p1 := by
  subst e
  intro b eb
  rw [← eb] at h
  clear eb
  refine ⟨by decide, ?_⟩
  by_cases h8 : b - b / 8 * 8 = 0
  · rw [px_so, if_pos h8] at h
    exact br_t h8 h
  · refine br_f h8 ⟨by decide, ?_⟩
    by_cases h4 : b - b / 4 * 4 = 0
    · rw [px_so, if_neg h8, if_pos h4] at h
      exact br_t h4 h
    · refine br_f h4 ⟨by decide, ?_⟩
      by_cases h2 : b - b / 2 * 2 = 0
      · rw [px_so, if_neg h8, if_neg h4, if_pos h2] at h
        exact br_t h2 h
      · rw [px_so, if_neg h8, if_neg h4, if_neg h2] at h
        exact br_f h2 h
theorem px_15 {post : Int32 → SX → Prop} {J : Int32 → Int32 → (Nat → Int32) → (Nat → Int32) → (Nat → Int32) → Prop} {s y : Nat} {fh fr : Int32} {dr se : Nat → Int32} (hs : s ≤ 8) (hy : y < 9)
    (hJ : ∀ a', ps_RK s (y * 9 + 9) a' → J (nI (ps_c s (y * 9 + 9) 81)) (nI (y + 1)) dr se a') :
    ∀ d x a, x + d = 9 → ps_RK s (y * 9 + x) a → wX_rankPixelsOfStep_15 post J (nI s) (nI y) fh fr (d + 1) (nI (ps_c s (y * 9 + x) 81)) (nI x) dr se a := by
  intro d
  induction d with
  | zero =>
    intro x a hx ha
    obtain rfl : x = 9 := by omega
    refine br_t (nI_le (a := 9) (b := 9) (by omega) (by decide)) ?_
    exact nm_r (nI_1 y) (hJ a ha)
  | succ d ih =>
    intro x a hx ha
    refine br_f (nI_ge (b := 9) (by omega) (by decide)) ?_
    refine px_stepOf (px_so_v y hy x (by omega)) ?_
    have hst := ps_st_in (y * 9 + x)
    have hp : y * 9 + x < 81 := by omega
    refine pk_eq (ps_st (y * 9 + x)) s (fun e => ?_) (fun e => ?_)
    · rw [pz_ix, nI_clamp (by omega)]
      refine ⟨vp_in_nI hp (by decide), ?_⟩
      refine nm_e (nm_r (e' := nI (ps_c s (y * 9 + (x + 1)) 81)) ?_ (nm_r (nI_1 x) ?_))
      · exact (nI_1 _).trans (congrArg nI (pz_cs hp e).symm)
      · exact ih (x + 1) _ (by omega) (ps_RKs e ha)
    · have h1 := ih (x + 1) a (by omega) (ps_RKk e ha)
      rw [show ps_c s (y * 9 + (x + 1)) 81 = ps_c s (y * 9 + x) 81 from pz_ck e] at h1
      exact nm_r (nI_1 x) h1
theorem px_5 {post : Int32 → SX → Prop} {s : Nat} {fh fr : Int32} {dr se : Nat → Int32} (hs : s ≤ 8)
    (hp : ∀ a', ps_RK s 81 a' → post (nI (ps_c s 81 81)) (fh, fr, dr, se, a')) :
    ∀ d y a, y + d = 9 → ps_RK s (y * 9) a → wX_rankPixelsOfStep_5 post (nI s) fh fr (d + 1) (nI (ps_c s (y * 9) 81)) (nI y) dr se a := by
  intro d
  induction d with
  | zero =>
    intro y a hy ha
    obtain rfl : y = 9 := by omega
    exact br_t (nI_le (a := 9) (b := 9) (by omega) (by decide)) (hp a ha)
  | succ d ih =>
    intro y a hy ha
    refine br_f (nI_ge (b := 9) (by omega) (by decide)) ⟨9 + 1, ?_⟩
    refine px_15 hs (by omega) (fun a' h' => ?_) 9 0 a rfl ha
    have e : y * 9 + 9 = (y + 1) * 9 := by omega
    rw [e] at h' ⊢
    exact ih (y + 1) a' (by omega) h'
theorem px_rps {post : Int32 → SX → Prop} {s : Nat} {fh fr : Int32} {dr se a : Nat → Int32} (hs : s ≤ 8)
    (hp : ∀ a', ps_RK s 81 a' → post (nI (ps_c s 81 81)) (fh, fr, dr, se, a')) (ha : ps_RK s 0 a) : wpX_rankPixelsOfStep post (fh, fr, dr, se, a) (nI s) (nI (ps_c s 0 81)) := ⟨9 + 1, px_5 hs hp 9 0 a rfl ha⟩
theorem px_lv {post : SX → Prop} {n L s : Nat} {fh fr : Int32} {dr se a : Nat → Int32} (hL : L < 4) (e : (1 : Int32) <<< (nI L &&& 31) = nI s) (hs : s ≤ 8) (ha : ps_RK s 0 a)
    (hn : ∀ a', ps_RK s 81 a' → wX_init_42 post n (nI (ps_c s 81 81)) (nI L + (-1)) fh fr dr se a') : wX_init_42 post (n + 1) (nI (ps_c s 0 81)) (nI L) fh fr dr se a := by
  refine br_f (nI_pos (by omega)) ?_
  rw [e]
  refine px_rps hs (fun a' h' => ?_) ha
  exact nm_e (hn a' h')
theorem px_d3 : nI 3 + (-1) = nI 2 := by decide +kernel
theorem px_d2 : nI 2 + (-1) = nI 1 := by decide +kernel
theorem px_d1 : nI 1 + (-1) = nI 0 := by decide +kernel
theorem px_d0 : nI 0 + (-1) < 0 := by decide +kernel
theorem px_init {post : SX → Prop} (hp : ∀ a : Nat → Int32, (∀ j, j < 81 → a j = nI (ps_pl j)) → post (0, 0, (fun _ => 0), (fun _ => 0), a)) : wpX_init post := by
  refine ⟨4 + 1, ?_⟩
  have h : wX_init_42 post (4 + 1) (nI (ps_c 8 0 81)) (nI 3) 0 0 (fun _ => 0) (fun _ => 0) (fun _ => 0) := by
    refine px_lv (by decide) (by decide +kernel) (by decide) (ps_RK0 _) (fun a3 h3 => ?_)
    rw [ps_c84, px_d3]
    refine px_lv (n := 3) (by decide) (by decide +kernel) (by decide) (ps_RKn (Or.inl ⟨rfl, rfl⟩) h3) (fun a2 h2 => ?_)
    rw [ps_c42, px_d2]
    refine px_lv (n := 2) (by decide) (by decide +kernel) (by decide) (ps_RKn (Or.inr (Or.inl ⟨rfl, rfl⟩)) h2) (fun a1 h1 => ?_)
    rw [ps_c21, px_d1]
    refine px_lv (n := 1) (by decide) (by decide +kernel) (by decide) (ps_RKn (Or.inr (Or.inr ⟨rfl, rfl⟩)) h1) (fun a0 h0 => ?_)
    exact br_t px_d0 (hp a0 (ps_RKe h0))
  rw [ps_c80] at h
  exact h
end
section
theorem py_z {a : Nat} (d : Nat) (ha : a < 2 ^ 31) (h0 : 0 < d) (hd : d < 2 ^ 31) : (nI a - nI a / nI d * nI d = 0) ↔ a % d = 0 := by
  rw [pk_rem ha h0 hd, ← nI_0, nI_eq (Nat.lt_of_le_of_lt (Nat.mod_le a d) ha) (by decide)]
theorem py_41 {post : Int32 → Prop} {a b : Nat} (ha : a < 2 ^ 31) (hb : b < 2 ^ 31) (h : post (nI (if a % 2 = 0 ∧ b % 2 = 0 then 2 else 1))) : wY_step_41 post (nI a) (nI b) := by
  refine ⟨by decide, pz_br (py_z 2 ha (by decide) (by decide)) (fun h1 => ⟨by decide, pz_br (py_z 2 hb (by decide) (by decide)) (fun h2 => ?_) (fun h2 => ?_)⟩) (fun h1 => ?_)⟩
  · rw [if_pos ⟨h1, h2⟩] at h
    exact h
  · rw [if_neg (fun q => h2 q.2)] at h
    exact h
  · rw [if_neg (fun q => h1 q.1)] at h
    exact h
theorem py_27 {post : Int32 → Prop} {a b : Nat} (ha : a < 2 ^ 31) (hb : b < 2 ^ 31) (h : post (nI (if a % 4 = 0 ∧ b % 4 = 0 then 4 else if a % 2 = 0 ∧ b % 2 = 0 then 2 else 1))) : wY_step_27 post (nI a) (nI b) := by
  refine ⟨by decide, pz_br (py_z 4 ha (by decide) (by decide)) (fun h1 => ⟨by decide, pz_br (py_z 4 hb (by decide) (by decide)) (fun h2 => ?_) (fun h2 => ?_)⟩) (fun h1 => ?_)⟩
  · rw [if_pos ⟨h1, h2⟩] at h
    exact h
  · rw [if_neg (fun q => h2 q.2)] at h
    exact py_41 ha hb h
  · rw [if_neg (fun q => h1 q.1)] at h
    exact py_41 ha hb h
theorem py_step {post : Int32 → Prop} {i : Nat} (hi : i < 81) (h : post (nI (ps_st i))) : wpY_step post (nI i) := by
  have ha : i % 9 < 2 ^ 31 := by omega
  have hb : i / 9 < 2 ^ 31 := by omega
  unfold ps_st at h
  refine ⟨by decide, nm_r (pk_rem (d := 9) (by omega) (by decide) (by decide)) ⟨by decide, nm_r (pk_div (d := 9) (by omega) (by decide) (by decide)) ⟨by decide, ?_⟩⟩⟩
  refine pz_br (py_z 8 ha (by decide) (by decide)) (fun h1 => ⟨by decide, pz_br (py_z 8 hb (by decide) (by decide)) (fun h2 => ?_) (fun h2 => ?_)⟩) (fun h1 => ?_)
  · rw [if_pos ⟨h1, h2⟩] at h
    exact h
  · rw [if_neg (fun q => h2 q.2)] at h
    exact py_27 ha hb h
  · rw [if_neg (fun q => h1 q.1)] at h
    exact py_27 ha hb h
theorem py_cs {s i j : Nat} (b : Nat) (hb : ps_bf s i j = b) : ps_c s i (j + 1) = ps_c s i j + b := by
  rw [← hb]
  rfl
theorem py_pl9 {post : Int32 → Prop} {i s : Nat} (hi : i < 81) (hs : s ≤ 8) (h : post (nI (ps_c s i 81))) : ∀ d j, j + d = 81 → wY_place_9 post (nI i) (nI s) (d + 1) (nI (ps_c s i j)) (nI j) := by
  intro d
  induction d with
  | zero =>
    intro j hj
    obtain rfl : j = 81 := by omega
    exact br_t (nI_le (a := 81) (b := 81) (by omega) (by decide)) h
  | succ d ih =>
    intro j hj
    have ih1 := ih (j + 1) (by omega)
    have hst := ps_st_in j
    refine br_f (nI_ge (b := 81) (by omega) (by decide)) (py_step (by omega) ?_)
    refine pk_lt s (ps_st j) (fun h1 => ?_) (fun h1 => pk_eq (ps_st j) s (fun h2 => pk_le i j (fun h3 => ?_) (fun h3 => ?_)) (fun h2 => ?_))
    · rw [py_cs 1 (by unfold ps_bf; rw [if_pos h1])] at ih1
      exact nm_r (nI_1 _) (nm_r (nI_1 _) ih1)
    · rw [py_cs 0 (by unfold ps_bf; rw [if_neg (by omega), if_pos h2, if_neg (by omega)])] at ih1
      exact nm_r (nI_1 _) ih1
    · rw [py_cs 1 (by unfold ps_bf; rw [if_neg (by omega), if_pos h2, if_pos h3])] at ih1
      exact nm_r (nI_1 _) (nm_r (nI_1 _) ih1)
    · rw [py_cs 0 (by unfold ps_bf; rw [if_neg (by omega), if_neg h2])] at ih1
      exact nm_r (nI_1 _) ih1
theorem py_place {post : Int32 → Prop} {i : Nat} (hi : i < 81) (h : post (nI (ps_pl i))) : wpY_place post (nI i) := by
  have h' : post (nI (ps_c (ps_st i) i 81)) := h
  have hst := ps_st_in i
  have hs : ps_st i ≤ 8 := by omega
  unfold wpY_place
  refine py_step hi ?_
  exact ⟨81 + 1, py_pl9 hi hs h' 81 0 rfl⟩
theorem pz_inX {post : Int32 → Prop} {i j : Nat} (hi : i < 9) (hj : j < 9) (h : post 1) : wpX_isInside post (nI i) (nI j) :=
  br_f (nI_pos (by omega)) (br_f (nI_ge (b := 9) hi (by decide)) (br_f (nI_pos (by omega)) (br_f (nI_ge (b := 9) hj (by decide)) h)))
theorem pz_inY {post : Int32 → Prop} {i j : Nat} (hi : i < 9) (hj : j < 9) (h : post 0) : wpY_off post (nI i) (nI j) :=
  br_f (nI_pos (by omega)) (br_f (nI_nlt (a := 8) (b := i) (by omega) (by decide)) (br_f (nI_pos (by omega)) (br_t (nI_le (a := j) (b := 8) (by omega) (by decide)) h)))
theorem pz_cases (x y : Int32) : (∃ i j : Nat, i < 9 ∧ j < 9 ∧ x = nI i ∧ y = nI j) ∨ ((∀ post : Int32 → Prop, post 0 → wpX_isInside post x y) ∧ (∀ post : Int32 → Prop, post 1 → wpY_off post x y)) := by
  by_cases hx : x < 0
  · exact Or.inr ⟨fun _ h => br_t hx h, fun _ h => br_t hx h⟩
  · obtain ⟨i, hi, rfl⟩ := nI_of hx
    by_cases hi9 : i < 9
    · by_cases hy : y < 0
      · exact Or.inr ⟨fun _ h => br_f hx (br_f (nI_ge (b := 9) hi9 (by decide)) (br_t hy h)), fun _ h => br_f hx (br_f (nI_nlt (a := 8) (b := i) (by omega) (by decide)) (br_t hy h))⟩
      · obtain ⟨j, hj, rfl⟩ := nI_of hy
        by_cases hj9 : j < 9
        · exact Or.inl ⟨i, j, hi9, hj9, rfl, rfl⟩
        · exact Or.inr ⟨fun _ h => br_f hx (br_f (nI_ge (b := 9) hi9 (by decide)) (br_f hy (br_t (nI_le (a := 9) (b := j) (by omega) hj) h))), fun _ h => br_f hx (br_f (nI_nlt (a := 8) (b := i) (by omega) (by decide)) (br_f hy (br_f (nI_ge (a := 8) (b := j) (by omega) hj) h)))⟩
    · exact Or.inr ⟨fun _ h => br_f hx (br_t (nI_le (a := 9) (b := i) (by omega) hi) h), fun _ h => br_f hx (br_t (nI_lt (a := 8) (b := i) (by omega) hi) h)⟩
end
section
def pr_v (b dx dy : Int32) (i : Nat) : Int32 := ((b + (dx * nI (i % 9))) + (dy * nI (i / 9))) &&& 255
def pr_f (g dr : Nat → Int32) (p : Nat) : Nat → Int32 := fun i => if i < p then g i else dr i
theorem pr_0 (g dr : Nat → Int32) : pr_f g dr 0 = dr := funext fun i => if_neg (Nat.not_lt_zero i)
theorem pr_s (g dr : Nat → Int32) (p : Nat) {x : Int32} (e : x = g p) : upd (pr_f g dr p) p x = pr_f g dr (p + 1) := by
  subst e
  funext i
  unfold upd pr_f
  by_cases q : i = p
  · subst q
    rw [if_pos rfl, if_pos (by omega)]
  · rw [if_neg q]
    by_cases w : i < p
    · rw [if_pos w, if_pos (by omega)]
    · rw [if_neg w, if_neg (by omega)]
theorem pr_13 {post : SX → Prop} {J : Int32 → (Nat → Int32) → (Nat → Int32) → (Nat → Int32) → Prop} {b dx dy : Int32} {y : Nat} {fh fr : Int32} {dr se ra : Nat → Int32} (hy : y < 9)
    (hJ : J (nI (y + 1)) (pr_f (pr_v b dx dy) dr (y * 9 + 9)) se ra) :
    ∀ d x, x + d = 9 → wX_ramp_13 post J b dx dy (nI y) fh fr (d + 1) (nI x) (pr_f (pr_v b dx dy) dr (y * 9 + x)) se ra := by
  intro d
  induction d with
  | zero =>
    intro x hx
    obtain rfl : x = 9 := by omega
    exact br_t (nI_le (a := 9) (b := 9) (by omega) (by decide)) (nm_r (nI_1 y) hJ)
  | succ d ih =>
    intro x hx
    have hp : y * 9 + x < 81 := by omega
    have hv : ((b + (dx * nI x)) + (dy * nI y)) &&& 255 = pr_v b dx dy (y * 9 + x) := by
      unfold pr_v
      rw [show (y * 9 + x) % 9 = x by omega, show (y * 9 + x) / 9 = y by omega]
    refine br_f (nI_ge (b := 9) (by omega) (by decide)) ?_
    rw [pz_ix, nI_clamp (by omega)]
    exact ⟨vp_in_nI hp (by decide), nm_r (pr_s _ _ _ hv) (nm_r (nI_1 x) (ih (x + 1) (by omega)))⟩
theorem pr_3 {post : SX → Prop} {b dx dy : Int32} {fh fr : Int32} {dr se ra : Nat → Int32} (hp : post (fh, fr, pr_f (pr_v b dx dy) dr 81, se, ra)) :
    ∀ d y, y + d = 9 → wX_ramp_3 post b dx dy fh fr (d + 1) (nI y) (pr_f (pr_v b dx dy) dr (y * 9)) se ra := by
  intro d
  induction d with
  | zero =>
    intro y hy
    obtain rfl : y = 9 := by omega
    exact br_t (nI_le (a := 9) (b := 9) (by omega) (by decide)) hp
  | succ d ih =>
    intro y hy
    refine br_f (nI_ge (b := 9) (by omega) (by decide)) ⟨9 + 1, ?_⟩
    refine pr_13 (by omega) ?_ 9 0 rfl
    rw [show y * 9 + 9 = (y + 1) * 9 by omega]
    exact ih (y + 1) (by omega)
theorem pr_X {post : SX → Prop} {b dx dy : Int32} {fh fr : Int32} {dr se ra : Nat → Int32} (hp : post (fh, fr, pr_f (pr_v b dx dy) dr 81, se, ra)) : wpX_ramp post (fh, fr, dr, se, ra) b dx dy := by
  have h := pr_3 (post := post) hp 9 0 rfl
  rw [show 0 * 9 = 0 from rfl, pr_0] at h
  exact ⟨9 + 1, h⟩
theorem pr_Y3 {post : SY → Prop} {b dx dy : Int32} {fh fr : Int32} {dr se : Nat → Int32} (hp : post (fh, fr, pr_f (pr_v b dx dy) dr 81, se)) :
    ∀ d i, i + d = 81 → wY_ramp_3 post b dx dy fh fr (d + 1) (nI i) (pr_f (pr_v b dx dy) dr i) se := by
  intro d
  induction d with
  | zero =>
    intro i hi
    obtain rfl : i = 81 := by omega
    exact br_t (nI_le (a := 81) (b := 81) (by omega) (by decide)) hp
  | succ d ih =>
    intro i hi
    have e1 : nI i - nI i / 9 * 9 = nI (i % 9) := pk_rem (d := 9) (by omega) (by decide) (by decide)
    have e2 : nI i / 9 = nI (i / 9) := pk_div (d := 9) (by omega) (by decide) (by decide)
    have hv : ((b + (dx * (nI i - nI i / 9 * 9))) + (dy * (nI i / 9))) &&& 255 = pr_v b dx dy i := by
      rw [e1, e2]
      rfl
    refine br_f (nI_ge (b := 81) (by omega) (by decide)) ⟨by decide, by decide, ?_⟩
    rw [nI_clamp (by omega)]
    exact ⟨vp_in_nI (by omega) (by decide), nm_r (pr_s _ _ _ hv) (nm_r (nI_1 i) (ih (i + 1) (by omega)))⟩
theorem pr_Y {post : SY → Prop} {b dx dy : Int32} {fh fr : Int32} {dr se : Nat → Int32} (hp : post (fh, fr, pr_f (pr_v b dx dy) dr 81, se)) : wpY_ramp post (fh, fr, dr, se) b dx dy := by
  have h := pr_Y3 (post := post) hp 81 0 rfl
  rw [pr_0] at h
  exact ⟨81 + 1, h⟩
theorem pn_X2 {post : SX → Prop} {fh fr : Int32} {dr se ra : Nat → Int32} (hp : post (1, 0, dr, pr_f dr se 81, ra)) :
    ∀ d i, i + d = 81 → wX_send_2 post fh fr (d + 1) (nI i) dr (pr_f dr se i) ra := by
  intro d
  induction d with
  | zero =>
    intro i hi
    obtain rfl : i = 81 := by omega
    exact br_t (nI_le (a := 81) (b := 81) (by omega) (by decide)) hp
  | succ d ih =>
    intro i hi
    have hv : vp_in (nI i) 81 := vp_in_nI (by omega) (by decide)
    refine br_f (nI_ge (b := 81) (by omega) (by decide)) ⟨hv, hv, ?_⟩
    rw [nI_clamp (by omega)]
    exact nm_r (pr_s _ _ _ rfl) (nm_r (nI_1 i) (ih (i + 1) (by omega)))
theorem pn_X {post : SX → Prop} {fh fr : Int32} {dr se ra : Nat → Int32} (hp : post (1, 0, dr, pr_f dr se 81, ra)) : wpX_send post (fh, fr, dr, se, ra) := by
  have h := pn_X2 (post := post) (fh := fh) (fr := fr) hp 81 0 rfl
  rw [pr_0] at h
  exact ⟨81 + 1, h⟩
theorem pn_Y2 {post : SY → Prop} {fh fr : Int32} {dr se : Nat → Int32} (hp : post (1, 0, dr, pr_f dr se 81)) :
    ∀ d i, i + d = 81 → wY_send_2 post fh fr (d + 1) (nI i) dr (pr_f dr se i) := by
  intro d
  induction d with
  | zero =>
    intro i hi
    obtain rfl : i = 81 := by omega
    exact br_t (nI_le (a := 81) (b := 81) (by omega) (by decide)) hp
  | succ d ih =>
    intro i hi
    have hv : vp_in (nI i) 81 := vp_in_nI (by omega) (by decide)
    refine br_f (nI_ge (b := 81) (by omega) (by decide)) ⟨hv, hv, ?_⟩
    rw [nI_clamp (by omega)]
    exact nm_r (pr_s _ _ _ rfl) (nm_r (nI_1 i) (ih (i + 1) (by omega)))
theorem pn_Y {post : SY → Prop} {fh fr : Int32} {dr se : Nat → Int32} (hp : post (1, 0, dr, pr_f dr se 81)) : wpY_send post (fh, fr, dr, se) := by
  have h := pn_Y2 (post := post) (fh := fh) (fr := fr) hp 81 0 rfl
  rw [pr_0] at h
  exact ⟨81 + 1, h⟩
theorem pc_go {lo hi fh : Int32} {r : Nat} {dr se ra : Nat → Int32} (hr : r ≤ 81) (hra : ∀ j, j < 81 → ra j = nI (ps_pl j)) : ∀ d j (c : Int32), j + d = 81 →
    ∃ v : Int32, (∀ post : Int32 → Prop, post v → wX_count_5 post lo hi fh (nI r) dr se ra (d + 1) c (nI j)) ∧ (∀ post : Int32 → Prop, post v → wY_count_5 post lo hi fh (nI r) dr se (d + 1) c (nI j)) := by
  intro d
  induction d with
  | zero =>
    intro j c hj
    obtain rfl : j = 81 := by omega
    have h : (81 : Int32) ≤ nI 81 := nI_le (a := 81) (b := 81) (by omega) (by decide)
    exact ⟨c, fun _ hp => br_t h hp, fun _ hp => br_t h hp⟩
  | succ d ih =>
    intro j c hj
    have h : ¬ (81 : Int32) ≤ nI j := nI_ge (b := 81) (by omega) (by decide)
    have hv : vp_in (nI j) 81 := vp_in_nI (by omega) (by decide)
    have hj1 : j < 81 := by omega
    have hpl := ps_pl_le j
    have e : ra (nI j).toNatClampNeg = nI (ps_pl j) := by rw [nI_clamp (by omega)]; exact hra j hj1
    by_cases hc : r ≤ ps_pl j
    · have hY : nI r ≤ nI (ps_pl j) := nI_le hc (by omega)
      have hX : nI r ≤ ra (nI j).toNatClampNeg := by rw [e]; exact hY
      obtain ⟨v, h1, h2⟩ := ih (j + 1) c (by omega)
      exact ⟨v, fun post hp => br_f h ⟨hv, br_t hX (nm_r (nI_1 j) (h1 post hp))⟩, fun post hp => br_f h (py_place hj1 (br_t hY (nm_r (nI_1 j) (h2 post hp))))⟩
    · have hY : ¬ nI r ≤ nI (ps_pl j) := nI_ge (by omega) (by omega)
      have hX : ¬ nI r ≤ ra (nI j).toNatClampNeg := by rw [e]; exact hY
      by_cases hl : se (nI j).toNatClampNeg < lo
      · obtain ⟨v, h1, h2⟩ := ih (j + 1) c (by omega)
        exact ⟨v, fun post hp => br_f h ⟨hv, br_f hX ⟨hv, br_t hl (nm_r (nI_1 j) (h1 post hp))⟩⟩, fun post hp => br_f h (py_place hj1 (br_f hY ⟨hv, br_t hl (nm_r (nI_1 j) (h2 post hp))⟩))⟩
      · by_cases hh : hi < se (nI j).toNatClampNeg
        · obtain ⟨v, h1, h2⟩ := ih (j + 1) c (by omega)
          exact ⟨v, fun post hp => br_f h ⟨hv, br_f hX ⟨hv, br_f hl ⟨hv, br_t hh (nm_r (nI_1 j) (h1 post hp))⟩⟩⟩, fun post hp => br_f h (py_place hj1 (br_f hY ⟨hv, br_f hl ⟨hv, br_t hh (nm_r (nI_1 j) (h2 post hp))⟩⟩))⟩
        · obtain ⟨v, h1, h2⟩ := ih (j + 1) (c + 1) (by omega)
          exact ⟨v, fun post hp => br_f h ⟨hv, br_f hX ⟨hv, br_f hl ⟨hv, br_f hh (nm_e (nm_r (nI_1 j) (h1 post hp)))⟩⟩⟩, fun post hp => br_f h (py_place hj1 (br_f hY ⟨hv, br_f hl ⟨hv, br_f hh (nm_e (nm_r (nI_1 j) (h2 post hp)))⟩⟩))⟩
theorem pm_go {fh : Int32} {r : Nat} {dr se ra : Nat → Int32} (hr : r ≤ 81) (hra : ∀ j, j < 81 → ra j = nI (ps_pl j)) : ∀ d j (c : Int32), j + d = 81 →
    ∃ v : Int32, (∀ post : Int32 → Prop, post v → wX_sum_4 post fh (nI r) dr se ra (d + 1) c (nI j)) ∧ (∀ post : Int32 → Prop, post v → wY_sum_4 post fh (nI r) dr se (d + 1) c (nI j)) := by
  intro d
  induction d with
  | zero =>
    intro j c hj
    obtain rfl : j = 81 := by omega
    have h : (81 : Int32) ≤ nI 81 := nI_le (a := 81) (b := 81) (by omega) (by decide)
    exact ⟨c, fun _ hp => br_t h hp, fun _ hp => br_t h hp⟩
  | succ d ih =>
    intro j c hj
    have h : ¬ (81 : Int32) ≤ nI j := nI_ge (b := 81) (by omega) (by decide)
    have hv : vp_in (nI j) 81 := vp_in_nI (by omega) (by decide)
    have hj1 : j < 81 := by omega
    have hpl := ps_pl_le j
    have e : ra (nI j).toNatClampNeg = nI (ps_pl j) := by rw [nI_clamp (by omega)]; exact hra j hj1
    by_cases hc : r ≤ ps_pl j
    · have hY : nI r ≤ nI (ps_pl j) := nI_le hc (by omega)
      have hX : nI r ≤ ra (nI j).toNatClampNeg := by rw [e]; exact hY
      obtain ⟨v, h1, h2⟩ := ih (j + 1) c (by omega)
      exact ⟨v, fun post hp => br_f h ⟨hv, br_t hX (nm_r (nI_1 j) (h1 post hp))⟩, fun post hp => br_f h (py_place hj1 (br_t hY (nm_r (nI_1 j) (h2 post hp))))⟩
    · have hY : ¬ nI r ≤ nI (ps_pl j) := nI_ge (by omega) (by omega)
      have hX : ¬ nI r ≤ ra (nI j).toNatClampNeg := by rw [e]; exact hY
      obtain ⟨v, h1, h2⟩ := ih (j + 1) (c + se (nI j).toNatClampNeg) (by omega)
      exact ⟨v, fun post hp => br_f h ⟨hv, br_f hX ⟨hv, nm_e (nm_r (nI_1 j) (h1 post hp))⟩⟩, fun post hp => br_f h (py_place hj1 (br_f hY ⟨hv, nm_e (nm_r (nI_1 j) (h2 post hp))⟩))⟩
end
section
/-- both sides hold the same pictures and counts; X's ranks are the places' numbers -/
def i_Rel (k : Nat) (u : SX) (v : SY) : Prop := ∃ (h : Int32) (r : Nat) (dr se ra : Nat → Int32), u = (h, nI r, dr, se, ra) ∧ v = (h, nI r, dr, se) ∧ r ≤ 81 ∧ (h = 0 → r = 0) ∧ (∀ j, j < 81 → ra j = nI (ps_pl j))
theorem i_up {k : Nat} {u : SX} {v : SY} (h : i_Rel k u v) : i_Rel (k + 4) u v := h
theorem i_vc0 : wpX_init (fun u => wpY_init (fun v => i_Rel 0 u v)) :=
  px_init fun a ha => ⟨0, 0, fun _ => 0, fun _ => 0, a, rfl, rfl, Nat.zero_le 81, fun _ => rfl, ha⟩
theorem i_vc_draw {k : Nat} {u : SX} {v : SY} (I : i_Rel k u v) (hk : k + 4 ≤ 2048) (v1 : Int32) (v2 : Int32) (v3 : Int32) : wpX_draw (fun r u' => wpY_draw (fun r' v' => r' = r ∧ i_Rel (k + 4) u' v') v v1 v2 v3) u v1 v2 v3 := by
  obtain ⟨h, r, dr, se, ra, rfl, rfl, hr, hz, hra⟩ := I
  rcases pz_cases v1 v2 with ⟨i, j, hi, hj, rfl, rfl⟩ | ⟨hX, hY⟩
  · have hv : vp_in (nI (j * 9 + i)) 81 := vp_in_nI (by omega) (by decide)
    unfold wpX_draw wpY_draw
    refine pz_inX hi hj (br_f (by decide) (nm_r (pz_ix j i) ⟨hv, nm_e ⟨hv, nm_e (pz_inY hi hj (br_t rfl ?_))⟩⟩))
    rw [pz_iy j i]
    exact ⟨hv, nm_e ⟨hv, nm_e ⟨rfl, h, r, _, se, ra, rfl, rfl, hr, hz, hra⟩⟩⟩
  · unfold wpX_draw wpY_draw
    exact hX _ (br_t rfl (hY _ (br_f (by decide) ⟨rfl, h, r, dr, se, ra, rfl, rfl, hr, hz, hra⟩)))
theorem i_vc_ramp {k : Nat} {u : SX} {v : SY} (I : i_Rel k u v) (hk : k + 4 ≤ 2048) (v1 : Int32) (v2 : Int32) (v3 : Int32) : wpX_ramp (fun u' => wpY_ramp (fun v' => i_Rel (k + 4) u' v') v v1 v2 v3) u v1 v2 v3 := by
  obtain ⟨h, r, dr, se, ra, rfl, rfl, hr, hz, hra⟩ := I
  exact pr_X (pr_Y ⟨h, r, _, se, ra, rfl, rfl, hr, hz, hra⟩)
theorem i_vc_send {k : Nat} {u : SX} {v : SY} (I : i_Rel k u v) (hk : k + 4 ≤ 2048) : wpX_send (fun u' => wpY_send (fun v' => i_Rel (k + 4) u' v') v) u := by
  obtain ⟨h, r, dr, se, ra, rfl, rfl, hr, hz, hra⟩ := I
  exact pn_X (pn_Y ⟨1, 0, dr, _, ra, rfl, rfl, Nat.zero_le 81, fun _ => rfl, hra⟩)
theorem i_vc_receive {k : Nat} {u : SX} {v : SY} (I : i_Rel k u v) (hk : k + 4 ≤ 2048) (v1 : Int32) : wpX_receive (fun r u' => wpY_receive (fun r' v' => r' = r ∧ i_Rel (k + 4) u' v') v v1) u v1 := by
  obtain ⟨h, r, dr, se, ra, rfl, rfl, hr, hz, hra⟩ := I
  unfold wpX_receive wpY_receive
  have hs : (81 : Int32) - nI r = nI (81 - r) := pk_sub (a := 81) hr
  by_cases h0 : h = 0
  · exact br_t h0 (br_t h0 ⟨rfl, h, r, dr, se, ra, rfl, rfl, hr, hz, hra⟩)
  · refine br_f h0 (nm_r hs ?_)
    by_cases hn : v1 < 0
    · have z : (0 : Int32).toInt = 0 := by decide
      have h1 : v1 ≤ nI (81 - r) := by
        rw [Int32.lt_iff_toInt_lt, z] at hn
        rw [Int32.le_iff_toInt_le, nI_toInt (by omega)]
        omega
      have h2 : v1 ≤ 0 := by
        rw [Int32.lt_iff_toInt_lt, z] at hn
        rw [Int32.le_iff_toInt_le, z]
        omega
      have h3 : ¬ (0 : Int32) ≤ v1 := Int32.not_le.mpr hn
      have h4 : (0 : Int32) ≤ 81 - nI r := by
        rw [hs]
        exact nI_pos' (by omega)
      refine br_t h1 (br_t h2 (br_f h0 (br_f h3 (br_t h4 (nm_r (nI_add r 0) ?_)))))
      exact ⟨rfl, h, r, dr, se, ra, rfl, rfl, hr, hz, hra⟩
    · obtain ⟨c, hc, rfl⟩ := nI_of hn
      have h3 : (0 : Int32) ≤ nI c := nI_pos' hc
      by_cases hl : c ≤ 81 - r
      · have h1 : nI c ≤ nI (81 - r) := nI_le hl (by omega)
        have h4 : nI c ≤ 81 - nI r := by
          rw [hs]
          exact h1
        by_cases hc0 : c = 0
        · subst hc0
          refine br_t h1 (br_t (nI_le (a := 0) (b := 0) (by omega) (by decide)) (br_f h0 (br_t h3 (br_t h4 (nm_r (nI_add r 0) ?_)))))
          exact ⟨rfl, h, r, dr, se, ra, rfl, rfl, hr, hz, hra⟩
        · refine br_t h1 (br_f (nI_ge (a := 0) (b := c) (by omega) hc) (nm_r (nI_add r c) (br_f h0 (br_t h3 (br_t h4 (nm_r (nI_add r c) ?_))))))
          exact ⟨rfl, h, r + c, dr, se, ra, rfl, rfl, by omega, fun q => absurd q h0, hra⟩
      · have h1 : ¬ nI c ≤ nI (81 - r) := nI_ge (by omega) hc
        have h4 : ¬ nI c ≤ 81 - nI r := by
          rw [hs]
          exact h1
        refine br_f h1 (br_f h0 (br_t h3 (br_f h4 ?_)))
        exact ⟨rfl, h, 81, dr, se, ra, rfl, rfl, Nat.le_refl 81, fun q => absurd q h0, hra⟩
theorem i_vc_pixel {k : Nat} {u : SX} {v : SY} (I : i_Rel k u v) (hk : k + 4 ≤ 2048) (v1 : Int32) (v2 : Int32) : wpX_pixel (fun r => wpY_pixel (fun r' => r' = r ∧ i_Rel (k + 4) u v) v v1 v2) u v1 v2 := by
  have J : i_Rel (k + 4) u v := I
  obtain ⟨h, r, dr, se, ra, rfl, rfl, hr, hz, hra⟩ := I
  rcases pz_cases v1 v2 with ⟨i, j, hi, hj, rfl, rfl⟩ | ⟨hX, hY⟩
  · have hp : j * 9 + i < 81 := by omega
    have hv : vp_in (nI (j * 9 + i)) 81 := vp_in_nI hp (by decide)
    have hpl := ps_pl_le (j * 9 + i)
    have e : ra (nI (j * 9 + i)).toNatClampNeg = nI (ps_pl (j * 9 + i)) := by rw [nI_clamp (by omega)]; exact hra _ hp
    unfold wpX_pixel wpY_pixel
    refine pz_inX hi hj (br_f (by decide) (nm_r (pz_ix j i) ⟨hv, ?_⟩))
    by_cases hc : ps_pl (j * 9 + i) < r
    · have hYc : nI (ps_pl (j * 9 + i)) < nI r := nI_lt hc (by omega)
      have hXc : ra (nI (j * 9 + i)).toNatClampNeg < nI r := by rw [e]; exact hYc
      have h0 : ¬ h = 0 := fun q => by
        have := hz q
        omega
      refine br_t hXc ⟨hv, pz_inY hi hj (br_t rfl (br_f h0 ?_))⟩
      rw [pz_iy j i]
      exact py_place hp (br_t hYc ⟨hv, rfl, J⟩)
    · have hYc : ¬ nI (ps_pl (j * 9 + i)) < nI r := nI_nlt (by omega) (by omega)
      have hXc : ¬ ra (nI (j * 9 + i)).toNatClampNeg < nI r := by rw [e]; exact hYc
      refine br_f hXc (pz_inY hi hj (br_t rfl ?_))
      by_cases h0 : h = 0
      · exact br_t h0 ⟨rfl, J⟩
      · refine br_f h0 ?_
        rw [pz_iy j i]
        exact py_place hp (br_f hYc ⟨rfl, J⟩)
  · unfold wpX_pixel wpY_pixel
    exact hX _ (br_t rfl (hY _ (br_f (by decide) ⟨rfl, J⟩)))
theorem i_vc_rank {k : Nat} {u : SX} {v : SY} (I : i_Rel k u v) (hk : k + 4 ≤ 2048) (v1 : Int32) (v2 : Int32) : wpX_rank (fun r => wpY_rank (fun r' => r' = r ∧ i_Rel (k + 4) u v) v v1 v2) u v1 v2 := by
  have J : i_Rel (k + 4) u v := I
  obtain ⟨h, r, dr, se, ra, rfl, rfl, hr, hz, hra⟩ := I
  rcases pz_cases v1 v2 with ⟨i, j, hi, hj, rfl, rfl⟩ | ⟨hX, hY⟩
  · have hp : j * 9 + i < 81 := by omega
    have hv : vp_in (nI (j * 9 + i)) 81 := vp_in_nI hp (by decide)
    have e : ra (nI (j * 9 + i)).toNatClampNeg = nI (ps_pl (j * 9 + i)) := by rw [nI_clamp (by omega)]; exact hra _ hp
    unfold wpX_rank wpY_rank
    refine pz_inX hi hj (br_f (by decide) ?_)
    rw [pz_ix j i]
    refine ⟨hv, pz_inY hi hj (br_t rfl ?_)⟩
    rw [pz_iy j i]
    exact py_place hp ⟨e.symm, J⟩
  · unfold wpX_rank wpY_rank
    exact hX _ (br_t rfl (hY _ (br_f (by decide) ⟨rfl, J⟩)))
theorem i_vc_count {k : Nat} {u : SX} {v : SY} (I : i_Rel k u v) (hk : k + 4 ≤ 2048) (v1 : Int32) (v2 : Int32) : wpX_count (fun r => wpY_count (fun r' => r' = r ∧ i_Rel (k + 4) u v) v v1 v2) u v1 v2 := by
  have J : i_Rel (k + 4) u v := I
  obtain ⟨h, r, dr, se, ra, rfl, rfl, hr, hz, hra⟩ := I
  obtain ⟨c, hX, hY⟩ := pc_go (lo := v1) (hi := v2) (fh := h) (dr := dr) (se := se) hr hra 81 0 0 rfl
  exact ⟨81 + 1, hX _ ⟨81 + 1, hY _ ⟨rfl, J⟩⟩⟩
theorem i_vc_sum {k : Nat} {u : SX} {v : SY} (I : i_Rel k u v) (hk : k + 4 ≤ 2048) : wpX_sum (fun r => wpY_sum (fun r' => r' = r ∧ i_Rel (k + 4) u v) v) u := by
  have J : i_Rel (k + 4) u v := I
  obtain ⟨h, r, dr, se, ra, rfl, rfl, hr, hz, hra⟩ := I
  obtain ⟨c, hX, hY⟩ := pm_go (fh := h) (dr := dr) (se := se) hr hra 81 0 0 rfl
  exact ⟨81 + 1, hX _ ⟨81 + 1, hY _ ⟨rfl, J⟩⟩⟩
end
