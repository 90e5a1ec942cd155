theorem pz_ix (j i : Nat) : nI j * 9 + nI i = nI (j * 9 + i) := by
  rw [show (9 : Int32) = nI 9 from rfl, pk_mul, nI_add]
theorem pz_iy (j i : Nat) : 9 * nI j + nI i = nI (j * 9 + i) := by
  rw [show (9 : Int32) = nI 9 from rfl, pk_mul, nI_add, Nat.mul_comm]
theorem pz_br {c d A B : Prop} (e : c ↔ d) (f : d → A) (g : ¬ d → B) : (c → A) ∧ (¬ c → B) := ⟨fun h => f (e.mp h), fun h => g (fun q => h (e.mpr q))⟩
theorem pz_cs {s p : Nat} (hp : p < 81) (e : ps_st p = s) : ps_c s (p + 1) 81 = ps_c s p 81 + 1 := by
  rw [ps_next, if_pos ⟨hp, e⟩]
theorem pz_ck {s p : Nat} (e : ps_st p ≠ s) : ps_c s (p + 1) 81 = ps_c s p 81 := by
  rw [ps_next, if_neg (fun q => e q.2)]
  rfl
def px_so (b : Int32) : Int32 := if b - b / 8 * 8 = 0 then 8 else if b - b / 4 * 4 = 0 then 4 else if b - b / 2 * 2 = 0 then 2 else 1
theorem px_so_v : ∀ y, y < 9 → ∀ x, x < 9 → px_so (nI x ||| nI y) = nI (ps_st (y * 9 + x)) := by decide +kernel
theorem px_stepOf {post : Int32 → Prop} {p0 p1 v : Int32} (e : px_so (p0 ||| p1) = v) (h : post v) : wpX_stepOf post p0 p1 := by
  subst e
  intro b eb
  rw [← eb] at h
  clear eb
  refine ⟨by decide, ?_⟩
  by_cases h8 : b - b / 8 * 8 = 0
  · rw [px_so, if_pos h8] at h
    exact br_t h8 h
  · refine br_f h8 ⟨by decide, ?_⟩
    by_cases h4 : b - b / 4 * 4 = 0
    · rw [px_so, if_neg h8, if_pos h4] at h
      exact br_t h4 h
    · refine br_f h4 ⟨by decide, ?_⟩
      by_cases h2 : b - b / 2 * 2 = 0
      · rw [px_so, if_neg h8, if_neg h4, if_pos h2] at h
        exact br_t h2 h
      · rw [px_so, if_neg h8, if_neg h4, if_neg h2] at h
        exact br_f h2 h
theorem px_15 {post : Int32 → SX → Prop} {J : Int32 → Int32 → (Nat → Int32) → (Nat → Int32) → (Nat → Int32) → Prop} {s y : Nat} {fh fr : Int32} {dr se : Nat → Int32} (hs : s ≤ 8) (hy : y < 9)
    (hJ : ∀ a', ps_RK s (y * 9 + 9) a' → J (nI (ps_c s (y * 9 + 9) 81)) (nI (y + 1)) dr se a') :
    ∀ d x a, x + d = 9 → ps_RK s (y * 9 + x) a → wX_rankPixelsOfStep_15 post J (nI s) (nI y) fh fr (d + 1) (nI (ps_c s (y * 9 + x) 81)) (nI x) dr se a := by
  intro d
  induction d with
  | zero =>
    intro x a hx ha
    obtain rfl : x = 9 := by omega
    refine br_t (nI_le (a := 9) (b := 9) (by omega) (by decide)) ?_
    exact nm_r (nI_1 y) (hJ a ha)
  | succ d ih =>
    intro x a hx ha
    refine br_f (nI_ge (b := 9) (by omega) (by decide)) ?_
    refine px_stepOf (px_so_v y hy x (by omega)) ?_
    have hst := ps_st_in (y * 9 + x)
    have hp : y * 9 + x < 81 := by omega
    refine pk_eq (ps_st (y * 9 + x)) s (fun e => ?_) (fun e => ?_)
    · rw [pz_ix, nI_clamp (by omega)]
      refine ⟨vp_in_nI hp (by decide), ?_⟩
      refine nm_e (nm_r (e' := nI (ps_c s (y * 9 + (x + 1)) 81)) ?_ (nm_r (nI_1 x) ?_))
      · exact (nI_1 _).trans (congrArg nI (pz_cs hp e).symm)
      · exact ih (x + 1) _ (by omega) (ps_RKs e ha)
    · have h1 := ih (x + 1) a (by omega) (ps_RKk e ha)
      rw [show ps_c s (y * 9 + (x + 1)) 81 = ps_c s (y * 9 + x) 81 from pz_ck e] at h1
      exact nm_r (nI_1 x) h1
theorem px_5 {post : Int32 → SX → Prop} {s : Nat} {fh fr : Int32} {dr se : Nat → Int32} (hs : s ≤ 8)
    (hp : ∀ a', ps_RK s 81 a' → post (nI (ps_c s 81 81)) (fh, fr, dr, se, a')) :
    ∀ d y a, y + d = 9 → ps_RK s (y * 9) a → wX_rankPixelsOfStep_5 post (nI s) fh fr (d + 1) (nI (ps_c s (y * 9) 81)) (nI y) dr se a := by
  intro d
  induction d with
  | zero =>
    intro y a hy ha
    obtain rfl : y = 9 := by omega
    exact br_t (nI_le (a := 9) (b := 9) (by omega) (by decide)) (hp a ha)
  | succ d ih =>
    intro y a hy ha
    refine br_f (nI_ge (b := 9) (by omega) (by decide)) ⟨9 + 1, ?_⟩
    refine px_15 hs (by omega) (fun a' h' => ?_) 9 0 a rfl ha
    have e : y * 9 + 9 = (y + 1) * 9 := by omega
    rw [e] at h' ⊢
    exact ih (y + 1) a' (by omega) h'
theorem px_rps {post : Int32 → SX → Prop} {s : Nat} {fh fr : Int32} {dr se a : Nat → Int32} (hs : s ≤ 8)
    (hp : ∀ a', ps_RK s 81 a' → post (nI (ps_c s 81 81)) (fh, fr, dr, se, a')) (ha : ps_RK s 0 a) : wpX_rankPixelsOfStep post (fh, fr, dr, se, a) (nI s) (nI (ps_c s 0 81)) := ⟨9 + 1, px_5 hs hp 9 0 a rfl ha⟩
theorem px_lv {post : SX → Prop} {n L s : Nat} {fh fr : Int32} {dr se a : Nat → Int32} (hL : L < 4) (e : (1 : Int32) <<< (nI L &&& 31) = nI s) (hs : s ≤ 8) (ha : ps_RK s 0 a)
    (hn : ∀ a', ps_RK s 81 a' → wX_init_42 post n (nI (ps_c s 81 81)) (nI L + (-1)) fh fr dr se a') : wX_init_42 post (n + 1) (nI (ps_c s 0 81)) (nI L) fh fr dr se a := by
  refine br_f (nI_pos (by omega)) ?_
  rw [e]
  refine px_rps hs (fun a' h' => ?_) ha
  exact nm_e (hn a' h')
theorem px_d3 : nI 3 + (-1) = nI 2 := by decide +kernel
theorem px_d2 : nI 2 + (-1) = nI 1 := by decide +kernel
theorem px_d1 : nI 1 + (-1) = nI 0 := by decide +kernel
theorem px_d0 : nI 0 + (-1) < 0 := by decide +kernel
theorem px_init {post : SX → Prop} (hp : ∀ a : Nat → Int32, (∀ j, j < 81 → a j = nI (ps_pl j)) → post (0, 0, (fun _ => 0), (fun _ => 0), a)) : wpX_init post := by
  refine ⟨4 + 1, ?_⟩
  have h : wX_init_42 post (4 + 1) (nI (ps_c 8 0 81)) (nI 3) 0 0 (fun _ => 0) (fun _ => 0) (fun _ => 0) := by
    refine px_lv (by decide) (by decide +kernel) (by decide) (ps_RK0 _) (fun a3 h3 => ?_)
    rw [ps_c84, px_d3]
    refine px_lv (n := 3) (by decide) (by decide +kernel) (by decide) (ps_RKn (Or.inl ⟨rfl, rfl⟩) h3) (fun a2 h2 => ?_)
    rw [ps_c42, px_d2]
    refine px_lv (n := 2) (by decide) (by decide +kernel) (by decide) (ps_RKn (Or.inr (Or.inl ⟨rfl, rfl⟩)) h2) (fun a1 h1 => ?_)
    rw [ps_c21, px_d1]
    refine px_lv (n := 1) (by decide) (by decide +kernel) (by decide) (ps_RKn (Or.inr (Or.inr ⟨rfl, rfl⟩)) h1) (fun a0 h0 => ?_)
    exact br_t px_d0 (hp a0 (ps_RKe h0))
  rw [ps_c80] at h
  exact h
