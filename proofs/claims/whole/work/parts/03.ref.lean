theorem py_z {a : Nat} (d : Nat) (ha : a < 2 ^ 31) (h0 : 0 < d) (hd : d < 2 ^ 31) : (nI a - nI a / nI d * nI d = 0) ↔ a % d = 0 := by
  rw [pk_rem ha h0 hd, ← nI_0, nI_eq (Nat.lt_of_le_of_lt (Nat.mod_le a d) ha) (by decide)]
theorem py_41 {post : Int32 → Prop} {a b : Nat} (ha : a < 2 ^ 31) (hb : b < 2 ^ 31) (h : post (nI (if a % 2 = 0 ∧ b % 2 = 0 then 2 else 1))) : wY_step_41 post (nI a) (nI b) := by
  refine ⟨by decide, pz_br (py_z 2 ha (by decide) (by decide)) (fun h1 => ⟨by decide, pz_br (py_z 2 hb (by decide) (by decide)) (fun h2 => ?_) (fun h2 => ?_)⟩) (fun h1 => ?_)⟩
  · rw [if_pos ⟨h1, h2⟩] at h
    exact h
  · rw [if_neg (fun q => h2 q.2)] at h
    exact h
  · rw [if_neg (fun q => h1 q.1)] at h
    exact h
theorem py_27 {post : Int32 → Prop} {a b : Nat} (ha : a < 2 ^ 31) (hb : b < 2 ^ 31) (h : post (nI (if a % 4 = 0 ∧ b % 4 = 0 then 4 else if a % 2 = 0 ∧ b % 2 = 0 then 2 else 1))) : wY_step_27 post (nI a) (nI b) := by
  refine ⟨by decide, pz_br (py_z 4 ha (by decide) (by decide)) (fun h1 => ⟨by decide, pz_br (py_z 4 hb (by decide) (by decide)) (fun h2 => ?_) (fun h2 => ?_)⟩) (fun h1 => ?_)⟩
  · rw [if_pos ⟨h1, h2⟩] at h
    exact h
  · rw [if_neg (fun q => h2 q.2)] at h
    exact py_41 ha hb h
  · rw [if_neg (fun q => h1 q.1)] at h
    exact py_41 ha hb h
theorem py_step {post : Int32 → Prop} {i : Nat} (hi : i < 81) (h : post (nI (ps_st i))) : wpY_step post (nI i) := by
  have ha : i % 9 < 2 ^ 31 := by omega
  have hb : i / 9 < 2 ^ 31 := by omega
  unfold ps_st at h
  refine ⟨by decide, nm_r (pk_rem (d := 9) (by omega) (by decide) (by decide)) ⟨by decide, nm_r (pk_div (d := 9) (by omega) (by decide) (by decide)) ⟨by decide, ?_⟩⟩⟩
  refine pz_br (py_z 8 ha (by decide) (by decide)) (fun h1 => ⟨by decide, pz_br (py_z 8 hb (by decide) (by decide)) (fun h2 => ?_) (fun h2 => ?_)⟩) (fun h1 => ?_)
  · rw [if_pos ⟨h1, h2⟩] at h
    exact h
  · rw [if_neg (fun q => h2 q.2)] at h
    exact py_27 ha hb h
  · rw [if_neg (fun q => h1 q.1)] at h
    exact py_27 ha hb h
theorem py_cs {s i j : Nat} (b : Nat) (hb : ps_bf s i j = b) : ps_c s i (j + 1) = ps_c s i j + b := by
  rw [← hb]
  rfl
theorem py_pl9 {post : Int32 → Prop} {i s : Nat} (hi : i < 81) (hs : s ≤ 8) (h : post (nI (ps_c s i 81))) : ∀ d j, j + d = 81 → wY_place_9 post (nI i) (nI s) (d + 1) (nI (ps_c s i j)) (nI j) := by
  intro d
  induction d with
  | zero =>
    intro j hj
    obtain rfl : j = 81 := by omega
    exact br_t (nI_le (a := 81) (b := 81) (by omega) (by decide)) h
  | succ d ih =>
    intro j hj
    have ih1 := ih (j + 1) (by omega)
    have hst := ps_st_in j
    refine br_f (nI_ge (b := 81) (by omega) (by decide)) (py_step (by omega) ?_)
    refine pk_lt s (ps_st j) (fun h1 => ?_) (fun h1 => pk_eq (ps_st j) s (fun h2 => pk_le i j (fun h3 => ?_) (fun h3 => ?_)) (fun h2 => ?_))
    · rw [py_cs 1 (by unfold ps_bf; rw [if_pos h1])] at ih1
      exact nm_r (nI_1 _) (nm_r (nI_1 _) ih1)
    · rw [py_cs 0 (by unfold ps_bf; rw [if_neg (by omega), if_pos h2, if_neg (by omega)])] at ih1
      exact nm_r (nI_1 _) ih1
    · rw [py_cs 1 (by unfold ps_bf; rw [if_neg (by omega), if_pos h2, if_pos h3])] at ih1
      exact nm_r (nI_1 _) (nm_r (nI_1 _) ih1)
    · rw [py_cs 0 (by unfold ps_bf; rw [if_neg (by omega), if_neg h2])] at ih1
      exact nm_r (nI_1 _) ih1
theorem py_place {post : Int32 → Prop} {i : Nat} (hi : i < 81) (h : post (nI (ps_pl i))) : wpY_place post (nI i) := by
  have h' : post (nI (ps_c (ps_st i) i 81)) := h
  have hst := ps_st_in i
  have hs : ps_st i ≤ 8 := by omega
  unfold wpY_place
  refine py_step hi ?_
  exact ⟨81 + 1, py_pl9 hi hs h' 81 0 rfl⟩
theorem pz_inX {post : Int32 → Prop} {i j : Nat} (hi : i < 9) (hj : j < 9) (h : post 1) : wpX_isInside post (nI i) (nI j) :=
  br_f (nI_pos (by omega)) (br_f (nI_ge (b := 9) hi (by decide)) (br_f (nI_pos (by omega)) (br_f (nI_ge (b := 9) hj (by decide)) h)))
theorem pz_inY {post : Int32 → Prop} {i j : Nat} (hi : i < 9) (hj : j < 9) (h : post 0) : wpY_off post (nI i) (nI j) :=
  br_f (nI_pos (by omega)) (br_f (nI_nlt (a := 8) (b := i) (by omega) (by decide)) (br_f (nI_pos (by omega)) (br_t (nI_le (a := j) (b := 8) (by omega) (by decide)) h)))
theorem pz_cases (x y : Int32) : (∃ i j : Nat, i < 9 ∧ j < 9 ∧ x = nI i ∧ y = nI j) ∨ ((∀ post : Int32 → Prop, post 0 → wpX_isInside post x y) ∧ (∀ post : Int32 → Prop, post 1 → wpY_off post x y)) := by
  by_cases hx : x < 0
  · exact Or.inr ⟨fun _ h => br_t hx h, fun _ h => br_t hx h⟩
  · obtain ⟨i, hi, rfl⟩ := nI_of hx
    by_cases hi9 : i < 9
    · by_cases hy : y < 0
      · exact Or.inr ⟨fun _ h => br_f hx (br_f (nI_ge (b := 9) hi9 (by decide)) (br_t hy h)), fun _ h => br_f hx (br_f (nI_nlt (a := 8) (b := i) (by omega) (by decide)) (br_t hy h))⟩
      · obtain ⟨j, hj, rfl⟩ := nI_of hy
        by_cases hj9 : j < 9
        · exact Or.inl ⟨i, j, hi9, hj9, rfl, rfl⟩
        · exact Or.inr ⟨fun _ h => br_f hx (br_f (nI_ge (b := 9) hi9 (by decide)) (br_f hy (br_t (nI_le (a := 9) (b := j) (by omega) hj) h))), fun _ h => br_f hx (br_f (nI_nlt (a := 8) (b := i) (by omega) (by decide)) (br_f hy (br_f (nI_ge (a := 8) (b := j) (by omega) hj) h)))⟩
    · exact Or.inr ⟨fun _ h => br_f hx (br_t (nI_le (a := 9) (b := i) (by omega) hi) h), fun _ h => br_f hx (br_t (nI_lt (a := 8) (b := i) (by omega) hi) h)⟩
