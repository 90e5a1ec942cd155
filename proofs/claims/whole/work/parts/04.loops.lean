def pr_v (b dx dy : Int32) (i : Nat) : Int32 := ((b + (dx * nI (i % 9))) + (dy * nI (i / 9))) &&& 255
def pr_f (g dr : Nat → Int32) (p : Nat) : Nat → Int32 := fun i => if i < p then g i else dr i
theorem pr_0 (g dr : Nat → Int32) : pr_f g dr 0 = dr := funext fun i => if_neg (Nat.not_lt_zero i)
theorem pr_s (g dr : Nat → Int32) (p : Nat) {x : Int32} (e : x = g p) : upd (pr_f g dr p) p x = pr_f g dr (p + 1) := by
  subst e
  funext i
  unfold upd pr_f
  by_cases q : i = p
  · subst q
    rw [if_pos rfl, if_pos (by omega)]
  · rw [if_neg q]
    by_cases w : i < p
    · rw [if_pos w, if_pos (by omega)]
    · rw [if_neg w, if_neg (by omega)]
theorem pr_13 {post : SX → Prop} {J : Int32 → (Nat → Int32) → (Nat → Int32) → (Nat → Int32) → Prop} {b dx dy : Int32} {y : Nat} {fh fr : Int32} {dr se ra : Nat → Int32} (hy : y < 9)
    (hJ : J (nI (y + 1)) (pr_f (pr_v b dx dy) dr (y * 9 + 9)) se ra) :
    ∀ d x, x + d = 9 → wX_ramp_13 post J b dx dy (nI y) fh fr (d + 1) (nI x) (pr_f (pr_v b dx dy) dr (y * 9 + x)) se ra := by
  intro d
  induction d with
  | zero =>
    intro x hx
    obtain rfl : x = 9 := by omega
    exact br_t (nI_le (a := 9) (b := 9) (by omega) (by decide)) (nm_r (nI_1 y) hJ)
  | succ d ih =>
    intro x hx
    have hp : y * 9 + x < 81 := by omega
    have hv : ((b + (dx * nI x)) + (dy * nI y)) &&& 255 = pr_v b dx dy (y * 9 + x) := by
      unfold pr_v
      rw [show (y * 9 + x) % 9 = x by omega, show (y * 9 + x) / 9 = y by omega]
    refine br_f (nI_ge (b := 9) (by omega) (by decide)) ?_
    rw [pz_ix, nI_clamp (by omega)]
    exact ⟨vp_in_nI hp (by decide), nm_r (pr_s _ _ _ hv) (nm_r (nI_1 x) (ih (x + 1) (by omega)))⟩
theorem pr_3 {post : SX → Prop} {b dx dy : Int32} {fh fr : Int32} {dr se ra : Nat → Int32} (hp : post (fh, fr, pr_f (pr_v b dx dy) dr 81, se, ra)) :
    ∀ d y, y + d = 9 → wX_ramp_3 post b dx dy fh fr (d + 1) (nI y) (pr_f (pr_v b dx dy) dr (y * 9)) se ra := by
  intro d
  induction d with
  | zero =>
    intro y hy
    obtain rfl : y = 9 := by omega
    exact br_t (nI_le (a := 9) (b := 9) (by omega) (by decide)) hp
  | succ d ih =>
    intro y hy
    refine br_f (nI_ge (b := 9) (by omega) (by decide)) ⟨9 + 1, ?_⟩
    refine pr_13 (by omega) ?_ 9 0 rfl
    rw [show y * 9 + 9 = (y + 1) * 9 by omega]
    exact ih (y + 1) (by omega)
theorem pr_X {post : SX → Prop} {b dx dy : Int32} {fh fr : Int32} {dr se ra : Nat → Int32} (hp : post (fh, fr, pr_f (pr_v b dx dy) dr 81, se, ra)) : wpX_ramp post (fh, fr, dr, se, ra) b dx dy := by
  have h := pr_3 (post := post) hp 9 0 rfl
  rw [show 0 * 9 = 0 from rfl, pr_0] at h
  exact ⟨9 + 1, h⟩
theorem pr_Y3 {post : SY → Prop} {b dx dy : Int32} {fh fr : Int32} {dr se : Nat → Int32} (hp : post (fh, fr, pr_f (pr_v b dx dy) dr 81, se)) :
    ∀ d i, i + d = 81 → wY_ramp_3 post b dx dy fh fr (d + 1) (nI i) (pr_f (pr_v b dx dy) dr i) se := by
  intro d
  induction d with
  | zero =>
    intro i hi
    obtain rfl : i = 81 := by omega
    exact br_t (nI_le (a := 81) (b := 81) (by omega) (by decide)) hp
  | succ d ih =>
    intro i hi
    have e1 : nI i - nI i / 9 * 9 = nI (i % 9) := pk_rem (d := 9) (by omega) (by decide) (by decide)
    have e2 : nI i / 9 = nI (i / 9) := pk_div (d := 9) (by omega) (by decide) (by decide)
    have hv : ((b + (dx * (nI i - nI i / 9 * 9))) + (dy * (nI i / 9))) &&& 255 = pr_v b dx dy i := by
      rw [e1, e2]
      rfl
    refine br_f (nI_ge (b := 81) (by omega) (by decide)) ⟨by decide, by decide, ?_⟩
    rw [nI_clamp (by omega)]
    exact ⟨vp_in_nI (by omega) (by decide), nm_r (pr_s _ _ _ hv) (nm_r (nI_1 i) (ih (i + 1) (by omega)))⟩
theorem pr_Y {post : SY → Prop} {b dx dy : Int32} {fh fr : Int32} {dr se : Nat → Int32} (hp : post (fh, fr, pr_f (pr_v b dx dy) dr 81, se)) : wpY_ramp post (fh, fr, dr, se) b dx dy := by
  have h := pr_Y3 (post := post) hp 81 0 rfl
  rw [pr_0] at h
  exact ⟨81 + 1, h⟩
theorem pn_X2 {post : SX → Prop} {fh fr : Int32} {dr se ra : Nat → Int32} (hp : post (1, 0, dr, pr_f dr se 81, ra)) :
    ∀ d i, i + d = 81 → wX_send_2 post fh fr (d + 1) (nI i) dr (pr_f dr se i) ra := by
  intro d
  induction d with
  | zero =>
    intro i hi
    obtain rfl : i = 81 := by omega
    exact br_t (nI_le (a := 81) (b := 81) (by omega) (by decide)) hp
  | succ d ih =>
    intro i hi
    have hv : vp_in (nI i) 81 := vp_in_nI (by omega) (by decide)
    refine br_f (nI_ge (b := 81) (by omega) (by decide)) ⟨hv, hv, ?_⟩
    rw [nI_clamp (by omega)]
    exact nm_r (pr_s _ _ _ rfl) (nm_r (nI_1 i) (ih (i + 1) (by omega)))
theorem pn_X {post : SX → Prop} {fh fr : Int32} {dr se ra : Nat → Int32} (hp : post (1, 0, dr, pr_f dr se 81, ra)) : wpX_send post (fh, fr, dr, se, ra) := by
  have h := pn_X2 (post := post) (fh := fh) (fr := fr) hp 81 0 rfl
  rw [pr_0] at h
  exact ⟨81 + 1, h⟩
theorem pn_Y2 {post : SY → Prop} {fh fr : Int32} {dr se : Nat → Int32} (hp : post (1, 0, dr, pr_f dr se 81)) :
    ∀ d i, i + d = 81 → wY_send_2 post fh fr (d + 1) (nI i) dr (pr_f dr se i) := by
  intro d
  induction d with
  | zero =>
    intro i hi
    obtain rfl : i = 81 := by omega
    exact br_t (nI_le (a := 81) (b := 81) (by omega) (by decide)) hp
  | succ d ih =>
    intro i hi
    have hv : vp_in (nI i) 81 := vp_in_nI (by omega) (by decide)
    refine br_f (nI_ge (b := 81) (by omega) (by decide)) ⟨hv, hv, ?_⟩
    rw [nI_clamp (by omega)]
    exact nm_r (pr_s _ _ _ rfl) (nm_r (nI_1 i) (ih (i + 1) (by omega)))
theorem pn_Y {post : SY → Prop} {fh fr : Int32} {dr se : Nat → Int32} (hp : post (1, 0, dr, pr_f dr se 81)) : wpY_send post (fh, fr, dr, se) := by
  have h := pn_Y2 (post := post) (fh := fh) (fr := fr) hp 81 0 rfl
  rw [pr_0] at h
  exact ⟨81 + 1, h⟩
theorem pc_go {lo hi fh : Int32} {r : Nat} {dr se ra : Nat → Int32} (hr : r ≤ 81) (hra : ∀ j, j < 81 → ra j = nI (ps_pl j)) : ∀ d j (c : Int32), j + d = 81 →
    ∃ v : Int32, (∀ post : Int32 → Prop, post v → wX_count_5 post lo hi fh (nI r) dr se ra (d + 1) c (nI j)) ∧ (∀ post : Int32 → Prop, post v → wY_count_5 post lo hi fh (nI r) dr se (d + 1) c (nI j)) := by
  intro d
  induction d with
  | zero =>
    intro j c hj
    obtain rfl : j = 81 := by omega
    have h : (81 : Int32) ≤ nI 81 := nI_le (a := 81) (b := 81) (by omega) (by decide)
    exact ⟨c, fun _ hp => br_t h hp, fun _ hp => br_t h hp⟩
  | succ d ih =>
    intro j c hj
    have h : ¬ (81 : Int32) ≤ nI j := nI_ge (b := 81) (by omega) (by decide)
    have hv : vp_in (nI j) 81 := vp_in_nI (by omega) (by decide)
    have hj1 : j < 81 := by omega
    have hpl := ps_pl_le j
    have e : ra (nI j).toNatClampNeg = nI (ps_pl j) := by rw [nI_clamp (by omega)]; exact hra j hj1
    by_cases hc : r ≤ ps_pl j
    · have hY : nI r ≤ nI (ps_pl j) := nI_le hc (by omega)
      have hX : nI r ≤ ra (nI j).toNatClampNeg := by rw [e]; exact hY
      obtain ⟨v, h1, h2⟩ := ih (j + 1) c (by omega)
      exact ⟨v, fun post hp => br_f h ⟨hv, br_t hX (nm_r (nI_1 j) (h1 post hp))⟩, fun post hp => br_f h (py_place hj1 (br_t hY (nm_r (nI_1 j) (h2 post hp))))⟩
    · have hY : ¬ nI r ≤ nI (ps_pl j) := nI_ge (by omega) (by omega)
      have hX : ¬ nI r ≤ ra (nI j).toNatClampNeg := by rw [e]; exact hY
      by_cases hl : se (nI j).toNatClampNeg < lo
      · obtain ⟨v, h1, h2⟩ := ih (j + 1) c (by omega)
        exact ⟨v, fun post hp => br_f h ⟨hv, br_f hX ⟨hv, br_t hl (nm_r (nI_1 j) (h1 post hp))⟩⟩, fun post hp => br_f h (py_place hj1 (br_f hY ⟨hv, br_t hl (nm_r (nI_1 j) (h2 post hp))⟩))⟩
      · by_cases hh : hi < se (nI j).toNatClampNeg
        · obtain ⟨v, h1, h2⟩ := ih (j + 1) c (by omega)
          exact ⟨v, fun post hp => br_f h ⟨hv, br_f hX ⟨hv, br_f hl ⟨hv, br_t hh (nm_r (nI_1 j) (h1 post hp))⟩⟩⟩, fun post hp => br_f h (py_place hj1 (br_f hY ⟨hv, br_f hl ⟨hv, br_t hh (nm_r (nI_1 j) (h2 post hp))⟩⟩))⟩
        · obtain ⟨v, h1, h2⟩ := ih (j + 1) (c + 1) (by omega)
          exact ⟨v, fun post hp => br_f h ⟨hv, br_f hX ⟨hv, br_f hl ⟨hv, br_f hh (nm_e (nm_r (nI_1 j) (h1 post hp)))⟩⟩⟩, fun post hp => br_f h (py_place hj1 (br_f hY ⟨hv, br_f hl ⟨hv, br_f hh (nm_e (nm_r (nI_1 j) (h2 post hp)))⟩⟩))⟩
theorem pm_go {fh : Int32} {r : Nat} {dr se ra : Nat → Int32} (hr : r ≤ 81) (hra : ∀ j, j < 81 → ra j = nI (ps_pl j)) : ∀ d j (c : Int32), j + d = 81 →
    ∃ v : Int32, (∀ post : Int32 → Prop, post v → wX_sum_4 post fh (nI r) dr se ra (d + 1) c (nI j)) ∧ (∀ post : Int32 → Prop, post v → wY_sum_4 post fh (nI r) dr se (d + 1) c (nI j)) := by
  intro d
  induction d with
  | zero =>
    intro j c hj
    obtain rfl : j = 81 := by omega
    have h : (81 : Int32) ≤ nI 81 := nI_le (a := 81) (b := 81) (by omega) (by decide)
    exact ⟨c, fun _ hp => br_t h hp, fun _ hp => br_t h hp⟩
  | succ d ih =>
    intro j c hj
    have h : ¬ (81 : Int32) ≤ nI j := nI_ge (b := 81) (by omega) (by decide)
    have hv : vp_in (nI j) 81 := vp_in_nI (by omega) (by decide)
    have hj1 : j < 81 := by omega
    have hpl := ps_pl_le j
    have e : ra (nI j).toNatClampNeg = nI (ps_pl j) := by rw [nI_clamp (by omega)]; exact hra j hj1
    by_cases hc : r ≤ ps_pl j
    · have hY : nI r ≤ nI (ps_pl j) := nI_le hc (by omega)
      have hX : nI r ≤ ra (nI j).toNatClampNeg := by rw [e]; exact hY
      obtain ⟨v, h1, h2⟩ := ih (j + 1) c (by omega)
      exact ⟨v, fun post hp => br_f h ⟨hv, br_t hX (nm_r (nI_1 j) (h1 post hp))⟩, fun post hp => br_f h (py_place hj1 (br_t hY (nm_r (nI_1 j) (h2 post hp))))⟩
    · have hY : ¬ nI r ≤ nI (ps_pl j) := nI_ge (by omega) (by omega)
      have hX : ¬ nI r ≤ ra (nI j).toNatClampNeg := by rw [e]; exact hY
      obtain ⟨v, h1, h2⟩ := ih (j + 1) (c + se (nI j).toNatClampNeg) (by omega)
      exact ⟨v, fun post hp => br_f h ⟨hv, br_f hX ⟨hv, nm_e (nm_r (nI_1 j) (h1 post hp))⟩⟩, fun post hp => br_f h (py_place hj1 (br_f hY ⟨hv, nm_e (nm_r (nI_1 j) (h2 post hp))⟩))⟩
