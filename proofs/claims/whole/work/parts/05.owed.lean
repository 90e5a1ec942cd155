/-- both sides hold the same pictures and counts; X's ranks are the places' numbers -/
def i_Rel (k : Nat) (u : SX) (v : SY) : Prop := ∃ (h : Int32) (r : Nat) (dr se ra : Nat → Int32), u = (h, nI r, dr, se, ra) ∧ v = (h, nI r, dr, se) ∧ r ≤ 81 ∧ (h = 0 → r = 0) ∧ (∀ j, j < 81 → ra j = nI (ps_pl j))
theorem i_up {k : Nat} {u : SX} {v : SY} (h : i_Rel k u v) : i_Rel (k + 4) u v := h
theorem i_vc0 : wpX_init (fun u => wpY_init (fun v => i_Rel 0 u v)) :=
  px_init fun a ha => ⟨0, 0, fun _ => 0, fun _ => 0, a, rfl, rfl, Nat.zero_le 81, fun _ => rfl, ha⟩
theorem i_vc_draw {k : Nat} {u : SX} {v : SY} (I : i_Rel k u v) (hk : k + 4 ≤ 2048) (v1 : Int32) (v2 : Int32) (v3 : Int32) : wpX_draw (fun r u' => wpY_draw (fun r' v' => r' = r ∧ i_Rel (k + 4) u' v') v v1 v2 v3) u v1 v2 v3 := by
  obtain ⟨h, r, dr, se, ra, rfl, rfl, hr, hz, hra⟩ := I
  rcases pz_cases v1 v2 with ⟨i, j, hi, hj, rfl, rfl⟩ | ⟨hX, hY⟩
  · have hv : vp_in (nI (j * 9 + i)) 81 := vp_in_nI (by omega) (by decide)
    unfold wpX_draw wpY_draw
    refine pz_inX hi hj (br_f (by decide) (nm_r (pz_ix j i) ⟨hv, nm_e ⟨hv, nm_e (pz_inY hi hj (br_t rfl ?_))⟩⟩))
    rw [pz_iy j i]
    exact ⟨hv, nm_e ⟨hv, nm_e ⟨rfl, h, r, _, se, ra, rfl, rfl, hr, hz, hra⟩⟩⟩
  · unfold wpX_draw wpY_draw
    exact hX _ (br_t rfl (hY _ (br_f (by decide) ⟨rfl, h, r, dr, se, ra, rfl, rfl, hr, hz, hra⟩)))
theorem i_vc_ramp {k : Nat} {u : SX} {v : SY} (I : i_Rel k u v) (hk : k + 4 ≤ 2048) (v1 : Int32) (v2 : Int32) (v3 : Int32) : wpX_ramp (fun u' => wpY_ramp (fun v' => i_Rel (k + 4) u' v') v v1 v2 v3) u v1 v2 v3 := by
  obtain ⟨h, r, dr, se, ra, rfl, rfl, hr, hz, hra⟩ := I
  exact pr_X (pr_Y ⟨h, r, _, se, ra, rfl, rfl, hr, hz, hra⟩)
theorem i_vc_send {k : Nat} {u : SX} {v : SY} (I : i_Rel k u v) (hk : k + 4 ≤ 2048) : wpX_send (fun u' => wpY_send (fun v' => i_Rel (k + 4) u' v') v) u := by
  obtain ⟨h, r, dr, se, ra, rfl, rfl, hr, hz, hra⟩ := I
  exact pn_X (pn_Y ⟨1, 0, dr, _, ra, rfl, rfl, Nat.zero_le 81, fun _ => rfl, hra⟩)
theorem i_vc_receive {k : Nat} {u : SX} {v : SY} (I : i_Rel k u v) (hk : k + 4 ≤ 2048) (v1 : Int32) : wpX_receive (fun r u' => wpY_receive (fun r' v' => r' = r ∧ i_Rel (k + 4) u' v') v v1) u v1 := by
  obtain ⟨h, r, dr, se, ra, rfl, rfl, hr, hz, hra⟩ := I
  unfold wpX_receive wpY_receive
  have hs : (81 : Int32) - nI r = nI (81 - r) := pk_sub (a := 81) hr
  by_cases h0 : h = 0
  · exact br_t h0 (br_t h0 ⟨rfl, h, r, dr, se, ra, rfl, rfl, hr, hz, hra⟩)
  · refine br_f h0 (nm_r hs ?_)
    by_cases hn : v1 < 0
    · have z : (0 : Int32).toInt = 0 := by decide
      have h1 : v1 ≤ nI (81 - r) := by
        rw [Int32.lt_iff_toInt_lt, z] at hn
        rw [Int32.le_iff_toInt_le, nI_toInt (by omega)]
        omega
      have h2 : v1 ≤ 0 := by
        rw [Int32.lt_iff_toInt_lt, z] at hn
        rw [Int32.le_iff_toInt_le, z]
        omega
      have h3 : ¬ (0 : Int32) ≤ v1 := Int32.not_le.mpr hn
      have h4 : (0 : Int32) ≤ 81 - nI r := by
        rw [hs]
        exact nI_pos' (by omega)
      refine br_t h1 (br_t h2 (br_f h0 (br_f h3 (br_t h4 (nm_r (nI_add r 0) ?_)))))
      exact ⟨rfl, h, r, dr, se, ra, rfl, rfl, hr, hz, hra⟩
    · obtain ⟨c, hc, rfl⟩ := nI_of hn
      have h3 : (0 : Int32) ≤ nI c := nI_pos' hc
      by_cases hl : c ≤ 81 - r
      · have h1 : nI c ≤ nI (81 - r) := nI_le hl (by omega)
        have h4 : nI c ≤ 81 - nI r := by
          rw [hs]
          exact h1
        by_cases hc0 : c = 0
        · subst hc0
          refine br_t h1 (br_t (nI_le (a := 0) (b := 0) (by omega) (by decide)) (br_f h0 (br_t h3 (br_t h4 (nm_r (nI_add r 0) ?_)))))
          exact ⟨rfl, h, r, dr, se, ra, rfl, rfl, hr, hz, hra⟩
        · refine br_t h1 (br_f (nI_ge (a := 0) (b := c) (by omega) hc) (nm_r (nI_add r c) (br_f h0 (br_t h3 (br_t h4 (nm_r (nI_add r c) ?_))))))
          exact ⟨rfl, h, r + c, dr, se, ra, rfl, rfl, by omega, fun q => absurd q h0, hra⟩
      · have h1 : ¬ nI c ≤ nI (81 - r) := nI_ge (by omega) hc
        have h4 : ¬ nI c ≤ 81 - nI r := by
          rw [hs]
          exact h1
        refine br_f h1 (br_f h0 (br_t h3 (br_f h4 ?_)))
        exact ⟨rfl, h, 81, dr, se, ra, rfl, rfl, Nat.le_refl 81, fun q => absurd q h0, hra⟩
theorem i_vc_pixel {k : Nat} {u : SX} {v : SY} (I : i_Rel k u v) (hk : k + 4 ≤ 2048) (v1 : Int32) (v2 : Int32) : wpX_pixel (fun r => wpY_pixel (fun r' => r' = r ∧ i_Rel (k + 4) u v) v v1 v2) u v1 v2 := by
  have J : i_Rel (k + 4) u v := I
  obtain ⟨h, r, dr, se, ra, rfl, rfl, hr, hz, hra⟩ := I
  rcases pz_cases v1 v2 with ⟨i, j, hi, hj, rfl, rfl⟩ | ⟨hX, hY⟩
  · have hp : j * 9 + i < 81 := by omega
    have hv : vp_in (nI (j * 9 + i)) 81 := vp_in_nI hp (by decide)
    have hpl := ps_pl_le (j * 9 + i)
    have e : ra (nI (j * 9 + i)).toNatClampNeg = nI (ps_pl (j * 9 + i)) := by rw [nI_clamp (by omega)]; exact hra _ hp
    unfold wpX_pixel wpY_pixel
    refine pz_inX hi hj (br_f (by decide) (nm_r (pz_ix j i) ⟨hv, ?_⟩))
    by_cases hc : ps_pl (j * 9 + i) < r
    · have hYc : nI (ps_pl (j * 9 + i)) < nI r := nI_lt hc (by omega)
      have hXc : ra (nI (j * 9 + i)).toNatClampNeg < nI r := by rw [e]; exact hYc
      have h0 : ¬ h = 0 := fun q => by
        have := hz q
        omega
      refine br_t hXc ⟨hv, pz_inY hi hj (br_t rfl (br_f h0 ?_))⟩
      rw [pz_iy j i]
      exact py_place hp (br_t hYc ⟨hv, rfl, J⟩)
    · have hYc : ¬ nI (ps_pl (j * 9 + i)) < nI r := nI_nlt (by omega) (by omega)
      have hXc : ¬ ra (nI (j * 9 + i)).toNatClampNeg < nI r := by rw [e]; exact hYc
      refine br_f hXc (pz_inY hi hj (br_t rfl ?_))
      by_cases h0 : h = 0
      · exact br_t h0 ⟨rfl, J⟩
      · refine br_f h0 ?_
        rw [pz_iy j i]
        exact py_place hp (br_f hYc ⟨rfl, J⟩)
  · unfold wpX_pixel wpY_pixel
    exact hX _ (br_t rfl (hY _ (br_f (by decide) ⟨rfl, J⟩)))
theorem i_vc_rank {k : Nat} {u : SX} {v : SY} (I : i_Rel k u v) (hk : k + 4 ≤ 2048) (v1 : Int32) (v2 : Int32) : wpX_rank (fun r => wpY_rank (fun r' => r' = r ∧ i_Rel (k + 4) u v) v v1 v2) u v1 v2 := by
  have J : i_Rel (k + 4) u v := I
  obtain ⟨h, r, dr, se, ra, rfl, rfl, hr, hz, hra⟩ := I
  rcases pz_cases v1 v2 with ⟨i, j, hi, hj, rfl, rfl⟩ | ⟨hX, hY⟩
  · have hp : j * 9 + i < 81 := by omega
    have hv : vp_in (nI (j * 9 + i)) 81 := vp_in_nI hp (by decide)
    have e : ra (nI (j * 9 + i)).toNatClampNeg = nI (ps_pl (j * 9 + i)) := by rw [nI_clamp (by omega)]; exact hra _ hp
    unfold wpX_rank wpY_rank
    refine pz_inX hi hj (br_f (by decide) ?_)
    rw [pz_ix j i]
    refine ⟨hv, pz_inY hi hj (br_t rfl ?_)⟩
    rw [pz_iy j i]
    exact py_place hp ⟨e.symm, J⟩
  · unfold wpX_rank wpY_rank
    exact hX _ (br_t rfl (hY _ (br_f (by decide) ⟨rfl, J⟩)))
theorem i_vc_count {k : Nat} {u : SX} {v : SY} (I : i_Rel k u v) (hk : k + 4 ≤ 2048) (v1 : Int32) (v2 : Int32) : wpX_count (fun r => wpY_count (fun r' => r' = r ∧ i_Rel (k + 4) u v) v v1 v2) u v1 v2 := by
  have J : i_Rel (k + 4) u v := I
  obtain ⟨h, r, dr, se, ra, rfl, rfl, hr, hz, hra⟩ := I
  obtain ⟨c, hX, hY⟩ := pc_go (lo := v1) (hi := v2) (fh := h) (dr := dr) (se := se) hr hra 81 0 0 rfl
  exact ⟨81 + 1, hX _ ⟨81 + 1, hY _ ⟨rfl, J⟩⟩⟩
theorem i_vc_sum {k : Nat} {u : SX} {v : SY} (I : i_Rel k u v) (hk : k + 4 ≤ 2048) : wpX_sum (fun r => wpY_sum (fun r' => r' = r ∧ i_Rel (k + 4) u v) v) u := by
  have J : i_Rel (k + 4) u v := I
  obtain ⟨h, r, dr, se, ra, rfl, rfl, hr, hz, hra⟩ := I
  obtain ⟨c, hX, hY⟩ := pm_go (fh := h) (dr := dr) (se := se) hr hra 81 0 0 rfl
  exact ⟨81 + 1, hX _ ⟨81 + 1, hY _ ⟨rfl, J⟩⟩⟩
