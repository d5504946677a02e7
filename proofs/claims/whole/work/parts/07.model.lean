/-! the owed statements: building the model, the chains' cells -/
theorem i_vc_parameter {k : Nat} {u : SX} {v : SY} (I : i_Rel k u v) (hk : k + 4 ≤ 2048) (v1 : Int32) : wpX_parameter (fun r u' => wpY_parameter (fun r' v' => r' = r ∧ i_Rel (k + 4) u' v') v v1) u v1 := by
  obtain ⟨c, t, b, kd, f, s, tn, tw, xs, ms, pt, va, ra, re, wa, qa, sl, us, rfl, rfl, hw, ht⟩ := I
  unfold wpX_parameter wpY_parameter
  dsimp only
  rcases ts_ix v1 (n := 4) (by decide) with h | ⟨i, hi, rfl⟩
  · exact tx_pa_f h (br_t rfl (ty_pa_f h (br_f ts_10 ⟨rfl, ts_I hw ht⟩)))
  · by_cases hc : c < 24
    · exact tx_pa_t hi (br_f ts_10 (br_t (ts_l24 hc) (tx_add hc (ty_pa_t hi (br_t rfl (ty_add hc ⟨rfl, ts_I (ts_wf_add hw hc (Or.inr (Or.inl ⟨rfl, i, hi, rfl⟩))) (ts_tm_up ht)⟩))))))
    · have hc24 := hw.1
      exact tx_pa_t hi (br_f ts_10 (br_f (ts_n24 hc hc24) (ty_pa_t hi (br_t rfl (ty_full (by omega) ⟨rfl, ts_I hw ht⟩)))))
theorem i_vc_constant {k : Nat} {u : SX} {v : SY} (I : i_Rel k u v) (hk : k + 4 ≤ 2048) (v1 : Int32) : wpX_constant (fun r u' => wpY_constant (fun r' v' => r' = r ∧ i_Rel (k + 4) u' v') v v1) u v1 := by
  obtain ⟨c, t, b, kd, f, s, tn, tw, xs, ms, pt, va, ra, re, wa, qa, sl, us, rfl, rfl, hw, ht⟩ := I
  unfold wpX_constant wpY_constant
  dsimp only
  by_cases hc : c < 24
  · exact br_t (ts_l24 hc) (tx_add hc (ty_add hc ⟨rfl, ts_I (ts_wf_add hw hc (Or.inr (Or.inr rfl))) (ts_tm_up ht)⟩))
  · have hc24 := hw.1
    exact br_f (ts_n24 hc hc24) (ty_full (by omega) ⟨rfl, ts_I hw ht⟩)
theorem i_vc_combine {k : Nat} {u : SX} {v : SY} (I : i_Rel k u v) (hk : k + 4 ≤ 2048) (v1 : Int32) (v2 : Int32) (v3 : Int32) : wpX_combine (fun r u' => wpY_combine (fun r' v' => r' = r ∧ i_Rel (k + 4) u' v') v v1 v2 v3) u v1 v2 v3 := by
  obtain ⟨c, t, b, kd, f, s, tn, tw, xs, ms, pt, va, ra, re, wa, qa, sl, us, rfl, rfl, hw, ht⟩ := I
  unfold wpX_combine wpY_combine
  dsimp only
  have hc24 := hw.1
  by_cases h0 : v1 < 0
  · exact br_t h0 (br_t h0 ⟨rfl, ts_I hw ht⟩)
  by_cases h2 : v1 ≤ 2
  · by_cases hc : c < 24
    · rcases ts_ix v2 (n := c) (by omega) with hb | ⟨i, hi, rfl⟩
      · exact br_f h0 (br_t h2 (br_t (ts_l24 hc) (tx_nd_f hb (br_t rfl (br_f h0 (br_t h2 (br_t (ts_l23 hc) (ty_nd_f hb (br_f ts_10 ⟨rfl, ts_I hw ht⟩)))))))))
      · rcases ts_ix v3 (n := c) (by omega) with hb | ⟨j, hj, rfl⟩
        · exact br_f h0 (br_t h2 (br_t (ts_l24 hc) (tx_nd_t hc24 hi (br_f ts_10 (tx_nd_f hb (br_t rfl (br_f h0 (br_t h2 (br_t (ts_l23 hc) (ty_nd_t hc24 hi (br_t rfl (ty_nd_f hb (br_f ts_10 ⟨rfl, ts_I hw ht⟩)))))))))))))
        · have hkd : v1 = 0 ∨ v1 = 1 ∨ v1 = 2 := by
            obtain ⟨q, hq, rfl⟩ := nI_of2 (M := 2) (n := 2) (by decide) h0 h2
            have hq3 : q = 0 ∨ q = 1 ∨ q = 2 := by omega
            rcases hq3 with rfl | rfl | rfl
            · exact Or.inl rfl
            · exact Or.inr (Or.inl rfl)
            · exact Or.inr (Or.inr rfl)
          have hn : v1 = 0 ∨ v1 = 1 ∨ v1 = 2 ∨ (v1 = 3 ∧ i = j) := by
            rcases hkd with z | z | z
            · exact Or.inl z
            · exact Or.inr (Or.inl z)
            · exact Or.inr (Or.inr (Or.inl z))
          exact br_f h0 (br_t h2 (br_t (ts_l24 hc) (tx_nd_t hc24 hi (br_f ts_10 (tx_nd_t hc24 hj (br_f ts_10 (tx_add hc (br_f h0 (br_t h2 (br_t (ts_l23 hc) (ty_nd_t hc24 hi (br_t rfl (ty_nd_t hc24 hj (br_t rfl (ty_add hc ⟨rfl, ts_I (ts_wf_add hw hc (Or.inl ⟨i, j, hi, hj, rfl, rfl, hn⟩)) (ts_tm_up ht)⟩)))))))))))))))
    · exact br_f h0 (br_t h2 (br_f (ts_n24 hc hc24) (br_f h0 (br_t h2 (br_f (ts_n23 hc hc24) ⟨rfl, ts_I hw ht⟩)))))
  · exact br_f h0 (br_f h2 (br_f h0 (br_f h2 ⟨rfl, ts_I hw ht⟩)))
theorem i_vc_square {k : Nat} {u : SX} {v : SY} (I : i_Rel k u v) (hk : k + 4 ≤ 2048) (v1 : Int32) : wpX_square (fun r u' => wpY_square (fun r' v' => r' = r ∧ i_Rel (k + 4) u' v') v v1) u v1 := by
  obtain ⟨c, t, b, kd, f, s, tn, tw, xs, ms, pt, va, ra, re, wa, qa, sl, us, rfl, rfl, hw, ht⟩ := I
  unfold wpX_square wpY_square
  dsimp only
  have hc24 := hw.1
  by_cases hc : c < 24
  · rcases ts_ix v1 (n := c) (by omega) with hb | ⟨i, hi, rfl⟩
    · exact br_t (ts_l24 hc) (tx_nd_f hb (br_t rfl (br_t (ts_l23 hc) (ty_nd_f hb (br_f ts_10 ⟨rfl, ts_I hw ht⟩)))))
    · exact br_t (ts_l24 hc) (tx_nd_t hc24 hi (br_f ts_10 (tx_add hc (br_t (ts_l23 hc) (ty_nd_t hc24 hi (br_t rfl (ty_add hc ⟨rfl, ts_I (ts_wf_add hw hc (Or.inl ⟨i, i, hi, hi, rfl, rfl, Or.inr (Or.inr (Or.inr ⟨rfl, rfl⟩))⟩)) (ts_tm_up ht)⟩)))))))
  · exact br_f (ts_n24 hc hc24) (br_f (ts_n23 hc hc24) ⟨rfl, ts_I hw ht⟩)
theorem i_vc_term {k : Nat} {u : SX} {v : SY} (I : i_Rel k u v) (hk : k + 4 ≤ 2048) (v1 : Int32) (v2 : Int32) : wpX_term (fun r u' => wpY_term (fun r' v' => r' = r ∧ i_Rel (k + 4) u' v') v v1 v2) u v1 v2 := by
  obtain ⟨c, t, b, kd, f, s, tn, tw, xs, ms, pt, va, ra, re, wa, qa, sl, us, rfl, rfl, hw, ht⟩ := I
  unfold wpX_term wpY_term
  dsimp only
  have hc24 := hw.1
  have ht8 := ht.1
  rcases ts_ix v1 (n := c) (by omega) with hb | ⟨i, hi, rfl⟩
  · exact tx_nd_f hb (br_t rfl (ty_nd_f hb (br_f ts_10 ⟨rfl, ts_I hw ht⟩)))
  by_cases h0 : v2 < (-20)
  · exact tx_nd_t hc24 hi (br_f ts_10 (br_t h0 (ty_nd_t hc24 hi (br_t rfl (br_t h0 ⟨rfl, ts_I hw ht⟩)))))
  by_cases h2 : v2 ≤ 20
  · by_cases h8 : t < 8
    · have hin : vp_in (nI t) 8 := vp_in_nI h8 (by decide)
      have hcl : (nI t).toNatClampNeg = t := nI_clamp (by omega)
      refine tx_nd_t hc24 hi (br_f ts_10 (br_f h0 (br_t h2 (br_t (ts_l8 h8) ⟨hin, fun a ea => ⟨hin, fun a2 ea2 => nm_r (nI_1 t) (ty_nd_t hc24 hi (br_t rfl (br_f h0 (br_t h2 (br_t (ts_l7 h8) ⟨hin, fun a3 ea3 => ⟨hin, fun a4 ea4 => nm_r (nI_1 t) ?_⟩⟩)))))⟩⟩))))
      rw [hcl] at ea ea2 ea3 ea4
      subst ea ea2 ea3 ea4
      exact ⟨rfl, ts_I hw (ts_tm_add ht h8 hi)⟩
    · exact tx_nd_t hc24 hi (br_f ts_10 (br_f h0 (br_t h2 (br_f (ts_n8 h8 ht8) (ty_nd_t hc24 hi (br_t rfl (br_f h0 (br_t h2 (br_f (ts_n7 h8 ht8) ⟨rfl, ts_I hw ht⟩)))))))))
  · exact tx_nd_t hc24 hi (br_f ts_10 (br_f h0 (br_f h2 (ty_nd_t hc24 hi (br_t rfl (br_f h0 (br_f h2 ⟨rfl, ts_I hw ht⟩)))))))
theorem i_vc_clear {k : Nat} {u : SX} {v : SY} (I : i_Rel k u v) (hk : k + 4 ≤ 2048) : wpX_clear (fun r u' => wpY_clear (fun r' v' => r' = r ∧ i_Rel (k + 4) u' v') v) u := by
  obtain ⟨c, t, b, kd, f, s, tn, tw, xs, ms, pt, va, ra, re, wa, qa, sl, us, rfl, rfl, hw, ht⟩ := I
  unfold wpX_clear wpY_clear
  dsimp only
  exact ⟨rfl, ts_I (k := k + 4) (c := 0) (t := 0) ⟨by decide, fun k hk => absurd hk (by omega)⟩ ⟨by decide, fun k hk => absurd hk (by omega)⟩⟩
theorem i_vc_nodes {k : Nat} {u : SX} {v : SY} (I : i_Rel k u v) (hk : k + 4 ≤ 2048) : wpX_nodes (fun r => wpY_nodes (fun r' => r' = r ∧ i_Rel (k + 4) u v) v) u := by
  obtain ⟨c, t, b, kd, f, s, tn, tw, xs, ms, pt, va, ra, re, wa, qa, sl, us, rfl, rfl, hw, ht⟩ := I
  unfold wpX_nodes wpY_nodes
  dsimp only
  exact ⟨rfl, ts_I hw ht⟩
theorem i_vc_terms {k : Nat} {u : SX} {v : SY} (I : i_Rel k u v) (hk : k + 4 ≤ 2048) : wpX_terms (fun r => wpY_terms (fun r' => r' = r ∧ i_Rel (k + 4) u v) v) u := by
  obtain ⟨c, t, b, kd, f, s, tn, tw, xs, ms, pt, va, ra, re, wa, qa, sl, us, rfl, rfl, hw, ht⟩ := I
  unfold wpX_terms wpY_terms
  dsimp only
  exact ⟨rfl, ts_I hw ht⟩
theorem i_vc_place {k : Nat} {u : SX} {v : SY} (I : i_Rel k u v) (hk : k + 4 ≤ 2048) (v1 : Int32) (v2 : Int32) (v3 : Int32) : wpX_place (fun r u' => wpY_place (fun r' v' => r' = r ∧ i_Rel (k + 4) u' v') v v1 v2 v3) u v1 v2 v3 := by
  obtain ⟨c, t, b, kd, f, s, tn, tw, xs, ms, pt, va, ra, re, wa, qa, sl, us, rfl, rfl, hw, ht⟩ := I
  unfold wpX_place wpY_place
  dsimp only
  rcases ts_ix v1 (n := 3) (by decide) with h | ⟨ch, hch, rfl⟩
  · exact tx_ch_f h (br_t rfl (ty_ch_f h (br_f ts_10 ⟨rfl, ts_I hw ht⟩)))
  rcases ts_ix v2 (n := 4) (by decide) with h | ⟨i, hi, rfl⟩
  · exact tx_ch_t hch (br_f ts_10 (tx_pa_f h (br_t rfl (ty_ch_t hch (br_t rfl (ty_pa_f h (br_f ts_10 ⟨rfl, ts_I hw ht⟩)))))))
  · refine tx_ch_t hch (br_f ts_10 (tx_pa_t hi (br_f ts_10 ⟨tx_in hch hi, fun a ea => ty_ch_t hch (br_t rfl (ty_pa_t hi (br_t rfl ⟨ty_in hch hi, fun a2 ea2 => ?_⟩)))⟩)))
    rw [tx_cl hch hi] at ea
    rw [ty_cl hch hi] at ea2
    subst ea ea2
    exact ⟨rfl, ts_I hw ht⟩
theorem i_vc_push {k : Nat} {u : SX} {v : SY} (I : i_Rel k u v) (hk : k + 4 ≤ 2048) (v1 : Int32) (v2 : Int32) (v3 : Int32) : wpX_push (fun r u' => wpY_push (fun r' v' => r' = r ∧ i_Rel (k + 4) u' v') v v1 v2 v3) u v1 v2 v3 := by
  obtain ⟨c, t, b, kd, f, s, tn, tw, xs, ms, pt, va, ra, re, wa, qa, sl, us, rfl, rfl, hw, ht⟩ := I
  unfold wpX_push wpY_push
  dsimp only
  rcases ts_ix v1 (n := 3) (by decide) with h | ⟨ch, hch, rfl⟩
  · exact tx_ch_f h (br_t rfl (ty_ch_f h (br_f ts_10 ⟨rfl, ts_I hw ht⟩)))
  rcases ts_ix v2 (n := 4) (by decide) with h | ⟨i, hi, rfl⟩
  · exact tx_ch_t hch (br_f ts_10 (tx_pa_f h (br_t rfl (ty_ch_t hch (br_t rfl (ty_pa_f h (br_f ts_10 ⟨rfl, ts_I hw ht⟩)))))))
  · refine tx_ch_t hch (br_f ts_10 (tx_pa_t hi (br_f ts_10 ⟨tx_in hch hi, fun a ea => ty_ch_t hch (br_t rfl (ty_pa_t hi (br_t rfl ⟨ty_in hch hi, fun a2 ea2 => ?_⟩)))⟩)))
    rw [tx_cl hch hi] at ea
    rw [ty_cl hch hi] at ea2
    subst ea ea2
    exact ⟨rfl, ts_I hw ht⟩
theorem i_vc_shift {k : Nat} {u : SX} {v : SY} (I : i_Rel k u v) (hk : k + 4 ≤ 2048) (v1 : Int32) : wpX_shift (fun r u' => wpY_shift (fun r' v' => r' = r ∧ i_Rel (k + 4) u' v') v v1) u v1 := by
  obtain ⟨c, t, b, kd, f, s, tn, tw, xs, ms, pt, va, ra, re, wa, qa, sl, us, rfl, rfl, hw, ht⟩ := I
  unfold wpX_shift wpY_shift
  dsimp only
  exact br_c (fun h0 => br_t h0 ⟨rfl, ts_I hw ht⟩) (fun h0 => br_c (fun h2 => br_f h0 (br_t h2 ⟨rfl, ts_I hw ht⟩)) (fun h2 => br_f h0 (br_f h2 ⟨rfl, ts_I hw ht⟩)))
theorem i_vc_position {k : Nat} {u : SX} {v : SY} (I : i_Rel k u v) (hk : k + 4 ≤ 2048) (v1 : Int32) (v2 : Int32) : wpX_position (fun r => wpY_position (fun r' => r' = r ∧ i_Rel (k + 4) u v) v v1 v2) u v1 v2 := by
  obtain ⟨c, t, b, kd, f, s, tn, tw, xs, ms, pt, va, ra, re, wa, qa, sl, us, rfl, rfl, hw, ht⟩ := I
  unfold wpX_position wpY_position
  dsimp only
  rcases ts_ix v1 (n := 3) (by decide) with h | ⟨ch, hch, rfl⟩
  · exact tx_ch_f h (br_t rfl (ty_ch_f h (br_f ts_10 ⟨rfl, ts_I hw ht⟩)))
  rcases ts_ix v2 (n := 4) (by decide) with h | ⟨i, hi, rfl⟩
  · exact tx_ch_t hch (br_f ts_10 (tx_pa_f h (br_t rfl (ty_ch_t hch (br_t rfl (ty_pa_f h (br_f ts_10 ⟨rfl, ts_I hw ht⟩)))))))
  · exact tx_ch_t hch (br_f ts_10 (tx_pa_t hi (br_f ts_10 ⟨tx_in hch hi, ty_ch_t hch (br_t rfl (ty_pa_t hi (br_t rfl ⟨ty_in hch hi, by rw [tx_cl hch hi, ty_cl hch hi], ts_I hw ht⟩)))⟩)))
theorem i_vc_momentum {k : Nat} {u : SX} {v : SY} (I : i_Rel k u v) (hk : k + 4 ≤ 2048) (v1 : Int32) (v2 : Int32) : wpX_momentum (fun r => wpY_momentum (fun r' => r' = r ∧ i_Rel (k + 4) u v) v v1 v2) u v1 v2 := by
  obtain ⟨c, t, b, kd, f, s, tn, tw, xs, ms, pt, va, ra, re, wa, qa, sl, us, rfl, rfl, hw, ht⟩ := I
  unfold wpX_momentum wpY_momentum
  dsimp only
  rcases ts_ix v1 (n := 3) (by decide) with h | ⟨ch, hch, rfl⟩
  · exact tx_ch_f h (br_t rfl (ty_ch_f h (br_f ts_10 ⟨rfl, ts_I hw ht⟩)))
  rcases ts_ix v2 (n := 4) (by decide) with h | ⟨i, hi, rfl⟩
  · exact tx_ch_t hch (br_f ts_10 (tx_pa_f h (br_t rfl (ty_ch_t hch (br_t rfl (ty_pa_f h (br_f ts_10 ⟨rfl, ts_I hw ht⟩)))))))
  · exact tx_ch_t hch (br_f ts_10 (tx_pa_t hi (br_f ts_10 ⟨tx_in hch hi, ty_ch_t hch (br_t rfl (ty_pa_t hi (br_t rfl ⟨ty_in hch hi, by rw [tx_cl hch hi, ty_cl hch hi], ts_I hw ht⟩)))⟩)))
