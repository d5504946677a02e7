/-! the owed statements: values, slopes, moves, live nodes -/
theorem i_vc_valueOf {k : Nat} {u : SX} {v : SY} (I : i_Rel k u v) (hk : k + 4 ≤ 2048) (v1 : Int32) (v2 : Int32) : wpX_valueOf (fun r u' => wpY_valueOf (fun r' v' => r' = r ∧ i_Rel (k + 4) u' v') v v1 v2) u v1 v2 := by
  obtain ⟨c, t, b, kd, f, s, tn, tw, xs, ms, pt, va, ra, re, wa, qa, sl, us, rfl, rfl, hw, ht⟩ := I
  unfold wpX_valueOf wpY_valueOf
  dsimp only
  have hc := hw.1
  rcases ts_ix v1 (n := 3) (by decide) with h | ⟨ch, hch, rfl⟩
  · exact tx_ch_f h (br_t rfl (ty_ch_f h (br_f ts_10 ⟨rfl, ts_I hw ht⟩)))
  rcases ts_ix v2 (n := c) (by omega) with h | ⟨i, hi, rfl⟩
  · exact tx_ch_t hch (br_f ts_10 (tx_nd_f h (br_t rfl (ty_ch_t hch (br_t rfl (ty_nd_f h (br_f ts_10 ⟨rfl, ts_I hw ht⟩)))))))
  · have hin : vp_in (nI i) 24 := vp_in_nI (by omega) (by decide)
    have hcl : (nI i).toNatClampNeg = i := nI_clamp (by omega)
    exact tx_ch_t hch (br_f ts_10 (tx_nd_t hc hi (br_f ts_10 (tx_go hch (fun p hp => tx_fv hw hp (fun w hv => ⟨hin, ty_ch_t hch (br_t rfl (ty_nd_t hc hi (br_t rfl (ty_wk hw hch (fun w' r' hv' hr' => ⟨hin, by show w' (nI i).toNatClampNeg = w (nI i).toNatClampNeg; rw [hcl, hv i hi, hv' i hi], ts_I hw ht⟩)))))⟩))))))
theorem i_vc_target {k : Nat} {u : SX} {v : SY} (I : i_Rel k u v) (hk : k + 4 ≤ 2048) (v1 : Int32) : wpX_target (fun r u' => wpY_target (fun r' v' => r' = r ∧ i_Rel (k + 4) u' v') v v1) u v1 := by
  obtain ⟨c, t, b, kd, f, s, tn, tw, xs, ms, pt, va, ra, re, wa, qa, sl, us, rfl, rfl, hw, ht⟩ := I
  unfold wpX_target wpY_target
  dsimp only
  rcases ts_ix v1 (n := 3) (by decide) with h | ⟨ch, hch, rfl⟩
  · exact tx_ch_f h (br_t rfl (ty_ch_f h (br_f ts_10 ⟨rfl, ts_I hw ht⟩)))
  · exact tx_ch_t hch (br_f ts_10 (tx_go hch (fun p hp => tx_fv hw hp (fun w hv => tx_wv hw.1 ht hv (ty_ch_t hch (br_t rfl (ty_wk hw hch (fun w' r' hv' hr' => ty_to hw.1 ht hv' ⟨rfl, ts_I hw ht⟩))))))))
theorem i_vc_slope {k : Nat} {u : SX} {v : SY} (I : i_Rel k u v) (hk : k + 4 ≤ 2048) (v1 : Int32) (v2 : Int32) : wpX_slope (fun r u' => wpY_slope (fun r' v' => r' = r ∧ i_Rel (k + 4) u' v') v v1 v2) u v1 v2 := by
  obtain ⟨c, t, b, kd, f, s, tn, tw, xs, ms, pt, va, ra, re, wa, qa, sl, us, rfl, rfl, hw, ht⟩ := I
  unfold wpX_slope wpY_slope
  dsimp only
  rcases ts_ix v1 (n := 3) (by decide) with h | ⟨ch, hch, rfl⟩
  · exact tx_ch_f h (br_t rfl (ty_ch_f h (br_f ts_10 ⟨rfl, ts_I hw ht⟩)))
  rcases ts_ix v2 (n := 4) (by decide) with h | ⟨i, hi, rfl⟩
  · exact tx_ch_t hch (br_f ts_10 (tx_pa_f h (br_t rfl (ty_ch_t hch (br_t rfl (ty_pa_f h (br_f ts_10 ⟨rfl, ts_I hw ht⟩)))))))
  · exact tx_ch_t hch (br_f ts_10 (tx_pa_t hi (br_f ts_10 (tx_go hch (fun p hp => tx_fv hw hp (fun w hv => tx_fs hw hv (fun r hr => tx_ws hw.1 ht hr (ty_ch_t hch (br_t rfl (ty_pa_t hi (br_t rfl (ty_wk hw hch (fun w' r' hv' hr' => ty_ss hw.1 ht hr' ⟨rfl, ts_I hw ht⟩)))))))))))))
theorem i_vc_drift {k : Nat} {u : SX} {v : SY} (I : i_Rel k u v) (hk : k + 4 ≤ 2048) (v1 : Int32) : wpX_drift (fun r u' => wpY_drift (fun r' v' => r' = r ∧ i_Rel (k + 4) u' v') v v1) u v1 := by
  obtain ⟨c, t, b, kd, f, s, tn, tw, xs, ms, pt, va, ra, re, wa, qa, sl, us, rfl, rfl, hw, ht⟩ := I
  unfold wpX_drift wpY_drift
  dsimp only
  rcases ts_ix v1 (n := 3) (by decide) with h | ⟨ch, hch, rfl⟩
  · exact tx_ch_f h (br_t rfl (ty_ch_f h (br_f ts_10 ⟨rfl, ts_I hw ht⟩)))
  · exact tx_ch_t hch (br_f ts_10 (tx_go hch (fun p hp => tx_fv hw hp (fun w hv => tx_dr hw ht hch hv (fun r => ty_ch_t hch (br_t rfl (ty_dr hw ht hch (fun w' r' => ⟨rfl, ts_I hw ht⟩))))))))
theorem i_vc_targetAt {k : Nat} {u : SX} {v : SY} (I : i_Rel k u v) (hk : k + 4 ≤ 2048) (v1 : Int32) (v2 : Int32) (v3 : Int32) : wpX_targetAt (fun r u' => wpY_targetAt (fun r' v' => r' = r ∧ i_Rel (k + 4) u' v') v v1 v2 v3) u v1 v2 v3 := by
  obtain ⟨c, t, b, kd, f, s, tn, tw, xs, ms, pt, va, ra, re, wa, qa, sl, us, rfl, rfl, hw, ht⟩ := I
  unfold wpX_targetAt wpY_targetAt
  dsimp only
  rcases ts_ix v1 (n := 3) (by decide) with h | ⟨ch, hch, rfl⟩
  · exact tx_ch_f h (br_t rfl (ty_ch_f h (br_f ts_10 ⟨rfl, ts_I hw ht⟩)))
  rcases ts_ix v2 (n := 4) (by decide) with h | ⟨i, hi, rfl⟩
  · exact tx_ch_t hch (br_f ts_10 (tx_pa_f h (br_t rfl (ty_ch_t hch (br_t rfl (ty_pa_f h (br_f ts_10 ⟨rfl, ts_I hw ht⟩)))))))
  · refine tx_ch_t hch (br_f ts_10 (tx_pa_t hi (br_f ts_10 (tx_go hch (fun p hp => ⟨vp_in_nI hi (by decide), fun p' ep => tx_fv (q := upd (ts_pt xs ch) i v3) hw (by rw [ep, nI_clamp (by omega)]; exact ts_u2 hp) (fun w hv => tx_wv hw.1 ht hv (ty_ch_t hch (br_t rfl (ty_pa_t hi (br_t rfl ⟨ty_in hch hi, fun y ey => ⟨ty_in hch hi, fun x' ex => ?_⟩⟩)))))⟩)))))
    rw [ty_cl hch hi] at ey ex
    subst ey ex
    refine ty_wk hw hch (fun w' r' hv' hr' => ⟨ty_in hch hi, fun x2 ex2 => ?_⟩)
    rw [ty_cl hch hi, ts_uu] at ex2
    subst ex2
    rw [ts_pt_u] at hv'
    exact ty_to hw.1 ht hv' ⟨rfl, ts_I hw ht⟩
theorem i_vc_leap {k : Nat} {u : SX} {v : SY} (I : i_Rel k u v) (hk : k + 4 ≤ 2048) (v1 : Int32) (v2 : Int32) : wpX_leap (fun r u' => wpY_leap (fun r' v' => r' = r ∧ i_Rel (k + 4) u' v') v v1 v2) u v1 v2 := by
  obtain ⟨c, t, b, kd, f, s, tn, tw, xs, ms, pt, va, ra, re, wa, qa, sl, us, rfl, rfl, hw, ht⟩ := I
  unfold wpX_leap wpY_leap
  dsimp only
  rcases ts_ix v1 (n := 3) (by decide) with h | ⟨ch, hch, rfl⟩
  · exact tx_ch_f h (br_t rfl (ty_ch_f h (br_f ts_10 ⟨rfl, ts_I hw ht⟩)))
  by_cases h0 : v2 < 0
  · exact tx_ch_t hch (br_f ts_10 (br_t h0 (ty_ch_t hch (br_t rfl (br_t h0 ⟨rfl, ts_I hw ht⟩)))))
  by_cases h2 : v2 ≤ 40
  · obtain ⟨m, hm, rfl⟩ := nI_of2 (M := 40) (n := 40) (by decide) h0 h2
    exact tx_ch_t hch (br_f ts_10 (br_f h0 (br_t h2 (tx_le hw ht hch hm (fun p w r => ty_ch_t hch (br_t rfl (br_f h0 (br_t h2 (ty_le hw ht hch hm (fun w' r' l' => ⟨rfl, ts_I hw ht⟩))))))))))
  · exact tx_ch_t hch (br_f ts_10 (br_f h0 (br_f h2 (ty_ch_t hch (br_t rfl (br_f h0 (br_f h2 ⟨rfl, ts_I hw ht⟩)))))))
theorem i_vc_turn {k : Nat} {u : SX} {v : SY} (I : i_Rel k u v) (hk : k + 4 ≤ 2048) (v1 : Int32) : wpX_turn (fun r u' => wpY_turn (fun r' v' => r' = r ∧ i_Rel (k + 4) u' v') v v1) u v1 := by
  obtain ⟨c, t, b, kd, f, s, tn, tw, xs, ms, pt, va, ra, re, wa, qa, sl, us, rfl, rfl, hw, ht⟩ := I
  unfold wpX_turn wpY_turn
  dsimp only
  rcases ts_ix v1 (n := 3) (by decide) with h | ⟨ch, hch, rfl⟩
  · exact tx_ch_f h (br_t rfl (ty_ch_f h (br_f ts_10 ⟨rfl, ts_I hw ht⟩)))
  · exact tx_ch_t hch (br_f ts_10 (tx_tu hch (ty_ch_t hch (br_t rfl (ty_tu hch ⟨rfl, ts_I hw ht⟩)))))
theorem i_vc_copy {k : Nat} {u : SX} {v : SY} (I : i_Rel k u v) (hk : k + 4 ≤ 2048) (v1 : Int32) (v2 : Int32) : wpX_copy (fun r u' => wpY_copy (fun r' v' => r' = r ∧ i_Rel (k + 4) u' v') v v1 v2) u v1 v2 := by
  obtain ⟨c, t, b, kd, f, s, tn, tw, xs, ms, pt, va, ra, re, wa, qa, sl, us, rfl, rfl, hw, ht⟩ := I
  unfold wpX_copy wpY_copy
  dsimp only
  rcases ts_ix v1 (n := 3) (by decide) with h | ⟨ch, hch, rfl⟩
  · exact tx_ch_f h (br_t rfl (ty_ch_f h (br_f ts_10 ⟨rfl, ts_I hw ht⟩)))
  rcases ts_ix v2 (n := 3) (by decide) with h | ⟨d, hd, rfl⟩
  · exact tx_ch_t hch (br_f ts_10 (tx_ch_f h (br_t rfl (ty_ch_t hch (br_t rfl (ty_ch_f h (br_f ts_10 ⟨rfl, ts_I hw ht⟩)))))))
  · exact tx_ch_t hch (br_f ts_10 (tx_ch_t hd (br_f ts_10 (tx_cp hch hd (ty_ch_t hch (br_t rfl (ty_ch_t hd (br_t rfl (ty_cp hch hd ⟨rfl, ts_I hw ht⟩)))))))))
theorem i_vc_live {k : Nat} {u : SX} {v : SY} (I : i_Rel k u v) (hk : k + 4 ≤ 2048) : wpX_live (fun r u' => wpY_live (fun r' v' => r' = r ∧ i_Rel (k + 4) u' v') v) u := by
  obtain ⟨c, t, b, kd, f, s, tn, tw, xs, ms, pt, va, ra, re, wa, qa, sl, us, rfl, rfl, hw, ht⟩ := I
  unfold wpX_live
  dsimp only
  exact tx_rt hw.1 ht (fun r hr => nm_r (ty_sub _) (tx_li hw hr (fun r2 => ty_lv hw ht (fun r3 => ⟨rfl, ts_I hw ht⟩))))
