/-! the component: drift, kick, glide, leap, turn, copy, live -/
theorem ts_u2 {a b : Nat → Int32} {N q : Nat} {x : Int32} (h : ∀ j, j < N → a j = b j) : ∀ j, j < N → upd a q x j = upd b q x j := by
  intro j hj
  by_cases e : j = q
  · subst e; rw [pk_us, pk_us]
  · rw [pk_un e, pk_un e, h j hj]
theorem ts_lv0 {kd f s u : Nat → Int32} {k : Nat} {n : Int32} (h : u k = 0) : ts_lv kd f s (k + 1) u n = ts_lv kd f s k u n := if_pos h
theorem ts_lv1 {kd f s u : Nat → Int32} {k : Nat} {n : Int32} (h : ¬ u k = 0) : ts_lv kd f s (k + 1) u n = ts_lv kd f s k (ts_mk kd f s u k) (n + 1) := if_neg h
theorem ts_mk1 {kd f s u : Nat → Int32} {k : Nat} (h : kd k = 0 ∨ kd k = 1 ∨ kd k = 2 ∨ kd k = 3) : ts_mk kd f s u k = upd (upd u (f k).toNatClampNeg 1) (s k).toNatClampNeg 1 := if_pos h
theorem ts_mk4 {kd f s u : Nat → Int32} {k : Nat} (h : kd k = 4) : ts_mk kd f s u k = u := by
  unfold ts_mk
  rw [if_neg (by rw [h]; decide)]
theorem ts_mk5 {kd f s u : Nat → Int32} {k : Nat} (h : kd k = 5) : ts_mk kd f s u k = u := by
  unfold ts_mk
  rw [if_neg (by rw [h]; decide)]
section
variable {c t ch d : Nat} {b : Int32} {kd f s tn tw xs ms pt va ra re : Nat → Int32}
theorem tx_dr {post : Int32 → SX → Prop} (hw : ts_wf kd f s c) (ht : ts_tm tn c t) (hch : ch < 3) (hv : ∀ j, j < c → va j = ts_V kd f s (ts_pt xs ch) j)
    (h : ∀ r : Nat → Int32, post (ts_D ms (4 * ch) (ts_G kd f s tw tn t (ts_pt xs ch)) 4) (nI c, nI t, b, kd, f, s, tn, tw, xs, ms, pt, va, r, re)) : ∃ n, wX_drift_22 post (nI ch) n 0 0 (nI c) (nI t) b kd f s tn tw xs ms pt va ra re :=
  loop_0 (fun n i (z : Int32 × (Nat → Int32)) => wX_drift_22 post (nI ch) n z.1 (nI i) (nI c) (nI t) b kd f s tn tw xs ms pt va z.2 re) (fun i z => z.1 = ts_D ms (4 * ch) (ts_G kd f s tw tn t (ts_pt xs ch)) i) 4 (0, ra) rfl
    (fun n z e => br_t (nI_le (a := 4) (b := 4) (by decide) (by decide)) (by rw [e]; exact h z.2))
    (fun n i z hi e H => br_f (nI_ge (b := 4) hi (by decide)) (tx_fs hw hv (fun r hr => ⟨tx_in hch hi, tx_ws hw.1 ht hr (fun y ey => nm_r (nI_1 i) (H (y, r) (by show y = _; rw [ey, e, tx_cl hch hi]; rfl)))⟩)))
theorem tx_ki {post : SX → Prop} (hw : ts_wf kd f s c) (ht : ts_tm tn c t) (hch : ch < 3)
    (h : ∀ p v r : Nat → Int32, post (nI c, nI t, b, kd, f, s, tn, tw, xs, ts_k kd f s tw tn t (fun x => x >>> (b &&& 31)) ch xs ms, p, v, r, re)) : wpX_kick post (nI c, nI t, b, kd, f, s, tn, tw, xs, ms, pt, va, ra, re) (nI ch) :=
  tx_go hch (fun p hp => tx_fv hw hp (fun v hv =>
    loop_0 (fun n i (z : (Nat → Int32) × (Nat → Int32)) => wX_kick_11 post (nI ch) n (nI i) (nI c) (nI t) b kd f s tn tw xs z.1 p v z.2 re) (fun i z => z.1 = ts_A ms (4 * ch) (fun i => ts_G kd f s tw tn t (ts_pt xs ch) i >>> (b &&& 31)) i) 4 (ms, ra) rfl
      (fun n z e => br_t (nI_le (a := 4) (b := 4) (by decide) (by decide)) (by rw [e]; exact h p v z.2))
      (fun n i z hi e H => br_f (nI_ge (b := 4) hi (by decide)) (tx_fs hw hv (fun r hr => ⟨tx_in hch hi, tx_ws hw.1 ht hr ⟨tx_in hch hi, fun y ey => nm_r (nI_1 i) (H (y, r) (by show y = _; rw [ey, e, tx_cl hch hi]; rfl))⟩⟩)))))
theorem tx_gl {post : SX → Prop} (hch : ch < 3) (h : post (nI c, nI t, b, kd, f, s, tn, tw, ts_g ch xs ms, ms, pt, va, ra, re)) : wpX_glide post (nI c, nI t, b, kd, f, s, tn, tw, xs, ms, pt, va, ra, re) (nI ch) :=
  loop_0 (fun n i (z : Nat → Int32) => wX_glide_2 post (nI ch) (nI c) (nI t) b n (nI i) kd f s tn tw z ms pt va ra re) (fun i z => z = ts_A xs (4 * ch) (fun i => ms (4 * ch + i)) i) 4 xs rfl
    (fun n z e => br_t (nI_le (a := 4) (b := 4) (by decide) (by decide)) (by rw [e]; exact h))
    (fun n i z hi e H => br_f (nI_ge (b := 4) hi (by decide)) ⟨tx_in hch hi, tx_in hch hi, tx_in hch hi, fun y ey => nm_r (nI_1 i) (H y (by rw [ey, e, tx_cl hch hi]; rfl))⟩)
theorem tx_le {post : Int32 → SX → Prop} {m : Nat} (hw : ts_wf kd f s c) (ht : ts_tm tn c t) (hch : ch < 3) (hm : m ≤ 40)
    (h : ∀ p v r : Nat → Int32, post (ts_T kd f s tw tn t (ts_pt (ts_L kd f s tw tn t (fun x => x >>> (b &&& 31)) ch xs ms m).1 ch) &&& 255) (nI c, nI t, b, kd, f, s, tn, tw, (ts_L kd f s tw tn t (fun x => x >>> (b &&& 31)) ch xs ms m).1, (ts_L kd f s tw tn t (fun x => x >>> (b &&& 31)) ch xs ms m).2, p, v, r, re)) : ∃ n, wX_leap_24 post (nI ch) (nI m) n 0 (nI c) (nI t) b kd f s tn tw xs ms pt va ra re :=
  loop_0 (fun n i (z : (Nat → Int32) × (Nat → Int32) × (Nat → Int32) × (Nat → Int32) × (Nat → Int32)) => wX_leap_24 post (nI ch) (nI m) n (nI i) (nI c) (nI t) b kd f s tn tw z.1 z.2.1 z.2.2.1 z.2.2.2.1 z.2.2.2.2 re)
    (fun i z => z.1 = (ts_L kd f s tw tn t (fun x => x >>> (b &&& 31)) ch xs ms i).1 ∧ z.2.1 = (ts_L kd f s tw tn t (fun x => x >>> (b &&& 31)) ch xs ms i).2) m (xs, ms, pt, va, ra) ⟨rfl, rfl⟩
    (fun n z hz => br_t (Int32.le_refl _) (tx_go hch (fun p hp => tx_fv hw hp (fun v hv => tx_wv hw.1 ht hv (by
      have h9 := h p v z.2.2.2.2
      rw [← hz.1, ← hz.2] at h9
      exact h9)))))
    (fun n i z hi hz H => br_f (nI_ge hi (by omega)) (tx_ki hw ht hch (fun p v r => tx_gl hch (tx_ki hw ht hch (fun p2 v2 r2 => nm_r (nI_1 i) (H (ts_g ch z.1 (ts_k kd f s tw tn t (fun x => x >>> (b &&& 31)) ch z.1 z.2.1), ts_k kd f s tw tn t (fun x => x >>> (b &&& 31)) ch (ts_g ch z.1 (ts_k kd f s tw tn t (fun x => x >>> (b &&& 31)) ch z.1 z.2.1)) (ts_k kd f s tw tn t (fun x => x >>> (b &&& 31)) ch z.1 z.2.1), p2, v2, r2)
      ⟨by rw [hz.1, hz.2]; rfl, by rw [hz.1, hz.2]; rfl⟩))))))
theorem tx_tu {post : Int32 → SX → Prop} (hch : ch < 3) (h : post 0 (nI c, nI t, b, kd, f, s, tn, tw, xs, ts_N ms (4 * ch) 4, pt, va, ra, re)) : ∃ n, wX_turn_11 post (nI ch) (nI c) (nI t) b n 0 kd f s tn tw xs ms pt va ra re :=
  loop_0 (fun n i (z : Nat → Int32) => wX_turn_11 post (nI ch) (nI c) (nI t) b n (nI i) kd f s tn tw xs z pt va ra re) (fun i z => z = ts_N ms (4 * ch) i) 4 ms rfl
    (fun n z e => br_t (nI_le (a := 4) (b := 4) (by decide) (by decide)) (by rw [e]; exact h))
    (fun n i z hi e H => br_f (nI_ge (b := 4) hi (by decide)) ⟨tx_in hch hi, tx_in hch hi, fun y ey => nm_r (nI_1 i) (H y (by rw [ey, e, tx_cl hch hi]; rfl))⟩)
theorem tx_cp {post : Int32 → SX → Prop} (hch : ch < 3) (hd : d < 3) (h : post 0 (nI c, nI t, b, kd, f, s, tn, tw, ts_C xs (4 * ch) (4 * d) 4, ts_C ms (4 * ch) (4 * d) 4, pt, va, ra, re)) : ∃ n, wX_copy_18 post (nI ch) (nI d) (nI c) (nI t) b n 0 kd f s tn tw xs ms pt va ra re :=
  loop_0 (fun n i (z : (Nat → Int32) × (Nat → Int32)) => wX_copy_18 post (nI ch) (nI d) (nI c) (nI t) b n (nI i) kd f s tn tw z.1 z.2 pt va ra re) (fun i z => z.1 = ts_C xs (4 * ch) (4 * d) i ∧ z.2 = ts_C ms (4 * ch) (4 * d) i) 4 (xs, ms) ⟨rfl, rfl⟩
    (fun n z hz => br_t (nI_le (a := 4) (b := 4) (by decide) (by decide)) (by rw [hz.1, hz.2]; exact h))
    (fun n i z hi hz H => br_f (nI_ge (b := 4) hi (by decide)) ⟨tx_in hch hi, tx_in hd hi, fun y ey => ⟨tx_in hch hi, tx_in hd hi, fun y2 ey2 => nm_r (nI_1 i) (H (y, y2) ⟨by show y = _; rw [ey, tx_cl hch hi, tx_cl hd hi, hz.1]; rfl, by show y2 = _; rw [ey2, tx_cl hch hi, tx_cl hd hi, hz.2]; rfl⟩)⟩⟩)
theorem tx_rt {post : SX → Prop} (hc : c ≤ 24) (ht : ts_tm tn c t) (h : ∀ r : Nat → Int32, (∀ j, j < 24 → r j = ts_us tn t j) → post (nI c, nI t, b, kd, f, s, tn, tw, xs, ms, pt, va, ra, r)) : wpX_reachTermNodes post (nI c, nI t, b, kd, f, s, tn, tw, xs, ms, pt, va, ra, re) := by
  have ht8 := ht.1
  exact loop_0 (fun n i (r : Nat → Int32) => wX_reachTermNodes_2 post (nI c) (nI t) b n (nI i) kd f s tn tw xs ms pt va ra r) (fun i r => ∀ j, j < i → r j = 0) 24 re
    (fun j hj => absurd hj (by omega))
    (fun n r hr => br_t (nI_le (a := 24) (b := 24) (by decide) (by decide))
      (loop_0 (fun n i (r : Nat → Int32) => wX_reachTermNodes_23 post (nI c) (nI t) b n (nI i) kd f s tn tw xs ms pt va ra r) (fun i r => ∀ j, j < 24 → r j = ts_us tn i j) t r
        (fun j hj => hr j hj)
        (fun n r hr => br_t (Int32.le_refl _) (h r hr))
        (fun n i r hi hr H => br_f (nI_ge hi (by omega)) ⟨vp_in_nI (by omega) (by decide), by
          rw [nI_clamp (by omega)]
          obtain ⟨a, ha, ea⟩ := ht.2 i hi
          rw [ea]
          exact vp_in_nI (by omega) (by decide), fun r' e => nm_r (nI_1 i) (H r' (by rw [e, nI_clamp (by omega), tx_b1]; exact ts_u2 hr))⟩)))
    (fun n i r hi hr H => br_f (nI_ge (b := 24) hi (by decide)) ⟨vp_in_nI hi (by decide), fun r' e => nm_r (nI_1 i) (H r' (by rw [e, nI_clamp (by omega), tx_b0]; exact ts_up (b := fun _ => 0) hr rfl))⟩)
theorem tx_ro {post : SX → Prop} {k : Nat} {U : Nat → Int32} (hw : ts_wf kd f s c) (hk : k < c) (hU : ∀ j, j < 24 → re j = U j) (h : ∀ r : Nat → Int32, (∀ j, j < 24 → r j = ts_mk kd f s U k j) → post (nI c, nI t, b, kd, f, s, tn, tw, xs, ms, pt, va, ra, r)) : wpX_reachOperands post (nI c, nI t, b, kd, f, s, tn, tw, xs, ms, pt, va, ra, re) (nI k) := by
  have hc := hw.1
  have hcl : (nI k).toNatClampNeg = k := nI_clamp (by omega)
  have hin : vp_in (nI k) 24 := vp_in_nI (by omega) (by decide)
  refine ⟨hin, ?_⟩
  rw [hcl]
  rcases hw.2 k hk with ⟨a1, b1, ha, hb, ea, eb, h9⟩ | ⟨h9, a1, ha, ea⟩ | h9
  · have h1 : vp_in (f k) 24 := by rw [ea]; exact vp_in_nI (by omega) (by decide)
    have h2 : vp_in (s k) 24 := by rw [eb]; exact vp_in_nI (by omega) (by decide)
    have h8 : kd k = 0 ∨ kd k = 1 ∨ kd k = 2 ∨ kd k = 3 := by
      rcases h9 with z | z | z | ⟨z, -⟩
      · exact Or.inl z
      · exact Or.inr (Or.inl z)
      · exact Or.inr (Or.inr (Or.inl z))
      · exact Or.inr (Or.inr (Or.inr z))
    have h7 : ¬ 3 < kd k := by
      rcases h8 with z | z | z | z
      · rw [z]; decide
      · rw [z]; decide
      · rw [z]; decide
      · rw [z]; decide
    exact br_f h7 ⟨hin, h1, fun r er => ⟨hin, h2, fun r2 er2 => h r2 (by rw [er2, er, tx_b1, ts_mk1 h8]; exact ts_u2 (ts_u2 hU))⟩⟩
  · exact br_t (by rw [h9]; decide) (h re (by rw [ts_mk4 h9]; exact hU))
  · exact br_t (by rw [h9]; decide) (h re (by rw [ts_mk5 h9]; exact hU))
theorem tx_li {post : Int32 → SX → Prop} {U : Nat → Int32} (hw : ts_wf kd f s c) (hU : ∀ j, j < 24 → re j = U j) (h : ∀ r : Nat → Int32, post (ts_lv kd f s c U 0) (nI c, nI t, b, kd, f, s, tn, tw, xs, ms, pt, va, ra, r)) : ∃ n, wX_live_13 post n 0 (nI c + (-1)) (nI c) (nI t) b kd f s tn tw xs ms pt va ra re := by
  have hc := hw.1
  refine ⟨c + 1, pk_loopD (fun n i (z : Int32 × (Nat → Int32)) => wX_live_13 post n z.1 (nI i + (-1)) (nI c) (nI t) b kd f s tn tw xs ms pt va ra z.2) (fun i z => i ≤ c ∧ ∃ V : Nat → Int32, (∀ j, j < 24 → z.2 j = V j) ∧ ts_lv kd f s i V z.1 = ts_lv kd f s c U 0) ?_ ?_ c (0, re) ⟨Nat.le_refl _, U, hU, rfl⟩⟩
  · intro n z hz
    obtain ⟨-, V, -, e⟩ := hz
    have h9 := h z.2
    rw [← e] at h9
    exact br_t (by decide) h9
  · intro n i z hz H
    obtain ⟨hi, V, hV, e⟩ := hz
    have hcl : (nI i).toNatClampNeg = i := nI_clamp (by omega)
    have hin : vp_in (nI i) 24 := vp_in_nI (by omega) (by decide)
    show wX_live_13 post (n + 1) z.1 (nI (i + 1) + (-1)) (nI c) (nI t) b kd f s tn tw xs ms pt va ra z.2
    rw [pk_m1]
    refine br_f (nI_pos (by omega)) ⟨hin, ?_⟩
    rw [hcl, hV i (by omega)]
    refine br_c (fun h0 => nm_e (H z ⟨by omega, V, hV, by rw [← e, ts_lv0 h0]⟩)) (fun h0 => nm_e (tx_ro hw hi hV (fun r hr => nm_e (H (z.1 + 1, r) ⟨by omega, ts_mk kd f s V i, hr, by rw [← e, ts_lv1 h0]⟩))))
end
