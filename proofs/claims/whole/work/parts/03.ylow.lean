/-! the reference: small tests, and its loops against the pure picture -/
theorem ty_ix (ch i : Nat) : 4 * nI ch + nI i = nI (4 * ch + i) := by
  show nI 4 * nI ch + nI i = _
  rw [pk_mul, nI_add]
theorem ty_in {ch i : Nat} (hch : ch < 3) (hi : i < 4) : vp_in (4 * nI ch + nI i) 12 := by
  rw [ty_ix]; exact vp_in_nI (by omega) (by decide)
theorem ty_cl {ch i : Nat} (hch : ch < 3) (hi : i < 4) : (4 * nI ch + nI i).toNatClampNeg = 4 * ch + i := by
  rw [ty_ix]; exact nI_clamp (by omega)
theorem ty_32 : ¬ nI 3 ≤ 2 := nI_ge (a := 2) (b := 3) (by decide) (by decide)
theorem ty_43 : ¬ nI 4 ≤ 3 := nI_ge (a := 3) (b := 4) (by decide) (by decide)
section
variable {c t ch : Nat} {b : Int32} {kd f s tn tw xs ms wa qa sl us : Nat → Int32}
theorem ty_ch_t {post : Int32 → Prop} {n1 n2 : Int32} {j : Nat} (hj : j < 3) (h : post 0) : wpY_badChain post (n1, n2, b, kd, f, s, tn, tw, xs, ms, wa, qa, sl, us) (nI j) :=
  br_f (nI_pos (by omega)) (br_t (nI_le (b := 2) (by omega) (by decide)) h)
theorem ty_ch_f {post : Int32 → Prop} {n1 n2 : Int32} {x : Int32} (hx : x < 0 ∨ nI 3 ≤ x) (h : post 1) : wpY_badChain post (n1, n2, b, kd, f, s, tn, tw, xs, ms, wa, qa, sl, us) x :=
  br_c (fun _ => h) (fun hn => br_c (fun h2 => absurd (Int32.le_trans (hx.resolve_left hn) h2) ty_32) (fun _ => h))
theorem ty_pa_t {post : Int32 → Prop} {n1 n2 : Int32} {j : Nat} (hj : j < 4) (h : post 0) : wpY_badParameter post (n1, n2, b, kd, f, s, tn, tw, xs, ms, wa, qa, sl, us) (nI j) :=
  br_f (nI_pos (by omega)) (br_t (nI_le (b := 3) (by omega) (by decide)) h)
theorem ty_pa_f {post : Int32 → Prop} {n1 n2 : Int32} {x : Int32} (hx : x < 0 ∨ nI 4 ≤ x) (h : post 1) : wpY_badParameter post (n1, n2, b, kd, f, s, tn, tw, xs, ms, wa, qa, sl, us) x :=
  br_c (fun _ => h) (fun hn => br_c (fun h2 => absurd (Int32.le_trans (hx.resolve_left hn) h2) ty_43) (fun _ => h))
theorem ty_nd_t {post : Int32 → Prop} {j : Nat} (hc : c ≤ 24) (hj : j < c) (h : post 0) : wpY_badNode post (nI c, nI t, b, kd, f, s, tn, tw, xs, ms, wa, qa, sl, us) (nI j) :=
  br_f (nI_pos (by omega)) (br_f (nI_ge hj (by omega)) (br_t (nI_le (b := 23) (by omega) (by decide)) h))
theorem ty_nd_f {post : Int32 → Prop} {x : Int32} (hx : x < 0 ∨ nI c ≤ x) (h : post 1) : wpY_badNode post (nI c, nI t, b, kd, f, s, tn, tw, xs, ms, wa, qa, sl, us) x :=
  br_c (fun _ => h) (fun hn => br_c (fun _ => h) (fun h3 => absurd (hx.resolve_left hn) h3))
theorem ty_add {post : Int32 → SY → Prop} {p0 p1 p2 : Int32} (hc : c < 24) (h : post (nI c) (nI (c + 1), nI t, b, upd kd c p0, upd f c p1, upd s c p2, tn, tw, xs, ms, wa, qa, sl, us)) : wpY_make post (nI c, nI t, b, kd, f, s, tn, tw, xs, ms, wa, qa, sl, us) p0 p1 p2 := by
  have hcl : (nI c).toNatClampNeg = c := nI_clamp (by omega)
  have hin : vp_in (nI c) 24 := vp_in_nI hc (by decide)
  refine br_t (nI_le (b := 23) (by omega) (by decide)) ⟨hin, fun a ea => ⟨hin, fun a2 ea2 => ⟨hin, fun a3 ea3 => nm_r (nI_1 c) ?_⟩⟩⟩
  rw [hcl] at ea ea2 ea3
  subst ea ea2 ea3
  exact h
theorem ty_full {post : Int32 → SY → Prop} {p0 p1 p2 : Int32} (hc : c = 24) (h : post (-2) (nI c, nI t, b, kd, f, s, tn, tw, xs, ms, wa, qa, sl, us)) : wpY_make post (nI c, nI t, b, kd, f, s, tn, tw, xs, ms, wa, qa, sl, us) p0 p1 p2 := by
  subst hc
  exact br_f (nI_ge (a := 23) (b := 24) (by decide) (by decide)) h
/-- one node in the reference's loop, whatever its kind -/
theorem ty_w1 {post : SY → Prop} {x : Int32} {n k : Nat} (hw : ts_wf kd f s c) (hch : ch < 3) (hk : k < c)
    (H : wY_work_2 post (nI ch) x (nI c) (nI t) b n (nI (k + 1)) kd f s tn tw xs ms (upd wa k (ts_sv kd f s (ts_pt xs ch) wa k)) (upd qa k (ts_sr kd f s x wa qa k)) sl us) : wY_work_2 post (nI ch) x (nI c) (nI t) b (n + 1) (nI k) kd f s tn tw xs ms wa qa sl us := by
  have hc := hw.1
  have hcl : (nI k).toNatClampNeg = k := nI_clamp (by omega)
  have hin : vp_in (nI k) 24 := vp_in_nI (by omega) (by decide)
  refine br_f (nI_ge hk (by omega)) (br_f (nI_ge (b := 24) (by omega) (by decide)) ⟨hin, fun x4 e4 => ⟨hin, fun x5 e5 => ⟨hin, ?_⟩⟩⟩)
  rw [hcl] at e4 e5
  subst e4 e5
  rw [hcl]
  rcases hw.2 k hk with ⟨a1, b1, ha, hb, ea, eb, h⟩ | ⟨h, a1, ha, ea⟩ | h
  · have h1 : vp_in (f k) 24 := by rw [ea]; exact vp_in_nI (by omega) (by decide)
    have h2 : vp_in (s k) 24 := by rw [eb]; exact vp_in_nI (by omega) (by decide)
    have c1 : (f k).toNatClampNeg = a1 := by rw [ea]; exact nI_clamp (by omega)
    have c2 : (s k).toNatClampNeg = b1 := by rw [eb]; exact nI_clamp (by omega)
    rcases h with h | h | h | ⟨h, hab⟩
    · rw [ts_sv0 h, ts_sr0 h] at H
      exact br_f (by rw [h]; decide) ⟨hin, br_f (by rw [h]; decide) ⟨hin, br_t h ⟨h1, h2, hin, fun v ev => ⟨h1, h2, hin, fun r er => nm_r (nI_1 k) (by rw [ev, er]; exact H)⟩⟩⟩⟩
    · rw [ts_sv1 h, ts_sr1 h] at H
      exact br_f (by rw [h]; decide) ⟨hin, br_f (by rw [h]; decide) ⟨hin, br_f (by rw [h]; decide) ⟨hin, br_t h ⟨h1, h2, hin, fun v ev => ⟨h1, h2, hin, fun r er => nm_r (nI_1 k) (by rw [ev, er]; exact H)⟩⟩⟩⟩⟩
    · rw [ts_sv2 h, ts_sr2 h] at H
      refine br_f (by rw [h]; decide) ⟨hin, br_f (by rw [h]; decide) ⟨hin, br_f (by rw [h]; decide) ⟨hin, br_f (by rw [h]; decide) ⟨h1, h2, hin, fun v ev => ⟨h1, h2, h1, h2, hin, fun r er => nm_r (nI_1 k) ?_⟩⟩⟩⟩⟩
      have v1 : v (f k).toNatClampNeg = wa (f k).toNatClampNeg := by rw [ev]; exact pk_un (by omega)
      have v2 : v (s k).toNatClampNeg = wa (s k).toNatClampNeg := by rw [ev]; exact pk_un (by omega)
      rw [v1, v2] at er
      rw [ev, er]
      exact H
    · have c3 : s k = f k := by rw [ea, eb, hab]
      rw [ts_sv3 h, ts_sr3 h] at H
      refine br_f (by rw [h]; decide) ⟨hin, br_f (by rw [h]; decide) ⟨hin, br_f (by rw [h]; decide) ⟨hin, br_f (by rw [h]; decide) ⟨h1, h2, hin, fun v ev => ⟨h1, h2, h1, h2, hin, fun r er => nm_r (nI_1 k) ?_⟩⟩⟩⟩⟩
      rw [c3] at ev er
      have v1 : v (f k).toNatClampNeg = wa (f k).toNatClampNeg := by rw [ev]; exact pk_un (by omega)
      rw [v1, ts_sq] at er
      rw [ev, er]
      exact H
  · have h1 : vp_in (4 * nI ch + f k) 12 := by rw [ea]; exact ty_in hch ha
    have c1 : (4 * nI ch + f k).toNatClampNeg = 4 * ch + (f k).toNatClampNeg := by rw [ea, ty_cl hch ha, nI_clamp (by omega)]
    rw [ts_sv4 h, ts_sr4 h] at H
    refine br_t h ⟨h1, hin, fun v ev => br_c (fun e => ⟨hin, fun r er => nm_r (nI_1 k) ?_⟩) (fun e => ⟨hin, fun r er => nm_r (nI_1 k) ?_⟩)⟩
    · rw [if_pos e] at H
      rw [c1] at ev
      rw [ev, er]
      exact H
    · rw [if_neg e] at H
      rw [c1] at ev
      rw [ev, er]
      exact H
  · rw [ts_sv5 h, ts_sr5 h] at H
    exact br_f (by rw [h]; decide) ⟨hin, br_t h ⟨hin, fun v ev => ⟨hin, fun r er => nm_r (nI_1 k) (by rw [ev, er]; exact H)⟩⟩⟩
theorem ty_wk {post : SY → Prop} {x : Int32} (hw : ts_wf kd f s c) (hch : ch < 3)
    (h : ∀ v r : Nat → Int32, (∀ j, j < c → v j = ts_V kd f s (ts_pt xs ch) j) → (∀ j, j < c → r j = ts_R kd f s x (ts_V kd f s (ts_pt xs ch)) j) → post (nI c, nI t, b, kd, f, s, tn, tw, xs, ms, v, r, sl, us)) : wpY_work post (nI c, nI t, b, kd, f, s, tn, tw, xs, ms, wa, qa, sl, us) (nI ch) x := by
  have hc := hw.1
  exact loop_0 (fun n i (z : (Nat → Int32) × (Nat → Int32)) => wY_work_2 post (nI ch) x (nI c) (nI t) b n (nI i) kd f s tn tw xs ms z.1 z.2 sl us) (fun i z => (∀ j, j < i → z.1 j = ts_V kd f s (ts_pt xs ch) j) ∧ (∀ j, j < i → z.2 j = ts_R kd f s x (ts_V kd f s (ts_pt xs ch)) j)) c (wa, qa)
    ⟨fun j hj => absurd hj (by omega), fun j hj => absurd hj (by omega)⟩
    (fun n z hz => br_t (Int32.le_refl _) (h z.1 z.2 hz.1 hz.2))
    (fun n i z hi hz H => ty_w1 hw hch hi (H (upd z.1 i (ts_sv kd f s (ts_pt xs ch) z.1 i), upd z.2 i (ts_sr kd f s x z.1 z.2 i)) ⟨ts_up hz.1 (ts_V_nx hw hi hz.1 (fun _ _ => rfl)), ts_up hz.2 (ts_R_nx hw hi hz.1 hz.2)⟩))
theorem ty_to {post : Int32 → Prop} {w : Nat → Int32} (hc : c ≤ 24) (ht : ts_tm tn c t) (hv : ∀ j, j < c → wa j = w j) (h : post (ts_W tw tn w t)) : wpY_total post (nI c, nI t, b, kd, f, s, tn, tw, xs, ms, wa, qa, sl, us) := by
  have ht8 := ht.1
  rw [← ts_W_c hc hv t ht.2] at h
  exact loop_0 (fun n i (x : Int32) => wY_total_4 post (nI c) (nI t) b kd f s tn tw xs ms wa qa sl us n x (nI i)) (fun i x => x = ts_W tw tn wa i) t 0 rfl
    (fun n x e => br_t (Int32.le_refl _) (by rw [e]; exact h))
    (fun n i x hi e H => br_f (nI_ge hi (by omega)) (br_f (nI_ge (b := 8) (by omega) (by decide)) ⟨vp_in_nI (by omega) (by decide), vp_in_nI (by omega) (by decide), by
      rw [nI_clamp (by omega)]
      obtain ⟨a, ha, ea⟩ := ht.2 i hi
      rw [ea]
      exact vp_in_nI (by omega) (by decide), fun y ey => nm_r (nI_1 i) (H y (by rw [ey, e, nI_clamp (by omega)]; rfl))⟩))
theorem ty_ss {post : Int32 → Prop} {w : Nat → Int32} (hc : c ≤ 24) (ht : ts_tm tn c t) (hv : ∀ j, j < c → qa j = w j) (h : post (ts_W tw tn w t)) : wpY_steepness post (nI c, nI t, b, kd, f, s, tn, tw, xs, ms, wa, qa, sl, us) := by
  have ht8 := ht.1
  rw [← ts_W_c hc hv t ht.2] at h
  exact loop_0 (fun n i (x : Int32) => wY_steepness_4 post (nI c) (nI t) b kd f s tn tw xs ms wa qa sl us n x (nI i)) (fun i x => x = ts_W tw tn qa i) t 0 rfl
    (fun n x e => br_t (Int32.le_refl _) (by rw [e]; exact h))
    (fun n i x hi e H => br_f (nI_ge hi (by omega)) (br_f (nI_ge (b := 8) (by omega) (by decide)) ⟨vp_in_nI (by omega) (by decide), vp_in_nI (by omega) (by decide), by
      rw [nI_clamp (by omega)]
      obtain ⟨a, ha, ea⟩ := ht.2 i hi
      rw [ea]
      exact vp_in_nI (by omega) (by decide), fun y ey => nm_r (nI_1 i) (H y (by rw [ey, e, nI_clamp (by omega)]; rfl))⟩))
end
