/-! the component: small tests, and its loops against the pure picture -/
theorem tx_ix (ch i : Nat) : nI ch * 4 + nI i = nI (4 * ch + i) := by
  show nI ch * nI 4 + nI i = _
  rw [pk_mul, nI_add, Nat.mul_comm]
theorem tx_in {ch i : Nat} (hch : ch < 3) (hi : i < 4) : vp_in (nI ch * 4 + nI i) 12 := by
  rw [tx_ix]; exact vp_in_nI (by omega) (by decide)
theorem tx_cl {ch i : Nat} (hch : ch < 3) (hi : i < 4) : (nI ch * 4 + nI i).toNatClampNeg = 4 * ch + i := by
  rw [tx_ix]; exact nI_clamp (by omega)
theorem tx_b0 : vp_nar .boolean 0 = 0 := by decide
theorem tx_b1 : vp_nar .boolean 1 = 1 := by decide
theorem tx_ch_t {post : Int32 → Prop} {j : Nat} (hj : j < 3) (h : post 1) : wpX_isChain post (nI j) :=
  br_f (nI_pos (by omega)) (br_f (nI_ge (b := 3) hj (by decide)) h)
theorem tx_ch_f {post : Int32 → Prop} {x : Int32} (hx : x < 0 ∨ nI 3 ≤ x) (h : post 0) : wpX_isChain post x :=
  br_c (fun _ => h) (fun hn => br_c (fun _ => h) (fun h3 => absurd (hx.resolve_left hn) h3))
theorem tx_pa_t {post : Int32 → Prop} {j : Nat} (hj : j < 4) (h : post 1) : wpX_isParameter post (nI j) :=
  br_f (nI_pos (by omega)) (br_f (nI_ge (b := 4) hj (by decide)) h)
theorem tx_pa_f {post : Int32 → Prop} {x : Int32} (hx : x < 0 ∨ nI 4 ≤ x) (h : post 0) : wpX_isParameter post x :=
  br_c (fun _ => h) (fun hn => br_c (fun _ => h) (fun h3 => absurd (hx.resolve_left hn) h3))
section
variable {c t ch : Nat} {b : Int32} {kd f s tn tw xs ms pt va ra re : Nat → Int32}
theorem tx_nd_t {post : Int32 → Prop} {j : Nat} (hc : c ≤ 24) (hj : j < c) (h : post 1) : wpX_isNode post (nI c, nI t, b, kd, f, s, tn, tw, xs, ms, pt, va, ra, re) (nI j) :=
  br_f (nI_pos (by omega)) (br_f (nI_ge hj (by omega)) h)
theorem tx_nd_f {post : Int32 → Prop} {x : Int32} (hx : x < 0 ∨ nI c ≤ x) (h : post 0) : wpX_isNode post (nI c, nI t, b, kd, f, s, tn, tw, xs, ms, pt, va, ra, re) x :=
  br_c (fun _ => h) (fun hn => br_c (fun _ => h) (fun h3 => absurd (hx.resolve_left hn) h3))
theorem tx_add {post : Int32 → SX → Prop} {p0 p1 p2 : Int32} (hc : c < 24) (h : post (nI c) (nI (c + 1), nI t, b, upd kd c p0, upd f c p1, upd s c p2, tn, tw, xs, ms, pt, va, ra, re)) : wpX_addNode post (nI c, nI t, b, kd, f, s, tn, tw, xs, ms, pt, va, ra, re) p0 p1 p2 := by
  have hcl : (nI c).toNatClampNeg = c := nI_clamp (by omega)
  have hin : vp_in (nI c) 24 := vp_in_nI hc (by decide)
  refine ⟨hin, fun a ea => ⟨hin, fun a2 ea2 => ⟨hin, fun a3 ea3 => nm_r (nI_1 c) ?_⟩⟩⟩
  rw [hcl] at ea ea2 ea3
  subst ea ea2 ea3
  exact h
theorem tx_go {post : SX → Prop} (hch : ch < 3) (h : ∀ p : Nat → Int32, (∀ j, j < 4 → p j = ts_pt xs ch j) → post (nI c, nI t, b, kd, f, s, tn, tw, xs, ms, p, va, ra, re)) : wpX_goToChain post (nI c, nI t, b, kd, f, s, tn, tw, xs, ms, pt, va, ra, re) (nI ch) :=
  loop_0 (fun n i (p : Nat → Int32) => wX_goToChain_2 post (nI ch) (nI c) (nI t) b n (nI i) kd f s tn tw xs ms p va ra re) (fun i p => ∀ j, j < i → p j = ts_pt xs ch j) 4 pt
    (fun j hj => absurd hj (by omega))
    (fun n p hp => br_t (nI_le (a := 4) (b := 4) (by decide) (by decide)) (h p hp))
    (fun n i p hi hp H => br_f (nI_ge (b := 4) hi (by decide)) ⟨tx_in hch hi, vp_in_nI hi (by decide), fun p' e => nm_r (nI_1 i) (H p' (by rw [e, nI_clamp (by omega), tx_cl hch hi]; exact ts_up hp rfl))⟩)
theorem tx_vo {post : Int32 → Prop} {k : Nat} (hw : ts_wf kd f s c) (hk : k < c) (hp : post (ts_sv kd f s pt va k)) : wpX_valueFromOperands post (nI c, nI t, b, kd, f, s, tn, tw, xs, ms, pt, va, ra, re) (nI k) := by
  have hc := hw.1
  have hcl : (nI k).toNatClampNeg = k := nI_clamp (by omega)
  have hin : vp_in (nI k) 24 := vp_in_nI (by omega) (by decide)
  refine ⟨hin, fun x2 e2 => ⟨hin, fun x3 e3 => ⟨hin, fun k6 e6 => ?_⟩⟩⟩
  rw [hcl] at e2 e3 e6
  subst e2 e3 e6
  rcases hw.2 k hk with ⟨a1, b1, ha, hb, ea, eb, h | h | h | ⟨h, -⟩⟩ | ⟨h, a1, ha, ea⟩ | h
  · rw [ts_sv0 h] at hp
    exact br_f (by rw [h]; decide) (br_f (by rw [h]; decide) (br_t h ⟨by rw [ea]; exact vp_in_nI (by omega) (by decide), by rw [eb]; exact vp_in_nI (by omega) (by decide), hp⟩))
  · rw [ts_sv1 h] at hp
    exact br_f (by rw [h]; decide) (br_f (by rw [h]; decide) (br_f (by rw [h]; decide) (br_t h ⟨by rw [ea]; exact vp_in_nI (by omega) (by decide), by rw [eb]; exact vp_in_nI (by omega) (by decide), hp⟩)))
  · rw [ts_sv2 h] at hp
    exact br_f (by rw [h]; decide) (br_f (by rw [h]; decide) (br_f (by rw [h]; decide) (br_f (by rw [h]; decide) (br_t h ⟨by rw [ea]; exact vp_in_nI (by omega) (by decide), by rw [eb]; exact vp_in_nI (by omega) (by decide), hp⟩))))
  · rw [ts_sv3 h] at hp
    exact br_f (by rw [h]; decide) (br_f (by rw [h]; decide) (br_f (by rw [h]; decide) (br_f (by rw [h]; decide) (br_f (by rw [h]; decide) (br_t h ⟨by rw [ea]; exact vp_in_nI (by omega) (by decide), by rw [ea]; exact vp_in_nI (by omega) (by decide), hp⟩)))))
  · rw [ts_sv4 h] at hp
    exact br_f (by rw [h]; decide) (br_f (by rw [h]; decide) (br_f (by rw [h]; decide) (br_f (by rw [h]; decide) (br_f (by rw [h]; decide) (br_f (by rw [h]; decide) (br_t h ⟨by rw [ea]; exact vp_in_nI (by omega) (by decide), hp⟩))))))
  · rw [ts_sv5 h] at hp
    exact br_f (by rw [h]; decide) (br_t (by rw [h]; decide) hp)
theorem tx_so {post : Int32 → Prop} {k : Nat} {i : Int32} (hw : ts_wf kd f s c) (hk : k < c) (hp : post (ts_sr kd f s i va ra k)) : wpX_slopeFromOperands post (nI c, nI t, b, kd, f, s, tn, tw, xs, ms, pt, va, ra, re) (nI k) i := by
  have hc := hw.1
  have hcl : (nI k).toNatClampNeg = k := nI_clamp (by omega)
  have hin : vp_in (nI k) 24 := vp_in_nI (by omega) (by decide)
  refine ⟨hin, fun x2 e2 => ⟨hin, fun x3 e3 => ⟨hin, fun k6 e6 => ?_⟩⟩⟩
  rw [hcl] at e2 e3 e6
  subst e2 e3 e6
  rcases hw.2 k hk with ⟨a1, b1, ha, hb, ea, eb, h | h | h | ⟨h, -⟩⟩ | ⟨h, a1, ha, ea⟩ | h
  · rw [ts_sr0 h] at hp
    have h1 : vp_in (f k) 24 := by rw [ea]; exact vp_in_nI (by omega) (by decide)
    have h2 : vp_in (s k) 24 := by rw [eb]; exact vp_in_nI (by omega) (by decide)
    exact br_f (by rw [h]; decide) (br_f (by rw [h]; decide) (br_t h ⟨h1, h2, hp⟩))
  · rw [ts_sr1 h] at hp
    have h1 : vp_in (f k) 24 := by rw [ea]; exact vp_in_nI (by omega) (by decide)
    have h2 : vp_in (s k) 24 := by rw [eb]; exact vp_in_nI (by omega) (by decide)
    exact br_f (by rw [h]; decide) (br_f (by rw [h]; decide) (br_f (by rw [h]; decide) (br_t h ⟨h1, h2, hp⟩)))
  · rw [ts_sr2 h] at hp
    have h1 : vp_in (f k) 24 := by rw [ea]; exact vp_in_nI (by omega) (by decide)
    have h2 : vp_in (s k) 24 := by rw [eb]; exact vp_in_nI (by omega) (by decide)
    exact br_f (by rw [h]; decide) (br_f (by rw [h]; decide) (br_f (by rw [h]; decide) (br_f (by rw [h]; decide) (br_t h ⟨h1, h2, h1, h2, hp⟩))))
  · rw [ts_sr3 h] at hp
    have h1 : vp_in (f k) 24 := by rw [ea]; exact vp_in_nI (by omega) (by decide)
    exact br_f (by rw [h]; decide) (br_f (by rw [h]; decide) (br_f (by rw [h]; decide) (br_f (by rw [h]; decide) (br_f (by rw [h]; decide) (br_t h ⟨h1, h1, hp⟩)))))
  · rw [ts_sr4 h] at hp
    exact br_f (by rw [h]; decide) (br_f (by rw [h]; decide) (br_f (by rw [h]; decide) (br_f (by rw [h]; decide) (br_f (by rw [h]; decide) (br_f (by rw [h]; decide) (br_t h (br_c (fun e => by rw [if_pos e] at hp; exact hp) (fun e => by rw [if_neg e] at hp; exact hp))))))))
  · rw [ts_sr5 h] at hp
    exact br_f (by rw [h]; decide) (br_t (by rw [h]; decide) hp)
theorem tx_fv {post : SX → Prop} {q : Nat → Int32} (hw : ts_wf kd f s c) (hq : ∀ j, j < 4 → pt j = q j) (h : ∀ v : Nat → Int32, (∀ j, j < c → v j = ts_V kd f s q j) → post (nI c, nI t, b, kd, f, s, tn, tw, xs, ms, pt, v, ra, re)) : wpX_findValues post (nI c, nI t, b, kd, f, s, tn, tw, xs, ms, pt, va, ra, re) := by
  have hc := hw.1
  exact loop_0 (fun n i (v : Nat → Int32) => wX_findValues_2 post (nI c) (nI t) b n (nI i) kd f s tn tw xs ms pt v ra re) (fun i v => ∀ j, j < i → v j = ts_V kd f s q j) c va
    (fun j hj => absurd hj (by omega))
    (fun n v hv => br_t (Int32.le_refl _) (h v hv))
    (fun n i v hi hv H => br_f (nI_ge hi (by omega)) (tx_vo hw hi ⟨vp_in_nI (by omega) (by decide), fun v' e => nm_r (nI_1 i) (H v' (by rw [e, nI_clamp (by omega)]; exact ts_up hv (ts_V_nx hw hi hv hq)))⟩))
theorem tx_fs {post : SX → Prop} {w : Nat → Int32} {x : Int32} (hw : ts_wf kd f s c) (hv : ∀ j, j < c → va j = w j) (h : ∀ r : Nat → Int32, (∀ j, j < c → r j = ts_R kd f s x w j) → post (nI c, nI t, b, kd, f, s, tn, tw, xs, ms, pt, va, r, re)) : wpX_findSlopes post (nI c, nI t, b, kd, f, s, tn, tw, xs, ms, pt, va, ra, re) x := by
  have hc := hw.1
  exact loop_0 (fun n i (r : Nat → Int32) => wX_findSlopes_2 post x (nI c) (nI t) b n (nI i) kd f s tn tw xs ms pt va r re) (fun i r => ∀ j, j < i → r j = ts_R kd f s x w j) c ra
    (fun j hj => absurd hj (by omega))
    (fun n r hr => br_t (Int32.le_refl _) (h r hr))
    (fun n i r hi hr H => br_f (nI_ge hi (by omega)) (tx_so hw hi ⟨vp_in_nI (by omega) (by decide), fun r' e => nm_r (nI_1 i) (H r' (by rw [e, nI_clamp (by omega)]; exact ts_up hr (ts_R_nx hw hi (fun j hj => hv j (by omega)) hr)))⟩))
theorem tx_wv {post : Int32 → Prop} {w : Nat → Int32} (hc : c ≤ 24) (ht : ts_tm tn c t) (hv : ∀ j, j < c → va j = w j) (h : post (ts_W tw tn w t)) : wpX_weighTerms__values post (nI c, nI t, b, kd, f, s, tn, tw, xs, ms, pt, va, ra, re) := by
  have ht8 := ht.1
  rw [← ts_W_c hc hv t ht.2] at h
  exact loop_0 (fun n i (x : Int32) => wX_weighTerms__values_4 post (nI c) (nI t) b kd f s tn tw xs ms pt va ra re n x (nI i)) (fun i x => x = ts_W tw tn va i) t 0 rfl
    (fun n x e => br_t (Int32.le_refl _) (by rw [e]; exact h))
    (fun n i x hi e H => br_f (nI_ge hi (by omega)) ⟨vp_in_nI (by omega) (by decide), vp_in_nI (by omega) (by decide), by
      rw [nI_clamp (by omega)]
      obtain ⟨a, ha, ea⟩ := ht.2 i hi
      rw [ea]
      exact vp_in_nI (by omega) (by decide), fun y ey => nm_r (nI_1 i) (H y (by rw [ey, e, nI_clamp (by omega)]; rfl))⟩)
theorem tx_ws {post : Int32 → Prop} {w : Nat → Int32} (hc : c ≤ 24) (ht : ts_tm tn c t) (hv : ∀ j, j < c → ra j = w j) (h : post (ts_W tw tn w t)) : wpX_weighTerms__slopes post (nI c, nI t, b, kd, f, s, tn, tw, xs, ms, pt, va, ra, re) := by
  have ht8 := ht.1
  rw [← ts_W_c hc hv t ht.2] at h
  exact loop_0 (fun n i (x : Int32) => wX_weighTerms__slopes_4 post (nI c) (nI t) b kd f s tn tw xs ms pt va ra re n x (nI i)) (fun i x => x = ts_W tw tn ra i) t 0 rfl
    (fun n x e => br_t (Int32.le_refl _) (by rw [e]; exact h))
    (fun n i x hi e H => br_f (nI_ge hi (by omega)) ⟨vp_in_nI (by omega) (by decide), vp_in_nI (by omega) (by decide), by
      rw [nI_clamp (by omega)]
      obtain ⟨a, ha, ea⟩ := ht.2 i hi
      rw [ea]
      exact vp_in_nI (by omega) (by decide), fun y ey => nm_r (nI_1 i) (H y (by rw [ey, e, nI_clamp (by omega)]; rfl))⟩)
end
