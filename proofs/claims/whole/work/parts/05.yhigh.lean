/-! the reference: drift, kick, leap, turn, copy, live -/
theorem ty_sub (x : Int32) : x - 1 = x + (-1) := Int32.sub_eq_add_neg x 1
section
variable {c t ch d : Nat} {b : Int32} {kd f s tn tw xs ms wa qa sl us : Nat → Int32}
theorem ty_dr {post : Int32 → SY → Prop} (hw : ts_wf kd f s c) (ht : ts_tm tn c t) (hch : ch < 3)
    (h : ∀ v r : Nat → Int32, post (ts_D ms (4 * ch) (ts_G kd f s tw tn t (ts_pt xs ch)) 4) (nI c, nI t, b, kd, f, s, tn, tw, xs, ms, v, r, sl, us)) : ∃ n, wY_drift_14 post (nI ch) n 0 0 (nI c) (nI t) b kd f s tn tw xs ms wa qa sl us :=
  loop_0 (fun n i (z : Int32 × (Nat → Int32) × (Nat → Int32)) => wY_drift_14 post (nI ch) n z.1 (nI i) (nI c) (nI t) b kd f s tn tw xs ms z.2.1 z.2.2 sl us) (fun i z => z.1 = ts_D ms (4 * ch) (ts_G kd f s tw tn t (ts_pt xs ch)) i) 4 (0, wa, qa) rfl
    (fun n z e => br_t (nI_le (a := 4) (b := 4) (by decide) (by decide)) (by rw [e]; exact h z.2.1 z.2.2))
    (fun n i z hi e H => br_f (nI_ge (b := 4) hi (by decide)) (ty_wk hw hch (fun v r hv hr => ⟨ty_in hch hi, ty_ss hw.1 ht hr (fun y ey => nm_r (nI_1 i) (H (y, v, r) (by show y = _; rw [ey, e, ty_cl hch hi]; rfl)))⟩)))
theorem ty_ki {post : SY → Prop} (hw : ts_wf kd f s c) (ht : ts_tm tn c t) (hch : ch < 3)
    (h : ∀ v r l : Nat → Int32, post (nI c, nI t, b, kd, f, s, tn, tw, xs, ts_k kd f s tw tn t (fun x => x >>> (b &&& 31)) ch xs ms, v, r, l, us)) : wpY_kick post (nI c, nI t, b, kd, f, s, tn, tw, xs, ms, wa, qa, sl, us) (nI ch) :=
  loop_0 (fun n i (z : (Nat → Int32) × (Nat → Int32) × (Nat → Int32)) => wY_kick_2 post (nI ch) n (nI i) (nI c) (nI t) b kd f s tn tw xs ms z.1 z.2.1 z.2.2 us) (fun i z => ∀ j, j < i → z.2.2 j = ts_G kd f s tw tn t (ts_pt xs ch) j) 4 (wa, qa, sl)
    (fun j hj => absurd hj (by omega))
    (fun n z hz => br_t (nI_le (a := 4) (b := 4) (by decide) (by decide))
      (loop_0 (fun n i (m : Nat → Int32) => wY_kick_31 post (nI ch) (nI c) (nI t) b n (nI i) kd f s tn tw xs m z.1 z.2.1 z.2.2 us) (fun i m => m = ts_A ms (4 * ch) (fun i => z.2.2 i >>> (b &&& 31)) i) 4 ms rfl
        (fun n m e => br_t (nI_le (a := 4) (b := 4) (by decide) (by decide)) (by
          have e2 : m = ts_k kd f s tw tn t (fun x => x >>> (b &&& 31)) ch xs ms := e.trans (ts_A_c 4 (fun j hj => by
            show z.2.2 j >>> (b &&& 31) = ts_G kd f s tw tn t (ts_pt xs ch) j >>> (b &&& 31)
            rw [hz j hj]))
          rw [e2]
          exact h z.1 z.2.1 z.2.2))
        (fun n i m hi e H => br_f (nI_ge (b := 4) hi (by decide)) ⟨ty_in hch hi, vp_in_nI hi (by decide), ty_in hch hi, fun y ey => nm_r (nI_1 i) (H y (by rw [ey, e, ty_cl hch hi, nI_clamp (by omega)]; rfl))⟩)))
    (fun n i z hi hz H => br_f (nI_ge (b := 4) hi (by decide)) (ty_wk hw hch (fun v r hv hr => ty_ss hw.1 ht hr ⟨vp_in_nI hi (by decide), fun y ey => nm_r (nI_1 i) (H (v, r, y) (by
      show ∀ j, j < i + 1 → y j = ts_G kd f s tw tn t (ts_pt xs ch) j
      rw [ey, nI_clamp (by omega)]
      exact ts_up hz rfl))⟩)))
theorem ty_gl {post : Int32 → SY → Prop} {J : Int32 → Int32 → Int32 → Int32 → (Nat → Int32) → (Nat → Int32) → (Nat → Int32) → (Nat → Int32) → (Nat → Int32) → (Nat → Int32) → (Nat → Int32) → (Nat → Int32) → (Nat → Int32) → (Nat → Int32) → (Nat → Int32) → Prop} {x2 : Int32} {q : Nat} (hw : ts_wf kd f s c) (ht : ts_tm tn c t) (hch : ch < 3)
    (h : ∀ v r l : Nat → Int32, J (nI (q + 1)) (nI c) (nI t) b kd f s tn tw (ts_g ch xs ms) (ts_k kd f s tw tn t (fun x => x >>> (b &&& 31)) ch (ts_g ch xs ms) ms) v r l us) : ∃ n, wY_leap_38 post J (nI ch) x2 (nI q) (nI c) (nI t) b n 0 kd f s tn tw xs ms wa qa sl us :=
  loop_0 (fun n i (z : Nat → Int32) => wY_leap_38 post J (nI ch) x2 (nI q) (nI c) (nI t) b n (nI i) kd f s tn tw z ms wa qa sl us) (fun i z => z = ts_A xs (4 * ch) (fun i => ms (4 * ch + i)) i) 4 xs rfl
    (fun n z e => br_t (nI_le (a := 4) (b := 4) (by decide) (by decide)) (ty_ki hw ht hch (fun v r l => nm_r (nI_1 q) (by rw [e]; exact h v r l))))
    (fun n i z hi e H => br_f (nI_ge (b := 4) hi (by decide)) ⟨ty_in hch hi, ty_in hch hi, ty_in hch hi, fun y ey => nm_r (nI_1 i) (H y (by rw [ey, e, ty_cl hch hi]; rfl))⟩)
theorem ty_le {post : Int32 → SY → Prop} {m : Nat} (hw : ts_wf kd f s c) (ht : ts_tm tn c t) (hch : ch < 3) (hm : m ≤ 40)
    (h : ∀ v r l : Nat → Int32, post (ts_T kd f s tw tn t (ts_pt (ts_L kd f s tw tn t (fun x => x >>> (b &&& 31)) ch xs ms m).1 ch) &&& 255) (nI c, nI t, b, kd, f, s, tn, tw, (ts_L kd f s tw tn t (fun x => x >>> (b &&& 31)) ch xs ms m).1, (ts_L kd f s tw tn t (fun x => x >>> (b &&& 31)) ch xs ms m).2, v, r, l, us)) : ∃ n, wY_leap_25 post (nI ch) (nI m) n 0 (nI c) (nI t) b kd f s tn tw xs ms wa qa sl us :=
  loop_0 (fun n i (z : (Nat → Int32) × (Nat → Int32) × (Nat → Int32) × (Nat → Int32) × (Nat → Int32)) => wY_leap_25 post (nI ch) (nI m) n (nI i) (nI c) (nI t) b kd f s tn tw z.1 z.2.1 z.2.2.1 z.2.2.2.1 z.2.2.2.2 us)
    (fun i z => z.1 = (ts_L kd f s tw tn t (fun x => x >>> (b &&& 31)) ch xs ms i).1 ∧ z.2.1 = (ts_L kd f s tw tn t (fun x => x >>> (b &&& 31)) ch xs ms i).2) m (xs, ms, wa, qa, sl) ⟨rfl, rfl⟩
    (fun n z hz => br_t (Int32.le_refl _) (ty_wk hw hch (fun v r hv hr => ty_to hw.1 ht hv (by
      have h9 := h v r z.2.2.2.2
      rw [← hz.1, ← hz.2] at h9
      exact h9))))
    (fun n i z hi hz H => br_f (nI_ge hi (by omega)) (ty_ki hw ht hch (fun v r l => ty_gl hw ht hch (fun v2 r2 l2 => H (ts_g ch z.1 (ts_k kd f s tw tn t (fun x => x >>> (b &&& 31)) ch z.1 z.2.1), ts_k kd f s tw tn t (fun x => x >>> (b &&& 31)) ch (ts_g ch z.1 (ts_k kd f s tw tn t (fun x => x >>> (b &&& 31)) ch z.1 z.2.1)) (ts_k kd f s tw tn t (fun x => x >>> (b &&& 31)) ch z.1 z.2.1), v2, r2, l2)
      ⟨by rw [hz.1, hz.2]; rfl, by rw [hz.1, hz.2]; rfl⟩))))
theorem ty_tu {post : Int32 → SY → Prop} (hch : ch < 3) (h : post 0 (nI c, nI t, b, kd, f, s, tn, tw, xs, ts_N ms (4 * ch) 4, wa, qa, sl, us)) : ∃ n, wY_turn_12 post (nI ch) (nI c) (nI t) b n 0 kd f s tn tw xs ms wa qa sl us :=
  loop_0 (fun n i (z : Nat → Int32) => wY_turn_12 post (nI ch) (nI c) (nI t) b n (nI i) kd f s tn tw xs z wa qa sl us) (fun i z => z = ts_N ms (4 * ch) i) 4 ms rfl
    (fun n z e => br_t (nI_le (a := 4) (b := 4) (by decide) (by decide)) (by rw [e]; exact h))
    (fun n i z hi e H => br_f (nI_ge (b := 4) hi (by decide)) ⟨ty_in hch hi, ty_in hch hi, fun y ey => nm_r (nI_1 i) (H y (by rw [ey, e, ty_cl hch hi]; rfl))⟩)
theorem ty_cp {post : Int32 → SY → Prop} (hch : ch < 3) (hd : d < 3) (h : post 0 (nI c, nI t, b, kd, f, s, tn, tw, ts_C xs (4 * ch) (4 * d) 4, ts_C ms (4 * ch) (4 * d) 4, wa, qa, sl, us)) : ∃ n, wY_copy_20 post (nI ch) (nI d) (nI c) (nI t) b n 0 kd f s tn tw xs ms wa qa sl us :=
  loop_0 (fun n i (z : (Nat → Int32) × (Nat → Int32)) => wY_copy_20 post (nI ch) (nI d) (nI c) (nI t) b n (nI i) kd f s tn tw z.1 z.2 wa qa sl us) (fun i z => z.1 = ts_C xs (4 * ch) (4 * d) i ∧ z.2 = ts_C ms (4 * ch) (4 * d) i) 4 (xs, ms) ⟨rfl, rfl⟩
    (fun n z hz => br_t (nI_le (a := 4) (b := 4) (by decide) (by decide)) (by rw [hz.1, hz.2]; exact h))
    (fun n i z hi hz H => br_f (nI_ge (b := 4) hi (by decide)) ⟨ty_in hch hi, ty_in hd hi, fun y ey => ⟨ty_in hch hi, ty_in hd hi, fun y2 ey2 => nm_r (nI_1 i) (H (y, y2) ⟨by show y = _; rw [ey, ty_cl hch hi, ty_cl hd hi, hz.1]; rfl, by show y2 = _; rw [ey2, ty_cl hch hi, ty_cl hd hi, hz.2]; rfl⟩)⟩⟩)
theorem ty_li {post : Int32 → SY → Prop} {U : Nat → Int32} (hw : ts_wf kd f s c) (hU : ∀ j, j < 24 → us j = U j) (h : ∀ r : Nat → Int32, post (ts_lv kd f s c U 0) (nI c, nI t, b, kd, f, s, tn, tw, xs, ms, wa, qa, sl, r)) : ∃ n, wY_live_64 post (nI c) (nI t) b n 0 (nI c + (-1)) kd f s tn tw xs ms wa qa sl us := by
  have hc := hw.1
  refine ⟨c + 1, pk_loopD (fun n i (z : Int32 × (Nat → Int32)) => wY_live_64 post (nI c) (nI t) b n z.1 (nI i + (-1)) kd f s tn tw xs ms wa qa sl z.2) (fun i z => i ≤ c ∧ ∃ V : Nat → Int32, (∀ j, j < 24 → z.2 j = V j) ∧ ts_lv kd f s i V z.1 = ts_lv kd f s c U 0) ?_ ?_ c (0, us) ⟨Nat.le_refl _, U, hU, rfl⟩⟩
  · intro n z hz
    obtain ⟨-, V, -, e⟩ := hz
    have h9 := h z.2
    rw [← e] at h9
    exact br_t (by decide) h9
  · intro n i z hz H
    obtain ⟨hi, V, hV, e⟩ := hz
    have hcl : (nI i).toNatClampNeg = i := nI_clamp (by omega)
    have hin : vp_in (nI i) 24 := vp_in_nI (by omega) (by decide)
    show wY_live_64 post (nI c) (nI t) b (n + 1) z.1 (nI (i + 1) + (-1)) kd f s tn tw xs ms wa qa sl z.2
    rw [pk_m1]
    refine br_f (nI_pos (by omega)) (br_f (nI_ge (b := 24) (by omega) (by decide)) ⟨hin, ?_⟩)
    rw [hcl, hV i (by omega)]
    refine br_c (fun h0 => nm_e (H z ⟨by omega, V, hV, by rw [← e, ts_lv0 h0]⟩)) (fun h0 => nm_e ⟨hin, ?_⟩)
    rcases hw.2 i (by omega) with ⟨a1, b1, ha, hb, ea, eb, h9⟩ | ⟨h9, a1, ha, ea⟩ | h9
    · have h1 : vp_in (f i) 24 := by rw [ea]; exact vp_in_nI (by omega) (by decide)
      have h2 : vp_in (s i) 24 := by rw [eb]; exact vp_in_nI (by omega) (by decide)
      have h8 : kd i = 0 ∨ kd i = 1 ∨ kd i = 2 ∨ kd i = 3 := by
        rcases h9 with z | z | z | ⟨z, -⟩
        · exact Or.inl z
        · exact Or.inr (Or.inl z)
        · exact Or.inr (Or.inr (Or.inl z))
        · exact Or.inr (Or.inr (Or.inr z))
      have h7 : ¬ 4 ≤ kd i := by
        rcases h8 with z | z | z | z
        · rw [z]; decide
        · rw [z]; decide
        · rw [z]; decide
        · rw [z]; decide
      exact br_f h7 ⟨hin, h1, fun r er => ⟨hin, h2, fun r2 er2 => nm_e (H (z.1 + 1, r2) ⟨by omega, ts_mk kd f s V i, by
        show ∀ j, j < 24 → r2 j = ts_mk kd f s V i j
        rw [er2, er, tx_b1, ts_mk1 h8]
        exact ts_u2 (ts_u2 hV), by rw [← e, ts_lv1 h0]⟩)⟩⟩
    · exact br_t (by rw [h9]; decide) (nm_e (H (z.1 + 1, z.2) ⟨by omega, V, hV, by rw [← e, ts_lv1 h0, ts_mk4 h9]⟩))
    · exact br_t (by rw [h9]; decide) (nm_e (H (z.1 + 1, z.2) ⟨by omega, V, hV, by rw [← e, ts_lv1 h0, ts_mk5 h9]⟩))
theorem ty_lv {post : Int32 → SY → Prop} (hw : ts_wf kd f s c) (ht : ts_tm tn c t) (h : ∀ r : Nat → Int32, post (ts_lv kd f s c (ts_us tn t) 0) (nI c, nI t, b, kd, f, s, tn, tw, xs, ms, wa, qa, sl, r)) : wpY_live post (nI c, nI t, b, kd, f, s, tn, tw, xs, ms, wa, qa, sl, us) := by
  have hc := hw.1
  have ht8 := ht.1
  exact loop_0 (fun n i (r : Nat → Int32) => wY_live_2 post (nI c) (nI t) b n (nI i) kd f s tn tw xs ms wa qa sl r) (fun i r => ∀ j, j < i → r j = 0) 24 us
    (fun j hj => absurd hj (by omega))
    (fun n r hr => br_t (nI_le (a := 24) (b := 24) (by decide) (by decide))
      (loop_0 (fun n i (r : Nat → Int32) => wY_live_23 post (nI c) (nI t) b n (nI i) kd f s tn tw xs ms wa qa sl r) (fun i r => ∀ j, j < 24 → r j = ts_us tn i j) t r
        (fun j hj => hr j hj)
        (fun n r hr => br_t (Int32.le_refl _) (nm_r (ty_sub _) (ty_li hw hr h)))
        (fun n i r hi hr H => br_f (nI_ge hi (by omega)) (br_f (nI_ge (b := 8) (by omega) (by decide)) ⟨vp_in_nI (by omega) (by decide), by
          rw [nI_clamp (by omega)]
          obtain ⟨a, ha, ea⟩ := ht.2 i hi
          rw [ea]
          exact vp_in_nI (by omega) (by decide), fun r' e => nm_r (nI_1 i) (H r' (by rw [e, nI_clamp (by omega), tx_b1]; exact ts_u2 hr))⟩))))
    (fun n i r hi hr H => br_f (nI_ge (b := 24) hi (by decide)) ⟨vp_in_nI hi (by decide), fun r' e => nm_r (nI_1 i) (H r' (by rw [e, nI_clamp (by omega), tx_b0]; exact ts_up (b := fun _ => 0) hr rfl))⟩)
end
