/-! the relation: one program, one list of terms, one set of chains; free working space -/
def i_Rel (k : Nat) (u : SX) (v : SY) : Prop := ∃ (c t : Nat) (b : Int32) (kd f s tn tw xs ms pt va ra re wa qa sl us : Nat → Int32), u = (nI c, nI t, b, kd, f, s, tn, tw, xs, ms, pt, va, ra, re) ∧ v = (nI c, nI t, b, kd, f, s, tn, tw, xs, ms, wa, qa, sl, us) ∧ ts_wf kd f s c ∧ ts_tm tn c t
theorem i_up {k : Nat} {u : SX} {v : SY} (h : i_Rel k u v) : i_Rel (k + 4) u v := h
theorem ts_I {k c t : Nat} {b : Int32} {kd f s tn tw xs ms pt va ra re wa qa sl us : Nat → Int32} (hw : ts_wf kd f s c) (ht : ts_tm tn c t) : i_Rel k (nI c, nI t, b, kd, f, s, tn, tw, xs, ms, pt, va, ra, re) (nI c, nI t, b, kd, f, s, tn, tw, xs, ms, wa, qa, sl, us) :=
  ⟨c, t, b, kd, f, s, tn, tw, xs, ms, pt, va, ra, re, wa, qa, sl, us, rfl, rfl, hw, ht⟩
theorem i_vc0 : wpX_init (fun u => wpY_init (fun v => i_Rel 0 u v)) :=
  ts_I (k := 0) (c := 0) (t := 0) ⟨by decide, fun k hk => absurd hk (by omega)⟩ ⟨by decide, fun k hk => absurd hk (by omega)⟩
theorem ts_wf_add {kd f s : Nat → Int32} {c : Nat} {p0 p1 p2 : Int32} (hw : ts_wf kd f s c) (hc : c < 24)
    (hn : (∃ a b : Nat, a < c ∧ b < c ∧ p1 = nI a ∧ p2 = nI b ∧ (p0 = 0 ∨ p0 = 1 ∨ p0 = 2 ∨ (p0 = 3 ∧ a = b))) ∨ (p0 = 4 ∧ ∃ a : Nat, a < 4 ∧ p1 = nI a) ∨ p0 = 5) : ts_wf (upd kd c p0) (upd f c p1) (upd s c p2) (c + 1) := by
  refine ⟨by omega, fun k hk => ?_⟩
  unfold ts_nd
  by_cases e : k = c
  · subst e
    rw [pk_us, pk_us, pk_us]
    exact hn
  · rw [pk_un e, pk_un e, pk_un e]
    exact hw.2 k (by omega)
theorem ts_tm_up {tn : Nat → Int32} {c t : Nat} (ht : ts_tm tn c t) : ts_tm tn (c + 1) t :=
  ⟨ht.1, fun j hj => by obtain ⟨a, ha, e⟩ := ht.2 j hj; exact ⟨a, by omega, e⟩⟩
theorem ts_tm_add {tn : Nat → Int32} {c t a : Nat} (ht : ts_tm tn c t) (h8 : t < 8) (ha : a < c) : ts_tm (upd tn t (nI a)) c (t + 1) := by
  refine ⟨by omega, fun j hj => ?_⟩
  by_cases e : j = t
  · subst e
    exact ⟨a, ha, pk_us⟩
  · rw [pk_un e]
    exact ht.2 j (by omega)
theorem ts_ix (x : Int32) {n : Nat} (hn : n < 2 ^ 31) : (x < 0 ∨ nI n ≤ x) ∨ ∃ j : Nat, j < n ∧ x = nI j := by
  rcases pk_ix x hn with h | h | h
  · exact Or.inl (Or.inl h)
  · exact Or.inl (Or.inr h)
  · exact Or.inr h
theorem ts_l24 {c : Nat} (h : c < 24) : nI c < 24 := nI_lt (b := 24) h (by decide)
theorem ts_n24 {c : Nat} (h : ¬ c < 24) (h2 : c ≤ 24) : ¬ nI c < 24 := nI_nlt (b := 24) (by omega) (by omega)
theorem ts_l23 {c : Nat} (h : c < 24) : nI c ≤ 23 := nI_le (b := 23) (by omega) (by decide)
theorem ts_n23 {c : Nat} (h : ¬ c < 24) (h2 : c ≤ 24) : ¬ nI c ≤ 23 := nI_ge (a := 23) (by omega) (by omega)
theorem ts_l8 {c : Nat} (h : c < 8) : nI c < 8 := nI_lt (b := 8) h (by decide)
theorem ts_n8 {c : Nat} (h : ¬ c < 8) (h2 : c ≤ 8) : ¬ nI c < 8 := nI_nlt (b := 8) (by omega) (by omega)
theorem ts_l7 {c : Nat} (h : c < 8) : nI c ≤ 7 := nI_le (b := 7) (by omega) (by decide)
theorem ts_n7 {c : Nat} (h : ¬ c < 8) (h2 : c ≤ 8) : ¬ nI c ≤ 7 := nI_ge (a := 7) (by omega) (by omega)
