/-! stores and numbers (from the rows to paste) -/
theorem pk_us {f : Nat → Int32} {k : Nat} {x : Int32} : upd f k x k = x := if_pos rfl
theorem pk_un {f : Nat → Int32} {k j : Nat} {x : Int32} (h : j ≠ k) : upd f k x j = f j := if_neg h
theorem pk_m1 (n : Nat) : nI (n + 1) + (-1) = nI n := by
  rw [← nI_1, Int32.add_assoc, show (1 : Int32) + (-1) = 0 from rfl, Int32.add_zero]
theorem pk_mul (a b : Nat) : nI a * nI b = nI (a * b) := (Int32.ofNat_mul a b).symm
theorem pk_ix (x : Int32) {n : Nat} (hn : n < 2 ^ 31) : x < 0 ∨ nI n ≤ x ∨ ∃ j : Nat, j < n ∧ x = nI j := by
  by_cases h : x < 0
  · exact Or.inl h
  · obtain ⟨j, hj, rfl⟩ := nI_of h
    by_cases h2 : j < n
    · exact Or.inr (Or.inr ⟨j, h2, rfl⟩)
    · exact Or.inr (Or.inl (nI_le (by omega) hj))
theorem pk_le {x y : Int32} {A B : Prop} (a b : Nat) (f : a ≤ b → A) (g : b < a → B) (hx : x = nI a := by rfl) (hy : y = nI b := by rfl) (ha : a < 2 ^ 31 := by omega) (hb : b < 2 ^ 31 := by omega) : (x ≤ y → A) ∧ (¬ x ≤ y → B) := by
  subst hx hy
  rw [nI_leI ha hb]
  exact ⟨f, fun z => g (by omega)⟩
theorem pk_lt {x y : Int32} {A B : Prop} (a b : Nat) (f : a < b → A) (g : b ≤ a → B) (hx : x = nI a := by rfl) (hy : y = nI b := by rfl) (ha : a < 2 ^ 31 := by omega) (hb : b < 2 ^ 31 := by omega) : (x < y → A) ∧ (¬ x < y → B) := by
  subst hx hy
  rw [nI_ltI ha hb]
  exact ⟨f, fun z => g (by omega)⟩
theorem pk_eq {x y : Int32} {A B : Prop} (a b : Nat) (f : a = b → A) (g : a ≠ b → B) (hx : x = nI a := by rfl) (hy : y = nI b := by rfl) (ha : a < 2 ^ 31 := by omega) (hb : b < 2 ^ 31 := by omega) : (x = y → A) ∧ (¬ x = y → B) := by
  subst hx hy
  rw [nI_eq ha hb]
  exact ⟨f, g⟩
theorem pk_in {x : Int32} (n N : Nat) (h : n < N) (hx : x = nI n := by rfl) (hN : N < 2 ^ 31 := by omega) : vp_in x N := by
  subst hx
  exact vp_in_nI h hN
theorem pk_cl {x : Int32} (n : Nat) (hx : x = nI n := by rfl) (h : n < 2 ^ 31 := by omega) : x.toNatClampNeg = n := by
  subst hx
  exact nI_clamp h
theorem pk_loop {σ : Type} (W : Nat → Nat → σ → Prop) (I : Nat → σ → Prop) (e i0 : Nat) (s : σ) (hi : i0 ≤ e) (h0 : I i0 s) (hx : ∀ n s, I e s → W (n + 1) e s)
    (hs : ∀ n i s, i < e → I i s → (∀ s', I (i + 1) s' → W n (i + 1) s') → W (n + 1) i s) : ∃ n, W n i0 s :=
  ⟨e + 1, loop_i W I e hx hs (e + 1) i0 s hi (by omega) h0⟩
theorem pk_loopD {σ : Type} (W : Nat → Nat → σ → Prop) (I : Nat → σ → Prop) (hx : ∀ n s, I 0 s → W (n + 1) 0 s)
    (hs : ∀ n i s, I (i + 1) s → (∀ s', I i s' → W n i s') → W (n + 1) (i + 1) s) : ∀ (e : Nat) (s : σ), I e s → W (e + 1) e s := by
  intro e
  induction e with
  | zero => exact fun s h => hx 0 s h
  | succ e ih => exact fun s h => hs (e + 1) e s h (fun s' h' => ih s' h')
/-! one node from its operands: the value, the slope -/
def ts_sv (kd f s pt va : Nat → Int32) (k : Nat) : Int32 :=
  if kd k = 0 then va (f k).toNatClampNeg + va (s k).toNatClampNeg
  else if kd k = 1 then va (f k).toNatClampNeg - va (s k).toNatClampNeg
  else if kd k = 2 then va (f k).toNatClampNeg * va (s k).toNatClampNeg
  else if kd k = 3 then va (f k).toNatClampNeg * va (f k).toNatClampNeg
  else if kd k = 4 then pt (f k).toNatClampNeg
  else f k
def ts_sr (kd f s : Nat → Int32) (i : Int32) (va ra : Nat → Int32) (k : Nat) : Int32 :=
  if kd k = 0 then ra (f k).toNatClampNeg + ra (s k).toNatClampNeg
  else if kd k = 1 then ra (f k).toNatClampNeg - ra (s k).toNatClampNeg
  else if kd k = 2 then ra (f k).toNatClampNeg * va (s k).toNatClampNeg + va (f k).toNatClampNeg * ra (s k).toNatClampNeg
  else if kd k = 3 then 2 * va (f k).toNatClampNeg * ra (f k).toNatClampNeg
  else if kd k = 4 then (if f k = i then 1 else 0)
  else 0
theorem ts_10 : ¬ (1 : Int32) = 0 := by decide
theorem ts_20 : ¬ (2 : Int32) = 0 := by decide
theorem ts_21 : ¬ (2 : Int32) = 1 := by decide
theorem ts_30 : ¬ (3 : Int32) = 0 := by decide
theorem ts_31 : ¬ (3 : Int32) = 1 := by decide
theorem ts_32 : ¬ (3 : Int32) = 2 := by decide
theorem ts_40 : ¬ (4 : Int32) = 0 := by decide
theorem ts_41 : ¬ (4 : Int32) = 1 := by decide
theorem ts_42 : ¬ (4 : Int32) = 2 := by decide
theorem ts_43 : ¬ (4 : Int32) = 3 := by decide
theorem ts_50 : ¬ (5 : Int32) = 0 := by decide
theorem ts_51 : ¬ (5 : Int32) = 1 := by decide
theorem ts_52 : ¬ (5 : Int32) = 2 := by decide
theorem ts_53 : ¬ (5 : Int32) = 3 := by decide
theorem ts_54 : ¬ (5 : Int32) = 4 := by decide
section
variable {kd f s pt va ra : Nat → Int32} {i : Int32} {k : Nat}
theorem ts_sv0 (h : kd k = 0) : ts_sv kd f s pt va k = va (f k).toNatClampNeg + va (s k).toNatClampNeg := by
  unfold ts_sv; rw [h, if_pos rfl]
theorem ts_sv1 (h : kd k = 1) : ts_sv kd f s pt va k = va (f k).toNatClampNeg - va (s k).toNatClampNeg := by
  unfold ts_sv; rw [h, if_neg ts_10, if_pos rfl]
theorem ts_sv2 (h : kd k = 2) : ts_sv kd f s pt va k = va (f k).toNatClampNeg * va (s k).toNatClampNeg := by
  unfold ts_sv; rw [h, if_neg ts_20, if_neg ts_21, if_pos rfl]
theorem ts_sv3 (h : kd k = 3) : ts_sv kd f s pt va k = va (f k).toNatClampNeg * va (f k).toNatClampNeg := by
  unfold ts_sv; rw [h, if_neg ts_30, if_neg ts_31, if_neg ts_32, if_pos rfl]
theorem ts_sv4 (h : kd k = 4) : ts_sv kd f s pt va k = pt (f k).toNatClampNeg := by
  unfold ts_sv; rw [h, if_neg ts_40, if_neg ts_41, if_neg ts_42, if_neg ts_43, if_pos rfl]
theorem ts_sv5 (h : kd k = 5) : ts_sv kd f s pt va k = f k := by
  unfold ts_sv; rw [h, if_neg ts_50, if_neg ts_51, if_neg ts_52, if_neg ts_53, if_neg ts_54]
theorem ts_sr0 (h : kd k = 0) : ts_sr kd f s i va ra k = ra (f k).toNatClampNeg + ra (s k).toNatClampNeg := by
  unfold ts_sr; rw [h, if_pos rfl]
theorem ts_sr1 (h : kd k = 1) : ts_sr kd f s i va ra k = ra (f k).toNatClampNeg - ra (s k).toNatClampNeg := by
  unfold ts_sr; rw [h, if_neg ts_10, if_pos rfl]
theorem ts_sr2 (h : kd k = 2) : ts_sr kd f s i va ra k = ra (f k).toNatClampNeg * va (s k).toNatClampNeg + va (f k).toNatClampNeg * ra (s k).toNatClampNeg := by
  unfold ts_sr; rw [h, if_neg ts_20, if_neg ts_21, if_pos rfl]
theorem ts_sr3 (h : kd k = 3) : ts_sr kd f s i va ra k = 2 * va (f k).toNatClampNeg * ra (f k).toNatClampNeg := by
  unfold ts_sr; rw [h, if_neg ts_30, if_neg ts_31, if_neg ts_32, if_pos rfl]
theorem ts_sr4 (h : kd k = 4) : ts_sr kd f s i va ra k = (if f k = i then 1 else 0) := by
  unfold ts_sr; rw [h, if_neg ts_40, if_neg ts_41, if_neg ts_42, if_neg ts_43, if_pos rfl]
theorem ts_sr5 (h : kd k = 5) : ts_sr kd f s i va ra k = 0 := by
  unfold ts_sr; rw [h, if_neg ts_50, if_neg ts_51, if_neg ts_52, if_neg ts_53, if_neg ts_54]
theorem ts_sq (x y : Int32) : y * x + x * y = 2 * x * y := by grind
end
/-! well-made nodes and terms -/
def ts_nd (kd f s : Nat → Int32) (k : Nat) : Prop :=
  (∃ a b : Nat, a < k ∧ b < k ∧ f k = nI a ∧ s k = nI b ∧ (kd k = 0 ∨ kd k = 1 ∨ kd k = 2 ∨ (kd k = 3 ∧ a = b))) ∨ (kd k = 4 ∧ ∃ a : Nat, a < 4 ∧ f k = nI a) ∨ kd k = 5
def ts_wf (kd f s : Nat → Int32) (c : Nat) : Prop := c ≤ 24 ∧ ∀ k, k < c → ts_nd kd f s k
def ts_tm (tn : Nat → Int32) (c t : Nat) : Prop := t ≤ 8 ∧ ∀ j, j < t → ∃ a : Nat, a < c ∧ tn j = nI a
theorem ts_sv_c {kd f s pt qt va vb : Nat → Int32} {k : Nat} (h : ts_nd kd f s k) (hk : k < 24) (hv : ∀ j, j < k → va j = vb j) (hp : ∀ j, j < 4 → pt j = qt j) : ts_sv kd f s pt va k = ts_sv kd f s qt vb k := by
  rcases h with ⟨a, b, ha, hb, ea, eb, h | h | h | ⟨h, -⟩⟩ | ⟨h, a, ha, ea⟩ | h
  · rw [ts_sv0 h, ts_sv0 h, ea, eb, nI_clamp (by omega), nI_clamp (by omega), hv a ha, hv b hb]
  · rw [ts_sv1 h, ts_sv1 h, ea, eb, nI_clamp (by omega), nI_clamp (by omega), hv a ha, hv b hb]
  · rw [ts_sv2 h, ts_sv2 h, ea, eb, nI_clamp (by omega), nI_clamp (by omega), hv a ha, hv b hb]
  · rw [ts_sv3 h, ts_sv3 h, ea, nI_clamp (by omega), hv a ha]
  · rw [ts_sv4 h, ts_sv4 h, ea, nI_clamp (by omega), hp a ha]
  · rw [ts_sv5 h, ts_sv5 h]
theorem ts_sr_c {kd f s va vb ra rb : Nat → Int32} {i : Int32} {k : Nat} (h : ts_nd kd f s k) (hk : k < 24) (hv : ∀ j, j < k → va j = vb j) (hr : ∀ j, j < k → ra j = rb j) : ts_sr kd f s i va ra k = ts_sr kd f s i vb rb k := by
  rcases h with ⟨a, b, ha, hb, ea, eb, h | h | h | ⟨h, -⟩⟩ | ⟨h, a, ha, ea⟩ | h
  · rw [ts_sr0 h, ts_sr0 h, ea, eb, nI_clamp (by omega), nI_clamp (by omega), hr a ha, hr b hb]
  · rw [ts_sr1 h, ts_sr1 h, ea, eb, nI_clamp (by omega), nI_clamp (by omega), hr a ha, hr b hb]
  · rw [ts_sr2 h, ts_sr2 h, ea, eb, nI_clamp (by omega), nI_clamp (by omega), hr a ha, hr b hb, hv a ha, hv b hb]
  · rw [ts_sr3 h, ts_sr3 h, ea, nI_clamp (by omega), hv a ha, hr a ha]
  · rw [ts_sr4 h, ts_sr4 h]
  · rw [ts_sr5 h, ts_sr5 h]
/-! the values and slopes of all nodes -/
def ts_Vn (kd f s pt : Nat → Int32) : Nat → Nat → Int32
  | 0 => fun _ => 0
  | n + 1 => fun k => ts_sv kd f s pt (ts_Vn kd f s pt n) k
def ts_V (kd f s pt : Nat → Int32) (k : Nat) : Int32 := ts_Vn kd f s pt (k + 1) k
def ts_Rn (kd f s : Nat → Int32) (i : Int32) (va : Nat → Int32) : Nat → Nat → Int32
  | 0 => fun _ => 0
  | n + 1 => fun k => ts_sr kd f s i va (ts_Rn kd f s i va n) k
def ts_R (kd f s : Nat → Int32) (i : Int32) (va : Nat → Int32) (k : Nat) : Int32 := ts_Rn kd f s i va (k + 1) k
theorem ts_Vn_st {kd f s pt : Nat → Int32} {c : Nat} (h : ts_wf kd f s c) : ∀ n m k, k < n → k < m → k < c → ts_Vn kd f s pt n k = ts_Vn kd f s pt m k := by
  intro n
  induction n with
  | zero => intro m k hn; omega
  | succ n ih =>
    intro m k hn hm hc
    obtain ⟨m, rfl⟩ : ∃ q, m = q + 1 := ⟨m - 1, by omega⟩
    have hc24 := h.1
    exact ts_sv_c (h.2 k hc) (by omega) (fun j hj => ih m j (by omega) (by omega) (by omega)) (fun _ _ => rfl)
theorem ts_V_eq {kd f s pt : Nat → Int32} {c k : Nat} (h : ts_wf kd f s c) (hk : k < c) : ts_V kd f s pt k = ts_sv kd f s pt (ts_V kd f s pt) k := by
  have hc24 := h.1
  exact ts_sv_c (h.2 k hk) (by omega) (fun j hj => ts_Vn_st h k (j + 1) j hj (by omega) (by omega)) (fun _ _ => rfl)
theorem ts_Rn_st {kd f s va : Nat → Int32} {i : Int32} {c : Nat} (h : ts_wf kd f s c) : ∀ n m k, k < n → k < m → k < c → ts_Rn kd f s i va n k = ts_Rn kd f s i va m k := by
  intro n
  induction n with
  | zero => intro m k hn; omega
  | succ n ih =>
    intro m k hn hm hc
    obtain ⟨m, rfl⟩ : ∃ q, m = q + 1 := ⟨m - 1, by omega⟩
    have hc24 := h.1
    exact ts_sr_c (h.2 k hc) (by omega) (fun _ _ => rfl) (fun j hj => ih m j (by omega) (by omega) (by omega))
theorem ts_R_eq {kd f s va : Nat → Int32} {i : Int32} {c k : Nat} (h : ts_wf kd f s c) (hk : k < c) : ts_R kd f s i va k = ts_sr kd f s i va (ts_R kd f s i va) k := by
  have hc24 := h.1
  exact ts_sr_c (h.2 k hk) (by omega) (fun _ _ => rfl) (fun j hj => ts_Rn_st h k (j + 1) j hj (by omega) (by omega))
/-- the next value, reckoned from an array that holds the values so far -/
theorem ts_V_nx {kd f s pt qt va : Nat → Int32} {c k : Nat} (h : ts_wf kd f s c) (hk : k < c) (hv : ∀ j, j < k → va j = ts_V kd f s qt j) (hp : ∀ j, j < 4 → pt j = qt j) : ts_sv kd f s pt va k = ts_V kd f s qt k := by
  have hc24 := h.1
  rw [ts_V_eq h hk]
  exact ts_sv_c (h.2 k hk) (by omega) hv hp
theorem ts_R_nx {kd f s va vb ra : Nat → Int32} {i : Int32} {c k : Nat} (h : ts_wf kd f s c) (hk : k < c) (hv : ∀ j, j < k → va j = vb j) (hr : ∀ j, j < k → ra j = ts_R kd f s i vb j) : ts_sr kd f s i va ra k = ts_R kd f s i vb k := by
  have hc24 := h.1
  rw [ts_R_eq h hk]
  exact ts_sr_c (h.2 k hk) (by omega) hv hr
theorem ts_up {a b : Nat → Int32} {k : Nat} {x : Int32} (h : ∀ j, j < k → a j = b j) (hx : x = b k) : ∀ j, j < k + 1 → upd a k x j = b j := by
  intro j hj
  by_cases e : j = k
  · subst e; rw [pk_us, hx]
  · rw [pk_un e, h j (by omega)]
/-! weights -/
def ts_W (tw tn va : Nat → Int32) : Nat → Int32
  | 0 => 0
  | t + 1 => ts_W tw tn va t + tw t * va (tn t).toNatClampNeg
theorem ts_W_c {tw tn va vb : Nat → Int32} {c : Nat} (hc : c ≤ 24) (hv : ∀ j, j < c → va j = vb j) : ∀ t, (∀ j, j < t → ∃ a : Nat, a < c ∧ tn j = nI a) → ts_W tw tn va t = ts_W tw tn vb t := by
  intro t
  induction t with
  | zero => exact fun _ => rfl
  | succ t ih =>
    intro h
    obtain ⟨a, ha, e⟩ := h t (by omega)
    show ts_W tw tn va t + tw t * va (tn t).toNatClampNeg = ts_W tw tn vb t + tw t * vb (tn t).toNatClampNeg
    rw [ih (fun j hj => h j (by omega)), e, nI_clamp (by omega), hv a ha]
/-! a chain's four cells: its point, adding, turning, copying -/
def ts_pt (xs : Nat → Int32) (ch : Nat) : Nat → Int32 := fun j => xs (4 * ch + j)
def ts_T (kd f s tw tn : Nat → Int32) (t : Nat) (pt : Nat → Int32) : Int32 := ts_W tw tn (ts_V kd f s pt) t
def ts_G (kd f s tw tn : Nat → Int32) (t : Nat) (pt : Nat → Int32) (i : Nat) : Int32 := ts_W tw tn (ts_R kd f s (nI i) (ts_V kd f s pt)) t
def ts_A (a : Nat → Int32) (q : Nat) (d : Nat → Int32) : Nat → Nat → Int32
  | 0 => a
  | n + 1 => upd (ts_A a q d n) (q + n) (ts_A a q d n (q + n) + d n)
def ts_N (a : Nat → Int32) (q : Nat) : Nat → Nat → Int32
  | 0 => a
  | n + 1 => upd (ts_N a q n) (q + n) (- ts_N a q n (q + n))
def ts_C (a : Nat → Int32) (p q : Nat) : Nat → Nat → Int32
  | 0 => a
  | n + 1 => upd (ts_C a p q n) (q + n) (ts_C a p q n (p + n))
theorem ts_A_c {a : Nat → Int32} {q : Nat} {d e : Nat → Int32} : ∀ n, (∀ j, j < n → d j = e j) → ts_A a q d n = ts_A a q e n := by
  intro n
  induction n with
  | zero => exact fun _ => rfl
  | succ n ih =>
    intro h
    show upd (ts_A a q d n) (q + n) (ts_A a q d n (q + n) + d n) = upd (ts_A a q e n) (q + n) (ts_A a q e n (q + n) + e n)
    rw [ih (fun j hj => h j (by omega)), h n (by omega)]
theorem ts_pt_u {xs : Nat → Int32} {ch i : Nat} {x : Int32} : ts_pt (upd xs (4 * ch + i) x) ch = upd (ts_pt xs ch) i x := by
  funext j
  show upd xs (4 * ch + i) x (4 * ch + j) = upd (ts_pt xs ch) i x j
  by_cases e : j = i
  · subst e; rw [pk_us, pk_us]
  · rw [pk_un e, pk_un (by omega)]; rfl
theorem ts_uu {a : Nat → Int32} {q : Nat} {x : Int32} : upd (upd a q x) q (a q) = a := by
  funext j
  by_cases e : j = q
  · subst e; rw [pk_us]
  · rw [pk_un e, pk_un e]
/-! one kick, one step, many steps -/
def ts_k (kd f s tw tn : Nat → Int32) (t : Nat) (sh : Int32 → Int32) (ch : Nat) (xs ms : Nat → Int32) : Nat → Int32 :=
  ts_A ms (4 * ch) (fun i => sh (ts_G kd f s tw tn t (ts_pt xs ch) i)) 4
def ts_g (ch : Nat) (xs ms : Nat → Int32) : Nat → Int32 := ts_A xs (4 * ch) (fun i => ms (4 * ch + i)) 4
def ts_st (kd f s tw tn : Nat → Int32) (t : Nat) (sh : Int32 → Int32) (ch : Nat) (xs ms : Nat → Int32) : (Nat → Int32) × (Nat → Int32) :=
  (ts_g ch xs (ts_k kd f s tw tn t sh ch xs ms), ts_k kd f s tw tn t sh ch (ts_g ch xs (ts_k kd f s tw tn t sh ch xs ms)) (ts_k kd f s tw tn t sh ch xs ms))
def ts_L (kd f s tw tn : Nat → Int32) (t : Nat) (sh : Int32 → Int32) (ch : Nat) (xs ms : Nat → Int32) : Nat → (Nat → Int32) × (Nat → Int32)
  | 0 => (xs, ms)
  | n + 1 => ts_st kd f s tw tn t sh ch (ts_L kd f s tw tn t sh ch xs ms n).1 (ts_L kd f s tw tn t sh ch xs ms n).2
/-! the sum of momentum times slope -/
def ts_D (ms : Nat → Int32) (q : Nat) (g : Nat → Int32) : Nat → Int32
  | 0 => 0
  | i + 1 => ts_D ms q g i + ms (q + i) * g i
/-! live nodes -/
def ts_mk (kd f s u : Nat → Int32) (k : Nat) : Nat → Int32 :=
  if kd k = 0 ∨ kd k = 1 ∨ kd k = 2 ∨ kd k = 3 then upd (upd u (f k).toNatClampNeg 1) (s k).toNatClampNeg 1 else u
def ts_lv (kd f s : Nat → Int32) : Nat → (Nat → Int32) → Int32 → Int32
  | 0 => fun _ n => n
  | k + 1 => fun u n => if u k = 0 then ts_lv kd f s k u n else ts_lv kd f s k (ts_mk kd f s u k) (n + 1)
def ts_us (tn : Nat → Int32) : Nat → Nat → Int32
  | 0 => fun _ => 0
  | t + 1 => upd (ts_us tn t) (tn t).toNatClampNeg 1
