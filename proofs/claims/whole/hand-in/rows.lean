section
/-! stores and numbers (from the rows to paste) -/
theorem pk_us {f : Nat → Int32} {k : Nat} {x : Int32} : upd f k x k = x := if_pos rfl
theorem pk_un {f : Nat → Int32} {k j : Nat} {x : Int32} (h : j ≠ k) : upd f k x j = f j := if_neg h
theorem pk_m1 (n : Nat) : nI (n + 1) + (-1) = nI n := by
  rw [← nI_1, Int32.add_assoc, show (1 : Int32) + (-1) = 0 from rfl, Int32.add_zero]
theorem pk_mul (a b : Nat) : nI a * nI b = nI (a * b) := (Int32.ofNat_mul a b).symm
theorem pk_ix (x : Int32) {n : Nat} (hn : n < 2 ^ 31) : x < 0 ∨ nI n ≤ x ∨ ∃ j : Nat, j < n ∧ x = nI j := by
  by_cases h : x < 0
  · exact Or.inl h
  · obtain ⟨j, hj, rfl⟩ := nI_of h
    by_cases h2 : j < n
    · exact Or.inr (Or.inr ⟨j, h2, rfl⟩)
    · exact Or.inr (Or.inl (nI_le (by omega) hj))
theorem pk_le {x y : Int32} {A B : Prop} (a b : Nat) (f : a ≤ b → A) (g : b < a → B) (hx : x = nI a := by rfl) (hy : y = nI b := by rfl) (ha : a < 2 ^ 31 := by omega) (hb : b < 2 ^ 31 := by omega) : (x ≤ y → A) ∧ (¬ x ≤ y → B) := by
  subst hx hy
  rw [nI_leI ha hb]
  exact ⟨f, fun z => g (by omega)⟩
theorem pk_lt {x y : Int32} {A B : Prop} (a b : Nat) (f : a < b → A) (g : b ≤ a → B) (hx : x = nI a := by rfl) (hy : y = nI b := by rfl) (ha : a < 2 ^ 31 := by omega) (hb : b < 2 ^ 31 := by omega) : (x < y → A) ∧ (¬ x < y → B) := by
  subst hx hy
  rw [nI_ltI ha hb]
  exact ⟨f, fun z => g (by omega)⟩
theorem pk_eq {x y : Int32} {A B : Prop} (a b : Nat) (f : a = b → A) (g : a ≠ b → B) (hx : x = nI a := by rfl) (hy : y = nI b := by rfl) (ha : a < 2 ^ 31 := by omega) (hb : b < 2 ^ 31 := by omega) : (x = y → A) ∧ (¬ x = y → B) := by
  subst hx hy
  rw [nI_eq ha hb]
  exact ⟨f, g⟩
theorem pk_in {x : Int32} (n N : Nat) (h : n < N) (hx : x = nI n := by rfl) (hN : N < 2 ^ 31 := by omega) : vp_in x N := by
  subst hx
  exact vp_in_nI h hN
theorem pk_cl {x : Int32} (n : Nat) (hx : x = nI n := by rfl) (h : n < 2 ^ 31 := by omega) : x.toNatClampNeg = n := by
  subst hx
  exact nI_clamp h
theorem pk_loop {σ : Type} (W : Nat → Nat → σ → Prop) (I : Nat → σ → Prop) (e i0 : Nat) (s : σ) (hi : i0 ≤ e) (h0 : I i0 s) (hx : ∀ n s, I e s → W (n + 1) e s)
    (hs : ∀ n i s, i < e → I i s → (∀ s', I (i + 1) s' → W n (i + 1) s') → W (n + 1) i s) : ∃ n, W n i0 s :=
  ⟨e + 1, loop_i W I e hx hs (e + 1) i0 s hi (by omega) h0⟩
theorem pk_loopD {σ : Type} (W : Nat → Nat → σ → Prop) (I : Nat → σ → Prop) (hx : ∀ n s, I 0 s → W (n + 1) 0 s)
    (hs : ∀ n i s, I (i + 1) s → (∀ s', I i s' → W n i s') → W (n + 1) (i + 1) s) : ∀ (e : Nat) (s : σ), I e s → W (e + 1) e s := by
  intro e
  induction e with
  | zero => exact fun s h => hx 0 s h
  | succ e ih => exact fun s h => hs (e + 1) e s h (fun s' h' => ih s' h')
/-! one node from its operands: the value, the slope -/
def ts_sv (kd f s pt va : Nat → Int32) (k : Nat) : Int32 :=
  if kd k = 0 then va (f k).toNatClampNeg + va (s k).toNatClampNeg
  else if kd k = 1 then va (f k).toNatClampNeg - va (s k).toNatClampNeg
  else if kd k = 2 then va (f k).toNatClampNeg * va (s k).toNatClampNeg
  else if kd k = 3 then va (f k).toNatClampNeg * va (f k).toNatClampNeg
  else if kd k = 4 then pt (f k).toNatClampNeg
  else f k
def ts_sr (kd f s : Nat → Int32) (i : Int32) (va ra : Nat → Int32) (k : Nat) : Int32 :=
  if kd k = 0 then ra (f k).toNatClampNeg + ra (s k).toNatClampNeg
  else if kd k = 1 then ra (f k).toNatClampNeg - ra (s k).toNatClampNeg
  else if kd k = 2 then ra (f k).toNatClampNeg * va (s k).toNatClampNeg + va (f k).toNatClampNeg * ra (s k).toNatClampNeg
  else if kd k = 3 then 2 * va (f k).toNatClampNeg * ra (f k).toNatClampNeg
  else if kd k = 4 then (if f k = i then 1 else 0)
  else 0
theorem ts_10 : ¬ (1 : Int32) = 0 := by decide
theorem ts_20 : ¬ (2 : Int32) = 0 := by decide
theorem ts_21 : ¬ (2 : Int32) = 1 := by decide
theorem ts_30 : ¬ (3 : Int32) = 0 := by decide
theorem ts_31 : ¬ (3 : Int32) = 1 := by decide
theorem ts_32 : ¬ (3 : Int32) = 2 := by decide
theorem ts_40 : ¬ (4 : Int32) = 0 := by decide
theorem ts_41 : ¬ (4 : Int32) = 1 := by decide
theorem ts_42 : ¬ (4 : Int32) = 2 := by decide
theorem ts_43 : ¬ (4 : Int32) = 3 := by decide
theorem ts_50 : ¬ (5 : Int32) = 0 := by decide
theorem ts_51 : ¬ (5 : Int32) = 1 := by decide
theorem ts_52 : ¬ (5 : Int32) = 2 := by decide
theorem ts_53 : ¬ (5 : Int32) = 3 := by decide
theorem ts_54 : ¬ (5 : Int32) = 4 := by decide
section
variable {kd f s pt va ra : Nat → Int32} {i : Int32} {k : Nat}
theorem ts_sv0 (h : kd k = 0) : ts_sv kd f s pt va k = va (f k).toNatClampNeg + va (s k).toNatClampNeg := by
  unfold ts_sv; rw [h, if_pos rfl]
theorem ts_sv1 (h : kd k = 1) : ts_sv kd f s pt va k = va (f k).toNatClampNeg - va (s k).toNatClampNeg := by
  unfold ts_sv; rw [h, if_neg ts_10, if_pos rfl]
theorem ts_sv2 (h : kd k = 2) : ts_sv kd f s pt va k = va (f k).toNatClampNeg * va (s k).toNatClampNeg := by
  unfold ts_sv; rw [h, if_neg ts_20, if_neg ts_21, if_pos rfl]
theorem ts_sv3 (h : kd k = 3) : ts_sv kd f s pt va k = va (f k).toNatClampNeg * va (f k).toNatClampNeg := by
  unfold ts_sv; rw [h, if_neg ts_30, if_neg ts_31, if_neg ts_32, if_pos rfl]
theorem ts_sv4 (h : kd k = 4) : ts_sv kd f s pt va k = pt (f k).toNatClampNeg := by
  unfold ts_sv; rw [h, if_neg ts_40, if_neg ts_41, if_neg ts_42, if_neg ts_43, if_pos rfl]
theorem ts_sv5 (h : kd k = 5) : ts_sv kd f s pt va k = f k := by
  unfold ts_sv; rw [h, if_neg ts_50, if_neg ts_51, if_neg ts_52, if_neg ts_53, if_neg ts_54]
theorem ts_sr0 (h : kd k = 0) : ts_sr kd f s i va ra k = ra (f k).toNatClampNeg + ra (s k).toNatClampNeg := by
  unfold ts_sr; rw [h, if_pos rfl]
theorem ts_sr1 (h : kd k = 1) : ts_sr kd f s i va ra k = ra (f k).toNatClampNeg - ra (s k).toNatClampNeg := by
  unfold ts_sr; rw [h, if_neg ts_10, if_pos rfl]
theorem ts_sr2 (h : kd k = 2) : ts_sr kd f s i va ra k = ra (f k).toNatClampNeg * va (s k).toNatClampNeg + va (f k).toNatClampNeg * ra (s k).toNatClampNeg := by
  unfold ts_sr; rw [h, if_neg ts_20, if_neg ts_21, if_pos rfl]
theorem ts_sr3 (h : kd k = 3) : ts_sr kd f s i va ra k = 2 * va (f k).toNatClampNeg * ra (f k).toNatClampNeg := by
  unfold ts_sr; rw [h, if_neg ts_30, if_neg ts_31, if_neg ts_32, if_pos rfl]
theorem ts_sr4 (h : kd k = 4) : ts_sr kd f s i va ra k = (if f k = i then 1 else 0) := by
  unfold ts_sr; rw [h, if_neg ts_40, if_neg ts_41, if_neg ts_42, if_neg ts_43, if_pos rfl]
theorem ts_sr5 (h : kd k = 5) : ts_sr kd f s i va ra k = 0 := by
  unfold ts_sr; rw [h, if_neg ts_50, if_neg ts_51, if_neg ts_52, if_neg ts_53, if_neg ts_54]
theorem ts_sq (x y : Int32) : y * x + x * y = 2 * x * y := by grind
end
/-! well-made nodes and terms -/
def ts_nd (kd f s : Nat → Int32) (k : Nat) : Prop :=
  (∃ a b : Nat, a < k ∧ b < k ∧ f k = nI a ∧ s k = nI b ∧ (kd k = 0 ∨ kd k = 1 ∨ kd k = 2 ∨ (kd k = 3 ∧ a = b))) ∨ (kd k = 4 ∧ ∃ a : Nat, a < 4 ∧ f k = nI a) ∨ kd k = 5
def ts_wf (kd f s : Nat → Int32) (c : Nat) : Prop := c ≤ 24 ∧ ∀ k, k < c → ts_nd kd f s k
def ts_tm (tn : Nat → Int32) (c t : Nat) : Prop := t ≤ 8 ∧ ∀ j, j < t → ∃ a : Nat, a < c ∧ tn j = nI a
theorem ts_sv_c {kd f s pt qt va vb : Nat → Int32} {k : Nat} (h : ts_nd kd f s k) (hk : k < 24) (hv : ∀ j, j < k → va j = vb j) (hp : ∀ j, j < 4 → pt j = qt j) : ts_sv kd f s pt va k = ts_sv kd f s qt vb k := by
  rcases h with ⟨a, b, ha, hb, ea, eb, h | h | h | ⟨h, -⟩⟩ | ⟨h, a, ha, ea⟩ | h
  · rw [ts_sv0 h, ts_sv0 h, ea, eb, nI_clamp (by omega), nI_clamp (by omega), hv a ha, hv b hb]
  · rw [ts_sv1 h, ts_sv1 h, ea, eb, nI_clamp (by omega), nI_clamp (by omega), hv a ha, hv b hb]
  · rw [ts_sv2 h, ts_sv2 h, ea, eb, nI_clamp (by omega), nI_clamp (by omega), hv a ha, hv b hb]
  · rw [ts_sv3 h, ts_sv3 h, ea, nI_clamp (by omega), hv a ha]
  · rw [ts_sv4 h, ts_sv4 h, ea, nI_clamp (by omega), hp a ha]
  · rw [ts_sv5 h, ts_sv5 h]
theorem ts_sr_c {kd f s va vb ra rb : Nat → Int32} {i : Int32} {k : Nat} (h : ts_nd kd f s k) (hk : k < 24) (hv : ∀ j, j < k → va j = vb j) (hr : ∀ j, j < k → ra j = rb j) : ts_sr kd f s i va ra k = ts_sr kd f s i vb rb k := by
  rcases h with ⟨a, b, ha, hb, ea, eb, h | h | h | ⟨h, -⟩⟩ | ⟨h, a, ha, ea⟩ | h
  · rw [ts_sr0 h, ts_sr0 h, ea, eb, nI_clamp (by omega), nI_clamp (by omega), hr a ha, hr b hb]
  · rw [ts_sr1 h, ts_sr1 h, ea, eb, nI_clamp (by omega), nI_clamp (by omega), hr a ha, hr b hb]
  · rw [ts_sr2 h, ts_sr2 h, ea, eb, nI_clamp (by omega), nI_clamp (by omega), hr a ha, hr b hb, hv a ha, hv b hb]
  · rw [ts_sr3 h, ts_sr3 h, ea, nI_clamp (by omega), hv a ha, hr a ha]
  · rw [ts_sr4 h, ts_sr4 h]
  · rw [ts_sr5 h, ts_sr5 h]
/-! the values and slopes of all nodes -/
def ts_Vn (kd f s pt : Nat → Int32) : Nat → Nat → Int32
  | 0 => fun _ => 0
  | n + 1 => fun k => ts_sv kd f s pt (ts_Vn kd f s pt n) k
def ts_V (kd f s pt : Nat → Int32) (k : Nat) : Int32 := ts_Vn kd f s pt (k + 1) k
def ts_Rn (kd f s : Nat → Int32) (i : Int32) (va : Nat → Int32) : Nat → Nat → Int32
  | 0 => fun _ => 0
  | n + 1 => fun k => ts_sr kd f s i va (ts_Rn kd f s i va n) k
def ts_R (kd f s : Nat → Int32) (i : Int32) (va : Nat → Int32) (k : Nat) : Int32 := ts_Rn kd f s i va (k + 1) k
theorem ts_Vn_st {kd f s pt : Nat → Int32} {c : Nat} (h : ts_wf kd f s c) : ∀ n m k, k < n → k < m → k < c → ts_Vn kd f s pt n k = ts_Vn kd f s pt m k := by
  intro n
  induction n with
  | zero => intro m k hn; omega
  | succ n ih =>
    intro m k hn hm hc
    obtain ⟨m, rfl⟩ : ∃ q, m = q + 1 := ⟨m - 1, by omega⟩
    have hc24 := h.1
    exact ts_sv_c (h.2 k hc) (by omega) (fun j hj => ih m j (by omega) (by omega) (by omega)) (fun _ _ => rfl)
theorem ts_V_eq {kd f s pt : Nat → Int32} {c k : Nat} (h : ts_wf kd f s c) (hk : k < c) : ts_V kd f s pt k = ts_sv kd f s pt (ts_V kd f s pt) k := by
  have hc24 := h.1
  exact ts_sv_c (h.2 k hk) (by omega) (fun j hj => ts_Vn_st h k (j + 1) j hj (by omega) (by omega)) (fun _ _ => rfl)
theorem ts_Rn_st {kd f s va : Nat → Int32} {i : Int32} {c : Nat} (h : ts_wf kd f s c) : ∀ n m k, k < n → k < m → k < c → ts_Rn kd f s i va n k = ts_Rn kd f s i va m k := by
  intro n
  induction n with
  | zero => intro m k hn; omega
  | succ n ih =>
    intro m k hn hm hc
    obtain ⟨m, rfl⟩ : ∃ q, m = q + 1 := ⟨m - 1, by omega⟩
    have hc24 := h.1
    exact ts_sr_c (h.2 k hc) (by omega) (fun _ _ => rfl) (fun j hj => ih m j (by omega) (by omega) (by omega))
theorem ts_R_eq {kd f s va : Nat → Int32} {i : Int32} {c k : Nat} (h : ts_wf kd f s c) (hk : k < c) : ts_R kd f s i va k = ts_sr kd f s i va (ts_R kd f s i va) k := by
  have hc24 := h.1
  exact ts_sr_c (h.2 k hk) (by omega) (fun _ _ => rfl) (fun j hj => ts_Rn_st h k (j + 1) j hj (by omega) (by omega))
/-- the next value, reckoned from an array that holds the values so far -/
theorem ts_V_nx {kd f s pt qt va : Nat → Int32} {c k : Nat} (h : ts_wf kd f s c) (hk : k < c) (hv : ∀ j, j < k → va j = ts_V kd f s qt j) (hp : ∀ j, j < 4 → pt j = qt j) : ts_sv kd f s pt va k = ts_V kd f s qt k := by
  have hc24 := h.1
  rw [ts_V_eq h hk]
  exact ts_sv_c (h.2 k hk) (by omega) hv hp
theorem ts_R_nx {kd f s va vb ra : Nat → Int32} {i : Int32} {c k : Nat} (h : ts_wf kd f s c) (hk : k < c) (hv : ∀ j, j < k → va j = vb j) (hr : ∀ j, j < k → ra j = ts_R kd f s i vb j) : ts_sr kd f s i va ra k = ts_R kd f s i vb k := by
  have hc24 := h.1
  rw [ts_R_eq h hk]
  exact ts_sr_c (h.2 k hk) (by omega) hv hr
theorem ts_up {a b : Nat → Int32} {k : Nat} {x : Int32} (h : ∀ j, j < k → a j = b j) (hx : x = b k) : ∀ j, j < k + 1 → upd a k x j = b j := by
  intro j hj
  by_cases e : j = k
  · subst e; rw [pk_us, hx]
  · rw [pk_un e, h j (by omega)]
/-! weights -/
def ts_W (tw tn va : Nat → Int32) : Nat → Int32
  | 0 => 0
  | t + 1 => ts_W tw tn va t + tw t * va (tn t).toNatClampNeg
theorem ts_W_c {tw tn va vb : Nat → Int32} {c : Nat} (hc : c ≤ 24) (hv : ∀ j, j < c → va j = vb j) : ∀ t, (∀ j, j < t → ∃ a : Nat, a < c ∧ tn j = nI a) → ts_W tw tn va t = ts_W tw tn vb t := by
  intro t
  induction t with
  | zero => exact fun _ => rfl
  | succ t ih =>
    intro h
    obtain ⟨a, ha, e⟩ := h t (by omega)
    show ts_W tw tn va t + tw t * va (tn t).toNatClampNeg = ts_W tw tn vb t + tw t * vb (tn t).toNatClampNeg
    rw [ih (fun j hj => h j (by omega)), e, nI_clamp (by omega), hv a ha]
/-! a chain's four cells: its point, adding, turning, copying -/
def ts_pt (xs : Nat → Int32) (ch : Nat) : Nat → Int32 := fun j => xs (4 * ch + j)
def ts_T (kd f s tw tn : Nat → Int32) (t : Nat) (pt : Nat → Int32) : Int32 := ts_W tw tn (ts_V kd f s pt) t
def ts_G (kd f s tw tn : Nat → Int32) (t : Nat) (pt : Nat → Int32) (i : Nat) : Int32 := ts_W tw tn (ts_R kd f s (nI i) (ts_V kd f s pt)) t
def ts_A (a : Nat → Int32) (q : Nat) (d : Nat → Int32) : Nat → Nat → Int32
  | 0 => a
  | n + 1 => upd (ts_A a q d n) (q + n) (ts_A a q d n (q + n) + d n)
def ts_N (a : Nat → Int32) (q : Nat) : Nat → Nat → Int32
  | 0 => a
  | n + 1 => upd (ts_N a q n) (q + n) (- ts_N a q n (q + n))
def ts_C (a : Nat → Int32) (p q : Nat) : Nat → Nat → Int32
  | 0 => a
  | n + 1 => upd (ts_C a p q n) (q + n) (ts_C a p q n (p + n))
theorem ts_A_c {a : Nat → Int32} {q : Nat} {d e : Nat → Int32} : ∀ n, (∀ j, j < n → d j = e j) → ts_A a q d n = ts_A a q e n := by
  intro n
  induction n with
  | zero => exact fun _ => rfl
  | succ n ih =>
    intro h
    show upd (ts_A a q d n) (q + n) (ts_A a q d n (q + n) + d n) = upd (ts_A a q e n) (q + n) (ts_A a q e n (q + n) + e n)
    rw [ih (fun j hj => h j (by omega)), h n (by omega)]
theorem ts_pt_u {xs : Nat → Int32} {ch i : Nat} {x : Int32} : ts_pt (upd xs (4 * ch + i) x) ch = upd (ts_pt xs ch) i x := by
  funext j
  show upd xs (4 * ch + i) x (4 * ch + j) = upd (ts_pt xs ch) i x j
  by_cases e : j = i
  · subst e; rw [pk_us, pk_us]
  · rw [pk_un e, pk_un (by omega)]; rfl
theorem ts_uu {a : Nat → Int32} {q : Nat} {x : Int32} : upd (upd a q x) q (a q) = a := by
  funext j
  by_cases e : j = q
  · subst e; rw [pk_us]
  · rw [pk_un e, pk_un e]
/-! one kick, one step, many steps -/
def ts_k (kd f s tw tn : Nat → Int32) (t : Nat) (sh : Int32 → Int32) (ch : Nat) (xs ms : Nat → Int32) : Nat → Int32 :=
  ts_A ms (4 * ch) (fun i => sh (ts_G kd f s tw tn t (ts_pt xs ch) i)) 4
def ts_g (ch : Nat) (xs ms : Nat → Int32) : Nat → Int32 := ts_A xs (4 * ch) (fun i => ms (4 * ch + i)) 4
def ts_st (kd f s tw tn : Nat → Int32) (t : Nat) (sh : Int32 → Int32) (ch : Nat) (xs ms : Nat → Int32) : (Nat → Int32) × (Nat → Int32) :=
  (ts_g ch xs (ts_k kd f s tw tn t sh ch xs ms), ts_k kd f s tw tn t sh ch (ts_g ch xs (ts_k kd f s tw tn t sh ch xs ms)) (ts_k kd f s tw tn t sh ch xs ms))
def ts_L (kd f s tw tn : Nat → Int32) (t : Nat) (sh : Int32 → Int32) (ch : Nat) (xs ms : Nat → Int32) : Nat → (Nat → Int32) × (Nat → Int32)
  | 0 => (xs, ms)
  | n + 1 => ts_st kd f s tw tn t sh ch (ts_L kd f s tw tn t sh ch xs ms n).1 (ts_L kd f s tw tn t sh ch xs ms n).2
/-! the sum of momentum times slope -/
def ts_D (ms : Nat → Int32) (q : Nat) (g : Nat → Int32) : Nat → Int32
  | 0 => 0
  | i + 1 => ts_D ms q g i + ms (q + i) * g i
/-! live nodes -/
def ts_mk (kd f s u : Nat → Int32) (k : Nat) : Nat → Int32 :=
  if kd k = 0 ∨ kd k = 1 ∨ kd k = 2 ∨ kd k = 3 then upd (upd u (f k).toNatClampNeg 1) (s k).toNatClampNeg 1 else u
def ts_lv (kd f s : Nat → Int32) : Nat → (Nat → Int32) → Int32 → Int32
  | 0 => fun _ n => n
  | k + 1 => fun u n => if u k = 0 then ts_lv kd f s k u n else ts_lv kd f s k (ts_mk kd f s u k) (n + 1)
def ts_us (tn : Nat → Int32) : Nat → Nat → Int32
  | 0 => fun _ => 0
  | t + 1 => upd (ts_us tn t) (tn t).toNatClampNeg 1
end
section
/-! the component: small tests, and its loops against the pure picture -/
theorem tx_ix (ch i : Nat) : nI ch * 4 + nI i = nI (4 * ch + i) := by
  show nI ch * nI 4 + nI i = _
  rw [pk_mul, nI_add, Nat.mul_comm]
theorem tx_in {ch i : Nat} (hch : ch < 3) (hi : i < 4) : vp_in (nI ch * 4 + nI i) 12 := by
  rw [tx_ix]; exact vp_in_nI (by omega) (by decide)
theorem tx_cl {ch i : Nat} (hch : ch < 3) (hi : i < 4) : (nI ch * 4 + nI i).toNatClampNeg = 4 * ch + i := by
  rw [tx_ix]; exact nI_clamp (by omega)
theorem tx_b0 : vp_nar .boolean 0 = 0 := by decide
theorem tx_b1 : vp_nar .boolean 1 = 1 := by decide
theorem tx_ch_t {post : Int32 → Prop} {j : Nat} (hj : j < 3) (h : post 1) : wpX_isChain post (nI j) :=
  br_f (nI_pos (by omega)) (br_f (nI_ge (b := 3) hj (by decide)) h)
theorem tx_ch_f {post : Int32 → Prop} {x : Int32} (hx : x < 0 ∨ nI 3 ≤ x) (h : post 0) : wpX_isChain post x :=
  br_c (fun _ => h) (fun hn => br_c (fun _ => h) (fun h3 => absurd (hx.resolve_left hn) h3))
theorem tx_pa_t {post : Int32 → Prop} {j : Nat} (hj : j < 4) (h : post 1) : wpX_isParameter post (nI j) :=
  br_f (nI_pos (by omega)) (br_f (nI_ge (b := 4) hj (by decide)) h)
theorem tx_pa_f {post : Int32 → Prop} {x : Int32} (hx : x < 0 ∨ nI 4 ≤ x) (h : post 0) : wpX_isParameter post x :=
  br_c (fun _ => h) (fun hn => br_c (fun _ => h) (fun h3 => absurd (hx.resolve_left hn) h3))
section
variable {c t ch : Nat} {b : Int32} {kd f s tn tw xs ms pt va ra re : Nat → Int32}
theorem tx_nd_t {post : Int32 → Prop} {j : Nat} (hc : c ≤ 24) (hj : j < c) (h : post 1) : wpX_isNode post (nI c, nI t, b, kd, f, s, tn, tw, xs, ms, pt, va, ra, re) (nI j) :=
  br_f (nI_pos (by omega)) (br_f (nI_ge hj (by omega)) h)
theorem tx_nd_f {post : Int32 → Prop} {x : Int32} (hx : x < 0 ∨ nI c ≤ x) (h : post 0) : wpX_isNode post (nI c, nI t, b, kd, f, s, tn, tw, xs, ms, pt, va, ra, re) x :=
  br_c (fun _ => h) (fun hn => br_c (fun _ => h) (fun h3 => absurd (hx.resolve_left hn) h3))
theorem tx_add {post : Int32 → SX → Prop} {p0 p1 p2 : Int32} (hc : c < 24) (h : post (nI c) (nI (c + 1), nI t, b, upd kd c p0, upd f c p1, upd s c p2, tn, tw, xs, ms, pt, va, ra, re)) : wpX_addNode post (nI c, nI t, b, kd, f, s, tn, tw, xs, ms, pt, va, ra, re) p0 p1 p2 := by
  have hcl : (nI c).toNatClampNeg = c := nI_clamp (by omega)
  have hin : vp_in (nI c) 24 := vp_in_nI hc (by decide)
  refine ⟨hin, fun a ea => ⟨hin, fun a2 ea2 => ⟨hin, fun a3 ea3 => nm_r (nI_1 c) ?_⟩⟩⟩
  rw [hcl] at ea ea2 ea3
  subst ea ea2 ea3
  exact h
theorem tx_go {post : SX → Prop} (hch : ch < 3) (h : ∀ p : Nat → Int32, (∀ j, j < 4 → p j = ts_pt xs ch j) → post (nI c, nI t, b, kd, f, s, tn, tw, xs, ms, p, va, ra, re)) : wpX_goToChain post (nI c, nI t, b, kd, f, s, tn, tw, xs, ms, pt, va, ra, re) (nI ch) :=
  loop_0 (fun n i (p : Nat → Int32) => wX_goToChain_2 post (nI ch) (nI c) (nI t) b n (nI i) kd f s tn tw xs ms p va ra re) (fun i p => ∀ j, j < i → p j = ts_pt xs ch j) 4 pt
    (fun j hj => absurd hj (by omega))
    (fun n p hp => br_t (nI_le (a := 4) (b := 4) (by decide) (by decide)) (h p hp))
    (fun n i p hi hp H => br_f (nI_ge (b := 4) hi (by decide)) ⟨tx_in hch hi, vp_in_nI hi (by decide), fun p' e => nm_r (nI_1 i) (H p' (by rw [e, nI_clamp (by omega), tx_cl hch hi]; exact ts_up hp rfl))⟩)
theorem tx_vo {post : Int32 → Prop} {k : Nat} (hw : ts_wf kd f s c) (hk : k < c) (hp : post (ts_sv kd f s pt va k)) : wpX_valueFromOperands post (nI c, nI t, b, kd, f, s, tn, tw, xs, ms, pt, va, ra, re) (nI k) := by
  have hc := hw.1
  have hcl : (nI k).toNatClampNeg = k := nI_clamp (by omega)
  have hin : vp_in (nI k) 24 := vp_in_nI (by omega) (by decide)
  refine ⟨hin, fun x2 e2 => ⟨hin, fun x3 e3 => ⟨hin, fun k6 e6 => ?_⟩⟩⟩
  rw [hcl] at e2 e3 e6
  subst e2 e3 e6
  rcases hw.2 k hk with ⟨a1, b1, ha, hb, ea, eb, h | h | h | ⟨h, -⟩⟩ | ⟨h, a1, ha, ea⟩ | h
  · rw [ts_sv0 h] at hp
    exact br_f (by rw [h]; decide) (br_f (by rw [h]; decide) (br_t h ⟨by rw [ea]; exact vp_in_nI (by omega) (by decide), by rw [eb]; exact vp_in_nI (by omega) (by decide), hp⟩))
  · rw [ts_sv1 h] at hp
    exact br_f (by rw [h]; decide) (br_f (by rw [h]; decide) (br_f (by rw [h]; decide) (br_t h ⟨by rw [ea]; exact vp_in_nI (by omega) (by decide), by rw [eb]; exact vp_in_nI (by omega) (by decide), hp⟩)))
  · rw [ts_sv2 h] at hp
    exact br_f (by rw [h]; decide) (br_f (by rw [h]; decide) (br_f (by rw [h]; decide) (br_f (by rw [h]; decide) (br_t h ⟨by rw [ea]; exact vp_in_nI (by omega) (by decide), by rw [eb]; exact vp_in_nI (by omega) (by decide), hp⟩))))
  · rw [ts_sv3 h] at hp
    exact br_f (by rw [h]; decide) (br_f (by rw [h]; decide) (br_f (by rw [h]; decide) (br_f (by rw [h]; decide) (br_f (by rw [h]; decide) (br_t h ⟨by rw [ea]; exact vp_in_nI (by omega) (by decide), by rw [ea]; exact vp_in_nI (by omega) (by decide), hp⟩)))))
  · rw [ts_sv4 h] at hp
    exact br_f (by rw [h]; decide) (br_f (by rw [h]; decide) (br_f (by rw [h]; decide) (br_f (by rw [h]; decide) (br_f (by rw [h]; decide) (br_f (by rw [h]; decide) (br_t h ⟨by rw [ea]; exact vp_in_nI (by omega) (by decide), hp⟩))))))
  · rw [ts_sv5 h] at hp
    exact br_f (by rw [h]; decide) (br_t (by rw [h]; decide) hp)
theorem tx_so {post : Int32 → Prop} {k : Nat} {i : Int32} (hw : ts_wf kd f s c) (hk : k < c) (hp : post (ts_sr kd f s i va ra k)) : wpX_slopeFromOperands post (nI c, nI t, b, kd, f, s, tn, tw, xs, ms, pt, va, ra, re) (nI k) i := by
  have hc := hw.1
  have hcl : (nI k).toNatClampNeg = k := nI_clamp (by omega)
  have hin : vp_in (nI k) 24 := vp_in_nI (by omega) (by decide)
  refine ⟨hin, fun x2 e2 => ⟨hin, fun x3 e3 => ⟨hin, fun k6 e6 => ?_⟩⟩⟩
  rw [hcl] at e2 e3 e6
  subst e2 e3 e6
  rcases hw.2 k hk with ⟨a1, b1, ha, hb, ea, eb, h | h | h | ⟨h, -⟩⟩ | ⟨h, a1, ha, ea⟩ | h
  · rw [ts_sr0 h] at hp
    have h1 : vp_in (f k) 24 := by rw [ea]; exact vp_in_nI (by omega) (by decide)
    have h2 : vp_in (s k) 24 := by rw [eb]; exact vp_in_nI (by omega) (by decide)
    exact br_f (by rw [h]; decide) (br_f (by rw [h]; decide) (br_t h ⟨h1, h2, hp⟩))
  · rw [ts_sr1 h] at hp
    have h1 : vp_in (f k) 24 := by rw [ea]; exact vp_in_nI (by omega) (by decide)
    have h2 : vp_in (s k) 24 := by rw [eb]; exact vp_in_nI (by omega) (by decide)
    exact br_f (by rw [h]; decide) (br_f (by rw [h]; decide) (br_f (by rw [h]; decide) (br_t h ⟨h1, h2, hp⟩)))
  · rw [ts_sr2 h] at hp
    have h1 : vp_in (f k) 24 := by rw [ea]; exact vp_in_nI (by omega) (by decide)
    have h2 : vp_in (s k) 24 := by rw [eb]; exact vp_in_nI (by omega) (by decide)
    exact br_f (by rw [h]; decide) (br_f (by rw [h]; decide) (br_f (by rw [h]; decide) (br_f (by rw [h]; decide) (br_t h ⟨h1, h2, h1, h2, hp⟩))))
  · rw [ts_sr3 h] at hp
    have h1 : vp_in (f k) 24 := by rw [ea]; exact vp_in_nI (by omega) (by decide)
    exact br_f (by rw [h]; decide) (br_f (by rw [h]; decide) (br_f (by rw [h]; decide) (br_f (by rw [h]; decide) (br_f (by rw [h]; decide) (br_t h ⟨h1, h1, hp⟩)))))
  · rw [ts_sr4 h] at hp
    exact br_f (by rw [h]; decide) (br_f (by rw [h]; decide) (br_f (by rw [h]; decide) (br_f (by rw [h]; decide) (br_f (by rw [h]; decide) (br_f (by rw [h]; decide) (br_t h (br_c (fun e => by rw [if_pos e] at hp; exact hp) (fun e => by rw [if_neg e] at hp; exact hp))))))))
  · rw [ts_sr5 h] at hp
    exact br_f (by rw [h]; decide) (br_t (by rw [h]; decide) hp)
theorem tx_fv {post : SX → Prop} {q : Nat → Int32} (hw : ts_wf kd f s c) (hq : ∀ j, j < 4 → pt j = q j) (h : ∀ v : Nat → Int32, (∀ j, j < c → v j = ts_V kd f s q j) → post (nI c, nI t, b, kd, f, s, tn, tw, xs, ms, pt, v, ra, re)) : wpX_findValues post (nI c, nI t, b, kd, f, s, tn, tw, xs, ms, pt, va, ra, re) := by
  have hc := hw.1
  exact loop_0 (fun n i (v : Nat → Int32) => wX_findValues_2 post (nI c) (nI t) b n (nI i) kd f s tn tw xs ms pt v ra re) (fun i v => ∀ j, j < i → v j = ts_V kd f s q j) c va
    (fun j hj => absurd hj (by omega))
    (fun n v hv => br_t (Int32.le_refl _) (h v hv))
    (fun n i v hi hv H => br_f (nI_ge hi (by omega)) (tx_vo hw hi ⟨vp_in_nI (by omega) (by decide), fun v' e => nm_r (nI_1 i) (H v' (by rw [e, nI_clamp (by omega)]; exact ts_up hv (ts_V_nx hw hi hv hq)))⟩))
theorem tx_fs {post : SX → Prop} {w : Nat → Int32} {x : Int32} (hw : ts_wf kd f s c) (hv : ∀ j, j < c → va j = w j) (h : ∀ r : Nat → Int32, (∀ j, j < c → r j = ts_R kd f s x w j) → post (nI c, nI t, b, kd, f, s, tn, tw, xs, ms, pt, va, r, re)) : wpX_findSlopes post (nI c, nI t, b, kd, f, s, tn, tw, xs, ms, pt, va, ra, re) x := by
  have hc := hw.1
  exact loop_0 (fun n i (r : Nat → Int32) => wX_findSlopes_2 post x (nI c) (nI t) b n (nI i) kd f s tn tw xs ms pt va r re) (fun i r => ∀ j, j < i → r j = ts_R kd f s x w j) c ra
    (fun j hj => absurd hj (by omega))
    (fun n r hr => br_t (Int32.le_refl _) (h r hr))
    (fun n i r hi hr H => br_f (nI_ge hi (by omega)) (tx_so hw hi ⟨vp_in_nI (by omega) (by decide), fun r' e => nm_r (nI_1 i) (H r' (by rw [e, nI_clamp (by omega)]; exact ts_up hr (ts_R_nx hw hi (fun j hj => hv j (by omega)) hr)))⟩))
theorem tx_wv {post : Int32 → Prop} {w : Nat → Int32} (hc : c ≤ 24) (ht : ts_tm tn c t) (hv : ∀ j, j < c → va j = w j) (h : post (ts_W tw tn w t)) : wpX_weighTerms__values post (nI c, nI t, b, kd, f, s, tn, tw, xs, ms, pt, va, ra, re) := by
  have ht8 := ht.1
  rw [← ts_W_c hc hv t ht.2] at h
  exact loop_0 (fun n i (x : Int32) => wX_weighTerms__values_4 post (nI c) (nI t) b kd f s tn tw xs ms pt va ra re n x (nI i)) (fun i x => x = ts_W tw tn va i) t 0 rfl
    (fun n x e => br_t (Int32.le_refl _) (by rw [e]; exact h))
    (fun n i x hi e H => br_f (nI_ge hi (by omega)) ⟨vp_in_nI (by omega) (by decide), vp_in_nI (by omega) (by decide), by
      rw [nI_clamp (by omega)]
      obtain ⟨a, ha, ea⟩ := ht.2 i hi
      rw [ea]
      exact vp_in_nI (by omega) (by decide), fun y ey => nm_r (nI_1 i) (H y (by rw [ey, e, nI_clamp (by omega)]; rfl))⟩)
theorem tx_ws {post : Int32 → Prop} {w : Nat → Int32} (hc : c ≤ 24) (ht : ts_tm tn c t) (hv : ∀ j, j < c → ra j = w j) (h : post (ts_W tw tn w t)) : wpX_weighTerms__slopes post (nI c, nI t, b, kd, f, s, tn, tw, xs, ms, pt, va, ra, re) := by
  have ht8 := ht.1
  rw [← ts_W_c hc hv t ht.2] at h
  exact loop_0 (fun n i (x : Int32) => wX_weighTerms__slopes_4 post (nI c) (nI t) b kd f s tn tw xs ms pt va ra re n x (nI i)) (fun i x => x = ts_W tw tn ra i) t 0 rfl
    (fun n x e => br_t (Int32.le_refl _) (by rw [e]; exact h))
    (fun n i x hi e H => br_f (nI_ge hi (by omega)) ⟨vp_in_nI (by omega) (by decide), vp_in_nI (by omega) (by decide), by
      rw [nI_clamp (by omega)]
      obtain ⟨a, ha, ea⟩ := ht.2 i hi
      rw [ea]
      exact vp_in_nI (by omega) (by decide), fun y ey => nm_r (nI_1 i) (H y (by rw [ey, e, nI_clamp (by omega)]; rfl))⟩)
end
end
section
/-! the reference: small tests, and its loops against the pure picture -/
theorem ty_ix (ch i : Nat) : 4 * nI ch + nI i = nI (4 * ch + i) := by
  show nI 4 * nI ch + nI i = _
  rw [pk_mul, nI_add]
theorem ty_in {ch i : Nat} (hch : ch < 3) (hi : i < 4) : vp_in (4 * nI ch + nI i) 12 := by
  rw [ty_ix]; exact vp_in_nI (by omega) (by decide)
theorem ty_cl {ch i : Nat} (hch : ch < 3) (hi : i < 4) : (4 * nI ch + nI i).toNatClampNeg = 4 * ch + i := by
  rw [ty_ix]; exact nI_clamp (by omega)
theorem ty_32 : ¬ nI 3 ≤ 2 := nI_ge (a := 2) (b := 3) (by decide) (by decide)
theorem ty_43 : ¬ nI 4 ≤ 3 := nI_ge (a := 3) (b := 4) (by decide) (by decide)
section
variable {c t ch : Nat} {b : Int32} {kd f s tn tw xs ms wa qa sl us : Nat → Int32}
theorem ty_ch_t {post : Int32 → Prop} {n1 n2 : Int32} {j : Nat} (hj : j < 3) (h : post 0) : wpY_badChain post (n1, n2, b, kd, f, s, tn, tw, xs, ms, wa, qa, sl, us) (nI j) :=
  br_f (nI_pos (by omega)) (br_t (nI_le (b := 2) (by omega) (by decide)) h)
theorem ty_ch_f {post : Int32 → Prop} {n1 n2 : Int32} {x : Int32} (hx : x < 0 ∨ nI 3 ≤ x) (h : post 1) : wpY_badChain post (n1, n2, b, kd, f, s, tn, tw, xs, ms, wa, qa, sl, us) x :=
  br_c (fun _ => h) (fun hn => br_c (fun h2 => absurd (Int32.le_trans (hx.resolve_left hn) h2) ty_32) (fun _ => h))
theorem ty_pa_t {post : Int32 → Prop} {n1 n2 : Int32} {j : Nat} (hj : j < 4) (h : post 0) : wpY_badParameter post (n1, n2, b, kd, f, s, tn, tw, xs, ms, wa, qa, sl, us) (nI j) :=
  br_f (nI_pos (by omega)) (br_t (nI_le (b := 3) (by omega) (by decide)) h)
theorem ty_pa_f {post : Int32 → Prop} {n1 n2 : Int32} {x : Int32} (hx : x < 0 ∨ nI 4 ≤ x) (h : post 1) : wpY_badParameter post (n1, n2, b, kd, f, s, tn, tw, xs, ms, wa, qa, sl, us) x :=
  br_c (fun _ => h) (fun hn => br_c (fun h2 => absurd (Int32.le_trans (hx.resolve_left hn) h2) ty_43) (fun _ => h))
theorem ty_nd_t {post : Int32 → Prop} {j : Nat} (hc : c ≤ 24) (hj : j < c) (h : post 0) : wpY_badNode post (nI c, nI t, b, kd, f, s, tn, tw, xs, ms, wa, qa, sl, us) (nI j) :=
  br_f (nI_pos (by omega)) (br_f (nI_ge hj (by omega)) (br_t (nI_le (b := 23) (by omega) (by decide)) h))
theorem ty_nd_f {post : Int32 → Prop} {x : Int32} (hx : x < 0 ∨ nI c ≤ x) (h : post 1) : wpY_badNode post (nI c, nI t, b, kd, f, s, tn, tw, xs, ms, wa, qa, sl, us) x :=
  br_c (fun _ => h) (fun hn => br_c (fun _ => h) (fun h3 => absurd (hx.resolve_left hn) h3))
theorem ty_add {post : Int32 → SY → Prop} {p0 p1 p2 : Int32} (hc : c < 24) (h : post (nI c) (nI (c + 1), nI t, b, upd kd c p0, upd f c p1, upd s c p2, tn, tw, xs, ms, wa, qa, sl, us)) : wpY_make post (nI c, nI t, b, kd, f, s, tn, tw, xs, ms, wa, qa, sl, us) p0 p1 p2 := by
  have hcl : (nI c).toNatClampNeg = c := nI_clamp (by omega)
  have hin : vp_in (nI c) 24 := vp_in_nI hc (by decide)
  refine br_t (nI_le (b := 23) (by omega) (by decide)) ⟨hin, fun a ea => ⟨hin, fun a2 ea2 => ⟨hin, fun a3 ea3 => nm_r (nI_1 c) ?_⟩⟩⟩
  rw [hcl] at ea ea2 ea3
  subst ea ea2 ea3
  exact h
theorem ty_full {post : Int32 → SY → Prop} {p0 p1 p2 : Int32} (hc : c = 24) (h : post (-2) (nI c, nI t, b, kd, f, s, tn, tw, xs, ms, wa, qa, sl, us)) : wpY_make post (nI c, nI t, b, kd, f, s, tn, tw, xs, ms, wa, qa, sl, us) p0 p1 p2 := by
  subst hc
  exact br_f (nI_ge (a := 23) (b := 24) (by decide) (by decide)) h
/-- one node in the reference's loop, whatever its kind -/
theorem ty_w1 {post : SY → Prop} {x : Int32} {n k : Nat} (hw : ts_wf kd f s c) (hch : ch < 3) (hk : k < c)
    (H : wY_work_2 post (nI ch) x (nI c) (nI t) b n (nI (k + 1)) kd f s tn tw xs ms (upd wa k (ts_sv kd f s (ts_pt xs ch) wa k)) (upd qa k (ts_sr kd f s x wa qa k)) sl us) : wY_work_2 post (nI ch) x (nI c) (nI t) b (n + 1) (nI k) kd f s tn tw xs ms wa qa sl us := by
  have hc := hw.1
  have hcl : (nI k).toNatClampNeg = k := nI_clamp (by omega)
  have hin : vp_in (nI k) 24 := vp_in_nI (by omega) (by decide)
  refine br_f (nI_ge hk (by omega)) (br_f (nI_ge (b := 24) (by omega) (by decide)) ⟨hin, fun x4 e4 => ⟨hin, fun x5 e5 => ⟨hin, ?_⟩⟩⟩)
  rw [hcl] at e4 e5
  subst e4 e5
  rw [hcl]
  rcases hw.2 k hk with ⟨a1, b1, ha, hb, ea, eb, h⟩ | ⟨h, a1, ha, ea⟩ | h
  · have h1 : vp_in (f k) 24 := by rw [ea]; exact vp_in_nI (by omega) (by decide)
    have h2 : vp_in (s k) 24 := by rw [eb]; exact vp_in_nI (by omega) (by decide)
    have c1 : (f k).toNatClampNeg = a1 := by rw [ea]; exact nI_clamp (by omega)
    have c2 : (s k).toNatClampNeg = b1 := by rw [eb]; exact nI_clamp (by omega)
    rcases h with h | h | h | ⟨h, hab⟩
    · rw [ts_sv0 h, ts_sr0 h] at H
      exact br_f (by rw [h]; decide) ⟨hin, br_f (by rw [h]; decide) ⟨hin, br_t h ⟨h1, h2, hin, fun v ev => ⟨h1, h2, hin, fun r er => nm_r (nI_1 k) (by rw [ev, er]; exact H)⟩⟩⟩⟩
    · rw [ts_sv1 h, ts_sr1 h] at H
      exact br_f (by rw [h]; decide) ⟨hin, br_f (by rw [h]; decide) ⟨hin, br_f (by rw [h]; decide) ⟨hin, br_t h ⟨h1, h2, hin, fun v ev => ⟨h1, h2, hin, fun r er => nm_r (nI_1 k) (by rw [ev, er]; exact H)⟩⟩⟩⟩⟩
    · rw [ts_sv2 h, ts_sr2 h] at H
      refine br_f (by rw [h]; decide) ⟨hin, br_f (by rw [h]; decide) ⟨hin, br_f (by rw [h]; decide) ⟨hin, br_f (by rw [h]; decide) ⟨h1, h2, hin, fun v ev => ⟨h1, h2, h1, h2, hin, fun r er => nm_r (nI_1 k) ?_⟩⟩⟩⟩⟩
      have v1 : v (f k).toNatClampNeg = wa (f k).toNatClampNeg := by rw [ev]; exact pk_un (by omega)
      have v2 : v (s k).toNatClampNeg = wa (s k).toNatClampNeg := by rw [ev]; exact pk_un (by omega)
      rw [v1, v2] at er
      rw [ev, er]
      exact H
    · have c3 : s k = f k := by rw [ea, eb, hab]
      rw [ts_sv3 h, ts_sr3 h] at H
      refine br_f (by rw [h]; decide) ⟨hin, br_f (by rw [h]; decide) ⟨hin, br_f (by rw [h]; decide) ⟨hin, br_f (by rw [h]; decide) ⟨h1, h2, hin, fun v ev => ⟨h1, h2, h1, h2, hin, fun r er => nm_r (nI_1 k) ?_⟩⟩⟩⟩⟩
      rw [c3] at ev er
      have v1 : v (f k).toNatClampNeg = wa (f k).toNatClampNeg := by rw [ev]; exact pk_un (by omega)
      rw [v1, ts_sq] at er
      rw [ev, er]
      exact H
  · have h1 : vp_in (4 * nI ch + f k) 12 := by rw [ea]; exact ty_in hch ha
    have c1 : (4 * nI ch + f k).toNatClampNeg = 4 * ch + (f k).toNatClampNeg := by rw [ea, ty_cl hch ha, nI_clamp (by omega)]
    rw [ts_sv4 h, ts_sr4 h] at H
    refine br_t h ⟨h1, hin, fun v ev => br_c (fun e => ⟨hin, fun r er => nm_r (nI_1 k) ?_⟩) (fun e => ⟨hin, fun r er => nm_r (nI_1 k) ?_⟩)⟩
    · rw [if_pos e] at H
      rw [c1] at ev
      rw [ev, er]
      exact H
    · rw [if_neg e] at H
      rw [c1] at ev
      rw [ev, er]
      exact H
  · rw [ts_sv5 h, ts_sr5 h] at H
    exact br_f (by rw [h]; decide) ⟨hin, br_t h ⟨hin, fun v ev => ⟨hin, fun r er => nm_r (nI_1 k) (by rw [ev, er]; exact H)⟩⟩⟩
theorem ty_wk {post : SY → Prop} {x : Int32} (hw : ts_wf kd f s c) (hch : ch < 3)
    (h : ∀ v r : Nat → Int32, (∀ j, j < c → v j = ts_V kd f s (ts_pt xs ch) j) → (∀ j, j < c → r j = ts_R kd f s x (ts_V kd f s (ts_pt xs ch)) j) → post (nI c, nI t, b, kd, f, s, tn, tw, xs, ms, v, r, sl, us)) : wpY_work post (nI c, nI t, b, kd, f, s, tn, tw, xs, ms, wa, qa, sl, us) (nI ch) x := by
  have hc := hw.1
  exact loop_0 (fun n i (z : (Nat → Int32) × (Nat → Int32)) => wY_work_2 post (nI ch) x (nI c) (nI t) b n (nI i) kd f s tn tw xs ms z.1 z.2 sl us) (fun i z => (∀ j, j < i → z.1 j = ts_V kd f s (ts_pt xs ch) j) ∧ (∀ j, j < i → z.2 j = ts_R kd f s x (ts_V kd f s (ts_pt xs ch)) j)) c (wa, qa)
    ⟨fun j hj => absurd hj (by omega), fun j hj => absurd hj (by omega)⟩
    (fun n z hz => br_t (Int32.le_refl _) (h z.1 z.2 hz.1 hz.2))
    (fun n i z hi hz H => ty_w1 hw hch hi (H (upd z.1 i (ts_sv kd f s (ts_pt xs ch) z.1 i), upd z.2 i (ts_sr kd f s x z.1 z.2 i)) ⟨ts_up hz.1 (ts_V_nx hw hi hz.1 (fun _ _ => rfl)), ts_up hz.2 (ts_R_nx hw hi hz.1 hz.2)⟩))
theorem ty_to {post : Int32 → Prop} {w : Nat → Int32} (hc : c ≤ 24) (ht : ts_tm tn c t) (hv : ∀ j, j < c → wa j = w j) (h : post (ts_W tw tn w t)) : wpY_total post (nI c, nI t, b, kd, f, s, tn, tw, xs, ms, wa, qa, sl, us) := by
  have ht8 := ht.1
  rw [← ts_W_c hc hv t ht.2] at h
  exact loop_0 (fun n i (x : Int32) => wY_total_4 post (nI c) (nI t) b kd f s tn tw xs ms wa qa sl us n x (nI i)) (fun i x => x = ts_W tw tn wa i) t 0 rfl
    (fun n x e => br_t (Int32.le_refl _) (by rw [e]; exact h))
    (fun n i x hi e H => br_f (nI_ge hi (by omega)) (br_f (nI_ge (b := 8) (by omega) (by decide)) ⟨vp_in_nI (by omega) (by decide), vp_in_nI (by omega) (by decide), by
      rw [nI_clamp (by omega)]
      obtain ⟨a, ha, ea⟩ := ht.2 i hi
      rw [ea]
      exact vp_in_nI (by omega) (by decide), fun y ey => nm_r (nI_1 i) (H y (by rw [ey, e, nI_clamp (by omega)]; rfl))⟩))
theorem ty_ss {post : Int32 → Prop} {w : Nat → Int32} (hc : c ≤ 24) (ht : ts_tm tn c t) (hv : ∀ j, j < c → qa j = w j) (h : post (ts_W tw tn w t)) : wpY_steepness post (nI c, nI t, b, kd, f, s, tn, tw, xs, ms, wa, qa, sl, us) := by
  have ht8 := ht.1
  rw [← ts_W_c hc hv t ht.2] at h
  exact loop_0 (fun n i (x : Int32) => wY_steepness_4 post (nI c) (nI t) b kd f s tn tw xs ms wa qa sl us n x (nI i)) (fun i x => x = ts_W tw tn qa i) t 0 rfl
    (fun n x e => br_t (Int32.le_refl _) (by rw [e]; exact h))
    (fun n i x hi e H => br_f (nI_ge hi (by omega)) (br_f (nI_ge (b := 8) (by omega) (by decide)) ⟨vp_in_nI (by omega) (by decide), vp_in_nI (by omega) (by decide), by
      rw [nI_clamp (by omega)]
      obtain ⟨a, ha, ea⟩ := ht.2 i hi
      rw [ea]
      exact vp_in_nI (by omega) (by decide), fun y ey => nm_r (nI_1 i) (H y (by rw [ey, e, nI_clamp (by omega)]; rfl))⟩))
end
end
section
/-! the component: drift, kick, glide, leap, turn, copy, live -/
theorem ts_u2 {a b : Nat → Int32} {N q : Nat} {x : Int32} (h : ∀ j, j < N → a j = b j) : ∀ j, j < N → upd a q x j = upd b q x j := by
  intro j hj
  by_cases e : j = q
  · subst e; rw [pk_us, pk_us]
  · rw [pk_un e, pk_un e, h j hj]
theorem ts_lv0 {kd f s u : Nat → Int32} {k : Nat} {n : Int32} (h : u k = 0) : ts_lv kd f s (k + 1) u n = ts_lv kd f s k u n := if_pos h
theorem ts_lv1 {kd f s u : Nat → Int32} {k : Nat} {n : Int32} (h : ¬ u k = 0) : ts_lv kd f s (k + 1) u n = ts_lv kd f s k (ts_mk kd f s u k) (n + 1) := if_neg h
theorem ts_mk1 {kd f s u : Nat → Int32} {k : Nat} (h : kd k = 0 ∨ kd k = 1 ∨ kd k = 2 ∨ kd k = 3) : ts_mk kd f s u k = upd (upd u (f k).toNatClampNeg 1) (s k).toNatClampNeg 1 := if_pos h
theorem ts_mk4 {kd f s u : Nat → Int32} {k : Nat} (h : kd k = 4) : ts_mk kd f s u k = u := by
  unfold ts_mk
  rw [if_neg (by rw [h]; decide)]
theorem ts_mk5 {kd f s u : Nat → Int32} {k : Nat} (h : kd k = 5) : ts_mk kd f s u k = u := by
  unfold ts_mk
  rw [if_neg (by rw [h]; decide)]
section
variable {c t ch d : Nat} {b : Int32} {kd f s tn tw xs ms pt va ra re : Nat → Int32}
theorem tx_dr {post : Int32 → SX → Prop} (hw : ts_wf kd f s c) (ht : ts_tm tn c t) (hch : ch < 3) (hv : ∀ j, j < c → va j = ts_V kd f s (ts_pt xs ch) j)
    (h : ∀ r : Nat → Int32, post (ts_D ms (4 * ch) (ts_G kd f s tw tn t (ts_pt xs ch)) 4) (nI c, nI t, b, kd, f, s, tn, tw, xs, ms, pt, va, r, re)) : ∃ n, wX_drift_22 post (nI ch) n 0 0 (nI c) (nI t) b kd f s tn tw xs ms pt va ra re :=
  loop_0 (fun n i (z : Int32 × (Nat → Int32)) => wX_drift_22 post (nI ch) n z.1 (nI i) (nI c) (nI t) b kd f s tn tw xs ms pt va z.2 re) (fun i z => z.1 = ts_D ms (4 * ch) (ts_G kd f s tw tn t (ts_pt xs ch)) i) 4 (0, ra) rfl
    (fun n z e => br_t (nI_le (a := 4) (b := 4) (by decide) (by decide)) (by rw [e]; exact h z.2))
    (fun n i z hi e H => br_f (nI_ge (b := 4) hi (by decide)) (tx_fs hw hv (fun r hr => ⟨tx_in hch hi, tx_ws hw.1 ht hr (fun y ey => nm_r (nI_1 i) (H (y, r) (by show y = _; rw [ey, e, tx_cl hch hi]; rfl)))⟩)))
theorem tx_ki {post : SX → Prop} (hw : ts_wf kd f s c) (ht : ts_tm tn c t) (hch : ch < 3)
    (h : ∀ p v r : Nat → Int32, post (nI c, nI t, b, kd, f, s, tn, tw, xs, ts_k kd f s tw tn t (fun x => x >>> (b &&& 31)) ch xs ms, p, v, r, re)) : wpX_kick post (nI c, nI t, b, kd, f, s, tn, tw, xs, ms, pt, va, ra, re) (nI ch) :=
  tx_go hch (fun p hp => tx_fv hw hp (fun v hv =>
    loop_0 (fun n i (z : (Nat → Int32) × (Nat → Int32)) => wX_kick_11 post (nI ch) n (nI i) (nI c) (nI t) b kd f s tn tw xs z.1 p v z.2 re) (fun i z => z.1 = ts_A ms (4 * ch) (fun i => ts_G kd f s tw tn t (ts_pt xs ch) i >>> (b &&& 31)) i) 4 (ms, ra) rfl
      (fun n z e => br_t (nI_le (a := 4) (b := 4) (by decide) (by decide)) (by rw [e]; exact h p v z.2))
      (fun n i z hi e H => br_f (nI_ge (b := 4) hi (by decide)) (tx_fs hw hv (fun r hr => ⟨tx_in hch hi, tx_ws hw.1 ht hr ⟨tx_in hch hi, fun y ey => nm_r (nI_1 i) (H (y, r) (by show y = _; rw [ey, e, tx_cl hch hi]; rfl))⟩⟩)))))
theorem tx_gl {post : SX → Prop} (hch : ch < 3) (h : post (nI c, nI t, b, kd, f, s, tn, tw, ts_g ch xs ms, ms, pt, va, ra, re)) : wpX_glide post (nI c, nI t, b, kd, f, s, tn, tw, xs, ms, pt, va, ra, re) (nI ch) :=
  loop_0 (fun n i (z : Nat → Int32) => wX_glide_2 post (nI ch) (nI c) (nI t) b n (nI i) kd f s tn tw z ms pt va ra re) (fun i z => z = ts_A xs (4 * ch) (fun i => ms (4 * ch + i)) i) 4 xs rfl
    (fun n z e => br_t (nI_le (a := 4) (b := 4) (by decide) (by decide)) (by rw [e]; exact h))
    (fun n i z hi e H => br_f (nI_ge (b := 4) hi (by decide)) ⟨tx_in hch hi, tx_in hch hi, tx_in hch hi, fun y ey => nm_r (nI_1 i) (H y (by rw [ey, e, tx_cl hch hi]; rfl))⟩)
theorem tx_le {post : Int32 → SX → Prop} {m : Nat} (hw : ts_wf kd f s c) (ht : ts_tm tn c t) (hch : ch < 3) (hm : m ≤ 40)
    (h : ∀ p v r : Nat → Int32, post (ts_T kd f s tw tn t (ts_pt (ts_L kd f s tw tn t (fun x => x >>> (b &&& 31)) ch xs ms m).1 ch) &&& 255) (nI c, nI t, b, kd, f, s, tn, tw, (ts_L kd f s tw tn t (fun x => x >>> (b &&& 31)) ch xs ms m).1, (ts_L kd f s tw tn t (fun x => x >>> (b &&& 31)) ch xs ms m).2, p, v, r, re)) : ∃ n, wX_leap_24 post (nI ch) (nI m) n 0 (nI c) (nI t) b kd f s tn tw xs ms pt va ra re :=
  loop_0 (fun n i (z : (Nat → Int32) × (Nat → Int32) × (Nat → Int32) × (Nat → Int32) × (Nat → Int32)) => wX_leap_24 post (nI ch) (nI m) n (nI i) (nI c) (nI t) b kd f s tn tw z.1 z.2.1 z.2.2.1 z.2.2.2.1 z.2.2.2.2 re)
    (fun i z => z.1 = (ts_L kd f s tw tn t (fun x => x >>> (b &&& 31)) ch xs ms i).1 ∧ z.2.1 = (ts_L kd f s tw tn t (fun x => x >>> (b &&& 31)) ch xs ms i).2) m (xs, ms, pt, va, ra) ⟨rfl, rfl⟩
    (fun n z hz => br_t (Int32.le_refl _) (tx_go hch (fun p hp => tx_fv hw hp (fun v hv => tx_wv hw.1 ht hv (by
      have h9 := h p v z.2.2.2.2
      rw [← hz.1, ← hz.2] at h9
      exact h9)))))
    (fun n i z hi hz H => br_f (nI_ge hi (by omega)) (tx_ki hw ht hch (fun p v r => tx_gl hch (tx_ki hw ht hch (fun p2 v2 r2 => nm_r (nI_1 i) (H (ts_g ch z.1 (ts_k kd f s tw tn t (fun x => x >>> (b &&& 31)) ch z.1 z.2.1), ts_k kd f s tw tn t (fun x => x >>> (b &&& 31)) ch (ts_g ch z.1 (ts_k kd f s tw tn t (fun x => x >>> (b &&& 31)) ch z.1 z.2.1)) (ts_k kd f s tw tn t (fun x => x >>> (b &&& 31)) ch z.1 z.2.1), p2, v2, r2)
      ⟨by rw [hz.1, hz.2]; rfl, by rw [hz.1, hz.2]; rfl⟩))))))
theorem tx_tu {post : Int32 → SX → Prop} (hch : ch < 3) (h : post 0 (nI c, nI t, b, kd, f, s, tn, tw, xs, ts_N ms (4 * ch) 4, pt, va, ra, re)) : ∃ n, wX_turn_11 post (nI ch) (nI c) (nI t) b n 0 kd f s tn tw xs ms pt va ra re :=
  loop_0 (fun n i (z : Nat → Int32) => wX_turn_11 post (nI ch) (nI c) (nI t) b n (nI i) kd f s tn tw xs z pt va ra re) (fun i z => z = ts_N ms (4 * ch) i) 4 ms rfl
    (fun n z e => br_t (nI_le (a := 4) (b := 4) (by decide) (by decide)) (by rw [e]; exact h))
    (fun n i z hi e H => br_f (nI_ge (b := 4) hi (by decide)) ⟨tx_in hch hi, tx_in hch hi, fun y ey => nm_r (nI_1 i) (H y (by rw [ey, e, tx_cl hch hi]; rfl))⟩)
theorem tx_cp {post : Int32 → SX → Prop} (hch : ch < 3) (hd : d < 3) (h : post 0 (nI c, nI t, b, kd, f, s, tn, tw, ts_C xs (4 * ch) (4 * d) 4, ts_C ms (4 * ch) (4 * d) 4, pt, va, ra, re)) : ∃ n, wX_copy_18 post (nI ch) (nI d) (nI c) (nI t) b n 0 kd f s tn tw xs ms pt va ra re :=
  loop_0 (fun n i (z : (Nat → Int32) × (Nat → Int32)) => wX_copy_18 post (nI ch) (nI d) (nI c) (nI t) b n (nI i) kd f s tn tw z.1 z.2 pt va ra re) (fun i z => z.1 = ts_C xs (4 * ch) (4 * d) i ∧ z.2 = ts_C ms (4 * ch) (4 * d) i) 4 (xs, ms) ⟨rfl, rfl⟩
    (fun n z hz => br_t (nI_le (a := 4) (b := 4) (by decide) (by decide)) (by rw [hz.1, hz.2]; exact h))
    (fun n i z hi hz H => br_f (nI_ge (b := 4) hi (by decide)) ⟨tx_in hch hi, tx_in hd hi, fun y ey => ⟨tx_in hch hi, tx_in hd hi, fun y2 ey2 => nm_r (nI_1 i) (H (y, y2) ⟨by show y = _; rw [ey, tx_cl hch hi, tx_cl hd hi, hz.1]; rfl, by show y2 = _; rw [ey2, tx_cl hch hi, tx_cl hd hi, hz.2]; rfl⟩)⟩⟩)
theorem tx_rt {post : SX → Prop} (hc : c ≤ 24) (ht : ts_tm tn c t) (h : ∀ r : Nat → Int32, (∀ j, j < 24 → r j = ts_us tn t j) → post (nI c, nI t, b, kd, f, s, tn, tw, xs, ms, pt, va, ra, r)) : wpX_reachTermNodes post (nI c, nI t, b, kd, f, s, tn, tw, xs, ms, pt, va, ra, re) := by
  have ht8 := ht.1
  exact loop_0 (fun n i (r : Nat → Int32) => wX_reachTermNodes_2 post (nI c) (nI t) b n (nI i) kd f s tn tw xs ms pt va ra r) (fun i r => ∀ j, j < i → r j = 0) 24 re
    (fun j hj => absurd hj (by omega))
    (fun n r hr => br_t (nI_le (a := 24) (b := 24) (by decide) (by decide))
      (loop_0 (fun n i (r : Nat → Int32) => wX_reachTermNodes_23 post (nI c) (nI t) b n (nI i) kd f s tn tw xs ms pt va ra r) (fun i r => ∀ j, j < 24 → r j = ts_us tn i j) t r
        (fun j hj => hr j hj)
        (fun n r hr => br_t (Int32.le_refl _) (h r hr))
        (fun n i r hi hr H => br_f (nI_ge hi (by omega)) ⟨vp_in_nI (by omega) (by decide), by
          rw [nI_clamp (by omega)]
          obtain ⟨a, ha, ea⟩ := ht.2 i hi
          rw [ea]
          exact vp_in_nI (by omega) (by decide), fun r' e => nm_r (nI_1 i) (H r' (by rw [e, nI_clamp (by omega), tx_b1]; exact ts_u2 hr))⟩)))
    (fun n i r hi hr H => br_f (nI_ge (b := 24) hi (by decide)) ⟨vp_in_nI hi (by decide), fun r' e => nm_r (nI_1 i) (H r' (by rw [e, nI_clamp (by omega), tx_b0]; exact ts_up (b := fun _ => 0) hr rfl))⟩)
theorem tx_ro {post : SX → Prop} {k : Nat} {U : Nat → Int32} (hw : ts_wf kd f s c) (hk : k < c) (hU : ∀ j, j < 24 → re j = U j) (h : ∀ r : Nat → Int32, (∀ j, j < 24 → r j = ts_mk kd f s U k j) → post (nI c, nI t, b, kd, f, s, tn, tw, xs, ms, pt, va, ra, r)) : wpX_reachOperands post (nI c, nI t, b, kd, f, s, tn, tw, xs, ms, pt, va, ra, re) (nI k) := by
  have hc := hw.1
  have hcl : (nI k).toNatClampNeg = k := nI_clamp (by omega)
  have hin : vp_in (nI k) 24 := vp_in_nI (by omega) (by decide)
  refine ⟨hin, ?_⟩
  rw [hcl]
  rcases hw.2 k hk with ⟨a1, b1, ha, hb, ea, eb, h9⟩ | ⟨h9, a1, ha, ea⟩ | h9
  · have h1 : vp_in (f k) 24 := by rw [ea]; exact vp_in_nI (by omega) (by decide)
    have h2 : vp_in (s k) 24 := by rw [eb]; exact vp_in_nI (by omega) (by decide)
    have h8 : kd k = 0 ∨ kd k = 1 ∨ kd k = 2 ∨ kd k = 3 := by
      rcases h9 with z | z | z | ⟨z, -⟩
      · exact Or.inl z
      · exact Or.inr (Or.inl z)
      · exact Or.inr (Or.inr (Or.inl z))
      · exact Or.inr (Or.inr (Or.inr z))
    have h7 : ¬ 3 < kd k := by
      rcases h8 with z | z | z | z
      · rw [z]; decide
      · rw [z]; decide
      · rw [z]; decide
      · rw [z]; decide
    exact br_f h7 ⟨hin, h1, fun r er => ⟨hin, h2, fun r2 er2 => h r2 (by rw [er2, er, tx_b1, ts_mk1 h8]; exact ts_u2 (ts_u2 hU))⟩⟩
  · exact br_t (by rw [h9]; decide) (h re (by rw [ts_mk4 h9]; exact hU))
  · exact br_t (by rw [h9]; decide) (h re (by rw [ts_mk5 h9]; exact hU))
theorem tx_li {post : Int32 → SX → Prop} {U : Nat → Int32} (hw : ts_wf kd f s c) (hU : ∀ j, j < 24 → re j = U j) (h : ∀ r : Nat → Int32, post (ts_lv kd f s c U 0) (nI c, nI t, b, kd, f, s, tn, tw, xs, ms, pt, va, ra, r)) : ∃ n, wX_live_13 post n 0 (nI c + (-1)) (nI c) (nI t) b kd f s tn tw xs ms pt va ra re := by
  have hc := hw.1
  refine ⟨c + 1, pk_loopD (fun n i (z : Int32 × (Nat → Int32)) => wX_live_13 post n z.1 (nI i + (-1)) (nI c) (nI t) b kd f s tn tw xs ms pt va ra z.2) (fun i z => i ≤ c ∧ ∃ V : Nat → Int32, (∀ j, j < 24 → z.2 j = V j) ∧ ts_lv kd f s i V z.1 = ts_lv kd f s c U 0) ?_ ?_ c (0, re) ⟨Nat.le_refl _, U, hU, rfl⟩⟩
  · intro n z hz
    obtain ⟨-, V, -, e⟩ := hz
    have h9 := h z.2
    rw [← e] at h9
    exact br_t (by decide) h9
  · intro n i z hz H
    obtain ⟨hi, V, hV, e⟩ := hz
    have hcl : (nI i).toNatClampNeg = i := nI_clamp (by omega)
    have hin : vp_in (nI i) 24 := vp_in_nI (by omega) (by decide)
    show wX_live_13 post (n + 1) z.1 (nI (i + 1) + (-1)) (nI c) (nI t) b kd f s tn tw xs ms pt va ra z.2
    rw [pk_m1]
    refine br_f (nI_pos (by omega)) ⟨hin, ?_⟩
    rw [hcl, hV i (by omega)]
    refine br_c (fun h0 => nm_e (H z ⟨by omega, V, hV, by rw [← e, ts_lv0 h0]⟩)) (fun h0 => nm_e (tx_ro hw hi hV (fun r hr => nm_e (H (z.1 + 1, r) ⟨by omega, ts_mk kd f s V i, hr, by rw [← e, ts_lv1 h0]⟩))))
end
end
section
/-! the reference: drift, kick, leap, turn, copy, live -/
theorem ty_sub (x : Int32) : x - 1 = x + (-1) := Int32.sub_eq_add_neg x 1
section
variable {c t ch d : Nat} {b : Int32} {kd f s tn tw xs ms wa qa sl us : Nat → Int32}
theorem ty_dr {post : Int32 → SY → Prop} (hw : ts_wf kd f s c) (ht : ts_tm tn c t) (hch : ch < 3)
    (h : ∀ v r : Nat → Int32, post (ts_D ms (4 * ch) (ts_G kd f s tw tn t (ts_pt xs ch)) 4) (nI c, nI t, b, kd, f, s, tn, tw, xs, ms, v, r, sl, us)) : ∃ n, wY_drift_14 post (nI ch) n 0 0 (nI c) (nI t) b kd f s tn tw xs ms wa qa sl us :=
  loop_0 (fun n i (z : Int32 × (Nat → Int32) × (Nat → Int32)) => wY_drift_14 post (nI ch) n z.1 (nI i) (nI c) (nI t) b kd f s tn tw xs ms z.2.1 z.2.2 sl us) (fun i z => z.1 = ts_D ms (4 * ch) (ts_G kd f s tw tn t (ts_pt xs ch)) i) 4 (0, wa, qa) rfl
    (fun n z e => br_t (nI_le (a := 4) (b := 4) (by decide) (by decide)) (by rw [e]; exact h z.2.1 z.2.2))
    (fun n i z hi e H => br_f (nI_ge (b := 4) hi (by decide)) (ty_wk hw hch (fun v r hv hr => ⟨ty_in hch hi, ty_ss hw.1 ht hr (fun y ey => nm_r (nI_1 i) (H (y, v, r) (by show y = _; rw [ey, e, ty_cl hch hi]; rfl)))⟩)))
theorem ty_ki {post : SY → Prop} (hw : ts_wf kd f s c) (ht : ts_tm tn c t) (hch : ch < 3)
    (h : ∀ v r l : Nat → Int32, post (nI c, nI t, b, kd, f, s, tn, tw, xs, ts_k kd f s tw tn t (fun x => x >>> (b &&& 31)) ch xs ms, v, r, l, us)) : wpY_kick post (nI c, nI t, b, kd, f, s, tn, tw, xs, ms, wa, qa, sl, us) (nI ch) :=
  loop_0 (fun n i (z : (Nat → Int32) × (Nat → Int32) × (Nat → Int32)) => wY_kick_2 post (nI ch) n (nI i) (nI c) (nI t) b kd f s tn tw xs ms z.1 z.2.1 z.2.2 us) (fun i z => ∀ j, j < i → z.2.2 j = ts_G kd f s tw tn t (ts_pt xs ch) j) 4 (wa, qa, sl)
    (fun j hj => absurd hj (by omega))
    (fun n z hz => br_t (nI_le (a := 4) (b := 4) (by decide) (by decide))
      (loop_0 (fun n i (m : Nat → Int32) => wY_kick_31 post (nI ch) (nI c) (nI t) b n (nI i) kd f s tn tw xs m z.1 z.2.1 z.2.2 us) (fun i m => m = ts_A ms (4 * ch) (fun i => z.2.2 i >>> (b &&& 31)) i) 4 ms rfl
        (fun n m e => br_t (nI_le (a := 4) (b := 4) (by decide) (by decide)) (by
          have e2 : m = ts_k kd f s tw tn t (fun x => x >>> (b &&& 31)) ch xs ms := e.trans (ts_A_c 4 (fun j hj => by
            show z.2.2 j >>> (b &&& 31) = ts_G kd f s tw tn t (ts_pt xs ch) j >>> (b &&& 31)
            rw [hz j hj]))
          rw [e2]
          exact h z.1 z.2.1 z.2.2))
        (fun n i m hi e H => br_f (nI_ge (b := 4) hi (by decide)) ⟨ty_in hch hi, vp_in_nI hi (by decide), ty_in hch hi, fun y ey => nm_r (nI_1 i) (H y (by rw [ey, e, ty_cl hch hi, nI_clamp (by omega)]; rfl))⟩)))
    (fun n i z hi hz H => br_f (nI_ge (b := 4) hi (by decide)) (ty_wk hw hch (fun v r hv hr => ty_ss hw.1 ht hr ⟨vp_in_nI hi (by decide), fun y ey => nm_r (nI_1 i) (H (v, r, y) (by
      show ∀ j, j < i + 1 → y j = ts_G kd f s tw tn t (ts_pt xs ch) j
      rw [ey, nI_clamp (by omega)]
      exact ts_up hz rfl))⟩)))
theorem ty_gl {post : Int32 → SY → Prop} {J : Int32 → Int32 → Int32 → Int32 → (Nat → Int32) → (Nat → Int32) → (Nat → Int32) → (Nat → Int32) → (Nat → Int32) → (Nat → Int32) → (Nat → Int32) → (Nat → Int32) → (Nat → Int32) → (Nat → Int32) → (Nat → Int32) → Prop} {x2 : Int32} {q : Nat} (hw : ts_wf kd f s c) (ht : ts_tm tn c t) (hch : ch < 3)
    (h : ∀ v r l : Nat → Int32, J (nI (q + 1)) (nI c) (nI t) b kd f s tn tw (ts_g ch xs ms) (ts_k kd f s tw tn t (fun x => x >>> (b &&& 31)) ch (ts_g ch xs ms) ms) v r l us) : ∃ n, wY_leap_38 post J (nI ch) x2 (nI q) (nI c) (nI t) b n 0 kd f s tn tw xs ms wa qa sl us :=
  loop_0 (fun n i (z : Nat → Int32) => wY_leap_38 post J (nI ch) x2 (nI q) (nI c) (nI t) b n (nI i) kd f s tn tw z ms wa qa sl us) (fun i z => z = ts_A xs (4 * ch) (fun i => ms (4 * ch + i)) i) 4 xs rfl
    (fun n z e => br_t (nI_le (a := 4) (b := 4) (by decide) (by decide)) (ty_ki hw ht hch (fun v r l => nm_r (nI_1 q) (by rw [e]; exact h v r l))))
    (fun n i z hi e H => br_f (nI_ge (b := 4) hi (by decide)) ⟨ty_in hch hi, ty_in hch hi, ty_in hch hi, fun y ey => nm_r (nI_1 i) (H y (by rw [ey, e, ty_cl hch hi]; rfl))⟩)
theorem ty_le {post : Int32 → SY → Prop} {m : Nat} (hw : ts_wf kd f s c) (ht : ts_tm tn c t) (hch : ch < 3) (hm : m ≤ 40)
    (h : ∀ v r l : Nat → Int32, post (ts_T kd f s tw tn t (ts_pt (ts_L kd f s tw tn t (fun x => x >>> (b &&& 31)) ch xs ms m).1 ch) &&& 255) (nI c, nI t, b, kd, f, s, tn, tw, (ts_L kd f s tw tn t (fun x => x >>> (b &&& 31)) ch xs ms m).1, (ts_L kd f s tw tn t (fun x => x >>> (b &&& 31)) ch xs ms m).2, v, r, l, us)) : ∃ n, wY_leap_25 post (nI ch) (nI m) n 0 (nI c) (nI t) b kd f s tn tw xs ms wa qa sl us :=
  loop_0 (fun n i (z : (Nat → Int32) × (Nat → Int32) × (Nat → Int32) × (Nat → Int32) × (Nat → Int32)) => wY_leap_25 post (nI ch) (nI m) n (nI i) (nI c) (nI t) b kd f s tn tw z.1 z.2.1 z.2.2.1 z.2.2.2.1 z.2.2.2.2 us)
    (fun i z => z.1 = (ts_L kd f s tw tn t (fun x => x >>> (b &&& 31)) ch xs ms i).1 ∧ z.2.1 = (ts_L kd f s tw tn t (fun x => x >>> (b &&& 31)) ch xs ms i).2) m (xs, ms, wa, qa, sl) ⟨rfl, rfl⟩
    (fun n z hz => br_t (Int32.le_refl _) (ty_wk hw hch (fun v r hv hr => ty_to hw.1 ht hv (by
      have h9 := h v r z.2.2.2.2
      rw [← hz.1, ← hz.2] at h9
      exact h9))))
    (fun n i z hi hz H => br_f (nI_ge hi (by omega)) (ty_ki hw ht hch (fun v r l => ty_gl hw ht hch (fun v2 r2 l2 => H (ts_g ch z.1 (ts_k kd f s tw tn t (fun x => x >>> (b &&& 31)) ch z.1 z.2.1), ts_k kd f s tw tn t (fun x => x >>> (b &&& 31)) ch (ts_g ch z.1 (ts_k kd f s tw tn t (fun x => x >>> (b &&& 31)) ch z.1 z.2.1)) (ts_k kd f s tw tn t (fun x => x >>> (b &&& 31)) ch z.1 z.2.1), v2, r2, l2)
      ⟨by rw [hz.1, hz.2]; rfl, by rw [hz.1, hz.2]; rfl⟩))))
theorem ty_tu {post : Int32 → SY → Prop} (hch : ch < 3) (h : post 0 (nI c, nI t, b, kd, f, s, tn, tw, xs, ts_N ms (4 * ch) 4, wa, qa, sl, us)) : ∃ n, wY_turn_12 post (nI ch) (nI c) (nI t) b n 0 kd f s tn tw xs ms wa qa sl us :=
  loop_0 (fun n i (z : Nat → Int32) => wY_turn_12 post (nI ch) (nI c) (nI t) b n (nI i) kd f s tn tw xs z wa qa sl us) (fun i z => z = ts_N ms (4 * ch) i) 4 ms rfl
    (fun n z e => br_t (nI_le (a := 4) (b := 4) (by decide) (by decide)) (by rw [e]; exact h))
    (fun n i z hi e H => br_f (nI_ge (b := 4) hi (by decide)) ⟨ty_in hch hi, ty_in hch hi, fun y ey => nm_r (nI_1 i) (H y (by rw [ey, e, ty_cl hch hi]; rfl))⟩)
theorem ty_cp {post : Int32 → SY → Prop} (hch : ch < 3) (hd : d < 3) (h : post 0 (nI c, nI t, b, kd, f, s, tn, tw, ts_C xs (4 * ch) (4 * d) 4, ts_C ms (4 * ch) (4 * d) 4, wa, qa, sl, us)) : ∃ n, wY_copy_20 post (nI ch) (nI d) (nI c) (nI t) b n 0 kd f s tn tw xs ms wa qa sl us :=
  loop_0 (fun n i (z : (Nat → Int32) × (Nat → Int32)) => wY_copy_20 post (nI ch) (nI d) (nI c) (nI t) b n (nI i) kd f s tn tw z.1 z.2 wa qa sl us) (fun i z => z.1 = ts_C xs (4 * ch) (4 * d) i ∧ z.2 = ts_C ms (4 * ch) (4 * d) i) 4 (xs, ms) ⟨rfl, rfl⟩
    (fun n z hz => br_t (nI_le (a := 4) (b := 4) (by decide) (by decide)) (by rw [hz.1, hz.2]; exact h))
    (fun n i z hi hz H => br_f (nI_ge (b := 4) hi (by decide)) ⟨ty_in hch hi, ty_in hd hi, fun y ey => ⟨ty_in hch hi, ty_in hd hi, fun y2 ey2 => nm_r (nI_1 i) (H (y, y2) ⟨by show y = _; rw [ey, ty_cl hch hi, ty_cl hd hi, hz.1]; rfl, by show y2 = _; rw [ey2, ty_cl hch hi, ty_cl hd hi, hz.2]; rfl⟩)⟩⟩)
theorem ty_li {post : Int32 → SY → Prop} {U : Nat → Int32} (hw : ts_wf kd f s c) (hU : ∀ j, j < 24 → us j = U j) (h : ∀ r : Nat → Int32, post (ts_lv kd f s c U 0) (nI c, nI t, b, kd, f, s, tn, tw, xs, ms, wa, qa, sl, r)) : ∃ n, wY_live_64 post (nI c) (nI t) b n 0 (nI c + (-1)) kd f s tn tw xs ms wa qa sl us := by
  have hc := hw.1
  refine ⟨c + 1, pk_loopD (fun n i (z : Int32 × (Nat → Int32)) => wY_live_64 post (nI c) (nI t) b n z.1 (nI i + (-1)) kd f s tn tw xs ms wa qa sl z.2) (fun i z => i ≤ c ∧ ∃ V : Nat → Int32, (∀ j, j < 24 → z.2 j = V j) ∧ ts_lv kd f s i V z.1 = ts_lv kd f s c U 0) ?_ ?_ c (0, us) ⟨Nat.le_refl _, U, hU, rfl⟩⟩
  · intro n z hz
    obtain ⟨-, V, -, e⟩ := hz
    have h9 := h z.2
    rw [← e] at h9
    exact br_t (by decide) h9
  · intro n i z hz H
    obtain ⟨hi, V, hV, e⟩ := hz
    have hcl : (nI i).toNatClampNeg = i := nI_clamp (by omega)
    have hin : vp_in (nI i) 24 := vp_in_nI (by omega) (by decide)
    show wY_live_64 post (nI c) (nI t) b (n + 1) z.1 (nI (i + 1) + (-1)) kd f s tn tw xs ms wa qa sl z.2
    rw [pk_m1]
    refine br_f (nI_pos (by omega)) (br_f (nI_ge (b := 24) (by omega) (by decide)) ⟨hin, ?_⟩)
    rw [hcl, hV i (by omega)]
    refine br_c (fun h0 => nm_e (H z ⟨by omega, V, hV, by rw [← e, ts_lv0 h0]⟩)) (fun h0 => nm_e ⟨hin, ?_⟩)
    rcases hw.2 i (by omega) with ⟨a1, b1, ha, hb, ea, eb, h9⟩ | ⟨h9, a1, ha, ea⟩ | h9
    · have h1 : vp_in (f i) 24 := by rw [ea]; exact vp_in_nI (by omega) (by decide)
      have h2 : vp_in (s i) 24 := by rw [eb]; exact vp_in_nI (by omega) (by decide)
      have h8 : kd i = 0 ∨ kd i = 1 ∨ kd i = 2 ∨ kd i = 3 := by
        rcases h9 with z | z | z | ⟨z, -⟩
        · exact Or.inl z
        · exact Or.inr (Or.inl z)
        · exact Or.inr (Or.inr (Or.inl z))
        · exact Or.inr (Or.inr (Or.inr z))
      have h7 : ¬ 4 ≤ kd i := by
        rcases h8 with z | z | z | z
        · rw [z]; decide
        · rw [z]; decide
        · rw [z]; decide
        · rw [z]; decide
      exact br_f h7 ⟨hin, h1, fun r er => ⟨hin, h2, fun r2 er2 => nm_e (H (z.1 + 1, r2) ⟨by omega, ts_mk kd f s V i, by
        show ∀ j, j < 24 → r2 j = ts_mk kd f s V i j
        rw [er2, er, tx_b1, ts_mk1 h8]
        exact ts_u2 (ts_u2 hV), by rw [← e, ts_lv1 h0]⟩)⟩⟩
    · exact br_t (by rw [h9]; decide) (nm_e (H (z.1 + 1, z.2) ⟨by omega, V, hV, by rw [← e, ts_lv1 h0, ts_mk4 h9]⟩))
    · exact br_t (by rw [h9]; decide) (nm_e (H (z.1 + 1, z.2) ⟨by omega, V, hV, by rw [← e, ts_lv1 h0, ts_mk5 h9]⟩))
theorem ty_lv {post : Int32 → SY → Prop} (hw : ts_wf kd f s c) (ht : ts_tm tn c t) (h : ∀ r : Nat → Int32, post (ts_lv kd f s c (ts_us tn t) 0) (nI c, nI t, b, kd, f, s, tn, tw, xs, ms, wa, qa, sl, r)) : wpY_live post (nI c, nI t, b, kd, f, s, tn, tw, xs, ms, wa, qa, sl, us) := by
  have hc := hw.1
  have ht8 := ht.1
  exact loop_0 (fun n i (r : Nat → Int32) => wY_live_2 post (nI c) (nI t) b n (nI i) kd f s tn tw xs ms wa qa sl r) (fun i r => ∀ j, j < i → r j = 0) 24 us
    (fun j hj => absurd hj (by omega))
    (fun n r hr => br_t (nI_le (a := 24) (b := 24) (by decide) (by decide))
      (loop_0 (fun n i (r : Nat → Int32) => wY_live_23 post (nI c) (nI t) b n (nI i) kd f s tn tw xs ms wa qa sl r) (fun i r => ∀ j, j < 24 → r j = ts_us tn i j) t r
        (fun j hj => hr j hj)
        (fun n r hr => br_t (Int32.le_refl _) (nm_r (ty_sub _) (ty_li hw hr h)))
        (fun n i r hi hr H => br_f (nI_ge hi (by omega)) (br_f (nI_ge (b := 8) (by omega) (by decide)) ⟨vp_in_nI (by omega) (by decide), by
          rw [nI_clamp (by omega)]
          obtain ⟨a, ha, ea⟩ := ht.2 i hi
          rw [ea]
          exact vp_in_nI (by omega) (by decide), fun r' e => nm_r (nI_1 i) (H r' (by rw [e, nI_clamp (by omega), tx_b1]; exact ts_u2 hr))⟩))))
    (fun n i r hi hr H => br_f (nI_ge (b := 24) hi (by decide)) ⟨vp_in_nI hi (by decide), fun r' e => nm_r (nI_1 i) (H r' (by rw [e, nI_clamp (by omega), tx_b0]; exact ts_up (b := fun _ => 0) hr rfl))⟩)
end
end
section
/-! the relation: one program, one list of terms, one set of chains; free working space -/
def i_Rel (k : Nat) (u : SX) (v : SY) : Prop := ∃ (c t : Nat) (b : Int32) (kd f s tn tw xs ms pt va ra re wa qa sl us : Nat → Int32), u = (nI c, nI t, b, kd, f, s, tn, tw, xs, ms, pt, va, ra, re) ∧ v = (nI c, nI t, b, kd, f, s, tn, tw, xs, ms, wa, qa, sl, us) ∧ ts_wf kd f s c ∧ ts_tm tn c t
theorem i_up {k : Nat} {u : SX} {v : SY} (h : i_Rel k u v) : i_Rel (k + 4) u v := h
theorem ts_I {k c t : Nat} {b : Int32} {kd f s tn tw xs ms pt va ra re wa qa sl us : Nat → Int32} (hw : ts_wf kd f s c) (ht : ts_tm tn c t) : i_Rel k (nI c, nI t, b, kd, f, s, tn, tw, xs, ms, pt, va, ra, re) (nI c, nI t, b, kd, f, s, tn, tw, xs, ms, wa, qa, sl, us) :=
  ⟨c, t, b, kd, f, s, tn, tw, xs, ms, pt, va, ra, re, wa, qa, sl, us, rfl, rfl, hw, ht⟩
theorem i_vc0 : wpX_init (fun u => wpY_init (fun v => i_Rel 0 u v)) :=
  ts_I (k := 0) (c := 0) (t := 0) ⟨by decide, fun k hk => absurd hk (by omega)⟩ ⟨by decide, fun k hk => absurd hk (by omega)⟩
theorem ts_wf_add {kd f s : Nat → Int32} {c : Nat} {p0 p1 p2 : Int32} (hw : ts_wf kd f s c) (hc : c < 24)
    (hn : (∃ a b : Nat, a < c ∧ b < c ∧ p1 = nI a ∧ p2 = nI b ∧ (p0 = 0 ∨ p0 = 1 ∨ p0 = 2 ∨ (p0 = 3 ∧ a = b))) ∨ (p0 = 4 ∧ ∃ a : Nat, a < 4 ∧ p1 = nI a) ∨ p0 = 5) : ts_wf (upd kd c p0) (upd f c p1) (upd s c p2) (c + 1) := by
  refine ⟨by omega, fun k hk => ?_⟩
  unfold ts_nd
  by_cases e : k = c
  · subst e
    rw [pk_us, pk_us, pk_us]
    exact hn
  · rw [pk_un e, pk_un e, pk_un e]
    exact hw.2 k (by omega)
theorem ts_tm_up {tn : Nat → Int32} {c t : Nat} (ht : ts_tm tn c t) : ts_tm tn (c + 1) t :=
  ⟨ht.1, fun j hj => by obtain ⟨a, ha, e⟩ := ht.2 j hj; exact ⟨a, by omega, e⟩⟩
theorem ts_tm_add {tn : Nat → Int32} {c t a : Nat} (ht : ts_tm tn c t) (h8 : t < 8) (ha : a < c) : ts_tm (upd tn t (nI a)) c (t + 1) := by
  refine ⟨by omega, fun j hj => ?_⟩
  by_cases e : j = t
  · subst e
    exact ⟨a, ha, pk_us⟩
  · rw [pk_un e]
    exact ht.2 j (by omega)
theorem ts_ix (x : Int32) {n : Nat} (hn : n < 2 ^ 31) : (x < 0 ∨ nI n ≤ x) ∨ ∃ j : Nat, j < n ∧ x = nI j := by
  rcases pk_ix x hn with h | h | h
  · exact Or.inl (Or.inl h)
  · exact Or.inl (Or.inr h)
  · exact Or.inr h
theorem ts_l24 {c : Nat} (h : c < 24) : nI c < 24 := nI_lt (b := 24) h (by decide)
theorem ts_n24 {c : Nat} (h : ¬ c < 24) (h2 : c ≤ 24) : ¬ nI c < 24 := nI_nlt (b := 24) (by omega) (by omega)
theorem ts_l23 {c : Nat} (h : c < 24) : nI c ≤ 23 := nI_le (b := 23) (by omega) (by decide)
theorem ts_n23 {c : Nat} (h : ¬ c < 24) (h2 : c ≤ 24) : ¬ nI c ≤ 23 := nI_ge (a := 23) (by omega) (by omega)
theorem ts_l8 {c : Nat} (h : c < 8) : nI c < 8 := nI_lt (b := 8) h (by decide)
theorem ts_n8 {c : Nat} (h : ¬ c < 8) (h2 : c ≤ 8) : ¬ nI c < 8 := nI_nlt (b := 8) (by omega) (by omega)
theorem ts_l7 {c : Nat} (h : c < 8) : nI c ≤ 7 := nI_le (b := 7) (by omega) (by decide)
theorem ts_n7 {c : Nat} (h : ¬ c < 8) (h2 : c ≤ 8) : ¬ nI c ≤ 7 := nI_ge (a := 7) (by omega) (by omega)
end
section
/-! the owed statements: building the model, the chains' cells -/
theorem i_vc_parameter {k : Nat} {u : SX} {v : SY} (I : i_Rel k u v) (hk : k + 4 ≤ 2048) (v1 : Int32) : wpX_parameter (fun r u' => wpY_parameter (fun r' v' => r' = r ∧ i_Rel (k + 4) u' v') v v1) u v1 := by
  obtain ⟨c, t, b, kd, f, s, tn, tw, xs, ms, pt, va, ra, re, wa, qa, sl, us, rfl, rfl, hw, ht⟩ := I
  unfold wpX_parameter wpY_parameter
  dsimp only
  rcases ts_ix v1 (n := 4) (by decide) with h | ⟨i, hi, rfl⟩
  · exact tx_pa_f h (br_t rfl (ty_pa_f h (br_f ts_10 ⟨rfl, ts_I hw ht⟩)))
  · by_cases hc : c < 24
    · exact tx_pa_t hi (br_f ts_10 (br_t (ts_l24 hc) (tx_add hc (ty_pa_t hi (br_t rfl (ty_add hc ⟨rfl, ts_I (ts_wf_add hw hc (Or.inr (Or.inl ⟨rfl, i, hi, rfl⟩))) (ts_tm_up ht)⟩))))))
    · have hc24 := hw.1
      exact tx_pa_t hi (br_f ts_10 (br_f (ts_n24 hc hc24) (ty_pa_t hi (br_t rfl (ty_full (by omega) ⟨rfl, ts_I hw ht⟩)))))
theorem i_vc_constant {k : Nat} {u : SX} {v : SY} (I : i_Rel k u v) (hk : k + 4 ≤ 2048) (v1 : Int32) : wpX_constant (fun r u' => wpY_constant (fun r' v' => r' = r ∧ i_Rel (k + 4) u' v') v v1) u v1 := by
  obtain ⟨c, t, b, kd, f, s, tn, tw, xs, ms, pt, va, ra, re, wa, qa, sl, us, rfl, rfl, hw, ht⟩ := I
  unfold wpX_constant wpY_constant
  dsimp only
  by_cases hc : c < 24
  · exact br_t (ts_l24 hc) (tx_add hc (ty_add hc ⟨rfl, ts_I (ts_wf_add hw hc (Or.inr (Or.inr rfl))) (ts_tm_up ht)⟩))
  · have hc24 := hw.1
    exact br_f (ts_n24 hc hc24) (ty_full (by omega) ⟨rfl, ts_I hw ht⟩)
theorem i_vc_combine {k : Nat} {u : SX} {v : SY} (I : i_Rel k u v) (hk : k + 4 ≤ 2048) (v1 : Int32) (v2 : Int32) (v3 : Int32) : wpX_combine (fun r u' => wpY_combine (fun r' v' => r' = r ∧ i_Rel (k + 4) u' v') v v1 v2 v3) u v1 v2 v3 := by
  obtain ⟨c, t, b, kd, f, s, tn, tw, xs, ms, pt, va, ra, re, wa, qa, sl, us, rfl, rfl, hw, ht⟩ := I
  unfold wpX_combine wpY_combine
  dsimp only
  have hc24 := hw.1
  by_cases h0 : v1 < 0
  · exact br_t h0 (br_t h0 ⟨rfl, ts_I hw ht⟩)
  by_cases h2 : v1 ≤ 2
  · by_cases hc : c < 24
    · rcases ts_ix v2 (n := c) (by omega) with hb | ⟨i, hi, rfl⟩
      · exact br_f h0 (br_t h2 (br_t (ts_l24 hc) (tx_nd_f hb (br_t rfl (br_f h0 (br_t h2 (br_t (ts_l23 hc) (ty_nd_f hb (br_f ts_10 ⟨rfl, ts_I hw ht⟩)))))))))
      · rcases ts_ix v3 (n := c) (by omega) with hb | ⟨j, hj, rfl⟩
        · exact br_f h0 (br_t h2 (br_t (ts_l24 hc) (tx_nd_t hc24 hi (br_f ts_10 (tx_nd_f hb (br_t rfl (br_f h0 (br_t h2 (br_t (ts_l23 hc) (ty_nd_t hc24 hi (br_t rfl (ty_nd_f hb (br_f ts_10 ⟨rfl, ts_I hw ht⟩)))))))))))))
        · have hkd : v1 = 0 ∨ v1 = 1 ∨ v1 = 2 := by
            obtain ⟨q, hq, rfl⟩ := nI_of2 (M := 2) (n := 2) (by decide) h0 h2
            have hq3 : q = 0 ∨ q = 1 ∨ q = 2 := by omega
            rcases hq3 with rfl | rfl | rfl
            · exact Or.inl rfl
            · exact Or.inr (Or.inl rfl)
            · exact Or.inr (Or.inr rfl)
          have hn : v1 = 0 ∨ v1 = 1 ∨ v1 = 2 ∨ (v1 = 3 ∧ i = j) := by
            rcases hkd with z | z | z
            · exact Or.inl z
            · exact Or.inr (Or.inl z)
            · exact Or.inr (Or.inr (Or.inl z))
          exact br_f h0 (br_t h2 (br_t (ts_l24 hc) (tx_nd_t hc24 hi (br_f ts_10 (tx_nd_t hc24 hj (br_f ts_10 (tx_add hc (br_f h0 (br_t h2 (br_t (ts_l23 hc) (ty_nd_t hc24 hi (br_t rfl (ty_nd_t hc24 hj (br_t rfl (ty_add hc ⟨rfl, ts_I (ts_wf_add hw hc (Or.inl ⟨i, j, hi, hj, rfl, rfl, hn⟩)) (ts_tm_up ht)⟩)))))))))))))))
    · exact br_f h0 (br_t h2 (br_f (ts_n24 hc hc24) (br_f h0 (br_t h2 (br_f (ts_n23 hc hc24) ⟨rfl, ts_I hw ht⟩)))))
  · exact br_f h0 (br_f h2 (br_f h0 (br_f h2 ⟨rfl, ts_I hw ht⟩)))
theorem i_vc_square {k : Nat} {u : SX} {v : SY} (I : i_Rel k u v) (hk : k + 4 ≤ 2048) (v1 : Int32) : wpX_square (fun r u' => wpY_square (fun r' v' => r' = r ∧ i_Rel (k + 4) u' v') v v1) u v1 := by
  obtain ⟨c, t, b, kd, f, s, tn, tw, xs, ms, pt, va, ra, re, wa, qa, sl, us, rfl, rfl, hw, ht⟩ := I
  unfold wpX_square wpY_square
  dsimp only
  have hc24 := hw.1
  by_cases hc : c < 24
  · rcases ts_ix v1 (n := c) (by omega) with hb | ⟨i, hi, rfl⟩
    · exact br_t (ts_l24 hc) (tx_nd_f hb (br_t rfl (br_t (ts_l23 hc) (ty_nd_f hb (br_f ts_10 ⟨rfl, ts_I hw ht⟩)))))
    · exact br_t (ts_l24 hc) (tx_nd_t hc24 hi (br_f ts_10 (tx_add hc (br_t (ts_l23 hc) (ty_nd_t hc24 hi (br_t rfl (ty_add hc ⟨rfl, ts_I (ts_wf_add hw hc (Or.inl ⟨i, i, hi, hi, rfl, rfl, Or.inr (Or.inr (Or.inr ⟨rfl, rfl⟩))⟩)) (ts_tm_up ht)⟩)))))))
  · exact br_f (ts_n24 hc hc24) (br_f (ts_n23 hc hc24) ⟨rfl, ts_I hw ht⟩)
theorem i_vc_term {k : Nat} {u : SX} {v : SY} (I : i_Rel k u v) (hk : k + 4 ≤ 2048) (v1 : Int32) (v2 : Int32) : wpX_term (fun r u' => wpY_term (fun r' v' => r' = r ∧ i_Rel (k + 4) u' v') v v1 v2) u v1 v2 := by
  obtain ⟨c, t, b, kd, f, s, tn, tw, xs, ms, pt, va, ra, re, wa, qa, sl, us, rfl, rfl, hw, ht⟩ := I
  unfold wpX_term wpY_term
  dsimp only
  have hc24 := hw.1
  have ht8 := ht.1
  rcases ts_ix v1 (n := c) (by omega) with hb | ⟨i, hi, rfl⟩
  · exact tx_nd_f hb (br_t rfl (ty_nd_f hb (br_f ts_10 ⟨rfl, ts_I hw ht⟩)))
  by_cases h0 : v2 < (-20)
  · exact tx_nd_t hc24 hi (br_f ts_10 (br_t h0 (ty_nd_t hc24 hi (br_t rfl (br_t h0 ⟨rfl, ts_I hw ht⟩)))))
  by_cases h2 : v2 ≤ 20
  · by_cases h8 : t < 8
    · have hin : vp_in (nI t) 8 := vp_in_nI h8 (by decide)
      have hcl : (nI t).toNatClampNeg = t := nI_clamp (by omega)
      refine tx_nd_t hc24 hi (br_f ts_10 (br_f h0 (br_t h2 (br_t (ts_l8 h8) ⟨hin, fun a ea => ⟨hin, fun a2 ea2 => nm_r (nI_1 t) (ty_nd_t hc24 hi (br_t rfl (br_f h0 (br_t h2 (br_t (ts_l7 h8) ⟨hin, fun a3 ea3 => ⟨hin, fun a4 ea4 => nm_r (nI_1 t) ?_⟩⟩)))))⟩⟩))))
      rw [hcl] at ea ea2 ea3 ea4
      subst ea ea2 ea3 ea4
      exact ⟨rfl, ts_I hw (ts_tm_add ht h8 hi)⟩
    · exact tx_nd_t hc24 hi (br_f ts_10 (br_f h0 (br_t h2 (br_f (ts_n8 h8 ht8) (ty_nd_t hc24 hi (br_t rfl (br_f h0 (br_t h2 (br_f (ts_n7 h8 ht8) ⟨rfl, ts_I hw ht⟩)))))))))
  · exact tx_nd_t hc24 hi (br_f ts_10 (br_f h0 (br_f h2 (ty_nd_t hc24 hi (br_t rfl (br_f h0 (br_f h2 ⟨rfl, ts_I hw ht⟩)))))))
theorem i_vc_clear {k : Nat} {u : SX} {v : SY} (I : i_Rel k u v) (hk : k + 4 ≤ 2048) : wpX_clear (fun r u' => wpY_clear (fun r' v' => r' = r ∧ i_Rel (k + 4) u' v') v) u := by
  obtain ⟨c, t, b, kd, f, s, tn, tw, xs, ms, pt, va, ra, re, wa, qa, sl, us, rfl, rfl, hw, ht⟩ := I
  unfold wpX_clear wpY_clear
  dsimp only
  exact ⟨rfl, ts_I (k := k + 4) (c := 0) (t := 0) ⟨by decide, fun k hk => absurd hk (by omega)⟩ ⟨by decide, fun k hk => absurd hk (by omega)⟩⟩
theorem i_vc_nodes {k : Nat} {u : SX} {v : SY} (I : i_Rel k u v) (hk : k + 4 ≤ 2048) : wpX_nodes (fun r => wpY_nodes (fun r' => r' = r ∧ i_Rel (k + 4) u v) v) u := by
  obtain ⟨c, t, b, kd, f, s, tn, tw, xs, ms, pt, va, ra, re, wa, qa, sl, us, rfl, rfl, hw, ht⟩ := I
  unfold wpX_nodes wpY_nodes
  dsimp only
  exact ⟨rfl, ts_I hw ht⟩
theorem i_vc_terms {k : Nat} {u : SX} {v : SY} (I : i_Rel k u v) (hk : k + 4 ≤ 2048) : wpX_terms (fun r => wpY_terms (fun r' => r' = r ∧ i_Rel (k + 4) u v) v) u := by
  obtain ⟨c, t, b, kd, f, s, tn, tw, xs, ms, pt, va, ra, re, wa, qa, sl, us, rfl, rfl, hw, ht⟩ := I
  unfold wpX_terms wpY_terms
  dsimp only
  exact ⟨rfl, ts_I hw ht⟩
theorem i_vc_place {k : Nat} {u : SX} {v : SY} (I : i_Rel k u v) (hk : k + 4 ≤ 2048) (v1 : Int32) (v2 : Int32) (v3 : Int32) : wpX_place (fun r u' => wpY_place (fun r' v' => r' = r ∧ i_Rel (k + 4) u' v') v v1 v2 v3) u v1 v2 v3 := by
  obtain ⟨c, t, b, kd, f, s, tn, tw, xs, ms, pt, va, ra, re, wa, qa, sl, us, rfl, rfl, hw, ht⟩ := I
  unfold wpX_place wpY_place
  dsimp only
  rcases ts_ix v1 (n := 3) (by decide) with h | ⟨ch, hch, rfl⟩
  · exact tx_ch_f h (br_t rfl (ty_ch_f h (br_f ts_10 ⟨rfl, ts_I hw ht⟩)))
  rcases ts_ix v2 (n := 4) (by decide) with h | ⟨i, hi, rfl⟩
  · exact tx_ch_t hch (br_f ts_10 (tx_pa_f h (br_t rfl (ty_ch_t hch (br_t rfl (ty_pa_f h (br_f ts_10 ⟨rfl, ts_I hw ht⟩)))))))
  · refine tx_ch_t hch (br_f ts_10 (tx_pa_t hi (br_f ts_10 ⟨tx_in hch hi, fun a ea => ty_ch_t hch (br_t rfl (ty_pa_t hi (br_t rfl ⟨ty_in hch hi, fun a2 ea2 => ?_⟩)))⟩)))
    rw [tx_cl hch hi] at ea
    rw [ty_cl hch hi] at ea2
    subst ea ea2
    exact ⟨rfl, ts_I hw ht⟩
theorem i_vc_push {k : Nat} {u : SX} {v : SY} (I : i_Rel k u v) (hk : k + 4 ≤ 2048) (v1 : Int32) (v2 : Int32) (v3 : Int32) : wpX_push (fun r u' => wpY_push (fun r' v' => r' = r ∧ i_Rel (k + 4) u' v') v v1 v2 v3) u v1 v2 v3 := by
  obtain ⟨c, t, b, kd, f, s, tn, tw, xs, ms, pt, va, ra, re, wa, qa, sl, us, rfl, rfl, hw, ht⟩ := I
  unfold wpX_push wpY_push
  dsimp only
  rcases ts_ix v1 (n := 3) (by decide) with h | ⟨ch, hch, rfl⟩
  · exact tx_ch_f h (br_t rfl (ty_ch_f h (br_f ts_10 ⟨rfl, ts_I hw ht⟩)))
  rcases ts_ix v2 (n := 4) (by decide) with h | ⟨i, hi, rfl⟩
  · exact tx_ch_t hch (br_f ts_10 (tx_pa_f h (br_t rfl (ty_ch_t hch (br_t rfl (ty_pa_f h (br_f ts_10 ⟨rfl, ts_I hw ht⟩)))))))
  · refine tx_ch_t hch (br_f ts_10 (tx_pa_t hi (br_f ts_10 ⟨tx_in hch hi, fun a ea => ty_ch_t hch (br_t rfl (ty_pa_t hi (br_t rfl ⟨ty_in hch hi, fun a2 ea2 => ?_⟩)))⟩)))
    rw [tx_cl hch hi] at ea
    rw [ty_cl hch hi] at ea2
    subst ea ea2
    exact ⟨rfl, ts_I hw ht⟩
theorem i_vc_shift {k : Nat} {u : SX} {v : SY} (I : i_Rel k u v) (hk : k + 4 ≤ 2048) (v1 : Int32) : wpX_shift (fun r u' => wpY_shift (fun r' v' => r' = r ∧ i_Rel (k + 4) u' v') v v1) u v1 := by
  obtain ⟨c, t, b, kd, f, s, tn, tw, xs, ms, pt, va, ra, re, wa, qa, sl, us, rfl, rfl, hw, ht⟩ := I
  unfold wpX_shift wpY_shift
  dsimp only
  exact br_c (fun h0 => br_t h0 ⟨rfl, ts_I hw ht⟩) (fun h0 => br_c (fun h2 => br_f h0 (br_t h2 ⟨rfl, ts_I hw ht⟩)) (fun h2 => br_f h0 (br_f h2 ⟨rfl, ts_I hw ht⟩)))
theorem i_vc_position {k : Nat} {u : SX} {v : SY} (I : i_Rel k u v) (hk : k + 4 ≤ 2048) (v1 : Int32) (v2 : Int32) : wpX_position (fun r => wpY_position (fun r' => r' = r ∧ i_Rel (k + 4) u v) v v1 v2) u v1 v2 := by
  obtain ⟨c, t, b, kd, f, s, tn, tw, xs, ms, pt, va, ra, re, wa, qa, sl, us, rfl, rfl, hw, ht⟩ := I
  unfold wpX_position wpY_position
  dsimp only
  rcases ts_ix v1 (n := 3) (by decide) with h | ⟨ch, hch, rfl⟩
  · exact tx_ch_f h (br_t rfl (ty_ch_f h (br_f ts_10 ⟨rfl, ts_I hw ht⟩)))
  rcases ts_ix v2 (n := 4) (by decide) with h | ⟨i, hi, rfl⟩
  · exact tx_ch_t hch (br_f ts_10 (tx_pa_f h (br_t rfl (ty_ch_t hch (br_t rfl (ty_pa_f h (br_f ts_10 ⟨rfl, ts_I hw ht⟩)))))))
  · exact tx_ch_t hch (br_f ts_10 (tx_pa_t hi (br_f ts_10 ⟨tx_in hch hi, ty_ch_t hch (br_t rfl (ty_pa_t hi (br_t rfl ⟨ty_in hch hi, by rw [tx_cl hch hi, ty_cl hch hi], ts_I hw ht⟩)))⟩)))
theorem i_vc_momentum {k : Nat} {u : SX} {v : SY} (I : i_Rel k u v) (hk : k + 4 ≤ 2048) (v1 : Int32) (v2 : Int32) : wpX_momentum (fun r => wpY_momentum (fun r' => r' = r ∧ i_Rel (k + 4) u v) v v1 v2) u v1 v2 := by
  obtain ⟨c, t, b, kd, f, s, tn, tw, xs, ms, pt, va, ra, re, wa, qa, sl, us, rfl, rfl, hw, ht⟩ := I
  unfold wpX_momentum wpY_momentum
  dsimp only
  rcases ts_ix v1 (n := 3) (by decide) with h | ⟨ch, hch, rfl⟩
  · exact tx_ch_f h (br_t rfl (ty_ch_f h (br_f ts_10 ⟨rfl, ts_I hw ht⟩)))
  rcases ts_ix v2 (n := 4) (by decide) with h | ⟨i, hi, rfl⟩
  · exact tx_ch_t hch (br_f ts_10 (tx_pa_f h (br_t rfl (ty_ch_t hch (br_t rfl (ty_pa_f h (br_f ts_10 ⟨rfl, ts_I hw ht⟩)))))))
  · exact tx_ch_t hch (br_f ts_10 (tx_pa_t hi (br_f ts_10 ⟨tx_in hch hi, ty_ch_t hch (br_t rfl (ty_pa_t hi (br_t rfl ⟨ty_in hch hi, by rw [tx_cl hch hi, ty_cl hch hi], ts_I hw ht⟩)))⟩)))
end
section
/-! the owed statements: values, slopes, moves, live nodes -/
theorem i_vc_valueOf {k : Nat} {u : SX} {v : SY} (I : i_Rel k u v) (hk : k + 4 ≤ 2048) (v1 : Int32) (v2 : Int32) : wpX_valueOf (fun r u' => wpY_valueOf (fun r' v' => r' = r ∧ i_Rel (k + 4) u' v') v v1 v2) u v1 v2 := by
  obtain ⟨c, t, b, kd, f, s, tn, tw, xs, ms, pt, va, ra, re, wa, qa, sl, us, rfl, rfl, hw, ht⟩ := I
  unfold wpX_valueOf wpY_valueOf
  dsimp only
  have hc := hw.1
  rcases ts_ix v1 (n := 3) (by decide) with h | ⟨ch, hch, rfl⟩
  · exact tx_ch_f h (br_t rfl (ty_ch_f h (br_f ts_10 ⟨rfl, ts_I hw ht⟩)))
  rcases ts_ix v2 (n := c) (by omega) with h | ⟨i, hi, rfl⟩
  · exact tx_ch_t hch (br_f ts_10 (tx_nd_f h (br_t rfl (ty_ch_t hch (br_t rfl (ty_nd_f h (br_f ts_10 ⟨rfl, ts_I hw ht⟩)))))))
  · have hin : vp_in (nI i) 24 := vp_in_nI (by omega) (by decide)
    have hcl : (nI i).toNatClampNeg = i := nI_clamp (by omega)
    exact tx_ch_t hch (br_f ts_10 (tx_nd_t hc hi (br_f ts_10 (tx_go hch (fun p hp => tx_fv hw hp (fun w hv => ⟨hin, ty_ch_t hch (br_t rfl (ty_nd_t hc hi (br_t rfl (ty_wk hw hch (fun w' r' hv' hr' => ⟨hin, by show w' (nI i).toNatClampNeg = w (nI i).toNatClampNeg; rw [hcl, hv i hi, hv' i hi], ts_I hw ht⟩)))))⟩))))))
theorem i_vc_target {k : Nat} {u : SX} {v : SY} (I : i_Rel k u v) (hk : k + 4 ≤ 2048) (v1 : Int32) : wpX_target (fun r u' => wpY_target (fun r' v' => r' = r ∧ i_Rel (k + 4) u' v') v v1) u v1 := by
  obtain ⟨c, t, b, kd, f, s, tn, tw, xs, ms, pt, va, ra, re, wa, qa, sl, us, rfl, rfl, hw, ht⟩ := I
  unfold wpX_target wpY_target
  dsimp only
  rcases ts_ix v1 (n := 3) (by decide) with h | ⟨ch, hch, rfl⟩
  · exact tx_ch_f h (br_t rfl (ty_ch_f h (br_f ts_10 ⟨rfl, ts_I hw ht⟩)))
  · exact tx_ch_t hch (br_f ts_10 (tx_go hch (fun p hp => tx_fv hw hp (fun w hv => tx_wv hw.1 ht hv (ty_ch_t hch (br_t rfl (ty_wk hw hch (fun w' r' hv' hr' => ty_to hw.1 ht hv' ⟨rfl, ts_I hw ht⟩))))))))
theorem i_vc_slope {k : Nat} {u : SX} {v : SY} (I : i_Rel k u v) (hk : k + 4 ≤ 2048) (v1 : Int32) (v2 : Int32) : wpX_slope (fun r u' => wpY_slope (fun r' v' => r' = r ∧ i_Rel (k + 4) u' v') v v1 v2) u v1 v2 := by
  obtain ⟨c, t, b, kd, f, s, tn, tw, xs, ms, pt, va, ra, re, wa, qa, sl, us, rfl, rfl, hw, ht⟩ := I
  unfold wpX_slope wpY_slope
  dsimp only
  rcases ts_ix v1 (n := 3) (by decide) with h | ⟨ch, hch, rfl⟩
  · exact tx_ch_f h (br_t rfl (ty_ch_f h (br_f ts_10 ⟨rfl, ts_I hw ht⟩)))
  rcases ts_ix v2 (n := 4) (by decide) with h | ⟨i, hi, rfl⟩
  · exact tx_ch_t hch (br_f ts_10 (tx_pa_f h (br_t rfl (ty_ch_t hch (br_t rfl (ty_pa_f h (br_f ts_10 ⟨rfl, ts_I hw ht⟩)))))))
  · exact tx_ch_t hch (br_f ts_10 (tx_pa_t hi (br_f ts_10 (tx_go hch (fun p hp => tx_fv hw hp (fun w hv => tx_fs hw hv (fun r hr => tx_ws hw.1 ht hr (ty_ch_t hch (br_t rfl (ty_pa_t hi (br_t rfl (ty_wk hw hch (fun w' r' hv' hr' => ty_ss hw.1 ht hr' ⟨rfl, ts_I hw ht⟩)))))))))))))
theorem i_vc_drift {k : Nat} {u : SX} {v : SY} (I : i_Rel k u v) (hk : k + 4 ≤ 2048) (v1 : Int32) : wpX_drift (fun r u' => wpY_drift (fun r' v' => r' = r ∧ i_Rel (k + 4) u' v') v v1) u v1 := by
  obtain ⟨c, t, b, kd, f, s, tn, tw, xs, ms, pt, va, ra, re, wa, qa, sl, us, rfl, rfl, hw, ht⟩ := I
  unfold wpX_drift wpY_drift
  dsimp only
  rcases ts_ix v1 (n := 3) (by decide) with h | ⟨ch, hch, rfl⟩
  · exact tx_ch_f h (br_t rfl (ty_ch_f h (br_f ts_10 ⟨rfl, ts_I hw ht⟩)))
  · exact tx_ch_t hch (br_f ts_10 (tx_go hch (fun p hp => tx_fv hw hp (fun w hv => tx_dr hw ht hch hv (fun r => ty_ch_t hch (br_t rfl (ty_dr hw ht hch (fun w' r' => ⟨rfl, ts_I hw ht⟩))))))))
theorem i_vc_targetAt {k : Nat} {u : SX} {v : SY} (I : i_Rel k u v) (hk : k + 4 ≤ 2048) (v1 : Int32) (v2 : Int32) (v3 : Int32) : wpX_targetAt (fun r u' => wpY_targetAt (fun r' v' => r' = r ∧ i_Rel (k + 4) u' v') v v1 v2 v3) u v1 v2 v3 := by
  obtain ⟨c, t, b, kd, f, s, tn, tw, xs, ms, pt, va, ra, re, wa, qa, sl, us, rfl, rfl, hw, ht⟩ := I
  unfold wpX_targetAt wpY_targetAt
  dsimp only
  rcases ts_ix v1 (n := 3) (by decide) with h | ⟨ch, hch, rfl⟩
  · exact tx_ch_f h (br_t rfl (ty_ch_f h (br_f ts_10 ⟨rfl, ts_I hw ht⟩)))
  rcases ts_ix v2 (n := 4) (by decide) with h | ⟨i, hi, rfl⟩
  · exact tx_ch_t hch (br_f ts_10 (tx_pa_f h (br_t rfl (ty_ch_t hch (br_t rfl (ty_pa_f h (br_f ts_10 ⟨rfl, ts_I hw ht⟩)))))))
  · refine tx_ch_t hch (br_f ts_10 (tx_pa_t hi (br_f ts_10 (tx_go hch (fun p hp => ⟨vp_in_nI hi (by decide), fun p' ep => tx_fv (q := upd (ts_pt xs ch) i v3) hw (by rw [ep, nI_clamp (by omega)]; exact ts_u2 hp) (fun w hv => tx_wv hw.1 ht hv (ty_ch_t hch (br_t rfl (ty_pa_t hi (br_t rfl ⟨ty_in hch hi, fun y ey => ⟨ty_in hch hi, fun x' ex => ?_⟩⟩)))))⟩)))))
    rw [ty_cl hch hi] at ey ex
    subst ey ex
    refine ty_wk hw hch (fun w' r' hv' hr' => ⟨ty_in hch hi, fun x2 ex2 => ?_⟩)
    rw [ty_cl hch hi, ts_uu] at ex2
    subst ex2
    rw [ts_pt_u] at hv'
    exact ty_to hw.1 ht hv' ⟨rfl, ts_I hw ht⟩
theorem i_vc_leap {k : Nat} {u : SX} {v : SY} (I : i_Rel k u v) (hk : k + 4 ≤ 2048) (v1 : Int32) (v2 : Int32) : wpX_leap (fun r u' => wpY_leap (fun r' v' => r' = r ∧ i_Rel (k + 4) u' v') v v1 v2) u v1 v2 := by
  obtain ⟨c, t, b, kd, f, s, tn, tw, xs, ms, pt, va, ra, re, wa, qa, sl, us, rfl, rfl, hw, ht⟩ := I
  unfold wpX_leap wpY_leap
  dsimp only
  rcases ts_ix v1 (n := 3) (by decide) with h | ⟨ch, hch, rfl⟩
  · exact tx_ch_f h (br_t rfl (ty_ch_f h (br_f ts_10 ⟨rfl, ts_I hw ht⟩)))
  by_cases h0 : v2 < 0
  · exact tx_ch_t hch (br_f ts_10 (br_t h0 (ty_ch_t hch (br_t rfl (br_t h0 ⟨rfl, ts_I hw ht⟩)))))
  by_cases h2 : v2 ≤ 40
  · obtain ⟨m, hm, rfl⟩ := nI_of2 (M := 40) (n := 40) (by decide) h0 h2
    exact tx_ch_t hch (br_f ts_10 (br_f h0 (br_t h2 (tx_le hw ht hch hm (fun p w r => ty_ch_t hch (br_t rfl (br_f h0 (br_t h2 (ty_le hw ht hch hm (fun w' r' l' => ⟨rfl, ts_I hw ht⟩))))))))))
  · exact tx_ch_t hch (br_f ts_10 (br_f h0 (br_f h2 (ty_ch_t hch (br_t rfl (br_f h0 (br_f h2 ⟨rfl, ts_I hw ht⟩)))))))
theorem i_vc_turn {k : Nat} {u : SX} {v : SY} (I : i_Rel k u v) (hk : k + 4 ≤ 2048) (v1 : Int32) : wpX_turn (fun r u' => wpY_turn (fun r' v' => r' = r ∧ i_Rel (k + 4) u' v') v v1) u v1 := by
  obtain ⟨c, t, b, kd, f, s, tn, tw, xs, ms, pt, va, ra, re, wa, qa, sl, us, rfl, rfl, hw, ht⟩ := I
  unfold wpX_turn wpY_turn
  dsimp only
  rcases ts_ix v1 (n := 3) (by decide) with h | ⟨ch, hch, rfl⟩
  · exact tx_ch_f h (br_t rfl (ty_ch_f h (br_f ts_10 ⟨rfl, ts_I hw ht⟩)))
  · exact tx_ch_t hch (br_f ts_10 (tx_tu hch (ty_ch_t hch (br_t rfl (ty_tu hch ⟨rfl, ts_I hw ht⟩)))))
theorem i_vc_copy {k : Nat} {u : SX} {v : SY} (I : i_Rel k u v) (hk : k + 4 ≤ 2048) (v1 : Int32) (v2 : Int32) : wpX_copy (fun r u' => wpY_copy (fun r' v' => r' = r ∧ i_Rel (k + 4) u' v') v v1 v2) u v1 v2 := by
  obtain ⟨c, t, b, kd, f, s, tn, tw, xs, ms, pt, va, ra, re, wa, qa, sl, us, rfl, rfl, hw, ht⟩ := I
  unfold wpX_copy wpY_copy
  dsimp only
  rcases ts_ix v1 (n := 3) (by decide) with h | ⟨ch, hch, rfl⟩
  · exact tx_ch_f h (br_t rfl (ty_ch_f h (br_f ts_10 ⟨rfl, ts_I hw ht⟩)))
  rcases ts_ix v2 (n := 3) (by decide) with h | ⟨d, hd, rfl⟩
  · exact tx_ch_t hch (br_f ts_10 (tx_ch_f h (br_t rfl (ty_ch_t hch (br_t rfl (ty_ch_f h (br_f ts_10 ⟨rfl, ts_I hw ht⟩)))))))
  · exact tx_ch_t hch (br_f ts_10 (tx_ch_t hd (br_f ts_10 (tx_cp hch hd (ty_ch_t hch (br_t rfl (ty_ch_t hd (br_t rfl (ty_cp hch hd ⟨rfl, ts_I hw ht⟩)))))))))
theorem i_vc_live {k : Nat} {u : SX} {v : SY} (I : i_Rel k u v) (hk : k + 4 ≤ 2048) : wpX_live (fun r u' => wpY_live (fun r' v' => r' = r ∧ i_Rel (k + 4) u' v') v) u := by
  obtain ⟨c, t, b, kd, f, s, tn, tw, xs, ms, pt, va, ra, re, wa, qa, sl, us, rfl, rfl, hw, ht⟩ := I
  unfold wpX_live
  dsimp only
  exact tx_rt hw.1 ht (fun r hr => nm_r (ty_sub _) (tx_li hw hr (fun r2 => ty_lv hw ht (fun r3 => ⟨rfl, ts_I hw ht⟩))))
end
