theorem rb_div32 {n : Nat} (h : n < 1024) : nI n / 32 = nI (n / 32) := pk_div (d := 32) (by omega) (by decide) (by decide)
theorem rb_rem32 {n : Nat} (h : n < 1024) : nI n - nI n / 32 * 32 = nI (n % 32) := pk_rem (d := 32) (by omega) (by decide) (by decide)
def rb_Iv (x : Int32) (l h : Nat) : Prop := ∃ n, n < 1024 ∧ x = nI n ∧ l = n / 32 ∧ h = n % 32 ∧ l ≤ h
def rb_Nv (x : Int32) : Prop := x < 0 ∨ 1023 < x ∨ (∃ n, n < 1024 ∧ x = nI n ∧ n % 32 < n / 32)
theorem rb_iv (x : Int32) : (∃ l h, rb_Iv x l h) ∨ rb_Nv x := by
  by_cases h0 : x < 0
  · exact Or.inr (Or.inl h0)
  · obtain ⟨n, hn, rfl⟩ := nI_of h0
    by_cases h1 : n < 1024
    · by_cases h2 : n / 32 ≤ n % 32
      · exact Or.inl ⟨_, _, n, h1, rfl, rfl, rfl, h2⟩
      · exact Or.inr (Or.inr (Or.inr ⟨n, h1, rfl, by omega⟩))
    · exact Or.inr (Or.inr (Or.inl (nI_lt (a := 1023) (by omega) hn)))
theorem rb_Iv_le {x : Int32} {l h : Nat} (hv : rb_Iv x l h) : l ≤ h ∧ h < 32 := by
  obtain ⟨n, hn, _, rfl, rfl, hl⟩ := hv
  omega
theorem rb_x_sub {i j : Nat} (h : j ≤ i) : rb_x i - rb_x j = nI (i - j) := by
  rw [← pk_sub h]
  unfold rb_x
  grind
theorem rb_x_subN {i r : Nat} (h : r ≤ i) : rb_x i - nI r = rb_x (i - r) := by
  unfold rb_x
  rw [← pk_sub h]
  grind
theorem rb_x_addN (i r : Nat) : rb_x i + nI r = rb_x (i + r) := by
  unfold rb_x
  rw [← nI_add]
  grind
theorem rb_lowc {i r : Nat} (hi : i < 32) (hr : r < 33) : rb_x i - nI r < -16 ↔ i < r := by
  rw [Int32.lt_iff_toInt_lt, Int32.toInt_sub, rb_x_T (by omega), nI_toInt (by omega), show (-16 : Int32).toInt = -16 from by decide, Int.bmod_eq_of_le (by omega) (by omega)]
  omega
theorem rb_highc {i r : Nat} (hi : i < 32) (hr : r < 33) : 15 < rb_x i + nI r ↔ 31 < i + r := by
  rw [rb_x_addN, ← rb_lit31, rb_x_lt (by omega) (by omega)]
/-! the numbers that a sow lays -/
theorem rb_mod41 {N : Nat} (h : N < 2 ^ 31) : rb_B (nI N - nI N / 41 * 41 - 20) 50 := by
  have e : nI N - nI N / 41 * 41 = nI (N % 41) := pk_rem (d := 41) h (by decide) (by decide)
  rw [e]
  unfold rb_B
  rw [Int32.toInt_sub, nI_toInt (by omega), show (20 : Int32).toInt = 20 from by decide, Int.bmod_eq_of_le (by omega) (by omega)]
  omega
theorem rb_mod11 {N : Nat} (h : N < 2 ^ 31) : rb_B (nI N - nI N / 11 * 11 - 5) 5 := by
  have e : nI N - nI N / 11 * 11 = nI (N % 11) := pk_rem (d := 11) h (by decide) (by decide)
  rw [e]
  unfold rb_B
  rw [Int32.toInt_sub, nI_toInt (by omega), show (5 : Int32).toInt = 5 from by decide, Int.bmod_eq_of_le (by omega) (by omega)]
  omega
def rb_so (s b p : Nat) : Nat := s * 7 + 5 * p + b * p
def rb_sf (s b p : Nat) : Nat := s + 3 * p + p * p * b
theorem rb_so_e (s b p : Nat) : nI s * 7 + 5 * nI p + nI b * nI p = nI (rb_so s b p) := by
  unfold rb_so
  rw [← nI_add, ← nI_add, ← pk_mul, ← pk_mul, ← pk_mul]
  rfl
theorem rb_sf_e (s b p : Nat) : nI s + 3 * nI p + nI p * nI p * nI b = nI (rb_sf s b p) := by
  unfold rb_sf
  rw [← nI_add, ← nI_add, ← pk_mul, ← pk_mul, ← pk_mul]
  rfl
theorem rb_so_b {s b p : Nat} (hs : s ≤ 100) (hb : b ≤ 20) (hp : p < 20) : rb_so s b p < 2 ^ 31 := by
  unfold rb_so
  have h1 : b * p ≤ 20 * 20 := Nat.mul_le_mul hb (by omega)
  omega
theorem rb_sf_b {s b p : Nat} (hs : s ≤ 100) (hb : b ≤ 20) (hp : p < 20) : rb_sf s b p < 2 ^ 31 := by
  unfold rb_sf
  have h1 : p * p ≤ 20 * 20 := Nat.mul_le_mul (by omega) (by omega)
  have h2 : p * p * b ≤ 20 * 20 * 20 := Nat.mul_le_mul h1 hb
  omega
/-- the number at place p after a sow -/
def rb_sv (s b p : Nat) : Int32 := if (5 < p ∧ p < 9) ∨ p = 15 ∨ p = 16 ∨ p = 19 then nI (rb_so s b p) - nI (rb_so s b p) / 41 * 41 - 20 else nI (rb_sf s b p) - nI (rb_sf s b p) / 11 * 11 - 5
theorem rb_svB {s b p : Nat} (hs : s ≤ 100) (hb : b ≤ 20) (hp : p < 20) : rb_B (rb_sv s b p) (rb_cap p) := by
  unfold rb_sv rb_cap
  split
  · exact rb_mod41 (rb_so_b hs hb hp)
  · exact rb_mod11 (rb_sf_b hs hb hp)
def rb_sow (a : Nat → Int32) (s b : Nat) : Nat → Nat → Int32
  | 0 => a
  | p + 1 => upd (rb_sow a s b p) p (rb_sv s b p)
theorem rb_Ok_upd {a : Nat → Int32} {p : Nat} {x : Int32} (h : rb_Ok a) (hx : rb_B x (rb_cap p)) : rb_Ok (upd a p x) := by
  intro q hq
  by_cases e : q = p
  · subst e
    rw [pk_us]
    exact hx
  · rw [pk_un e]
    exact h q hq
theorem rb_sowOk {a : Nat → Int32} {s b : Nat} (h : rb_Ok a) (hs : s ≤ 100) (hb : b ≤ 20) : ∀ p, p ≤ 20 → rb_Ok (rb_sow a s b p) := by
  intro p
  induction p with
  | zero => exact fun _ => h
  | succ p ih => exact fun hp => rb_Ok_upd (ih (by omega)) (rb_svB hs hb (by omega))
/-! the nearest pair above the limit, as the double loop finds it -/
def rb_nI (f : Nat → Nat → Int32) (lim : Int32) (p q i j : Nat) (s : Int32) : Prop :=
  ∃ d, s = nI d ∧ d ≤ 32 ∧ (∀ i' j', rb_V 0 0 31 i j i' j' → lim < f i' j' → d ≤ rb_dist p q i' j') ∧ (d = 32 ∨ ∃ i' j', i' < 32 ∧ j' < 32 ∧ lim < f i' j' ∧ rb_dist p q i' j' = d)
theorem rb_nI_0 {f : Nat → Nat → Int32} {lim : Int32} {p q : Nat} : rb_nI f lim p q 0 0 32 := ⟨32, rfl, by omega, fun _ _ h => absurd h rb_V_0, Or.inl rfl⟩
theorem rb_nI_t {f : Nat → Nat → Int32} {lim : Int32} {p q i j d : Nat} (hp : p < 32) (hq : q < 32) (hi : i < 32) (hj : j < 32) (h : rb_nI f lim p q i j (nI d)) (hd : d ≤ 32) (hl : rb_dist p q i j < d) (hf : lim < f i j) : rb_nI f lim p q i (j + 1) (nI (rb_dist p q i j)) := by
  obtain ⟨d', e, hd', ha, hb⟩ := h
  obtain rfl : d = d' := (nI_eq (by omega) (by omega)).mp e
  refine ⟨_, rfl, by omega, fun i' j' hv hf' => ?_, Or.inr ⟨i, j, hi, hj, hf, rfl⟩⟩
  rcases rb_V_s hv with hv | ⟨rfl, rfl⟩
  · have := ha i' j' hv hf'
    omega
  · exact Nat.le_refl _
theorem rb_nI_k {f : Nat → Nat → Int32} {lim : Int32} {p q i j d : Nat} (h : rb_nI f lim p q i j (nI d)) (hd : d ≤ 32) (hl : lim < f i j → d ≤ rb_dist p q i j) : rb_nI f lim p q i (j + 1) (nI d) := by
  obtain ⟨d', e, hd', ha, hb⟩ := h
  obtain rfl : d = d' := (nI_eq (by omega) (by omega)).mp e
  refine ⟨_, rfl, hd, fun i' j' hv hf' => ?_, hb⟩
  rcases rb_V_s hv with hv | ⟨rfl, rfl⟩
  · exact ha i' j' hv hf'
  · exact hl hf'
theorem rb_nI_n {f : Nat → Nat → Int32} {lim : Int32} {p q i : Nat} {s : Int32} (h : rb_nI f lim p q i (31 + 1) s) : rb_nI f lim p q (i + 1) 0 s := by
  obtain ⟨d, e, hd, ha, hb⟩ := h
  exact ⟨d, e, hd, fun i' j' hv => ha i' j' (rb_V_n hv), hb⟩
theorem rb_nI_e {f : Nat → Nat → Int32} {lim : Int32} {p q : Nat} {s : Int32} (h : rb_nI f lim p q (31 + 1) 0 s) : ∃ d, s = nI d ∧ d ≤ 32 ∧ rb_Near f lim p q d := by
  obtain ⟨d, e, hd, ha, hb⟩ := h
  refine ⟨d, e, hd, fun i' j' hi hj => ha i' j' (rb_V_e ?_), hb⟩
  unfold rb_Bx
  omega
theorem rb_dv {i j : Nat} : rb_d i j = if j < i then i - j else j - i := by
  unfold rb_d
  repeat' split
  all_goals omega
