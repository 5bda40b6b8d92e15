/-! what both sides compute, as functions of the numbers -/
def rb_clip (t : Int32) : Int32 := if 0 < t then t else 0
def rb_inn (a : Nat → Int32) (k : Nat) (x y : Int32) : Int32 := rb_clip (a (2 * k) * x + a (2 * k + 1) * y + a (6 + k))
def rb_sum (a : Nat → Int32) (k : Nat) (x y : Int32) : Nat → Int32
  | 0 => a (15 + k)
  | i + 1 => rb_sum a k x y i + a (9 + 3 * k + i) * rb_inn a i x y
def rb_out (a : Nat → Int32) (k : Nat) (x y : Int32) : Int32 := rb_clip (rb_sum a k x y 3)
def rb_res (a : Nat → Int32) (x y : Int32) : Int32 := a 17 * rb_out a 0 x y + a 18 * rb_out a 1 x y + a 19
def rb_unit (a : Nat → Int32) (u : Nat) (x y : Int32) : Int32 := if u < 3 then rb_inn a u x y else rb_out a (u - 3) x y
def rb_pat (a : Nat → Int32) (x y : Int32) : Nat → Int32
  | 0 => 0
  | u + 1 => if 0 < rb_unit a u x y then rb_pat a x y u ||| ((1 : Int32) <<< (nI u &&& 31)) else rb_pat a x y u
def rb_cnt (s : Int32) : Nat → Int32
  | 0 => 0
  | k + 1 => rb_cnt s k + ((s.toUInt32 >>> ((nI k).toUInt32 &&& Int32.toUInt32 31)).toInt32 &&& 1)
/-! bounds -/
def rb_B (x : Int32) (n : Nat) : Prop := x.toInt.natAbs ≤ n
theorem rb_B_add {x y : Int32} {m n : Nat} (hx : rb_B x m) (hy : rb_B y n) (h : m + n < 2 ^ 31) : rb_B (x + y) (m + n) := by
  unfold rb_B at *
  rw [Int32.toInt_add, Int.bmod_eq_of_le (by omega) (by omega)]
  omega
theorem rb_B_mul {x y : Int32} {m n : Nat} (hx : rb_B x m) (hy : rb_B y n) (h : m * n < 2 ^ 31) : rb_B (x * y) (m * n) := by
  unfold rb_B at *
  have h1 : (x.toInt * y.toInt).natAbs ≤ m * n := by
    rw [Int.natAbs_mul]
    exact Nat.mul_le_mul hx hy
  rw [Int32.toInt_mul]
  generalize x.toInt * y.toInt = p at *
  generalize m * n = q at *
  rw [Int.bmod_eq_of_le (by omega) (by omega)]
  exact h1
theorem rb_B_mono {x : Int32} {m n : Nat} (hx : rb_B x m) (h : m ≤ n) : rb_B x n := Nat.le_trans hx h
theorem rb_B_0 (n : Nat) : rb_B 0 n := by
  have h : (0 : Int32).toInt = 0 := by decide
  unfold rb_B
  rw [h]
  exact Nat.zero_le n
theorem rb_B_clip {x : Int32} {n : Nat} (hx : rb_B x n) : rb_B (rb_clip x) n := by
  unfold rb_clip
  split
  · exact hx
  · exact rb_B_0 n
def rb_cap (p : Nat) : Nat := if (5 < p ∧ p < 9) ∨ p = 15 ∨ p = 16 ∨ p = 19 then 50 else 5
def rb_Ok (a : Nat → Int32) : Prop := ∀ p, p < 20 → rb_B (a p) (rb_cap p)
theorem rb_cap5 {p : Nat} (h : ¬ ((5 < p ∧ p < 9) ∨ p = 15 ∨ p = 16 ∨ p = 19)) : rb_cap p = 5 := if_neg h
theorem rb_cap50 {p : Nat} (h : (5 < p ∧ p < 9) ∨ p = 15 ∨ p = 16 ∨ p = 19) : rb_cap p = 50 := if_pos h
theorem rb_a5 {a : Nat → Int32} (h : rb_Ok a) (p : Nat) (hp : p < 20) (hc : ¬ ((5 < p ∧ p < 9) ∨ p = 15 ∨ p = 16 ∨ p = 19)) : rb_B (a p) 5 := rb_cap5 hc ▸ h p hp
theorem rb_a50 {a : Nat → Int32} (h : rb_Ok a) (p : Nat) (hp : p < 20) (hc : (5 < p ∧ p < 9) ∨ p = 15 ∨ p = 16 ∨ p = 19) : rb_B (a p) 50 := rb_cap50 hc ▸ h p hp
theorem rb_innB {a : Nat → Int32} (h : rb_Ok a) {k : Nat} (hk : k < 3) {x y : Int32} (hx : rb_B x 16) (hy : rb_B y 16) : rb_B (rb_inn a k x y) 210 :=
  rb_B_clip (rb_B_add (m := 160) (n := 50) (rb_B_add (m := 80) (n := 80) (rb_B_mul (m := 5) (n := 16) (rb_a5 h _ (by omega) (by omega)) hx (by decide)) (rb_B_mul (m := 5) (n := 16) (rb_a5 h _ (by omega) (by omega)) hy (by decide)) (by decide)) (rb_a50 h _ (by omega) (by omega)) (by decide))
theorem rb_sumB {a : Nat → Int32} (h : rb_Ok a) {k : Nat} (hk : k < 2) {x y : Int32} (hx : rb_B x 16) (hy : rb_B y 16) : ∀ i, i ≤ 3 → rb_B (rb_sum a k x y i) (50 + 1050 * i) := by
  intro i
  induction i with
  | zero => exact fun _ => rb_a50 h _ (by omega) (by omega)
  | succ i ih =>
    intro hi
    have h1 : rb_B (a (9 + 3 * k + i) * rb_inn a i x y) 1050 := rb_B_mul (m := 5) (n := 210) (rb_a5 h _ (by omega) (by omega)) (rb_innB h (by omega) hx hy) (by decide)
    have h2 := rb_B_add (ih (by omega)) h1 (by omega)
    exact rb_B_mono h2 (by omega)
theorem rb_outB {a : Nat → Int32} (h : rb_Ok a) {k : Nat} (hk : k < 2) {x y : Int32} (hx : rb_B x 16) (hy : rb_B y 16) : rb_B (rb_out a k x y) 3200 :=
  rb_B_clip (rb_sumB h hk hx hy 3 (Nat.le_refl 3))
theorem rb_resB {a : Nat → Int32} (h : rb_Ok a) {x y : Int32} (hx : rb_B x 16) (hy : rb_B y 16) : rb_B (rb_res a x y) 32050 :=
  rb_B_add (m := 32000) (n := 50) (rb_B_add (m := 16000) (n := 16000) (rb_B_mul (m := 5) (n := 3200) (rb_a5 h 17 (by omega) (by omega)) (rb_outB h (by omega) hx hy) (by decide)) (rb_B_mul (m := 5) (n := 3200) (rb_a5 h 18 (by omega) (by omega)) (rb_outB h (by omega) hx hy) (by decide)) (by decide)) (rb_a50 h 19 (by omega) (by omega)) (by decide)
/-! inputs by their index: -16 is 0, 15 is 31 -/
def rb_x (i : Nat) : Int32 := nI i + (-16)
theorem rb_x_T {i : Nat} (h : i < 2 ^ 20) : (rb_x i).toInt = (i : Int) - 16 := by
  unfold rb_x
  rw [Int32.toInt_add, nI_toInt (by omega), show (-16 : Int32).toInt = -16 from by decide, Int.bmod_eq_of_le (by omega) (by omega)]
  omega
theorem rb_x_s (i : Nat) : nI i - 16 = rb_x i := Int32.sub_eq_add_neg _ _
theorem rb_x_le {i j : Nat} (hi : i < 2 ^ 20) (hj : j < 2 ^ 20) : rb_x i ≤ rb_x j ↔ i ≤ j := by
  rw [Int32.le_iff_toInt_le, rb_x_T hi, rb_x_T hj]
  omega
theorem rb_x_lt {i j : Nat} (hi : i < 2 ^ 20) (hj : j < 2 ^ 20) : rb_x i < rb_x j ↔ i < j := by
  rw [Int32.lt_iff_toInt_lt, rb_x_T hi, rb_x_T hj]
  omega
theorem rb_x_1 (i : Nat) : rb_x i + 1 = rb_x (i + 1) := by
  unfold rb_x
  rw [nI_succ]
  grind
theorem rb_x_B {i : Nat} (h : i < 32) : rb_B (rb_x i) 16 := by
  unfold rb_B
  rw [rb_x_T (by omega)]
  omega
theorem rb_x_of {x : Int32} (h1 : ¬ x < -16) (h2 : ¬ 15 < x) : ∃ i, i < 32 ∧ x = rb_x i := by
  rw [Int32.lt_iff_toInt_lt] at h1 h2
  have e1 : (-16 : Int32).toInt = -16 := by decide
  have e2 : (15 : Int32).toInt = 15 := by decide
  rw [e1] at h1
  rw [e2] at h2
  refine ⟨(x.toInt + 16).toNat, by omega, Int32.toInt_inj.mp ?_⟩
  rw [rb_x_T (by omega)]
  omega
theorem rb_x_ge16 {i : Nat} (h : i < 2 ^ 20) : ¬ rb_x i < -16 := by
  rw [Int32.lt_iff_toInt_lt, rb_x_T h, show (-16 : Int32).toInt = -16 from by decide]
  omega
theorem rb_x_le15 {i : Nat} (h : i < 32) : ¬ 15 < rb_x i := by
  rw [Int32.lt_iff_toInt_lt, rb_x_T (by omega), show (15 : Int32).toInt = 15 from by decide]
  omega
theorem rb_lit0 : rb_x 0 = -16 := by decide
theorem rb_lit31 : rb_x 31 = 15 := by decide
theorem rb_pairX (i j : Nat) : 32 * (rb_x i - (-16)) + (rb_x j - (-16)) = nI (32 * i + j) := by
  have e : nI (32 * i + j) = 32 * nI i + nI j := by
    rw [← nI_add, ← pk_mul]
    rfl
  rw [e]
  unfold rb_x
  grind
theorem rb_pairY (i j : Nat) : 32 * (rb_x i + 16) + rb_x j + 16 = nI (32 * i + j) := by
  have e : nI (32 * i + j) = 32 * nI i + nI j := by
    rw [← nI_add, ← pk_mul]
    rfl
  rw [e]
  unfold rb_x
  grind
/-! two loops, one in the other -/
theorem rb_nest {σ : Type} (O : Nat → Nat → σ → Prop) (N : Nat → Nat → Nat → Nat → σ → Prop) (I : Nat → Nat → σ → Prop) (l0 h0 l1 h1 : Nat) (hl1 : l1 ≤ h1 + 1)
    (ox : ∀ n s, I (h0 + 1) l1 s → O (n + 1) (h0 + 1) s)
    (os : ∀ n i s, l0 ≤ i → i ≤ h0 → (∃ m, N n i m l1 s) → O (n + 1) i s)
    (nx : ∀ n i m s, l0 ≤ i → i ≤ h0 → O n (i + 1) s → N n i (m + 1) (h1 + 1) s)
    (ns : ∀ n i m j s, l0 ≤ i → i ≤ h0 → l1 ≤ j → j ≤ h1 → I i j s → (∀ s', I i (j + 1) s' → N n i m (j + 1) s') → N n i (m + 1) j s)
    (hI : ∀ i s, l0 ≤ i → i ≤ h0 → I i (h1 + 1) s → I (i + 1) l1 s) :
    ∀ d i s, i + d = h0 + 1 → l0 ≤ i → I i l1 s → O (d + 1) i s := by
  intro d
  induction d with
  | zero =>
    intro i s hd _ h
    obtain rfl : i = h0 + 1 := by omega
    exact ox 0 s h
  | succ d ih =>
    intro i s hd hi h
    refine os (d + 1) i s hi (by omega) ⟨(h1 + 1 - l1) + 1, ?_⟩
    have key : ∀ e j s, j + e = h1 + 1 → l1 ≤ j → I i j s → N (d + 1) i (e + 1) j s := by
      intro e
      induction e with
      | zero =>
        intro j s he _ h
        obtain rfl : j = h1 + 1 := by omega
        exact nx _ _ _ _ hi (by omega) (ih (i + 1) s (by omega) (by omega) (hI i s hi (by omega) h))
      | succ e ihe =>
        intro j s he hj h
        exact ns _ _ _ _ _ hi (by omega) hj (by omega) h (fun s' h' => ihe (j + 1) s' (by omega) (by omega) h')
    exact key _ l1 s (by omega) (Nat.le_refl _) h
def rb_V (l0 l1 h1 i j i' j' : Nat) : Prop := l0 ≤ i' ∧ l1 ≤ j' ∧ j' ≤ h1 ∧ (i' < i ∨ (i' = i ∧ j' < j))
def rb_Bx (l0 h0 l1 h1 i j : Nat) : Prop := l0 ≤ i ∧ i ≤ h0 ∧ l1 ≤ j ∧ j ≤ h1
theorem rb_V_0 {l0 l1 h1 i' j' : Nat} : ¬ rb_V l0 l1 h1 l0 l1 i' j' := by
  unfold rb_V
  omega
theorem rb_V_n {l0 l1 h1 i i' j' : Nat} (h : rb_V l0 l1 h1 (i + 1) l1 i' j') : rb_V l0 l1 h1 i (h1 + 1) i' j' := by
  unfold rb_V at *
  omega
theorem rb_V_n' {l0 l1 h1 i i' j' : Nat} (h : rb_V l0 l1 h1 i (h1 + 1) i' j') : rb_V l0 l1 h1 (i + 1) l1 i' j' := by
  unfold rb_V at *
  omega
theorem rb_V_s {l0 l1 h1 i j i' j' : Nat} (h : rb_V l0 l1 h1 i (j + 1) i' j') : rb_V l0 l1 h1 i j i' j' ∨ (i' = i ∧ j' = j) := by
  unfold rb_V at *
  omega
theorem rb_V_m {l0 l1 h1 i j i' j' : Nat} (h : rb_V l0 l1 h1 i j i' j') : rb_V l0 l1 h1 i (j + 1) i' j' := by
  unfold rb_V at *
  omega
theorem rb_V_h {l0 l1 h1 i j : Nat} (hi : l0 ≤ i) (h1' : l1 ≤ j) (h2 : j ≤ h1) : rb_V l0 l1 h1 i (j + 1) i j := by
  unfold rb_V
  omega
theorem rb_V_e {l0 h0 l1 h1 i j : Nat} (h : rb_Bx l0 h0 l1 h1 i j) : rb_V l0 l1 h1 (h0 + 1) l1 i j := by
  unfold rb_V rb_Bx at *
  omega
theorem rb_V_e' {l0 h0 l1 h1 i j : Nat} (h : rb_V l0 l1 h1 (h0 + 1) l1 i j) : rb_Bx l0 h0 l1 h1 i j := by
  unfold rb_V rb_Bx at *
  omega
/-! the greatest by a key -/
section
variable (κ : Int32 → Int) (f : Nat → Nat → Int32) (l0 h0 l1 h1 : Nat)
def rb_Max (g : Int32) : Prop := (∀ i j, rb_Bx l0 h0 l1 h1 i j → κ (f i j) ≤ κ g) ∧ ∃ i j, rb_Bx l0 h0 l1 h1 i j ∧ f i j = g
def rb_mI (c : Int32) (i j : Nat) (g : Int32) : Prop := (∀ i' j', rb_V l0 l1 h1 i j i' j' → κ (f i' j') ≤ κ g) ∧ (g = c ∨ ∃ i' j', rb_Bx l0 h0 l1 h1 i' j' ∧ f i' j' = g)
end
theorem rb_Max_u {κ : Int32 → Int} {f : Nat → Nat → Int32} {l0 h0 l1 h1 : Nat} {g g' : Int32} (hk : ∀ x y, κ x = κ y → x = y) (h : rb_Max κ f l0 h0 l1 h1 g) (h' : rb_Max κ f l0 h0 l1 h1 g') : g = g' := by
  obtain ⟨ha, i, j, hb, rfl⟩ := h
  obtain ⟨hc, i', j', hd, rfl⟩ := h'
  exact hk _ _ (Int.le_antisymm (hc i j hb) (ha i' j' hd))
theorem rb_mI_0 {κ : Int32 → Int} {f : Nat → Nat → Int32} {l0 h0 l1 h1 : Nat} (c : Int32) : rb_mI κ f l0 h0 l1 h1 c l0 l1 c := ⟨fun _ _ h => absurd h rb_V_0, Or.inl rfl⟩
theorem rb_mI_t {κ : Int32 → Int} {f : Nat → Nat → Int32} {l0 h0 l1 h1 : Nat} {c g : Int32} {i j : Nat} (h : rb_mI κ f l0 h0 l1 h1 c i j g) (hb : rb_Bx l0 h0 l1 h1 i j) (hg : κ g ≤ κ (f i j)) : rb_mI κ f l0 h0 l1 h1 c i (j + 1) (f i j) := by
  refine ⟨fun i' j' hv => ?_, Or.inr ⟨i, j, hb, rfl⟩⟩
  rcases rb_V_s hv with hv | ⟨rfl, rfl⟩
  · exact Int.le_trans (h.1 i' j' hv) hg
  · exact Int.le_refl _
theorem rb_mI_k {κ : Int32 → Int} {f : Nat → Nat → Int32} {l0 h0 l1 h1 : Nat} {c g : Int32} {i j : Nat} (h : rb_mI κ f l0 h0 l1 h1 c i j g) (hg : κ (f i j) ≤ κ g) : rb_mI κ f l0 h0 l1 h1 c i (j + 1) g := by
  refine ⟨fun i' j' hv => ?_, h.2⟩
  rcases rb_V_s hv with hv | ⟨rfl, rfl⟩
  · exact h.1 i' j' hv
  · exact hg
theorem rb_mI_n {κ : Int32 → Int} {f : Nat → Nat → Int32} {l0 h0 l1 h1 : Nat} {c g : Int32} {i : Nat} (h : rb_mI κ f l0 h0 l1 h1 c i (h1 + 1) g) : rb_mI κ f l0 h0 l1 h1 c (i + 1) l1 g := ⟨fun i' j' hv => h.1 i' j' (rb_V_n hv), h.2⟩
theorem rb_mI_e {κ : Int32 → Int} {f : Nat → Nat → Int32} {l0 h0 l1 h1 : Nat} {c g : Int32} (h : rb_mI κ f l0 h0 l1 h1 c (h0 + 1) l1 g) (hc : ∃ i j, rb_Bx l0 h0 l1 h1 i j ∧ (f i j = c ∨ κ c < κ (f i j))) : rb_Max κ f l0 h0 l1 h1 g := by
  refine ⟨fun i j hb => h.1 i j (rb_V_e hb), ?_⟩
  rcases h.2 with rfl | h2
  · obtain ⟨i, j, hb, hc⟩ := hc
    rcases hc with hc | hc
    · exact ⟨i, j, hb, hc⟩
    · have := h.1 i j (rb_V_e hb)
      omega
  · exact h2
/-! the first above a limit -/
def rb_First (f : Nat → Nat → Int32) (lim : Int32) (l0 h0 l1 h1 : Nat) (r : Int32) : Prop :=
  (∃ i j, rb_Bx l0 h0 l1 h1 i j ∧ lim < f i j ∧ (∀ i' j', rb_V l0 l1 h1 i j i' j' → ¬ lim < f i' j') ∧ r = nI (32 * i + j)) ∨ ((∀ i j, rb_Bx l0 h0 l1 h1 i j → ¬ lim < f i j) ∧ r = -2)
theorem rb_First_u {f : Nat → Nat → Int32} {lim : Int32} {l0 h0 l1 h1 : Nat} {r r' : Int32} (h : rb_First f lim l0 h0 l1 h1 r) (h' : rb_First f lim l0 h0 l1 h1 r') : r = r' := by
  rcases h with ⟨i, j, hb, hf, hv, rfl⟩ | ⟨hn, rfl⟩
  · rcases h' with ⟨i', j', hb', hf', hv', rfl⟩ | ⟨hn', rfl⟩
    · have w1 : ¬ rb_V l0 l1 h1 i j i' j' := fun z => hv _ _ z hf'
      have w2 : ¬ rb_V l0 l1 h1 i' j' i j := fun z => hv' _ _ z hf
      unfold rb_V at w1 w2
      unfold rb_Bx at hb hb'
      have e : i = i' ∧ j = j' := by omega
      rw [e.1, e.2]
    · exact absurd hf (hn' i j hb)
  · rcases h' with ⟨i', j', hb', hf', _, rfl⟩ | ⟨_, rfl⟩
    · exact absurd hf' (hn i' j' hb')
    · rfl
theorem rb_First_neg {f : Nat → Nat → Int32} {lim : Int32} {l0 h0 l1 h1 : Nat} {r : Int32} (hh0 : h0 < 32) (hh1 : h1 < 32) (h : rb_First f lim l0 h0 l1 h1 r) : r < 0 ↔ ∀ i j, rb_Bx l0 h0 l1 h1 i j → ¬ lim < f i j := by
  rcases h with ⟨i, j, hb, hf, hv, rfl⟩ | ⟨hn, rfl⟩
  · have hb2 := hb
    unfold rb_Bx at hb2
    exact ⟨fun z => absurd z (nI_pos (by omega)), fun z => absurd hf (z i j hb)⟩
  · exact ⟨fun _ => hn, fun _ => by decide⟩
/-! which of two things was seen -/
def rb_Seen (P : Nat → Nat → Prop) (l0 l1 h1 i j : Nat) (s : Int32) : Prop := (s = 0 ∧ ∀ i' j', rb_V l0 l1 h1 i j i' j' → ¬ P i' j') ∨ (s = 1 ∧ ∃ i' j', rb_V l0 l1 h1 i j i' j' ∧ P i' j')
theorem rb_Seen_0 {P : Nat → Nat → Prop} {l0 l1 h1 : Nat} : rb_Seen P l0 l1 h1 l0 l1 0 := Or.inl ⟨rfl, fun _ _ h => absurd h rb_V_0⟩
theorem rb_Seen_t {P : Nat → Nat → Prop} {l0 l1 h1 i j : Nat} (hi : l0 ≤ i) (h1' : l1 ≤ j) (h2 : j ≤ h1) (h : P i j) : rb_Seen P l0 l1 h1 i (j + 1) 1 := Or.inr ⟨rfl, i, j, rb_V_h hi h1' h2, h⟩
theorem rb_Seen_k {P : Nat → Nat → Prop} {l0 l1 h1 i j : Nat} {s : Int32} (hs : rb_Seen P l0 l1 h1 i j s) (h : ¬ P i j) : rb_Seen P l0 l1 h1 i (j + 1) s := by
  rcases hs with ⟨rfl, hs⟩ | ⟨rfl, i', j', hv, hp⟩
  · refine Or.inl ⟨rfl, fun i' j' hv => ?_⟩
    rcases rb_V_s hv with hv | ⟨rfl, rfl⟩
    · exact hs i' j' hv
    · exact h
  · exact Or.inr ⟨rfl, i', j', rb_V_m hv, hp⟩
theorem rb_Seen_n {P : Nat → Nat → Prop} {l0 l1 h1 i : Nat} {s : Int32} (hs : rb_Seen P l0 l1 h1 i (h1 + 1) s) : rb_Seen P l0 l1 h1 (i + 1) l1 s := by
  rcases hs with ⟨rfl, hs⟩ | ⟨rfl, i', j', hv, hp⟩
  · exact Or.inl ⟨rfl, fun i' j' hv => hs i' j' (rb_V_n hv)⟩
  · exact Or.inr ⟨rfl, i', j', rb_V_n' hv, hp⟩
theorem rb_Seen_u {P : Nat → Nat → Prop} {l0 l1 h1 i j : Nat} {s s' : Int32} (hs : rb_Seen P l0 l1 h1 i j s) (hs' : rb_Seen P l0 l1 h1 i j s') : s = s' := by
  rcases hs with ⟨rfl, hs⟩ | ⟨rfl, i', j', hv, hp⟩
  · rcases hs' with ⟨rfl, hs'⟩ | ⟨rfl, i', j', hv, hp⟩
    · rfl
    · exact absurd hp (hs i' j' hv)
  · rcases hs' with ⟨rfl, hs'⟩ | ⟨rfl, _⟩
    · exact absurd hp (hs' i' j' hv)
    · rfl
/-! bits gathered -/
def rb_Or (g : Nat → Nat → Int32) (l0 l1 h1 i j : Nat) (s : Int32) : Prop := ∀ k, k < 32 → (bt s k = true ↔ ∃ i' j', rb_V l0 l1 h1 i j i' j' ∧ bt (g i' j') k = true)
theorem rb_Or_0 {g : Nat → Nat → Int32} {l0 l1 h1 : Nat} : rb_Or g l0 l1 h1 l0 l1 0 := by
  intro k hk
  rw [b_0]
  exact ⟨fun z => absurd z (by decide), fun ⟨i', j', hv, _⟩ => absurd hv rb_V_0⟩
theorem rb_Or_t {g : Nat → Nat → Int32} {l0 l1 h1 i j : Nat} {s : Int32} (hi : l0 ≤ i) (h1' : l1 ≤ j) (h2 : j ≤ h1) (h : rb_Or g l0 l1 h1 i j s) : rb_Or g l0 l1 h1 i (j + 1) (s ||| g i j) := by
  intro k hk
  rw [b_or, Bool.or_eq_true, h k hk]
  constructor
  · rintro (⟨i', j', hv, hb⟩ | hb)
    · exact ⟨i', j', rb_V_m hv, hb⟩
    · exact ⟨i, j, rb_V_h hi h1' h2, hb⟩
  · rintro ⟨i', j', hv, hb⟩
    rcases rb_V_s hv with hv | ⟨rfl, rfl⟩
    · exact Or.inl ⟨i', j', hv, hb⟩
    · exact Or.inr hb
theorem rb_Or_n {g : Nat → Nat → Int32} {l0 l1 h1 i : Nat} {s : Int32} (h : rb_Or g l0 l1 h1 i (h1 + 1) s) : rb_Or g l0 l1 h1 (i + 1) l1 s := by
  intro k hk
  rw [h k hk]
  exact ⟨fun ⟨i', j', hv, hb⟩ => ⟨i', j', rb_V_n' hv, hb⟩, fun ⟨i', j', hv, hb⟩ => ⟨i', j', rb_V_n hv, hb⟩⟩
theorem rb_Or_u {g : Nat → Nat → Int32} {l0 l1 h1 i j : Nat} {s s' : Int32} (h : rb_Or g l0 l1 h1 i j s) (h' : rb_Or g l0 l1 h1 i j s') : s = s' := by
  refine b_ext (fun k hk => ?_)
  rw [Bool.eq_iff_iff, h k hk, h' k hk]
theorem rb_bit (s : Int32) (k : Nat) (hk : k < 32) : (s >>> (nI k &&& 31)) &&& 1 = (s.toUInt32 >>> ((nI k).toUInt32 &&& Int32.toUInt32 31)).toInt32 &&& 1 := by
  refine b_ext (fun i hi => ?_)
  rw [b_and, b_and, b_sshr k hk s hi, b_ushr k hk s i]
  have h1 : ∀ i, i < 32 → 0 < i → bt 1 i = false := by decide +kernel
  rcases Nat.eq_zero_or_pos i with rfl | hp
  · rw [if_pos (by omega)]
  · rw [h1 i hi hp, Bool.and_false, Bool.and_false]
/-! the nearest -/
def rb_d (a b : Nat) : Nat := if a < b then b - a else a - b
def rb_dist (i j i' j' : Nat) : Nat := if rb_d j j' < rb_d i i' then rb_d i i' else rb_d j j'
def rb_Near (f : Nat → Nat → Int32) (lim : Int32) (i j d : Nat) : Prop := (∀ i' j', i' < 32 → j' < 32 → lim < f i' j' → d ≤ rb_dist i j i' j') ∧ ((d = 32) ∨ ∃ i' j', i' < 32 ∧ j' < 32 ∧ lim < f i' j' ∧ rb_dist i j i' j' = d)
theorem rb_dist_31 {i j i' j' : Nat} (h1 : i < 32) (h2 : j < 32) (h3 : i' < 32) (h4 : j' < 32) : rb_dist i j i' j' ≤ 31 := by
  unfold rb_dist rb_d
  repeat' split
  all_goals omega
theorem rb_Near_u {f : Nat → Nat → Int32} {lim : Int32} {i j d d' : Nat} (hi : i < 32) (hj : j < 32) (h : rb_Near f lim i j d) (h' : rb_Near f lim i j d') : d = d' := by
  obtain ⟨ha, hb⟩ := h
  obtain ⟨ha', hb'⟩ := h'
  rcases hb with rfl | ⟨p, q, hp, hq, hl, he⟩
  · rcases hb' with rfl | ⟨p', q', hp', hq', hl', he'⟩
    · rfl
    · have h1 := ha p' q' hp' hq' hl'
      have h2 := rb_dist_31 hi hj hp' hq'
      omega
  · rcases hb' with rfl | ⟨p', q', hp', hq', hl', he'⟩
    · have h1 := ha' p q hp hq hl
      have h2 := rb_dist_31 hi hj hp hq
      omega
    · have h1 := ha' p q hp hq hl
      have h2 := ha p' q' hp' hq' hl'
      omega
theorem rb_dist_box {i j i' j' r : Nat} (hi : i < 32) (hj : j < 32) (h3 : i' < 32) (h4 : j' < 32) : rb_dist i j i' j' ≤ r ↔ rb_Bx (i - r) (if i + r < 31 then i + r else 31) (j - r) (if j + r < 31 then j + r else 31) i' j' := by
  unfold rb_dist rb_d rb_Bx
  repeat' split
  all_goals omega
