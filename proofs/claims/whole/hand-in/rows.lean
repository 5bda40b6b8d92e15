section
theorem pk_us {f : Nat → Int32} {k : Nat} {x : Int32} : upd f k x k = x := if_pos rfl
theorem pk_un {f : Nat → Int32} {k j : Nat} {x : Int32} (h : j ≠ k) : upd f k x j = f j := if_neg h
theorem pk_sub {a b : Nat} (h : b ≤ a) : nI a - nI b = nI (a - b) := by
  obtain ⟨c, rfl⟩ : ∃ c, a = c + b := ⟨a - b, by omega⟩
  rw [← nI_add, Int32.add_sub_cancel, Nat.add_sub_cancel]
theorem pk_m1 (n : Nat) : nI (n + 1) + (-1) = nI n := by
  rw [← nI_1, Int32.add_assoc, show (1 : Int32) + (-1) = 0 from rfl, Int32.add_zero]
theorem pk_mul (a b : Nat) : nI a * nI b = nI (a * b) := (Int32.ofNat_mul a b).symm
theorem pk_div {a d : Nat} (ha : a < 2 ^ 31) (h0 : 0 < d) (hd : d < 2 ^ 31) : nI a / nI d = nI (a / d) := by
  apply Int32.toInt_inj.mp
  rw [lg_idiv_nonneg (by rw [nI_toInt ha]; omega) (by rw [nI_toInt hd]; omega), nI_toInt ha, nI_toInt hd, nI_toInt (Nat.lt_of_le_of_lt (Nat.div_le_self a d) ha)]
  first | rfl | exact (Int.natCast_ediv _ _).symm
theorem pk_rem {a d : Nat} (ha : a < 2 ^ 31) (h0 : 0 < d) (hd : d < 2 ^ 31) : nI a - nI a / nI d * nI d = nI (a % d) := by
  rw [pk_div ha h0 hd, pk_mul, pk_sub (Nat.div_mul_le_self a d)]
  exact congrArg nI (by have := Nat.div_add_mod' a d; omega)
theorem pk_in {x : Int32} (n N : Nat) (h : n < N) (hx : x = nI n := by rfl) (hN : N < 2 ^ 31 := by omega) : vp_in x N := by
  subst hx
  exact vp_in_nI h hN
theorem pk_cl {x : Int32} (n : Nat) (hx : x = nI n := by rfl) (h : n < 2 ^ 31 := by omega) : x.toNatClampNeg = n := by
  subst hx
  exact nI_clamp h
def bt (x : Int32) (i : Nat) : Bool := x.toBitVec.getLsbD i
theorem b_ext {x y : Int32} (h : ∀ i, i < 32 → bt x i = bt y i) : x = y := Int32.toBitVec_inj.mp (BitVec.eq_of_getLsbD_eq (fun i hi => h i hi))
theorem b_or (x y : Int32) (i : Nat) : bt (x ||| y) i = (bt x i || bt y i) := by unfold bt; rw [Int32.toBitVec_or, BitVec.getLsbD_or]
theorem b_and (x y : Int32) (i : Nat) : bt (x &&& y) i = (bt x i && bt y i) := by unfold bt; rw [Int32.toBitVec_and, BitVec.getLsbD_and]
theorem b_big {x : Int32} {i : Nat} (h : 32 ≤ i) : bt x i = false := BitVec.getLsbD_of_ge _ _ h
theorem b_0 (i : Nat) : bt 0 i = false := BitVec.getLsbD_zero
theorem s_l : ∀ n, n < 32 → ((nI n &&& 31).toBitVec.smod 32).toNat = n := by decide +kernel
theorem s_u : ∀ n, n < 32 → (((nI n).toUInt32 &&& Int32.toUInt32 31).toBitVec % 32).toNat = n := by decide +kernel
theorem b_ushr (n : Nat) (hn : n < 32) (x : Int32) (i : Nat) : bt ((x.toUInt32 >>> ((nI n).toUInt32 &&& Int32.toUInt32 31)).toInt32) i = bt x (n + i) := by
  show (x.toUInt32 >>> ((nI n).toUInt32 &&& Int32.toUInt32 31)).toBitVec.getLsbD i = x.toUInt32.toBitVec.getLsbD (n + i)
  rw [UInt32.toBitVec_shiftRight]
  show (x.toUInt32.toBitVec >>> (((nI n).toUInt32 &&& Int32.toUInt32 31).toBitVec % 32).toNat).getLsbD i = _
  rw [s_u n hn, BitVec.getLsbD_ushiftRight]
theorem b_sshr (n : Nat) (hn : n < 32) (x : Int32) {i : Nat} (hi : i < 32) : bt (x >>> (nI n &&& 31)) i = if n + i < 32 then bt x (n + i) else bt x 31 := by
  unfold bt
  rw [Int32.toBitVec_shiftRight]
  show (x.toBitVec.sshiftRight ((nI n &&& 31).toBitVec.smod 32).toNat).getLsbD i = _
  rw [s_l n hn, BitVec.getLsbD_sshiftRight, BitVec.msb_eq_getLsbD_last]
  simp [hi]
end
section
/-! what both sides compute, as functions of the numbers -/
def rb_clip (t : Int32) : Int32 := if 0 < t then t else 0
def rb_inn (a : Nat → Int32) (k : Nat) (x y : Int32) : Int32 := rb_clip (a (2 * k) * x + a (2 * k + 1) * y + a (6 + k))
def rb_sum (a : Nat → Int32) (k : Nat) (x y : Int32) : Nat → Int32
  | 0 => a (15 + k)
  | i + 1 => rb_sum a k x y i + a (9 + 3 * k + i) * rb_inn a i x y
def rb_out (a : Nat → Int32) (k : Nat) (x y : Int32) : Int32 := rb_clip (rb_sum a k x y 3)
def rb_res (a : Nat → Int32) (x y : Int32) : Int32 := a 17 * rb_out a 0 x y + a 18 * rb_out a 1 x y + a 19
def rb_unit (a : Nat → Int32) (u : Nat) (x y : Int32) : Int32 := if u < 3 then rb_inn a u x y else rb_out a (u - 3) x y
def rb_pat (a : Nat → Int32) (x y : Int32) : Nat → Int32
  | 0 => 0
  | u + 1 => if 0 < rb_unit a u x y then rb_pat a x y u ||| ((1 : Int32) <<< (nI u &&& 31)) else rb_pat a x y u
def rb_cnt (s : Int32) : Nat → Int32
  | 0 => 0
  | k + 1 => rb_cnt s k + ((s.toUInt32 >>> ((nI k).toUInt32 &&& Int32.toUInt32 31)).toInt32 &&& 1)
/-! bounds -/
def rb_B (x : Int32) (n : Nat) : Prop := x.toInt.natAbs ≤ n
theorem rb_B_add {x y : Int32} {m n : Nat} (hx : rb_B x m) (hy : rb_B y n) (h : m + n < 2 ^ 31) : rb_B (x + y) (m + n) := by
  unfold rb_B at *
  rw [Int32.toInt_add, Int.bmod_eq_of_le (by omega) (by omega)]
  omega
theorem rb_B_mul {x y : Int32} {m n : Nat} (hx : rb_B x m) (hy : rb_B y n) (h : m * n < 2 ^ 31) : rb_B (x * y) (m * n) := by
  unfold rb_B at *
  have h1 : (x.toInt * y.toInt).natAbs ≤ m * n := by
    rw [Int.natAbs_mul]
    exact Nat.mul_le_mul hx hy
  rw [Int32.toInt_mul]
  generalize x.toInt * y.toInt = p at *
  generalize m * n = q at *
  rw [Int.bmod_eq_of_le (by omega) (by omega)]
  exact h1
theorem rb_B_mono {x : Int32} {m n : Nat} (hx : rb_B x m) (h : m ≤ n) : rb_B x n := Nat.le_trans hx h
theorem rb_B_0 (n : Nat) : rb_B 0 n := by
  have h : (0 : Int32).toInt = 0 := by decide
  unfold rb_B
  rw [h]
  exact Nat.zero_le n
theorem rb_B_clip {x : Int32} {n : Nat} (hx : rb_B x n) : rb_B (rb_clip x) n := by
  unfold rb_clip
  split
  · exact hx
  · exact rb_B_0 n
def rb_cap (p : Nat) : Nat := if (5 < p ∧ p < 9) ∨ p = 15 ∨ p = 16 ∨ p = 19 then 50 else 5
def rb_Ok (a : Nat → Int32) : Prop := ∀ p, p < 20 → rb_B (a p) (rb_cap p)
theorem rb_cap5 {p : Nat} (h : ¬ ((5 < p ∧ p < 9) ∨ p = 15 ∨ p = 16 ∨ p = 19)) : rb_cap p = 5 := if_neg h
theorem rb_cap50 {p : Nat} (h : (5 < p ∧ p < 9) ∨ p = 15 ∨ p = 16 ∨ p = 19) : rb_cap p = 50 := if_pos h
theorem rb_a5 {a : Nat → Int32} (h : rb_Ok a) (p : Nat) (hp : p < 20) (hc : ¬ ((5 < p ∧ p < 9) ∨ p = 15 ∨ p = 16 ∨ p = 19)) : rb_B (a p) 5 := rb_cap5 hc ▸ h p hp
theorem rb_a50 {a : Nat → Int32} (h : rb_Ok a) (p : Nat) (hp : p < 20) (hc : (5 < p ∧ p < 9) ∨ p = 15 ∨ p = 16 ∨ p = 19) : rb_B (a p) 50 := rb_cap50 hc ▸ h p hp
theorem rb_innB {a : Nat → Int32} (h : rb_Ok a) {k : Nat} (hk : k < 3) {x y : Int32} (hx : rb_B x 16) (hy : rb_B y 16) : rb_B (rb_inn a k x y) 210 :=
  rb_B_clip (rb_B_add (m := 160) (n := 50) (rb_B_add (m := 80) (n := 80) (rb_B_mul (m := 5) (n := 16) (rb_a5 h _ (by omega) (by omega)) hx (by decide)) (rb_B_mul (m := 5) (n := 16) (rb_a5 h _ (by omega) (by omega)) hy (by decide)) (by decide)) (rb_a50 h _ (by omega) (by omega)) (by decide))
theorem rb_sumB {a : Nat → Int32} (h : rb_Ok a) {k : Nat} (hk : k < 2) {x y : Int32} (hx : rb_B x 16) (hy : rb_B y 16) : ∀ i, i ≤ 3 → rb_B (rb_sum a k x y i) (50 + 1050 * i) := by
  intro i
  induction i with
  | zero => exact fun _ => rb_a50 h _ (by omega) (by omega)
  | succ i ih =>
    intro hi
    have h1 : rb_B (a (9 + 3 * k + i) * rb_inn a i x y) 1050 := rb_B_mul (m := 5) (n := 210) (rb_a5 h _ (by omega) (by omega)) (rb_innB h (by omega) hx hy) (by decide)
    have h2 := rb_B_add (ih (by omega)) h1 (by omega)
    exact rb_B_mono h2 (by omega)
theorem rb_outB {a : Nat → Int32} (h : rb_Ok a) {k : Nat} (hk : k < 2) {x y : Int32} (hx : rb_B x 16) (hy : rb_B y 16) : rb_B (rb_out a k x y) 3200 :=
  rb_B_clip (rb_sumB h hk hx hy 3 (Nat.le_refl 3))
theorem rb_resB {a : Nat → Int32} (h : rb_Ok a) {x y : Int32} (hx : rb_B x 16) (hy : rb_B y 16) : rb_B (rb_res a x y) 32050 :=
  rb_B_add (m := 32000) (n := 50) (rb_B_add (m := 16000) (n := 16000) (rb_B_mul (m := 5) (n := 3200) (rb_a5 h 17 (by omega) (by omega)) (rb_outB h (by omega) hx hy) (by decide)) (rb_B_mul (m := 5) (n := 3200) (rb_a5 h 18 (by omega) (by omega)) (rb_outB h (by omega) hx hy) (by decide)) (by decide)) (rb_a50 h 19 (by omega) (by omega)) (by decide)
/-! inputs by their index: -16 is 0, 15 is 31 -/
def rb_x (i : Nat) : Int32 := nI i + (-16)
theorem rb_x_T {i : Nat} (h : i < 2 ^ 20) : (rb_x i).toInt = (i : Int) - 16 := by
  unfold rb_x
  rw [Int32.toInt_add, nI_toInt (by omega), show (-16 : Int32).toInt = -16 from by decide, Int.bmod_eq_of_le (by omega) (by omega)]
  omega
theorem rb_x_s (i : Nat) : nI i - 16 = rb_x i := Int32.sub_eq_add_neg _ _
theorem rb_x_le {i j : Nat} (hi : i < 2 ^ 20) (hj : j < 2 ^ 20) : rb_x i ≤ rb_x j ↔ i ≤ j := by
  rw [Int32.le_iff_toInt_le, rb_x_T hi, rb_x_T hj]
  omega
theorem rb_x_lt {i j : Nat} (hi : i < 2 ^ 20) (hj : j < 2 ^ 20) : rb_x i < rb_x j ↔ i < j := by
  rw [Int32.lt_iff_toInt_lt, rb_x_T hi, rb_x_T hj]
  omega
theorem rb_x_1 (i : Nat) : rb_x i + 1 = rb_x (i + 1) := by
  unfold rb_x
  rw [nI_succ]
  grind
theorem rb_x_B {i : Nat} (h : i < 32) : rb_B (rb_x i) 16 := by
  unfold rb_B
  rw [rb_x_T (by omega)]
  omega
theorem rb_x_of {x : Int32} (h1 : ¬ x < -16) (h2 : ¬ 15 < x) : ∃ i, i < 32 ∧ x = rb_x i := by
  rw [Int32.lt_iff_toInt_lt] at h1 h2
  have e1 : (-16 : Int32).toInt = -16 := by decide
  have e2 : (15 : Int32).toInt = 15 := by decide
  rw [e1] at h1
  rw [e2] at h2
  refine ⟨(x.toInt + 16).toNat, by omega, Int32.toInt_inj.mp ?_⟩
  rw [rb_x_T (by omega)]
  omega
theorem rb_x_ge16 {i : Nat} (h : i < 2 ^ 20) : ¬ rb_x i < -16 := by
  rw [Int32.lt_iff_toInt_lt, rb_x_T h, show (-16 : Int32).toInt = -16 from by decide]
  omega
theorem rb_x_le15 {i : Nat} (h : i < 32) : ¬ 15 < rb_x i := by
  rw [Int32.lt_iff_toInt_lt, rb_x_T (by omega), show (15 : Int32).toInt = 15 from by decide]
  omega
theorem rb_lit0 : rb_x 0 = -16 := by decide
theorem rb_lit31 : rb_x 31 = 15 := by decide
theorem rb_pairX (i j : Nat) : 32 * (rb_x i - (-16)) + (rb_x j - (-16)) = nI (32 * i + j) := by
  have e : nI (32 * i + j) = 32 * nI i + nI j := by
    rw [← nI_add, ← pk_mul]
    rfl
  rw [e]
  unfold rb_x
  grind
theorem rb_pairY (i j : Nat) : 32 * (rb_x i + 16) + rb_x j + 16 = nI (32 * i + j) := by
  have e : nI (32 * i + j) = 32 * nI i + nI j := by
    rw [← nI_add, ← pk_mul]
    rfl
  rw [e]
  unfold rb_x
  grind
/-! two loops, one in the other -/
theorem rb_nest {σ : Type} (O : Nat → Nat → σ → Prop) (N : Nat → Nat → Nat → Nat → σ → Prop) (I : Nat → Nat → σ → Prop) (l0 h0 l1 h1 : Nat) (hl1 : l1 ≤ h1 + 1)
    (ox : ∀ n s, I (h0 + 1) l1 s → O (n + 1) (h0 + 1) s)
    (os : ∀ n i s, l0 ≤ i → i ≤ h0 → (∃ m, N n i m l1 s) → O (n + 1) i s)
    (nx : ∀ n i m s, l0 ≤ i → i ≤ h0 → O n (i + 1) s → N n i (m + 1) (h1 + 1) s)
    (ns : ∀ n i m j s, l0 ≤ i → i ≤ h0 → l1 ≤ j → j ≤ h1 → I i j s → (∀ s', I i (j + 1) s' → N n i m (j + 1) s') → N n i (m + 1) j s)
    (hI : ∀ i s, l0 ≤ i → i ≤ h0 → I i (h1 + 1) s → I (i + 1) l1 s) :
    ∀ d i s, i + d = h0 + 1 → l0 ≤ i → I i l1 s → O (d + 1) i s := by
  intro d
  induction d with
  | zero =>
    intro i s hd _ h
    obtain rfl : i = h0 + 1 := by omega
    exact ox 0 s h
  | succ d ih =>
    intro i s hd hi h
    refine os (d + 1) i s hi (by omega) ⟨(h1 + 1 - l1) + 1, ?_⟩
    have key : ∀ e j s, j + e = h1 + 1 → l1 ≤ j → I i j s → N (d + 1) i (e + 1) j s := by
      intro e
      induction e with
      | zero =>
        intro j s he _ h
        obtain rfl : j = h1 + 1 := by omega
        exact nx _ _ _ _ hi (by omega) (ih (i + 1) s (by omega) (by omega) (hI i s hi (by omega) h))
      | succ e ihe =>
        intro j s he hj h
        exact ns _ _ _ _ _ hi (by omega) hj (by omega) h (fun s' h' => ihe (j + 1) s' (by omega) (by omega) h')
    exact key _ l1 s (by omega) (Nat.le_refl _) h
def rb_V (l0 l1 h1 i j i' j' : Nat) : Prop := l0 ≤ i' ∧ l1 ≤ j' ∧ j' ≤ h1 ∧ (i' < i ∨ (i' = i ∧ j' < j))
def rb_Bx (l0 h0 l1 h1 i j : Nat) : Prop := l0 ≤ i ∧ i ≤ h0 ∧ l1 ≤ j ∧ j ≤ h1
theorem rb_V_0 {l0 l1 h1 i' j' : Nat} : ¬ rb_V l0 l1 h1 l0 l1 i' j' := by
  unfold rb_V
  omega
theorem rb_V_n {l0 l1 h1 i i' j' : Nat} (h : rb_V l0 l1 h1 (i + 1) l1 i' j') : rb_V l0 l1 h1 i (h1 + 1) i' j' := by
  unfold rb_V at *
  omega
theorem rb_V_n' {l0 l1 h1 i i' j' : Nat} (h : rb_V l0 l1 h1 i (h1 + 1) i' j') : rb_V l0 l1 h1 (i + 1) l1 i' j' := by
  unfold rb_V at *
  omega
theorem rb_V_s {l0 l1 h1 i j i' j' : Nat} (h : rb_V l0 l1 h1 i (j + 1) i' j') : rb_V l0 l1 h1 i j i' j' ∨ (i' = i ∧ j' = j) := by
  unfold rb_V at *
  omega
theorem rb_V_m {l0 l1 h1 i j i' j' : Nat} (h : rb_V l0 l1 h1 i j i' j') : rb_V l0 l1 h1 i (j + 1) i' j' := by
  unfold rb_V at *
  omega
theorem rb_V_h {l0 l1 h1 i j : Nat} (hi : l0 ≤ i) (h1' : l1 ≤ j) (h2 : j ≤ h1) : rb_V l0 l1 h1 i (j + 1) i j := by
  unfold rb_V
  omega
theorem rb_V_e {l0 h0 l1 h1 i j : Nat} (h : rb_Bx l0 h0 l1 h1 i j) : rb_V l0 l1 h1 (h0 + 1) l1 i j := by
  unfold rb_V rb_Bx at *
  omega
theorem rb_V_e' {l0 h0 l1 h1 i j : Nat} (h : rb_V l0 l1 h1 (h0 + 1) l1 i j) : rb_Bx l0 h0 l1 h1 i j := by
  unfold rb_V rb_Bx at *
  omega
/-! the greatest by a key -/
section
variable (κ : Int32 → Int) (f : Nat → Nat → Int32) (l0 h0 l1 h1 : Nat)
def rb_Max (g : Int32) : Prop := (∀ i j, rb_Bx l0 h0 l1 h1 i j → κ (f i j) ≤ κ g) ∧ ∃ i j, rb_Bx l0 h0 l1 h1 i j ∧ f i j = g
def rb_mI (c : Int32) (i j : Nat) (g : Int32) : Prop := (∀ i' j', rb_V l0 l1 h1 i j i' j' → κ (f i' j') ≤ κ g) ∧ (g = c ∨ ∃ i' j', rb_Bx l0 h0 l1 h1 i' j' ∧ f i' j' = g)
end
theorem rb_Max_u {κ : Int32 → Int} {f : Nat → Nat → Int32} {l0 h0 l1 h1 : Nat} {g g' : Int32} (hk : ∀ x y, κ x = κ y → x = y) (h : rb_Max κ f l0 h0 l1 h1 g) (h' : rb_Max κ f l0 h0 l1 h1 g') : g = g' := by
  obtain ⟨ha, i, j, hb, rfl⟩ := h
  obtain ⟨hc, i', j', hd, rfl⟩ := h'
  exact hk _ _ (Int.le_antisymm (hc i j hb) (ha i' j' hd))
theorem rb_mI_0 {κ : Int32 → Int} {f : Nat → Nat → Int32} {l0 h0 l1 h1 : Nat} (c : Int32) : rb_mI κ f l0 h0 l1 h1 c l0 l1 c := ⟨fun _ _ h => absurd h rb_V_0, Or.inl rfl⟩
theorem rb_mI_t {κ : Int32 → Int} {f : Nat → Nat → Int32} {l0 h0 l1 h1 : Nat} {c g : Int32} {i j : Nat} (h : rb_mI κ f l0 h0 l1 h1 c i j g) (hb : rb_Bx l0 h0 l1 h1 i j) (hg : κ g ≤ κ (f i j)) : rb_mI κ f l0 h0 l1 h1 c i (j + 1) (f i j) := by
  refine ⟨fun i' j' hv => ?_, Or.inr ⟨i, j, hb, rfl⟩⟩
  rcases rb_V_s hv with hv | ⟨rfl, rfl⟩
  · exact Int.le_trans (h.1 i' j' hv) hg
  · exact Int.le_refl _
theorem rb_mI_k {κ : Int32 → Int} {f : Nat → Nat → Int32} {l0 h0 l1 h1 : Nat} {c g : Int32} {i j : Nat} (h : rb_mI κ f l0 h0 l1 h1 c i j g) (hg : κ (f i j) ≤ κ g) : rb_mI κ f l0 h0 l1 h1 c i (j + 1) g := by
  refine ⟨fun i' j' hv => ?_, h.2⟩
  rcases rb_V_s hv with hv | ⟨rfl, rfl⟩
  · exact h.1 i' j' hv
  · exact hg
theorem rb_mI_n {κ : Int32 → Int} {f : Nat → Nat → Int32} {l0 h0 l1 h1 : Nat} {c g : Int32} {i : Nat} (h : rb_mI κ f l0 h0 l1 h1 c i (h1 + 1) g) : rb_mI κ f l0 h0 l1 h1 c (i + 1) l1 g := ⟨fun i' j' hv => h.1 i' j' (rb_V_n hv), h.2⟩
theorem rb_mI_e {κ : Int32 → Int} {f : Nat → Nat → Int32} {l0 h0 l1 h1 : Nat} {c g : Int32} (h : rb_mI κ f l0 h0 l1 h1 c (h0 + 1) l1 g) (hc : ∃ i j, rb_Bx l0 h0 l1 h1 i j ∧ (f i j = c ∨ κ c < κ (f i j))) : rb_Max κ f l0 h0 l1 h1 g := by
  refine ⟨fun i j hb => h.1 i j (rb_V_e hb), ?_⟩
  rcases h.2 with rfl | h2
  · obtain ⟨i, j, hb, hc⟩ := hc
    rcases hc with hc | hc
    · exact ⟨i, j, hb, hc⟩
    · have := h.1 i j (rb_V_e hb)
      omega
  · exact h2
/-! the first above a limit -/
def rb_First (f : Nat → Nat → Int32) (lim : Int32) (l0 h0 l1 h1 : Nat) (r : Int32) : Prop :=
  (∃ i j, rb_Bx l0 h0 l1 h1 i j ∧ lim < f i j ∧ (∀ i' j', rb_V l0 l1 h1 i j i' j' → ¬ lim < f i' j') ∧ r = nI (32 * i + j)) ∨ ((∀ i j, rb_Bx l0 h0 l1 h1 i j → ¬ lim < f i j) ∧ r = -2)
theorem rb_First_u {f : Nat → Nat → Int32} {lim : Int32} {l0 h0 l1 h1 : Nat} {r r' : Int32} (h : rb_First f lim l0 h0 l1 h1 r) (h' : rb_First f lim l0 h0 l1 h1 r') : r = r' := by
  rcases h with ⟨i, j, hb, hf, hv, rfl⟩ | ⟨hn, rfl⟩
  · rcases h' with ⟨i', j', hb', hf', hv', rfl⟩ | ⟨hn', rfl⟩
    · have w1 : ¬ rb_V l0 l1 h1 i j i' j' := fun z => hv _ _ z hf'
      have w2 : ¬ rb_V l0 l1 h1 i' j' i j := fun z => hv' _ _ z hf
      unfold rb_V at w1 w2
      unfold rb_Bx at hb hb'
      have e : i = i' ∧ j = j' := by omega
      rw [e.1, e.2]
    · exact absurd hf (hn' i j hb)
  · rcases h' with ⟨i', j', hb', hf', _, rfl⟩ | ⟨_, rfl⟩
    · exact absurd hf' (hn i' j' hb')
    · rfl
theorem rb_First_neg {f : Nat → Nat → Int32} {lim : Int32} {l0 h0 l1 h1 : Nat} {r : Int32} (hh0 : h0 < 32) (hh1 : h1 < 32) (h : rb_First f lim l0 h0 l1 h1 r) : r < 0 ↔ ∀ i j, rb_Bx l0 h0 l1 h1 i j → ¬ lim < f i j := by
  rcases h with ⟨i, j, hb, hf, hv, rfl⟩ | ⟨hn, rfl⟩
  · have hb2 := hb
    unfold rb_Bx at hb2
    exact ⟨fun z => absurd z (nI_pos (by omega)), fun z => absurd hf (z i j hb)⟩
  · exact ⟨fun _ => hn, fun _ => by decide⟩
/-! which of two things was seen -/
def rb_Seen (P : Nat → Nat → Prop) (l0 l1 h1 i j : Nat) (s : Int32) : Prop := (s = 0 ∧ ∀ i' j', rb_V l0 l1 h1 i j i' j' → ¬ P i' j') ∨ (s = 1 ∧ ∃ i' j', rb_V l0 l1 h1 i j i' j' ∧ P i' j')
theorem rb_Seen_0 {P : Nat → Nat → Prop} {l0 l1 h1 : Nat} : rb_Seen P l0 l1 h1 l0 l1 0 := Or.inl ⟨rfl, fun _ _ h => absurd h rb_V_0⟩
theorem rb_Seen_t {P : Nat → Nat → Prop} {l0 l1 h1 i j : Nat} (hi : l0 ≤ i) (h1' : l1 ≤ j) (h2 : j ≤ h1) (h : P i j) : rb_Seen P l0 l1 h1 i (j + 1) 1 := Or.inr ⟨rfl, i, j, rb_V_h hi h1' h2, h⟩
theorem rb_Seen_k {P : Nat → Nat → Prop} {l0 l1 h1 i j : Nat} {s : Int32} (hs : rb_Seen P l0 l1 h1 i j s) (h : ¬ P i j) : rb_Seen P l0 l1 h1 i (j + 1) s := by
  rcases hs with ⟨rfl, hs⟩ | ⟨rfl, i', j', hv, hp⟩
  · refine Or.inl ⟨rfl, fun i' j' hv => ?_⟩
    rcases rb_V_s hv with hv | ⟨rfl, rfl⟩
    · exact hs i' j' hv
    · exact h
  · exact Or.inr ⟨rfl, i', j', rb_V_m hv, hp⟩
theorem rb_Seen_n {P : Nat → Nat → Prop} {l0 l1 h1 i : Nat} {s : Int32} (hs : rb_Seen P l0 l1 h1 i (h1 + 1) s) : rb_Seen P l0 l1 h1 (i + 1) l1 s := by
  rcases hs with ⟨rfl, hs⟩ | ⟨rfl, i', j', hv, hp⟩
  · exact Or.inl ⟨rfl, fun i' j' hv => hs i' j' (rb_V_n hv)⟩
  · exact Or.inr ⟨rfl, i', j', rb_V_n' hv, hp⟩
theorem rb_Seen_u {P : Nat → Nat → Prop} {l0 l1 h1 i j : Nat} {s s' : Int32} (hs : rb_Seen P l0 l1 h1 i j s) (hs' : rb_Seen P l0 l1 h1 i j s') : s = s' := by
  rcases hs with ⟨rfl, hs⟩ | ⟨rfl, i', j', hv, hp⟩
  · rcases hs' with ⟨rfl, hs'⟩ | ⟨rfl, i', j', hv, hp⟩
    · rfl
    · exact absurd hp (hs i' j' hv)
  · rcases hs' with ⟨rfl, hs'⟩ | ⟨rfl, _⟩
    · exact absurd hp (hs' i' j' hv)
    · rfl
/-! bits gathered -/
def rb_Or (g : Nat → Nat → Int32) (l0 l1 h1 i j : Nat) (s : Int32) : Prop := ∀ k, k < 32 → (bt s k = true ↔ ∃ i' j', rb_V l0 l1 h1 i j i' j' ∧ bt (g i' j') k = true)
theorem rb_Or_0 {g : Nat → Nat → Int32} {l0 l1 h1 : Nat} : rb_Or g l0 l1 h1 l0 l1 0 := by
  intro k hk
  rw [b_0]
  exact ⟨fun z => absurd z (by decide), fun ⟨i', j', hv, _⟩ => absurd hv rb_V_0⟩
theorem rb_Or_t {g : Nat → Nat → Int32} {l0 l1 h1 i j : Nat} {s : Int32} (hi : l0 ≤ i) (h1' : l1 ≤ j) (h2 : j ≤ h1) (h : rb_Or g l0 l1 h1 i j s) : rb_Or g l0 l1 h1 i (j + 1) (s ||| g i j) := by
  intro k hk
  rw [b_or, Bool.or_eq_true, h k hk]
  constructor
  · rintro (⟨i', j', hv, hb⟩ | hb)
    · exact ⟨i', j', rb_V_m hv, hb⟩
    · exact ⟨i, j, rb_V_h hi h1' h2, hb⟩
  · rintro ⟨i', j', hv, hb⟩
    rcases rb_V_s hv with hv | ⟨rfl, rfl⟩
    · exact Or.inl ⟨i', j', hv, hb⟩
    · exact Or.inr hb
theorem rb_Or_n {g : Nat → Nat → Int32} {l0 l1 h1 i : Nat} {s : Int32} (h : rb_Or g l0 l1 h1 i (h1 + 1) s) : rb_Or g l0 l1 h1 (i + 1) l1 s := by
  intro k hk
  rw [h k hk]
  exact ⟨fun ⟨i', j', hv, hb⟩ => ⟨i', j', rb_V_n' hv, hb⟩, fun ⟨i', j', hv, hb⟩ => ⟨i', j', rb_V_n hv, hb⟩⟩
theorem rb_Or_u {g : Nat → Nat → Int32} {l0 l1 h1 i j : Nat} {s s' : Int32} (h : rb_Or g l0 l1 h1 i j s) (h' : rb_Or g l0 l1 h1 i j s') : s = s' := by
  refine b_ext (fun k hk => ?_)
  rw [Bool.eq_iff_iff, h k hk, h' k hk]
theorem rb_bit (s : Int32) (k : Nat) (hk : k < 32) : (s >>> (nI k &&& 31)) &&& 1 = (s.toUInt32 >>> ((nI k).toUInt32 &&& Int32.toUInt32 31)).toInt32 &&& 1 := by
  refine b_ext (fun i hi => ?_)
  rw [b_and, b_and, b_sshr k hk s hi, b_ushr k hk s i]
  have h1 : ∀ i, i < 32 → 0 < i → bt 1 i = false := by decide +kernel
  rcases Nat.eq_zero_or_pos i with rfl | hp
  · rw [if_pos (by omega)]
  · rw [h1 i hi hp, Bool.and_false, Bool.and_false]
/-! the nearest -/
def rb_d (a b : Nat) : Nat := if a < b then b - a else a - b
def rb_dist (i j i' j' : Nat) : Nat := if rb_d j j' < rb_d i i' then rb_d i i' else rb_d j j'
def rb_Near (f : Nat → Nat → Int32) (lim : Int32) (i j d : Nat) : Prop := (∀ i' j', i' < 32 → j' < 32 → lim < f i' j' → d ≤ rb_dist i j i' j') ∧ ((d = 32) ∨ ∃ i' j', i' < 32 ∧ j' < 32 ∧ lim < f i' j' ∧ rb_dist i j i' j' = d)
theorem rb_dist_31 {i j i' j' : Nat} (h1 : i < 32) (h2 : j < 32) (h3 : i' < 32) (h4 : j' < 32) : rb_dist i j i' j' ≤ 31 := by
  unfold rb_dist rb_d
  repeat' split
  all_goals omega
theorem rb_Near_u {f : Nat → Nat → Int32} {lim : Int32} {i j d d' : Nat} (hi : i < 32) (hj : j < 32) (h : rb_Near f lim i j d) (h' : rb_Near f lim i j d') : d = d' := by
  obtain ⟨ha, hb⟩ := h
  obtain ⟨ha', hb'⟩ := h'
  rcases hb with rfl | ⟨p, q, hp, hq, hl, he⟩
  · rcases hb' with rfl | ⟨p', q', hp', hq', hl', he'⟩
    · rfl
    · have h1 := ha p' q' hp' hq' hl'
      have h2 := rb_dist_31 hi hj hp' hq'
      omega
  · rcases hb' with rfl | ⟨p', q', hp', hq', hl', he'⟩
    · have h1 := ha' p q hp hq hl
      have h2 := rb_dist_31 hi hj hp hq
      omega
    · have h1 := ha' p q hp hq hl
      have h2 := ha p' q' hp' hq' hl'
      omega
theorem rb_dist_box {i j i' j' r : Nat} (hi : i < 32) (hj : j < 32) (h3 : i' < 32) (h4 : j' < 32) : rb_dist i j i' j' ≤ r ↔ rb_Bx (i - r) (if i + r < 31 then i + r else 31) (j - r) (if j + r < 31 then j + r else 31) i' j' := by
  unfold rb_dist rb_d rb_Bx
  repeat' split
  all_goals omega
end
section
theorem rb_div32 {n : Nat} (h : n < 1024) : nI n / 32 = nI (n / 32) := pk_div (d := 32) (by omega) (by decide) (by decide)
theorem rb_rem32 {n : Nat} (h : n < 1024) : nI n - nI n / 32 * 32 = nI (n % 32) := pk_rem (d := 32) (by omega) (by decide) (by decide)
def rb_Iv (x : Int32) (l h : Nat) : Prop := ∃ n, n < 1024 ∧ x = nI n ∧ l = n / 32 ∧ h = n % 32 ∧ l ≤ h
def rb_Nv (x : Int32) : Prop := x < 0 ∨ 1023 < x ∨ (∃ n, n < 1024 ∧ x = nI n ∧ n % 32 < n / 32)
theorem rb_iv (x : Int32) : (∃ l h, rb_Iv x l h) ∨ rb_Nv x := by
  by_cases h0 : x < 0
  · exact Or.inr (Or.inl h0)
  · obtain ⟨n, hn, rfl⟩ := nI_of h0
    by_cases h1 : n < 1024
    · by_cases h2 : n / 32 ≤ n % 32
      · exact Or.inl ⟨_, _, n, h1, rfl, rfl, rfl, h2⟩
      · exact Or.inr (Or.inr (Or.inr ⟨n, h1, rfl, by omega⟩))
    · exact Or.inr (Or.inr (Or.inl (nI_lt (a := 1023) (by omega) hn)))
theorem rb_Iv_le {x : Int32} {l h : Nat} (hv : rb_Iv x l h) : l ≤ h ∧ h < 32 := by
  obtain ⟨n, hn, _, rfl, rfl, hl⟩ := hv
  omega
theorem rb_x_sub {i j : Nat} (h : j ≤ i) : rb_x i - rb_x j = nI (i - j) := by
  rw [← pk_sub h]
  unfold rb_x
  grind
theorem rb_x_subN {i r : Nat} (h : r ≤ i) : rb_x i - nI r = rb_x (i - r) := by
  unfold rb_x
  rw [← pk_sub h]
  grind
theorem rb_x_addN (i r : Nat) : rb_x i + nI r = rb_x (i + r) := by
  unfold rb_x
  rw [← nI_add]
  grind
theorem rb_lowc {i r : Nat} (hi : i < 32) (hr : r < 33) : rb_x i - nI r < -16 ↔ i < r := by
  rw [Int32.lt_iff_toInt_lt, Int32.toInt_sub, rb_x_T (by omega), nI_toInt (by omega), show (-16 : Int32).toInt = -16 from by decide, Int.bmod_eq_of_le (by omega) (by omega)]
  omega
theorem rb_highc {i r : Nat} (hi : i < 32) (hr : r < 33) : 15 < rb_x i + nI r ↔ 31 < i + r := by
  rw [rb_x_addN, ← rb_lit31, rb_x_lt (by omega) (by omega)]
/-! the numbers that a sow lays -/
theorem rb_mod41 {N : Nat} (h : N < 2 ^ 31) : rb_B (nI N - nI N / 41 * 41 - 20) 50 := by
  have e : nI N - nI N / 41 * 41 = nI (N % 41) := pk_rem (d := 41) h (by decide) (by decide)
  rw [e]
  unfold rb_B
  rw [Int32.toInt_sub, nI_toInt (by omega), show (20 : Int32).toInt = 20 from by decide, Int.bmod_eq_of_le (by omega) (by omega)]
  omega
theorem rb_mod11 {N : Nat} (h : N < 2 ^ 31) : rb_B (nI N - nI N / 11 * 11 - 5) 5 := by
  have e : nI N - nI N / 11 * 11 = nI (N % 11) := pk_rem (d := 11) h (by decide) (by decide)
  rw [e]
  unfold rb_B
  rw [Int32.toInt_sub, nI_toInt (by omega), show (5 : Int32).toInt = 5 from by decide, Int.bmod_eq_of_le (by omega) (by omega)]
  omega
def rb_so (s b p : Nat) : Nat := s * 7 + 5 * p + b * p
def rb_sf (s b p : Nat) : Nat := s + 3 * p + p * p * b
theorem rb_so_e (s b p : Nat) : nI s * 7 + 5 * nI p + nI b * nI p = nI (rb_so s b p) := by
  unfold rb_so
  rw [← nI_add, ← nI_add, ← pk_mul, ← pk_mul, ← pk_mul]
  rfl
theorem rb_sf_e (s b p : Nat) : nI s + 3 * nI p + nI p * nI p * nI b = nI (rb_sf s b p) := by
  unfold rb_sf
  rw [← nI_add, ← nI_add, ← pk_mul, ← pk_mul, ← pk_mul]
  rfl
theorem rb_so_b {s b p : Nat} (hs : s ≤ 100) (hb : b ≤ 20) (hp : p < 20) : rb_so s b p < 2 ^ 31 := by
  unfold rb_so
  have h1 : b * p ≤ 20 * 20 := Nat.mul_le_mul hb (by omega)
  omega
theorem rb_sf_b {s b p : Nat} (hs : s ≤ 100) (hb : b ≤ 20) (hp : p < 20) : rb_sf s b p < 2 ^ 31 := by
  unfold rb_sf
  have h1 : p * p ≤ 20 * 20 := Nat.mul_le_mul (by omega) (by omega)
  have h2 : p * p * b ≤ 20 * 20 * 20 := Nat.mul_le_mul h1 hb
  omega
/-- the number at place p after a sow -/
def rb_sv (s b p : Nat) : Int32 := if (5 < p ∧ p < 9) ∨ p = 15 ∨ p = 16 ∨ p = 19 then nI (rb_so s b p) - nI (rb_so s b p) / 41 * 41 - 20 else nI (rb_sf s b p) - nI (rb_sf s b p) / 11 * 11 - 5
theorem rb_svB {s b p : Nat} (hs : s ≤ 100) (hb : b ≤ 20) (hp : p < 20) : rb_B (rb_sv s b p) (rb_cap p) := by
  unfold rb_sv rb_cap
  split
  · exact rb_mod41 (rb_so_b hs hb hp)
  · exact rb_mod11 (rb_sf_b hs hb hp)
def rb_sow (a : Nat → Int32) (s b : Nat) : Nat → Nat → Int32
  | 0 => a
  | p + 1 => upd (rb_sow a s b p) p (rb_sv s b p)
theorem rb_Ok_upd {a : Nat → Int32} {p : Nat} {x : Int32} (h : rb_Ok a) (hx : rb_B x (rb_cap p)) : rb_Ok (upd a p x) := by
  intro q hq
  by_cases e : q = p
  · subst e
    rw [pk_us]
    exact hx
  · rw [pk_un e]
    exact h q hq
theorem rb_sowOk {a : Nat → Int32} {s b : Nat} (h : rb_Ok a) (hs : s ≤ 100) (hb : b ≤ 20) : ∀ p, p ≤ 20 → rb_Ok (rb_sow a s b p) := by
  intro p
  induction p with
  | zero => exact fun _ => h
  | succ p ih => exact fun hp => rb_Ok_upd (ih (by omega)) (rb_svB hs hb (by omega))
/-! the nearest pair above the limit, as the double loop finds it -/
def rb_nI (f : Nat → Nat → Int32) (lim : Int32) (p q i j : Nat) (s : Int32) : Prop :=
  ∃ d, s = nI d ∧ d ≤ 32 ∧ (∀ i' j', rb_V 0 0 31 i j i' j' → lim < f i' j' → d ≤ rb_dist p q i' j') ∧ (d = 32 ∨ ∃ i' j', i' < 32 ∧ j' < 32 ∧ lim < f i' j' ∧ rb_dist p q i' j' = d)
theorem rb_nI_0 {f : Nat → Nat → Int32} {lim : Int32} {p q : Nat} : rb_nI f lim p q 0 0 32 := ⟨32, rfl, by omega, fun _ _ h => absurd h rb_V_0, Or.inl rfl⟩
theorem rb_nI_t {f : Nat → Nat → Int32} {lim : Int32} {p q i j d : Nat} (hp : p < 32) (hq : q < 32) (hi : i < 32) (hj : j < 32) (h : rb_nI f lim p q i j (nI d)) (hd : d ≤ 32) (hl : rb_dist p q i j < d) (hf : lim < f i j) : rb_nI f lim p q i (j + 1) (nI (rb_dist p q i j)) := by
  obtain ⟨d', e, hd', ha, hb⟩ := h
  obtain rfl : d = d' := (nI_eq (by omega) (by omega)).mp e
  refine ⟨_, rfl, by omega, fun i' j' hv hf' => ?_, Or.inr ⟨i, j, hi, hj, hf, rfl⟩⟩
  rcases rb_V_s hv with hv | ⟨rfl, rfl⟩
  · have := ha i' j' hv hf'
    omega
  · exact Nat.le_refl _
theorem rb_nI_k {f : Nat → Nat → Int32} {lim : Int32} {p q i j d : Nat} (h : rb_nI f lim p q i j (nI d)) (hd : d ≤ 32) (hl : lim < f i j → d ≤ rb_dist p q i j) : rb_nI f lim p q i (j + 1) (nI d) := by
  obtain ⟨d', e, hd', ha, hb⟩ := h
  obtain rfl : d = d' := (nI_eq (by omega) (by omega)).mp e
  refine ⟨_, rfl, hd, fun i' j' hv hf' => ?_, hb⟩
  rcases rb_V_s hv with hv | ⟨rfl, rfl⟩
  · exact ha i' j' hv hf'
  · exact hl hf'
theorem rb_nI_n {f : Nat → Nat → Int32} {lim : Int32} {p q i : Nat} {s : Int32} (h : rb_nI f lim p q i (31 + 1) s) : rb_nI f lim p q (i + 1) 0 s := by
  obtain ⟨d, e, hd, ha, hb⟩ := h
  exact ⟨d, e, hd, fun i' j' hv => ha i' j' (rb_V_n hv), hb⟩
theorem rb_nI_e {f : Nat → Nat → Int32} {lim : Int32} {p q : Nat} {s : Int32} (h : rb_nI f lim p q (31 + 1) 0 s) : ∃ d, s = nI d ∧ d ≤ 32 ∧ rb_Near f lim p q d := by
  obtain ⟨d, e, hd, ha, hb⟩ := h
  refine ⟨d, e, hd, fun i' j' hi hj => ha i' j' (rb_V_e ?_), hb⟩
  unfold rb_Bx
  omega
theorem rb_dv {i j : Nat} : rb_d i j = if j < i then i - j else j - i := by
  unfold rb_d
  repeat' split
  all_goals omega
end
section
/-! the class's own methods, each against its pure value -/
theorem rb_nlt {i h : Nat} (hi : i ≤ h) (hh : h < 32) : ¬ rb_x h < rb_x i := fun z => by
  have := (rb_x_lt (by omega) (by omega)).mp z
  omega
theorem rb_ltS {h : Nat} (hh : h < 32) : rb_x h < rb_x (h + 1) := (rb_x_lt (by omega) (by omega)).mpr (by omega)
theorem rx_clip {post : Int32 → Prop} {t : Int32} (h : post (rb_clip t)) : wpX_clip post t := by
  unfold rb_clip at h
  refine br_c (fun z => ?_) (fun z => ?_)
  · rw [if_neg (Int32.not_lt.mpr z)] at h
    exact h
  · rw [if_pos (Int32.not_le.mp z)] at h
    exact h
theorem rb_i1 (k : Nat) : 2 * nI k = nI (2 * k) := pk_mul 2 k
theorem rb_i2 (k : Nat) : 2 * nI k + 1 = nI (2 * k + 1) := by rw [rb_i1, nI_1]
theorem rb_i3 (k : Nat) : 6 + nI k = nI (6 + k) := nI_add 6 k
theorem rb_i4 (k i : Nat) : 9 + 3 * nI k + nI i = nI (9 + 3 * k + i) := by
  rw [← nI_add, ← nI_add, ← pk_mul]
  rfl
theorem rb_i5 (k : Nat) : 15 + nI k = nI (15 + k) := nI_add 15 k
theorem rx_inn {post : Int32 → Prop} (a : Nat → Int32) {k : Nat} (hk : k < 3) (x y : Int32) (h : post (rb_inn a k x y)) : wpX_innerAt post a (nI k) x y := by
  unfold wpX_innerAt
  rw [rb_i2, rb_i1, rb_i3, nI_clamp (n := 2 * k) (by omega), nI_clamp (n := 2 * k + 1) (by omega), nI_clamp (n := 6 + k) (by omega)]
  exact ⟨vp_in_nI (by omega) (by omega), vp_in_nI (by omega) (by omega), vp_in_nI (by omega) (by omega), nm_e (rx_clip h)⟩
theorem rx_outL {post : Int32 → Prop} (a : Nat → Int32) {k : Nat} (hk : k < 2) (x y : Int32) (h : post (rb_out a k x y)) : ∀ d i, i + d = 3 → wX_outerAt_14 post (nI k) x y a (d + 1) (rb_sum a k x y i) (nI i) := by
  intro d
  induction d with
  | zero =>
    intro i hi
    obtain rfl : i = 3 := by omega
    exact br_t (nI_le (a := 3) (b := 3) (by omega) (by omega)) (rx_clip h)
  | succ d ih =>
    intro i hi
    refine br_f (nI_ge (b := 3) (by omega) (by omega)) ?_
    rw [rb_i4, nI_clamp (n := 9 + 3 * k + i) (by omega)]
    exact ⟨vp_in_nI (by omega) (by omega), rx_inn a (by omega) x y (nm_e (nm_r (nI_1 i) (ih (i + 1) (by omega))))⟩
theorem rx_out {post : Int32 → Prop} (a : Nat → Int32) {k : Nat} (hk : k < 2) (x y : Int32) (h : post (rb_out a k x y)) : wpX_outerAt post a (nI k) x y := by
  unfold wpX_outerAt
  rw [rb_i5, nI_clamp (n := 15 + k) (by omega)]
  exact ⟨vp_in_nI (by omega) (by omega), nm_e ⟨4, rx_outL a hk x y h 3 0 rfl⟩⟩
theorem rx_res {post : Int32 → Prop} (a : Nat → Int32) (x y : Int32) (h : post (rb_res a x y)) : wpX_resultAt post a x y := by
  unfold wpX_resultAt
  exact rx_out a (k := 0) (by omega) x y (rx_out a (k := 1) (by omega) x y h)
theorem rx_unit {post : Int32 → Prop} (a : Nat → Int32) {u : Nat} (hu : u < 5) (x y : Int32) (h : post (rb_unit a u x y)) : wpX_unitAt post a (nI u) x y := by
  unfold rb_unit at h
  refine br_c (fun z => ?_) (fun z => ?_)
  · have h3 : 3 ≤ u := (nI_leI (a := 3) (by omega) (by omega)).mp z
    rw [if_neg (by omega)] at h
    have e : nI u - 3 = nI (u - 3) := pk_sub (b := 3) h3
    rw [e]
    exact rx_out a (by omega) x y h
  · have h3 : u < 3 := Nat.not_le.mp (fun q => z (nI_le (a := 3) q (by omega)))
    rw [if_pos h3] at h
    exact rx_inn a h3 x y h
theorem rx_patL {post : Int32 → Prop} (a : Nat → Int32) (x y : Int32) (h : post (rb_pat a x y 5)) : ∀ d u, u + d = 5 → wX_patternAt_5 post x y a (d + 1) (rb_pat a x y u) (nI u) := by
  intro d
  induction d with
  | zero =>
    intro u hu
    obtain rfl : u = 5 := by omega
    exact br_t (nI_le (a := 5) (b := 5) (by omega) (by omega)) h
  | succ d ih =>
    intro u hu
    have ih2 := ih (u + 1) (by omega)
    simp only [rb_pat] at ih2
    refine br_f (nI_ge (b := 5) (by omega) (by omega)) (rx_unit a (by omega) x y (br_c (fun z => nm_r (nI_1 u) ?_) (fun z => nm_e (nm_r (nI_1 u) ?_))))
    · rw [if_neg (Int32.not_lt.mpr z)] at ih2
      exact ih2
    · rw [if_pos (Int32.not_le.mp z)] at ih2
      exact ih2
theorem rx_pat {post : Int32 → Prop} (a : Nat → Int32) (x y : Int32) (h : post (rb_pat a x y 5)) : wpX_patternAt post a x y := ⟨6, rx_patL a x y h 5 0 rfl⟩
theorem rx_cntL {post : Int32 → Prop} (s : Int32) (h : post (rb_cnt s 32)) : ∀ d k, k + d = 32 → wX_countOf_4 post s (d + 1) (rb_cnt s k) (nI k) := by
  intro d
  induction d with
  | zero =>
    intro k hk
    obtain rfl : k = 32 := by omega
    exact br_t (nI_le (a := 32) (b := 32) (by omega) (by omega)) h
  | succ d ih =>
    intro k hk
    exact br_f (nI_ge (b := 32) (by omega) (by omega)) (nm_e (nm_r (nI_1 k) (ih (k + 1) (by omega))))
theorem rx_cnt {post : Int32 → Prop} (s : Int32) (h : post (rb_cnt s 32)) : wpX_countOf post s := ⟨33, rx_cntL s h 32 0 rfl⟩
theorem rx_low {post : Int32 → Prop} {n : Nat} (hn : n < 1024) (h : post (rb_x (n / 32))) : wpX_lowOf post (nI n) := ⟨by decide, by rw [rb_div32 hn]; exact h⟩
theorem rx_high {post : Int32 → Prop} {n : Nat} (hn : n < 1024) (h : post (rb_x (n % 32))) : wpX_highOf post (nI n) := ⟨by decide, by rw [rb_rem32 hn]; exact h⟩
theorem rx_lowI {post : Int32 → Prop} {x : Int32} {l h : Nat} (hv : rb_Iv x l h) (hp : post (rb_x l)) : wpX_lowOf post x := by
  obtain ⟨n, hn, rfl, rfl, rfl, hl⟩ := hv
  exact rx_low hn hp
theorem rx_highI {post : Int32 → Prop} {x : Int32} {l h : Nat} (hv : rb_Iv x l h) (hp : post (rb_x h)) : wpX_highOf post x := by
  obtain ⟨n, hn, rfl, rfl, rfl, hl⟩ := hv
  exact rx_high hn hp
theorem rx_iv {post : Int32 → Prop} {x : Int32} {l h : Nat} (hv : rb_Iv x l h) (hp : post 1) : wpX_isInterval post x := by
  obtain ⟨n, hn, rfl, rfl, rfl, hl⟩ := hv
  exact br_f (nI_pos (by omega)) (br_f (nI_nlt (a := 1023) (by omega) (by omega)) (rx_low hn (rx_high hn (br_f (rb_nlt hl (by omega)) hp))))
theorem rx_nv {post : Int32 → Prop} {x : Int32} (hv : rb_Nv x) (hp : post 0) : wpX_isInterval post x := by
  rcases hv with hv | hv | ⟨n, hn, rfl, hl⟩
  · exact br_t hv hp
  · exact br_c (fun _ => hp) (fun _ => br_t hv hp)
  · exact br_f (nI_pos (by omega)) (br_f (nI_nlt (a := 1023) (by omega) (by omega)) (rx_low hn (rx_high hn (br_t ((rb_x_lt (by omega) (by omega)).mpr hl) hp))))
theorem rx_two {P Q : Prop} {p q : Int32} {l0 h0 l1 h1 : Nat} (hp : rb_Iv p l0 h0) (hq : rb_Iv q l1 h1) (h : Q) : wpX_isInterval (fun r => (r = 0 → P) ∧ (¬ r = 0 → wpX_isInterval (fun r' => (r' = 0 → P) ∧ (¬ r' = 0 → Q)) q)) p :=
  rx_iv hp (br_f (by decide) (rx_iv hq (br_f (by decide) h)))
theorem rx_twoN {P Q : Prop} {p q : Int32} (hv : rb_Nv p ∨ rb_Nv q) (h : P) : wpX_isInterval (fun r => (r = 0 → P) ∧ (¬ r = 0 → wpX_isInterval (fun r' => (r' = 0 → P) ∧ (¬ r' = 0 → Q)) q)) p := by
  rcases rb_iv p with ⟨l, h', hp⟩ | hp
  · rcases hv with hv | hv
    · exact rx_nv hv (br_t rfl h)
    · exact rx_iv hp (br_f (by decide) (rx_nv hv (br_t rfl h)))
  · exact rx_nv hp (br_t rfl h)
end
section
/-! the class's double loops -/
def rb_f (a : Nat → Int32) (i j : Nat) : Int32 := rb_res a (rb_x i) (rb_x j)
def rb_kn (x : Int32) : Int := - x.toInt
theorem rx_great {post : Int32 → Prop} {a : Nat → Int32} {p q : Int32} {l0 h0 l1 h1 : Nat} (hp : rb_Iv p l0 h0) (hq : rb_Iv q l1 h1) (h : ∀ g, rb_Max Int32.toInt (rb_f a) l0 h0 l1 h1 g → post g) : wpX_greatestOn post a p q := by
  have ⟨a1, a2⟩ := rb_Iv_le hp
  have ⟨b1, b2⟩ := rb_Iv_le hq
  unfold wpX_greatestOn
  refine rx_highI hp (rx_lowI hq (rx_highI hq (rx_res a _ _ (rx_lowI hp ⟨(h0 + 1 - l0) + 1, ?_⟩))))
  exact rb_nest (σ := Int32) (fun n i s => wX_greatestOn_32 post (rb_x h0) (rb_x l1) (rb_x h1) a n s (rb_x i))
    (fun n i m j s => wX_greatestOn_42 post (wX_greatestOn_32 post (rb_x h0) (rb_x l1) (rb_x h1) a n) (rb_x h0) (rb_x l1) (rb_x h1) (rb_x i) a m s (rb_x j))
    (rb_mI Int32.toInt (rb_f a) l0 h0 l1 h1 (rb_f a h0 h1)) l0 h0 l1 h1 (by omega)
    (fun n s hI => br_t (rb_ltS a2) (h s (rb_mI_e hI ⟨h0, h1, ⟨a1, Nat.le_refl _, b1, Nat.le_refl _⟩, Or.inl rfl⟩)))
    (fun n i s hi hi' hN => br_f (rb_nlt hi' a2) hN)
    (fun n i m s hi hi' hO => br_t (rb_ltS b2) (nm_r (rb_x_1 i) hO))
    (fun n i m j s hi hi' hj hj' hI hN => br_f (rb_nlt hj' b2) (rx_res a _ _ (br_c (fun z => nm_r (rb_x_1 j) (hN s (rb_mI_k hI (Int32.le_iff_toInt_le.mp z)))) (fun z => nm_r (rb_x_1 j) (hN _ (rb_mI_t hI ⟨hi, hi', hj, hj'⟩ (Int.le_of_lt (Int32.lt_iff_toInt_lt.mp (Int32.not_le.mp z)))))))))
    (fun i s _ _ hI => rb_mI_n hI)
    (h0 + 1 - l0) l0 _ (by omega) (Nat.le_refl _) (rb_mI_0 _)
theorem rx_small {post : Int32 → Prop} {a : Nat → Int32} {p q : Int32} {l0 h0 l1 h1 : Nat} (hp : rb_Iv p l0 h0) (hq : rb_Iv q l1 h1) (h : ∀ g, rb_Max rb_kn (rb_f a) l0 h0 l1 h1 g → post g) : wpX_smallestOn post a p q := by
  have ⟨a1, a2⟩ := rb_Iv_le hp
  have ⟨b1, b2⟩ := rb_Iv_le hq
  unfold wpX_smallestOn
  refine rx_highI hp (rx_lowI hq (rx_highI hq (rx_res a _ _ (rx_lowI hp ⟨(h0 + 1 - l0) + 1, ?_⟩))))
  exact rb_nest (σ := Int32) (fun n i s => wX_smallestOn_32 post (rb_x h0) (rb_x l1) (rb_x h1) a n s (rb_x i))
    (fun n i m j s => wX_smallestOn_42 post (wX_smallestOn_32 post (rb_x h0) (rb_x l1) (rb_x h1) a n) (rb_x h0) (rb_x l1) (rb_x h1) (rb_x i) a m s (rb_x j))
    (rb_mI rb_kn (rb_f a) l0 h0 l1 h1 (rb_f a h0 h1)) l0 h0 l1 h1 (by omega)
    (fun n s hI => br_t (rb_ltS a2) (h s (rb_mI_e hI ⟨h0, h1, ⟨a1, Nat.le_refl _, b1, Nat.le_refl _⟩, Or.inl rfl⟩)))
    (fun n i s hi hi' hN => br_f (rb_nlt hi' a2) hN)
    (fun n i m s hi hi' hO => br_t (rb_ltS b2) (nm_r (rb_x_1 i) hO))
    (fun n i m j s hi hi' hj hj' hI hN => br_f (rb_nlt hj' b2) (rx_res a _ _ (br_c (fun z => nm_r (rb_x_1 j) (hN s (rb_mI_k hI (Int.neg_le_neg (Int32.le_iff_toInt_le.mp z))))) (fun z => nm_r (rb_x_1 j) (hN _ (rb_mI_t hI ⟨hi, hi', hj, hj'⟩ (Int.neg_le_neg (Int.le_of_lt (Int32.lt_iff_toInt_lt.mp (Int32.not_le.mp z))))))))))
    (fun i s _ _ hI => rb_mI_n hI)
    (h0 + 1 - l0) l0 _ (by omega) (Nat.le_refl _) (rb_mI_0 _)
def rb_aI (f : Nat → Nat → Int32) (lim : Int32) (l0 l1 h1 i j : Nat) (_ : Unit) : Prop := ∀ i' j', rb_V l0 l1 h1 i j i' j' → ¬ lim < f i' j'
theorem rb_aI_k {f : Nat → Nat → Int32} {lim : Int32} {l0 l1 h1 i j : Nat} {s : Unit} (h : rb_aI f lim l0 l1 h1 i j s) (hf : ¬ lim < f i j) : rb_aI f lim l0 l1 h1 i (j + 1) s := by
  intro i' j' hv
  rcases rb_V_s hv with hv | ⟨rfl, rfl⟩
  · exact h i' j' hv
  · exact hf
theorem rx_first {post : Int32 → Prop} {a : Nat → Int32} {p q lim : Int32} {l0 h0 l1 h1 : Nat} (hp : rb_Iv p l0 h0) (hq : rb_Iv q l1 h1) (h : ∀ r, rb_First (rb_f a) lim l0 h0 l1 h1 r → post r) : wpX_firstAbove post a p q lim := by
  have ⟨a1, a2⟩ := rb_Iv_le hp
  have ⟨b1, b2⟩ := rb_Iv_le hq
  unfold wpX_firstAbove
  refine rx_highI hp (rx_lowI hq (rx_highI hq (rx_lowI hp ⟨(h0 + 1 - l0) + 1, ?_⟩)))
  refine rb_nest (σ := Unit) (fun n i s => wX_firstAbove_24 post lim (rb_x h0) (rb_x l1) (rb_x h1) a n (rb_x i))
    (fun n i m j s => wX_firstAbove_35 post (wX_firstAbove_24 post lim (rb_x h0) (rb_x l1) (rb_x h1) a n) lim (rb_x h0) (rb_x l1) (rb_x h1) (rb_x i) a m (rb_x j))
    (rb_aI (rb_f a) lim l0 l1 h1) l0 h0 l1 h1 (by omega)
    (fun n s hI => br_t (rb_ltS a2) (h (-2) (Or.inr ⟨fun i j hb => hI i j (rb_V_e hb), rfl⟩)))
    (fun n i s hi hi' hN => br_f (rb_nlt hi' a2) hN)
    (fun n i m s hi hi' hO => br_t (rb_ltS b2) (nm_r (rb_x_1 i) hO))
    (fun n i m j s hi hi' hj hj' hI hN => br_f (rb_nlt hj' b2) (rx_res a _ _ (br_c (fun z => nm_r (rb_x_1 j) (hN s (rb_aI_k hI (Int32.not_lt.mpr z)))) (fun z => ?_))))
    (fun i s _ _ hI i' j' hv => hI i' j' (rb_V_n hv))
    (h0 + 1 - l0) l0 () (by omega) (Nat.le_refl _) (fun i' j' hv => absurd hv rb_V_0)
  show post (32 * (rb_x i - (-16)) + (rb_x j - (-16)))
  rw [rb_pairX]
  exact h _ (Or.inl ⟨i, j, ⟨hi, hi', hj, hj'⟩, Int32.not_le.mp z, hI, rfl⟩)
def rb_u (a : Nat → Int32) (u i j : Nat) : Int32 := rb_unit a u (rb_x i) (rb_x j)
def rb_sI (a : Nat → Int32) (u l0 l1 h1 i j : Nat) (s : Int32 × Int32) : Prop := rb_Seen (fun i j => rb_u a u i j ≤ 0) l0 l1 h1 i j s.1 ∧ rb_Seen (fun i j => ¬ rb_u a u i j ≤ 0) l0 l1 h1 i j s.2
theorem rx_same {post : Int32 → Prop} {a : Nat → Int32} {u : Nat} (hu : u < 5) {p q : Int32} {l0 h0 l1 h1 : Nat} (hp : rb_Iv p l0 h0) (hq : rb_Iv q l1 h1)
    (h : ∀ s, rb_sI a u l0 l1 h1 (h0 + 1) l1 s → (s.1 = 0 → (s.2 = 0 → post 1) ∧ (¬ s.2 = 0 → post 2)) ∧ (¬ s.1 = 0 → (s.2 = 0 → (s.2 = 0 → post 1) ∧ (¬ s.2 = 0 → post 2)) ∧ (¬ s.2 = 0 → post 0))) : wpX_sameOn post a (nI u) p q := by
  have ⟨a1, a2⟩ := rb_Iv_le hp
  have ⟨b1, b2⟩ := rb_Iv_le hq
  unfold wpX_sameOn
  refine rx_highI hp (rx_lowI hq (rx_highI hq (rx_lowI hp ⟨(h0 + 1 - l0) + 1, ?_⟩)))
  exact rb_nest (σ := Int32 × Int32) (fun n i s => wX_sameOn_30 post (nI u) (rb_x h0) (rb_x l1) (rb_x h1) a n s.1 s.2 (rb_x i))
    (fun n i m j s => wX_sameOn_41 post (wX_sameOn_30 post (nI u) (rb_x h0) (rb_x l1) (rb_x h1) a n) (nI u) (rb_x h0) (rb_x l1) (rb_x h1) (rb_x i) a m s.1 s.2 (rb_x j))
    (rb_sI a u l0 l1 h1) l0 h0 l1 h1 (by omega)
    (fun n s hI => br_t (rb_ltS a2) (h s hI))
    (fun n i s hi hi' hN => br_f (rb_nlt hi' a2) hN)
    (fun n i m s hi hi' hO => br_t (rb_ltS b2) (nm_r (rb_x_1 i) hO))
    (fun n i m j s hi hi' hj hj' hI hN => br_f (rb_nlt hj' b2) (rx_unit a hu _ _ (br_c (fun z => nm_r (rb_x_1 j) (hN (1, s.2) ⟨rb_Seen_t hi hj hj' z, rb_Seen_k hI.2 (fun w => w z)⟩)) (fun z => nm_r (rb_x_1 j) (hN (s.1, 1) ⟨rb_Seen_k hI.1 z, rb_Seen_t hi hj hj' z⟩)))))
    (fun i s _ _ hI => ⟨rb_Seen_n hI.1, rb_Seen_n hI.2⟩)
    (h0 + 1 - l0) l0 (0, 0) (by omega) (Nat.le_refl _) ⟨rb_Seen_0, rb_Seen_0⟩
def rb_g (a : Nat → Int32) (i j : Nat) : Int32 := (1 : Int32) <<< (rb_pat a (rb_x i) (rb_x j) 5 &&& 31)
theorem rx_pats {post : Int32 → Prop} {a : Nat → Int32} {l0 h0 l1 h1 : Nat} (a1 : l0 ≤ h0) (a2 : h0 < 32) (b1 : l1 ≤ h1) (b2 : h1 < 32) (h : ∀ s, rb_Or (rb_g a) l0 l1 h1 (h0 + 1) l1 s → post (rb_cnt s 32)) : ∃ n, wX_patterns_42 post (rb_x h0) (rb_x l1) (rb_x h1) a n 0 (rb_x l0) :=
  ⟨(h0 + 1 - l0) + 1, rb_nest (σ := Int32) (fun n i s => wX_patterns_42 post (rb_x h0) (rb_x l1) (rb_x h1) a n s (rb_x i))
    (fun n i m j s => wX_patterns_52 post (wX_patterns_42 post (rb_x h0) (rb_x l1) (rb_x h1) a n) (rb_x h0) (rb_x l1) (rb_x h1) (rb_x i) a m s (rb_x j))
    (rb_Or (rb_g a) l0 l1 h1) l0 h0 l1 h1 (by omega)
    (fun n s hI => br_t (rb_ltS a2) (rx_cnt s (h s hI)))
    (fun n i s hi hi' hN => br_f (rb_nlt hi' a2) hN)
    (fun n i m s hi hi' hO => br_t (rb_ltS b2) (nm_r (rb_x_1 i) hO))
    (fun n i m j s hi hi' hj hj' hI hN => br_f (rb_nlt hj' b2) (rx_pat a _ _ (nm_e (nm_r (rb_x_1 j) (hN _ (rb_Or_t hi hj hj' hI))))))
    (fun i s _ _ hI => rb_Or_n hI)
    (h0 + 1 - l0) l0 0 (by omega) (Nat.le_refl _) rb_Or_0⟩
theorem rx_dist {post : Int32 → Prop} {i j : Nat} (hi : i < 32) (hj : j < 32) (h : post (nI (rb_d i j))) : wpX_distance post (rb_x i) (rb_x j) := by
  refine br_c (fun z => ?_) (fun z => ?_)
  · have h1 := (rb_x_le (by omega) (by omega)).mp z
    have e : rb_d i j = j - i := by
      unfold rb_d
      split <;> omega
    rw [rb_x_sub h1]
    rw [e] at h
    exact h
  · have h1 := (rb_x_lt (by omega) (by omega)).mp (Int32.not_le.mp z)
    have e : rb_d i j = i - j := by
      unfold rb_d
      split <;> omega
    rw [rb_x_sub (by omega)]
    rw [e] at h
    exact h
theorem rx_56 {post : Int32 → Prop} {J8 J : Int32 → Int32 → Prop} {a : Nat → Int32} {x1 x2 lim : Int32} {p q i j : Nat} {s : Int32} (hp : p < 32) (hq : q < 32) (hi : i < 32) (hj : j < 32) (hI : rb_nI (rb_f a) lim p q i j s)
    (hN : ∀ s', rb_nI (rb_f a) lim p q i (j + 1) s' → J s' (rb_x (j + 1))) : wX_distanceToAbove_56 post J8 J x1 x2 lim s (rb_x i) (rb_x j) (nI (rb_dist p q i j)) a := by
  have hd31 := rb_dist_31 hp hq hi hj
  obtain ⟨d, rfl, hd, _⟩ := id hI
  refine br_c (fun z => nm_r (rb_x_1 j) (hN _ (rb_nI_k hI hd (fun _ => (nI_leI (by omega) (by omega)).mp z)))) (fun z => rx_res a _ _ (br_c (fun w => nm_r (rb_x_1 j) (hN _ (rb_nI_k hI hd (fun y => absurd y (Int32.not_lt.mpr w))))) (fun w => nm_r (rb_x_1 j) (hN _ (rb_nI_t hp hq hi hj hI hd ?_ (Int32.not_le.mp w))))))
  rw [nI_leI (by omega) (by omega)] at z
  omega
theorem rx_near {post : Int32 → Prop} {a : Nat → Int32} {lim : Int32} {p q : Nat} (hp : p < 32) (hq : q < 32) (h : ∀ d, d ≤ 32 → rb_Near (rb_f a) lim p q d → post (nI d)) : wpX_distanceToAbove post a (rb_x p) (rb_x q) lim := by
  refine ⟨32 + 1, ?_⟩
  rw [← rb_lit0]
  refine rb_nest (σ := Int32) (fun n i s => wX_distanceToAbove_8 post (rb_x p) (rb_x q) lim a n s (rb_x i))
    (fun n i m j s => wX_distanceToAbove_19 post (wX_distanceToAbove_8 post (rb_x p) (rb_x q) lim a n) (rb_x p) (rb_x q) lim (rb_x i) a m s (rb_x j))
    (rb_nI (rb_f a) lim p q) 0 31 0 31 (by omega)
    (fun n s hI => br_t (by decide) ?_)
    (fun n i s hi hi' hN => br_f (rb_x_le15 (by omega)) ?_)
    (fun n i m s hi hi' hO => br_t (by decide) (nm_r (rb_x_1 i) hO))
    (fun n i m j s hi hi' hj hj' hI hN => br_f (rb_x_le15 (by omega)) (rx_dist hp (by omega) (rx_dist hq (by omega) ?_)))
    (fun i s _ _ hI => rb_nI_n hI)
    32 0 32 (by omega) (Nat.le_refl _) rb_nI_0
  · obtain ⟨d, rfl, hd, hn⟩ := rb_nI_e hI
    exact h d hd hn
  · rw [rb_lit0] at hN
    exact hN
  · have key := rx_56 (post := post) (J8 := wX_distanceToAbove_8 post (rb_x p) (rb_x q) lim a n) (J := wX_distanceToAbove_19 post (wX_distanceToAbove_8 post (rb_x p) (rb_x q) lim a n) (rb_x p) (rb_x q) lim (rb_x i) a m) (x1 := rb_x p) (x2 := rb_x q) hp hq (show i < 32 by omega) (show j < 32 by omega) hI hN
    have d1 : rb_d p i < 32 := by
      unfold rb_d
      split <;> omega
    have d2 : rb_d q j < 32 := by
      unfold rb_d
      split <;> omega
    refine br_c (fun z => ?_) (fun z => ?_)
    · rw [nI_leI (by omega) (by omega)] at z
      have e : rb_dist p q i j = rb_d q j := if_neg (by omega)
      rw [e] at key
      exact key
    · rw [nI_leI (by omega) (by omega)] at z
      have e : rb_dist p q i j = rb_d p i := if_pos (by omega)
      rw [e] at key
      exact key
end
section
/-! the reference's methods, each against the same pure value -/
section
variable {f0 f1 f2 f3 : Int32} (a : Nat → Int32)
theorem ry_clip {post : Int32 → Prop} {t : Int32} (h : post (rb_clip t)) : wpY_clip post (f0, f1, f2, f3, a) t := by
  unfold rb_clip at h
  refine br_c (fun z => ?_) (fun z => ?_)
  · rw [if_neg (Int32.not_lt.mpr z)] at h
    exact h
  · rw [if_pos (Int32.not_le.mp z)] at h
    exact h
theorem ry_inn {post : Int32 → Prop} {k : Nat} (hk : k < 3) (x y : Int32) (h : post (rb_inn a k x y)) : wpY_inner post (f0, f1, f2, f3, a) (nI k) x y := by
  unfold wpY_inner
  dsimp only
  rw [rb_i2, rb_i1, rb_i3, nI_clamp (n := 2 * k) (by omega), nI_clamp (n := 2 * k + 1) (by omega), nI_clamp (n := 6 + k) (by omega)]
  exact ⟨vp_in_nI (by omega) (by omega), vp_in_nI (by omega) (by omega), vp_in_nI (by omega) (by omega), ry_clip a h⟩
theorem ry_outL {post : Int32 → Prop} {k : Nat} (hk : k < 2) (x y : Int32) (h : post (rb_out a k x y)) : ∀ d i, i + d = 3 → wY_outer_14 post (nI k) x y f0 f1 f2 f3 a (d + 1) (rb_sum a k x y i) (nI i) := by
  intro d
  induction d with
  | zero =>
    intro i hi
    obtain rfl : i = 3 := by omega
    exact br_t (nI_le (a := 3) (b := 3) (by omega) (by omega)) (ry_clip a h)
  | succ d ih =>
    intro i hi
    refine br_f (nI_ge (b := 3) (by omega) (by omega)) ?_
    rw [rb_i4, nI_clamp (n := 9 + 3 * k + i) (by omega)]
    exact ⟨vp_in_nI (by omega) (by omega), ry_inn a (by omega) x y (nm_e (nm_r (nI_1 i) (ih (i + 1) (by omega))))⟩
theorem ry_out {post : Int32 → Prop} {k : Nat} (hk : k < 2) (x y : Int32) (h : post (rb_out a k x y)) : wpY_outer post (f0, f1, f2, f3, a) (nI k) x y := by
  unfold wpY_outer
  dsimp only
  rw [rb_i5, nI_clamp (n := 15 + k) (by omega)]
  exact ⟨vp_in_nI (by omega) (by omega), nm_e ⟨4, ry_outL a hk x y h 3 0 rfl⟩⟩
theorem ry_res {post : Int32 → Prop} (x y : Int32) (h : post (rb_res a x y)) : wpY_given post (f0, f1, f2, f3, a) x y := by
  unfold wpY_given
  dsimp only
  exact ry_out a (k := 0) (by omega) x y (ry_out a (k := 1) (by omega) x y h)
theorem ry_unit {post : Int32 → Prop} {u : Nat} (hu : u < 5) (x y : Int32) (h : post (rb_unit a u x y)) : wpY_unitGiven post (f0, f1, f2, f3, a) (nI u) x y := by
  unfold rb_unit at h
  refine br_c (fun z => ?_) (fun z => ?_)
  · have h3 : 3 ≤ u := (nI_leI (a := 3) (by omega) (by omega)).mp z
    rw [if_neg (by omega)] at h
    have e : nI u - 3 = nI (u - 3) := pk_sub (b := 3) h3
    rw [e]
    exact ry_out a (by omega) x y h
  · have h3 : u < 3 := Nat.not_le.mp (fun q => z (nI_le (a := 3) q (by omega)))
    rw [if_pos h3] at h
    exact ry_inn a h3 x y h
theorem ry_patL {post : Int32 → Prop} (x y : Int32) (h : post (rb_pat a x y 5)) : ∀ d u, u + d = 5 → wY_marks_5 post x y f0 f1 f2 f3 a (d + 1) (rb_pat a x y u) (nI u) := by
  intro d
  induction d with
  | zero =>
    intro u hu
    obtain rfl : u = 5 := by omega
    exact br_t (nI_le (a := 5) (b := 5) (by omega) (by omega)) h
  | succ d ih =>
    intro u hu
    have ih2 := ih (u + 1) (by omega)
    simp only [rb_pat] at ih2
    refine br_f (nI_ge (b := 5) (by omega) (by omega)) (ry_unit a (by omega) x y (br_c (fun z => nm_r (nI_1 u) ?_) (fun z => nm_e (nm_r (nI_1 u) ?_))))
    · rw [if_neg (Int32.not_lt.mpr z)] at ih2
      exact ih2
    · rw [if_pos (Int32.not_le.mp z)] at ih2
      exact ih2
theorem ry_pat {post : Int32 → Prop} (x y : Int32) (h : post (rb_pat a x y 5)) : wpY_marks post (f0, f1, f2, f3, a) x y := ⟨6, ry_patL a x y h 5 0 rfl⟩
theorem ry_cntL {post : Int32 → SY → Prop} (s : Int32) (h : post (rb_cnt s 32) (f0, f1, f2, f3, a)) : ∀ d k, k + d = 32 → wY_patterns_74 post s f0 f1 f2 f3 a (d + 1) (rb_cnt s k) (nI k) := by
  intro d
  induction d with
  | zero =>
    intro k hk
    obtain rfl : k = 32 := by omega
    exact br_t (nI_le (a := 32) (b := 32) (by omega) (by omega)) h
  | succ d ih =>
    intro k hk
    exact br_f (nI_ge (b := 32) (by omega) (by omega)) (nm_r (congrArg (rb_cnt s k + ·) (rb_bit s k (by omega))) (nm_r (nI_1 k) (ih (k + 1) (by omega))))
theorem ry_iv {post : Int32 → Prop} {x : Int32} {l h : Nat} (hv : rb_Iv x l h) (hp : post 0) : wpY_badInterval post (f0, f1, f2, f3, a) x := by
  obtain ⟨n, hn, rfl, rfl, rfl, hl⟩ := hv
  unfold wpY_badInterval
  dsimp only
  rw [rb_rem32 hn, rb_div32 hn]
  exact br_f (nI_pos (by omega)) (br_f (nI_nlt (a := 1023) (by omega) (by omega)) ⟨by decide, by decide, br_t (nI_le hl (by omega)) hp⟩)
theorem ry_nv {post : Int32 → Prop} {x : Int32} (hv : rb_Nv x) (hp : post 1) : wpY_badInterval post (f0, f1, f2, f3, a) x := by
  rcases hv with hv | hv | ⟨n, hn, rfl, hl⟩
  · exact br_t hv hp
  · exact br_c (fun _ => hp) (fun _ => br_t hv hp)
  · unfold wpY_badInterval
    dsimp only
    rw [rb_rem32 hn, rb_div32 hn]
    exact br_f (nI_pos (by omega)) (br_f (nI_nlt (a := 1023) (by omega) (by omega)) ⟨by decide, by decide, br_f (nI_ge hl (by omega)) hp⟩)
theorem ry_take {post : Int32 → SY → Prop} {p q : Int32} {l0 h0 l1 h1 : Nat} (hp : rb_Iv p l0 h0) (hq : rb_Iv q l1 h1) (h : post 1 (rb_x l0, rb_x h0, rb_x l1, rb_x h1, a)) : wpY_take post (f0, f1, f2, f3, a) p q := by
  unfold wpY_take
  dsimp only
  refine ry_iv a hp (br_t rfl (ry_iv a hq (br_t rfl ?_)))
  obtain ⟨n, hn, rfl, rfl, rfl, hl⟩ := hp
  obtain ⟨m, hm, rfl, rfl, rfl, hl'⟩ := hq
  rw [rb_rem32 hn, rb_div32 hn, rb_rem32 hm, rb_div32 hm]
  exact ⟨by decide, nm_r (rb_x_s _) ⟨by decide, nm_r (rb_x_s _) ⟨by decide, nm_r (rb_x_s _) ⟨by decide, nm_r (rb_x_s _) h⟩⟩⟩⟩
theorem ry_takeN {post : Int32 → SY → Prop} {p q : Int32} (hv : rb_Nv p ∨ rb_Nv q) (h : post 0 (f0, f1, f2, f3, a)) : wpY_take post (f0, f1, f2, f3, a) p q := by
  unfold wpY_take
  dsimp only
  rcases rb_iv p with ⟨l, h', hp⟩ | hp
  · rcases hv with hv | hv
    · exact ry_nv a hv (br_f (by decide) h)
    · exact ry_iv a hp (br_t rfl (ry_nv a hv (br_f (by decide) h)))
  · exact ry_nv a hp (br_f (by decide) h)
end
end
section
/-! the reference's double loops -/
theorem ry_ext {post : Int32 → Prop} {a : Nat → Int32} {sg : Int32} {l0 h0 l1 h1 : Nat} (a1 : l0 ≤ h0) (a2 : h0 < 32) (b1 : l1 ≤ h1) (b2 : h1 < 32) (hb : ∀ i j, i < 32 → j < 32 → rb_B (sg * rb_f a i j) 32050)
    (h : ∀ g, rb_Max Int32.toInt (fun i j => sg * rb_f a i j) l0 h0 l1 h1 g → post (sg * g)) : wpY_extreme post (rb_x l0, rb_x h0, rb_x l1, rb_x h1, a) sg := by
  refine ⟨(h0 + 1 - l0) + 1, ?_⟩
  refine rb_nest (σ := Int32) (fun n i s => wY_extreme_8 post sg (rb_x l0) (rb_x h0) (rb_x l1) (rb_x h1) a n s (rb_x i))
    (fun n i m j s => wY_extreme_22 post (wY_extreme_8 post sg (rb_x l0) (rb_x h0) (rb_x l1) (rb_x h1) a n) sg (rb_x i) (rb_x l0) (rb_x h0) (rb_x l1) (rb_x h1) a m s (rb_x j))
    (rb_mI Int32.toInt (fun i j => sg * rb_f a i j) l0 h0 l1 h1 (-1000000)) l0 h0 l1 h1 (by omega)
    (fun n s hI => br_t (rb_ltS a2) (h s (rb_mI_e hI ⟨h0, h1, ⟨a1, Nat.le_refl _, b1, Nat.le_refl _⟩, Or.inr ?_⟩)))
    (fun n i s hi hi' hN => br_f (rb_nlt hi' a2) hN)
    (fun n i m s hi hi' hO => br_t (rb_ltS b2) (nm_r (rb_x_1 i) hO))
    (fun n i m j s hi hi' hj hj' hI hN => br_f (rb_nlt hj' b2) (ry_res a _ _ (nm_e (br_c (fun z => nm_r (rb_x_1 j) (hN s (rb_mI_k hI (Int32.le_iff_toInt_le.mp z)))) (fun z => nm_r (rb_x_1 j) (hN _ (rb_mI_t (f := fun i j => sg * rb_f a i j) hI ⟨hi, hi', hj, hj'⟩ (Int.le_of_lt (Int32.lt_iff_toInt_lt.mp (Int32.not_le.mp z))))))))))
    (fun i s _ _ hI => rb_mI_n hI)
    (h0 + 1 - l0) l0 _ (by omega) (Nat.le_refl _) (rb_mI_0 _)
  have hB := hb h0 h1 a2 b2
  unfold rb_B at hB
  rw [show (-1000000 : Int32).toInt = -1000000 from by decide]
  show -1000000 < (sg * rb_f a h0 h1).toInt
  omega
theorem ry_first {post : Int32 → Prop} {a : Nat → Int32} {lim : Int32} {l0 h0 l1 h1 : Nat} (a1 : l0 ≤ h0) (a2 : h0 < 32) (b1 : l1 ≤ h1) (b2 : h1 < 32) (h : ∀ r, rb_First (rb_f a) lim l0 h0 l1 h1 r → post r) : wpY_above post (rb_x l0, rb_x h0, rb_x l1, rb_x h1, a) lim := by
  refine ⟨(h0 + 1 - l0) + 1, ?_⟩
  refine rb_nest (σ := Unit) (fun n i s => wY_above_5 post lim (rb_x l0) (rb_x h0) (rb_x l1) (rb_x h1) a n (rb_x i))
    (fun n i m j s => wY_above_18 post (wY_above_5 post lim (rb_x l0) (rb_x h0) (rb_x l1) (rb_x h1) a n) lim (rb_x i) (rb_x l0) (rb_x h0) (rb_x l1) (rb_x h1) a m (rb_x j))
    (rb_aI (rb_f a) lim l0 l1 h1) l0 h0 l1 h1 (by omega)
    (fun n s hI => br_t (rb_ltS a2) (h (-2) (Or.inr ⟨fun i j hb => hI i j (rb_V_e hb), rfl⟩)))
    (fun n i s hi hi' hN => br_f (rb_nlt hi' a2) hN)
    (fun n i m s hi hi' hO => br_t (rb_ltS b2) (nm_r (rb_x_1 i) hO))
    (fun n i m j s hi hi' hj hj' hI hN => br_f (rb_nlt hj' b2) (ry_res a _ _ (br_c (fun z => nm_r (rb_x_1 j) (hN s (rb_aI_k hI (Int32.not_lt.mpr z)))) (fun z => ?_))))
    (fun i s _ _ hI i' j' hv => hI i' j' (rb_V_n hv))
    (h0 + 1 - l0) l0 () (by omega) (Nat.le_refl _) (fun i' j' hv => absurd hv rb_V_0)
  show post (32 * (rb_x i + 16) + rb_x j + 16)
  rw [rb_pairY]
  exact h _ (Or.inl ⟨i, j, ⟨hi, hi', hj, hj'⟩, Int32.not_le.mp z, hI, rfl⟩)
theorem ry_same {post : Int32 → SY → Prop} {a : Nat → Int32} {u : Nat} (hu : u < 5) {l0 h0 l1 h1 : Nat} (a1 : l0 ≤ h0) (a2 : h0 < 32) (b1 : l1 ≤ h1) (b2 : h1 < 32)
    (h : ∀ s, rb_sI a u l0 l1 h1 (h0 + 1) l1 s → (s.2 = 0 → (s.1 = 0 → post 2 (rb_x l0, rb_x h0, rb_x l1, rb_x h1, a)) ∧ (¬ s.1 = 0 → post 1 (rb_x l0, rb_x h0, rb_x l1, rb_x h1, a))) ∧ (¬ s.2 = 0 → (s.1 = 0 → (s.1 = 0 → post 2 (rb_x l0, rb_x h0, rb_x l1, rb_x h1, a)) ∧ (¬ s.1 = 0 → post 1 (rb_x l0, rb_x h0, rb_x l1, rb_x h1, a))) ∧ (¬ s.1 = 0 → post 0 (rb_x l0, rb_x h0, rb_x l1, rb_x h1, a)))) :
    ∃ n, wY_fixed_35 post (nI u) (rb_x l0) (rb_x h0) (rb_x l1) (rb_x h1) a n 0 0 (rb_x l0) :=
  ⟨(h0 + 1 - l0) + 1, rb_nest (σ := Int32 × Int32) (fun n i s => wY_fixed_35 post (nI u) (rb_x l0) (rb_x h0) (rb_x l1) (rb_x h1) a n s.2 s.1 (rb_x i))
    (fun n i m j s => wY_fixed_50 post (wY_fixed_35 post (nI u) (rb_x l0) (rb_x h0) (rb_x l1) (rb_x h1) a n) (nI u) (rb_x i) (rb_x l0) (rb_x h0) (rb_x l1) (rb_x h1) a m s.2 s.1 (rb_x j))
    (rb_sI a u l0 l1 h1) l0 h0 l1 h1 (by omega)
    (fun n s hI => br_t (rb_ltS a2) (h s hI))
    (fun n i s hi hi' hN => br_f (rb_nlt hi' a2) hN)
    (fun n i m s hi hi' hO => br_t (rb_ltS b2) (nm_r (rb_x_1 i) hO))
    (fun n i m j s hi hi' hj hj' hI hN => br_f (rb_nlt hj' b2) (ry_unit a hu _ _ (br_c (fun z => nm_r (rb_x_1 j) (hN (1, s.2) ⟨rb_Seen_t hi hj hj' z, rb_Seen_k hI.2 (fun w => w z)⟩)) (fun z => nm_r (rb_x_1 j) (hN (s.1, 1) ⟨rb_Seen_k hI.1 z, rb_Seen_t hi hj hj' z⟩)))))
    (fun i s _ _ hI => ⟨rb_Seen_n hI.1, rb_Seen_n hI.2⟩)
    (h0 + 1 - l0) l0 (0, 0) (by omega) (Nat.le_refl _) ⟨rb_Seen_0, rb_Seen_0⟩⟩
theorem ry_pats {post : Int32 → SY → Prop} {a : Nat → Int32} {l0 h0 l1 h1 : Nat} (a1 : l0 ≤ h0) (a2 : h0 < 32) (b1 : l1 ≤ h1) (b2 : h1 < 32) (h : ∀ s, rb_Or (rb_g a) l0 l1 h1 (h0 + 1) l1 s → post (rb_cnt s 32) (rb_x l0, rb_x h0, rb_x l1, rb_x h1, a)) : ∃ n, wY_patterns_19 post (rb_x l0) (rb_x h0) (rb_x l1) (rb_x h1) a n 0 (rb_x l0) :=
  ⟨(h0 + 1 - l0) + 1, rb_nest (σ := Int32) (fun n i s => wY_patterns_19 post (rb_x l0) (rb_x h0) (rb_x l1) (rb_x h1) a n s (rb_x i))
    (fun n i m j s => wY_patterns_34 post (wY_patterns_19 post (rb_x l0) (rb_x h0) (rb_x l1) (rb_x h1) a n) (rb_x i) (rb_x l0) (rb_x h0) (rb_x l1) (rb_x h1) a m s (rb_x j))
    (rb_Or (rb_g a) l0 l1 h1) l0 h0 l1 h1 (by omega)
    (fun n s hI => br_t (rb_ltS a2) ⟨33, ry_cntL a s (h s hI) 32 0 rfl⟩)
    (fun n i s hi hi' hN => br_f (rb_nlt hi' a2) hN)
    (fun n i m s hi hi' hO => br_t (rb_ltS b2) (nm_r (rb_x_1 i) hO))
    (fun n i m j s hi hi' hj hj' hI hN => br_f (rb_nlt hj' b2) (ry_pat a _ _ (nm_e (nm_r (rb_x_1 j) (hN _ (rb_Or_t hi hj hj' hI))))))
    (fun i s _ _ hI => rb_Or_n hI)
    (h0 + 1 - l0) l0 0 (by omega) (Nat.le_refl _) rb_Or_0⟩
/-! radius -/
def rb_rad (d : Nat) : Int32 := if d = 0 then -2 else nI (d - 1)
def rb_hi (p r : Nat) : Nat := if p + r < 31 then p + r else 31
theorem rb_hi_32 (p r : Nat) : rb_hi p r < 32 := by
  unfold rb_hi
  split <;> omega
theorem rb_hi_le {p r : Nat} (hp : p < 32) : p - r ≤ rb_hi p r := by
  unfold rb_hi
  split <;> omega
theorem rb_lo_b (C : Int32 → Prop) {p r : Nat} (hp : p < 32) (hr : r < 33) (h : C (rb_x (p - r))) : (-16 ≤ rb_x p - nI r → C (rb_x p - nI r)) ∧ (¬ -16 ≤ rb_x p - nI r → C (-16)) := by
  by_cases hc : p < r
  · refine br_f (Int32.not_le.mpr ((rb_lowc hp hr).mpr hc)) ?_
    rw [← rb_lit0, show 0 = p - r by omega]
    exact h
  · refine br_t (Int32.not_lt.mp (fun z => hc ((rb_lowc hp hr).mp z))) ?_
    rw [rb_x_subN (by omega)]
    exact h
theorem rb_hi_b (C : Int32 → Prop) {p r : Nat} (hp : p < 32) (hr : r < 33) (h : C (rb_x (rb_hi p r))) : (rb_x p + nI r ≤ 15 → C (rb_x p + nI r)) ∧ (¬ rb_x p + nI r ≤ 15 → C 15) := by
  unfold rb_hi at h
  by_cases hc : 31 < p + r
  · refine br_f (Int32.not_le.mpr ((rb_highc hp hr).mpr hc)) ?_
    rw [if_neg (by omega), rb_lit31] at h
    exact h
  · refine br_t (Int32.not_lt.mp (fun z => hc ((rb_highc hp hr).mp z))) ?_
    rw [rb_x_addN]
    by_cases hd : p + r < 31
    · rw [if_pos hd] at h
      exact h
    · rw [if_neg hd] at h
      rw [show p + r = 31 by omega]
      exact h
theorem ry_radL {post : Int32 → SY → Prop} {a : Nat → Int32} {p q : Nat} (hp : p < 32) (hq : q < 32) {lim : Int32} (h : ∀ d, rb_Near (rb_f a) lim p q d → ∀ f0 f1 f2 f3, post (rb_rad d) (f0, f1, f2, f3, a)) :
    ∀ d r, r + d = 32 → (∀ i j, i < 32 → j < 32 → lim < rb_f a i j → r ≤ rb_dist p q i j) → ∀ f0 f1 f2 f3, wY_radius_21 post (rb_x p) (rb_x q) lim a (d + 1) (nI r) f0 f1 f2 f3 := by
  intro d
  induction d with
  | zero =>
    intro r hr hi f0 f1 f2 f3
    obtain rfl : r = 32 := by omega
    exact br_t (nI_le (a := 32) (b := 32) (by omega) (by omega)) (h 32 ⟨hi, Or.inl rfl⟩ f0 f1 f2 f3)
  | succ d ih =>
    intro r hr hinv f0 f1 f2 f3
    refine br_f (nI_ge (b := 32) (by omega) (by omega)) ?_
    refine rb_lo_b (fun z => wY_radius_47 post (wY_radius_21 post (rb_x p) (rb_x q) lim a (d + 1)) (rb_x p) (rb_x q) lim (nI r) z f0 f1 f2 f3 a) hp (by omega) ?_
    refine rb_hi_b (fun z => wY_radius_69 post (wY_radius_21 post (rb_x p) (rb_x q) lim a (d + 1)) (rb_x p) (rb_x q) lim (nI r) z (rb_x (p - r)) f1 f2 f3 a) hp (by omega) ?_
    refine rb_lo_b (fun z => wY_radius_91 post (wY_radius_21 post (rb_x p) (rb_x q) lim a (d + 1)) (rb_x p) (rb_x q) lim (nI r) z (rb_x (p - r)) (rb_x (rb_hi p r)) f2 f3 a) hq (by omega) ?_
    refine rb_hi_b (fun z => wY_radius_113 post (wY_radius_21 post (rb_x p) (rb_x q) lim a (d + 1)) (rb_x p) (rb_x q) lim (nI r) z (rb_x (p - r)) (rb_x (rb_hi p r)) (rb_x (q - r)) f3 a) hq (by omega) ?_
    unfold wY_radius_113
    refine ry_first (rb_hi_le hp) (rb_hi_32 p r) (rb_hi_le hq) (rb_hi_32 q r) (fun w hw => ?_)
    have hneg := rb_First_neg (rb_hi_32 p r) (rb_hi_32 q r) hw
    refine br_c (fun z => nm_r (nI_1 r) (ih (r + 1) (by omega) (fun i j hi hj hf => ?_) _ _ _ _)) (fun z => ?_)
    · have h1 := hneg.mp z i j
      have h2 := rb_dist_box (r := r) hp hq hi hj
      have h3 : ¬ rb_dist p q i j ≤ r := fun y => h1 (h2.mp y) hf
      omega
    · have hnear : rb_Near (rb_f a) lim p q r := by
        refine ⟨hinv, Or.inr ?_⟩
        rcases hw with ⟨i, j, hb, hf, _, _⟩ | ⟨hn, _⟩
        · have hb2 := hb
          unfold rb_Bx at hb2
          have g1 := rb_hi_32 p r
          have g2 := rb_hi_32 q r
          have h2 := (rb_dist_box (r := r) hp hq (show i < 32 by omega) (show j < 32 by omega)).mpr hb
          have h3 := hinv i j (by omega) (by omega) hf
          exact ⟨i, j, by omega, by omega, hf, by omega⟩
        · exact absurd (hneg.mpr hn) z
      have hr2 := h r hnear
      unfold rb_rad at hr2
      by_cases h0 : r = 0
      · subst h0
        exact br_t rfl (hr2 _ _ _ _)
      · rw [if_neg h0] at hr2
        refine br_f (nI_ne0 (by omega) (by omega)) ?_
        have e : nI r - 1 = nI (r - 1) := pk_sub (b := 1) (by omega)
        rw [e]
        exact hr2 _ _ _ _
end
section
def i_Rel (_ : Nat) (u : SX) (v : SY) : Prop := u = v.2.2.2.2 ∧ rb_Ok u
theorem i_up {k : Nat} {u : SX} {v : SY} (h : i_Rel k u v) : i_Rel (k + 4) u v := h
theorem i_vc0 : wpX_init (fun u => wpY_init (fun v => i_Rel 0 u v)) := ⟨rfl, fun _ _ => rb_B_0 _⟩
theorem rb_rel {k : Nat} {u : SX} {v : SY} (h : i_Rel k u v) : ∃ f0 f1 f2 f3, v = (f0, f1, f2, f3, u) ∧ rb_Ok u := by
  obtain ⟨f0, f1, f2, f3, a⟩ := v
  obtain ⟨h1, h2⟩ := h
  exact ⟨f0, f1, f2, f3, by rw [h1], h2⟩
theorem rb_ix (x : Int32) {n : Nat} (hn : n < 2 ^ 31) : x < 0 ∨ nI n ≤ x ∨ ∃ j : Nat, j < n ∧ x = nI j := by
  by_cases h : x < 0
  · exact Or.inl h
  · obtain ⟨j, hj, rfl⟩ := nI_of h
    by_cases h2 : j < n
    · exact Or.inr (Or.inr ⟨j, h2, rfl⟩)
    · exact Or.inr (Or.inl (nI_le (by omega) hj))
theorem rb_n19 {x : Int32} (h : nI 20 ≤ x) : ¬ x ≤ 19 := by
  rw [Int32.le_iff_toInt_le, show (nI 20).toInt = 20 from by decide] at h
  rw [Int32.le_iff_toInt_le, show (19 : Int32).toInt = 19 from by decide]
  omega
theorem rb_n4 {x : Int32} (h : nI 5 ≤ x) : ¬ x ≤ 4 := by
  rw [Int32.le_iff_toInt_le, show (nI 5).toInt = 5 from by decide] at h
  rw [Int32.le_iff_toInt_le, show (4 : Int32).toInt = 4 from by decide]
  omega
theorem rx_place {post : Int32 → Prop} {n : Nat} (hn : n < 20) (h : post 1) : wpX_isPlace post (nI n) := br_f (nI_pos (by omega)) (br_f (nI_ge (b := 20) hn (by omega)) h)
theorem rx_placeN {post : Int32 → Prop} {x : Int32} (hv : x < 0 ∨ nI 20 ≤ x) (h : post 0) : wpX_isPlace post x := by
  rcases hv with hv | hv
  · exact br_t hv h
  · exact br_c (fun _ => h) (fun _ => br_t hv h)
theorem rx_isUnit {post : Int32 → Prop} {n : Nat} (hn : n < 5) (h : post 1) : wpX_isUnit post (nI n) := br_f (nI_pos (by omega)) (br_f (nI_ge (b := 5) hn (by omega)) h)
theorem rx_isUnitN {post : Int32 → Prop} {x : Int32} (hv : x < 0 ∨ nI 5 ≤ x) (h : post 0) : wpX_isUnit post x := by
  rcases hv with hv | hv
  · exact br_t hv h
  · exact br_c (fun _ => h) (fun _ => br_t hv h)
theorem rx_off {post : Int32 → Prop} {n : Nat} (hn : n < 20) (h1 : (5 < n ∧ n < 9) ∨ n = 15 ∨ n = 16 ∨ n = 19 → post 1) (h0 : ¬ ((5 < n ∧ n < 9) ∨ n = 15 ∨ n = 16 ∨ n = 19) → post 0) : wpX_isOffset post (nI n) := by
  unfold wpX_isOffset wX_isOffset_12 wX_isOffset_24
  have e6 : nI n < 6 ↔ n < 6 := nI_ltI (b := 6) (by omega) (by omega)
  have e9 : nI n < 9 ↔ n < 9 := nI_ltI (b := 9) (by omega) (by omega)
  have e15 : nI n < 15 ↔ n < 15 := nI_ltI (b := 15) (by omega) (by omega)
  have e17 : nI n < 17 ↔ n < 17 := nI_ltI (b := 17) (by omega) (by omega)
  have e19 : nI n = 19 ↔ n = 19 := nI_eq (b := 19) (by omega) (by omega)
  rw [e6, e9, e15, e17, e19]
  repeat' first | apply And.intro | intro _
  all_goals first | exact h1 (by omega) | exact h0 (by omega)
theorem ry_off {post : Int32 → Prop} {f0 f1 f2 f3 : Int32} {a : Nat → Int32} {n : Nat} (hn : n < 20) (h1 : (5 < n ∧ n < 9) ∨ n = 15 ∨ n = 16 ∨ n = 19 → post 1) (h0 : ¬ ((5 < n ∧ n < 9) ∨ n = 15 ∨ n = 16 ∨ n = 19) → post 0) : wpY_offset post (f0, f1, f2, f3, a) (nI n) := by
  unfold wpY_offset wY_offset_11
  dsimp only
  have e5 : nI n ≤ 5 ↔ n ≤ 5 := nI_leI (b := 5) (by omega) (by omega)
  have e9 : nI n < 9 ↔ n < 9 := nI_ltI (b := 9) (by omega) (by omega)
  have e15 : nI n = 15 ↔ n = 15 := nI_eq (b := 15) (by omega) (by omega)
  have e16 : nI n = 16 ↔ n = 16 := nI_eq (b := 16) (by omega) (by omega)
  have e19 : nI n = 19 ↔ n = 19 := nI_eq (b := 19) (by omega) (by omega)
  rw [e5, e9, e15, e16, e19]
  repeat' first | apply And.intro | intro _
  all_goals first | exact h1 (by omega) | exact h0 (by omega)
theorem rs_set {k : Nat} {f0 f1 f2 f3 : Int32} {a : Nat → Int32} {n : Nat} (hn : n < 20) (ok : rb_Ok a) (z0 v2 : Int32) (hz : z0.toInt = (rb_cap n : Int)) (hm : (-z0).toInt = -(rb_cap n : Int))
    (HY : ∀ post' : Int32 → SY → Prop, wY_set_26 post' (nI n) v2 z0 f0 f1 f2 f3 a → wpY_set post' (f0, f1, f2, f3, a) (nI n) v2) :
    wX_set_22 (fun r u' => wpY_set (fun r' v' => r' = r ∧ i_Rel (k + 4) u' v') (f0, f1, f2, f3, a) (nI n) v2) (nI n) v2 z0 a := by
  refine br_c (fun h1 => HY _ (br_t h1 ⟨rfl, rfl, ok⟩)) (fun h1 => br_c (fun h2 => ?_) (fun h2 => HY _ (br_f h1 (br_f h2 ⟨rfl, rfl, ok⟩))))
  have hi : vp_in (nI n) 20 := vp_in_nI hn (by omega)
  have hB : rb_B v2 (rb_cap n) := by
    have g1 := h1
    have g2 := h2
    rw [Int32.lt_iff_toInt_lt, hm] at g1
    rw [Int32.le_iff_toInt_le, hz] at g2
    unfold rb_B
    omega
  have okU : rb_Ok (upd a (nI n).toNatClampNeg v2) := by
    rw [nI_clamp (by omega)]
    exact rb_Ok_upd ok hB
  exact ⟨hi, nm_e ⟨hi, nm_e (br_c (fun e => HY _ (br_f h1 (br_t h2 ⟨hi, br_t e ⟨hi, nm_e ⟨rfl, rfl, okU⟩⟩⟩))) (fun e => HY _ (br_f h1 (br_t h2 ⟨hi, br_f e ⟨hi, nm_e ⟨rfl, rfl, okU⟩⟩⟩))))⟩⟩
theorem i_vc_set {k : Nat} {u : SX} {v : SY} (I : i_Rel k u v) (hk : k + 4 ≤ 2048) (v1 : Int32) (v2 : Int32) : wpX_set (fun r u' => wpY_set (fun r' v' => r' = r ∧ i_Rel (k + 4) u' v') v v1 v2) u v1 v2 := by
  obtain ⟨f0, f1, f2, f3, rfl, ok⟩ := rb_rel I
  unfold wpX_set
  rcases rb_ix v1 (n := 20) (by omega) with h | h | ⟨n, hn, rfl⟩
  · exact rx_placeN (Or.inl h) (br_t rfl (br_t h ⟨rfl, rfl, ok⟩))
  · exact rx_placeN (Or.inr h) (br_t rfl (br_c (fun _ => ⟨rfl, rfl, ok⟩) (fun _ => br_f (rb_n19 h) ⟨rfl, rfl, ok⟩)))
  · have h0 : ¬ nI n < 0 := nI_pos (by omega)
    have h19 : nI n ≤ 19 := nI_le (b := 19) (by omega) (by omega)
    refine rx_place hn (br_f (by decide) (rx_off hn (fun ho => br_f (by decide) ?_) (fun ho => br_t rfl ?_)))
    · refine rs_set hn ok 50 v2 (by rw [rb_cap50 ho]; decide) (by rw [rb_cap50 ho]; decide) (fun post' hh => br_f h0 (br_t h19 (ry_off hn (fun _ => br_f (by decide) hh) (fun z => absurd ho z))))
    · refine rs_set hn ok 5 v2 (by rw [rb_cap5 ho]; decide) (by rw [rb_cap5 ho]; decide) (fun post' hh => br_f h0 (br_t h19 (ry_off hn (fun z => absurd z ho) (fun _ => br_t rfl hh))))
theorem rb_sv_o {s b p : Nat} (h : (5 < p ∧ p < 9) ∨ p = 15 ∨ p = 16 ∨ p = 19) : rb_sv s b p = nI (rb_so s b p) - nI (rb_so s b p) / 41 * 41 - 20 := if_pos h
theorem rb_sv_f {s b p : Nat} (h : ¬ ((5 < p ∧ p < 9) ∨ p = 15 ∨ p = 16 ∨ p = 19)) : rb_sv s b p = nI (rb_sf s b p) - nI (rb_sf s b p) / 11 * 11 - 5 := if_neg h
theorem rb_sow_o {a : Nat → Int32} {s b p : Nat} (hp : p < 20) (h : (5 < p ∧ p < 9) ∨ p = 15 ∨ p = 16 ∨ p = 19) : upd (rb_sow a s b p) (nI p).toNatClampNeg (((nI s * 7 + 5 * nI p + nI b * nI p) - (nI s * 7 + 5 * nI p + nI b * nI p) / 41 * 41) - 20) = rb_sow a s b (p + 1) := by
  rw [rb_so_e, nI_clamp (by omega), ← rb_sv_o h]
  rfl
theorem rb_sow_f {a : Nat → Int32} {s b p : Nat} (hp : p < 20) (h : ¬ ((5 < p ∧ p < 9) ∨ p = 15 ∨ p = 16 ∨ p = 19)) : upd (rb_sow a s b p) (nI p).toNatClampNeg (((nI s + 3 * nI p + nI p * nI p * nI b) - (nI s + 3 * nI p + nI p * nI p * nI b) / 11 * 11) - 5) = rb_sow a s b (p + 1) := by
  rw [rb_sf_e, nI_clamp (by omega), ← rb_sv_f h]
  rfl
theorem rx_sowL {post : Int32 → SX → Prop} (a : Nat → Int32) {s b : Nat} (h : post 0 (rb_sow a s b 20)) : ∀ d p, p + d = 20 → wX_sow_27 post (nI s) (nI b) (d + 1) (nI p) (rb_sow a s b p) := by
  intro d
  induction d with
  | zero =>
    intro p hp
    obtain rfl : p = 20 := by omega
    exact br_t (nI_le (a := 20) (b := 20) (by omega) (by omega)) h
  | succ d ih =>
    intro p hp
    have hi : vp_in (nI p) 20 := vp_in_nI (by omega) (by omega)
    exact br_f (nI_ge (b := 20) (by omega) (by omega)) (rx_off (by omega)
      (fun ho => br_f (by decide) ⟨by decide, hi, nm_r (rb_sow_o (by omega) ho) (nm_r (nI_1 p) (ih (p + 1) (by omega)))⟩)
      (fun ho => br_t rfl ⟨by decide, hi, nm_r (rb_sow_f (by omega) ho) (nm_r (nI_1 p) (ih (p + 1) (by omega)))⟩))
theorem ry_sowL {post : Int32 → SY → Prop} {f0 f1 f2 f3 : Int32} (a : Nat → Int32) {s b : Nat} (h : post 0 (f0, f1, f2, f3, rb_sow a s b 20)) : ∀ d p, p + d = 20 → wY_sow_27 post (nI s) (nI b) f0 f1 f2 f3 (d + 1) (nI p) (rb_sow a s b p) := by
  intro d
  induction d with
  | zero =>
    intro p hp
    obtain rfl : p = 20 := by omega
    exact br_t (nI_le (a := 20) (b := 20) (by omega) (by omega)) h
  | succ d ih =>
    intro p hp
    have hi : vp_in (nI p) 20 := vp_in_nI (by omega) (by omega)
    exact br_f (nI_ge (b := 20) (by omega) (by omega)) (ry_off (by omega)
      (fun ho => br_f (by decide) ⟨by decide, hi, nm_r (rb_sow_o (by omega) ho) (nm_r (nI_1 p) (ih (p + 1) (by omega)))⟩)
      (fun ho => br_t rfl ⟨by decide, hi, nm_r (rb_sow_f (by omega) ho) (nm_r (nI_1 p) (ih (p + 1) (by omega)))⟩))
theorem i_vc_sow {k : Nat} {u : SX} {v : SY} (I : i_Rel k u v) (hk : k + 4 ≤ 2048) (v1 : Int32) (v2 : Int32) : wpX_sow (fun r u' => wpY_sow (fun r' v' => r' = r ∧ i_Rel (k + 4) u' v') v v1 v2) u v1 v2 := by
  obtain ⟨f0, f1, f2, f3, rfl, ok⟩ := rb_rel I
  refine br_c (fun h1 => br_t h1 ⟨rfl, rfl, ok⟩) (fun h1 => br_c (fun h2 => br_c (fun h3 => br_f h1 (br_t h2 (br_t h3 ⟨rfl, rfl, ok⟩))) (fun h3 => br_c (fun h4 => ?_) (fun h4 => br_f h1 (br_t h2 (br_f h3 (br_f h4 ⟨rfl, rfl, ok⟩)))))) (fun h2 => br_f h1 (br_f h2 ⟨rfl, rfl, ok⟩)))
  obtain ⟨s, hs, rfl⟩ := nI_of2 (M := 100) (n := 100) (by decide) h1 h2
  obtain ⟨b, hb, rfl⟩ := nI_of2 (M := 20) (n := 20) (by decide) h3 h4
  exact ⟨21, rx_sowL u (br_f h1 (br_t h2 (br_f h3 (br_t h4 ⟨21, ry_sowL u ⟨rfl, rfl, rb_sowOk ok hs hb 20 (Nat.le_refl _)⟩ 20 0 rfl⟩)))) 20 0 rfl⟩
theorem i_vc_get {k : Nat} {u : SX} {v : SY} (I : i_Rel k u v) (hk : k + 4 ≤ 2048) (v1 : Int32) : wpX_get (fun r => wpY_get (fun r' => r' = r ∧ i_Rel (k + 4) u v) v v1) u v1 := by
  obtain ⟨f0, f1, f2, f3, rfl, ok⟩ := rb_rel I
  unfold wpX_get
  rcases rb_ix v1 (n := 20) (by omega) with h | h | ⟨n, hn, rfl⟩
  · exact rx_placeN (Or.inl h) (br_t rfl (br_t h ⟨rfl, rfl, ok⟩))
  · exact rx_placeN (Or.inr h) (br_t rfl (br_c (fun _ => ⟨rfl, rfl, ok⟩) (fun _ => br_f (rb_n19 h) ⟨rfl, rfl, ok⟩)))
  · have hi : vp_in (nI n) 20 := vp_in_nI hn (by omega)
    exact rx_place hn (br_f (by decide) ⟨hi, br_f (nI_pos (by omega)) (br_t (nI_le (b := 19) (by omega) (by omega)) ⟨hi, rfl, rfl, ok⟩)⟩)
/-! inputs -/
theorem rb_inp (x : Int32) : (∃ i, i < 32 ∧ x = rb_x i) ∨ x < -16 ∨ 15 < x := by
  by_cases h1 : x < -16
  · exact Or.inr (Or.inl h1)
  · by_cases h2 : 15 < x
    · exact Or.inr (Or.inr h2)
    · exact Or.inl (rb_x_of h1 h2)
theorem rx_inp {post : Int32 → Prop} {i : Nat} (hi : i < 32) (h : post 1) : wpX_isInput post (rb_x i) := br_f (rb_x_ge16 (by omega)) (br_f (rb_x_le15 hi) h)
theorem rx_inpN {post : Int32 → Prop} {x : Int32} (hv : x < -16 ∨ 15 < x) (h : post 0) : wpX_isInput post x := by
  rcases hv with hv | hv
  · exact br_t hv h
  · exact br_c (fun _ => h) (fun _ => br_t hv h)
theorem ry_bad {post : Int32 → Prop} {f0 f1 f2 f3 : Int32} {a : Nat → Int32} {i : Nat} (hi : i < 32) (h : post 0) : wpY_bad post (f0, f1, f2, f3, a) (rb_x i) := br_f (rb_x_ge16 (by omega)) (br_t (Int32.not_lt.mp (rb_x_le15 hi)) h)
theorem ry_badN {post : Int32 → Prop} {f0 f1 f2 f3 : Int32} {a : Nat → Int32} {x : Int32} (hv : x < -16 ∨ 15 < x) (h : post 1) : wpY_bad post (f0, f1, f2, f3, a) x := by
  rcases hv with hv | hv
  · exact br_t hv h
  · exact br_c (fun _ => h) (fun _ => br_f (Int32.not_le.mpr hv) h)
theorem i_vc_result {k : Nat} {u : SX} {v : SY} (I : i_Rel k u v) (hk : k + 4 ≤ 2048) (v1 : Int32) (v2 : Int32) : wpX_result (fun r => wpY_result (fun r' => r' = r ∧ i_Rel (k + 4) u v) v v1 v2) u v1 v2 := by
  obtain ⟨f0, f1, f2, f3, rfl, ok⟩ := rb_rel I
  unfold wpX_result wpY_result
  dsimp only
  rcases rb_inp v1 with ⟨i, hi, rfl⟩ | h1
  · rcases rb_inp v2 with ⟨j, hj, rfl⟩ | h2
    · exact rx_inp hi (br_f (by decide) (rx_inp hj (br_f (by decide) (rx_res u _ _ (ry_bad hi (br_t rfl (ry_bad hj (br_t rfl (ry_res u _ _ ⟨rfl, rfl, ok⟩)))))))))
    · exact rx_inp hi (br_f (by decide) (rx_inpN h2 (br_t rfl (ry_bad hi (br_t rfl (ry_badN h2 (br_f (by decide) ⟨rfl, rfl, ok⟩)))))))
  · exact rx_inpN h1 (br_t rfl (ry_badN h1 (br_f (by decide) ⟨rfl, rfl, ok⟩)))
theorem i_vc_unit {k : Nat} {u : SX} {v : SY} (I : i_Rel k u v) (hk : k + 4 ≤ 2048) (v1 : Int32) (v2 : Int32) (v3 : Int32) : wpX_unit (fun r => wpY_unit (fun r' => r' = r ∧ i_Rel (k + 4) u v) v v1 v2 v3) u v1 v2 v3 := by
  obtain ⟨f0, f1, f2, f3, rfl, ok⟩ := rb_rel I
  unfold wpX_unit
  rcases rb_ix v1 (n := 5) (by omega) with h | h | ⟨n, hn, rfl⟩
  · exact rx_isUnitN (Or.inl h) (br_t rfl (br_t h ⟨rfl, rfl, ok⟩))
  · exact rx_isUnitN (Or.inr h) (br_t rfl (br_c (fun _ => ⟨rfl, rfl, ok⟩) (fun _ => br_f (rb_n4 h) ⟨rfl, rfl, ok⟩)))
  · have h0 : ¬ nI n < 0 := nI_pos (by omega)
    have h4 : nI n ≤ 4 := nI_le (b := 4) (by omega) (by omega)
    rcases rb_inp v2 with ⟨i, hi, rfl⟩ | h1
    · rcases rb_inp v3 with ⟨j, hj, rfl⟩ | h2
      · exact rx_isUnit hn (br_f (by decide) (rx_inp hi (br_f (by decide) (rx_inp hj (br_f (by decide) (rx_unit u hn _ _ (br_f h0 (br_t h4 (ry_bad hi (br_t rfl (ry_bad hj (br_t rfl (ry_unit u hn _ _ ⟨rfl, rfl, ok⟩)))))))))))))
      · exact rx_isUnit hn (br_f (by decide) (rx_inp hi (br_f (by decide) (rx_inpN h2 (br_t rfl (br_f h0 (br_t h4 (ry_bad hi (br_t rfl (ry_badN h2 (br_f (by decide) ⟨rfl, rfl, ok⟩)))))))))))
    · exact rx_isUnit hn (br_f (by decide) (rx_inpN h1 (br_t rfl (br_f h0 (br_t h4 (ry_badN h1 (br_f (by decide) ⟨rfl, rfl, ok⟩)))))))
end
section
theorem rb_fB {a : Nat → Int32} (ok : rb_Ok a) {i j : Nat} (hi : i < 32) (hj : j < 32) : rb_B (rb_f a i j) 32050 := rb_resB ok (rb_x_B hi) (rb_x_B hj)
theorem rb_neg {x : Int32} (h : rb_B x 32050) : (-1 * x).toInt = - x.toInt := by
  unfold rb_B at h
  rw [Int32.toInt_mul, show (-1 : Int32).toInt = -1 from by decide, Int.bmod_eq_of_le (by omega) (by omega)]
  omega
theorem ry_max {post : Int32 → Prop} {a : Nat → Int32} (ok : rb_Ok a) {l0 h0 l1 h1 : Nat} (a1 : l0 ≤ h0) (a2 : h0 < 32) (b1 : l1 ≤ h1) (b2 : h1 < 32)
    (h : ∀ g, rb_Max Int32.toInt (rb_f a) l0 h0 l1 h1 g → post g) : wpY_extreme post (rb_x l0, rb_x h0, rb_x l1, rb_x h1, a) 1 := by
  have e : (fun i j => 1 * rb_f a i j) = rb_f a := by
    funext i j
    exact Int32.one_mul _
  refine ry_ext a1 a2 b1 b2 (fun i j hi hj => ?_) (fun g hg => ?_)
  · rw [Int32.one_mul]
    exact rb_fB ok hi hj
  · rw [e] at hg
    rw [Int32.one_mul]
    exact h g hg
theorem ry_min {post : Int32 → Prop} {a : Nat → Int32} (ok : rb_Ok a) {l0 h0 l1 h1 : Nat} (a1 : l0 ≤ h0) (a2 : h0 < 32) (b1 : l1 ≤ h1) (b2 : h1 < 32)
    (h : ∀ g, rb_Max rb_kn (rb_f a) l0 h0 l1 h1 g → post g) : wpY_extreme post (rb_x l0, rb_x h0, rb_x l1, rb_x h1, a) (-1) := by
  refine ry_ext a1 a2 b1 b2 (fun i j hi hj => ?_) (fun g hg => ?_)
  · have hB := rb_fB ok hi hj
    have hn := rb_neg hB
    unfold rb_B at *
    omega
  · obtain ⟨hA, i, j, hb, rfl⟩ := hg
    have e : -1 * (-1 * rb_f a i j) = rb_f a i j := by grind
    rw [e]
    refine h _ ⟨fun i' j' hb' => ?_, i, j, hb, rfl⟩
    have h1' := hA i' j' hb'
    unfold rb_Bx at hb hb'
    have n1 := rb_neg (rb_fB ok (i := i) (j := j) (by omega) (by omega))
    have n2 := rb_neg (rb_fB ok (i := i') (j := j') (by omega) (by omega))
    unfold rb_kn
    simp only [n1, n2] at h1'
    exact h1'
theorem rb_tI : ∀ x y : Int32, x.toInt = y.toInt → x = y := fun _ _ h => Int32.toInt_inj.mp h
theorem rb_kI : ∀ x y : Int32, rb_kn x = rb_kn y → x = y := fun _ _ h => Int32.toInt_inj.mp (Int.neg_inj.mp h)
theorem rb_2 (p q : Int32) : (∃ l0 h0 l1 h1, rb_Iv p l0 h0 ∧ rb_Iv q l1 h1) ∨ (rb_Nv p ∨ rb_Nv q) := by
  rcases rb_iv p with ⟨l0, h0, hp⟩ | hp
  · rcases rb_iv q with ⟨l1, h1, hq⟩ | hq
    · exact Or.inl ⟨l0, h0, l1, h1, hp, hq⟩
    · exact Or.inr (Or.inr hq)
  · exact Or.inr (Or.inl hp)
theorem i_vc_most {k : Nat} {u : SX} {v : SY} (I : i_Rel k u v) (hk : k + 4 ≤ 2048) (v1 : Int32) (v2 : Int32) : wpX_most (fun r => wpY_most (fun r' v' => r' = r ∧ i_Rel (k + 4) u v') v v1 v2) u v1 v2 := by
  obtain ⟨f0, f1, f2, f3, rfl, ok⟩ := rb_rel I
  unfold wpX_most wpY_most
  dsimp only
  rcases rb_2 v1 v2 with ⟨l0, h0, l1, h1, hp, hq⟩ | hN
  · have ⟨a1, a2⟩ := rb_Iv_le hp
    have ⟨b1, b2⟩ := rb_Iv_le hq
    exact rx_two hp hq (rx_great hp hq (fun g hg => ry_take u hp hq (br_f (by decide) (ry_max ok a1 a2 b1 b2 (fun g' hg' => ⟨rb_Max_u rb_tI hg' hg, rfl, ok⟩)))))
  · exact rx_twoN hN (ry_takeN u hN (br_t rfl ⟨rfl, rfl, ok⟩))
theorem i_vc_least {k : Nat} {u : SX} {v : SY} (I : i_Rel k u v) (hk : k + 4 ≤ 2048) (v1 : Int32) (v2 : Int32) : wpX_least (fun r => wpY_least (fun r' v' => r' = r ∧ i_Rel (k + 4) u v') v v1 v2) u v1 v2 := by
  obtain ⟨f0, f1, f2, f3, rfl, ok⟩ := rb_rel I
  unfold wpX_least wpY_least
  dsimp only
  rcases rb_2 v1 v2 with ⟨l0, h0, l1, h1, hp, hq⟩ | hN
  · have ⟨a1, a2⟩ := rb_Iv_le hp
    have ⟨b1, b2⟩ := rb_Iv_le hq
    exact rx_two hp hq (rx_small hp hq (fun g hg => ry_take u hp hq (br_f (by decide) (ry_min ok a1 a2 b1 b2 (fun g' hg' => ⟨rb_Max_u rb_kI hg' hg, rfl, ok⟩)))))
  · exact rx_twoN hN (ry_takeN u hN (br_t rfl ⟨rfl, rfl, ok⟩))
theorem i_vc_mostAt {k : Nat} {u : SX} {v : SY} (I : i_Rel k u v) (hk : k + 4 ≤ 2048) (v1 : Int32) (v2 : Int32) : wpX_mostAt (fun r => wpY_mostAt (fun r' v' => r' = r ∧ i_Rel (k + 4) u v') v v1 v2) u v1 v2 := by
  obtain ⟨f0, f1, f2, f3, rfl, ok⟩ := rb_rel I
  unfold wpX_mostAt wpY_mostAt
  dsimp only
  rcases rb_2 v1 v2 with ⟨l0, h0, l1, h1, hp, hq⟩ | hN
  · have ⟨a1, a2⟩ := rb_Iv_le hp
    have ⟨b1, b2⟩ := rb_Iv_le hq
    refine rx_two hp hq (rx_great hp hq (fun g hg => rx_first hp hq (fun r hr => ry_take u hp hq (br_f (by decide) (ry_max ok a1 a2 b1 b2 (fun g' hg' => ?_))))))
    obtain rfl := rb_Max_u rb_tI hg' hg
    exact ry_first a1 a2 b1 b2 (fun r' hr' => ⟨rb_First_u hr' hr, rfl, ok⟩)
  · exact rx_twoN hN (ry_takeN u hN (br_t rfl ⟨rfl, rfl, ok⟩))
theorem rb_safe {f : Nat → Nat → Int32} {l0 h0 l1 h1 : Nat} {g lim : Int32} (hg : rb_Max Int32.toInt f l0 h0 l1 h1 g) : ¬ lim < g ↔ ∀ i j, rb_Bx l0 h0 l1 h1 i j → ¬ lim < f i j := by
  obtain ⟨hA, i, j, hb, rfl⟩ := hg
  constructor
  · intro z i' j' hb' w
    have := hA i' j' hb'
    rw [Int32.lt_iff_toInt_lt] at z w
    omega
  · exact fun z => z i j hb
theorem i_vc_safe {k : Nat} {u : SX} {v : SY} (I : i_Rel k u v) (hk : k + 4 ≤ 2048) (v1 : Int32) (v2 : Int32) (v3 : Int32) : wpX_safe (fun r => wpY_safe (fun r' v' => r' = r ∧ i_Rel (k + 4) u v') v v1 v2 v3) u v1 v2 v3 := by
  obtain ⟨f0, f1, f2, f3, rfl, ok⟩ := rb_rel I
  unfold wpX_safe wpY_safe
  dsimp only
  rcases rb_2 v1 v2 with ⟨l0, h0, l1, h1, hp, hq⟩ | hN
  · have ⟨a1, a2⟩ := rb_Iv_le hp
    have ⟨b1, b2⟩ := rb_Iv_le hq
    refine rx_two hp hq (rx_great hp hq (fun g hg => br_c (fun z => ry_take u hp hq (br_f (by decide) (ry_first a1 a2 b1 b2 (fun r hr => br_t ?_ ⟨rfl, rfl, ok⟩)))) (fun z => ry_take u hp hq (br_f (by decide) (ry_first a1 a2 b1 b2 (fun r hr => br_f ?_ ⟨rfl, rfl, ok⟩))))))
    · exact Int32.not_lt.mp (fun w => (rb_safe hg).mpr ((rb_First_neg a2 b2 hr).mp w) z)
    · exact Int32.not_le.mpr ((rb_First_neg a2 b2 hr).mpr ((rb_safe hg).mp z))
  · exact rx_twoN hN (ry_takeN u hN (br_t rfl ⟨rfl, rfl, ok⟩))
theorem i_vc_breach {k : Nat} {u : SX} {v : SY} (I : i_Rel k u v) (hk : k + 4 ≤ 2048) (v1 : Int32) (v2 : Int32) (v3 : Int32) : wpX_breach (fun r => wpY_breach (fun r' v' => r' = r ∧ i_Rel (k + 4) u v') v v1 v2 v3) u v1 v2 v3 := by
  obtain ⟨f0, f1, f2, f3, rfl, ok⟩ := rb_rel I
  unfold wpX_breach wpY_breach
  dsimp only
  rcases rb_2 v1 v2 with ⟨l0, h0, l1, h1, hp, hq⟩ | hN
  · have ⟨a1, a2⟩ := rb_Iv_le hp
    have ⟨b1, b2⟩ := rb_Iv_le hq
    exact rx_two hp hq (rx_first hp hq (fun r hr => ry_take u hp hq (br_f (by decide) (ry_first a1 a2 b1 b2 (fun r' hr' => ⟨rb_First_u hr' hr, rfl, ok⟩)))))
  · exact rx_twoN hN (ry_takeN u hN (br_t rfl ⟨rfl, rfl, ok⟩))
theorem rb_10 : ¬ (1 : Int32) = 0 := by decide
theorem i_vc_fixed {k : Nat} {u : SX} {v : SY} (I : i_Rel k u v) (hk : k + 4 ≤ 2048) (v1 : Int32) (v2 : Int32) (v3 : Int32) : wpX_fixed (fun r => wpY_fixed (fun r' v' => r' = r ∧ i_Rel (k + 4) u v') v v1 v2 v3) u v1 v2 v3 := by
  obtain ⟨f0, f1, f2, f3, rfl, ok⟩ := rb_rel I
  unfold wpX_fixed wpY_fixed
  dsimp only
  rcases rb_ix v1 (n := 5) (by omega) with h | h | ⟨n, hn, rfl⟩
  · exact rx_isUnitN (Or.inl h) (br_t rfl (br_t h ⟨rfl, rfl, ok⟩))
  · exact rx_isUnitN (Or.inr h) (br_t rfl (br_c (fun _ => ⟨rfl, rfl, ok⟩) (fun _ => br_f (rb_n4 h) ⟨rfl, rfl, ok⟩)))
  · have hz : ¬ nI n < 0 := nI_pos (by omega)
    have h4 : nI n ≤ 4 := nI_le (b := 4) (by omega) (by omega)
    rcases rb_2 v2 v3 with ⟨l0, h0, l1, h1, hp, hq⟩ | hN
    · have ⟨a1, a2⟩ := rb_Iv_le hp
      have ⟨b1, b2⟩ := rb_Iv_le hq
      refine rx_isUnit hn (br_f (by decide) (rx_two hp hq (rx_same hn hp hq (fun s hs => ?_))))
      have key : ∀ r, (∀ s', rb_sI u n l0 l1 h1 (h0 + 1) l1 s' → (s'.2 = 0 → (s'.1 = 0 → 2 = r) ∧ (¬ s'.1 = 0 → 1 = r)) ∧ (¬ s'.2 = 0 → (s'.1 = 0 → (s'.1 = 0 → 2 = r) ∧ (¬ s'.1 = 0 → 1 = r)) ∧ (¬ s'.1 = 0 → 0 = r))) →
          ((nI n < 0 → (-1 : Int32) = r ∧ i_Rel (k + 4) u (f0, f1, f2, f3, u)) ∧ (¬ nI n < 0 → (nI n ≤ 4 → wpY_take (fun r_3 w => match w with | (g0, g1, g2, g3, b) => (r_3 = 0 → (-2 : Int32) = r ∧ i_Rel (k + 4) u (g0, g1, g2, g3, b)) ∧ (¬ r_3 = 0 → ∃ n35, wY_fixed_35 (fun r' v' => r' = r ∧ i_Rel (k + 4) u v') (nI n) g0 g1 g2 g3 b n35 0 0 g0)) (f0, f1, f2, f3, u) v2 v3) ∧ (¬ nI n ≤ 4 → (-1 : Int32) = r ∧ i_Rel (k + 4) u (f0, f1, f2, f3, u)))) := by
        intro r hr
        refine br_f hz (br_t h4 (ry_take u hp hq (br_f (by decide) (ry_same hn a1 a2 b1 b2 (fun s' hs' => ?_)))))
        have hh := hr s' hs'
        have hR : i_Rel (k + 4) u (rb_x l0, rb_x h0, rb_x l1, rb_x h1, u) := ⟨rfl, ok⟩
        exact ⟨fun y => ⟨fun w => ⟨(hh.1 y).1 w, hR⟩, fun w => ⟨(hh.1 y).2 w, hR⟩⟩, fun y => ⟨fun w => ⟨fun w' => ⟨((hh.2 y).1 w).1 w', hR⟩, fun w' => absurd w w'⟩, fun w => ⟨(hh.2 y).2 w, hR⟩⟩⟩
      obtain ⟨s1, s2⟩ := s
      obtain ⟨t1, t2⟩ := hs
      have hU : ∀ s', rb_sI u n l0 l1 h1 (h0 + 1) l1 s' → s'.1 = s1 ∧ s'.2 = s2 := fun s' hs' => ⟨rb_Seen_u hs'.1 t1, rb_Seen_u hs'.2 t2⟩
      have hne : ¬ (s1 = 0 ∧ s2 = 0) := by
        rintro ⟨rfl, rfl⟩
        have hv : rb_V l0 l1 h1 (h0 + 1) l1 h0 h1 := rb_V_e ⟨a1, Nat.le_refl _, b1, Nat.le_refl _⟩
        rcases t1 with ⟨_, g1⟩ | ⟨g1, _⟩
        · rcases t2 with ⟨_, g2⟩ | ⟨g2, _⟩
          · exact g2 h0 h1 hv (g1 h0 h1 hv)
          · exact absurd g2.symm rb_10
        · exact absurd g1.symm rb_10
      by_cases e1 : s1 = 0
      · have e2 : ¬ s2 = 0 := fun e2 => hne ⟨e1, e2⟩
        refine br_t e1 (br_f e2 (key 2 (fun s' hs' => ?_)))
        rw [(hU s' hs').1, (hU s' hs').2]
        exact br_f e2 (br_t e1 (br_t e1 rfl))
      · by_cases e2 : s2 = 0
        · refine br_f e1 (br_t e2 (br_t e2 (key 1 (fun s' hs' => ?_))))
          rw [(hU s' hs').1, (hU s' hs').2]
          exact br_t e2 (br_f e1 rfl)
        · refine br_f e1 (br_f e2 (key 0 (fun s' hs' => ?_)))
          rw [(hU s' hs').1, (hU s' hs').2]
          exact br_f e2 (br_f e1 rfl)
    · exact rx_isUnit hn (br_f (by decide) (rx_twoN hN (br_f hz (br_t h4 (ry_takeN u hN (br_t rfl ⟨rfl, rfl, ok⟩))))))
theorem i_vc_radius {k : Nat} {u : SX} {v : SY} (I : i_Rel k u v) (hk : k + 4 ≤ 2048) (v1 : Int32) (v2 : Int32) (v3 : Int32) : wpX_radius (fun r => wpY_radius (fun r' v' => r' = r ∧ i_Rel (k + 4) u v') v v1 v2 v3) u v1 v2 v3 := by
  obtain ⟨f0, f1, f2, f3, rfl, ok⟩ := rb_rel I
  unfold wpX_radius wpY_radius
  dsimp only
  rcases rb_inp v1 with ⟨i, hi, rfl⟩ | h1
  · rcases rb_inp v2 with ⟨j, hj, rfl⟩ | h2
    · refine rx_inp hi (br_f (by decide) (rx_inp hj (br_f (by decide) (rx_near hi hj (fun d hd hn => ?_)))))
      have key : ∀ r, rb_rad d = r → wpY_bad (fun r_1 => (r_1 = 0 → wpY_bad (fun r_8 => (r_8 = 0 → ∃ n21, wY_radius_21 (fun r' v' => r' = r ∧ i_Rel (k + 4) u v') (rb_x i) (rb_x j) v3 u n21 0 f0 f1 f2 f3) ∧ (¬ r_8 = 0 → (-1 : Int32) = r ∧ i_Rel (k + 4) u (f0, f1, f2, f3, u))) (f0, f1, f2, f3, u) (rb_x j)) ∧ (¬ r_1 = 0 → (-1 : Int32) = r ∧ i_Rel (k + 4) u (f0, f1, f2, f3, u))) (f0, f1, f2, f3, u) (rb_x i) := by
        intro r hr
        refine ry_bad hi (br_t rfl (ry_bad hj (br_t rfl ⟨33, ry_radL hi hj (fun d' hn' g0 g1 g2 g3 => ?_) 32 0 rfl (fun _ _ _ _ _ => Nat.zero_le _) f0 f1 f2 f3⟩)))
        obtain rfl := rb_Near_u hi hj hn hn'
        exact ⟨hr, rfl, ok⟩
      by_cases h0 : d = 0
      · subst h0
        exact br_t rfl (key (-2) rfl)
      · refine br_f (nI_ne0 (by omega) (by omega)) (key _ ?_)
        have e : nI d - 1 = nI (d - 1) := pk_sub (b := 1) (by omega)
        rw [e]
        exact if_neg h0
    · exact rx_inp hi (br_f (by decide) (rx_inpN h2 (br_t rfl (ry_bad hi (br_t rfl (ry_badN h2 (br_f (by decide) ⟨rfl, rfl, ok⟩)))))))
  · exact rx_inpN h1 (br_t rfl (ry_badN h1 (br_f (by decide) ⟨rfl, rfl, ok⟩)))
theorem i_vc_patterns {k : Nat} {u : SX} {v : SY} (I : i_Rel k u v) (hk : k + 4 ≤ 2048) (v1 : Int32) (v2 : Int32) : wpX_patterns (fun r => wpY_patterns (fun r' v' => r' = r ∧ i_Rel (k + 4) u v') v v1 v2) u v1 v2 := by
  obtain ⟨f0, f1, f2, f3, rfl, ok⟩ := rb_rel I
  unfold wpX_patterns wpY_patterns
  dsimp only
  rcases rb_2 v1 v2 with ⟨l0, h0, l1, h1, hp, hq⟩ | hN
  · have ⟨a1, a2⟩ := rb_Iv_le hp
    have ⟨b1, b2⟩ := rb_Iv_le hq
    refine rx_two hp hq (rx_highI hp (rx_lowI hq (rx_highI hq (rx_lowI hp (rx_pats a1 a2 b1 b2 (fun s hs => ry_take u hp hq (br_f (by decide) (ry_pats a1 a2 b1 b2 (fun s' hs' => ⟨?_, rfl, ok⟩)))))))))
    rw [rb_Or_u hs' hs]
  · exact rx_twoN hN (ry_takeN u hN (br_t rfl ⟨rfl, rfl, ok⟩))
end
section
theorem rb_end : rb_cap 0 = 5 := rfl
end
