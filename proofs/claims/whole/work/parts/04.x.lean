/-! the class's own methods, each against its pure value -/
theorem rb_nlt {i h : Nat} (hi : i ≤ h) (hh : h < 32) : ¬ rb_x h < rb_x i := fun z => by
  have := (rb_x_lt (by omega) (by omega)).mp z
  omega
theorem rb_ltS {h : Nat} (hh : h < 32) : rb_x h < rb_x (h + 1) := (rb_x_lt (by omega) (by omega)).mpr (by omega)
theorem rx_clip {post : Int32 → Prop} {t : Int32} (h : post (rb_clip t)) : wpX_clip post t := by
  unfold rb_clip at h
  refine br_c (fun z => ?_) (fun z => ?_)
  · rw [if_neg (Int32.not_lt.mpr z)] at h
    exact h
  · rw [if_pos (Int32.not_le.mp z)] at h
    exact h
theorem rb_i1 (k : Nat) : 2 * nI k = nI (2 * k) := pk_mul 2 k
theorem rb_i2 (k : Nat) : 2 * nI k + 1 = nI (2 * k + 1) := by rw [rb_i1, nI_1]
theorem rb_i3 (k : Nat) : 6 + nI k = nI (6 + k) := nI_add 6 k
theorem rb_i4 (k i : Nat) : 9 + 3 * nI k + nI i = nI (9 + 3 * k + i) := by
  rw [← nI_add, ← nI_add, ← pk_mul]
  rfl
theorem rb_i5 (k : Nat) : 15 + nI k = nI (15 + k) := nI_add 15 k
theorem rx_inn {post : Int32 → Prop} (a : Nat → Int32) {k : Nat} (hk : k < 3) (x y : Int32) (h : post (rb_inn a k x y)) : wpX_innerAt post a (nI k) x y := by
  unfold wpX_innerAt
  rw [rb_i2, rb_i1, rb_i3, nI_clamp (n := 2 * k) (by omega), nI_clamp (n := 2 * k + 1) (by omega), nI_clamp (n := 6 + k) (by omega)]
  exact ⟨vp_in_nI (by omega) (by omega), vp_in_nI (by omega) (by omega), vp_in_nI (by omega) (by omega), nm_e (rx_clip h)⟩
theorem rx_outL {post : Int32 → Prop} (a : Nat → Int32) {k : Nat} (hk : k < 2) (x y : Int32) (h : post (rb_out a k x y)) : ∀ d i, i + d = 3 → wX_outerAt_14 post (nI k) x y a (d + 1) (rb_sum a k x y i) (nI i) := by
  intro d
  induction d with
  | zero =>
    intro i hi
    obtain rfl : i = 3 := by omega
    exact br_t (nI_le (a := 3) (b := 3) (by omega) (by omega)) (rx_clip h)
  | succ d ih =>
    intro i hi
    refine br_f (nI_ge (b := 3) (by omega) (by omega)) ?_
    rw [rb_i4, nI_clamp (n := 9 + 3 * k + i) (by omega)]
    exact ⟨vp_in_nI (by omega) (by omega), rx_inn a (by omega) x y (nm_e (nm_r (nI_1 i) (ih (i + 1) (by omega))))⟩
theorem rx_out {post : Int32 → Prop} (a : Nat → Int32) {k : Nat} (hk : k < 2) (x y : Int32) (h : post (rb_out a k x y)) : wpX_outerAt post a (nI k) x y := by
  unfold wpX_outerAt
  rw [rb_i5, nI_clamp (n := 15 + k) (by omega)]
  exact ⟨vp_in_nI (by omega) (by omega), nm_e ⟨4, rx_outL a hk x y h 3 0 rfl⟩⟩
theorem rx_res {post : Int32 → Prop} (a : Nat → Int32) (x y : Int32) (h : post (rb_res a x y)) : wpX_resultAt post a x y := by
  unfold wpX_resultAt
  exact rx_out a (k := 0) (by omega) x y (rx_out a (k := 1) (by omega) x y h)
theorem rx_unit {post : Int32 → Prop} (a : Nat → Int32) {u : Nat} (hu : u < 5) (x y : Int32) (h : post (rb_unit a u x y)) : wpX_unitAt post a (nI u) x y := by
  unfold rb_unit at h
  refine br_c (fun z => ?_) (fun z => ?_)
  · have h3 : 3 ≤ u := (nI_leI (a := 3) (by omega) (by omega)).mp z
    rw [if_neg (by omega)] at h
    have e : nI u - 3 = nI (u - 3) := pk_sub (b := 3) h3
    rw [e]
    exact rx_out a (by omega) x y h
  · have h3 : u < 3 := Nat.not_le.mp (fun q => z (nI_le (a := 3) q (by omega)))
    rw [if_pos h3] at h
    exact rx_inn a h3 x y h
theorem rx_patL {post : Int32 → Prop} (a : Nat → Int32) (x y : Int32) (h : post (rb_pat a x y 5)) : ∀ d u, u + d = 5 → wX_patternAt_5 post x y a (d + 1) (rb_pat a x y u) (nI u) := by
  intro d
  induction d with
  | zero =>
    intro u hu
    obtain rfl : u = 5 := by omega
    exact br_t (nI_le (a := 5) (b := 5) (by omega) (by omega)) h
  | succ d ih =>
    intro u hu
    have ih2 := ih (u + 1) (by omega)
    simp only [rb_pat] at ih2
    refine br_f (nI_ge (b := 5) (by omega) (by omega)) (rx_unit a (by omega) x y (br_c (fun z => nm_r (nI_1 u) ?_) (fun z => nm_e (nm_r (nI_1 u) ?_))))
    · rw [if_neg (Int32.not_lt.mpr z)] at ih2
      exact ih2
    · rw [if_pos (Int32.not_le.mp z)] at ih2
      exact ih2
theorem rx_pat {post : Int32 → Prop} (a : Nat → Int32) (x y : Int32) (h : post (rb_pat a x y 5)) : wpX_patternAt post a x y := ⟨6, rx_patL a x y h 5 0 rfl⟩
theorem rx_cntL {post : Int32 → Prop} (s : Int32) (h : post (rb_cnt s 32)) : ∀ d k, k + d = 32 → wX_countOf_4 post s (d + 1) (rb_cnt s k) (nI k) := by
  intro d
  induction d with
  | zero =>
    intro k hk
    obtain rfl : k = 32 := by omega
    exact br_t (nI_le (a := 32) (b := 32) (by omega) (by omega)) h
  | succ d ih =>
    intro k hk
    exact br_f (nI_ge (b := 32) (by omega) (by omega)) (nm_e (nm_r (nI_1 k) (ih (k + 1) (by omega))))
theorem rx_cnt {post : Int32 → Prop} (s : Int32) (h : post (rb_cnt s 32)) : wpX_countOf post s := ⟨33, rx_cntL s h 32 0 rfl⟩
theorem rx_low {post : Int32 → Prop} {n : Nat} (hn : n < 1024) (h : post (rb_x (n / 32))) : wpX_lowOf post (nI n) := ⟨by decide, by rw [rb_div32 hn]; exact h⟩
theorem rx_high {post : Int32 → Prop} {n : Nat} (hn : n < 1024) (h : post (rb_x (n % 32))) : wpX_highOf post (nI n) := ⟨by decide, by rw [rb_rem32 hn]; exact h⟩
theorem rx_lowI {post : Int32 → Prop} {x : Int32} {l h : Nat} (hv : rb_Iv x l h) (hp : post (rb_x l)) : wpX_lowOf post x := by
  obtain ⟨n, hn, rfl, rfl, rfl, hl⟩ := hv
  exact rx_low hn hp
theorem rx_highI {post : Int32 → Prop} {x : Int32} {l h : Nat} (hv : rb_Iv x l h) (hp : post (rb_x h)) : wpX_highOf post x := by
  obtain ⟨n, hn, rfl, rfl, rfl, hl⟩ := hv
  exact rx_high hn hp
theorem rx_iv {post : Int32 → Prop} {x : Int32} {l h : Nat} (hv : rb_Iv x l h) (hp : post 1) : wpX_isInterval post x := by
  obtain ⟨n, hn, rfl, rfl, rfl, hl⟩ := hv
  exact br_f (nI_pos (by omega)) (br_f (nI_nlt (a := 1023) (by omega) (by omega)) (rx_low hn (rx_high hn (br_f (rb_nlt hl (by omega)) hp))))
theorem rx_nv {post : Int32 → Prop} {x : Int32} (hv : rb_Nv x) (hp : post 0) : wpX_isInterval post x := by
  rcases hv with hv | hv | ⟨n, hn, rfl, hl⟩
  · exact br_t hv hp
  · exact br_c (fun _ => hp) (fun _ => br_t hv hp)
  · exact br_f (nI_pos (by omega)) (br_f (nI_nlt (a := 1023) (by omega) (by omega)) (rx_low hn (rx_high hn (br_t ((rb_x_lt (by omega) (by omega)).mpr hl) hp))))
theorem rx_two {P Q : Prop} {p q : Int32} {l0 h0 l1 h1 : Nat} (hp : rb_Iv p l0 h0) (hq : rb_Iv q l1 h1) (h : Q) : wpX_isInterval (fun r => (r = 0 → P) ∧ (¬ r = 0 → wpX_isInterval (fun r' => (r' = 0 → P) ∧ (¬ r' = 0 → Q)) q)) p :=
  rx_iv hp (br_f (by decide) (rx_iv hq (br_f (by decide) h)))
theorem rx_twoN {P Q : Prop} {p q : Int32} (hv : rb_Nv p ∨ rb_Nv q) (h : P) : wpX_isInterval (fun r => (r = 0 → P) ∧ (¬ r = 0 → wpX_isInterval (fun r' => (r' = 0 → P) ∧ (¬ r' = 0 → Q)) q)) p := by
  rcases rb_iv p with ⟨l, h', hp⟩ | hp
  · rcases hv with hv | hv
    · exact rx_nv hv (br_t rfl h)
    · exact rx_iv hp (br_f (by decide) (rx_nv hv (br_t rfl h)))
  · exact rx_nv hp (br_t rfl h)
