/-! the reference's methods, each against the same pure value -/
section
variable {f0 f1 f2 f3 : Int32} (a : Nat → Int32)
theorem ry_clip {post : Int32 → Prop} {t : Int32} (h : post (rb_clip t)) : wpY_clip post (f0, f1, f2, f3, a) t := by
  unfold rb_clip at h
  refine br_c (fun z => ?_) (fun z => ?_)
  · rw [if_neg (Int32.not_lt.mpr z)] at h
    exact h
  · rw [if_pos (Int32.not_le.mp z)] at h
    exact h
theorem ry_inn {post : Int32 → Prop} {k : Nat} (hk : k < 3) (x y : Int32) (h : post (rb_inn a k x y)) : wpY_inner post (f0, f1, f2, f3, a) (nI k) x y := by
  unfold wpY_inner
  dsimp only
  rw [rb_i2, rb_i1, rb_i3, nI_clamp (n := 2 * k) (by omega), nI_clamp (n := 2 * k + 1) (by omega), nI_clamp (n := 6 + k) (by omega)]
  exact ⟨vp_in_nI (by omega) (by omega), vp_in_nI (by omega) (by omega), vp_in_nI (by omega) (by omega), ry_clip a h⟩
theorem ry_outL {post : Int32 → Prop} {k : Nat} (hk : k < 2) (x y : Int32) (h : post (rb_out a k x y)) : ∀ d i, i + d = 3 → wY_outer_14 post (nI k) x y f0 f1 f2 f3 a (d + 1) (rb_sum a k x y i) (nI i) := by
  intro d
  induction d with
  | zero =>
    intro i hi
    obtain rfl : i = 3 := by omega
    exact br_t (nI_le (a := 3) (b := 3) (by omega) (by omega)) (ry_clip a h)
  | succ d ih =>
    intro i hi
    refine br_f (nI_ge (b := 3) (by omega) (by omega)) ?_
    rw [rb_i4, nI_clamp (n := 9 + 3 * k + i) (by omega)]
    exact ⟨vp_in_nI (by omega) (by omega), ry_inn a (by omega) x y (nm_e (nm_r (nI_1 i) (ih (i + 1) (by omega))))⟩
theorem ry_out {post : Int32 → Prop} {k : Nat} (hk : k < 2) (x y : Int32) (h : post (rb_out a k x y)) : wpY_outer post (f0, f1, f2, f3, a) (nI k) x y := by
  unfold wpY_outer
  dsimp only
  rw [rb_i5, nI_clamp (n := 15 + k) (by omega)]
  exact ⟨vp_in_nI (by omega) (by omega), nm_e ⟨4, ry_outL a hk x y h 3 0 rfl⟩⟩
theorem ry_res {post : Int32 → Prop} (x y : Int32) (h : post (rb_res a x y)) : wpY_given post (f0, f1, f2, f3, a) x y := by
  unfold wpY_given
  dsimp only
  exact ry_out a (k := 0) (by omega) x y (ry_out a (k := 1) (by omega) x y h)
theorem ry_unit {post : Int32 → Prop} {u : Nat} (hu : u < 5) (x y : Int32) (h : post (rb_unit a u x y)) : wpY_unitGiven post (f0, f1, f2, f3, a) (nI u) x y := by
  unfold rb_unit at h
  refine br_c (fun z => ?_) (fun z => ?_)
  · have h3 : 3 ≤ u := (nI_leI (a := 3) (by omega) (by omega)).mp z
    rw [if_neg (by omega)] at h
    have e : nI u - 3 = nI (u - 3) := pk_sub (b := 3) h3
    rw [e]
    exact ry_out a (by omega) x y h
  · have h3 : u < 3 := Nat.not_le.mp (fun q => z (nI_le (a := 3) q (by omega)))
    rw [if_pos h3] at h
    exact ry_inn a h3 x y h
theorem ry_patL {post : Int32 → Prop} (x y : Int32) (h : post (rb_pat a x y 5)) : ∀ d u, u + d = 5 → wY_marks_5 post x y f0 f1 f2 f3 a (d + 1) (rb_pat a x y u) (nI u) := by
  intro d
  induction d with
  | zero =>
    intro u hu
    obtain rfl : u = 5 := by omega
    exact br_t (nI_le (a := 5) (b := 5) (by omega) (by omega)) h
  | succ d ih =>
    intro u hu
    have ih2 := ih (u + 1) (by omega)
    simp only [rb_pat] at ih2
    refine br_f (nI_ge (b := 5) (by omega) (by omega)) (ry_unit a (by omega) x y (br_c (fun z => nm_r (nI_1 u) ?_) (fun z => nm_e (nm_r (nI_1 u) ?_))))
    · rw [if_neg (Int32.not_lt.mpr z)] at ih2
      exact ih2
    · rw [if_pos (Int32.not_le.mp z)] at ih2
      exact ih2
theorem ry_pat {post : Int32 → Prop} (x y : Int32) (h : post (rb_pat a x y 5)) : wpY_marks post (f0, f1, f2, f3, a) x y := ⟨6, ry_patL a x y h 5 0 rfl⟩
theorem ry_cntL {post : Int32 → SY → Prop} (s : Int32) (h : post (rb_cnt s 32) (f0, f1, f2, f3, a)) : ∀ d k, k + d = 32 → wY_patterns_74 post s f0 f1 f2 f3 a (d + 1) (rb_cnt s k) (nI k) := by
  intro d
  induction d with
  | zero =>
    intro k hk
    obtain rfl : k = 32 := by omega
    exact br_t (nI_le (a := 32) (b := 32) (by omega) (by omega)) h
  | succ d ih =>
    intro k hk
    exact br_f (nI_ge (b := 32) (by omega) (by omega)) (nm_r (congrArg (rb_cnt s k + ·) (rb_bit s k (by omega))) (nm_r (nI_1 k) (ih (k + 1) (by omega))))
theorem ry_iv {post : Int32 → Prop} {x : Int32} {l h : Nat} (hv : rb_Iv x l h) (hp : post 0) : wpY_badInterval post (f0, f1, f2, f3, a) x := by
  obtain ⟨n, hn, rfl, rfl, rfl, hl⟩ := hv
  unfold wpY_badInterval
  dsimp only
  rw [rb_rem32 hn, rb_div32 hn]
  exact br_f (nI_pos (by omega)) (br_f (nI_nlt (a := 1023) (by omega) (by omega)) ⟨by decide, by decide, br_t (nI_le hl (by omega)) hp⟩)
theorem ry_nv {post : Int32 → Prop} {x : Int32} (hv : rb_Nv x) (hp : post 1) : wpY_badInterval post (f0, f1, f2, f3, a) x := by
  rcases hv with hv | hv | ⟨n, hn, rfl, hl⟩
  · exact br_t hv hp
  · exact br_c (fun _ => hp) (fun _ => br_t hv hp)
  · unfold wpY_badInterval
    dsimp only
    rw [rb_rem32 hn, rb_div32 hn]
    exact br_f (nI_pos (by omega)) (br_f (nI_nlt (a := 1023) (by omega) (by omega)) ⟨by decide, by decide, br_f (nI_ge hl (by omega)) hp⟩)
theorem ry_take {post : Int32 → SY → Prop} {p q : Int32} {l0 h0 l1 h1 : Nat} (hp : rb_Iv p l0 h0) (hq : rb_Iv q l1 h1) (h : post 1 (rb_x l0, rb_x h0, rb_x l1, rb_x h1, a)) : wpY_take post (f0, f1, f2, f3, a) p q := by
  unfold wpY_take
  dsimp only
  refine ry_iv a hp (br_t rfl (ry_iv a hq (br_t rfl ?_)))
  obtain ⟨n, hn, rfl, rfl, rfl, hl⟩ := hp
  obtain ⟨m, hm, rfl, rfl, rfl, hl'⟩ := hq
  rw [rb_rem32 hn, rb_div32 hn, rb_rem32 hm, rb_div32 hm]
  exact ⟨by decide, nm_r (rb_x_s _) ⟨by decide, nm_r (rb_x_s _) ⟨by decide, nm_r (rb_x_s _) ⟨by decide, nm_r (rb_x_s _) h⟩⟩⟩⟩
theorem ry_takeN {post : Int32 → SY → Prop} {p q : Int32} (hv : rb_Nv p ∨ rb_Nv q) (h : post 0 (f0, f1, f2, f3, a)) : wpY_take post (f0, f1, f2, f3, a) p q := by
  unfold wpY_take
  dsimp only
  rcases rb_iv p with ⟨l, h', hp⟩ | hp
  · rcases hv with hv | hv
    · exact ry_nv a hv (br_f (by decide) h)
    · exact ry_iv a hp (br_t rfl (ry_nv a hv (br_f (by decide) h)))
  · exact ry_nv a hp (br_f (by decide) h)
end
