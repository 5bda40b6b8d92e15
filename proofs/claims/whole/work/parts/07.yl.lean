/-! the reference's double loops -/
theorem ry_ext {post : Int32 → Prop} {a : Nat → Int32} {sg : Int32} {l0 h0 l1 h1 : Nat} (a1 : l0 ≤ h0) (a2 : h0 < 32) (b1 : l1 ≤ h1) (b2 : h1 < 32) (hb : ∀ i j, i < 32 → j < 32 → rb_B (sg * rb_f a i j) 32050)
    (h : ∀ g, rb_Max Int32.toInt (fun i j => sg * rb_f a i j) l0 h0 l1 h1 g → post (sg * g)) : wpY_extreme post (rb_x l0, rb_x h0, rb_x l1, rb_x h1, a) sg := by
  refine ⟨(h0 + 1 - l0) + 1, ?_⟩
  refine rb_nest (σ := Int32) (fun n i s => wY_extreme_8 post sg (rb_x l0) (rb_x h0) (rb_x l1) (rb_x h1) a n s (rb_x i))
    (fun n i m j s => wY_extreme_22 post (wY_extreme_8 post sg (rb_x l0) (rb_x h0) (rb_x l1) (rb_x h1) a n) sg (rb_x i) (rb_x l0) (rb_x h0) (rb_x l1) (rb_x h1) a m s (rb_x j))
    (rb_mI Int32.toInt (fun i j => sg * rb_f a i j) l0 h0 l1 h1 (-1000000)) l0 h0 l1 h1 (by omega)
    (fun n s hI => br_t (rb_ltS a2) (h s (rb_mI_e hI ⟨h0, h1, ⟨a1, Nat.le_refl _, b1, Nat.le_refl _⟩, Or.inr ?_⟩)))
    (fun n i s hi hi' hN => br_f (rb_nlt hi' a2) hN)
    (fun n i m s hi hi' hO => br_t (rb_ltS b2) (nm_r (rb_x_1 i) hO))
    (fun n i m j s hi hi' hj hj' hI hN => br_f (rb_nlt hj' b2) (ry_res a _ _ (nm_e (br_c (fun z => nm_r (rb_x_1 j) (hN s (rb_mI_k hI (Int32.le_iff_toInt_le.mp z)))) (fun z => nm_r (rb_x_1 j) (hN _ (rb_mI_t (f := fun i j => sg * rb_f a i j) hI ⟨hi, hi', hj, hj'⟩ (Int.le_of_lt (Int32.lt_iff_toInt_lt.mp (Int32.not_le.mp z))))))))))
    (fun i s _ _ hI => rb_mI_n hI)
    (h0 + 1 - l0) l0 _ (by omega) (Nat.le_refl _) (rb_mI_0 _)
  have hB := hb h0 h1 a2 b2
  unfold rb_B at hB
  rw [show (-1000000 : Int32).toInt = -1000000 from by decide]
  show -1000000 < (sg * rb_f a h0 h1).toInt
  omega
theorem ry_first {post : Int32 → Prop} {a : Nat → Int32} {lim : Int32} {l0 h0 l1 h1 : Nat} (a1 : l0 ≤ h0) (a2 : h0 < 32) (b1 : l1 ≤ h1) (b2 : h1 < 32) (h : ∀ r, rb_First (rb_f a) lim l0 h0 l1 h1 r → post r) : wpY_above post (rb_x l0, rb_x h0, rb_x l1, rb_x h1, a) lim := by
  refine ⟨(h0 + 1 - l0) + 1, ?_⟩
  refine rb_nest (σ := Unit) (fun n i s => wY_above_5 post lim (rb_x l0) (rb_x h0) (rb_x l1) (rb_x h1) a n (rb_x i))
    (fun n i m j s => wY_above_18 post (wY_above_5 post lim (rb_x l0) (rb_x h0) (rb_x l1) (rb_x h1) a n) lim (rb_x i) (rb_x l0) (rb_x h0) (rb_x l1) (rb_x h1) a m (rb_x j))
    (rb_aI (rb_f a) lim l0 l1 h1) l0 h0 l1 h1 (by omega)
    (fun n s hI => br_t (rb_ltS a2) (h (-2) (Or.inr ⟨fun i j hb => hI i j (rb_V_e hb), rfl⟩)))
    (fun n i s hi hi' hN => br_f (rb_nlt hi' a2) hN)
    (fun n i m s hi hi' hO => br_t (rb_ltS b2) (nm_r (rb_x_1 i) hO))
    (fun n i m j s hi hi' hj hj' hI hN => br_f (rb_nlt hj' b2) (ry_res a _ _ (br_c (fun z => nm_r (rb_x_1 j) (hN s (rb_aI_k hI (Int32.not_lt.mpr z)))) (fun z => ?_))))
    (fun i s _ _ hI i' j' hv => hI i' j' (rb_V_n hv))
    (h0 + 1 - l0) l0 () (by omega) (Nat.le_refl _) (fun i' j' hv => absurd hv rb_V_0)
  show post (32 * (rb_x i + 16) + rb_x j + 16)
  rw [rb_pairY]
  exact h _ (Or.inl ⟨i, j, ⟨hi, hi', hj, hj'⟩, Int32.not_le.mp z, hI, rfl⟩)
theorem ry_same {post : Int32 → SY → Prop} {a : Nat → Int32} {u : Nat} (hu : u < 5) {l0 h0 l1 h1 : Nat} (a1 : l0 ≤ h0) (a2 : h0 < 32) (b1 : l1 ≤ h1) (b2 : h1 < 32)
    (h : ∀ s, rb_sI a u l0 l1 h1 (h0 + 1) l1 s → (s.2 = 0 → (s.1 = 0 → post 2 (rb_x l0, rb_x h0, rb_x l1, rb_x h1, a)) ∧ (¬ s.1 = 0 → post 1 (rb_x l0, rb_x h0, rb_x l1, rb_x h1, a))) ∧ (¬ s.2 = 0 → (s.1 = 0 → (s.1 = 0 → post 2 (rb_x l0, rb_x h0, rb_x l1, rb_x h1, a)) ∧ (¬ s.1 = 0 → post 1 (rb_x l0, rb_x h0, rb_x l1, rb_x h1, a))) ∧ (¬ s.1 = 0 → post 0 (rb_x l0, rb_x h0, rb_x l1, rb_x h1, a)))) :
    ∃ n, wY_fixed_35 post (nI u) (rb_x l0) (rb_x h0) (rb_x l1) (rb_x h1) a n 0 0 (rb_x l0) :=
  ⟨(h0 + 1 - l0) + 1, rb_nest (σ := Int32 × Int32) (fun n i s => wY_fixed_35 post (nI u) (rb_x l0) (rb_x h0) (rb_x l1) (rb_x h1) a n s.2 s.1 (rb_x i))
    (fun n i m j s => wY_fixed_50 post (wY_fixed_35 post (nI u) (rb_x l0) (rb_x h0) (rb_x l1) (rb_x h1) a n) (nI u) (rb_x i) (rb_x l0) (rb_x h0) (rb_x l1) (rb_x h1) a m s.2 s.1 (rb_x j))
    (rb_sI a u l0 l1 h1) l0 h0 l1 h1 (by omega)
    (fun n s hI => br_t (rb_ltS a2) (h s hI))
    (fun n i s hi hi' hN => br_f (rb_nlt hi' a2) hN)
    (fun n i m s hi hi' hO => br_t (rb_ltS b2) (nm_r (rb_x_1 i) hO))
    (fun n i m j s hi hi' hj hj' hI hN => br_f (rb_nlt hj' b2) (ry_unit a hu _ _ (br_c (fun z => nm_r (rb_x_1 j) (hN (1, s.2) ⟨rb_Seen_t hi hj hj' z, rb_Seen_k hI.2 (fun w => w z)⟩)) (fun z => nm_r (rb_x_1 j) (hN (s.1, 1) ⟨rb_Seen_k hI.1 z, rb_Seen_t hi hj hj' z⟩)))))
    (fun i s _ _ hI => ⟨rb_Seen_n hI.1, rb_Seen_n hI.2⟩)
    (h0 + 1 - l0) l0 (0, 0) (by omega) (Nat.le_refl _) ⟨rb_Seen_0, rb_Seen_0⟩⟩
theorem ry_pats {post : Int32 → SY → Prop} {a : Nat → Int32} {l0 h0 l1 h1 : Nat} (a1 : l0 ≤ h0) (a2 : h0 < 32) (b1 : l1 ≤ h1) (b2 : h1 < 32) (h : ∀ s, rb_Or (rb_g a) l0 l1 h1 (h0 + 1) l1 s → post (rb_cnt s 32) (rb_x l0, rb_x h0, rb_x l1, rb_x h1, a)) : ∃ n, wY_patterns_19 post (rb_x l0) (rb_x h0) (rb_x l1) (rb_x h1) a n 0 (rb_x l0) :=
  ⟨(h0 + 1 - l0) + 1, rb_nest (σ := Int32) (fun n i s => wY_patterns_19 post (rb_x l0) (rb_x h0) (rb_x l1) (rb_x h1) a n s (rb_x i))
    (fun n i m j s => wY_patterns_34 post (wY_patterns_19 post (rb_x l0) (rb_x h0) (rb_x l1) (rb_x h1) a n) (rb_x i) (rb_x l0) (rb_x h0) (rb_x l1) (rb_x h1) a m s (rb_x j))
    (rb_Or (rb_g a) l0 l1 h1) l0 h0 l1 h1 (by omega)
    (fun n s hI => br_t (rb_ltS a2) ⟨33, ry_cntL a s (h s hI) 32 0 rfl⟩)
    (fun n i s hi hi' hN => br_f (rb_nlt hi' a2) hN)
    (fun n i m s hi hi' hO => br_t (rb_ltS b2) (nm_r (rb_x_1 i) hO))
    (fun n i m j s hi hi' hj hj' hI hN => br_f (rb_nlt hj' b2) (ry_pat a _ _ (nm_e (nm_r (rb_x_1 j) (hN _ (rb_Or_t hi hj hj' hI))))))
    (fun i s _ _ hI => rb_Or_n hI)
    (h0 + 1 - l0) l0 0 (by omega) (Nat.le_refl _) rb_Or_0⟩
/-! radius -/
def rb_rad (d : Nat) : Int32 := if d = 0 then -2 else nI (d - 1)
def rb_hi (p r : Nat) : Nat := if p + r < 31 then p + r else 31
theorem rb_hi_32 (p r : Nat) : rb_hi p r < 32 := by
  unfold rb_hi
  split <;> omega
theorem rb_hi_le {p r : Nat} (hp : p < 32) : p - r ≤ rb_hi p r := by
  unfold rb_hi
  split <;> omega
theorem rb_lo_b (C : Int32 → Prop) {p r : Nat} (hp : p < 32) (hr : r < 33) (h : C (rb_x (p - r))) : (-16 ≤ rb_x p - nI r → C (rb_x p - nI r)) ∧ (¬ -16 ≤ rb_x p - nI r → C (-16)) := by
  by_cases hc : p < r
  · refine br_f (Int32.not_le.mpr ((rb_lowc hp hr).mpr hc)) ?_
    rw [← rb_lit0, show 0 = p - r by omega]
    exact h
  · refine br_t (Int32.not_lt.mp (fun z => hc ((rb_lowc hp hr).mp z))) ?_
    rw [rb_x_subN (by omega)]
    exact h
theorem rb_hi_b (C : Int32 → Prop) {p r : Nat} (hp : p < 32) (hr : r < 33) (h : C (rb_x (rb_hi p r))) : (rb_x p + nI r ≤ 15 → C (rb_x p + nI r)) ∧ (¬ rb_x p + nI r ≤ 15 → C 15) := by
  unfold rb_hi at h
  by_cases hc : 31 < p + r
  · refine br_f (Int32.not_le.mpr ((rb_highc hp hr).mpr hc)) ?_
    rw [if_neg (by omega), rb_lit31] at h
    exact h
  · refine br_t (Int32.not_lt.mp (fun z => hc ((rb_highc hp hr).mp z))) ?_
    rw [rb_x_addN]
    by_cases hd : p + r < 31
    · rw [if_pos hd] at h
      exact h
    · rw [if_neg hd] at h
      rw [show p + r = 31 by omega]
      exact h
theorem ry_radL {post : Int32 → SY → Prop} {a : Nat → Int32} {p q : Nat} (hp : p < 32) (hq : q < 32) {lim : Int32} (h : ∀ d, rb_Near (rb_f a) lim p q d → ∀ f0 f1 f2 f3, post (rb_rad d) (f0, f1, f2, f3, a)) :
    ∀ d r, r + d = 32 → (∀ i j, i < 32 → j < 32 → lim < rb_f a i j → r ≤ rb_dist p q i j) → ∀ f0 f1 f2 f3, wY_radius_21 post (rb_x p) (rb_x q) lim a (d + 1) (nI r) f0 f1 f2 f3 := by
  intro d
  induction d with
  | zero =>
    intro r hr hi f0 f1 f2 f3
    obtain rfl : r = 32 := by omega
    exact br_t (nI_le (a := 32) (b := 32) (by omega) (by omega)) (h 32 ⟨hi, Or.inl rfl⟩ f0 f1 f2 f3)
  | succ d ih =>
    intro r hr hinv f0 f1 f2 f3
    refine br_f (nI_ge (b := 32) (by omega) (by omega)) ?_
    refine rb_lo_b (fun z => wY_radius_47 post (wY_radius_21 post (rb_x p) (rb_x q) lim a (d + 1)) (rb_x p) (rb_x q) lim (nI r) z f0 f1 f2 f3 a) hp (by omega) ?_
    refine rb_hi_b (fun z => wY_radius_69 post (wY_radius_21 post (rb_x p) (rb_x q) lim a (d + 1)) (rb_x p) (rb_x q) lim (nI r) z (rb_x (p - r)) f1 f2 f3 a) hp (by omega) ?_
    refine rb_lo_b (fun z => wY_radius_91 post (wY_radius_21 post (rb_x p) (rb_x q) lim a (d + 1)) (rb_x p) (rb_x q) lim (nI r) z (rb_x (p - r)) (rb_x (rb_hi p r)) f2 f3 a) hq (by omega) ?_
    refine rb_hi_b (fun z => wY_radius_113 post (wY_radius_21 post (rb_x p) (rb_x q) lim a (d + 1)) (rb_x p) (rb_x q) lim (nI r) z (rb_x (p - r)) (rb_x (rb_hi p r)) (rb_x (q - r)) f3 a) hq (by omega) ?_
    unfold wY_radius_113
    refine ry_first (rb_hi_le hp) (rb_hi_32 p r) (rb_hi_le hq) (rb_hi_32 q r) (fun w hw => ?_)
    have hneg := rb_First_neg (rb_hi_32 p r) (rb_hi_32 q r) hw
    refine br_c (fun z => nm_r (nI_1 r) (ih (r + 1) (by omega) (fun i j hi hj hf => ?_) _ _ _ _)) (fun z => ?_)
    · have h1 := hneg.mp z i j
      have h2 := rb_dist_box (r := r) hp hq hi hj
      have h3 : ¬ rb_dist p q i j ≤ r := fun y => h1 (h2.mp y) hf
      omega
    · have hnear : rb_Near (rb_f a) lim p q r := by
        refine ⟨hinv, Or.inr ?_⟩
        rcases hw with ⟨i, j, hb, hf, _, _⟩ | ⟨hn, _⟩
        · have hb2 := hb
          unfold rb_Bx at hb2
          have g1 := rb_hi_32 p r
          have g2 := rb_hi_32 q r
          have h2 := (rb_dist_box (r := r) hp hq (show i < 32 by omega) (show j < 32 by omega)).mpr hb
          have h3 := hinv i j (by omega) (by omega) hf
          exact ⟨i, j, by omega, by omega, hf, by omega⟩
        · exact absurd (hneg.mpr hn) z
      have hr2 := h r hnear
      unfold rb_rad at hr2
      by_cases h0 : r = 0
      · subst h0
        exact br_t rfl (hr2 _ _ _ _)
      · rw [if_neg h0] at hr2
        refine br_f (nI_ne0 (by omega) (by omega)) ?_
        have e : nI r - 1 = nI (r - 1) := pk_sub (b := 1) (by omega)
        rw [e]
        exact hr2 _ _ _ _
