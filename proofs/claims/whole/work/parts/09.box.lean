theorem rb_fB {a : Nat → Int32} (ok : rb_Ok a) {i j : Nat} (hi : i < 32) (hj : j < 32) : rb_B (rb_f a i j) 32050 := rb_resB ok (rb_x_B hi) (rb_x_B hj)
theorem rb_neg {x : Int32} (h : rb_B x 32050) : (-1 * x).toInt = - x.toInt := by
  unfold rb_B at h
  rw [Int32.toInt_mul, show (-1 : Int32).toInt = -1 from by decide, Int.bmod_eq_of_le (by omega) (by omega)]
  omega
theorem ry_max {post : Int32 → Prop} {a : Nat → Int32} (ok : rb_Ok a) {l0 h0 l1 h1 : Nat} (a1 : l0 ≤ h0) (a2 : h0 < 32) (b1 : l1 ≤ h1) (b2 : h1 < 32)
    (h : ∀ g, rb_Max Int32.toInt (rb_f a) l0 h0 l1 h1 g → post g) : wpY_extreme post (rb_x l0, rb_x h0, rb_x l1, rb_x h1, a) 1 := by
  have e : (fun i j => 1 * rb_f a i j) = rb_f a := by
    funext i j
    exact Int32.one_mul _
  refine ry_ext a1 a2 b1 b2 (fun i j hi hj => ?_) (fun g hg => ?_)
  · rw [Int32.one_mul]
    exact rb_fB ok hi hj
  · rw [e] at hg
    rw [Int32.one_mul]
    exact h g hg
theorem ry_min {post : Int32 → Prop} {a : Nat → Int32} (ok : rb_Ok a) {l0 h0 l1 h1 : Nat} (a1 : l0 ≤ h0) (a2 : h0 < 32) (b1 : l1 ≤ h1) (b2 : h1 < 32)
    (h : ∀ g, rb_Max rb_kn (rb_f a) l0 h0 l1 h1 g → post g) : wpY_extreme post (rb_x l0, rb_x h0, rb_x l1, rb_x h1, a) (-1) := by
  refine ry_ext a1 a2 b1 b2 (fun i j hi hj => ?_) (fun g hg => ?_)
  · have hB := rb_fB ok hi hj
    have hn := rb_neg hB
    unfold rb_B at *
    omega
  · obtain ⟨hA, i, j, hb, rfl⟩ := hg
    have e : -1 * (-1 * rb_f a i j) = rb_f a i j := by grind
    rw [e]
    refine h _ ⟨fun i' j' hb' => ?_, i, j, hb, rfl⟩
    have h1' := hA i' j' hb'
    unfold rb_Bx at hb hb'
    have n1 := rb_neg (rb_fB ok (i := i) (j := j) (by omega) (by omega))
    have n2 := rb_neg (rb_fB ok (i := i') (j := j') (by omega) (by omega))
    unfold rb_kn
    simp only [n1, n2] at h1'
    exact h1'
theorem rb_tI : ∀ x y : Int32, x.toInt = y.toInt → x = y := fun _ _ h => Int32.toInt_inj.mp h
theorem rb_kI : ∀ x y : Int32, rb_kn x = rb_kn y → x = y := fun _ _ h => Int32.toInt_inj.mp (Int.neg_inj.mp h)
theorem rb_2 (p q : Int32) : (∃ l0 h0 l1 h1, rb_Iv p l0 h0 ∧ rb_Iv q l1 h1) ∨ (rb_Nv p ∨ rb_Nv q) := by
  rcases rb_iv p with ⟨l0, h0, hp⟩ | hp
  · rcases rb_iv q with ⟨l1, h1, hq⟩ | hq
    · exact Or.inl ⟨l0, h0, l1, h1, hp, hq⟩
    · exact Or.inr (Or.inr hq)
  · exact Or.inr (Or.inl hp)
theorem i_vc_most {k : Nat} {u : SX} {v : SY} (I : i_Rel k u v) (hk : k + 4 ≤ 2048) (v1 : Int32) (v2 : Int32) : wpX_most (fun r => wpY_most (fun r' v' => r' = r ∧ i_Rel (k + 4) u v') v v1 v2) u v1 v2 := by
  obtain ⟨f0, f1, f2, f3, rfl, ok⟩ := rb_rel I
  unfold wpX_most wpY_most
  dsimp only
  rcases rb_2 v1 v2 with ⟨l0, h0, l1, h1, hp, hq⟩ | hN
  · have ⟨a1, a2⟩ := rb_Iv_le hp
    have ⟨b1, b2⟩ := rb_Iv_le hq
    exact rx_two hp hq (rx_great hp hq (fun g hg => ry_take u hp hq (br_f (by decide) (ry_max ok a1 a2 b1 b2 (fun g' hg' => ⟨rb_Max_u rb_tI hg' hg, rfl, ok⟩)))))
  · exact rx_twoN hN (ry_takeN u hN (br_t rfl ⟨rfl, rfl, ok⟩))
theorem i_vc_least {k : Nat} {u : SX} {v : SY} (I : i_Rel k u v) (hk : k + 4 ≤ 2048) (v1 : Int32) (v2 : Int32) : wpX_least (fun r => wpY_least (fun r' v' => r' = r ∧ i_Rel (k + 4) u v') v v1 v2) u v1 v2 := by
  obtain ⟨f0, f1, f2, f3, rfl, ok⟩ := rb_rel I
  unfold wpX_least wpY_least
  dsimp only
  rcases rb_2 v1 v2 with ⟨l0, h0, l1, h1, hp, hq⟩ | hN
  · have ⟨a1, a2⟩ := rb_Iv_le hp
    have ⟨b1, b2⟩ := rb_Iv_le hq
    exact rx_two hp hq (rx_small hp hq (fun g hg => ry_take u hp hq (br_f (by decide) (ry_min ok a1 a2 b1 b2 (fun g' hg' => ⟨rb_Max_u rb_kI hg' hg, rfl, ok⟩)))))
  · exact rx_twoN hN (ry_takeN u hN (br_t rfl ⟨rfl, rfl, ok⟩))
theorem i_vc_mostAt {k : Nat} {u : SX} {v : SY} (I : i_Rel k u v) (hk : k + 4 ≤ 2048) (v1 : Int32) (v2 : Int32) : wpX_mostAt (fun r => wpY_mostAt (fun r' v' => r' = r ∧ i_Rel (k + 4) u v') v v1 v2) u v1 v2 := by
  obtain ⟨f0, f1, f2, f3, rfl, ok⟩ := rb_rel I
  unfold wpX_mostAt wpY_mostAt
  dsimp only
  rcases rb_2 v1 v2 with ⟨l0, h0, l1, h1, hp, hq⟩ | hN
  · have ⟨a1, a2⟩ := rb_Iv_le hp
    have ⟨b1, b2⟩ := rb_Iv_le hq
    refine rx_two hp hq (rx_great hp hq (fun g hg => rx_first hp hq (fun r hr => ry_take u hp hq (br_f (by decide) (ry_max ok a1 a2 b1 b2 (fun g' hg' => ?_))))))
    obtain rfl := rb_Max_u rb_tI hg' hg
    exact ry_first a1 a2 b1 b2 (fun r' hr' => ⟨rb_First_u hr' hr, rfl, ok⟩)
  · exact rx_twoN hN (ry_takeN u hN (br_t rfl ⟨rfl, rfl, ok⟩))
theorem rb_safe {f : Nat → Nat → Int32} {l0 h0 l1 h1 : Nat} {g lim : Int32} (hg : rb_Max Int32.toInt f l0 h0 l1 h1 g) : ¬ lim < g ↔ ∀ i j, rb_Bx l0 h0 l1 h1 i j → ¬ lim < f i j := by
  obtain ⟨hA, i, j, hb, rfl⟩ := hg
  constructor
  · intro z i' j' hb' w
    have := hA i' j' hb'
    rw [Int32.lt_iff_toInt_lt] at z w
    omega
  · exact fun z => z i j hb
theorem i_vc_safe {k : Nat} {u : SX} {v : SY} (I : i_Rel k u v) (hk : k + 4 ≤ 2048) (v1 : Int32) (v2 : Int32) (v3 : Int32) : wpX_safe (fun r => wpY_safe (fun r' v' => r' = r ∧ i_Rel (k + 4) u v') v v1 v2 v3) u v1 v2 v3 := by
  obtain ⟨f0, f1, f2, f3, rfl, ok⟩ := rb_rel I
  unfold wpX_safe wpY_safe
  dsimp only
  rcases rb_2 v1 v2 with ⟨l0, h0, l1, h1, hp, hq⟩ | hN
  · have ⟨a1, a2⟩ := rb_Iv_le hp
    have ⟨b1, b2⟩ := rb_Iv_le hq
    refine rx_two hp hq (rx_great hp hq (fun g hg => br_c (fun z => ry_take u hp hq (br_f (by decide) (ry_first a1 a2 b1 b2 (fun r hr => br_t ?_ ⟨rfl, rfl, ok⟩)))) (fun z => ry_take u hp hq (br_f (by decide) (ry_first a1 a2 b1 b2 (fun r hr => br_f ?_ ⟨rfl, rfl, ok⟩))))))
    · exact Int32.not_lt.mp (fun w => (rb_safe hg).mpr ((rb_First_neg a2 b2 hr).mp w) z)
    · exact Int32.not_le.mpr ((rb_First_neg a2 b2 hr).mpr ((rb_safe hg).mp z))
  · exact rx_twoN hN (ry_takeN u hN (br_t rfl ⟨rfl, rfl, ok⟩))
theorem i_vc_breach {k : Nat} {u : SX} {v : SY} (I : i_Rel k u v) (hk : k + 4 ≤ 2048) (v1 : Int32) (v2 : Int32) (v3 : Int32) : wpX_breach (fun r => wpY_breach (fun r' v' => r' = r ∧ i_Rel (k + 4) u v') v v1 v2 v3) u v1 v2 v3 := by
  obtain ⟨f0, f1, f2, f3, rfl, ok⟩ := rb_rel I
  unfold wpX_breach wpY_breach
  dsimp only
  rcases rb_2 v1 v2 with ⟨l0, h0, l1, h1, hp, hq⟩ | hN
  · have ⟨a1, a2⟩ := rb_Iv_le hp
    have ⟨b1, b2⟩ := rb_Iv_le hq
    exact rx_two hp hq (rx_first hp hq (fun r hr => ry_take u hp hq (br_f (by decide) (ry_first a1 a2 b1 b2 (fun r' hr' => ⟨rb_First_u hr' hr, rfl, ok⟩)))))
  · exact rx_twoN hN (ry_takeN u hN (br_t rfl ⟨rfl, rfl, ok⟩))
theorem rb_10 : ¬ (1 : Int32) = 0 := by decide
theorem i_vc_fixed {k : Nat} {u : SX} {v : SY} (I : i_Rel k u v) (hk : k + 4 ≤ 2048) (v1 : Int32) (v2 : Int32) (v3 : Int32) : wpX_fixed (fun r => wpY_fixed (fun r' v' => r' = r ∧ i_Rel (k + 4) u v') v v1 v2 v3) u v1 v2 v3 := by
  obtain ⟨f0, f1, f2, f3, rfl, ok⟩ := rb_rel I
  unfold wpX_fixed wpY_fixed
  dsimp only
  rcases rb_ix v1 (n := 5) (by omega) with h | h | ⟨n, hn, rfl⟩
  · exact rx_isUnitN (Or.inl h) (br_t rfl (br_t h ⟨rfl, rfl, ok⟩))
  · exact rx_isUnitN (Or.inr h) (br_t rfl (br_c (fun _ => ⟨rfl, rfl, ok⟩) (fun _ => br_f (rb_n4 h) ⟨rfl, rfl, ok⟩)))
  · have hz : ¬ nI n < 0 := nI_pos (by omega)
    have h4 : nI n ≤ 4 := nI_le (b := 4) (by omega) (by omega)
    rcases rb_2 v2 v3 with ⟨l0, h0, l1, h1, hp, hq⟩ | hN
    · have ⟨a1, a2⟩ := rb_Iv_le hp
      have ⟨b1, b2⟩ := rb_Iv_le hq
      refine rx_isUnit hn (br_f (by decide) (rx_two hp hq (rx_same hn hp hq (fun s hs => ?_))))
      have key : ∀ r, (∀ s', rb_sI u n l0 l1 h1 (h0 + 1) l1 s' → (s'.2 = 0 → (s'.1 = 0 → 2 = r) ∧ (¬ s'.1 = 0 → 1 = r)) ∧ (¬ s'.2 = 0 → (s'.1 = 0 → (s'.1 = 0 → 2 = r) ∧ (¬ s'.1 = 0 → 1 = r)) ∧ (¬ s'.1 = 0 → 0 = r))) →
          ((nI n < 0 → (-1 : Int32) = r ∧ i_Rel (k + 4) u (f0, f1, f2, f3, u)) ∧ (¬ nI n < 0 → (nI n ≤ 4 → wpY_take (fun r_3 w => match w with | (g0, g1, g2, g3, b) => (r_3 = 0 → (-2 : Int32) = r ∧ i_Rel (k + 4) u (g0, g1, g2, g3, b)) ∧ (¬ r_3 = 0 → ∃ n35, wY_fixed_35 (fun r' v' => r' = r ∧ i_Rel (k + 4) u v') (nI n) g0 g1 g2 g3 b n35 0 0 g0)) (f0, f1, f2, f3, u) v2 v3) ∧ (¬ nI n ≤ 4 → (-1 : Int32) = r ∧ i_Rel (k + 4) u (f0, f1, f2, f3, u)))) := by
        intro r hr
        refine br_f hz (br_t h4 (ry_take u hp hq (br_f (by decide) (ry_same hn a1 a2 b1 b2 (fun s' hs' => ?_)))))
        have hh := hr s' hs'
        have hR : i_Rel (k + 4) u (rb_x l0, rb_x h0, rb_x l1, rb_x h1, u) := ⟨rfl, ok⟩
        exact ⟨fun y => ⟨fun w => ⟨(hh.1 y).1 w, hR⟩, fun w => ⟨(hh.1 y).2 w, hR⟩⟩, fun y => ⟨fun w => ⟨fun w' => ⟨((hh.2 y).1 w).1 w', hR⟩, fun w' => absurd w w'⟩, fun w => ⟨(hh.2 y).2 w, hR⟩⟩⟩
      obtain ⟨s1, s2⟩ := s
      obtain ⟨t1, t2⟩ := hs
      have hU : ∀ s', rb_sI u n l0 l1 h1 (h0 + 1) l1 s' → s'.1 = s1 ∧ s'.2 = s2 := fun s' hs' => ⟨rb_Seen_u hs'.1 t1, rb_Seen_u hs'.2 t2⟩
      have hne : ¬ (s1 = 0 ∧ s2 = 0) := by
        rintro ⟨rfl, rfl⟩
        have hv : rb_V l0 l1 h1 (h0 + 1) l1 h0 h1 := rb_V_e ⟨a1, Nat.le_refl _, b1, Nat.le_refl _⟩
        rcases t1 with ⟨_, g1⟩ | ⟨g1, _⟩
        · rcases t2 with ⟨_, g2⟩ | ⟨g2, _⟩
          · exact g2 h0 h1 hv (g1 h0 h1 hv)
          · exact absurd g2.symm rb_10
        · exact absurd g1.symm rb_10
      by_cases e1 : s1 = 0
      · have e2 : ¬ s2 = 0 := fun e2 => hne ⟨e1, e2⟩
        refine br_t e1 (br_f e2 (key 2 (fun s' hs' => ?_)))
        rw [(hU s' hs').1, (hU s' hs').2]
        exact br_f e2 (br_t e1 (br_t e1 rfl))
      · by_cases e2 : s2 = 0
        · refine br_f e1 (br_t e2 (br_t e2 (key 1 (fun s' hs' => ?_))))
          rw [(hU s' hs').1, (hU s' hs').2]
          exact br_t e2 (br_f e1 rfl)
        · refine br_f e1 (br_f e2 (key 0 (fun s' hs' => ?_)))
          rw [(hU s' hs').1, (hU s' hs').2]
          exact br_f e2 (br_f e1 rfl)
    · exact rx_isUnit hn (br_f (by decide) (rx_twoN hN (br_f hz (br_t h4 (ry_takeN u hN (br_t rfl ⟨rfl, rfl, ok⟩))))))
theorem i_vc_radius {k : Nat} {u : SX} {v : SY} (I : i_Rel k u v) (hk : k + 4 ≤ 2048) (v1 : Int32) (v2 : Int32) (v3 : Int32) : wpX_radius (fun r => wpY_radius (fun r' v' => r' = r ∧ i_Rel (k + 4) u v') v v1 v2 v3) u v1 v2 v3 := by
  obtain ⟨f0, f1, f2, f3, rfl, ok⟩ := rb_rel I
  unfold wpX_radius wpY_radius
  dsimp only
  rcases rb_inp v1 with ⟨i, hi, rfl⟩ | h1
  · rcases rb_inp v2 with ⟨j, hj, rfl⟩ | h2
    · refine rx_inp hi (br_f (by decide) (rx_inp hj (br_f (by decide) (rx_near hi hj (fun d hd hn => ?_)))))
      have key : ∀ r, rb_rad d = r → wpY_bad (fun r_1 => (r_1 = 0 → wpY_bad (fun r_8 => (r_8 = 0 → ∃ n21, wY_radius_21 (fun r' v' => r' = r ∧ i_Rel (k + 4) u v') (rb_x i) (rb_x j) v3 u n21 0 f0 f1 f2 f3) ∧ (¬ r_8 = 0 → (-1 : Int32) = r ∧ i_Rel (k + 4) u (f0, f1, f2, f3, u))) (f0, f1, f2, f3, u) (rb_x j)) ∧ (¬ r_1 = 0 → (-1 : Int32) = r ∧ i_Rel (k + 4) u (f0, f1, f2, f3, u))) (f0, f1, f2, f3, u) (rb_x i) := by
        intro r hr
        refine ry_bad hi (br_t rfl (ry_bad hj (br_t rfl ⟨33, ry_radL hi hj (fun d' hn' g0 g1 g2 g3 => ?_) 32 0 rfl (fun _ _ _ _ _ => Nat.zero_le _) f0 f1 f2 f3⟩)))
        obtain rfl := rb_Near_u hi hj hn hn'
        exact ⟨hr, rfl, ok⟩
      by_cases h0 : d = 0
      · subst h0
        exact br_t rfl (key (-2) rfl)
      · refine br_f (nI_ne0 (by omega) (by omega)) (key _ ?_)
        have e : nI d - 1 = nI (d - 1) := pk_sub (b := 1) (by omega)
        rw [e]
        exact if_neg h0
    · exact rx_inp hi (br_f (by decide) (rx_inpN h2 (br_t rfl (ry_bad hi (br_t rfl (ry_badN h2 (br_f (by decide) ⟨rfl, rfl, ok⟩)))))))
  · exact rx_inpN h1 (br_t rfl (ry_badN h1 (br_f (by decide) ⟨rfl, rfl, ok⟩)))
theorem i_vc_patterns {k : Nat} {u : SX} {v : SY} (I : i_Rel k u v) (hk : k + 4 ≤ 2048) (v1 : Int32) (v2 : Int32) : wpX_patterns (fun r => wpY_patterns (fun r' v' => r' = r ∧ i_Rel (k + 4) u v') v v1 v2) u v1 v2 := by
  obtain ⟨f0, f1, f2, f3, rfl, ok⟩ := rb_rel I
  unfold wpX_patterns wpY_patterns
  dsimp only
  rcases rb_2 v1 v2 with ⟨l0, h0, l1, h1, hp, hq⟩ | hN
  · have ⟨a1, a2⟩ := rb_Iv_le hp
    have ⟨b1, b2⟩ := rb_Iv_le hq
    refine rx_two hp hq (rx_highI hp (rx_lowI hq (rx_highI hq (rx_lowI hp (rx_pats a1 a2 b1 b2 (fun s hs => ry_take u hp hq (br_f (by decide) (ry_pats a1 a2 b1 b2 (fun s' hs' => ⟨?_, rfl, ok⟩)))))))))
    rw [rb_Or_u hs' hs]
  · exact rx_twoN hN (ry_takeN u hN (br_t rfl ⟨rfl, rfl, ok⟩))
