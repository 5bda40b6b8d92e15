/-! the class's double loops -/
def rb_f (a : Nat → Int32) (i j : Nat) : Int32 := rb_res a (rb_x i) (rb_x j)
def rb_kn (x : Int32) : Int := - x.toInt
theorem rx_great {post : Int32 → Prop} {a : Nat → Int32} {p q : Int32} {l0 h0 l1 h1 : Nat} (hp : rb_Iv p l0 h0) (hq : rb_Iv q l1 h1) (h : ∀ g, rb_Max Int32.toInt (rb_f a) l0 h0 l1 h1 g → post g) : wpX_greatestOn post a p q := by
  have ⟨a1, a2⟩ := rb_Iv_le hp
  have ⟨b1, b2⟩ := rb_Iv_le hq
  unfold wpX_greatestOn
  refine rx_highI hp (rx_lowI hq (rx_highI hq (rx_res a _ _ (rx_lowI hp ⟨(h0 + 1 - l0) + 1, ?_⟩))))
  exact rb_nest (σ := Int32) (fun n i s => wX_greatestOn_32 post (rb_x h0) (rb_x l1) (rb_x h1) a n s (rb_x i))
    (fun n i m j s => wX_greatestOn_42 post (wX_greatestOn_32 post (rb_x h0) (rb_x l1) (rb_x h1) a n) (rb_x h0) (rb_x l1) (rb_x h1) (rb_x i) a m s (rb_x j))
    (rb_mI Int32.toInt (rb_f a) l0 h0 l1 h1 (rb_f a h0 h1)) l0 h0 l1 h1 (by omega)
    (fun n s hI => br_t (rb_ltS a2) (h s (rb_mI_e hI ⟨h0, h1, ⟨a1, Nat.le_refl _, b1, Nat.le_refl _⟩, Or.inl rfl⟩)))
    (fun n i s hi hi' hN => br_f (rb_nlt hi' a2) hN)
    (fun n i m s hi hi' hO => br_t (rb_ltS b2) (nm_r (rb_x_1 i) hO))
    (fun n i m j s hi hi' hj hj' hI hN => br_f (rb_nlt hj' b2) (rx_res a _ _ (br_c (fun z => nm_r (rb_x_1 j) (hN s (rb_mI_k hI (Int32.le_iff_toInt_le.mp z)))) (fun z => nm_r (rb_x_1 j) (hN _ (rb_mI_t hI ⟨hi, hi', hj, hj'⟩ (Int.le_of_lt (Int32.lt_iff_toInt_lt.mp (Int32.not_le.mp z)))))))))
    (fun i s _ _ hI => rb_mI_n hI)
    (h0 + 1 - l0) l0 _ (by omega) (Nat.le_refl _) (rb_mI_0 _)
theorem rx_small {post : Int32 → Prop} {a : Nat → Int32} {p q : Int32} {l0 h0 l1 h1 : Nat} (hp : rb_Iv p l0 h0) (hq : rb_Iv q l1 h1) (h : ∀ g, rb_Max rb_kn (rb_f a) l0 h0 l1 h1 g → post g) : wpX_smallestOn post a p q := by
  have ⟨a1, a2⟩ := rb_Iv_le hp
  have ⟨b1, b2⟩ := rb_Iv_le hq
  unfold wpX_smallestOn
  refine rx_highI hp (rx_lowI hq (rx_highI hq (rx_res a _ _ (rx_lowI hp ⟨(h0 + 1 - l0) + 1, ?_⟩))))
  exact rb_nest (σ := Int32) (fun n i s => wX_smallestOn_32 post (rb_x h0) (rb_x l1) (rb_x h1) a n s (rb_x i))
    (fun n i m j s => wX_smallestOn_42 post (wX_smallestOn_32 post (rb_x h0) (rb_x l1) (rb_x h1) a n) (rb_x h0) (rb_x l1) (rb_x h1) (rb_x i) a m s (rb_x j))
    (rb_mI rb_kn (rb_f a) l0 h0 l1 h1 (rb_f a h0 h1)) l0 h0 l1 h1 (by omega)
    (fun n s hI => br_t (rb_ltS a2) (h s (rb_mI_e hI ⟨h0, h1, ⟨a1, Nat.le_refl _, b1, Nat.le_refl _⟩, Or.inl rfl⟩)))
    (fun n i s hi hi' hN => br_f (rb_nlt hi' a2) hN)
    (fun n i m s hi hi' hO => br_t (rb_ltS b2) (nm_r (rb_x_1 i) hO))
    (fun n i m j s hi hi' hj hj' hI hN => br_f (rb_nlt hj' b2) (rx_res a _ _ (br_c (fun z => nm_r (rb_x_1 j) (hN s (rb_mI_k hI (Int.neg_le_neg (Int32.le_iff_toInt_le.mp z))))) (fun z => nm_r (rb_x_1 j) (hN _ (rb_mI_t hI ⟨hi, hi', hj, hj'⟩ (Int.neg_le_neg (Int.le_of_lt (Int32.lt_iff_toInt_lt.mp (Int32.not_le.mp z))))))))))
    (fun i s _ _ hI => rb_mI_n hI)
    (h0 + 1 - l0) l0 _ (by omega) (Nat.le_refl _) (rb_mI_0 _)
def rb_aI (f : Nat → Nat → Int32) (lim : Int32) (l0 l1 h1 i j : Nat) (_ : Unit) : Prop := ∀ i' j', rb_V l0 l1 h1 i j i' j' → ¬ lim < f i' j'
theorem rb_aI_k {f : Nat → Nat → Int32} {lim : Int32} {l0 l1 h1 i j : Nat} {s : Unit} (h : rb_aI f lim l0 l1 h1 i j s) (hf : ¬ lim < f i j) : rb_aI f lim l0 l1 h1 i (j + 1) s := by
  intro i' j' hv
  rcases rb_V_s hv with hv | ⟨rfl, rfl⟩
  · exact h i' j' hv
  · exact hf
theorem rx_first {post : Int32 → Prop} {a : Nat → Int32} {p q lim : Int32} {l0 h0 l1 h1 : Nat} (hp : rb_Iv p l0 h0) (hq : rb_Iv q l1 h1) (h : ∀ r, rb_First (rb_f a) lim l0 h0 l1 h1 r → post r) : wpX_firstAbove post a p q lim := by
  have ⟨a1, a2⟩ := rb_Iv_le hp
  have ⟨b1, b2⟩ := rb_Iv_le hq
  unfold wpX_firstAbove
  refine rx_highI hp (rx_lowI hq (rx_highI hq (rx_lowI hp ⟨(h0 + 1 - l0) + 1, ?_⟩)))
  refine rb_nest (σ := Unit) (fun n i s => wX_firstAbove_24 post lim (rb_x h0) (rb_x l1) (rb_x h1) a n (rb_x i))
    (fun n i m j s => wX_firstAbove_35 post (wX_firstAbove_24 post lim (rb_x h0) (rb_x l1) (rb_x h1) a n) lim (rb_x h0) (rb_x l1) (rb_x h1) (rb_x i) a m (rb_x j))
    (rb_aI (rb_f a) lim l0 l1 h1) l0 h0 l1 h1 (by omega)
    (fun n s hI => br_t (rb_ltS a2) (h (-2) (Or.inr ⟨fun i j hb => hI i j (rb_V_e hb), rfl⟩)))
    (fun n i s hi hi' hN => br_f (rb_nlt hi' a2) hN)
    (fun n i m s hi hi' hO => br_t (rb_ltS b2) (nm_r (rb_x_1 i) hO))
    (fun n i m j s hi hi' hj hj' hI hN => br_f (rb_nlt hj' b2) (rx_res a _ _ (br_c (fun z => nm_r (rb_x_1 j) (hN s (rb_aI_k hI (Int32.not_lt.mpr z)))) (fun z => ?_))))
    (fun i s _ _ hI i' j' hv => hI i' j' (rb_V_n hv))
    (h0 + 1 - l0) l0 () (by omega) (Nat.le_refl _) (fun i' j' hv => absurd hv rb_V_0)
  show post (32 * (rb_x i - (-16)) + (rb_x j - (-16)))
  rw [rb_pairX]
  exact h _ (Or.inl ⟨i, j, ⟨hi, hi', hj, hj'⟩, Int32.not_le.mp z, hI, rfl⟩)
def rb_u (a : Nat → Int32) (u i j : Nat) : Int32 := rb_unit a u (rb_x i) (rb_x j)
def rb_sI (a : Nat → Int32) (u l0 l1 h1 i j : Nat) (s : Int32 × Int32) : Prop := rb_Seen (fun i j => rb_u a u i j ≤ 0) l0 l1 h1 i j s.1 ∧ rb_Seen (fun i j => ¬ rb_u a u i j ≤ 0) l0 l1 h1 i j s.2
theorem rx_same {post : Int32 → Prop} {a : Nat → Int32} {u : Nat} (hu : u < 5) {p q : Int32} {l0 h0 l1 h1 : Nat} (hp : rb_Iv p l0 h0) (hq : rb_Iv q l1 h1)
    (h : ∀ s, rb_sI a u l0 l1 h1 (h0 + 1) l1 s → (s.1 = 0 → (s.2 = 0 → post 1) ∧ (¬ s.2 = 0 → post 2)) ∧ (¬ s.1 = 0 → (s.2 = 0 → (s.2 = 0 → post 1) ∧ (¬ s.2 = 0 → post 2)) ∧ (¬ s.2 = 0 → post 0))) : wpX_sameOn post a (nI u) p q := by
  have ⟨a1, a2⟩ := rb_Iv_le hp
  have ⟨b1, b2⟩ := rb_Iv_le hq
  unfold wpX_sameOn
  refine rx_highI hp (rx_lowI hq (rx_highI hq (rx_lowI hp ⟨(h0 + 1 - l0) + 1, ?_⟩)))
  exact rb_nest (σ := Int32 × Int32) (fun n i s => wX_sameOn_30 post (nI u) (rb_x h0) (rb_x l1) (rb_x h1) a n s.1 s.2 (rb_x i))
    (fun n i m j s => wX_sameOn_41 post (wX_sameOn_30 post (nI u) (rb_x h0) (rb_x l1) (rb_x h1) a n) (nI u) (rb_x h0) (rb_x l1) (rb_x h1) (rb_x i) a m s.1 s.2 (rb_x j))
    (rb_sI a u l0 l1 h1) l0 h0 l1 h1 (by omega)
    (fun n s hI => br_t (rb_ltS a2) (h s hI))
    (fun n i s hi hi' hN => br_f (rb_nlt hi' a2) hN)
    (fun n i m s hi hi' hO => br_t (rb_ltS b2) (nm_r (rb_x_1 i) hO))
    (fun n i m j s hi hi' hj hj' hI hN => br_f (rb_nlt hj' b2) (rx_unit a hu _ _ (br_c (fun z => nm_r (rb_x_1 j) (hN (1, s.2) ⟨rb_Seen_t hi hj hj' z, rb_Seen_k hI.2 (fun w => w z)⟩)) (fun z => nm_r (rb_x_1 j) (hN (s.1, 1) ⟨rb_Seen_k hI.1 z, rb_Seen_t hi hj hj' z⟩)))))
    (fun i s _ _ hI => ⟨rb_Seen_n hI.1, rb_Seen_n hI.2⟩)
    (h0 + 1 - l0) l0 (0, 0) (by omega) (Nat.le_refl _) ⟨rb_Seen_0, rb_Seen_0⟩
def rb_g (a : Nat → Int32) (i j : Nat) : Int32 := (1 : Int32) <<< (rb_pat a (rb_x i) (rb_x j) 5 &&& 31)
theorem rx_pats {post : Int32 → Prop} {a : Nat → Int32} {l0 h0 l1 h1 : Nat} (a1 : l0 ≤ h0) (a2 : h0 < 32) (b1 : l1 ≤ h1) (b2 : h1 < 32) (h : ∀ s, rb_Or (rb_g a) l0 l1 h1 (h0 + 1) l1 s → post (rb_cnt s 32)) : ∃ n, wX_patterns_42 post (rb_x h0) (rb_x l1) (rb_x h1) a n 0 (rb_x l0) :=
  ⟨(h0 + 1 - l0) + 1, rb_nest (σ := Int32) (fun n i s => wX_patterns_42 post (rb_x h0) (rb_x l1) (rb_x h1) a n s (rb_x i))
    (fun n i m j s => wX_patterns_52 post (wX_patterns_42 post (rb_x h0) (rb_x l1) (rb_x h1) a n) (rb_x h0) (rb_x l1) (rb_x h1) (rb_x i) a m s (rb_x j))
    (rb_Or (rb_g a) l0 l1 h1) l0 h0 l1 h1 (by omega)
    (fun n s hI => br_t (rb_ltS a2) (rx_cnt s (h s hI)))
    (fun n i s hi hi' hN => br_f (rb_nlt hi' a2) hN)
    (fun n i m s hi hi' hO => br_t (rb_ltS b2) (nm_r (rb_x_1 i) hO))
    (fun n i m j s hi hi' hj hj' hI hN => br_f (rb_nlt hj' b2) (rx_pat a _ _ (nm_e (nm_r (rb_x_1 j) (hN _ (rb_Or_t hi hj hj' hI))))))
    (fun i s _ _ hI => rb_Or_n hI)
    (h0 + 1 - l0) l0 0 (by omega) (Nat.le_refl _) rb_Or_0⟩
theorem rx_dist {post : Int32 → Prop} {i j : Nat} (hi : i < 32) (hj : j < 32) (h : post (nI (rb_d i j))) : wpX_distance post (rb_x i) (rb_x j) := by
  refine br_c (fun z => ?_) (fun z => ?_)
  · have h1 := (rb_x_le (by omega) (by omega)).mp z
    have e : rb_d i j = j - i := by
      unfold rb_d
      split <;> omega
    rw [rb_x_sub h1]
    rw [e] at h
    exact h
  · have h1 := (rb_x_lt (by omega) (by omega)).mp (Int32.not_le.mp z)
    have e : rb_d i j = i - j := by
      unfold rb_d
      split <;> omega
    rw [rb_x_sub (by omega)]
    rw [e] at h
    exact h
theorem rx_56 {post : Int32 → Prop} {J8 J : Int32 → Int32 → Prop} {a : Nat → Int32} {x1 x2 lim : Int32} {p q i j : Nat} {s : Int32} (hp : p < 32) (hq : q < 32) (hi : i < 32) (hj : j < 32) (hI : rb_nI (rb_f a) lim p q i j s)
    (hN : ∀ s', rb_nI (rb_f a) lim p q i (j + 1) s' → J s' (rb_x (j + 1))) : wX_distanceToAbove_56 post J8 J x1 x2 lim s (rb_x i) (rb_x j) (nI (rb_dist p q i j)) a := by
  have hd31 := rb_dist_31 hp hq hi hj
  obtain ⟨d, rfl, hd, _⟩ := id hI
  refine br_c (fun z => nm_r (rb_x_1 j) (hN _ (rb_nI_k hI hd (fun _ => (nI_leI (by omega) (by omega)).mp z)))) (fun z => rx_res a _ _ (br_c (fun w => nm_r (rb_x_1 j) (hN _ (rb_nI_k hI hd (fun y => absurd y (Int32.not_lt.mpr w))))) (fun w => nm_r (rb_x_1 j) (hN _ (rb_nI_t hp hq hi hj hI hd ?_ (Int32.not_le.mp w))))))
  rw [nI_leI (by omega) (by omega)] at z
  omega
theorem rx_near {post : Int32 → Prop} {a : Nat → Int32} {lim : Int32} {p q : Nat} (hp : p < 32) (hq : q < 32) (h : ∀ d, d ≤ 32 → rb_Near (rb_f a) lim p q d → post (nI d)) : wpX_distanceToAbove post a (rb_x p) (rb_x q) lim := by
  refine ⟨32 + 1, ?_⟩
  rw [← rb_lit0]
  refine rb_nest (σ := Int32) (fun n i s => wX_distanceToAbove_8 post (rb_x p) (rb_x q) lim a n s (rb_x i))
    (fun n i m j s => wX_distanceToAbove_19 post (wX_distanceToAbove_8 post (rb_x p) (rb_x q) lim a n) (rb_x p) (rb_x q) lim (rb_x i) a m s (rb_x j))
    (rb_nI (rb_f a) lim p q) 0 31 0 31 (by omega)
    (fun n s hI => br_t (by decide) ?_)
    (fun n i s hi hi' hN => br_f (rb_x_le15 (by omega)) ?_)
    (fun n i m s hi hi' hO => br_t (by decide) (nm_r (rb_x_1 i) hO))
    (fun n i m j s hi hi' hj hj' hI hN => br_f (rb_x_le15 (by omega)) (rx_dist hp (by omega) (rx_dist hq (by omega) ?_)))
    (fun i s _ _ hI => rb_nI_n hI)
    32 0 32 (by omega) (Nat.le_refl _) rb_nI_0
  · obtain ⟨d, rfl, hd, hn⟩ := rb_nI_e hI
    exact h d hd hn
  · rw [rb_lit0] at hN
    exact hN
  · have key := rx_56 (post := post) (J8 := wX_distanceToAbove_8 post (rb_x p) (rb_x q) lim a n) (J := wX_distanceToAbove_19 post (wX_distanceToAbove_8 post (rb_x p) (rb_x q) lim a n) (rb_x p) (rb_x q) lim (rb_x i) a m) (x1 := rb_x p) (x2 := rb_x q) hp hq (show i < 32 by omega) (show j < 32 by omega) hI hN
    have d1 : rb_d p i < 32 := by
      unfold rb_d
      split <;> omega
    have d2 : rb_d q j < 32 := by
      unfold rb_d
      split <;> omega
    refine br_c (fun z => ?_) (fun z => ?_)
    · rw [nI_leI (by omega) (by omega)] at z
      have e : rb_dist p q i j = rb_d q j := if_neg (by omega)
      rw [e] at key
      exact key
    · rw [nI_leI (by omega) (by omega)] at z
      have e : rb_dist p q i j = rb_d p i := if_pos (by omega)
      rw [e] at key
      exact key
