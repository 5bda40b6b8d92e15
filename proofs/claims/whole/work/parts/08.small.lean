def i_Rel (_ : Nat) (u : SX) (v : SY) : Prop := u = v.2.2.2.2 ∧ rb_Ok u
theorem i_up {k : Nat} {u : SX} {v : SY} (h : i_Rel k u v) : i_Rel (k + 4) u v := h
theorem i_vc0 : wpX_init (fun u => wpY_init (fun v => i_Rel 0 u v)) := ⟨rfl, fun _ _ => rb_B_0 _⟩
theorem rb_rel {k : Nat} {u : SX} {v : SY} (h : i_Rel k u v) : ∃ f0 f1 f2 f3, v = (f0, f1, f2, f3, u) ∧ rb_Ok u := by
  obtain ⟨f0, f1, f2, f3, a⟩ := v
  obtain ⟨h1, h2⟩ := h
  exact ⟨f0, f1, f2, f3, by rw [h1], h2⟩
theorem rb_ix (x : Int32) {n : Nat} (hn : n < 2 ^ 31) : x < 0 ∨ nI n ≤ x ∨ ∃ j : Nat, j < n ∧ x = nI j := by
  by_cases h : x < 0
  · exact Or.inl h
  · obtain ⟨j, hj, rfl⟩ := nI_of h
    by_cases h2 : j < n
    · exact Or.inr (Or.inr ⟨j, h2, rfl⟩)
    · exact Or.inr (Or.inl (nI_le (by omega) hj))
theorem rb_n19 {x : Int32} (h : nI 20 ≤ x) : ¬ x ≤ 19 := by
  rw [Int32.le_iff_toInt_le, show (nI 20).toInt = 20 from by decide] at h
  rw [Int32.le_iff_toInt_le, show (19 : Int32).toInt = 19 from by decide]
  omega
theorem rb_n4 {x : Int32} (h : nI 5 ≤ x) : ¬ x ≤ 4 := by
  rw [Int32.le_iff_toInt_le, show (nI 5).toInt = 5 from by decide] at h
  rw [Int32.le_iff_toInt_le, show (4 : Int32).toInt = 4 from by decide]
  omega
theorem rx_place {post : Int32 → Prop} {n : Nat} (hn : n < 20) (h : post 1) : wpX_isPlace post (nI n) := br_f (nI_pos (by omega)) (br_f (nI_ge (b := 20) hn (by omega)) h)
theorem rx_placeN {post : Int32 → Prop} {x : Int32} (hv : x < 0 ∨ nI 20 ≤ x) (h : post 0) : wpX_isPlace post x := by
  rcases hv with hv | hv
  · exact br_t hv h
  · exact br_c (fun _ => h) (fun _ => br_t hv h)
theorem rx_isUnit {post : Int32 → Prop} {n : Nat} (hn : n < 5) (h : post 1) : wpX_isUnit post (nI n) := br_f (nI_pos (by omega)) (br_f (nI_ge (b := 5) hn (by omega)) h)
theorem rx_isUnitN {post : Int32 → Prop} {x : Int32} (hv : x < 0 ∨ nI 5 ≤ x) (h : post 0) : wpX_isUnit post x := by
  rcases hv with hv | hv
  · exact br_t hv h
  · exact br_c (fun _ => h) (fun _ => br_t hv h)
theorem rx_off {post : Int32 → Prop} {n : Nat} (hn : n < 20) (h1 : (5 < n ∧ n < 9) ∨ n = 15 ∨ n = 16 ∨ n = 19 → post 1) (h0 : ¬ ((5 < n ∧ n < 9) ∨ n = 15 ∨ n = 16 ∨ n = 19) → post 0) : wpX_isOffset post (nI n) := by
  unfold wpX_isOffset wX_isOffset_12 wX_isOffset_24
  have e6 : nI n < 6 ↔ n < 6 := nI_ltI (b := 6) (by omega) (by omega)
  have e9 : nI n < 9 ↔ n < 9 := nI_ltI (b := 9) (by omega) (by omega)
  have e15 : nI n < 15 ↔ n < 15 := nI_ltI (b := 15) (by omega) (by omega)
  have e17 : nI n < 17 ↔ n < 17 := nI_ltI (b := 17) (by omega) (by omega)
  have e19 : nI n = 19 ↔ n = 19 := nI_eq (b := 19) (by omega) (by omega)
  rw [e6, e9, e15, e17, e19]
  repeat' first | apply And.intro | intro _
  all_goals first | exact h1 (by omega) | exact h0 (by omega)
theorem ry_off {post : Int32 → Prop} {f0 f1 f2 f3 : Int32} {a : Nat → Int32} {n : Nat} (hn : n < 20) (h1 : (5 < n ∧ n < 9) ∨ n = 15 ∨ n = 16 ∨ n = 19 → post 1) (h0 : ¬ ((5 < n ∧ n < 9) ∨ n = 15 ∨ n = 16 ∨ n = 19) → post 0) : wpY_offset post (f0, f1, f2, f3, a) (nI n) := by
  unfold wpY_offset wY_offset_11
  dsimp only
  have e5 : nI n ≤ 5 ↔ n ≤ 5 := nI_leI (b := 5) (by omega) (by omega)
  have e9 : nI n < 9 ↔ n < 9 := nI_ltI (b := 9) (by omega) (by omega)
  have e15 : nI n = 15 ↔ n = 15 := nI_eq (b := 15) (by omega) (by omega)
  have e16 : nI n = 16 ↔ n = 16 := nI_eq (b := 16) (by omega) (by omega)
  have e19 : nI n = 19 ↔ n = 19 := nI_eq (b := 19) (by omega) (by omega)
  rw [e5, e9, e15, e16, e19]
  repeat' first | apply And.intro | intro _
  all_goals first | exact h1 (by omega) | exact h0 (by omega)
theorem rs_set {k : Nat} {f0 f1 f2 f3 : Int32} {a : Nat → Int32} {n : Nat} (hn : n < 20) (ok : rb_Ok a) (z0 v2 : Int32) (hz : z0.toInt = (rb_cap n : Int)) (hm : (-z0).toInt = -(rb_cap n : Int))
    (HY : ∀ post' : Int32 → SY → Prop, wY_set_26 post' (nI n) v2 z0 f0 f1 f2 f3 a → wpY_set post' (f0, f1, f2, f3, a) (nI n) v2) :
    wX_set_22 (fun r u' => wpY_set (fun r' v' => r' = r ∧ i_Rel (k + 4) u' v') (f0, f1, f2, f3, a) (nI n) v2) (nI n) v2 z0 a := by
  refine br_c (fun h1 => HY _ (br_t h1 ⟨rfl, rfl, ok⟩)) (fun h1 => br_c (fun h2 => ?_) (fun h2 => HY _ (br_f h1 (br_f h2 ⟨rfl, rfl, ok⟩))))
  have hi : vp_in (nI n) 20 := vp_in_nI hn (by omega)
  have hB : rb_B v2 (rb_cap n) := by
    have g1 := h1
    have g2 := h2
    rw [Int32.lt_iff_toInt_lt, hm] at g1
    rw [Int32.le_iff_toInt_le, hz] at g2
    unfold rb_B
    omega
  have okU : rb_Ok (upd a (nI n).toNatClampNeg v2) := by
    rw [nI_clamp (by omega)]
    exact rb_Ok_upd ok hB
  exact ⟨hi, nm_e ⟨hi, nm_e (br_c (fun e => HY _ (br_f h1 (br_t h2 ⟨hi, br_t e ⟨hi, nm_e ⟨rfl, rfl, okU⟩⟩⟩))) (fun e => HY _ (br_f h1 (br_t h2 ⟨hi, br_f e ⟨hi, nm_e ⟨rfl, rfl, okU⟩⟩⟩))))⟩⟩
theorem i_vc_set {k : Nat} {u : SX} {v : SY} (I : i_Rel k u v) (hk : k + 4 ≤ 2048) (v1 : Int32) (v2 : Int32) : wpX_set (fun r u' => wpY_set (fun r' v' => r' = r ∧ i_Rel (k + 4) u' v') v v1 v2) u v1 v2 := by
  obtain ⟨f0, f1, f2, f3, rfl, ok⟩ := rb_rel I
  unfold wpX_set
  rcases rb_ix v1 (n := 20) (by omega) with h | h | ⟨n, hn, rfl⟩
  · exact rx_placeN (Or.inl h) (br_t rfl (br_t h ⟨rfl, rfl, ok⟩))
  · exact rx_placeN (Or.inr h) (br_t rfl (br_c (fun _ => ⟨rfl, rfl, ok⟩) (fun _ => br_f (rb_n19 h) ⟨rfl, rfl, ok⟩)))
  · have h0 : ¬ nI n < 0 := nI_pos (by omega)
    have h19 : nI n ≤ 19 := nI_le (b := 19) (by omega) (by omega)
    refine rx_place hn (br_f (by decide) (rx_off hn (fun ho => br_f (by decide) ?_) (fun ho => br_t rfl ?_)))
    · refine rs_set hn ok 50 v2 (by rw [rb_cap50 ho]; decide) (by rw [rb_cap50 ho]; decide) (fun post' hh => br_f h0 (br_t h19 (ry_off hn (fun _ => br_f (by decide) hh) (fun z => absurd ho z))))
    · refine rs_set hn ok 5 v2 (by rw [rb_cap5 ho]; decide) (by rw [rb_cap5 ho]; decide) (fun post' hh => br_f h0 (br_t h19 (ry_off hn (fun z => absurd z ho) (fun _ => br_t rfl hh))))
theorem rb_sv_o {s b p : Nat} (h : (5 < p ∧ p < 9) ∨ p = 15 ∨ p = 16 ∨ p = 19) : rb_sv s b p = nI (rb_so s b p) - nI (rb_so s b p) / 41 * 41 - 20 := if_pos h
theorem rb_sv_f {s b p : Nat} (h : ¬ ((5 < p ∧ p < 9) ∨ p = 15 ∨ p = 16 ∨ p = 19)) : rb_sv s b p = nI (rb_sf s b p) - nI (rb_sf s b p) / 11 * 11 - 5 := if_neg h
theorem rb_sow_o {a : Nat → Int32} {s b p : Nat} (hp : p < 20) (h : (5 < p ∧ p < 9) ∨ p = 15 ∨ p = 16 ∨ p = 19) : upd (rb_sow a s b p) (nI p).toNatClampNeg (((nI s * 7 + 5 * nI p + nI b * nI p) - (nI s * 7 + 5 * nI p + nI b * nI p) / 41 * 41) - 20) = rb_sow a s b (p + 1) := by
  rw [rb_so_e, nI_clamp (by omega), ← rb_sv_o h]
  rfl
theorem rb_sow_f {a : Nat → Int32} {s b p : Nat} (hp : p < 20) (h : ¬ ((5 < p ∧ p < 9) ∨ p = 15 ∨ p = 16 ∨ p = 19)) : upd (rb_sow a s b p) (nI p).toNatClampNeg (((nI s + 3 * nI p + nI p * nI p * nI b) - (nI s + 3 * nI p + nI p * nI p * nI b) / 11 * 11) - 5) = rb_sow a s b (p + 1) := by
  rw [rb_sf_e, nI_clamp (by omega), ← rb_sv_f h]
  rfl
theorem rx_sowL {post : Int32 → SX → Prop} (a : Nat → Int32) {s b : Nat} (h : post 0 (rb_sow a s b 20)) : ∀ d p, p + d = 20 → wX_sow_27 post (nI s) (nI b) (d + 1) (nI p) (rb_sow a s b p) := by
  intro d
  induction d with
  | zero =>
    intro p hp
    obtain rfl : p = 20 := by omega
    exact br_t (nI_le (a := 20) (b := 20) (by omega) (by omega)) h
  | succ d ih =>
    intro p hp
    have hi : vp_in (nI p) 20 := vp_in_nI (by omega) (by omega)
    exact br_f (nI_ge (b := 20) (by omega) (by omega)) (rx_off (by omega)
      (fun ho => br_f (by decide) ⟨by decide, hi, nm_r (rb_sow_o (by omega) ho) (nm_r (nI_1 p) (ih (p + 1) (by omega)))⟩)
      (fun ho => br_t rfl ⟨by decide, hi, nm_r (rb_sow_f (by omega) ho) (nm_r (nI_1 p) (ih (p + 1) (by omega)))⟩))
theorem ry_sowL {post : Int32 → SY → Prop} {f0 f1 f2 f3 : Int32} (a : Nat → Int32) {s b : Nat} (h : post 0 (f0, f1, f2, f3, rb_sow a s b 20)) : ∀ d p, p + d = 20 → wY_sow_27 post (nI s) (nI b) f0 f1 f2 f3 (d + 1) (nI p) (rb_sow a s b p) := by
  intro d
  induction d with
  | zero =>
    intro p hp
    obtain rfl : p = 20 := by omega
    exact br_t (nI_le (a := 20) (b := 20) (by omega) (by omega)) h
  | succ d ih =>
    intro p hp
    have hi : vp_in (nI p) 20 := vp_in_nI (by omega) (by omega)
    exact br_f (nI_ge (b := 20) (by omega) (by omega)) (ry_off (by omega)
      (fun ho => br_f (by decide) ⟨by decide, hi, nm_r (rb_sow_o (by omega) ho) (nm_r (nI_1 p) (ih (p + 1) (by omega)))⟩)
      (fun ho => br_t rfl ⟨by decide, hi, nm_r (rb_sow_f (by omega) ho) (nm_r (nI_1 p) (ih (p + 1) (by omega)))⟩))
theorem i_vc_sow {k : Nat} {u : SX} {v : SY} (I : i_Rel k u v) (hk : k + 4 ≤ 2048) (v1 : Int32) (v2 : Int32) : wpX_sow (fun r u' => wpY_sow (fun r' v' => r' = r ∧ i_Rel (k + 4) u' v') v v1 v2) u v1 v2 := by
  obtain ⟨f0, f1, f2, f3, rfl, ok⟩ := rb_rel I
  refine br_c (fun h1 => br_t h1 ⟨rfl, rfl, ok⟩) (fun h1 => br_c (fun h2 => br_c (fun h3 => br_f h1 (br_t h2 (br_t h3 ⟨rfl, rfl, ok⟩))) (fun h3 => br_c (fun h4 => ?_) (fun h4 => br_f h1 (br_t h2 (br_f h3 (br_f h4 ⟨rfl, rfl, ok⟩)))))) (fun h2 => br_f h1 (br_f h2 ⟨rfl, rfl, ok⟩)))
  obtain ⟨s, hs, rfl⟩ := nI_of2 (M := 100) (n := 100) (by decide) h1 h2
  obtain ⟨b, hb, rfl⟩ := nI_of2 (M := 20) (n := 20) (by decide) h3 h4
  exact ⟨21, rx_sowL u (br_f h1 (br_t h2 (br_f h3 (br_t h4 ⟨21, ry_sowL u ⟨rfl, rfl, rb_sowOk ok hs hb 20 (Nat.le_refl _)⟩ 20 0 rfl⟩)))) 20 0 rfl⟩
theorem i_vc_get {k : Nat} {u : SX} {v : SY} (I : i_Rel k u v) (hk : k + 4 ≤ 2048) (v1 : Int32) : wpX_get (fun r => wpY_get (fun r' => r' = r ∧ i_Rel (k + 4) u v) v v1) u v1 := by
  obtain ⟨f0, f1, f2, f3, rfl, ok⟩ := rb_rel I
  unfold wpX_get
  rcases rb_ix v1 (n := 20) (by omega) with h | h | ⟨n, hn, rfl⟩
  · exact rx_placeN (Or.inl h) (br_t rfl (br_t h ⟨rfl, rfl, ok⟩))
  · exact rx_placeN (Or.inr h) (br_t rfl (br_c (fun _ => ⟨rfl, rfl, ok⟩) (fun _ => br_f (rb_n19 h) ⟨rfl, rfl, ok⟩)))
  · have hi : vp_in (nI n) 20 := vp_in_nI hn (by omega)
    exact rx_place hn (br_f (by decide) ⟨hi, br_f (nI_pos (by omega)) (br_t (nI_le (b := 19) (by omega) (by omega)) ⟨hi, rfl, rfl, ok⟩)⟩)
/-! inputs -/
theorem rb_inp (x : Int32) : (∃ i, i < 32 ∧ x = rb_x i) ∨ x < -16 ∨ 15 < x := by
  by_cases h1 : x < -16
  · exact Or.inr (Or.inl h1)
  · by_cases h2 : 15 < x
    · exact Or.inr (Or.inr h2)
    · exact Or.inl (rb_x_of h1 h2)
theorem rx_inp {post : Int32 → Prop} {i : Nat} (hi : i < 32) (h : post 1) : wpX_isInput post (rb_x i) := br_f (rb_x_ge16 (by omega)) (br_f (rb_x_le15 hi) h)
theorem rx_inpN {post : Int32 → Prop} {x : Int32} (hv : x < -16 ∨ 15 < x) (h : post 0) : wpX_isInput post x := by
  rcases hv with hv | hv
  · exact br_t hv h
  · exact br_c (fun _ => h) (fun _ => br_t hv h)
theorem ry_bad {post : Int32 → Prop} {f0 f1 f2 f3 : Int32} {a : Nat → Int32} {i : Nat} (hi : i < 32) (h : post 0) : wpY_bad post (f0, f1, f2, f3, a) (rb_x i) := br_f (rb_x_ge16 (by omega)) (br_t (Int32.not_lt.mp (rb_x_le15 hi)) h)
theorem ry_badN {post : Int32 → Prop} {f0 f1 f2 f3 : Int32} {a : Nat → Int32} {x : Int32} (hv : x < -16 ∨ 15 < x) (h : post 1) : wpY_bad post (f0, f1, f2, f3, a) x := by
  rcases hv with hv | hv
  · exact br_t hv h
  · exact br_c (fun _ => h) (fun _ => br_f (Int32.not_le.mpr hv) h)
theorem i_vc_result {k : Nat} {u : SX} {v : SY} (I : i_Rel k u v) (hk : k + 4 ≤ 2048) (v1 : Int32) (v2 : Int32) : wpX_result (fun r => wpY_result (fun r' => r' = r ∧ i_Rel (k + 4) u v) v v1 v2) u v1 v2 := by
  obtain ⟨f0, f1, f2, f3, rfl, ok⟩ := rb_rel I
  unfold wpX_result wpY_result
  dsimp only
  rcases rb_inp v1 with ⟨i, hi, rfl⟩ | h1
  · rcases rb_inp v2 with ⟨j, hj, rfl⟩ | h2
    · exact rx_inp hi (br_f (by decide) (rx_inp hj (br_f (by decide) (rx_res u _ _ (ry_bad hi (br_t rfl (ry_bad hj (br_t rfl (ry_res u _ _ ⟨rfl, rfl, ok⟩)))))))))
    · exact rx_inp hi (br_f (by decide) (rx_inpN h2 (br_t rfl (ry_bad hi (br_t rfl (ry_badN h2 (br_f (by decide) ⟨rfl, rfl, ok⟩)))))))
  · exact rx_inpN h1 (br_t rfl (ry_badN h1 (br_f (by decide) ⟨rfl, rfl, ok⟩)))
theorem i_vc_unit {k : Nat} {u : SX} {v : SY} (I : i_Rel k u v) (hk : k + 4 ≤ 2048) (v1 : Int32) (v2 : Int32) (v3 : Int32) : wpX_unit (fun r => wpY_unit (fun r' => r' = r ∧ i_Rel (k + 4) u v) v v1 v2 v3) u v1 v2 v3 := by
  obtain ⟨f0, f1, f2, f3, rfl, ok⟩ := rb_rel I
  unfold wpX_unit
  rcases rb_ix v1 (n := 5) (by omega) with h | h | ⟨n, hn, rfl⟩
  · exact rx_isUnitN (Or.inl h) (br_t rfl (br_t h ⟨rfl, rfl, ok⟩))
  · exact rx_isUnitN (Or.inr h) (br_t rfl (br_c (fun _ => ⟨rfl, rfl, ok⟩) (fun _ => br_f (rb_n4 h) ⟨rfl, rfl, ok⟩)))
  · have h0 : ¬ nI n < 0 := nI_pos (by omega)
    have h4 : nI n ≤ 4 := nI_le (b := 4) (by omega) (by omega)
    rcases rb_inp v2 with ⟨i, hi, rfl⟩ | h1
    · rcases rb_inp v3 with ⟨j, hj, rfl⟩ | h2
      · exact rx_isUnit hn (br_f (by decide) (rx_inp hi (br_f (by decide) (rx_inp hj (br_f (by decide) (rx_unit u hn _ _ (br_f h0 (br_t h4 (ry_bad hi (br_t rfl (ry_bad hj (br_t rfl (ry_unit u hn _ _ ⟨rfl, rfl, ok⟩)))))))))))))
      · exact rx_isUnit hn (br_f (by decide) (rx_inp hi (br_f (by decide) (rx_inpN h2 (br_t rfl (br_f h0 (br_t h4 (ry_bad hi (br_t rfl (ry_badN h2 (br_f (by decide) ⟨rfl, rfl, ok⟩)))))))))))
    · exact rx_isUnit hn (br_f (by decide) (rx_inpN h1 (br_t rfl (br_f h0 (br_t h4 (ry_badN h1 (br_f (by decide) ⟨rfl, rfl, ok⟩)))))))
