def i_Rel (_ : Nat) (u : SX) (v : SY) : Prop := u = v.2.2.2.2 ∧ rb_Ok u
theorem i_up {k : Nat} {u : SX} {v : SY} (h : i_Rel k u v) : i_Rel (k + 4) u v := h
theorem i_vc0 : wpX_init (fun u => wpY_init (fun v => i_Rel 0 u v)) := ⟨rfl, fun _ _ => rb_B_0 _⟩
theorem rb_rel {k : Nat} {u : SX} {v : SY} (h : i_Rel k u v) : ∃ f0 f1 f2 f3, v = (f0, f1, f2, f3, u) ∧ rb_Ok u := by
  obtain ⟨f0, f1, f2, f3, a⟩ := v
  obtain ⟨h1, h2⟩ := h
  exact ⟨f0, f1, f2, f3, by rw [h1], h2⟩
