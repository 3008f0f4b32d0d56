theorem kd_0 : kd 0 = 5 := by decide +kernel
theorem kd_1 : kd 1 = 3 := by decide +kernel
theorem kd_39 : kd 39 = 1 := by decide +kernel
theorem kd_269 : kd 269 = 4 := by decide +kernel
theorem kd_273 : kd 273 = 2 := by decide +kernel
theorem kd_298 : kd 298 = 6 := by decide +kernel
theorem rf_0_0 : rf 0 0 = 1 := by decide +kernel
theorem rf_0_1 : rf 0 1 = 39 := by decide +kernel
theorem rf_0_2 : rf 0 2 = 269 := by decide +kernel
theorem rf_0_3 : rf 0 3 = 273 := by decide +kernel
theorem rf_0_4 : rf 0 4 = 297 := by decide +kernel
theorem rf_1_1 : rf 1 1 = 2 := by decide +kernel
theorem rf_1_2 : rf 1 2 = 3 := by decide +kernel
theorem rf_1_4 : rf 1 4 = 4 := by decide +kernel
theorem rf_1_6 : rf 1 6 = 5 := by decide +kernel
theorem rf_1_7 : rf 1 7 = 6 := by decide +kernel
theorem rf_39_0 : rf 39 0 = 40 := by decide +kernel
theorem rf_269_0 : rf 269 0 = 270 := by decide +kernel
theorem rf_269_5 : rf 269 5 = 271 := by decide +kernel
theorem rf_269_6 : rf 269 6 = 272 := by decide +kernel
theorem rf_298_0 : rf 298 0 = 299 := by decide +kernel
theorem rf_298_1 : rf 298 1 = 300 := by decide +kernel
theorem rf_298_3 : rf 298 3 = 301 := by decide +kernel
theorem rf_298_4 : rf 298 4 = 302 := by decide +kernel
theorem rf_298_6 : rf 298 6 = 303 := by decide +kernel
theorem rf_298_7 : rf 298 7 = 304 := by decide +kernel
theorem rf_298_8 : rf 298 8 = 305 := by decide +kernel
theorem rf_298_9 : rf 298 9 = 306 := by decide +kernel
theorem li (n : Nat) : (OfNat.ofNat n : Int32) = nI n := rfl
theorem ix_nI {n : Nat} (h : n < 2147483648) : ix (nI n) = n := nI_clamp (by omega)
theorem inb_nI {i n : Nat} (hi : i < 2147483648) : inb (nI i) n = decide (i < n) := by
  unfold inb
  rw [nI_toInt (by omega)]
  exact decide_eq_decide.mpr (by omega)
theorem n_lt {a b : Nat} (ha : a < 2147483648) (hb : b < 2147483648) : nI a < nI b ↔ a < b := nI_ltI (by omega) (by omega)
theorem n_le {a b : Nat} (ha : a < 2147483648) (hb : b < 2147483648) : nI a ≤ nI b ↔ a ≤ b := nI_leI (by omega) (by omega)
theorem n_eq {a b : Nat} (ha : a < 2147483648) (hb : b < 2147483648) : nI a = nI b ↔ a = b := nI_eq (by omega) (by omega)
theorem n_div {a d : Nat} (ha : a < 2147483648) (h0 : 0 < d) (hd : d < 2147483648) : nI a / nI d = nI (a / d) := pk_div (by omega) h0 (by omega)
theorem n_rem {a d : Nat} (ha : a < 2147483648) (h0 : 0 < d) (hd : d < 2147483648) : rem (nI a) (nI d) = nI (a % d) := pk_rem (by omega) h0 (by omega)
theorem n_sub {a b : Nat} (h : b ≤ a) : nI a - nI b = nI (a - b) := pk_sub h
theorem up_a (σ : Sg) (k i : Nat) (v : Int32) (a b : Nat) : up σ k i v a b = if a = k ∧ b = i then v else σ a b := rfl
theorem x_cases (x : Int32) (n : Nat) (hn : n < 2147483648) : (∃ j, j < n ∧ x = nI j) ∨ (¬ inb x n ∧ (x < 0 ∨ nI n ≤ x)) := by
  rcases pk_ix x (n := n) (by omega) with h | h | ⟨j, h1, h2⟩
  · refine Or.inr ⟨fun q => ?_, Or.inl h⟩
    have := inb_in q
    exact this (Or.inl h)
  · refine Or.inr ⟨fun q => ?_, Or.inr h⟩
    have h3 := (Int32.le_iff_toInt_le).mp h
    rw [nI_toInt (by omega)] at h3
    exact absurd (of_decide_eq_true q).2 (by omega)
  · exact Or.inl ⟨j, h1, h2⟩
