theorem bf : bI false = 0 := rfl
theorem bt : ¬ bI true = 0 := by decide
theorem n00 : nI 0 = (0 : Int32) := rfl
theorem inb_lit {x : Int32} {N : Nat} (h : inb x N = false) (hN : N < 2147483648) : ∀ j, j < N → x ≠ nI j := fun j hj e => by
  subst e
  rw [inb_nI (by omega)] at h
  simp [hj] at h
theorem ge_nI {n : Nat} (h : n < 2147483648) : -1 ≤ nI n := le_m1 (nI_pos' (by omega))
theorem CT_put {σ : Sg} {tl : Nat} {tb : Nat → Nat} {rz : Nat → Int32} {j : Nat} (h : CT σ tl tb rz) : CT (up (up σ 270 tl (nI j)) 269 1 (nI (tl + 1))) (tl + 1) (fun i => if i = tl then j else tb i) rz := by
  obtain ⟨h1, h2, h3, h4⟩ := h
  refine ⟨by simp [up_a], fun i hi => ?_, fun k hk => by simp [up_a, h3 k hk], fun p hp => by simp [up_a, h4 p hp]⟩
  by_cases e : i = tl
  · subst e; simp [up_a]
  · simp [up_a, e, h2 i (by omega)]
theorem MT_put {σ : Sg} {tl : Nat} {tb : Nat → Nat} {rz : Nat → Int32} {j : Nat} (h : MT σ tl tb rz) : MT (up (up σ 303 tl (nI j)) 298 5 (nI (tl + 1))) (tl + 1) (fun i => if i = tl then j else tb i) rz := by
  obtain ⟨h1, h2, h3⟩ := h
  refine ⟨by simp [up_a], fun i hi => ?_, fun k hk => by simp [up_a, h3 k hk]⟩
  by_cases e : i = tl
  · subst e; simp [up_a]
  · simp [up_a, e, h2 i (by omega)]
theorem sim_type {n : Nat} (hn : n < 600) (x : Int32) : Sim (Inv n) (Inv (n + 1)) (f_X5_type 0 x) (f_X6_type 298 x) := by
  refine sim_of hn (fun v g hv hg ks tl tb rz hV hB => ?_)
  have h120 := hV.2.2.2.1
  cases hx : inb x 128 with
  | false =>
    refine ⟨-2, v, g, hv, hg, ks, tl, tb, rzU rz 0, hV, Or.inr ⟨0, rfl⟩, fun σ hC => ?_, fun σ hM => ?_⟩
    · rw [f_X5_type, if_pos kd_0, rf_0_2, f_X4_append, if_pos kd_269, show (128 : Int32) = nI 128 from rfl, isb x (by omega), cb_some, hx, if_pos bf, cb_some, notedC (k := 0) rfl, cb_some]
      exact ⟨_, rfl, CI_ref hV (by omega) hC, fun k hk => up_o _ _ _ _ (by omega)⟩
    · rw [f_X6_type, if_pos kd_298, isI (N := 128) (by decide), cb_some, hx, if_pos bf]
      exact refM rfl hM
  | true =>
    obtain ⟨j, hj, rfl⟩ := inb_ex hx (by omega)
    by_cases ht : tl < 120
    · refine ⟨nI (tl + 1), v, g, hv, hg, ks, tl + 1, fun i => if i = tl then j else tb i, rz, ⟨hV.1, hV.2.1, hV.2.2.1, by omega, fun i hi => ?_⟩, Or.inl rfl, fun σ hC => ?_, fun σ hM => ?_⟩
      · dsimp only
        by_cases e : i = tl
        · rw [if_pos e]; exact hj
        · rw [if_neg e]; exact hV.2.2.2.2 i (by omega)
      · obtain ⟨c1, ⟨nx, c2⟩, c3⟩ := hC
        rw [f_X5_type, if_pos kd_0, rf_0_2, f_X4_append, if_pos kd_269, show (128 : Int32) = nI 128 from rfl, isb _ (by omega), cb_some, hx, if_neg bt, c3.1]
        simp (disch := omega) only [kd_0, kd_1, kd_39, kd_269, kd_273, kd_298, rf_0_0, rf_0_1, rf_0_2, rf_0_3, rf_0_4, rf_1_1, rf_1_2, rf_1_4, rf_1_6, rf_1_7, rf_39_0, rf_269_0, rf_269_5, rf_269_6, rf_298_0, rf_298_1, rf_298_3, rf_298_4, rf_298_6, rf_298_7, rf_298_8, rf_298_9, bn, cb_some, li, ix_nI, inb_nI, n_lt, n_le, n_eq, n_div, n_rem, nI_add, pk_mul, decide_eq_true_eq, if_true, if_false, bI_0, bI_or, not_true, not_false_eq_true, reduceIte, ht, up_a, show ¬ (269 : Nat) = 270 by decide, false_and, c3.1]
        simp only [and_self, if_true]
        rw [notedN (ge_nI (by omega)), cb_some]
        exact ⟨_, rfl, ⟨Cl_loc c1 hV.1.2.1 (fun k a b => by rw [up_o _ _ _ _ (by omega), up_o _ _ _ _ (by omega)]), ⟨nx, CH_loc c2 hV.2.2.1 (fun k a b => by rw [up_o _ _ _ _ (by omega), up_o _ _ _ _ (by omega)])⟩, CT_put c3⟩, fun k hk => by rw [up_o _ _ _ _ (by omega), up_o _ _ _ _ (by omega)]⟩
      · obtain ⟨m1, m2, m3⟩ := hM
        rw [f_X6_type, if_pos kd_298, isI (N := 128) (by decide), cb_some, hx, if_neg bt, m3.1]
        simp (disch := omega) only [kd_0, kd_1, kd_39, kd_269, kd_273, kd_298, rf_0_0, rf_0_1, rf_0_2, rf_0_3, rf_0_4, rf_1_1, rf_1_2, rf_1_4, rf_1_6, rf_1_7, rf_39_0, rf_269_0, rf_269_5, rf_269_6, rf_298_0, rf_298_1, rf_298_3, rf_298_4, rf_298_6, rf_298_7, rf_298_8, rf_298_9, bn, cb_some, li, ix_nI, inb_nI, n_lt, n_le, n_eq, n_div, n_rem, nI_add, pk_mul, decide_eq_true_eq, if_true, if_false, bI_0, bI_or, not_true, not_false_eq_true, reduceIte, ht, show ¬ tl = 120 by omega, up_a, show ¬ (298 : Nat) = 303 by decide, false_and, m3.1]
        simp only [and_self, if_true]
        refine ⟨_, rfl, ⟨by rw [up_o _ _ _ _ (by decide), up_o _ _ _ _ (by decide)]; exact m1, ?_, MT_put m3⟩, fun k hk => by rw [up_o _ _ _ _ (by omega), up_o _ _ _ _ (by omega)]⟩
        unfold MH
        rw [up_a, if_neg (by decide), up_o _ _ _ _ (by decide), up_o _ _ _ _ (by decide), up_o _ _ _ _ (by decide)]
        exact m2
    · have e120 : tl = 120 := by omega
      refine ⟨-4, v, g, hv, hg, ks, tl, tb, rzU rz 2, hV, Or.inr ⟨2, rfl⟩, fun σ hC => ?_, fun σ hM => ?_⟩
      · rw [f_X5_type, if_pos kd_0, rf_0_2, f_X4_append, if_pos kd_269, show (128 : Int32) = nI 128 from rfl, isb _ (by omega), cb_some, hx, if_neg bt, hC.2.2.1, if_neg (by rw [show (120 : Int32) = nI 120 from rfl, n_lt (by omega) (by omega)]; exact ht), cb_some, notedC (k := 2) rfl, cb_some]
        exact ⟨_, rfl, CI_ref hV (by omega) hC, fun k hk => up_o _ _ _ _ (by omega)⟩
      · rw [f_X6_type, if_pos kd_298, isI (N := 128) (by decide), cb_some, hx, if_neg bt, hM.2.2.1, if_pos (by rw [e120]; rfl)]
        exact refM rfl hM
theorem sim_clear {n : Nat} (hn : n < 600) : Sim (Inv n) (Inv (n + 1)) (f_X5_clear 0) (f_X6_clear 298) := by
  refine sim_of hn (fun v g hv hg ks tl tb rz hV hB => ⟨nI tl, v, g, hv, hg, ks, 0, tb, rz, ⟨hV.1, hV.2.1, hV.2.2.1, Nat.zero_le _, fun i hi => absurd hi (Nat.not_lt_zero _)⟩, Or.inl rfl, fun σ hC => ?_, fun σ hM => ?_⟩)
  · obtain ⟨c1, ⟨nx, c2⟩, c3, c4, c5, c6⟩ := hC
    rw [f_X5_clear, if_pos kd_0, rf_0_2, f_X4_empty, if_pos kd_269, c3]
    exact ⟨_, rfl, ⟨Cl_loc c1 hV.1.2.1 (fun k a b => up_o _ _ _ _ (by omega)), ⟨nx, CH_loc c2 hV.2.2.1 (fun k a b => up_o _ _ _ _ (by omega))⟩, by simp [up_a, nI_0], fun i hi => absurd hi (Nat.not_lt_zero _), by rw [up_o _ _ _ _ (by decide)]; exact c5, by rw [up_o _ _ _ _ (by decide)]; exact c6⟩, fun k hk => up_o _ _ _ _ (by omega)⟩
  · obtain ⟨m1, m2, m3, m4, m5⟩ := hM
    rw [f_X6_clear, if_pos kd_298, m3]
    refine ⟨_, rfl, ⟨by rw [up_o _ _ _ _ (by decide)]; exact m1, ?_, by simp [up_a, nI_0], fun i hi => absurd hi (Nat.not_lt_zero _), by rw [up_o _ _ _ _ (by decide)]; exact m5⟩, fun k hk => up_o _ _ _ _ (by omega)⟩
    unfold MH
    rw [up_a, if_neg (by decide), up_o _ _ _ _ (by decide)]
    exact m2
theorem sim_back {n : Nat} (hn : n < 600) : Sim (Inv n) (Inv (n + 1)) (f_X5_back 0) (f_X6_back 298) := by
  refine sim_of hn (fun v g hv hg ks tl tb rz hV hB => ?_)
  have h5 := hV.2.1
  by_cases h0 : ks = 0
  · subst h0
    refine ⟨-3, v, g, hv, hg, 0, tl, tb, rzU rz 1, hV, Or.inr ⟨1, rfl⟩, fun σ hC => ?_, fun σ hM => ?_⟩
    · obtain ⟨c1, ⟨nx, c2⟩, c3⟩ := id hC
      rw [f_X5_back, if_pos kd_0, rf_0_1, rf_0_0, f_X1_takeBack, if_pos kd_39, if_pos kd_1, c2.2.2.1, if_pos n00, cb_some, notedC (k := 1) rfl, cb_some]
      exact ⟨_, rfl, CI_ref hV (by omega) hC, fun k hk => up_o _ _ _ _ (by omega)⟩
    · rw [f_X6_back, if_pos kd_298, hM.2.1.1, if_pos n00]
      exact refM rfl hM
  · refine ⟨nI (ks - 1), hv (ks - 1), hg (ks - 1), hv, hg, ks - 1, tl, tb, rz, ⟨hV.2.2.1 _ (by omega), by omega, fun j hj => hV.2.2.1 j (by omega), hV.2.2.2⟩, Or.inl rfl, fun σ hC => ?_, fun σ hM => ?_⟩
    · obtain ⟨c1, ⟨nx, c2⟩, c3⟩ := hC
      obtain ⟨σ', e, q1, q2, q3⟩ := hback c2 hV.2.2.1 h5 (by omega)
      rw [f_X5_back, if_pos kd_0, rf_0_1, rf_0_0, e, cb_some, notedN (ge_nI (by omega)), cb_some]
      exact ⟨_, rfl, ⟨q1, ⟨_, q2⟩, CT_loc c3 (by rw [q3 269 (by omega)]) (q3 270 (by omega)) (q3 297 (by omega)) (q3 283 (by omega))⟩, fun k hk => q3 k (by omega)⟩
    · obtain ⟨m1, m2, m3⟩ := hM
      obtain ⟨σ', e, q1, q2, q3, q4⟩ := backM m2 h5 (by omega)
      rw [e]
      refine ⟨_, rfl, ⟨q1, q2, ?_⟩, fun k hk => q3 k (by omega) (by omega)⟩
      unfold MT
      rw [q4 5 (by decide), q3 303 (by decide) (by decide), q3 302 (by decide) (by decide)]
      exact m3
theorem sim_on {n : Nat} (hn : n < 600) (x : Int32) : Sim (Inv n) (Inv (n + 1)) (f_X5_on 0 x) (f_X6_on 298 x) := by
  refine ask_sim hn (fun v g hv hg ks tl tb rz hV => ?_)
  cases hx : inb x 12 with
  | false =>
    refine ⟨-2, fun σ hC => ⟨σ, ?_, hC, fun k hk => rfl⟩, fun σ hM => ⟨σ, ?_, hM, fun k hk => rfl⟩⟩
    · rw [f_X5_on, if_pos kd_0, show (12 : Int32) = nI 12 from rfl, isb x (by omega), cb_some, hx, if_pos bf, f_X5_on_23, if_pos kd_0]
    · rw [f_X6_on, if_pos kd_298, isSpot_eq, cb_some, hx, if_pos bf, refusedM (k := 0) rfl, countedM (k := 0) rfl]
  | true =>
    obtain ⟨j, hj, rfl⟩ := inb_ex hx (by omega)
    have hw : -1 ≤ oI (who v j) := by
      cases h : who v j with
      | none => decide
      | some d =>
        refine ge_nI ?_
        have : ∀ (n i e : Nat), whoF v j n i = some e → e < i + n := by
          intro n
          induction n with
          | zero => intro i e h; cases h
          | succ n ih =>
            intro i e h
            rw [whoF] at h
            split at h
            · cases h; omega
            · have := ih _ _ h; omega
        have h2 := this _ _ _ h
        have := hV.1.1
        omega
    refine ⟨oI (who v j), fun σ hC => ⟨σ, ?_, hC, fun k hk => rfl⟩, fun σ hM => ⟨σ, ?_, hM, fun k hk => rfl⟩⟩
    · rw [f_X5_on, if_pos kd_0, show (12 : Int32) = nI 12 from rfl, isb _ (by omega), cb_some, hx, if_neg bt, rf_0_0, whoC hC.1 hV.1 hj, cb_some, f_X5_on_23, if_pos kd_0]
    · rw [f_X6_on, if_pos kd_298, isSpot_eq, cb_some, hx, if_neg bt, whoM hM.1 hV.1 (by omega), cb_some, countedN hw, cb_some]
theorem sim_told {n : Nat} (hn : n < 600) (x : Int32) : Sim (Inv n) (Inv (n + 1)) (f_X5_told 0 x) (f_X6_told 298 x) := by
  refine sim_of hn (fun v g hv hg ks tl tb rz hV hB => ?_)
  have h5 := hV.2.1
  have h120 := hV.2.2.2.1
  cases hx : inb x 5 with
  | false =>
    have hne := inb_lit hx (by omega)
    have n0 : ¬ x = 0 := hne 0 (by omega)
    have n1 : ¬ x = 1 := hne 1 (by omega)
    have n2 : ¬ x = 2 := hne 2 (by omega)
    have n3 : ¬ x = 3 := hne 3 (by omega)
    have n4 : ¬ x = 4 := hne 4 (by omega)
    refine ⟨-2, v, g, hv, hg, ks, tl, tb, rzU rz 0, hV, Or.inr ⟨0, rfl⟩, fun σ hC => ?_, fun σ hM => ?_⟩
    · rw [f_X5_told, if_pos kd_0, if_neg n0, if_neg n1, if_neg n2, if_neg n3, if_neg n4, notedC (k := 0) rfl, cb_some]
      exact ⟨_, rfl, CI_ref hV (by omega) hC, fun k hk => up_o _ _ _ _ (by omega)⟩
    · rw [f_X6_told, if_pos kd_298, f_X6_toldOf, if_pos kd_298, isI (N := 5) (by decide), cb_some, hx, if_pos bf, cb_some, countedM (k := 0) rfl, cb_some]
      exact ⟨_, rfl, MI_ref (by omega) hM, fun k hk => up_o _ _ _ _ (by omega)⟩
  | true =>
    obtain ⟨j, hj, rfl⟩ := inb_ex hx (by omega)
    have hb : ∀ k, k < 3 → -1 ≤ rz k := fun k hk => by
      obtain ⟨m, h1, h2⟩ := hB k hk
      rw [h2]
      exact ge_nI (by omega)
    refine ⟨if j < 3 then rz j else if j = 3 then nI tl else nI ks, v, g, hv, hg, ks, tl, tb, rz, hV, Or.inl rfl, fun σ hC => ?_, fun σ hM => ?_⟩
    · refine ⟨σ, ?_, hC, fun k hk => rfl⟩
      obtain ⟨c1, ⟨nx, c2⟩, c3, c4, c5, c6⟩ := hC
      rcases (show j = 0 ∨ j = 1 ∨ j = 2 ∨ j = 3 ∨ j = 4 by omega) with rfl | rfl | rfl | rfl | rfl
      · rw [f_X5_told, if_pos kd_0, if_pos (show nI 0 = 0 from rfl), f_X5_told_36, if_pos kd_0, if_pos (by decide), rf_0_4, ix_nI (by omega), c5 0 (by omega)]; rfl
      · rw [f_X5_told, if_pos kd_0, if_neg (by decide), if_pos (show nI 1 = 1 from rfl), f_X5_told_36, if_pos kd_0, if_pos (by decide), rf_0_4, ix_nI (by omega), c5 1 (by omega)]; rfl
      · rw [f_X5_told, if_pos kd_0, if_neg (by decide), if_neg (by decide), if_pos (show nI 2 = 2 from rfl), f_X5_told_36, if_pos kd_0, if_pos (by decide), rf_0_4, ix_nI (by omega), c5 2 (by omega)]; rfl
      · rw [f_X5_told, if_pos kd_0, if_neg (by decide), if_neg (by decide), if_neg (by decide), if_pos (show nI 3 = 3 from rfl), rf_0_2, c3]; rfl
      · rw [f_X5_told, if_pos kd_0, if_neg (by decide), if_neg (by decide), if_neg (by decide), if_neg (by decide), if_pos (show nI 4 = 4 from rfl), rf_0_1, c2.2.2.1]; rfl
    · refine ⟨σ, ?_, hM, fun k hk => rfl⟩
      obtain ⟨m1, m2, m3, m4, m5⟩ := hM
      rw [f_X6_told, if_pos kd_298, f_X6_toldOf, if_pos kd_298, isI (N := 5) (by decide), cb_some, hx, if_neg bt]
      by_cases h3 : j < 3
      · rw [if_neg (by rw [show (3 : Int32) = nI 3 from rfl, n_le (by omega) (by omega)]; omega), if_pos (by rw [inb_nI (by omega)]; exact decide_eq_true h3), cb_some, rf_298_4, ix_nI (by omega), m5 j h3, countedN (hb j h3), cb_some, if_pos h3]
      · rw [if_pos (by rw [show (3 : Int32) = nI 3 from rfl, n_le (by omega) (by omega)]; omega), if_neg h3, m3, m2.1]
        by_cases h4 : j = 3
        · subst h4
          rw [if_pos rfl, if_pos (show nI 3 = 3 from rfl), cb_some, countedN (ge_nI (by omega)), cb_some]
        · rw [if_neg h4, if_neg (by rw [show (3 : Int32) = nI 3 from rfl, n_eq (by omega) (by omega)]; exact h4), cb_some, countedN (ge_nI (by omega)), cb_some]
