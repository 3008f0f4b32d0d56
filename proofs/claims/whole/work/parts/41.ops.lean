def vu (v : Vt) (k x : Nat) : Vt := fun j => if j = k then x else v j
theorem vu_s (v : Vt) (k x : Nat) : vu v k x k = x := by simp [vu]
theorem vu_n (v : Vt) {k j : Nat} (x : Nat) (h : j ≠ k) : vu v k x j = v j := by simp [vu, h]
theorem Mo_up {σ : Sg} {v : Vt} {g : Int32} {k x : Nat} (h : Mo (σ 299) v g) (hk : k ≠ 3) : Mo ((up σ 299 k (nI x)) 299) (vu v k x) g := by
  refine ⟨by simp [up_a, Ne.symm hk]; exact h.1, fun j h1 h2 => ?_⟩
  by_cases e : j = k
  · subst e; simp [up_a, vu_s]
  · simp [up_a, e, vu_n v x e, h.2 j h1 h2]
theorem OpM_bad {op : Sg → Option (Int32 × Sg)} {v : Vt} {g r : Int32} (h : ∀ τ, Mo (τ 299) v g → op τ = some (r, τ)) : OpM op v g r v g := fun τ hτ => ⟨τ, h τ hτ, hτ, fun k hk => rfl⟩
theorem OpC_bad {op : Sg → Option (Int32 × Sg)} {v : Vt} {g r : Int32} (h : ∀ τ, Cl τ 1 v g → op τ = some (r, τ)) : OpC op v g r v g := fun τ hτ => ⟨τ, h τ hτ, hτ, fun k hk => rfl⟩
theorem ge0 {n : Nat} (h : n < 2147483648) : (0 : Int32) ≤ nI n := nI_pos' (by omega)
/-- the cells of call c of the square now -/
theorem c_at {c : Nat} (h : c < 8) : rf 4 c = 7 + 4 * c ∧ kd (7 + 4 * c) = 0 ∧ rf (7 + 4 * c) 0 = 8 + 4 * c ∧ rf (7 + 4 * c) 1 = 9 + 4 * c ∧ rf (7 + 4 * c) 2 = 10 + 4 * c := (by decide +kernel : ∀ c, c < 8 → rf 4 c = 7 + 4 * c ∧ kd (7 + 4 * c) = 0 ∧ rf (7 + 4 * c) 0 = 8 + 4 * c ∧ rf (7 + 4 * c) 1 = 9 + 4 * c ∧ rf (7 + 4 * c) 2 = 10 + 4 * c) c h
/-! plans, scraps -/
theorem op_plans (x : Int32) (v : Vt) (g : Int32) (hV : Va v) : ∃ (r : Int32) (v' : Vt) (g' : Int32), Va v' ∧ OkR r v g v' g' ∧ OpC (f_X3_addToPlan 1 x) v g r v' g' ∧ OpM (f_X6_plansOn 298 x) v g r v' g' := by
  obtain ⟨h0, h1, h2, hd, hc, hi, hp⟩ := id hV
  cases hx : inb x (v 1) with
  | false =>
    refine ⟨-2, v, g, hV, Or.inr ⟨0, rfl, rfl, rfl⟩, OpC_bad (fun τ hC => ?_), OpM_bad (fun τ hM => ?_)⟩
    · rw [f_X3_addToPlan, if_pos kd_1, hC.2.1, isb x (by omega), cb_some, hx, if_pos bf]
    · rw [f_X6_plansOn, if_pos kd_298, isCall_eq hM (by omega), cb_some, hx, if_pos bf]
  | true =>
    obtain ⟨c, hc', rfl⟩ := inb_ex hx (by omega)
    by_cases h12 : v 2 < 12
    · refine ⟨nI (v 2 + 1), vu (vu v (324 + v 2) c) 2 (v 2 + 1), g, ?_, Or.inl (ge0 (by omega)), fun τ hC => ?_, fun τ hM => ?_⟩
      · refine ⟨?_, ?_, ?_, fun d hd' => ?_, fun c' hc'' s hs => ?_, fun c' hc'' s hs t ht => ?_, fun i hi' => ?_⟩
        · simp [vu, show ¬ 0 = 324 + v 2 by omega]; exact h0
        · simp [vu, show ¬ 1 = 324 + v 2 by omega]; exact h1
        · rw [vu_s]; omega
        · have e0 : vu (vu v (324 + v 2) c) 2 (v 2 + 1) 0 = v 0 := by simp [vu, show ¬ 0 = 324 + v 2 by omega]
          rw [e0] at hd'
          simp (disch := omega) only [vu_n]
          exact hd d hd'
        · have e0 : vu (vu v (324 + v 2) c) 2 (v 2 + 1) 1 = v 1 := by simp [vu, show ¬ 1 = 324 + v 2 by omega]
          rw [e0] at hc''
          simp (disch := omega) only [vu_n]
          exact hc c' hc'' s hs
        · have e0 : vu (vu v (324 + v 2) c) 2 (v 2 + 1) 1 = v 1 := by simp [vu, show ¬ 1 = 324 + v 2 by omega]
          rw [e0] at hc''
          simp (disch := omega) only [vu_n]
          exact hi c' hc'' s hs t ht
        · have e0 : vu (vu v (324 + v 2) c) 2 (v 2 + 1) 1 = v 1 := by simp [vu, show ¬ 1 = 324 + v 2 by omega]
          rw [vu_s] at hi'
          rw [e0, vu_n _ _ (by omega)]
          by_cases e : i = v 2
          · subst e; rw [vu_s]; exact hc'
          · rw [vu_n _ _ (by omega)]; exact hp i (by omega)
      · obtain ⟨c0, c3, c5, c8, cd, cc, cp⟩ := hC
        rw [f_X3_addToPlan, if_pos kd_1, c3, isb _ (by omega), cb_some, hx, if_neg bt, c5]
        simp (disch := omega) only [kd_0, kd_1, kd_39, kd_269, kd_273, kd_298, rf_0_0, rf_0_1, rf_0_2, rf_0_3, rf_0_4, rf_1_1, rf_1_2, rf_1_4, rf_1_6, rf_1_7, rf_39_0, rf_269_0, rf_269_5, rf_269_6, rf_298_0, rf_298_1, rf_298_3, rf_298_4, rf_298_6, rf_298_7, rf_298_8, rf_298_9, bn, cb_some, li, ix_nI, inb_nI, n_lt, n_le, n_eq, n_div, n_rem, nI_add, pk_mul, decide_eq_true_eq, if_true, if_false, bI_0, bI_or, not_true, not_false_eq_true, reduceIte, h12, up_a, show ¬ (1 : Nat) = 5 by decide, false_and, c5, and_self]
        refine ⟨_, rfl, ⟨?_, ?_, ?_, ?_, fun d hd' => ?_, fun c' hc'' s hs => ?_, fun i hi' => ?_⟩, fun k hk => by rw [up_o _ _ _ _ (by omega), up_o _ _ _ _ (by omega)]⟩
        · simp [up_a, c0, vu, show ¬ 0 = 324 + v 2 by omega]
        · simp [up_a, c3, vu, show ¬ 1 = 324 + v 2 by omega]
        · simp [up_a, vu_s]
        · simp [up_a, c8]
        · simp (disch := omega) only [vu_n] at hd'
          simp (disch := omega) only [vu_n]
          simp [up_a]
          exact cd d hd'
        · simp (disch := omega) only [vu_n] at hc''
          simp (disch := omega) only [vu_n]
          rw [up_o _ _ _ _ (by omega), up_o _ _ _ _ (by omega), up_o _ _ _ _ (by omega), up_o _ _ _ _ (by omega), up_o _ _ _ _ (by omega), up_o _ _ _ _ (by omega)]
          exact cc c' hc'' s hs
        · rw [vu_s] at hi'
          rw [vu_n _ _ (by omega), up_o _ _ _ _ (by decide), up_a]
          by_cases e : i = v 2
          · subst e; rw [vu_s, if_pos ⟨rfl, rfl⟩]
          · rw [vu_n _ _ (by omega), if_neg (by omega)]; exact cp i (by omega)
      · rw [f_X6_plansOn, if_pos kd_298, isCall_eq hM (by omega), cb_some, hx, if_neg bt]
        simp (disch := omega) only [kd_0, kd_1, kd_39, kd_269, kd_273, kd_298, rf_0_0, rf_0_1, rf_0_2, rf_0_3, rf_0_4, rf_1_1, rf_1_2, rf_1_4, rf_1_6, rf_1_7, rf_39_0, rf_269_0, rf_269_5, rf_269_6, rf_298_0, rf_298_1, rf_298_3, rf_298_4, rf_298_6, rf_298_7, rf_298_8, rf_298_9, bn, cb_some, li, ix_nI, inb_nI, n_lt, n_le, n_eq, n_div, n_rem, nI_add, pk_mul, decide_eq_true_eq, if_true, if_false, bI_0, bI_or, not_true, not_false_eq_true, reduceIte, hM.2, show (2 : Nat) < 336 by decide, show ¬ v 2 = 12 by omega, show 324 + v 2 < 336 by omega, up_a, and_false, true_and, show ¬ 2 = 324 + v 2 by omega]
        exact ⟨_, rfl, Mo_up (Mo_up hM (by omega)) (by omega), fun k hk => by rw [up_o _ _ _ _ hk, up_o _ _ _ _ hk]⟩
    · have e12 : v 2 = 12 := by omega
      refine ⟨-4, v, g, hV, Or.inr ⟨2, rfl, rfl, rfl⟩, OpC_bad (fun τ hC => ?_), OpM_bad (fun τ hM => ?_)⟩
      · rw [f_X3_addToPlan, if_pos kd_1, hC.2.1, isb _ (by omega), cb_some, hx, if_neg bt, hC.2.2.1, if_neg (by rw [e12]; decide)]
      · rw [f_X6_plansOn, if_pos kd_298, isCall_eq hM (by omega), cb_some, hx, if_neg bt, if_pos (by decide), rf_298_0, show ix 2 = 2 from rfl, hM.2 2 (by omega) (by omega), if_pos (by rw [e12]; rfl)]
theorem sim_plans {n : Nat} (hn : n < 600) (x : Int32) : Sim (Inv n) (Inv (n + 1)) (f_X5_plans 0 x) (f_X6_plans 298 x) := by
  refine mut_sim (opc := f_X3_addToPlan 1 x) (opm := f_X6_plansOn 298 x) hn (fun σ => ?_) (fun σ => ?_) (op_plans x)
  · rw [f_X5_plans, if_pos kd_0, rf_0_0, rf_0_1]
  · rw [f_X6_plans, if_pos kd_298]
theorem sim_scraps {n : Nat} (hn : n < 600) : Sim (Inv n) (Inv (n + 1)) (f_X5_scraps 0) (f_X6_scraps 298) := by
  refine sim_of hn (fun v g hv hg ks tl tb rz hV hB => ?_)
  obtain ⟨h0, h1, h2, hd, hc, hi, hp⟩ := id hV.1
  have hV' : Va (vu v 2 0) := by
    refine ⟨by rw [vu_n _ _ (by decide)]; exact h0, by rw [vu_n _ _ (by decide)]; exact h1, by rw [vu_s]; omega, fun d hd' => ?_, fun c' hc'' s hs => ?_, fun c' hc'' s hs t ht => ?_, fun i hi' => by rw [vu_s] at hi'; exact absurd hi' (Nat.not_lt_zero _)⟩
    · simp (disch := omega) only [vu_n] at hd'
      simp (disch := omega) only [vu_n]
      exact hd d hd'
    · simp (disch := omega) only [vu_n] at hc''
      simp (disch := omega) only [vu_n]
      exact hc c' hc'' s hs
    · simp (disch := omega) only [vu_n] at hc''
      simp (disch := omega) only [vu_n]
      exact hi c' hc'' s hs t ht
  have oc : OpC (f_X3_emptyPlan 1) v g (nI (v 2)) (vu v 2 0) g := by
    intro τ hC
    obtain ⟨c0, c3, c5, c8, cd, cc, cp⟩ := hC
    rw [f_X3_emptyPlan, if_pos kd_1, c5]
    refine ⟨_, rfl, ⟨?_, ?_, ?_, ?_, fun d hd' => ?_, fun c' hc'' s hs => ?_, fun i hi' => by rw [vu_s] at hi'; exact absurd hi' (Nat.not_lt_zero _)⟩, fun k hk => up_o _ _ _ _ (by omega)⟩
    · simp [up_a, c0, vu]
    · simp [up_a, c3, vu]
    · simp [up_a, vu_s, nI_0]
    · simp [up_a, c8]
    · simp (disch := omega) only [vu_n] at hd'
      simp (disch := omega) only [vu_n]
      simp [up_a]
      exact cd d hd'
    · simp (disch := omega) only [vu_n] at hc''
      simp (disch := omega) only [vu_n]
      rw [up_o _ _ _ _ (by omega), up_o _ _ _ _ (by omega), up_o _ _ _ _ (by omega)]
      exact cc c' hc'' s hs
  refine ⟨nI (v 2), vu v 2 0, g, push hv ks v, push hg ks g, nk ks, tl, tb, rz, VI_push hV hV', Or.inl rfl, fun σ hC => ?_, fun σ hM => ?_⟩
  · rw [f_X5_scraps, if_pos kd_0, rf_0_0, rf_0_1]
    exact mutC hV hV' oc (ge0 (by omega)) hC
  · rw [f_X6_scraps, if_pos kd_298, if_pos (by decide), rf_298_0, show ix 2 = 2 from rfl, hM.1.2 2 (by omega) (by omega)]
    simp only [bn]
    refine keepM (op := fun τ => if inb 2 336 then some (nI (v 2), up τ 299 2 0) else none) hV.2.1 (fun τ hτ => ?_) hM
    exact ⟨_, rfl, Mo_up (x := 0) hτ (by decide), fun k hk => up_o _ _ _ _ hk⟩
