theorem Cl_call {τ : Sg} {v : Vt} {g : Int32} {c s w x : Nat} (hC : Cl τ 1 v g) (hV : Va v) (hc : c < v 1) (hs : s < 12) (hw : w < 3) : Cl (up τ (8 + 4 * c + w) s (nI x)) 1 (vu v (36 + 36 * c + 12 * w + s) x) g := by
  obtain ⟨h0, h1, h2, -⟩ := hV
  obtain ⟨c0, c3, c5, c8, cd, cc, cp⟩ := hC
  refine ⟨?_, ?_, ?_, ?_, fun d hd' => ?_, fun c' hc'' s' hs' => ?_, fun i hi' => ?_⟩
  · rw [up_o _ _ _ _ (by omega), vu_n _ _ (by omega)]; exact c0
  · rw [up_o _ _ _ _ (by omega), vu_n _ _ (by omega)]; exact c3
  · rw [up_o _ _ _ _ (by omega), vu_n _ _ (by omega)]; exact c5
  · rw [up_o _ _ _ _ (by omega)]; exact c8
  · rw [vu_n _ _ (by omega)] at hd'
    rw [up_o _ _ _ _ (by omega), up_o _ _ _ _ (by omega), vu_n _ _ (by omega), vu_n _ _ (by omega), vu_n _ _ (by omega), vu_n _ _ (by omega)]
    exact cd d hd'
  · rw [vu_n _ _ (by omega)] at hc''
    obtain ⟨x1, x2, x3⟩ := cc c' hc'' s' hs'
    refine ⟨?_, ?_, ?_⟩
    · rw [up_a]
      by_cases e : c' = c ∧ w = 0 ∧ s' = s
      · obtain ⟨rfl, rfl, rfl⟩ := e
        rw [if_pos (by omega), show 36 + 36 * c' + s' = 36 + 36 * c' + 12 * 0 + s' by omega, vu_s]
      · rw [if_neg (by omega), vu_n _ _ (by omega)]; exact x1
    · rw [up_a]
      by_cases e : c' = c ∧ w = 1 ∧ s' = s
      · obtain ⟨rfl, rfl, rfl⟩ := e
        rw [if_pos (by omega), show 48 + 36 * c' + s' = 36 + 36 * c' + 12 * 1 + s' by omega, vu_s]
      · rw [if_neg (by omega), vu_n _ _ (by omega)]; exact x2
    · rw [up_a]
      by_cases e : c' = c ∧ w = 2 ∧ s' = s
      · obtain ⟨rfl, rfl, rfl⟩ := e
        rw [if_pos (by omega), show 60 + 36 * c' + s' = 36 + 36 * c' + 12 * 2 + s' by omega, vu_s]
      · rw [if_neg (by omega), vu_n _ _ (by omega)]; exact x3
  · rw [vu_n _ _ (by omega)] at hi'
    rw [up_o _ _ _ _ (by omega), vu_n _ _ (by omega)]
    exact cp i hi'
/-- a turn or a want is set -/
theorem Va_tw {v : Vt} {c s w x : Nat} (hV : Va v) (hc : c < v 1) (hs : s < 12) (hw : w = 1 ∧ x < 4 ∨ w = 2 ∧ x < 3) : Va (vu v (36 + 36 * c + 12 * w + s) x) := by
  obtain ⟨h0, h1, h2, hd, hcc, hi, hp⟩ := hV
  refine ⟨by rw [vu_n _ _ (by omega)]; exact h0, by rw [vu_n _ _ (by omega)]; exact h1, by rw [vu_n _ _ (by omega)]; exact h2, fun d hd' => ?_, fun c' hc'' s' hs' => ?_, fun c' hc'' s' hs' t ht => ?_, fun i hi' => ?_⟩
  · rw [vu_n _ _ (by omega)] at hd'
    rw [vu_n _ _ (by omega), vu_n _ _ (by omega), vu_n _ _ (by omega), vu_n _ _ (by omega)]
    exact hd d hd'
  · rw [vu_n _ _ (by omega)] at hc''
    obtain ⟨x1, x2, x3⟩ := hcc c' hc'' s' hs'
    refine ⟨by rw [vu_n _ _ (by omega)]; exact x1, ?_, ?_⟩
    · by_cases e : c' = c ∧ w = 1 ∧ s' = s
      · obtain ⟨rfl, rfl, rfl⟩ := e
        rw [show 48 + 36 * c' + s' = 36 + 36 * c' + 12 * 1 + s' by omega, vu_s]
        omega
      · rw [vu_n _ _ (by omega)]; exact x2
    · by_cases e : c' = c ∧ w = 2 ∧ s' = s
      · obtain ⟨rfl, rfl, rfl⟩ := e
        rw [show 60 + 36 * c' + s' = 36 + 36 * c' + 12 * 2 + s' by omega, vu_s]
        omega
      · rw [vu_n _ _ (by omega)]; exact x3
  · rw [vu_n _ _ (by omega)] at hc''
    rw [vu_n _ _ (by omega), vu_n _ _ (by omega)]
    exact hi c' hc'' s' hs' t ht
  · rw [vu_n _ _ (by omega)] at hi'
    rw [vu_n _ _ (by omega), vu_n _ _ (by omega)]
    exact hp i hi'
theorem spotC {τ : Sg} {v : Vt} {g : Int32} (hC : Cl τ 1 v g) (hV : Va v) (x y : Int32) : f_X3_isSpotOfCall 1 x y τ = some (bI (inb x (v 1) && inb y 12), τ) := by
  have h1 := hV.2.1
  rw [f_X3_isSpotOfCall, if_pos kd_1, hC.2.1, isb x (by omega), cb_some]
  cases inb x (v 1) with
  | false => rfl
  | true =>
    rw [if_neg bt, show (12 : Int32) = nI 12 from rfl, isb y (by omega), cb_some]
    cases inb y 12 <;> rfl
theorem setsAt_out {τ : Sg} {v : Vt} {g : Int32} (hM : Mo (τ 299) v g) (hV : Va v) {x y z : Int32} {w N : Nat} (hw : w = 1 ∧ N = 4 ∨ w = 2 ∧ N = 3) (h : (inb x (v 1) && inb y 12 && inb z N) = false) : f_X6_setsAt 298 x y (nI w) z τ = some (-2, τ) := by
  have h1 := hV.2.1
  have hN : (4 - nI w : Int32).toInt = (N : Int) - 1 := by rcases hw with ⟨rfl, rfl⟩ | ⟨rfl, rfl⟩ <;> decide
  rw [f_X6_setsAt, if_pos kd_298, isCall_eq hM (by omega), cb_some]
  cases e1 : inb x (v 1) with
  | false => rfl
  | true =>
    rw [if_neg bt, isSpot_eq, cb_some]
    cases e2 : inb y 12 with
    | false => rfl
    | true =>
      rw [if_neg bt, isI hN, cb_some]
      rw [e1, e2] at h
      rw [show inb z N = false by simpa using h, if_pos bf]
theorem setsAt_in {τ : Sg} {v : Vt} {g : Int32} (hM : Mo (τ 299) v g) (hV : Va v) {c s t w N : Nat} (hw : w = 1 ∧ N = 4 ∨ w = 2 ∧ N = 3) (hc : c < v 1) (hs : s < 12) (ht : t < N) : f_X6_setsAt 298 (nI c) (nI s) (nI w) (nI t) τ = some (nI (v (36 + 36 * c + 12 * w + s)), up τ 299 (36 + 36 * c + 12 * w + s) (nI t)) := by
  have h1 := hV.2.1
  have hN : (4 - nI w : Int32).toInt = (N : Int) - 1 := by rcases hw with ⟨rfl, rfl⟩ | ⟨rfl, rfl⟩ <;> decide
  have e1 : inb (nI c) (v 1) = true := by rw [inb_nI (by omega)]; exact decide_eq_true hc
  have e2 : inb (nI s) 12 = true := by rw [inb_nI (by omega)]; exact decide_eq_true hs
  have e3 : inb (nI t) N = true := by rw [inb_nI (by omega)]; exact decide_eq_true ht
  have e4 : inb (nI (36 + 36 * c + 12 * w + s)) 336 = true := by rw [inb_nI (by omega)]; exact decide_eq_true (by omega)
  rw [f_X6_setsAt, if_pos kd_298, isCall_eq hM (by omega), cb_some, e1, if_neg bt, isSpot_eq, cb_some, e2, if_neg bt, isI hN, cb_some, e3, if_neg bt, place_eq, cb_some, if_pos e4, rf_298_0, ix_nI (by omega), hM.2 _ (by omega) (by omega)]
  simp only [bn]
  rw [place_eq, cb_some, if_pos e4, ix_nI (by omega)]
theorem op_turns (x y z : Int32) (v : Vt) (g : Int32) (hV : Va v) : ∃ (r : Int32) (v' : Vt) (g' : Int32), Va v' ∧ OkR r v g v' g' ∧ OpC (f_X3_setTurn 1 x y z) v g r v' g' ∧ OpM (f_X6_setsAt 298 x y 1 z) v g r v' g' := by
  have h1 := hV.2.1
  cases hx : (inb x (v 1) && inb y 12 && inb z 4) with
  | false =>
    refine ⟨-2, v, g, hV, Or.inr ⟨0, rfl, rfl, rfl⟩, OpC_bad (fun τ hC => ?_), OpM_bad (fun τ hM => setsAt_out hM hV (w := 1) (Or.inl ⟨rfl, rfl⟩) hx)⟩
    rw [f_X3_setTurn, if_pos kd_1, spotC hC hV, cb_some]
    cases e : (inb x (v 1) && inb y 12) with
    | false => rfl
    | true =>
      rw [e] at hx
      rw [if_neg bt, show (4 : Int32) = nI 4 from rfl, isb z (by omega), cb_some, show inb z 4 = false by simpa using hx]
      rfl
  | true =>
    simp only [Bool.and_eq_true] at hx
    obtain ⟨⟨hx1, hx2⟩, hx3⟩ := hx
    obtain ⟨c, hc, rfl⟩ := inb_ex hx1 (by omega)
    obtain ⟨s, hs, rfl⟩ := inb_ex hx2 (by omega)
    obtain ⟨t, ht, rfl⟩ := inb_ex hx3 (by omega)
    obtain ⟨r0, r1, r2, r3, r4⟩ := c_at (show c < 8 by omega)
    have hb := (hV.2.2.2.2.1 c hc s hs)
    refine ⟨nI (v (36 + 36 * c + 12 * 1 + s)), vu v (36 + 36 * c + 12 * 1 + s) t, g, Va_tw hV hc hs (Or.inl ⟨rfl, ht⟩), Or.inl (ge0 (by have := hb.2.1; rw [show 36 + 36 * c + 12 * 1 + s = 48 + 36 * c + s by omega]; omega)), fun τ hC => ?_, fun τ hM => ?_⟩
    · have hcc := (hC.2.2.2.2.2.1 c hc s hs).2.1
      have key := Cl_call (w := 1) (x := t) hC hV hc hs (by omega)
      rw [f_X3_setTurn, if_pos kd_1, spotC hC hV, cb_some, hx1, hx2, Bool.and_self, if_neg bt, show (4 : Int32) = nI 4 from rfl, isb _ (by omega), cb_some, hx3, if_neg bt]
      simp (disch := omega) only [kd_0, kd_1, kd_39, kd_269, kd_273, kd_298, rf_0_0, rf_0_1, rf_0_2, rf_0_3, rf_0_4, rf_1_1, rf_1_2, rf_1_4, rf_1_6, rf_1_7, rf_39_0, rf_269_0, rf_269_5, rf_269_6, rf_298_0, rf_298_1, rf_298_3, rf_298_4, rf_298_6, rf_298_7, rf_298_8, rf_298_9, bn, cb_some, li, ix_nI, inb_nI, n_lt, n_le, n_eq, n_div, n_rem, nI_add, pk_mul, decide_eq_true_eq, if_true, if_false, bI_0, bI_or, not_true, not_false_eq_true, reduceIte, show c < 8 by omega, hs, r0, r3]
      rw [show 9 + 4 * c = 1 + 8 + 4 * c by omega, hcc, show 1 + 8 + 4 * c = 8 + 4 * c + 1 by omega, show 48 + 36 * c + s = 36 + 36 * c + 12 * 1 + s by omega]
      exact ⟨_, rfl, key, fun k hk => up_o _ _ _ _ (by omega)⟩
    · rw [show (1 : Int32) = nI 1 from rfl, setsAt_in hM hV (Or.inl ⟨rfl, rfl⟩) hc hs ht]
      exact ⟨_, rfl, Mo_up hM (by omega), fun k hk => up_o _ _ _ _ hk⟩
theorem sim_turns {n : Nat} (hn : n < 600) (x y z : Int32) : Sim (Inv n) (Inv (n + 1)) (f_X5_turns 0 x y z) (f_X6_turns 298 x y z) := by
  refine mut_sim (opc := f_X3_setTurn 1 x y z) (opm := f_X6_setsAt 298 x y 1 z) hn (fun σ => ?_) (fun σ => ?_) (op_turns x y z)
  · rw [f_X5_turns, if_pos kd_0, rf_0_0, rf_0_1]
  · rw [f_X6_turns, if_pos kd_298]
theorem op_wants (x y z : Int32) (v : Vt) (g : Int32) (hV : Va v) : ∃ (r : Int32) (v' : Vt) (g' : Int32), Va v' ∧ OkR r v g v' g' ∧ OpC (f_X3_setWant 1 x y z) v g r v' g' ∧ OpM (f_X6_setsAt 298 x y 2 z) v g r v' g' := by
  have h1 := hV.2.1
  cases hx : (inb x (v 1) && inb y 12 && inb z 3) with
  | false =>
    refine ⟨-2, v, g, hV, Or.inr ⟨0, rfl, rfl, rfl⟩, OpC_bad (fun τ hC => ?_), OpM_bad (fun τ hM => setsAt_out hM hV (w := 2) (Or.inr ⟨rfl, rfl⟩) hx)⟩
    rw [f_X3_setWant, if_pos kd_1, spotC hC hV, cb_some]
    cases e : (inb x (v 1) && inb y 12) with
    | false => rfl
    | true =>
      rw [e] at hx
      rw [if_neg bt, show (3 : Int32) = nI 3 from rfl, isb z (by omega), cb_some, show inb z 3 = false by simpa using hx]
      rfl
  | true =>
    simp only [Bool.and_eq_true] at hx
    obtain ⟨⟨hx1, hx2⟩, hx3⟩ := hx
    obtain ⟨c, hc, rfl⟩ := inb_ex hx1 (by omega)
    obtain ⟨s, hs, rfl⟩ := inb_ex hx2 (by omega)
    obtain ⟨t, ht, rfl⟩ := inb_ex hx3 (by omega)
    obtain ⟨r0, r1, r2, r3, r4⟩ := c_at (show c < 8 by omega)
    have hb := (hV.2.2.2.2.1 c hc s hs)
    refine ⟨nI (v (36 + 36 * c + 12 * 2 + s)), vu v (36 + 36 * c + 12 * 2 + s) t, g, Va_tw hV hc hs (Or.inr ⟨rfl, ht⟩), Or.inl (ge0 (by have := hb.2.2; rw [show 36 + 36 * c + 12 * 2 + s = 60 + 36 * c + s by omega]; omega)), fun τ hC => ?_, fun τ hM => ?_⟩
    · have hcc := (hC.2.2.2.2.2.1 c hc s hs).2.2
      have key := Cl_call (w := 2) (x := t) hC hV hc hs (by omega)
      rw [f_X3_setWant, if_pos kd_1, spotC hC hV, cb_some, hx1, hx2, Bool.and_self, if_neg bt, show (3 : Int32) = nI 3 from rfl, isb _ (by omega), cb_some, hx3, if_neg bt]
      simp (disch := omega) only [kd_0, kd_1, kd_39, kd_269, kd_273, kd_298, rf_0_0, rf_0_1, rf_0_2, rf_0_3, rf_0_4, rf_1_1, rf_1_2, rf_1_4, rf_1_6, rf_1_7, rf_39_0, rf_269_0, rf_269_5, rf_269_6, rf_298_0, rf_298_1, rf_298_3, rf_298_4, rf_298_6, rf_298_7, rf_298_8, rf_298_9, bn, cb_some, li, ix_nI, inb_nI, n_lt, n_le, n_eq, n_div, n_rem, nI_add, pk_mul, decide_eq_true_eq, if_true, if_false, bI_0, bI_or, not_true, not_false_eq_true, reduceIte, show c < 8 by omega, hs, r0, r4]
      rw [show 10 + 4 * c = 1 + 9 + 4 * c by omega, hcc, show 1 + 9 + 4 * c = 8 + 4 * c + 2 by omega, show 60 + 36 * c + s = 36 + 36 * c + 12 * 2 + s by omega]
      exact ⟨_, rfl, key, fun k hk => up_o _ _ _ _ (by omega)⟩
    · rw [show (2 : Int32) = nI 2 from rfl, setsAt_in hM hV (Or.inr ⟨rfl, rfl⟩) hc hs ht]
      exact ⟨_, rfl, Mo_up hM (by omega), fun k hk => up_o _ _ _ _ hk⟩
theorem sim_wants {n : Nat} (hn : n < 600) (x y z : Int32) : Sim (Inv n) (Inv (n + 1)) (f_X5_wants 0 x y z) (f_X6_wants 298 x y z) := by
  refine mut_sim (opc := f_X3_setWant 1 x y z) (opm := f_X6_setsAt 298 x y 2 z) hn (fun σ => ?_) (fun σ => ?_) (op_wants x y z)
  · rw [f_X5_wants, if_pos kd_0, rf_0_0, rf_0_1]
  · rw [f_X6_wants, if_pos kd_298]
