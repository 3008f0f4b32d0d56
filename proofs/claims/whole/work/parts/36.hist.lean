/-- a loop that counts up, with what holds at its head -/
theorem loopI {S α : Type} (F : Nat → Nat → S → Option α) (I : Nat → S → Prop) (P : α → Prop) (N : Nat) (hz : ∀ n s, I N s → ∃ a, F (n + 1) N s = some a ∧ P a) (hs : ∀ n j s, j < N → I j s → (∃ s', F (n + 1) j s = F n (j + 1) s' ∧ I (j + 1) s') ∨ (∃ a, F (n + 1) j s = some a ∧ P a)) : ∀ n j s, j ≤ N → N - j < n → I j s → ∃ a, F n j s = some a ∧ P a := by
  intro n
  induction n with
  | zero => intro j s h1 h2; exact absurd h2 (by omega)
  | succ n ih =>
    intro j s h1 h2 h3
    rcases Nat.lt_or_ge j N with h | h
    · rcases hs n j s h h3 with ⟨s', e, h4⟩ | h4
      · rw [e]
        exact ih (j + 1) s' h (by omega) h4
      · exact h4
    · have e : j = N := by omega
      subst e
      exact hz n s h3
theorem ex_of {α : Type} {x : Option α} {a : α} {P : α → Prop} (e : x = some a) (h : P a) : ∃ a, x = some a ∧ P a := ⟨a, e, h⟩
theorem stp {α S : Type} {x : Option α} {G : S → Option α} {s' : S} {J : S → Prop} {R : Prop} (e : x = G s') (h : J s') : (∃ s', x = G s' ∧ J s') ∨ R := Or.inl ⟨s', e, h⟩
theorem cpy_at (σ : Sg) (a b n k i : Nat) : cpy σ a 0 b 0 n k i = if k = b ∧ i < n then σ a i else σ k i := by
  unfold cpy va_cpy
  by_cases h : k = b
  · subst h
    by_cases h2 : i < n
    · simp [h2]
    · simp [h2]
  · simp [h]
theorem c0_copy {σ : Sg} {k1 k2 : Nat} (h1 : kd k1 = 0) (h2 : kd k2 = 0) : f_X0_copyFrom k1 k2 σ = some ((), cpy (cpy (cpy σ (k2 + 1) 0 (k1 + 1) 0 12) (k2 + 2) 0 (k1 + 2) 0 12) (k2 + 3) 0 (k1 + 3) 0 12) := by
  obtain ⟨r0, r1, r2, -⟩ := st0 h1
  obtain ⟨q0, q1, q2, -⟩ := st0 h2
  rw [f_X0_copyFrom, if_pos h1, if_pos h2, r0, r1, r2, q0, q1, q2]
  rfl
set_option maxHeartbeats 1000000 in
theorem sq_copy {σ : Sg} {a b : Nat} {v : Vt} {g : Int32} (ha : kd a = 3) (hb : kd b = 3) (hab : a + 38 ≤ b ∨ b + 38 ≤ a) (hC : Cl σ b v g) (hV : Va v) : ∃ σ', f_X3_copyFrom a b σ = some ((), σ') ∧ Cl σ' a v g ∧ ∀ k, (k < a ∨ a + 38 ≤ k) → σ' k = σ k := by
  obtain ⟨a1, a2, a4, a6, a7, -⟩ := st3 ha
  obtain ⟨b1, b2, b4, b6, b7, -⟩ := st3 hb
  have ac := st3c ha
  have bc := st3c hb
  have hv0 := hV.1
  have hv1 := hV.2.1
  have hv2 := hV.2.2.1
  obtain ⟨c0, c3, c5, c8, cd, cc, cp⟩ := hC
  rw [f_X3_copyFrom, if_pos ha, if_pos hb, a1, a2, b1, b2]
  simp only [bn]
  have key := loopI (fun n j τ => f_X3_copyFrom_48 n a b (nI j) τ) (fun j τ => τ a 0 = nI (v 0) ∧ τ a 3 = nI (v 1) ∧ (∀ d, d < v 0 → τ (a + 1) d = nI (v (4 + 4 * d) * 4 + v (5 + 4 * d)) ∧ τ (a + 2) d = nI (v (6 + 4 * d) * 4 + v (7 + 4 * d))) ∧ (∀ c, c < j → ∀ s, s < 12 → τ (a + 7 + 4 * c) s = nI (v (36 + 36 * c + s)) ∧ τ (a + 8 + 4 * c) s = nI (v (48 + 36 * c + s)) ∧ τ (a + 9 + 4 * c) s = nI (v (60 + 36 * c + s))) ∧ ∀ k, (k < a ∨ a + 38 ≤ k) → τ k = σ k)
    (fun r => r.1 = () ∧ Cl r.2 a v g ∧ ∀ k, (k < a ∨ a + 38 ≤ k) → r.2 k = σ k) (v 1) ?_ ?_
  · refine (fun h0 => ?_) (key FU 0 (up (cpy (cpy (up σ a 0 (σ b 0)) (b + 1) 0 (a + 1) 0 8) (b + 2) 0 (a + 2) 0 8) a 3 ((cpy (cpy (up σ a 0 (σ b 0)) (b + 1) 0 (a + 1) 0 8) (b + 2) 0 (a + 2) 0 8) b 3)) (by omega) (FU_gt (by omega)) ⟨?_, ?_, fun d hd => ?_, fun c hc => absurd hc (by omega), fun k hk => ?_⟩)
    · obtain ⟨r, e, -, h2, h3⟩ := h0
      exact ⟨r.2, e, h2, h3⟩
    · simp (disch := omega) [up_a, cpy_at, show ¬ a = a + 1 by omega, show ¬ a = a + 2 by omega, c0]
    · simp [up_a, cpy_at, show ¬ b = a + 1 by omega, show ¬ b = a + 2 by omega, show ¬ b = a by omega, c3]
    · have h8 : d < 8 := by omega
      simp [up_a, cpy_at, show ¬ b = a + 1 by omega, show ¬ b + 1 = a + 1 by omega, show ¬ b + 2 = a + 1 by omega, show ¬ b + 1 = a by omega, show ¬ b + 2 = a by omega, show ¬ a = b by omega, h8, (cd d hd).1, (cd d hd).2]
    · funext i
      simp [up_a, cpy_at, show ¬ k = a by omega, show ¬ k = a + 1 by omega, show ¬ k = a + 2 by omega]
  · intro n τ ⟨i0, i3, id, ic, ik⟩
    refine ex_of (by rw [f_X3_copyFrom_48, if_pos ha, if_pos hb, i3, if_pos (by rw [n_le (by omega) (by omega)]; exact Nat.le_refl _), a6, b6]; rfl) ⟨rfl, ?_⟩
    · have kb : τ b = σ b := ik b (by omega)
      have kb4 : τ (b + 4) = σ (b + 4) := ik (b + 4) (by omega)
      refine ⟨⟨?_, ?_, ?_, ?_, fun d hd => ?_, fun c hc s hs => ?_, fun i hi => ?_⟩, fun k hk => ?_⟩
      · simp [up_a, cpy_at, show ¬ a = a + 4 by omega, i0]
      · simp [up_a, cpy_at, show ¬ a = a + 4 by omega, i3]
      · simp [up_a, cpy_at, show ¬ a = a + 4 by omega, kb, c5]
      · simp [up_a, cpy_at, show ¬ a = a + 4 by omega, show ¬ b = a + 4 by omega, show ¬ b = a by omega, kb, c8]
      · simp [up_a, cpy_at, show ¬ a + 1 = a + 4 by omega, show ¬ a + 2 = a + 4 by omega, (id d hd).1, (id d hd).2]
      · obtain ⟨x1, x2, x3⟩ := ic c hc s hs
        simp [up_a, cpy_at, show ¬ a + 7 + 4 * c = a + 4 by omega, show ¬ a + 8 + 4 * c = a + 4 by omega, show ¬ a + 9 + 4 * c = a + 4 by omega, show ¬ a + 7 + 4 * c = a by omega, show ¬ a + 8 + 4 * c = a by omega, show ¬ a + 9 + 4 * c = a by omega, x1, x2, x3]
      · have hi' : i < 12 := by omega
        simp [up_a, cpy_at, show ¬ b + 4 = a by omega, hi', kb4, cp i hi]
      · rw [← ik k hk]
        funext i
        simp [up_a, cpy_at, show ¬ k = a by omega, show ¬ k = a + 4 by omega]
  · intro n j τ hj ⟨i0, i3, id, ic, ik⟩
    have hj8 : j < 8 := by omega
    obtain ⟨p1, p2⟩ := ac j hj8
    obtain ⟨q1, q2⟩ := bc j hj8
    refine stp (by rw [f_X3_copyFrom_48, if_pos ha, if_pos hb, i3, if_neg (by rw [n_le (by omega) (by omega)]; omega), if_pos (by rw [inb_nI (by omega)]; exact decide_eq_true hj8), if_pos (by rw [inb_nI (by omega)]; exact decide_eq_true hj8), ix_nI (by omega), a4, b4, p1, q1, c0_copy p2 q2, cb_some, show (1 : Int32) = nI 1 from rfl, nI_add]) ?_
    · refine ⟨?_, ?_, fun d hd => ?_, fun c hc s hs => ?_, fun k hk => ?_⟩
      · simp [cpy_at, show ¬ a = a + 6 + 4 * j + 1 by omega, show ¬ a = a + 6 + 4 * j + 2 by omega, show ¬ a = a + 6 + 4 * j + 3 by omega, i0]
      · simp [cpy_at, show ¬ a = a + 6 + 4 * j + 1 by omega, show ¬ a = a + 6 + 4 * j + 2 by omega, show ¬ a = a + 6 + 4 * j + 3 by omega, i3]
      · refine ⟨?_, ?_⟩
        · rw [cpy_at, if_neg (by omega), cpy_at, if_neg (by omega), cpy_at, if_neg (by omega)]; exact (id d hd).1
        · rw [cpy_at, if_neg (by omega), cpy_at, if_neg (by omega), cpy_at, if_neg (by omega)]; exact (id d hd).2
      · by_cases e : c = j
        · subst e
          obtain ⟨y1, y2, y3⟩ := cc c hj s hs
          have z1 : τ (b + 6 + 4 * c + 1) = σ (b + 7 + 4 * c) := by rw [ik _ (by omega), show b + 6 + 4 * c + 1 = b + 7 + 4 * c by omega]
          have z2 : τ (b + 6 + 4 * c + 2) = σ (b + 8 + 4 * c) := by rw [ik _ (by omega), show b + 6 + 4 * c + 2 = b + 8 + 4 * c by omega]
          have z3 : τ (b + 6 + 4 * c + 3) = σ (b + 9 + 4 * c) := by rw [ik _ (by omega), show b + 6 + 4 * c + 3 = b + 9 + 4 * c by omega]
          refine ⟨?_, ?_, ?_⟩
          · rw [cpy_at, if_neg (by omega), cpy_at, if_neg (by omega), cpy_at, if_pos (by omega), z1, y1]
          · rw [cpy_at, if_neg (by omega), cpy_at, if_pos (by omega), cpy_at, if_neg (by omega), z2, y2]
          · rw [cpy_at, if_pos (by omega), cpy_at, if_neg (by omega), cpy_at, if_neg (by omega), z3, y3]
        · obtain ⟨x1, x2, x3⟩ := ic c (by omega) s hs
          refine ⟨?_, ?_, ?_⟩
          · rw [cpy_at, if_neg (by omega), cpy_at, if_neg (by omega), cpy_at, if_neg (by omega), x1]
          · rw [cpy_at, if_neg (by omega), cpy_at, if_neg (by omega), cpy_at, if_neg (by omega), x2]
          · rw [cpy_at, if_neg (by omega), cpy_at, if_neg (by omega), cpy_at, if_neg (by omega), x3]
      · rw [← ik k hk]
        funext i
        rw [cpy_at, if_neg (by omega), cpy_at, if_neg (by omega), cpy_at, if_neg (by omega)]

/-! the class's history -/
theorem slot_kd : ∀ i, i < 6 → rf 40 i = 41 + 38 * i ∧ kd (41 + 38 * i) = 3 := st1.2.2.2.2
theorem hprep {σ : Sg} {v : Vt} {g : Int32} {nx : Nat} (hC : Cl σ 1 v g) (hV : Va v) (hn : nx < 6) (h1 : σ 39 1 = nI nx) : ∃ σ', f_X1_prepare 39 1 σ = some ((), σ') ∧ Cl σ' (41 + 38 * nx) v g ∧ ∀ k, (k < 41 + 38 * nx ∨ 41 + 38 * nx + 38 ≤ k) → σ' k = σ k := by
  obtain ⟨e1, e2⟩ := slot_kd nx hn
  obtain ⟨σ', e, h2, h3⟩ := sq_copy e2 kd_1 (Or.inr (by omega)) hC hV
  refine ⟨σ', ?_, h2, h3⟩
  rw [f_X1_prepare, if_pos kd_39, if_pos kd_1, h1, if_pos (by rw [inb_nI (by omega)]; exact decide_eq_true hn), ix_nI (by omega), rf_39_0, e1, e, cb_some]
theorem hconf {σ : Sg} {nx ks : Nat} (hn : nx < 6) (h1 : σ 39 1 = nI nx) (h2 : σ 39 2 = nI ks) (hk : ks ≤ 5) : f_X1_confirm 39 σ = some ((), up (up σ 39 1 (nI ((nx + 1) % 6))) 39 2 (nI (if ks < 5 then ks + 1 else 5))) := by
  rw [f_X1_confirm]
  simp (disch := omega) only [kd_0, kd_1, kd_39, kd_269, kd_273, kd_298, rf_0_0, rf_0_1, rf_0_2, rf_0_3, rf_0_4, rf_1_1, rf_1_2, rf_1_4, rf_1_6, rf_1_7, rf_39_0, rf_269_0, rf_269_5, rf_269_6, rf_298_0, rf_298_1, rf_298_3, rf_298_4, rf_298_6, rf_298_7, rf_298_8, rf_298_9, bn, cb_some, li, ix_nI, inb_nI, n_lt, n_le, n_eq, n_div, n_rem, nI_add, pk_mul, decide_eq_true_eq, if_true, if_false, bI_0, bI_or, not_true, not_false_eq_true, reduceIte, h1, h2, up_a, show ¬ ((2 : Nat) = 1) by decide, and_false]
  by_cases h : ks < 5
  · rw [if_neg (show ¬ 5 < ks + 1 by omega), if_pos h]
  · rw [if_neg h, show ks = 5 by omega]
    rfl
theorem hback {σ : Sg} {hv : Nat → Vt} {hg : Nat → Int32} {ks nx : Nat} (hH : CH σ hv hg ks nx) (hV : ∀ j, j < ks → Va (hv j)) (hk : ks ≤ 5) (h0 : 0 < ks) : ∃ σ', f_X1_takeBack 39 1 σ = some (nI (ks - 1), σ') ∧ Cl σ' 1 (hv (ks - 1)) (hg (ks - 1)) ∧ CH σ' hv hg (ks - 1) ((nx + 5) % 6) ∧ ∀ k, (39 < k ∨ k = 0) → σ' k = σ k := by
  obtain ⟨hn, h1, h2, h3⟩ := hH
  have hlast := h3 (ks - 1) (by omega)
  rw [show (nx + 6 - ks + (ks - 1)) % 6 = (nx + 5) % 6 by omega] at hlast
  obtain ⟨e1, e2⟩ := slot_kd ((nx + 5) % 6) (by omega)
  have hl2 : Cl (up (up σ 39 1 (nI ((nx + 5) % 6))) 39 2 (nI (ks - 1))) (41 + 38 * ((nx + 5) % 6)) (hv (ks - 1)) (hg (ks - 1)) := Cl_loc hlast (hV _ (by omega)).2.1 (fun k a b => by rw [up_o _ _ _ _ (by omega), up_o _ _ _ _ (by omega)])
  obtain ⟨σ', e, c1, c2⟩ := sq_copy kd_1 e2 (Or.inl (by omega)) hl2 (hV _ (by omega))
  refine ⟨σ', ?_, c1, ⟨by omega, ?_, ?_, fun j hj => ?_⟩, fun k hk2 => ?_⟩
  · rw [f_X1_takeBack]
    simp (disch := omega) only [kd_0, kd_1, kd_39, kd_269, kd_273, kd_298, rf_0_0, rf_0_1, rf_0_2, rf_0_3, rf_0_4, rf_1_1, rf_1_2, rf_1_4, rf_1_6, rf_1_7, rf_39_0, rf_269_0, rf_269_5, rf_269_6, rf_298_0, rf_298_1, rf_298_3, rf_298_4, rf_298_6, rf_298_7, rf_298_8, rf_298_9, bn, cb_some, li, ix_nI, inb_nI, n_lt, n_le, n_eq, n_div, n_rem, nI_add, pk_mul, decide_eq_true_eq, if_true, if_false, bI_0, bI_or, not_true, not_false_eq_true, reduceIte, h1, h2, up_a, show ¬ ((2 : Nat) = 1) by decide, and_false, show ¬ ks = 0 by omega, n_sub, true_and, show ¬ ((1 : Nat) = 2) by decide, show (nx + 6 - 1) % 6 = (nx + 5) % 6 by omega, show (nx + 5) % 6 < 6 by omega, e1]
    rw [e, cb_some, c2 39 (by omega)]
    simp [up_a]
  · rw [c2 39 (by omega)]; simp [up_a]
  · rw [c2 39 (by omega)]; simp [up_a]
  · have h4 := h3 j (by omega)
    rw [show (nx + 6 - ks + j) % 6 = ((nx + 5) % 6 + 6 - (ks - 1) + j) % 6 by omega] at h4
    exact Cl_loc h4 (hV _ (by omega)).2.1 (fun k a b => by rw [c2 k (by omega), up_o _ _ _ _ (by omega), up_o _ _ _ _ (by omega)])
  · rw [c2 k (by omega), up_o _ _ _ _ (by omega), up_o _ _ _ _ (by omega)]
