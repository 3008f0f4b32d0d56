/-! exchanges, joins, backwards -/
theorem Cl_up {τ : Sg} {v : Vt} {g : Int32} {c s w x : Nat} (hC : Cl τ 1 v g) (h0 : v 0 ≤ 8) (h1 : v 1 ≤ 8) (hc : c < v 1) (hs : s < 12) (hw : w < 3) : Cl (up τ (7 + 4 * c + (w + 1)) s (nI x)) 1 (vu v (36 + 36 * c + 12 * w + s) x) g := by
  obtain ⟨c0, c3, c5, c8, cd, cc, cp⟩ := hC
  refine ⟨?_, ?_, ?_, ?_, fun d hd' => ?_, fun c' hc'' s' hs' => ?_, fun i hi' => ?_⟩
  · rw [up_o _ _ _ _ (by omega), vu_n _ _ (by omega)]; exact c0
  · rw [up_o _ _ _ _ (by omega), vu_n _ _ (by omega)]; exact c3
  · rw [up_o _ _ _ _ (by omega), vu_n _ _ (by omega)]; exact c5
  · rw [up_o _ _ _ _ (by omega)]; exact c8
  · rw [vu_n _ _ (by omega)] at hd'
    rw [up_o _ _ _ _ (by omega), up_o _ _ _ _ (by omega), vu_n _ _ (by omega), vu_n _ _ (by omega), vu_n _ _ (by omega), vu_n _ _ (by omega)]
    exact cd d hd'
  · rw [vu_n _ _ (by omega)] at hc''
    obtain ⟨x1, x2, x3⟩ := cc c' hc'' s' hs'
    refine ⟨?_, ?_, ?_⟩
    · rw [up_a]
      by_cases e : c' = c ∧ w = 0 ∧ s' = s
      · obtain ⟨rfl, rfl, rfl⟩ := e
        rw [if_pos (by omega), show 36 + 36 * c' + s' = 36 + 36 * c' + 12 * 0 + s' by omega, vu_s]
      · rw [if_neg (by omega), vu_n _ _ (by omega)]; exact x1
    · rw [up_a]
      by_cases e : c' = c ∧ w = 1 ∧ s' = s
      · obtain ⟨rfl, rfl, rfl⟩ := e
        rw [if_pos (by omega), show 48 + 36 * c' + s' = 36 + 36 * c' + 12 * 1 + s' by omega, vu_s]
      · rw [if_neg (by omega), vu_n _ _ (by omega)]; exact x2
    · rw [up_a]
      by_cases e : c' = c ∧ w = 2 ∧ s' = s
      · obtain ⟨rfl, rfl, rfl⟩ := e
        rw [if_pos (by omega), show 60 + 36 * c' + s' = 36 + 36 * c' + 12 * 2 + s' by omega, vu_s]
      · rw [if_neg (by omega), vu_n _ _ (by omega)]; exact x3
  · rw [vu_n _ _ (by omega)] at hi'
    rw [up_o _ _ _ _ (by omega), vu_n _ _ (by omega)]
    exact cp i hi'
/-- two spots' goals changed about -/
def exv (v : Vt) (c a b : Nat) : Vt := vu (vu v (36 + 36 * c + a) (v (36 + 36 * c + b))) (36 + 36 * c + b) (v (36 + 36 * c + a))
theorem exv_o (v : Vt) (c a b : Nat) {k : Nat} (h : k < 36 + 36 * c ∨ 48 + 36 * c ≤ k) (ha : a < 12) (hb : b < 12) : exv v c a b k = v k := by
  unfold exv
  rw [vu_n _ _ (by omega), vu_n _ _ (by omega)]
theorem exv_i (v : Vt) (c a b : Nat) {s : Nat} : exv v c a b (36 + 36 * c + s) = v (36 + 36 * c + (if s = b then a else if s = a then b else s)) := by
  unfold exv
  by_cases h : s = b
  · subst h; rw [vu_s, if_pos rfl]
  · rw [vu_n _ _ (by omega), if_neg h]
    by_cases h2 : s = a
    · subst h2; rw [vu_s, if_pos rfl]
    · rw [vu_n _ _ (by omega), if_neg h2]
theorem Va_ex {v : Vt} {c a b : Nat} (hV : Va v) (hc : c < v 1) (ha : a < 12) (hb : b < 12) : Va (exv v c a b) := by
  obtain ⟨h0, h1, h2, hd, hcc, hii, hp⟩ := hV
  have en : ∀ k, (k < 36 + 36 * c ∨ 48 + 36 * c ≤ k) → exv v c a b k = v k := fun k h => exv_o v c a b h ha hb
  have hsw : ∀ s, s < 12 → (if s = b then a else if s = a then b else s) < 12 := fun s hs => by split; exact ha; split; exact hb; exact hs
  refine ⟨by rw [en 0 (by omega)]; exact h0, by rw [en 1 (by omega)]; exact h1, by rw [en 2 (by omega)]; exact h2, fun d hd' => ?_, fun c' hc' s hs => ?_, fun c' hc' s hs r hr => ?_, fun i hi' => ?_⟩
  · rw [en 0 (by omega)] at hd'
    rw [en _ (by omega), en _ (by omega), en _ (by omega), en _ (by omega)]
    exact hd d hd'
  · rw [en 1 (by omega)] at hc'
    obtain ⟨x1, x2, x3⟩ := hcc c' hc' s hs
    refine ⟨?_, by rw [en _ (by omega)]; exact x2, by rw [en _ (by omega)]; exact x3⟩
    by_cases e : c' = c
    · subst e; rw [exv_i]; exact (hcc c' hc' _ (hsw s hs)).1
    · rw [en _ (by omega)]; exact x1
  · rw [en 1 (by omega)] at hc'
    by_cases e : c' = c
    · subst e; rw [exv_i, exv_i]
      intro q
      have := hii c' hc' _ (hsw s hs) _ (hsw r hr) q
      revert this
      repeat' split
      all_goals omega
    · rw [en _ (by omega), en _ (by omega)]; exact hii c' hc' s hs r hr
  · rw [en 2 (by omega)] at hi'
    rw [en _ (by omega), en 1 (by omega)]; exact hp i hi'
def exM (x1 x2 x3 : Int32) (τ8 : Sg) : Option (Int32 × Sg) := cb (f_X6_place 298 x1 x2 0 τ8) (fun a9 τ10 => if inb a9 336 then (bn (τ10 (rf 298 0) (ix a9)) (fun b12 => cb (f_X6_place 298 x1 x2 0 τ10) (fun a13 τ14 => cb (f_X6_place 298 x1 x3 0 τ14) (fun a15 τ16 => if inb a15 336 then (if inb a13 336 then (bn (up τ16 (rf 298 0) (ix a13) (τ16 (rf 298 0) (ix a15))) (fun τ19 => cb (f_X6_place 298 x1 x3 0 τ19) (fun a20 τ21 => if inb a20 336 then (bn (up τ21 (rf 298 0) (ix a20) b12) (fun τ23 => cb (f_X6_place 298 x1 x2 0 τ23) (fun a24 τ25 => if inb a24 336 then (some (τ25 (rf 298 0) (ix a24), τ25)) else none))) else none))) else none) else none)))) else none)
theorem sim_exchanges {n : Nat} (hn : n < 600) (x y z : Int32) : Sim (Inv n) (Inv (n + 1)) (f_X5_exchanges 0 x y z) (f_X6_exchanges 298 x y z) := by
  refine keep_sim (opc := f_X3_exchangeGoals 1 x y z) (opm := exM x y z) hn (fun σ => by rw [f_X5_exchanges, if_pos kd_0, rf_0_0, rf_0_1]) (fun v g hV => ?_)
  have h0 := hV.1
  have h1 := hV.2.1
  by_cases hx : inb x (v 1) = true ∧ inb y 12 = true ∧ inb z 12 = true ∧ y ≠ z
  · obtain ⟨hx1, hx2, hx3, hne⟩ := hx
    obtain ⟨c, hc, rfl⟩ := inb_ex hx1 (by omega)
    obtain ⟨a, ha, rfl⟩ := inb_ex hx2 (by omega)
    obtain ⟨b, hb, rfl⟩ := inb_ex hx3 (by omega)
    have hab : a ≠ b := fun e => hne (by rw [e])
    obtain ⟨r0, r1, r2, r3, r4⟩ := c_at (show c < 8 by omega)
    have b1 := (hV.2.2.2.2.1 c hc a ha).1
    have b2 := (hV.2.2.2.2.1 c hc b hb).1
    refine ⟨nI (v (36 + 36 * c + b)), exv v c a b, g, Va_ex hV hc ha hb, fun τ hC => ?_, Or.inl ⟨ge0 (by omega), fun σ hM => ?_, fun τ hM => ?_⟩⟩
    · have ca := ((Ca_of hC hc) a ha).1
      have cb' := ((Ca_of hC hc) b hb).1
      rw [show 7 + 4 * c + 1 = 8 + 4 * c by omega] at ca cb'
      have key := Cl_up (w := 0) (s := b) (x := v (36 + 36 * c + a)) (Cl_up (w := 0) (s := a) (x := v (36 + 36 * c + b)) hC h0 h1 hc ha (by omega)) (by rw [vu_n _ _ (by omega)]; exact h0) (by rw [vu_n _ _ (by omega)]; exact h1) (by rw [vu_n _ _ (by omega)]; exact hc) hb (by omega)
      rw [show 7 + 4 * c + (0 + 1) = 8 + 4 * c by omega, show 36 + 36 * c + 12 * 0 + a = 36 + 36 * c + a by omega, show 36 + 36 * c + 12 * 0 + b = 36 + 36 * c + b by omega] at key
      rw [f_X3_exchangeGoals, if_pos kd_1, spotC hC hV, cb_some, hx1, hx2, Bool.and_self, if_neg bt, show (12 : Int32) = nI 12 from rfl, isb _ (by omega), cb_some, hx3, if_neg bt, if_neg hne]
      simp (disch := omega) only [kd_0, kd_1, kd_39, kd_269, kd_273, kd_298, rf_0_0, rf_0_1, rf_0_2, rf_0_3, rf_0_4, rf_1_1, rf_1_2, rf_1_4, rf_1_6, rf_1_7, rf_39_0, rf_269_0, rf_269_5, rf_269_6, rf_298_0, rf_298_1, rf_298_3, rf_298_4, rf_298_6, rf_298_7, rf_298_8, rf_298_9, bnE, cbE, lj, ix_nI, inb_nI, n_lt, n_le, n_eq, n_div, n_rem, nI_add, pk_mul, decide_eq_true_eq, if_true, if_false, bI_0, bI_or, not_true, not_false_eq_true, ↓reduceIte, show c < 8 by omega, ha, hb, r0, r2, ca, cb', go, ux_s, ux_n, ux_o]
      exact ⟨_, rfl, key, fun k hk => by rw [up_o _ _ _ _ (by omega), up_o _ _ _ _ (by omega)]⟩
    · rw [f_X6_exchanges, if_pos kd_298, isCall_eq hM (by omega), cb_some, hx1, if_neg bt, isSpot_eq, cb_some, hx2, if_neg bt, isSpot_eq, cb_some, hx3, if_neg bt, if_neg hne]
      rfl
    · have key := Mo_up (Mo_up hM (k := 36 + 36 * c + a) (x := v (36 + 36 * c + b)) (by omega)) (k := 36 + 36 * c + b) (x := v (36 + 36 * c + a)) (by omega)
      unfold exM
      simp (disch := omega) only [kd_0, kd_1, kd_39, kd_269, kd_273, kd_298, rf_0_0, rf_0_1, rf_0_2, rf_0_3, rf_0_4, rf_1_1, rf_1_2, rf_1_4, rf_1_6, rf_1_7, rf_39_0, rf_269_0, rf_269_5, rf_269_6, rf_298_0, rf_298_1, rf_298_3, rf_298_4, rf_298_6, rf_298_7, rf_298_8, rf_298_9, bnE, cbE, lj, ix_nI, inb_nI, n_lt, n_le, n_eq, n_div, n_rem, nI_add, pk_mul, decide_eq_true_eq, if_true, if_false, bI_0, bI_or, not_true, not_false_eq_true, ↓reduceIte, place0, place1, place2, show 36 + 36 * c + a < 336 by omega, show 36 + 36 * c + b < 336 by omega, hM.2, ux_s, ux_n, ux_o]
      exact ⟨_, rfl, key, fun k hk => by rw [up_o _ _ _ _ hk, up_o _ _ _ _ hk]⟩
  · refine ⟨-2, v, g, hV, OpC_bad (fun τ hC => ?_), Or.inr ⟨0, rfl, rfl, rfl, fun σ hM => ?_⟩⟩
    · rw [f_X3_exchangeGoals, if_pos kd_1, spotC hC hV, cb_some, show (12 : Int32) = nI 12 from rfl]
      cases e1 : inb x (v 1) with
      | false => rfl
      | true =>
        cases e2 : inb y 12 with
        | false => rfl
        | true =>
          rw [Bool.and_self, if_neg bt, isb _ (by omega), cb_some]
          cases e3 : inb z 12 with
          | false => rfl
          | true =>
            rw [if_neg bt, if_pos]
            by_cases q : y = z
            · exact q
            · exact absurd ⟨e1, e2, e3, q⟩ hx
    · rw [f_X6_exchanges, if_pos kd_298, isCall_eq hM (by omega), cb_some]
      have hr : ∀ σ, f_X6_exchanges_27 298 σ = cb (f_X6_refused 298 (-2) σ) (fun b τ2 => some (b, τ2)) := fun σ => by rw [f_X6_exchanges_27, if_pos kd_298]
      cases e1 : inb x (v 1) with
      | false => rw [if_pos bf, hr]
      | true =>
        rw [if_neg bt, isSpot_eq, cb_some]
        cases e2 : inb y 12 with
        | false => rw [if_pos bf, hr]
        | true =>
          rw [if_neg bt, isSpot_eq, cb_some]
          cases e3 : inb z 12 with
          | false => rw [if_pos bf, hr]
          | true =>
            rw [if_neg bt, if_pos, hr]
            by_cases q : y = z
            · exact q
            · exact absurd ⟨e1, e2, e3, q⟩ hx
/-! pigeons -/
theorem php : ∀ (n m : Nat) (f : Nat → Nat), (∀ i, i < n → f i < m) → (∀ i, i < n → ∀ j, j < n → f i = f j → i = j) → n ≤ m := by
  intro n
  induction n with
  | zero => intro m f _ _; omega
  | succ n ih =>
    intro m f h1 h2
    have hm := h1 n (by omega)
    have := ih (m - 1) (fun i => if f i = m - 1 then f n else f i) (fun i hi => ?_) (fun i hi j hj => ?_)
    · omega
    · have q := h1 i (by omega)
      by_cases e : f i = m - 1
      · rw [if_pos e]
        have : f n ≠ m - 1 := fun e2 => by have := h2 i (by omega) n (by omega) (e.trans e2.symm); omega
        omega
      · rw [if_neg e]; omega
    · intro q
      by_cases e : f i = m - 1
      · rw [if_pos e] at q
        by_cases e2 : f j = m - 1
        · exact h2 i (by omega) j (by omega) (e.trans e2.symm)
        · rw [if_neg e2] at q
          have := h2 n (by omega) j (by omega) q
          omega
      · rw [if_neg e] at q
        by_cases e2 : f j = m - 1
        · rw [if_pos e2] at q
          have := h2 i (by omega) n (by omega) q
          omega
        · rw [if_neg e2] at q
          exact h2 i (by omega) j (by omega) q
theorem php_s (n : Nat) (f : Nat → Nat) (h1 : ∀ i, i < n → f i < n) (h2 : ∀ i, i < n → ∀ j, j < n → f i = f j → i = j) (t : Nat) (ht : t < n) : ∃ i, i < n ∧ f i = t := by
  by_cases h : ∃ i, i < n ∧ f i = t
  · exact h
  · exfalso
    have hh : ∀ i, i < n → f i ≠ t := fun i hi e => h ⟨i, hi, e⟩
    have := php n (n - 1) (fun i => if f i = n - 1 then t else f i) (fun i hi => ?_) (fun i hi j hj => ?_)
    · omega
    · have q := h1 i hi
      have q2 := hh i hi
      by_cases e : f i = n - 1
      · rw [if_pos e]; omega
      · rw [if_neg e]; omega
    · intro q
      have q1 := hh i hi
      have q2 := hh j hj
      by_cases e : f i = n - 1
      · rw [if_pos e] at q
        by_cases e2 : f j = n - 1
        · exact h2 i hi j hj (e.trans e2.symm)
        · rw [if_neg e2] at q; exact absurd q.symm q2
      · rw [if_neg e] at q
        by_cases e2 : f j = n - 1
        · rw [if_pos e2] at q; exact absurd q q1
        · rw [if_neg e2] at q; exact h2 i hi j hj q
