/-- the spot that goes to t -/
def iv (f : Nat → Nat) (t : Nat) : Nat → Nat
  | 0 => 0
  | n + 1 => if f n = t then n else iv f t n
theorem iv_eq {f : Nat → Nat} {s : Nat} : ∀ n, s < n → n ≤ 12 → (∀ i, i < 12 → ∀ j, j < 12 → f i = f j → i = j) → iv f (f s) n = s := by
  intro n
  induction n with
  | zero => intro h; omega
  | succ n ih =>
    intro h1 h2 h3
    rw [iv]
    by_cases e : f n = f s
    · rw [if_pos e]; exact h3 n (by omega) s (by omega) e
    · rw [if_neg e]
      refine ih ?_ (by omega) h3
      have : s ≠ n := fun q => e (by rw [q])
      omega
theorem becB {σ : Sg} {k k1 : Nat} {g1 t1 w1 : Nat → Nat} (hk : kd k = 0) (hk1 : kd k1 = 0) (h1 : k + 4 ≤ k1 ∨ k1 + 4 ≤ k) (hC1 : Ca σ k1 g1 t1 w1) (hB1 : Cb g1 t1 w1) (hi : ∀ i, i < 12 → ∀ j, j < 12 → g1 i = g1 j → i = j) : ∃ σ', f_X0_becomeTurnedBack k k1 σ = some ((), σ') ∧ Ca σ' k (fun t => iv g1 t 12) (fun t => (4 - t1 (iv g1 t 12)) % 4) (fun t => w1 (iv g1 t 12)) ∧ ∀ i, i ≠ k + 1 → i ≠ k + 2 → i ≠ k + 3 → σ' i = σ i := by
  obtain ⟨r0, r1, r2, -⟩ := st0 hk
  obtain ⟨p0, p1, p2, -⟩ := st0 hk1
  rw [f_X0_becomeTurnedBack, if_pos hk, if_pos hk1]
  have key := loopI (fun n j τ => f_X0_becomeTurnedBack_2 n k k1 (nI j) τ) (fun j τ => (∀ s, s < j → τ (k + 1) (g1 s) = nI s ∧ τ (k + 2) (g1 s) = nI ((4 - t1 s) % 4) ∧ τ (k + 3) (g1 s) = nI (w1 s)) ∧ ∀ i, i ≠ k + 1 → i ≠ k + 2 → i ≠ k + 3 → τ i = σ i) (fun q => (∀ s, s < 12 → q.2 (k + 1) (g1 s) = nI s ∧ q.2 (k + 2) (g1 s) = nI ((4 - t1 s) % 4) ∧ q.2 (k + 3) (g1 s) = nI (w1 s)) ∧ ∀ i, i ≠ k + 1 → i ≠ k + 2 → i ≠ k + 3 → q.2 i = σ i) 12 ?_ ?_ FU 0 σ (by omega) (FU_gt (by omega)) ⟨fun s hs => absurd hs (Nat.not_lt_zero _), fun i _ _ _ => rfl⟩
  · obtain ⟨⟨⟨⟩, τ'⟩, e, h2, h3⟩ := key
    refine ⟨τ', e, fun t ht => ?_, h3⟩
    obtain ⟨s, hs, rfl⟩ := php_s 12 g1 (fun i hi => (hB1 i hi).1) hi t ht
    dsimp only
    rw [iv_eq 12 hs (by omega) hi]
    exact h2 s hs
  · intro n τ hI
    refine ex_of (a := ((), τ)) ?_ hI
    rw [f_X0_becomeTurnedBack_2, if_pos hk, if_pos hk1]
    simp (disch := omega) only [kd_0, kd_1, kd_39, kd_269, kd_273, kd_298, rf_0_0, rf_0_1, rf_0_2, rf_0_3, rf_0_4, rf_1_1, rf_1_2, rf_1_4, rf_1_6, rf_1_7, rf_39_0, rf_269_0, rf_269_5, rf_269_6, rf_298_0, rf_298_1, rf_298_3, rf_298_4, rf_298_6, rf_298_7, rf_298_8, rf_298_9, bnE, cbE, lj, ix_nI, inb_nI, n_lt, n_le, n_eq, n_div, n_rem, nI_add, pk_mul, decide_eq_true_eq, if_true, if_false, bI_0, bI_or, not_true, not_false_eq_true, ↓reduceIte, Nat.le_refl]
  · intro n j τ hj hI
    obtain ⟨i1, i2⟩ := hI
    obtain ⟨a1, a2, a3⟩ := hC1 j hj
    obtain ⟨b1, b2, b3⟩ := hB1 j hj
    rw [← i2 (k1 + 1) (by omega) (by omega) (by omega)] at a1
    rw [← i2 (k1 + 2) (by omega) (by omega) (by omega)] at a2
    rw [← i2 (k1 + 3) (by omega) (by omega) (by omega)] at a3
    refine stp (s' := up (up (up τ (k + 1) (g1 j) (nI j)) (k + 2) (g1 j) (nI ((4 - t1 j) % 4))) (k + 3) (g1 j) (nI (w1 j))) ?_ ⟨fun s hs => ?_, fun i a b c => by rw [up_o _ _ _ _ c, up_o _ _ _ _ b, up_o _ _ _ _ a]; exact i2 i a b c⟩
    · rw [f_X0_becomeTurnedBack_2, if_pos hk, if_pos hk1]
      simp (disch := omega) only [kd_0, kd_1, kd_39, kd_269, kd_273, kd_298, rf_0_0, rf_0_1, rf_0_2, rf_0_3, rf_0_4, rf_1_1, rf_1_2, rf_1_4, rf_1_6, rf_1_7, rf_39_0, rf_269_0, rf_269_5, rf_269_6, rf_298_0, rf_298_1, rf_298_3, rf_298_4, rf_298_6, rf_298_7, rf_298_8, rf_298_9, bnE, cbE, lj, ix_nI, inb_nI, n_lt, n_le, n_eq, n_div, n_rem, nI_add, pk_mul, decide_eq_true_eq, if_true, if_false, bI_0, bI_or, not_true, not_false_eq_true, ↓reduceIte, ux_s, ux_n, ux_o, n_sub, show ¬ 12 ≤ j by omega, hj, b1, r0, r1, r2, p0, p1, p2, a1, a2, a3]
    · by_cases e : s = j
      · subst e; simp [up_a]
      · have e2 : ¬ g1 s = g1 j := fun q => e (hi s (by omega) j hj q)
        simp [up_a, e2]; exact i1 s (by omega)
theorem back44 {τ : Sg} {v : Vt} {g : Int32} {a : Nat} (hM : Mo (τ 299) (addc v (fun s => s) (fun _ => 0) (fun _ => 0)) g) (hV : Va v) (h8 : v 1 < 8) (ha : a < v 1) : ∃ τ', f_X6_backwards_44 FU 298 (nI a) (nI (v 1)) 0 τ = some (nI (v 1), τ') ∧ Mo (τ' 299) (addc v (fun t => iv (go v a) t 12) (fun t => (4 - tu v a (iv (go v a) t 12)) % 4) (fun t => wa v a (iv (go v a) t 12))) g ∧ ∀ k, k ≠ 299 → τ' k = τ k := by
  have hi : ∀ i, i < 12 → ∀ j, j < 12 → go v a i = go v a j → i = j := hV.2.2.2.2.2.1 a ha
  have key := loopI (fun n j σ => f_X6_backwards_44 n 298 (nI a) (nI (v 1)) (nI j) σ) (fun j σ => ∃ f t w, Mo (σ 299) (setc (vu v 1 (v 1 + 1)) (v 1) f t w) g ∧ (∀ s, s < j → f (go v a s) = s ∧ t (go v a s) = (4 - tu v a s) % 4 ∧ w (go v a s) = wa v a s) ∧ ∀ k, k ≠ 299 → σ k = τ k) (fun q => q.1 = nI (v 1) ∧ Mo (q.2 299) (addc v (fun t => iv (go v a) t 12) (fun t => (4 - tu v a (iv (go v a) t 12)) % 4) (fun t => wa v a (iv (go v a) t 12))) g ∧ ∀ k, k ≠ 299 → q.2 k = τ k) 12 ?_ ?_ FU 0 τ (by omega) (FU_gt (by omega)) ⟨_, _, _, by rw [addc_eq] at hM; exact hM, fun s hs => absurd hs (Nat.not_lt_zero _), fun k hk => rfl⟩
  · obtain ⟨⟨r, τ'⟩, e, rfl, h2, h3⟩ := key
    exact ⟨τ', e, h2, h3⟩
  · intro n σ hI
    obtain ⟨f, t, w, h1, h2, h3⟩ := hI
    refine ex_of (a := (nI (v 1), σ)) ?_ ⟨rfl, ?_, h3⟩
    · rw [f_X6_backwards_44, if_pos kd_298]
      simp (disch := omega) only [kd_0, kd_1, kd_39, kd_269, kd_273, kd_298, rf_0_0, rf_0_1, rf_0_2, rf_0_3, rf_0_4, rf_1_1, rf_1_2, rf_1_4, rf_1_6, rf_1_7, rf_39_0, rf_269_0, rf_269_5, rf_269_6, rf_298_0, rf_298_1, rf_298_3, rf_298_4, rf_298_6, rf_298_7, rf_298_8, rf_298_9, bnE, cbE, lj, ix_nI, inb_nI, n_lt, n_le, n_eq, n_div, n_rem, nI_add, pk_mul, decide_eq_true_eq, if_true, if_false, bI_0, bI_or, not_true, not_false_eq_true, ↓reduceIte, Nat.le_refl]
    · rw [addc_eq]
      rw [setc_cong (g' := fun t => iv (go v a) t 12) (t' := fun t => (4 - tu v a (iv (go v a) t 12)) % 4) (w' := fun t => wa v a (iv (go v a) t 12)) (fun s hs => ?_)] at h1
      · exact h1
      · obtain ⟨r, hr, rfl⟩ := php_s 12 (go v a) (fun i hi => ((Cb_of hV ha) i hi).1) hi s hs
        rw [iv_eq 12 hr (by omega) hi]
        exact h2 r hr
  · intro n j σ hj hI
    obtain ⟨f, t, w, h1, h2, h3⟩ := hI
    obtain ⟨a1, a2, a3⟩ := (Cb_of hV ha) j hj
    have hM1 := Mo_up h1 (k := 36 + 36 * v 1 + go v a j) (x := j) (by omega)
    rw [setc_ug _ _ _ _ _ a1] at hM1
    have hM2 := Mo_up hM1 (k := 48 + 36 * v 1 + go v a j) (x := (4 - tu v a j) % 4) (by omega)
    rw [setc_ut _ _ _ _ _ a1] at hM2
    have hM3 := Mo_up hM2 (k := 60 + 36 * v 1 + go v a j) (x := wa v a j) (by omega)
    rw [setc_uw _ _ _ _ _ a1] at hM3
    have rd : ∀ k, k < 336 → k ≠ 3 → k ≠ 1 → k < 36 + 36 * v 1 → σ 299 k = nI (v k) := fun k p q r s => by rw [h1.2 k p q, setc_o _ _ _ _ _ (Or.inl s), vu_n _ _ r]
    have e1 : σ 299 (36 + 36 * a + j) = nI (go v a j) := rd _ (by omega) (by omega) (by omega) (by omega)
    have e2 : σ 299 (48 + 36 * a + j) = nI (tu v a j) := rd _ (by omega) (by omega) (by omega) (by omega)
    have e3 : σ 299 (60 + 36 * a + j) = nI (wa v a j) := rd _ (by omega) (by omega) (by omega) (by omega)
    refine stp (s' := up (up (up σ 299 (36 + 36 * v 1 + go v a j) (nI j)) 299 (48 + 36 * v 1 + go v a j) (nI ((4 - tu v a j) % 4))) 299 (60 + 36 * v 1 + go v a j) (nI (wa v a j))) ?_ ⟨_, _, _, hM3, fun s hs => ?_, fun k hk => by rw [up_o _ _ _ _ hk, up_o _ _ _ _ hk, up_o _ _ _ _ hk]; exact h3 k hk⟩
    · rw [f_X6_backwards_44, if_pos kd_298]
      simp (disch := omega) only [kd_0, kd_1, kd_39, kd_269, kd_273, kd_298, rf_0_0, rf_0_1, rf_0_2, rf_0_3, rf_0_4, rf_1_1, rf_1_2, rf_1_4, rf_1_6, rf_1_7, rf_39_0, rf_269_0, rf_269_5, rf_269_6, rf_298_0, rf_298_1, rf_298_3, rf_298_4, rf_298_6, rf_298_7, rf_298_8, rf_298_9, bnE, cbE, lj, ix_nI, inb_nI, n_lt, n_le, n_eq, n_div, n_rem, nI_add, pk_mul, decide_eq_true_eq, if_true, if_false, bI_0, bI_or, not_true, not_false_eq_true, ↓reduceIte, ux_s, ux_n, ux_o, place0, place1, place2, n_sub, show ¬ 12 ≤ j by omega, e1, e2, e3, show 36 + 36 * a + j < 336 by omega, show 48 + 36 * a + j < 336 by omega, show 60 + 36 * a + j < 336 by omega, show 36 + 36 * v 1 + go v a j < 336 by omega, show 48 + 36 * v 1 + go v a j < 336 by omega, show 60 + 36 * v 1 + go v a j < 336 by omega]
    · by_cases e : s = j
      · subst e; rw [fu_s, fu_s, fu_s]; exact ⟨rfl, rfl, rfl⟩
      · have e2 : ¬ go v a s = go v a j := fun q => e (hi s (by omega) j hj q)
        rw [fu_n _ _ e2, fu_n _ _ e2, fu_n _ _ e2]; exact h2 s (by omega)
def baM (x1 : Int32) (τ : Sg) : Option (Int32 × Sg) := cb (f_X6_adds 298 τ) (fun a6 τ7 => f_X6_backwards_44 FU 298 x1 a6 0 τ7)
theorem sim_backwards {n : Nat} (hn : n < 600) (x : Int32) : Sim (Inv n) (Inv (n + 1)) (f_X5_backwards 0 x) (f_X6_backwards 298 x) := by
  refine keep_sim (opc := f_X3_addTurnedBack 1 x) (opm := baM x) hn (fun σ => by rw [f_X5_backwards, if_pos kd_0, rf_0_0, rf_0_1]) (fun v g hV => ?_)
  have h1 := hV.2.1
  cases hx : inb x (v 1) with
  | false =>
    refine ⟨-2, v, g, hV, OpC_bad (fun τ hC => ?_), Or.inr ⟨0, rfl, rfl, rfl, fun σ hM => ?_⟩⟩
    · rw [f_X3_addTurnedBack, if_pos kd_1, hC.2.1, isb _ (by omega), cb_some, hx, if_pos bf]
    · rw [f_X6_backwards, if_pos kd_298, isCall_eq hM (by omega), cb_some, hx, if_pos bf]
  | true =>
    obtain ⟨a, ha, rfl⟩ := inb_ex hx (by omega)
    obtain ⟨r0, r1, -⟩ := c_at (show a < 8 by omega)
    have i1 : inb (nI a) 8 = true := by rw [inb_nI (by omega)]; exact decide_eq_true (by omega)
    have hi : ∀ i, i < 12 → ∀ j, j < 12 → go v a i = go v a j → i = j := hV.2.2.2.2.2.1 a ha
    have hmo : ∀ σ, Mo (σ 299) v g → f_X6_backwards 298 (nI a) σ = if nI (v 1) = 8 then (cb (f_X6_refused 298 ((-4)) σ) (fun a8 τ9 => some (a8, τ9))) else (cb (f_X6_keeps 298 σ) (fun _ τ5 => cb (f_X6_adds 298 τ5) (fun a6 τ7 => f_X6_backwards_44 FU 298 (nI a) a6 0 τ7))) := fun σ hM => by
      rw [f_X6_backwards, if_pos kd_298, isCall_eq hM (by omega), cb_some, hx, if_neg bt, if_pos (by decide), rf_298_0, show ix 1 = 1 from rfl, hM.2 1 (by omega) (by omega)]
    by_cases h8 : v 1 < 8
    · refine ⟨nI (v 1), addc v (fun t => iv (go v a) t 12) (fun t => (4 - tu v a (iv (go v a) t 12)) % 4) (fun t => wa v a (iv (go v a) t 12)), g, Va_add hV h8 (fun t ht => ?_) (fun t ht r hr' e => ?_), fun τ hC => ?_, Or.inl ⟨ge0 (by omega), fun σ hM => ?_, fun τ hM => ?_⟩⟩
      · obtain ⟨s, hs, rfl⟩ := php_s 12 (go v a) (fun i hi => ((Cb_of hV ha) i hi).1) hi t ht
        rw [iv_eq 12 hs (by omega) hi]
        obtain ⟨a1, a2, a3⟩ := (Cb_of hV ha) s hs
        exact ⟨hs, Nat.mod_lt _ (by omega), a3⟩
      · obtain ⟨s, hs, rfl⟩ := php_s 12 (go v a) (fun i hi => ((Cb_of hV ha) i hi).1) hi t ht
        obtain ⟨s', hs', rfl⟩ := php_s 12 (go v a) (fun i hi => ((Cb_of hV ha) i hi).1) hi r hr'
        rw [iv_eq 12 hs (by omega) hi, iv_eq 12 hs' (by omega) hi] at e
        rw [e]
      · obtain ⟨τ1, e1, p1, p2, p3, p4⟩ := addC hC h8
        obtain ⟨s0, s1, -⟩ := c_at h8
        have cA : Ca τ1 (7 + 4 * a) (go v a) (tu v a) (wa v a) := fun s hs => by
          rw [p4 (7 + 4 * a + 1) (by omega) (by omega) (by omega) (by omega), p4 (7 + 4 * a + 2) (by omega) (by omega) (by omega) (by omega), p4 (7 + 4 * a + 3) (by omega) (by omega) (by omega) (by omega)]
          exact Ca_of hC ha s hs
        obtain ⟨τ2, e2, z1, z2⟩ := becB s1 r1 (by omega) cA (Cb_of hV ha) hi
        refine ⟨τ2, ?_, Cl_add hC hV h8 z1 ?_ (fun i hi => ?_) (fun k a b c d => ?_), fun k hk => ?_⟩
        · rw [f_X3_addTurnedBack, if_pos kd_1, hC.2.1, isb _ (by omega), cb_some, hx, if_neg bt, e1, cb_some, if_neg (by rw [show (0 : Int32) = nI 0 from rfl, n_lt (by omega) (by omega)]; omega), if_pos (by rw [inb_nI (by omega)]; exact decide_eq_true h8), if_pos i1, rf_1_4, ix_nI (by omega), ix_nI (by omega), s0, r0, e2, cb_some]
        · rw [z2 1 (by omega) (by omega) (by omega)]; exact p2
        · rw [z2 1 (by omega) (by omega) (by omega)]; exact p3 i hi
        · rw [z2 k b c d]; exact p4 k a b c d
        · rw [z2 k (by omega) (by omega) (by omega)]; exact p4 k (by omega) (by omega) (by omega) (by omega)
      · rw [hmo σ hM, if_neg (by rw [show (8 : Int32) = nI 8 from rfl, n_eq (by omega) (by omega)]; omega)]
        rfl
      · obtain ⟨τ1, e1, p1, p2⟩ := addsM hM hV h8
        obtain ⟨τ2, e2, z1, z2⟩ := back44 p1 hV h8 ha
        refine ⟨τ2, ?_, z1, fun k hk => by rw [z2 k hk, p2 k hk]⟩
        unfold baM
        rw [e1, cb_some, e2]
    · have e8 : v 1 = 8 := by omega
      refine ⟨-4, v, g, hV, OpC_bad (fun τ hC => ?_), Or.inr ⟨2, rfl, rfl, rfl, fun σ hM => ?_⟩⟩
      · rw [f_X3_addTurnedBack, if_pos kd_1, hC.2.1, isb _ (by omega), cb_some, hx, if_neg bt, f_X3_addCall, if_pos kd_1, hC.2.1, if_neg (by rw [e8]; decide), cb_some, if_pos (by decide)]
      · rw [hmo σ hM, if_pos (by rw [e8]; rfl)]
