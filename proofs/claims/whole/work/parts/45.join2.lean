theorem kd_299 : kd 299 = 7 := by decide +kernel
theorem ln_299 : ln 299 = 336 := by decide +kernel
def alF (p : Nat → Bool) : Nat → Nat → Bool
  | 0, _ => true
  | n + 1, j => if p j then alF p n (j + 1) else false
def jok (w1 g1 w2 : Nat → Nat) (s : Nat) : Bool := w1 s == 0 || w2 (g1 s) == 0 || w1 s == w2 (g1 s)
theorem canJ {σ : Sg} {k1 k2 : Nat} {g1 t1 w1 g2 t2 w2 : Nat → Nat} (hk1 : kd k1 = 0) (hk2 : kd k2 = 0) (hC1 : Ca σ k1 g1 t1 w1) (hC2 : Ca σ k2 g2 t2 w2) (hB1 : Cb g1 t1 w1) (hB2 : Cb g2 t2 w2) : f_X0_canBeJoinedWith k1 k2 σ = some (bI (alF (jok w1 g1 w2) 12 0), σ) := by
  obtain ⟨r0, r1, r2, -⟩ := st0 hk1
  obtain ⟨q0, q1, q2, -⟩ := st0 hk2
  have key : f_X0_canBeJoinedWith_2 FU k1 k2 (nI 0) σ = some (bI (alF (jok w1 g1 w2) (12 - 0) 0), σ) := loopU (fun n j => f_X0_canBeJoinedWith_2 n k1 k2 (nI j) σ) (fun j => some (bI (alF (jok w1 g1 w2) (12 - j) j), σ)) 12 (by omega) ?_ ?_
  · rw [f_X0_canBeJoinedWith, if_pos hk1, if_pos hk2]
    exact key
  · intro n
    rw [f_X0_canBeJoinedWith_2, if_pos hk1, if_pos hk2]
    simp (disch := omega) only [kd_0, kd_1, kd_39, kd_269, kd_273, kd_298, rf_0_0, rf_0_1, rf_0_2, rf_0_3, rf_0_4, rf_1_1, rf_1_2, rf_1_4, rf_1_6, rf_1_7, rf_39_0, rf_269_0, rf_269_5, rf_269_6, rf_298_0, rf_298_1, rf_298_3, rf_298_4, rf_298_6, rf_298_7, rf_298_8, rf_298_9, bnE, cbE, lj, ix_nI, inb_nI, n_lt, n_le, n_eq, n_div, n_rem, nI_add, pk_mul, decide_eq_true_eq, if_true, if_false, bI_0, bI_or, not_true, not_false_eq_true, ↓reduceIte, Nat.le_refl, Nat.sub_self]
    rfl
  · intro n j hj ih
    obtain ⟨a1, a2, a3⟩ := hC1 j hj
    obtain ⟨b1, b2, b3⟩ := hB1 j hj
    obtain ⟨c1, c2, c3⟩ := hC2 (g1 j) b1
    obtain ⟨d1, d2, d3⟩ := hB2 (g1 j) b1
    rw [f_X0_canBeJoinedWith_2, if_pos hk1, if_pos hk2]
    rw [show 12 - j = (12 - (j + 1)) + 1 by omega, alF]
    simp (disch := omega) only [kd_0, kd_1, kd_39, kd_269, kd_273, kd_298, rf_0_0, rf_0_1, rf_0_2, rf_0_3, rf_0_4, rf_1_1, rf_1_2, rf_1_4, rf_1_6, rf_1_7, rf_39_0, rf_269_0, rf_269_5, rf_269_6, rf_298_0, rf_298_1, rf_298_3, rf_298_4, rf_298_6, rf_298_7, rf_298_8, rf_298_9, bnE, cbE, lj, ix_nI, inb_nI, n_lt, n_le, n_eq, n_div, n_rem, nI_add, pk_mul, decide_eq_true_eq, if_true, if_false, bI_0, bI_or, not_true, not_false_eq_true, ↓reduceIte, show ¬ 12 ≤ j by omega, hj, r0, r2, q2, a1, a3, b1, c3, f_X0_canBeJoinedWith_45, hk1, hk2]
    by_cases e1 : w1 j = 0
    · rw [if_pos e1, if_pos (by simp [jok, e1])]; exact ih
    · rw [if_neg e1]
      by_cases e2 : w2 (g1 j) = 0
      · rw [if_pos e2, if_pos (by simp [jok, e2])]; exact ih
      · rw [if_neg e2]
        by_cases e3 : w1 j = w2 (g1 j)
        · rw [if_pos e3, if_pos (by simp [jok, e3])]; exact ih
        · rw [if_neg e3, if_neg (by simp [jok, e1, e2, e3])]; rfl
theorem becJ {σ : Sg} {k k1 k2 : Nat} {g1 t1 w1 g2 t2 w2 : Nat → Nat} (hk : kd k = 0) (hk1 : kd k1 = 0) (hk2 : kd k2 = 0) (h1 : k + 4 ≤ k1 ∨ k1 + 4 ≤ k) (h2 : k + 4 ≤ k2 ∨ k2 + 4 ≤ k) (hC1 : Ca σ k1 g1 t1 w1) (hC2 : Ca σ k2 g2 t2 w2) (hB1 : Cb g1 t1 w1) (hB2 : Cb g2 t2 w2) : ∃ σ', f_X0_becomeJoined k k1 k2 σ = some ((), σ') ∧ Ca σ' k (fun s => g2 (g1 s)) (fun s => (t1 s + t2 (g1 s)) % 4) (fun s => if w1 s = 0 then w2 (g1 s) else w1 s) ∧ ∀ i, i ≠ k + 1 → i ≠ k + 2 → i ≠ k + 3 → σ' i = σ i := by
  obtain ⟨r0, r1, r2, -, -, rk3, -, -, rl3, -⟩ := st0 hk
  obtain ⟨p0, p1, p2, -⟩ := st0 hk1
  obtain ⟨q0, q1, q2, -⟩ := st0 hk2
  rw [f_X0_becomeJoined, if_pos hk, if_pos hk1, if_pos hk2]
  have key := loopI (fun n j τ => f_X0_becomeJoined_2 n k k1 k2 (nI j) τ) (fun j τ => (∀ s, s < j → τ (k + 1) s = nI (g2 (g1 s)) ∧ τ (k + 2) s = nI ((t1 s + t2 (g1 s)) % 4) ∧ τ (k + 3) s = nI (if w1 s = 0 then w2 (g1 s) else w1 s)) ∧ ∀ i, i ≠ k + 1 → i ≠ k + 2 → i ≠ k + 3 → τ i = σ i) (fun q => Ca q.2 k (fun s => g2 (g1 s)) (fun s => (t1 s + t2 (g1 s)) % 4) (fun s => if w1 s = 0 then w2 (g1 s) else w1 s) ∧ ∀ i, i ≠ k + 1 → i ≠ k + 2 → i ≠ k + 3 → q.2 i = σ i) 12 ?_ ?_ FU 0 σ (by omega) (FU_gt (by omega)) ⟨fun s hs => absurd hs (Nat.not_lt_zero _), fun i _ _ _ => rfl⟩
  · obtain ⟨⟨⟨⟩, τ'⟩, e, h2, h3⟩ := key
    exact ⟨τ', e, h2, h3⟩
  · intro n τ hI
    refine ex_of (a := ((), τ)) ?_ hI
    rw [f_X0_becomeJoined_2, if_pos hk, if_pos hk1, if_pos hk2]
    simp (disch := omega) only [kd_0, kd_1, kd_39, kd_269, kd_273, kd_298, rf_0_0, rf_0_1, rf_0_2, rf_0_3, rf_0_4, rf_1_1, rf_1_2, rf_1_4, rf_1_6, rf_1_7, rf_39_0, rf_269_0, rf_269_5, rf_269_6, rf_298_0, rf_298_1, rf_298_3, rf_298_4, rf_298_6, rf_298_7, rf_298_8, rf_298_9, bnE, cbE, lj, ix_nI, inb_nI, n_lt, n_le, n_eq, n_div, n_rem, nI_add, pk_mul, decide_eq_true_eq, if_true, if_false, bI_0, bI_or, not_true, not_false_eq_true, ↓reduceIte, Nat.le_refl]
  · intro n j τ hj hI
    obtain ⟨i1, i2⟩ := hI
    obtain ⟨a1, a2, a3⟩ := hC1 j hj
    obtain ⟨b1, b2, b3⟩ := hB1 j hj
    obtain ⟨c1, c2, c3⟩ := hC2 (g1 j) b1
    obtain ⟨d1, d2, d3⟩ := hB2 (g1 j) b1
    rw [← i2 (k1 + 1) (by omega) (by omega) (by omega)] at a1
    rw [← i2 (k1 + 2) (by omega) (by omega) (by omega)] at a2
    rw [← i2 (k1 + 3) (by omega) (by omega) (by omega)] at a3
    rw [← i2 (k2 + 1) (by omega) (by omega) (by omega)] at c1
    rw [← i2 (k2 + 2) (by omega) (by omega) (by omega)] at c2
    rw [← i2 (k2 + 3) (by omega) (by omega) (by omega)] at c3
    refine stp (s' := up (up (up τ (k + 1) j (nI (g2 (g1 j)))) (k + 2) j (nI ((t1 j + t2 (g1 j)) % 4))) (k + 3) j (nI (if w1 j = 0 then w2 (g1 j) else w1 j))) ?_ ⟨fun s hs => ?_, fun i a b c => by rw [up_o _ _ _ _ c, up_o _ _ _ _ b, up_o _ _ _ _ a]; exact i2 i a b c⟩
    · rw [f_X0_becomeJoined_2, if_pos hk, if_pos hk1, if_pos hk2]
      by_cases e1 : w1 j = 0
      · simp (disch := omega) only [kd_0, kd_1, kd_39, kd_269, kd_273, kd_298, rf_0_0, rf_0_1, rf_0_2, rf_0_3, rf_0_4, rf_1_1, rf_1_2, rf_1_4, rf_1_6, rf_1_7, rf_39_0, rf_269_0, rf_269_5, rf_269_6, rf_298_0, rf_298_1, rf_298_3, rf_298_4, rf_298_6, rf_298_7, rf_298_8, rf_298_9, bnE, cbE, lj, ix_nI, inb_nI, n_lt, n_le, n_eq, n_div, n_rem, nI_add, pk_mul, decide_eq_true_eq, if_true, if_false, bI_0, bI_or, not_true, not_false_eq_true, ↓reduceIte, ux_s, ux_n, ux_o, show ¬ 12 ≤ j by omega, hj, b1, r0, r1, r2, p0, p1, p2, q0, q1, q2, a1, a2, a3, c1, c2, c3, e1, f_X0_becomeJoined_81, hk, hk1, hk2, rk3, rl3]
      · simp (disch := omega) only [kd_0, kd_1, kd_39, kd_269, kd_273, kd_298, rf_0_0, rf_0_1, rf_0_2, rf_0_3, rf_0_4, rf_1_1, rf_1_2, rf_1_4, rf_1_6, rf_1_7, rf_39_0, rf_269_0, rf_269_5, rf_269_6, rf_298_0, rf_298_1, rf_298_3, rf_298_4, rf_298_6, rf_298_7, rf_298_8, rf_298_9, bnE, cbE, lj, ix_nI, inb_nI, n_lt, n_le, n_eq, n_div, n_rem, nI_add, pk_mul, decide_eq_true_eq, if_true, if_false, bI_0, bI_or, not_true, not_false_eq_true, ↓reduceIte, ux_s, ux_n, ux_o, show ¬ 12 ≤ j by omega, hj, b1, r0, r1, r2, p0, p1, p2, q0, q1, q2, a1, a2, a3, c1, c2, c3, e1, f_X0_becomeJoined_81, hk, hk1, hk2, rk3, rl3]
    · by_cases e : s = j
      · subst e; simp [up_a]
      · simp [up_a, e]; exact i1 s (by omega)
theorem addc_eq (v : Vt) (f t w : Nat → Nat) : addc v f t w = setc (vu v 1 (v 1 + 1)) (v 1) f t w := by
  funext k
  unfold addc setc
  by_cases h : k = 1
  · subst h; rw [vu_s, if_neg (by omega), vu_s]
  · rw [vu_n _ _ h, vu_n _ _ h]
theorem joins130 {τ : Sg} {v : Vt} {g : Int32} {a b : Nat} (hM : Mo (τ 299) (addc v (fun s => s) (fun _ => 0) (fun _ => 0)) g) (hV : Va v) (h8 : v 1 < 8) (ha : a < v 1) (hb : b < v 1) : ∃ τ', f_X6_joins_130 FU 298 (nI a) (nI b) (nI (v 1)) 0 τ = some (nI (v 1), τ') ∧ Mo (τ' 299) (addc v (fun s => go v b (go v a s)) (fun s => (tu v a s + tu v b (go v a s)) % 4) (fun s => if wa v a s = 0 then wa v b (go v a s) else wa v a s)) g ∧ ∀ k, k ≠ 299 → τ' k = τ k := by
  have key := loopI (fun n j σ => f_X6_joins_130 n 298 (nI a) (nI b) (nI (v 1)) (nI j) σ) (fun j σ => ∃ f t w, Mo (σ 299) (setc (vu v 1 (v 1 + 1)) (v 1) f t w) g ∧ (∀ s, s < j → f s = go v b (go v a s) ∧ t s = (tu v a s + tu v b (go v a s)) % 4 ∧ w s = if wa v a s = 0 then wa v b (go v a s) else wa v a s) ∧ ∀ k, k ≠ 299 → σ k = τ k) (fun q => q.1 = nI (v 1) ∧ Mo (q.2 299) (addc v (fun s => go v b (go v a s)) (fun s => (tu v a s + tu v b (go v a s)) % 4) (fun s => if wa v a s = 0 then wa v b (go v a s) else wa v a s)) g ∧ ∀ k, k ≠ 299 → q.2 k = τ k) 12 ?_ ?_ FU 0 τ (by omega) (FU_gt (by omega)) ⟨_, _, _, by rw [addc_eq] at hM; exact hM, fun s hs => absurd hs (Nat.not_lt_zero _), fun k hk => rfl⟩
  · obtain ⟨⟨r, τ'⟩, e, rfl, h2, h3⟩ := key
    exact ⟨τ', e, h2, h3⟩
  · intro n σ hI
    obtain ⟨f, t, w, h1, h2, h3⟩ := hI
    refine ex_of (a := (nI (v 1), σ)) ?_ ⟨rfl, ?_, h3⟩
    · rw [f_X6_joins_130, if_pos kd_298]
      simp (disch := omega) only [kd_0, kd_1, kd_39, kd_269, kd_273, kd_298, rf_0_0, rf_0_1, rf_0_2, rf_0_3, rf_0_4, rf_1_1, rf_1_2, rf_1_4, rf_1_6, rf_1_7, rf_39_0, rf_269_0, rf_269_5, rf_269_6, rf_298_0, rf_298_1, rf_298_3, rf_298_4, rf_298_6, rf_298_7, rf_298_8, rf_298_9, bnE, cbE, lj, ix_nI, inb_nI, n_lt, n_le, n_eq, n_div, n_rem, nI_add, pk_mul, decide_eq_true_eq, if_true, if_false, bI_0, bI_or, not_true, not_false_eq_true, ↓reduceIte, Nat.le_refl]
    · rw [addc_eq]
      rw [setc_cong (g' := fun s => go v b (go v a s)) (t' := fun s => (tu v a s + tu v b (go v a s)) % 4) (w' := fun s => if wa v a s = 0 then wa v b (go v a s) else wa v a s) h2] at h1
      exact h1
  · intro n j σ hj hI
    obtain ⟨f, t, w, h1, h2, h3⟩ := hI
    obtain ⟨a1, a2, a3⟩ := (Cb_of hV ha) j hj
    obtain ⟨b1, b2, b3⟩ := (Cb_of hV hb) _ a1
    have hM1 := Mo_up h1 (k := 36 + 36 * v 1 + j) (x := go v b (go v a j)) (by omega)
    rw [setc_ug _ _ _ _ _ hj] at hM1
    have hM2 := Mo_up hM1 (k := 48 + 36 * v 1 + j) (x := (tu v a j + tu v b (go v a j)) % 4) (by omega)
    rw [setc_ut _ _ _ _ _ hj] at hM2
    have hM3 := Mo_up hM2 (k := 60 + 36 * v 1 + j) (x := if wa v a j = 0 then wa v b (go v a j) else wa v a j) (by omega)
    rw [setc_uw _ _ _ _ _ hj] at hM3
    have rd : ∀ k, k < 336 → k ≠ 3 → k ≠ 1 → k < 36 + 36 * v 1 → σ 299 k = nI (v k) := fun k p q r s => by rw [h1.2 k p q, setc_o _ _ _ _ _ (Or.inl s), vu_n _ _ r]
    have e1 : σ 299 (36 + 36 * a + j) = nI (go v a j) := rd _ (by omega) (by omega) (by omega) (by omega)
    have e2 : σ 299 (48 + 36 * a + j) = nI (tu v a j) := rd _ (by omega) (by omega) (by omega) (by omega)
    have e3 : σ 299 (60 + 36 * a + j) = nI (wa v a j) := rd _ (by omega) (by omega) (by omega) (by omega)
    have e4 : σ 299 (36 + 36 * b + go v a j) = nI (go v b (go v a j)) := rd _ (by omega) (by omega) (by omega) (by omega)
    have e5 : σ 299 (48 + 36 * b + go v a j) = nI (tu v b (go v a j)) := rd _ (by omega) (by omega) (by omega) (by omega)
    have e6 : σ 299 (60 + 36 * b + go v a j) = nI (wa v b (go v a j)) := rd _ (by omega) (by omega) (by omega) (by omega)
    refine stp (s' := up (up (up σ 299 (36 + 36 * v 1 + j) (nI (go v b (go v a j)))) 299 (48 + 36 * v 1 + j) (nI ((tu v a j + tu v b (go v a j)) % 4))) 299 (60 + 36 * v 1 + j) (nI (if wa v a j = 0 then wa v b (go v a j) else wa v a j))) ?_ ⟨_, _, _, hM3, fun s hs => ?_, fun k hk => by rw [up_o _ _ _ _ hk, up_o _ _ _ _ hk, up_o _ _ _ _ hk]; exact h3 k hk⟩
    · rw [f_X6_joins_130, if_pos kd_298]
      by_cases c1 : wa v a j = 0
      · simp (disch := omega) only [kd_0, kd_1, kd_39, kd_269, kd_273, kd_298, rf_0_0, rf_0_1, rf_0_2, rf_0_3, rf_0_4, rf_1_1, rf_1_2, rf_1_4, rf_1_6, rf_1_7, rf_39_0, rf_269_0, rf_269_5, rf_269_6, rf_298_0, rf_298_1, rf_298_3, rf_298_4, rf_298_6, rf_298_7, rf_298_8, rf_298_9, bnE, cbE, lj, ix_nI, inb_nI, n_lt, n_le, n_eq, n_div, n_rem, nI_add, pk_mul, decide_eq_true_eq, if_true, if_false, bI_0, bI_or, not_true, not_false_eq_true, ↓reduceIte, ux_s, ux_n, ux_o, place0, place1, place2, show ¬ 12 ≤ j by omega, e1, e2, e3, e4, e5, e6, c1, f_X6_joins_270, kd_299, ln_299, show 36 + 36 * a + j < 336 by omega, show 48 + 36 * a + j < 336 by omega, show 60 + 36 * a + j < 336 by omega, show 36 + 36 * b + go v a j < 336 by omega, show 48 + 36 * b + go v a j < 336 by omega, show 60 + 36 * b + go v a j < 336 by omega, show 36 + 36 * v 1 + j < 336 by omega, show 48 + 36 * v 1 + j < 336 by omega, show 60 + 36 * v 1 + j < 336 by omega]
      · simp (disch := omega) only [kd_0, kd_1, kd_39, kd_269, kd_273, kd_298, rf_0_0, rf_0_1, rf_0_2, rf_0_3, rf_0_4, rf_1_1, rf_1_2, rf_1_4, rf_1_6, rf_1_7, rf_39_0, rf_269_0, rf_269_5, rf_269_6, rf_298_0, rf_298_1, rf_298_3, rf_298_4, rf_298_6, rf_298_7, rf_298_8, rf_298_9, bnE, cbE, lj, ix_nI, inb_nI, n_lt, n_le, n_eq, n_div, n_rem, nI_add, pk_mul, decide_eq_true_eq, if_true, if_false, bI_0, bI_or, not_true, not_false_eq_true, ↓reduceIte, ux_s, ux_n, ux_o, place0, place1, place2, show ¬ 12 ≤ j by omega, e1, e2, e3, e4, e5, e6, c1, f_X6_joins_270, kd_299, ln_299, show 36 + 36 * a + j < 336 by omega, show 48 + 36 * a + j < 336 by omega, show 60 + 36 * a + j < 336 by omega, show 36 + 36 * b + go v a j < 336 by omega, show 48 + 36 * b + go v a j < 336 by omega, show 60 + 36 * b + go v a j < 336 by omega, show 36 + 36 * v 1 + j < 336 by omega, show 48 + 36 * v 1 + j < 336 by omega, show 60 + 36 * v 1 + j < 336 by omega]
    · by_cases e : s = j
      · subst e; rw [fu_s, fu_s, fu_s]; exact ⟨rfl, rfl, rfl⟩
      · rw [fu_n _ _ e, fu_n _ _ e, fu_n _ _ e]; exact h2 s (by omega)
theorem joins25 {σ : Sg} {v : Vt} {g : Int32} {a b : Nat} (hM : Mo (σ 299) v g) (hV : Va v) (ha : a < v 1) (hb : b < v 1) : f_X6_joins_25 FU 298 (nI a) (nI b) 0 σ = if alF (jok (wa v a) (go v a) (wa v b)) 12 0 then (if v 1 = 8 then cb (f_X6_refused 298 (-4) σ) (fun a6 τ7 => some (a6, τ7)) else cb (f_X6_keeps 298 σ) (fun _ τ3 => cb (f_X6_adds 298 τ3) (fun a4 τ5 => f_X6_joins_130 FU 298 (nI a) (nI b) a4 0 τ5))) else cb (f_X6_refused 298 (-3) σ) (fun a19 τ20 => some (a19, τ20)) := by
  have h1 := hV.2.1
  have key := loopU (fun n j => f_X6_joins_25 n 298 (nI a) (nI b) (nI j) σ) (fun j => if alF (jok (wa v a) (go v a) (wa v b)) (12 - j) j then (if v 1 = 8 then cb (f_X6_refused 298 (-4) σ) (fun a6 τ7 => some (a6, τ7)) else cb (f_X6_keeps 298 σ) (fun _ τ3 => cb (f_X6_adds 298 τ3) (fun a4 τ5 => f_X6_joins_130 FU 298 (nI a) (nI b) a4 0 τ5))) else cb (f_X6_refused 298 (-3) σ) (fun a19 τ20 => some (a19, τ20))) 12 (by omega) ?_ ?_
  · exact key
  · intro n
    rw [f_X6_joins_25, if_pos kd_298, if_pos (by decide), if_pos (by decide), rf_298_0, show ix 1 = 1 from rfl, hM.2 1 (by omega) (by omega), show (8 : Int32) = nI 8 from rfl]
    simp only [n_eq (show v 1 < 2147483648 by omega) (show 8 < 2147483648 by omega), Nat.sub_self, alF, if_true]
  · intro n j hj ih
    obtain ⟨a1, a2, a3⟩ := (Cb_of hV ha) j hj
    obtain ⟨b1, b2, b3⟩ := (Cb_of hV hb) _ a1
    have e1 : σ 299 (36 + 36 * a + j) = nI (go v a j) := hM.2 _ (by omega) (by omega)
    have e3 : σ 299 (60 + 36 * a + j) = nI (wa v a j) := hM.2 _ (by omega) (by omega)
    have e6 : σ 299 (60 + 36 * b + go v a j) = nI (wa v b (go v a j)) := hM.2 _ (by omega) (by omega)
    rw [f_X6_joins_25, if_pos kd_298, if_neg (by rw [show (12 : Int32) = nI 12 from rfl, n_le (by omega) (by omega)]; omega)]
    simp only [show 12 - j = (12 - (j + 1)) + 1 by omega, alF]
    simp (disch := omega) only [place0, place1, place2, rf_298_0, bnE, cb_some, ix_nI, inb_nI, decide_eq_true_eq, if_true, show (0 : Int32) = nI 0 from rfl, show (2 : Int32) = nI 2 from rfl, show (1 : Int32) = nI 1 from rfl, n_eq, nI_add, ↓reduceIte, e1, e3, e6, show 36 + 36 * a + j < 336 by omega, show 60 + 36 * a + j < 336 by omega, show 60 + 36 * b + go v a j < 336 by omega, f_X6_joins_94, kd_298]
    by_cases c1 : wa v a j = 0
    · rw [if_pos c1, if_pos (show jok (wa v a) (go v a) (wa v b) j = true by simp [jok, c1])]; exact ih
    · rw [if_neg c1]
      by_cases c2 : wa v b (go v a j) = 0
      · rw [if_pos c2, if_pos (show jok (wa v a) (go v a) (wa v b) j = true by simp [jok, c2])]; exact ih
      · rw [if_neg c2]
        by_cases c3 : wa v a j = wa v b (go v a j)
        · rw [if_pos c3, if_pos (show jok (wa v a) (go v a) (wa v b) j = true by simp [jok, c3])]; exact ih
        · rw [if_neg c3, if_neg (show ¬ jok (wa v a) (go v a) (wa v b) j = true by simp [jok, c1, c2, c3])]; rfl
def joM (x1 x2 : Int32) (τ : Sg) : Option (Int32 × Sg) := cb (f_X6_adds 298 τ) (fun a4 τ5 => f_X6_joins_130 FU 298 x1 x2 a4 0 τ5)
theorem sim_joins {n : Nat} (hn : n < 600) (x y : Int32) : Sim (Inv n) (Inv (n + 1)) (f_X5_joins 0 x y) (f_X6_joins 298 x y) := by
  refine keep_sim (opc := f_X3_addJoined 1 x y) (opm := joM x y) hn (fun σ => by rw [f_X5_joins, if_pos kd_0, rf_0_0, rf_0_1]) (fun v g hV => ?_)
  have h1 := hV.2.1
  have hr : ∀ σ, f_X6_joins_16 298 σ = cb (f_X6_refused 298 (-2) σ) (fun b τ2 => some (b, τ2)) := fun σ => by rw [f_X6_joins_16, if_pos kd_298]
  cases hx : inb x (v 1) with
  | false =>
    refine ⟨-2, v, g, hV, OpC_bad (fun τ hC => ?_), Or.inr ⟨0, rfl, rfl, rfl, fun σ hM => ?_⟩⟩
    · rw [f_X3_addJoined, if_pos kd_1, hC.2.1, isb _ (by omega), cb_some, hx, if_pos bf]
    · rw [f_X6_joins, if_pos kd_298, isCall_eq hM (by omega), cb_some, hx, if_pos bf, hr]
  | true =>
    cases hy : inb y (v 1) with
    | false =>
      refine ⟨-2, v, g, hV, OpC_bad (fun τ hC => ?_), Or.inr ⟨0, rfl, rfl, rfl, fun σ hM => ?_⟩⟩
      · rw [f_X3_addJoined, if_pos kd_1, hC.2.1, isb _ (by omega), cb_some, hx, if_neg bt, hC.2.1, isb _ (by omega), cb_some, hy, if_pos bf]
      · rw [f_X6_joins, if_pos kd_298, isCall_eq hM (by omega), cb_some, hx, if_neg bt, isCall_eq hM (by omega), cb_some, hy, if_pos bf, hr]
    | true =>
      obtain ⟨a, ha, rfl⟩ := inb_ex hx (by omega)
      obtain ⟨b, hb, rfl⟩ := inb_ex hy (by omega)
      obtain ⟨r0, r1, -⟩ := c_at (show a < 8 by omega)
      obtain ⟨q0, q1, -⟩ := c_at (show b < 8 by omega)
      have i1 : inb (nI a) 8 = true := by rw [inb_nI (by omega)]; exact decide_eq_true (by omega)
      have i2 : inb (nI b) 8 = true := by rw [inb_nI (by omega)]; exact decide_eq_true (by omega)
      have hcl : ∀ τ, Cl τ 1 v g → f_X3_addJoined 1 (nI a) (nI b) τ = if alF (jok (wa v a) (go v a) (wa v b)) 12 0 then cb (f_X3_addCall 1 τ) (fun a9 τ10 => if a9 < 0 then (some (a9, τ10)) else (if inb a9 8 then (cb (f_X0_becomeJoined (rf 4 (ix a9)) (7 + 4 * a) (7 + 4 * b) τ10) (fun _ τ15 => some (a9, τ15))) else none)) else some (-3, τ) := fun τ hC => by
        rw [f_X3_addJoined, if_pos kd_1, hC.2.1, isb _ (by omega), cb_some, hx, if_neg bt, hC.2.1, isb _ (by omega), cb_some, hy, if_neg bt, if_pos i1, if_pos i2, rf_1_4, ix_nI (by omega), ix_nI (by omega), r0, q0, canJ r1 q1 (Ca_of hC ha) (Ca_of hC hb) (Cb_of hV ha) (Cb_of hV hb), cb_some]
        cases alF (jok (wa v a) (go v a) (wa v b)) 12 0 with
        | false => rfl
        | true =>
          rw [if_neg bt, if_pos rfl]
          simp only [i1, i2, if_true]
      have hmo : ∀ σ, Mo (σ 299) v g → f_X6_joins 298 (nI a) (nI b) σ = f_X6_joins_25 FU 298 (nI a) (nI b) 0 σ := fun σ hM => by
        rw [f_X6_joins, if_pos kd_298, isCall_eq hM (by omega), cb_some, hx, if_neg bt, isCall_eq hM (by omega), cb_some, hy, if_neg bt]
      cases hj : alF (jok (wa v a) (go v a) (wa v b)) 12 0 with
      | false =>
        refine ⟨-3, v, g, hV, OpC_bad (fun τ hC => ?_), Or.inr ⟨1, rfl, rfl, rfl, fun σ hM => ?_⟩⟩
        · rw [hcl τ hC, hj]; rfl
        · rw [hmo σ hM, joins25 hM hV ha hb, hj]; rfl
      | true =>
        by_cases h8 : v 1 < 8
        · refine ⟨nI (v 1), addc v (fun s => go v b (go v a s)) (fun s => (tu v a s + tu v b (go v a s)) % 4) (fun s => if wa v a s = 0 then wa v b (go v a s) else wa v a s), g, Va_add hV h8 (fun s hs => ?_) (fun s hs r hr' e => ?_), fun τ hC => ?_, Or.inl ⟨ge0 (by omega), fun σ hM => ?_, fun τ hM => ?_⟩⟩
          · obtain ⟨a1, a2, a3⟩ := (Cb_of hV ha) s hs
            obtain ⟨b1, b2, b3⟩ := (Cb_of hV hb) _ a1
            refine ⟨b1, Nat.mod_lt _ (by omega), ?_⟩
            split
            · exact b3
            · exact a3
          · have a1 := ((Cb_of hV ha) s hs).1
            have a2 := ((Cb_of hV ha) r hr').1
            exact hV.2.2.2.2.2.1 a ha s hs r hr' (hV.2.2.2.2.2.1 b hb _ a1 _ a2 e)
          · obtain ⟨τ1, e1, p1, p2, p3, p4⟩ := addC hC h8
            obtain ⟨s0, s1, -⟩ := c_at h8
            have cA : Ca τ1 (7 + 4 * a) (go v a) (tu v a) (wa v a) := fun s hs => by
              rw [p4 (7 + 4 * a + 1) (by omega) (by omega) (by omega) (by omega), p4 (7 + 4 * a + 2) (by omega) (by omega) (by omega) (by omega), p4 (7 + 4 * a + 3) (by omega) (by omega) (by omega) (by omega)]
              exact Ca_of hC ha s hs
            have cB : Ca τ1 (7 + 4 * b) (go v b) (tu v b) (wa v b) := fun s hs => by
              rw [p4 (7 + 4 * b + 1) (by omega) (by omega) (by omega) (by omega), p4 (7 + 4 * b + 2) (by omega) (by omega) (by omega) (by omega), p4 (7 + 4 * b + 3) (by omega) (by omega) (by omega) (by omega)]
              exact Ca_of hC hb s hs
            obtain ⟨τ2, e2, z1, z2⟩ := becJ s1 r1 q1 (by omega) (by omega) cA cB (Cb_of hV ha) (Cb_of hV hb)
            refine ⟨τ2, ?_, Cl_add hC hV h8 z1 ?_ (fun i hi => ?_) (fun k a b c d => ?_), fun k hk => ?_⟩
            · rw [hcl τ hC, hj, if_pos rfl, e1, cb_some, if_neg (by rw [show (0 : Int32) = nI 0 from rfl, n_lt (by omega) (by omega)]; omega), if_pos (by rw [inb_nI (by omega)]; exact decide_eq_true h8), ix_nI (by omega), s0, e2, cb_some]
            · rw [z2 1 (by omega) (by omega) (by omega)]; exact p2
            · rw [z2 1 (by omega) (by omega) (by omega)]; exact p3 i hi
            · rw [z2 k b c d]; exact p4 k a b c d
            · rw [z2 k (by omega) (by omega) (by omega)]; exact p4 k (by omega) (by omega) (by omega) (by omega)
          · rw [hmo σ hM, joins25 hM hV ha hb, hj, if_pos rfl, if_neg (by omega)]
            rfl
          · obtain ⟨τ1, e1, p1, p2⟩ := addsM hM hV h8
            obtain ⟨τ2, e2, z1, z2⟩ := joins130 p1 hV h8 ha hb
            refine ⟨τ2, ?_, z1, fun k hk => by rw [z2 k hk, p2 k hk]⟩
            unfold joM
            rw [e1, cb_some, e2]
        · have e8 : v 1 = 8 := by omega
          refine ⟨-4, v, g, hV, OpC_bad (fun τ hC => ?_), Or.inr ⟨2, rfl, rfl, rfl, fun σ hM => ?_⟩⟩
          · rw [hcl τ hC, hj, if_pos rfl, f_X3_addCall, if_pos kd_1, hC.2.1, if_neg (by rw [e8]; decide), cb_some, if_pos (by decide)]
          · rw [hmo σ hM, joins25 hM hV ha hb, hj, if_pos rfl, if_pos e8]
