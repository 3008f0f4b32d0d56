/-! who is where; moving by a call -/
def occS (sp : Nat → Nat) (n s : Nat) : Bool := anyB (fun d => s == sp d) n
theorem heldC {σ : Sg} {k n : Nat} {pl : Nat → Nat} (hk : kd k = 7) (hn : n ≤ 8) (hl : n ≤ ln k) (hp : ∀ d, d < n → σ k d = nI (pl d) ∧ pl d < 48) : f_X5_heldSpots k (nI n) σ = some (nI (bm (occS (fun d => pl d / 4) n) 12), σ) := by
  rw [f_X5_heldSpots, if_pos hk]
  have hz : bm (occS (fun d => pl d / 4) 0) 12 = 0 := by
    have : ∀ i, bm (occS (fun d => pl d / 4) 0) i = 0 := by
      intro i
      induction i with
      | zero => rfl
      | succ i ih => rw [bm, ih]; simp [occS, anyB]
    exact this 12
  have key := loopU (fun m j => f_X5_heldSpots_4 m k (nI n) (nI (bm (occS (fun d => pl d / 4) j) 12)) (nI j) σ) (fun _ => some (nI (bm (occS (fun d => pl d / 4) n) 12), σ)) n (by omega) ?_ ?_
  · rw [hz] at key
    exact key
  · intro m
    rw [f_X5_heldSpots_4, if_pos hk]
    simp (disch := omega) only [kd_0, kd_1, kd_39, kd_269, kd_273, kd_298, rf_0_0, rf_0_1, rf_0_2, rf_0_3, rf_0_4, rf_1_1, rf_1_2, rf_1_4, rf_1_6, rf_1_7, rf_39_0, rf_269_0, rf_269_5, rf_269_6, rf_298_0, rf_298_1, rf_298_3, rf_298_4, rf_298_6, rf_298_7, rf_298_8, rf_298_9, bnE, cbE, lj, ix_nI, inb_nI, n_lt, n_le, n_eq, n_div, n_rem, nI_add, pk_mul, decide_eq_true_eq, if_true, if_false, bI_0, bI_or, not_true, not_false_eq_true, ↓reduceIte, Nat.le_refl]
  · intro m j hj ih
    obtain ⟨a1, a2⟩ := hp j hj
    rw [f_X5_heldSpots_4, if_pos hk]
    simp (disch := omega) only [kd_0, kd_1, kd_39, kd_269, kd_273, kd_298, rf_0_0, rf_0_1, rf_0_2, rf_0_3, rf_0_4, rf_1_1, rf_1_2, rf_1_4, rf_1_6, rf_1_7, rf_39_0, rf_269_0, rf_269_5, rf_269_6, rf_298_0, rf_298_1, rf_298_3, rf_298_4, rf_298_6, rf_298_7, rf_298_8, rf_298_9, bnE, cbE, lj, ix_nI, inb_nI, n_lt, n_le, n_eq, n_div, n_rem, nI_add, pk_mul, decide_eq_true_eq, if_true, if_false, bI_0, bI_or, not_true, not_false_eq_true, ↓reduceIte, show ¬ n ≤ j by omega, show j < ln k by omega, a1, b_one, b_or, bm_set]
    exact ih
theorem occ_who {v : Vt} (s : Nat) : occS (fun d => v (4 + 4 * d)) (v 0) s = false ↔ who v s = none := by
  rw [occS, anyB_f, who, whoF_none]
  constructor
  · intro h d _ hd e
    have := h d (by omega)
    rw [e] at this
    simp at this
  · intro h d hd
    have := h d (by omega) (by omega)
    simp
    exact fun e => this e.symm
theorem fitsM {σ : Sg} {v : Vt} {g : Int32} (hM : Mo (σ 299) v g) (hV : Va v) {c : Nat} (hc : c < v 1) : f_X6_fits 298 (nI c) σ = some (bI (fitP (occS (fun d => v (4 + 4 * d)) (v 0)) (wa v c)), σ) := by
  have h0 := hV.1
  have h1 := hV.2.1
  rw [f_X6_fits, if_pos kd_298]
  have key := loopU (fun m j => f_X6_fits_4 m 298 (nI c) (bI (allB (fun s => fitp (occS (fun d => v (4 + 4 * d)) (v 0) s) (wa v c s)) j)) (nI j) σ) (fun _ => some (bI (fitP (occS (fun d => v (4 + 4 * d)) (v 0)) (wa v c)), σ)) 12 (by omega) ?_ ?_
  · exact key
  · intro m
    rw [f_X6_fits_4, if_pos kd_298, if_pos (by decide), if_pos]
    · rfl
    · cases (allB (fun s => fitp (occS (fun d => v (4 + 4 * d)) (v 0) s) (wa v c s)) 12) <;> decide
  · intro m j hj ih
    have e3 : σ 299 (60 + 36 * c + j) = nI (wa v c j) := hM.2 _ (by omega) (by omega)
    have b3 := ((Cb_of hV hc) j hj).2.2
    rw [allB] at ih
    rw [f_X6_fits_4, if_pos kd_298, if_neg (by rw [show (12 : Int32) = nI 12 from rfl, n_le (by omega) (by omega)]; omega), show (2 : Int32) = nI 2 from rfl, place2, cb_some, if_pos (by rw [inb_nI (by omega)]; exact decide_eq_true (by omega)), rf_298_0, ix_nI (by omega), e3]
    simp only [bnE]
    have f64 : f_X6_fits_64 (f_X6_fits_4 m) 298 (nI c) (nI j) σ = f_X6_fits_4 m 298 (nI c) 0 (nI (j + 1)) σ := by
      rw [f_X6_fits_64, if_pos kd_298, f_X6_fits_65, if_pos kd_298, show (1 : Int32) = nI 1 from rfl, nI_add]
    have f60 : f_X6_fits_60 (f_X6_fits_4 m) 298 (nI c) (nI j) σ = f_X6_fits_4 m 298 (nI c) 1 (nI (j + 1)) σ := by
      rw [f_X6_fits_60, if_pos kd_298, f_X6_fits_65, if_pos kd_298, show (1 : Int32) = nI 1 from rfl, nI_add]
    have ho := oI_neg (o := who v j) (fun d h => by have := who_lt hV h; omega)
    cases ha : allB (fun s => fitp (occS (fun d => v (4 + 4 * d)) (v 0) s) (wa v c s)) j with
    | false =>
      rw [ha] at ih
      rw [if_pos bf, f64]
      exact ih
    | true =>
      rw [ha, Bool.true_and] at ih
      rw [if_neg bt]
      rcases (show wa v c j = 0 ∨ wa v c j = 1 ∨ wa v c j = 2 by omega) with e | e | e
      · rw [e, if_pos (show nI 0 = 0 from rfl), f60]
        rw [show fitp (occS (fun d => v (4 + 4 * d)) (v 0) j) (wa v c j) = true by rw [e]; rfl] at ih
        exact ih
      · rw [e, if_neg (by decide), if_pos (show nI 1 = 1 from rfl), f_X6_fits_44, if_pos kd_298, whoM hM hV (by omega), cb_some]
        cases hq : occS (fun d => v (4 + 4 * d)) (v 0) j with
        | false =>
          rw [if_pos (ho.2.mpr ((occ_who j).mp hq)), f_X6_fits_57, if_pos kd_298, if_neg (by decide), f64]
          rw [hq, e] at ih
          exact ih
        | true =>
          rw [if_neg (fun q => by rw [(occ_who j).mpr (ho.2.mp q)] at hq; cases hq), f_X6_fits_57, if_pos kd_298, if_pos rfl, f60]
          rw [hq, e] at ih
          exact ih
      · rw [e, if_neg (by decide), if_neg (by decide), f_X6_fits_44, if_pos kd_298, whoM hM hV (by omega), cb_some]
        cases hq : occS (fun d => v (4 + 4 * d)) (v 0) j with
        | false =>
          rw [if_pos (ho.2.mpr ((occ_who j).mp hq)), f_X6_fits_57, if_pos kd_298, if_pos rfl, f60]
          rw [hq, e] at ih
          exact ih
        | true =>
          rw [if_neg (fun q => by rw [(occ_who j).mpr (ho.2.mp q)] at hq; cases hq), f_X6_fits_57, if_pos kd_298, if_neg (by decide), f64]
          rw [hq, e] at ih
          exact ih
/-- the first j dancers gone by call c -/
def mvJ (v : Vt) (c j : Nat) : Vt := fun k => if 4 ≤ k ∧ k < 4 + 4 * j ∧ k % 4 = 0 then go v c (v k) else if 4 ≤ k ∧ k < 4 + 4 * j ∧ k % 4 = 1 then (v k + tu v c (v (k - 1))) % 4 else v k
def mvv (v : Vt) (c : Nat) : Vt := mvJ v c (v 0)
theorem mvJ_0 (v : Vt) (c : Nat) : mvJ v c 0 = v := by funext k; unfold mvJ; rw [if_neg (by omega), if_neg (by omega)]
theorem mvJ_o (v : Vt) (c j : Nat) {k : Nat} (h : k < 4 ∨ 4 + 4 * j ≤ k ∨ 2 ≤ k % 4) : mvJ v c j k = v k := by unfold mvJ; rw [if_neg (by omega), if_neg (by omega)]
theorem mvJ_s (v : Vt) (c : Nat) {j d : Nat} (h : d < j) : mvJ v c j (4 + 4 * d) = go v c (v (4 + 4 * d)) := by unfold mvJ; rw [if_pos (by omega)]
theorem mvJ_f (v : Vt) (c : Nat) {j d : Nat} (h : d < j) : mvJ v c j (5 + 4 * d) = (v (5 + 4 * d) + tu v c (v (4 + 4 * d))) % 4 := by unfold mvJ; rw [if_neg (by omega), if_pos (by omega), show 5 + 4 * d - 1 = 4 + 4 * d by omega]
theorem mvJ_u (v : Vt) (c j : Nat) : vu (vu (mvJ v c j) (4 + 4 * j) (go v c (v (4 + 4 * j)))) (5 + 4 * j) ((v (5 + 4 * j) + tu v c (v (4 + 4 * j))) % 4) = mvJ v c (j + 1) := by
  funext k
  by_cases e1 : k = 5 + 4 * j
  · subst e1; rw [vu_s, mvJ_f _ _ (by omega)]
  · rw [vu_n _ _ e1]
    by_cases e2 : k = 4 + 4 * j
    · subst e2; rw [vu_s, mvJ_s _ _ (by omega)]
    · rw [vu_n _ _ e2]
      unfold mvJ
      by_cases q1 : 4 ≤ k ∧ k < 4 + 4 * j ∧ k % 4 = 0
      · rw [if_pos q1, if_pos (show 4 ≤ k ∧ k < 4 + 4 * (j + 1) ∧ k % 4 = 0 by omega)]
      · rw [if_neg q1, if_neg (show ¬ (4 ≤ k ∧ k < 4 + 4 * (j + 1) ∧ k % 4 = 0) by omega)]
        by_cases q2 : 4 ≤ k ∧ k < 4 + 4 * j ∧ k % 4 = 1
        · rw [if_pos q2, if_pos (show 4 ≤ k ∧ k < 4 + 4 * (j + 1) ∧ k % 4 = 1 by omega)]
        · rw [if_neg q2, if_neg (show ¬ (4 ≤ k ∧ k < 4 + 4 * (j + 1) ∧ k % 4 = 1) by omega)]
theorem Va_mv {v : Vt} {c : Nat} (hV : Va v) (hc : c < v 1) : Va (mvv v c) := by
  obtain ⟨h0, h1, h2, hd, hcc, hii, hp⟩ := hV
  have en : ∀ k, (k < 4 ∨ 4 + 4 * v 0 ≤ k ∨ 2 ≤ k % 4) → mvv v c k = v k := fun k h => mvJ_o v c _ h
  refine ⟨by rw [en 0 (by omega)]; exact h0, by rw [en 1 (by omega)]; exact h1, by rw [en 2 (by omega)]; exact h2, fun d hd' => ?_, fun c' hc' r hr => ?_, fun c' hc' r hr t ht => ?_, fun i hi' => ?_⟩
  · rw [en 0 (by omega)] at hd'
    obtain ⟨b1, b2, b3, b4⟩ := hd d hd'
    refine ⟨?_, ?_, by rw [en _ (by omega)]; exact b3, by rw [en _ (by omega)]; exact b4⟩
    · rw [show mvv v c (4 + 4 * d) = _ from mvJ_s v c hd']; exact (hcc c hc _ b1).1
    · rw [show mvv v c (5 + 4 * d) = _ from mvJ_f v c hd']; exact Nat.mod_lt _ (by omega)
  · rw [en 1 (by omega)] at hc'
    rw [en _ (by omega), en _ (by omega), en _ (by omega)]
    exact hcc c' hc' r hr
  · rw [en 1 (by omega)] at hc'
    rw [en _ (by omega), en _ (by omega)]
    exact hii c' hc' r hr t ht
  · rw [en 2 (by omega)] at hi'
    rw [en _ (by omega), en 1 (by omega)]
    exact hp i hi'
def chg (v : Vt) (c d : Nat) : Bool := go v c (v (4 + 4 * d)) != v (4 + 4 * d) || (v (5 + 4 * d) + tu v c (v (4 + 4 * d))) % 4 != v (5 + 4 * d)
theorem movesM {σ : Sg} {v : Vt} {g : Int32} (hM : Mo (σ 299) v g) (hV : Va v) {c : Nat} (hc : c < v 1) : ∃ σ', f_X6_moves 298 (nI c) σ = some (nI (cn (chg v c) (v 0)), σ') ∧ Mo (σ' 299) (mvv v c) g ∧ ∀ k, k ≠ 299 → σ' k = σ k := by
  have h0 := hV.1
  have h1 := hV.2.1
  rw [f_X6_moves, if_pos kd_298]
  have key := loopI (fun n j (q : Int32 × Sg) => f_X6_moves_4 n 298 (nI c) q.1 (nI j) q.2) (fun j q => q.1 = nI (cn (chg v c) j) ∧ Mo (q.2 299) (mvJ v c j) g ∧ ∀ k, k ≠ 299 → q.2 k = σ k) (fun q => q.1 = nI (cn (chg v c) (v 0)) ∧ Mo (q.2 299) (mvv v c) g ∧ ∀ k, k ≠ 299 → q.2 k = σ k) (v 0) ?_ ?_ FU 0 (nI 0, σ) (by omega) (FU_gt (by omega)) ⟨rfl, by rw [mvJ_0]; exact hM, fun k hk => rfl⟩
  · obtain ⟨⟨r, τ'⟩, e, rfl, h2, h3⟩ := key
    exact ⟨τ', e, h2, h3⟩
  · intro n q hI
    obtain ⟨x, τ⟩ := q
    obtain ⟨rfl, i2, i3⟩ := hI
    refine ex_of (a := (nI (cn (chg v c) (v 0)), τ)) ?_ ⟨rfl, i2, i3⟩
    dsimp only at i2 ⊢
    have e0 : τ 299 0 = nI (v 0) := by rw [i2.2 0 (by omega) (by omega), mvJ_o _ _ _ (by omega)]
    rw [f_X6_moves_4, if_pos kd_298, if_pos (by decide), rf_298_0, show ix 0 = 0 from rfl, e0, if_pos (by rw [n_le (by omega) (by omega)]; omega)]
  · intro n j q hj hI
    obtain ⟨x, τ⟩ := q
    obtain ⟨rfl, i2, i3⟩ := hI
    dsimp only at i2 i3
    obtain ⟨b1, b2, b3, b4⟩ := hV.2.2.2.1 j hj
    obtain ⟨d1, d2, d3⟩ := (Cb_of hV hc) _ b1
    have e0 : τ 299 0 = nI (v 0) := by rw [i2.2 0 (by omega) (by omega), mvJ_o _ _ _ (by omega)]
    have e4 : τ 299 (4 + 4 * j) = nI (v (4 + 4 * j)) := by rw [i2.2 _ (by omega) (by omega), mvJ_o _ _ _ (by omega)]
    have e5 : τ 299 (5 + 4 * j) = nI (v (5 + 4 * j)) := by rw [i2.2 _ (by omega) (by omega), mvJ_o _ _ _ (by omega)]
    have eg : τ 299 (36 + 36 * c + v (4 + 4 * j)) = nI (go v c (v (4 + 4 * j))) := by rw [i2.2 _ (by omega) (by omega), mvJ_o _ _ _ (by omega)]; rfl
    have et : τ 299 (48 + 36 * c + v (4 + 4 * j)) = nI (tu v c (v (4 + 4 * j))) := by rw [i2.2 _ (by omega) (by omega), mvJ_o _ _ _ (by omega)]; rfl
    have hM2 := Mo_up (Mo_up i2 (k := 4 + 4 * j) (x := go v c (v (4 + 4 * j))) (by omega)) (k := 5 + 4 * j) (x := (v (5 + 4 * j) + tu v c (v (4 + 4 * j))) % 4) (by omega)
    rw [mvJ_u] at hM2
    refine stp (s' := (nI (cn (chg v c) (j + 1)), up (up τ 299 (4 + 4 * j) (nI (go v c (v (4 + 4 * j))))) 299 (5 + 4 * j) (nI ((v (5 + 4 * j) + tu v c (v (4 + 4 * j))) % 4)))) ?_ ⟨rfl, hM2, fun k hk => by dsimp only; rw [up_o _ _ _ _ hk, up_o _ _ _ _ hk]; exact i3 k hk⟩
    dsimp only
    rw [f_X6_moves_4, if_pos kd_298, cn]
    have hg12 := d1
    by_cases q1 : go v c (v (4 + 4 * j)) = v (4 + 4 * j)
    · by_cases q2 : (v (5 + 4 * j) + tu v c (v (4 + 4 * j))) % 4 = v (5 + 4 * j)
      · have hc0 : chg v c j = false := by simp [chg, q1, q2]
        simp (disch := omega) only [kd_0, kd_1, kd_39, kd_269, kd_273, kd_298, rf_0_0, rf_0_1, rf_0_2, rf_0_3, rf_0_4, rf_1_1, rf_1_2, rf_1_4, rf_1_6, rf_1_7, rf_39_0, rf_269_0, rf_269_5, rf_269_6, rf_298_0, rf_298_1, rf_298_3, rf_298_4, rf_298_6, rf_298_7, rf_298_8, rf_298_9, bnE, cbE, lj, ix_nI, inb_nI, n_lt, n_le, n_eq, n_div, n_rem, nI_add, pk_mul, decide_eq_true_eq, if_true, if_false, bI_0, bI_or, not_true, not_false_eq_true, ↓reduceIte, ux_s, ux_n, ux_o, place0, place1, place2, e0, e4, e5, eg, et, show 0 < 336 by omega, show ¬ v 0 ≤ j by omega, show 4 + 4 * j < 336 by omega, show 5 + 4 * j < 336 by omega, show 36 + 36 * c + v (4 + 4 * j) < 336 by omega, show 48 + 36 * c + v (4 + 4 * j) < 336 by omega, f_X6_moves_125, q1, q2, hc0, Bool.false_eq_true]
      · have hc0 : chg v c j = true := by simp [chg, q2]
        simp (disch := omega) only [kd_0, kd_1, kd_39, kd_269, kd_273, kd_298, rf_0_0, rf_0_1, rf_0_2, rf_0_3, rf_0_4, rf_1_1, rf_1_2, rf_1_4, rf_1_6, rf_1_7, rf_39_0, rf_269_0, rf_269_5, rf_269_6, rf_298_0, rf_298_1, rf_298_3, rf_298_4, rf_298_6, rf_298_7, rf_298_8, rf_298_9, bnE, cbE, lj, ix_nI, inb_nI, n_lt, n_le, n_eq, n_div, n_rem, nI_add, pk_mul, decide_eq_true_eq, if_true, if_false, bI_0, bI_or, not_true, not_false_eq_true, ↓reduceIte, ux_s, ux_n, ux_o, place0, place1, place2, e0, e4, e5, eg, et, show 0 < 336 by omega, show ¬ v 0 ≤ j by omega, show 4 + 4 * j < 336 by omega, show 5 + 4 * j < 336 by omega, show 36 + 36 * c + v (4 + 4 * j) < 336 by omega, show 48 + 36 * c + v (4 + 4 * j) < 336 by omega, f_X6_moves_125, f_X6_moves_120, q1, q2, hc0]
    · have hc0 : chg v c j = true := by simp [chg, q1]
      simp (disch := omega) only [kd_0, kd_1, kd_39, kd_269, kd_273, kd_298, rf_0_0, rf_0_1, rf_0_2, rf_0_3, rf_0_4, rf_1_1, rf_1_2, rf_1_4, rf_1_6, rf_1_7, rf_39_0, rf_269_0, rf_269_5, rf_269_6, rf_298_0, rf_298_1, rf_298_3, rf_298_4, rf_298_6, rf_298_7, rf_298_8, rf_298_9, bnE, cbE, lj, ix_nI, inb_nI, n_lt, n_le, n_eq, n_div, n_rem, nI_add, pk_mul, decide_eq_true_eq, if_true, if_false, bI_0, bI_or, not_true, not_false_eq_true, ↓reduceIte, ux_s, ux_n, ux_o, place0, place1, place2, e0, e4, e5, eg, et, show 0 < 336 by omega, show ¬ v 0 ≤ j by omega, show 4 + 4 * j < 336 by omega, show 5 + 4 * j < 336 by omega, show 36 + 36 * c + v (4 + 4 * j) < 336 by omega, show 48 + 36 * c + v (4 + 4 * j) < 336 by omega, f_X6_moves_125, f_X6_moves_120, q1, hc0]
/-- a place behind a call -/
def pb (g t : Nat → Nat) (p : Nat) : Nat := g (p / 4) * 4 + (p + t (p / 4)) % 4
theorem pb_lt {g t w : Nat → Nat} (hB : Cb g t w) {p : Nat} (hp : p < 48) : pb g t p < 48 := by
  have := (hB (p / 4) (by omega)).1
  unfold pb
  omega
theorem moveC {σ : Sg} {k kc n : Nat} {pl g1 t1 w1 : Nat → Nat} (hk : kd k = 7) (hkc : kd kc = 0) (hk1 : k ≠ 1) (hl : n ≤ ln k) (hn : n ≤ 8) (hd : k < kc + 1 ∨ kc + 3 < k) (h0 : σ 1 0 = nI n) (hp : ∀ d, d < n → σ k d = nI (pl d) ∧ pl d < 48) (hC : Ca σ kc g1 t1 w1) (hB : Cb g1 t1 w1) : ∃ σ', f_X3_move 1 k kc σ = some (nI (cn (fun d => pb g1 t1 (pl d) != pl d) n), σ') ∧ (∀ d, d < n → σ' k d = nI (pb g1 t1 (pl d))) ∧ ∀ i, i ≠ k → σ' i = σ i := by
  rw [f_X3_move, if_pos kd_1, if_pos hk, if_pos hkc]
  have key := loopI (fun m j (q : Int32 × Sg) => f_X3_move_5 m 1 k kc q.1 (nI j) q.2) (fun j q => q.1 = nI (cn (fun d => pb g1 t1 (pl d) != pl d) j) ∧ (∀ d, d < n → q.2 k d = nI (if d < j then pb g1 t1 (pl d) else pl d)) ∧ ∀ i, i ≠ k → q.2 i = σ i) (fun q => q.1 = nI (cn (fun d => pb g1 t1 (pl d) != pl d) n) ∧ (∀ d, d < n → q.2 k d = nI (pb g1 t1 (pl d))) ∧ ∀ i, i ≠ k → q.2 i = σ i) n ?_ ?_ FU 0 (nI 0, σ) (by omega) (FU_gt (by omega)) ⟨rfl, fun d hd => by rw [if_neg (by omega)]; exact (hp d hd).1, fun i hi => rfl⟩
  · obtain ⟨⟨r, τ'⟩, e, rfl, h2, h3⟩ := key
    exact ⟨τ', e, h2, h3⟩
  · intro m q hI
    obtain ⟨x, τ⟩ := q
    obtain ⟨rfl, i2, i3⟩ := hI
    refine ex_of (a := (nI (cn (fun d => pb g1 t1 (pl d) != pl d) n), τ)) ?_ ⟨rfl, fun d hd => ?_, i3⟩
    · dsimp only at i3 ⊢
      have e0 : τ 1 0 = nI n := by rw [i3 1 (by omega)]; exact h0
      rw [f_X3_move_5, if_pos kd_1, if_pos hk, if_pos hkc]
      simp (disch := omega) only [kd_0, kd_1, kd_39, kd_269, kd_273, kd_298, rf_0_0, rf_0_1, rf_0_2, rf_0_3, rf_0_4, rf_1_1, rf_1_2, rf_1_4, rf_1_6, rf_1_7, rf_39_0, rf_269_0, rf_269_5, rf_269_6, rf_298_0, rf_298_1, rf_298_3, rf_298_4, rf_298_6, rf_298_7, rf_298_8, rf_298_9, bnE, cbE, lj, ix_nI, inb_nI, n_lt, n_le, n_eq, n_div, n_rem, nI_add, pk_mul, decide_eq_true_eq, if_true, if_false, bI_0, bI_or, not_true, not_false_eq_true, ↓reduceIte, e0, Nat.le_refl]
    · have := i2 d hd
      rw [if_pos hd] at this
      exact this
  · intro m j q hj hI
    obtain ⟨x, τ⟩ := q
    obtain ⟨rfl, i2, i3⟩ := hI
    dsimp only at i2 i3
    obtain ⟨p1, p2⟩ := hp j hj
    have ej := i2 j hj
    rw [if_neg (by omega)] at ej
    have e0 : τ 1 0 = nI n := by rw [i3 1 (by omega)]; exact h0
    have hCa : Ca τ kc g1 t1 w1 := fun s hs => by rw [i3 (kc + 1) (by omega), i3 (kc + 2) (by omega), i3 (kc + 3) (by omega)]; exact hC s hs
    have hb := pb_lt hB p2
    have epb : f_X0_placeBehind kc (nI (pl j)) τ = some (nI (pb g1 t1 (pl j)), τ) := pbehind hkc hCa hB p2
    refine stp (s' := (nI (cn (fun d => pb g1 t1 (pl d) != pl d) (j + 1)), up τ k j (nI (pb g1 t1 (pl j))))) ?_ ⟨rfl, fun d hd => ?_, fun i hi => by dsimp only; rw [up_o _ _ _ _ hi]; exact i3 i hi⟩
    · dsimp only
      rw [f_X3_move_5, if_pos kd_1, if_pos hk, if_pos hkc, cn]
      by_cases q1 : pb g1 t1 (pl j) = pl j
      · have q2 : (pb g1 t1 (pl j) != pl j) = false := by simp [q1]
        rw [q2]
        simp (disch := omega) only [kd_0, kd_1, kd_39, kd_269, kd_273, kd_298, rf_0_0, rf_0_1, rf_0_2, rf_0_3, rf_0_4, rf_1_1, rf_1_2, rf_1_4, rf_1_6, rf_1_7, rf_39_0, rf_269_0, rf_269_5, rf_269_6, rf_298_0, rf_298_1, rf_298_3, rf_298_4, rf_298_6, rf_298_7, rf_298_8, rf_298_9, bnE, cbE, lj, ix_nI, inb_nI, n_lt, n_le, n_eq, n_div, n_rem, nI_add, pk_mul, decide_eq_true_eq, if_true, if_false, bI_0, bI_or, not_true, not_false_eq_true, ↓reduceIte, e0, show ¬ n ≤ j by omega, show j < ln k by omega, ej, epb, q1, f_X3_move_39, hk, hkc, Bool.false_eq_true]
      · have q2 : (pb g1 t1 (pl j) != pl j) = true := by simp [q1]
        rw [q2]
        simp (disch := omega) only [kd_0, kd_1, kd_39, kd_269, kd_273, kd_298, rf_0_0, rf_0_1, rf_0_2, rf_0_3, rf_0_4, rf_1_1, rf_1_2, rf_1_4, rf_1_6, rf_1_7, rf_39_0, rf_269_0, rf_269_5, rf_269_6, rf_298_0, rf_298_1, rf_298_3, rf_298_4, rf_298_6, rf_298_7, rf_298_8, rf_298_9, bnE, cbE, lj, ix_nI, inb_nI, n_lt, n_le, n_eq, n_div, n_rem, nI_add, pk_mul, decide_eq_true_eq, if_true, if_false, bI_0, bI_or, not_true, not_false_eq_true, ↓reduceIte, e0, show ¬ n ≤ j by omega, show j < ln k by omega, ej, epb, q1, f_X3_move_39, hk, hkc]
    · dsimp only
      by_cases e : d = j
      · subst e; rw [ux_s, if_pos (by omega)]
      · rw [ux_n _ _ _ e, i2 d hd]
        by_cases q : d < j
        · rw [if_pos q, if_pos (by omega)]
        · rw [if_neg q, if_neg (by omega)]
