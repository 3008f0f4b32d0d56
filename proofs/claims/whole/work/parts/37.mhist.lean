/-! the reference's history -/
theorem cpy_succ (σ : Sg) (a b j : Nat) : up (cpy σ a 0 b 0 j) b j (σ a j) = cpy σ a 0 b 0 (j + 1) := by
  funext k i
  rw [up_a, cpy_at, cpy_at]
  by_cases h : k = b
  · by_cases h2 : i = j
    · subst h; subst h2; simp
    · by_cases h3 : i < j
      · simp [h, h2, h3, show i < j + 1 by omega]
      · simp [h, h2, h3, show ¬ i < j + 1 by omega]
  · simp [h]
theorem notes_eq (σ : Sg) : f_X6_notes 298 σ = some ((), cpy σ 299 0 301 0 336) := by
  have key := loopU (fun n j => f_X6_notes_2 n 298 (nI j) (cpy σ 299 0 301 0 j)) (fun _ => some ((), cpy σ 299 0 301 0 336)) 336 (by omega) ?_ ?_
  · rw [f_X6_notes, if_pos kd_298]
    have e : cpy σ 299 0 301 0 0 = σ := by funext k i; rw [cpy_at]; simp
    rw [e] at key
    exact key
  · intro n
    rw [f_X6_notes_2]
    simp (disch := omega) only [kd_0, kd_1, kd_39, kd_269, kd_273, kd_298, rf_0_0, rf_0_1, rf_0_2, rf_0_3, rf_0_4, rf_1_1, rf_1_2, rf_1_4, rf_1_6, rf_1_7, rf_39_0, rf_269_0, rf_269_5, rf_269_6, rf_298_0, rf_298_1, rf_298_3, rf_298_4, rf_298_6, rf_298_7, rf_298_8, rf_298_9, bn, cb_some, li, ix_nI, inb_nI, n_lt, n_le, n_eq, n_div, n_rem, nI_add, pk_mul, decide_eq_true_eq, if_true, if_false, bI_0, bI_or, not_true, not_false_eq_true, reduceIte, Nat.le_refl]
  · intro n j hj ih
    rw [f_X6_notes_2]
    simp (disch := omega) only [kd_0, kd_1, kd_39, kd_269, kd_273, kd_298, rf_0_0, rf_0_1, rf_0_2, rf_0_3, rf_0_4, rf_1_1, rf_1_2, rf_1_4, rf_1_6, rf_1_7, rf_39_0, rf_269_0, rf_269_5, rf_269_6, rf_298_0, rf_298_1, rf_298_3, rf_298_4, rf_298_6, rf_298_7, rf_298_8, rf_298_9, bn, cb_some, li, ix_nI, inb_nI, n_lt, n_le, n_eq, n_div, n_rem, nI_add, pk_mul, decide_eq_true_eq, if_true, if_false, bI_0, bI_or, not_true, not_false_eq_true, reduceIte, show ¬ 336 ≤ j by omega, hj]
    rw [show cpy σ 299 0 301 0 j 299 j = σ 299 j by rw [cpy_at]; simp, cpy_succ]
    exact ih
/-- the older states move down -/
def shS (σ : Sg) (j : Nat) : Sg := fun a b => if a = 300 ∧ b < j then σ 300 (b + 336) else σ a b
/-- the square now is laid behind them -/
def ptS (σ : Sg) (ks j : Nat) : Sg := fun a b => if a = 300 ∧ 336 * ks ≤ b ∧ b < 336 * ks + j then σ 299 (b - 336 * ks) else σ a b
theorem shS_o (σ : Sg) (j : Nat) {k : Nat} (h : k ≠ 300) : shS σ j k = σ k := by funext i; simp [shS, h]
theorem ptS_o (σ : Sg) (ks j : Nat) {k : Nat} (h : k ≠ 300) : ptS σ ks j k = σ k := by funext i; simp [ptS, h]
theorem keeps49 {σ : Sg} {ks : Nat} (h1 : σ 298 2 = nI ks) (hk : ks < 5) : f_X6_keeps_49 298 σ = some ((), up (ptS σ ks 336) 298 2 (nI (ks + 1))) := by
  have key := loopU (fun n j => f_X6_keeps_51 n 298 (nI j) (ptS σ ks j)) (fun _ => some ((), up (ptS σ ks 336) 298 2 (nI (ks + 1)))) 336 (by omega) ?_ ?_
  · rw [f_X6_keeps_49, if_pos kd_298]
    have e : ptS σ ks 0 = σ := by
      funext k i
      unfold ptS
      rw [if_neg (by omega)]
    rw [e] at key
    exact key
  · intro n
    rw [f_X6_keeps_51, ptS_o _ _ _ (by decide)]
    simp (disch := omega) only [kd_0, kd_1, kd_39, kd_269, kd_273, kd_298, rf_0_0, rf_0_1, rf_0_2, rf_0_3, rf_0_4, rf_1_1, rf_1_2, rf_1_4, rf_1_6, rf_1_7, rf_39_0, rf_269_0, rf_269_5, rf_269_6, rf_298_0, rf_298_1, rf_298_3, rf_298_4, rf_298_6, rf_298_7, rf_298_8, rf_298_9, bn, cb_some, li, ix_nI, inb_nI, n_lt, n_le, n_eq, n_div, n_rem, nI_add, pk_mul, decide_eq_true_eq, if_true, if_false, bI_0, bI_or, not_true, not_false_eq_true, reduceIte, Nat.le_refl, h1]
  · intro n j hj ih
    rw [f_X6_keeps_51, ptS_o _ _ _ (by decide)]
    simp (disch := omega) only [kd_0, kd_1, kd_39, kd_269, kd_273, kd_298, rf_0_0, rf_0_1, rf_0_2, rf_0_3, rf_0_4, rf_1_1, rf_1_2, rf_1_4, rf_1_6, rf_1_7, rf_39_0, rf_269_0, rf_269_5, rf_269_6, rf_298_0, rf_298_1, rf_298_3, rf_298_4, rf_298_6, rf_298_7, rf_298_8, rf_298_9, bn, cb_some, li, ix_nI, inb_nI, n_lt, n_le, n_eq, n_div, n_rem, nI_add, pk_mul, decide_eq_true_eq, if_true, if_false, bI_0, bI_or, not_true, not_false_eq_true, reduceIte, show ¬ 336 ≤ j by omega, hj, h1, show 336 * ks + j < 1680 by omega]
    rw [ptS_o _ _ _ (by decide)]
    have e : up (ptS σ ks j) 300 (336 * ks + j) (σ 299 j) = ptS σ ks (j + 1) := by
      funext k i
      rw [up_a]
      unfold ptS
      by_cases h : k = 300
      · subst h
        by_cases h2 : i = 336 * ks + j
        · subst h2
          rw [if_pos ⟨rfl, rfl⟩, if_pos (by omega), show 336 * ks + j - 336 * ks = j by omega]
        · rw [if_neg (fun q => h2 q.2)]
          by_cases h3 : 336 * ks ≤ i ∧ i < 336 * ks + j
          · rw [if_pos ⟨rfl, h3⟩, if_pos (by omega)]
          · rw [if_neg (fun q => h3 q.2), if_neg (by omega)]
      · rw [if_neg (fun q => h q.1), if_neg (fun q => h q.1), if_neg (fun q => h q.1)]
    rw [e]
    exact ih
theorem keeps10 {σ : Sg} (h1 : σ 298 2 = nI 5) : f_X6_keeps_10 FU 298 0 σ = f_X6_keeps_49 298 (up (shS σ 1344) 298 2 (nI 4)) := by
  have key := loopU (fun n j => f_X6_keeps_10 n 298 (nI j) (shS σ j)) (fun _ => f_X6_keeps_49 298 (up (shS σ 1344) 298 2 (nI 4))) 1344 (by omega) ?_ ?_
  · have e : shS σ 0 = σ := by
      funext k i
      unfold shS
      rw [if_neg (by omega)]
    rw [e] at key
    exact key
  · intro n
    rw [f_X6_keeps_10, shS_o _ _ (by decide)]
    simp (disch := omega) only [kd_0, kd_1, kd_39, kd_269, kd_273, kd_298, rf_0_0, rf_0_1, rf_0_2, rf_0_3, rf_0_4, rf_1_1, rf_1_2, rf_1_4, rf_1_6, rf_1_7, rf_39_0, rf_269_0, rf_269_5, rf_269_6, rf_298_0, rf_298_1, rf_298_3, rf_298_4, rf_298_6, rf_298_7, rf_298_8, rf_298_9, bn, cb_some, li, ix_nI, inb_nI, n_lt, n_le, n_eq, n_div, n_rem, nI_add, pk_mul, decide_eq_true_eq, if_true, if_false, bI_0, bI_or, not_true, not_false_eq_true, reduceIte, Nat.le_refl, h1, n_sub]
  · intro n j hj ih
    rw [f_X6_keeps_10]
    simp (disch := omega) only [kd_0, kd_1, kd_39, kd_269, kd_273, kd_298, rf_0_0, rf_0_1, rf_0_2, rf_0_3, rf_0_4, rf_1_1, rf_1_2, rf_1_4, rf_1_6, rf_1_7, rf_39_0, rf_269_0, rf_269_5, rf_269_6, rf_298_0, rf_298_1, rf_298_3, rf_298_4, rf_298_6, rf_298_7, rf_298_8, rf_298_9, bn, cb_some, li, ix_nI, inb_nI, n_lt, n_le, n_eq, n_div, n_rem, nI_add, pk_mul, decide_eq_true_eq, if_true, if_false, bI_0, bI_or, not_true, not_false_eq_true, reduceIte, show ¬ 1344 ≤ j by omega, show j + 336 < 1680 by omega, show j < 1680 by omega]
    have e : up (shS σ j) 300 j (shS σ j 300 (j + 336)) = shS σ (j + 1) := by
      funext k i
      rw [up_a]
      unfold shS
      by_cases h : k = 300
      · subst h
        by_cases h2 : i = j
        · subst h2
          rw [if_pos ⟨rfl, rfl⟩, if_neg (by omega), if_pos (by omega)]
        · rw [if_neg (fun q => h2 q.2)]
          by_cases h3 : i < j
          · rw [if_pos ⟨rfl, h3⟩, if_pos (by omega)]
          · rw [if_neg (fun q => h3 q.2), if_neg (by omega)]
      · rw [if_neg (fun q => h q.1), if_neg (fun q => h q.1), if_neg (fun q => h q.1)]
    rw [e]
    exact ih
theorem keepsM {σ : Sg} {v : Vt} {g : Int32} {hv : Nat → Vt} {hg : Nat → Int32} {ks : Nat} (hM : Mo (σ 299) v g) (hH : MH σ hv hg ks) (hk : ks ≤ 5) : ∃ σ', f_X6_keeps 298 σ = some ((), σ') ∧ MH σ' (push hv ks v) (push hg ks g) (if ks < 5 then ks + 1 else 5) ∧ (∀ k, k ≠ 298 → k ≠ 300 → σ' k = σ k) ∧ ∀ i, i ≠ 2 → σ' 298 i = σ 298 i := by
  obtain ⟨h1, h2⟩ := hH
  rw [f_X6_keeps, if_pos kd_298, h1, show (5 : Int32) = nI 5 from rfl]
  simp only [n_eq (show ks < 2147483648 by omega) (show 5 < 2147483648 by omega)]
  by_cases h5 : ks = 5
  · subst h5
    have e2 : (up (shS σ 1344) 298 2 (nI 4)) 298 2 = nI 4 := by simp [up_a]
    rw [if_pos rfl, keeps10 h1, keeps49 e2 (by omega)]
    refine ⟨_, rfl, ⟨by simp [up_a], fun j hj => ?_⟩, fun k ha hb => ?_, fun i hi => ?_⟩
    · have hp : push hv 5 v j = if j = 4 then v else hv (j + 1) := by simp [push]
      have hq : push hg 5 g j = if j = 4 then g else hg (j + 1) := by simp [push]
      have hj5 : j < 5 := by simpa using hj
      rw [hp, hq]
      by_cases e4 : j = 4
      · subst e4
        rw [if_pos rfl, if_pos rfl]
        have rd : ∀ k, k < 336 → (up (ptS (up (shS σ 1344) 298 2 (nI 4)) 4 336) 298 2 (nI (4 + 1))) 300 (336 * 4 + k) = σ 299 k := fun k hk => by
          rw [up_o _ _ _ _ (by decide)]
          unfold ptS
          rw [if_pos (by omega), up_o _ _ _ _ (by decide), shS_o _ _ (by decide), show 336 * 4 + k - 336 * 4 = k by omega]
        exact ⟨(rd 3 (by omega)).trans hM.1, fun k ha hb => (rd k ha).trans (hM.2 k ha hb)⟩
      · rw [if_neg e4, if_neg e4]
        have rd : ∀ k, k < 336 → (up (ptS (up (shS σ 1344) 298 2 (nI 4)) 4 336) 298 2 (nI (4 + 1))) 300 (336 * j + k) = σ 300 (336 * (j + 1) + k) := fun k hk => by
          rw [up_o _ _ _ _ (by decide)]
          unfold ptS
          rw [if_neg (by omega), up_o _ _ _ _ (by decide)]
          unfold shS
          rw [if_pos (by omega), show 336 * j + k + 336 = 336 * (j + 1) + k by omega]
        have := h2 (j + 1) (by omega)
        exact ⟨(rd 3 (by omega)).trans this.1, fun k ha hb => (rd k ha).trans (this.2 k ha hb)⟩
    · rw [up_o _ _ _ _ ha, ptS_o _ _ _ hb, up_o _ _ _ _ ha, shS_o _ _ hb]
    · rw [up_a, if_neg (by omega), ptS_o _ _ _ (by decide), up_a, if_neg (by omega), shS_o _ _ (by decide)]
  · rw [if_neg h5, keeps49 h1 (by omega)]
    have hlt : ks < 5 := by omega
    refine ⟨_, rfl, ⟨by simp [up_a, hlt], fun j hj => ?_⟩, fun k ha hb => ?_, fun i hi => ?_⟩
    · rw [if_pos hlt] at hj
      have hp : push hv ks v j = if j = ks then v else hv j := by simp [push, hlt]
      have hq : push hg ks g j = if j = ks then g else hg j := by simp [push, hlt]
      rw [hp, hq]
      by_cases e4 : j = ks
      · subst e4
        rw [if_pos rfl, if_pos rfl]
        have rd : ∀ k, k < 336 → (up (ptS σ j 336) 298 2 (nI (j + 1))) 300 (336 * j + k) = σ 299 k := fun k hk => by
          rw [up_o _ _ _ _ (by decide)]
          unfold ptS
          rw [if_pos (by omega), show 336 * j + k - 336 * j = k by omega]
        exact ⟨(rd 3 (by omega)).trans hM.1, fun k ha hb => (rd k ha).trans (hM.2 k ha hb)⟩
      · rw [if_neg e4, if_neg e4]
        have rd : ∀ k, k < 336 → (up (ptS σ ks 336) 298 2 (nI (ks + 1))) 300 (336 * j + k) = σ 300 (336 * j + k) := fun k hk => by
          rw [up_o _ _ _ _ (by decide)]
          unfold ptS
          rw [if_neg (by omega)]
        have := h2 j (by omega)
        exact ⟨(rd 3 (by omega)).trans this.1, fun k ha hb => (rd k ha).trans (this.2 k ha hb)⟩
    · rw [up_o _ _ _ _ ha, ptS_o _ _ _ hb]
    · rw [up_a, if_neg (by omega), ptS_o _ _ _ (by decide)]
/-- w and trial change places -/
def swS (σ : Sg) (j : Nat) : Sg := fun a b => if a = 299 ∧ b < j then σ 301 b else if a = 301 ∧ b < j then σ 299 b else σ a b
theorem done13 {σ : Sg} {r : Int32} : f_X6_done_13 FU 298 r 0 σ = cb (f_X6_keeps 298 (swS σ 336)) (fun _ τ => f_X6_done_58 FU 298 r 0 τ) := by
  have key := loopU (fun n j => f_X6_done_13 n 298 r (nI j) (swS σ j)) (fun _ => cb (f_X6_keeps 298 (swS σ 336)) (fun _ τ => f_X6_done_58 FU 298 r 0 τ)) 336 (by omega) ?_ ?_
  · have e : swS σ 0 = σ := by funext k i; simp [swS]
    rw [e] at key
    exact key
  · intro n
    rw [f_X6_done_13]
    simp (disch := omega) only [kd_0, kd_1, kd_39, kd_269, kd_273, kd_298, rf_0_0, rf_0_1, rf_0_2, rf_0_3, rf_0_4, rf_1_1, rf_1_2, rf_1_4, rf_1_6, rf_1_7, rf_39_0, rf_269_0, rf_269_5, rf_269_6, rf_298_0, rf_298_1, rf_298_3, rf_298_4, rf_298_6, rf_298_7, rf_298_8, rf_298_9, bn, cb_some, li, ix_nI, inb_nI, n_lt, n_le, n_eq, n_div, n_rem, nI_add, pk_mul, decide_eq_true_eq, if_true, if_false, bI_0, bI_or, not_true, not_false_eq_true, reduceIte, Nat.le_refl]
  · intro n j hj ih
    rw [f_X6_done_13]
    simp (disch := omega) only [kd_0, kd_1, kd_39, kd_269, kd_273, kd_298, rf_0_0, rf_0_1, rf_0_2, rf_0_3, rf_0_4, rf_1_1, rf_1_2, rf_1_4, rf_1_6, rf_1_7, rf_39_0, rf_269_0, rf_269_5, rf_269_6, rf_298_0, rf_298_1, rf_298_3, rf_298_4, rf_298_6, rf_298_7, rf_298_8, rf_298_9, bn, cb_some, li, ix_nI, inb_nI, n_lt, n_le, n_eq, n_div, n_rem, nI_add, pk_mul, decide_eq_true_eq, if_true, if_false, bI_0, bI_or, not_true, not_false_eq_true, reduceIte, show ¬ 336 ≤ j by omega, hj]
    have e : up (up (swS σ j) 299 j (swS σ j 301 j)) 301 j (swS σ j 299 j) = swS σ (j + 1) := by
      funext k i
      rw [up_a, up_a]
      unfold swS
      by_cases h : k = 299
      · subst h
        by_cases h2 : i = j
        · subst h2; simp
        · by_cases h3 : i < j
          · simp [h2, h3, show i < j + 1 by omega]
          · simp [h2, h3, show ¬ i < j + 1 by omega]
      · by_cases h' : k = 301
        · subst h'
          by_cases h2 : i = j
          · subst h2; simp
          · by_cases h3 : i < j
            · simp [h2, h3, show i < j + 1 by omega]
            · simp [h2, h3, show ¬ i < j + 1 by omega]
        · simp [h, h']
    rw [e]
    exact ih
theorem done58 {σ : Sg} {r : Int32} : f_X6_done_58 FU 298 r 0 σ = some (r, cpy σ 301 0 299 0 336) := by
  have key := loopU (fun n j => f_X6_done_58 n 298 r (nI j) (cpy σ 301 0 299 0 j)) (fun _ => some (r, cpy σ 301 0 299 0 336)) 336 (by omega) ?_ ?_
  · have e : cpy σ 301 0 299 0 0 = σ := by funext k i; rw [cpy_at]; simp
    rw [e] at key
    exact key
  · intro n
    rw [f_X6_done_58]
    simp (disch := omega) only [kd_0, kd_1, kd_39, kd_269, kd_273, kd_298, rf_0_0, rf_0_1, rf_0_2, rf_0_3, rf_0_4, rf_1_1, rf_1_2, rf_1_4, rf_1_6, rf_1_7, rf_39_0, rf_269_0, rf_269_5, rf_269_6, rf_298_0, rf_298_1, rf_298_3, rf_298_4, rf_298_6, rf_298_7, rf_298_8, rf_298_9, bn, cb_some, li, ix_nI, inb_nI, n_lt, n_le, n_eq, n_div, n_rem, nI_add, pk_mul, decide_eq_true_eq, if_true, if_false, bI_0, bI_or, not_true, not_false_eq_true, reduceIte, Nat.le_refl]
  · intro n j hj ih
    rw [f_X6_done_58]
    simp (disch := omega) only [kd_0, kd_1, kd_39, kd_269, kd_273, kd_298, rf_0_0, rf_0_1, rf_0_2, rf_0_3, rf_0_4, rf_1_1, rf_1_2, rf_1_4, rf_1_6, rf_1_7, rf_39_0, rf_269_0, rf_269_5, rf_269_6, rf_298_0, rf_298_1, rf_298_3, rf_298_4, rf_298_6, rf_298_7, rf_298_8, rf_298_9, bn, cb_some, li, ix_nI, inb_nI, n_lt, n_le, n_eq, n_div, n_rem, nI_add, pk_mul, decide_eq_true_eq, if_true, if_false, bI_0, bI_or, not_true, not_false_eq_true, reduceIte, show ¬ 336 ≤ j by omega, hj]
    rw [show cpy σ 301 0 299 0 j 301 j = σ 301 j by rw [cpy_at]; simp, cpy_succ]
    exact ih
theorem doneM {σ : Sg} {v v' : Vt} {g g' : Int32} {hv : Nat → Vt} {hg : Nat → Int32} {ks : Nat} {r : Int32} (hM : Mo (σ 299) v' g') (hT : Mo (σ 301) v g) (hH : MH σ hv hg ks) (hk : ks ≤ 5) (hr : -1 ≤ r) : ∃ σ', f_X6_done 298 r σ = some (r, σ') ∧ Mo (σ' 299) v' g' ∧ MH σ' (push hv ks v) (push hg ks g) (if ks < 5 then ks + 1 else 5) ∧ (∀ k, k ≠ 298 → k ≠ 299 → k ≠ 300 → k ≠ 301 → σ' k = σ k) ∧ ∀ i, i ≠ 2 → σ' 298 i = σ 298 i := by
  have e0 : ∀ k, k ≠ 299 → k ≠ 301 → swS σ 336 k = σ k := fun k h1 h2 => by funext i; simp [swS, h1, h2]
  have hM2 : Mo (swS σ 336 299) v g := ⟨by simpa [swS] using hT.1, fun k h1 h2 => by simp [swS, h1]; exact hT.2 k h1 h2⟩
  have hH2 : MH (swS σ 336) hv hg ks := by
    unfold MH
    rw [e0 298 (by decide) (by decide), e0 300 (by decide) (by decide)]
    exact hH
  obtain ⟨σ1, q1, q2, q3, q4⟩ := keepsM hM2 hH2 hk
  rw [f_X6_done, if_pos kd_298, if_pos hr, done13, q1, cb_some, done58]
  refine ⟨_, rfl, ?_, ?_, fun k a b c d => ?_, fun i hi => ?_⟩
  · have rd : ∀ k, k < 336 → cpy σ1 301 0 299 0 336 299 k = σ 299 k := fun k hk => by
      rw [cpy_at, if_pos ⟨rfl, hk⟩, q3 301 (by decide) (by decide)]
      simp [swS, hk]
    exact ⟨(rd 3 (by omega)).trans hM.1, fun k a b => (rd k a).trans (hM.2 k a b)⟩
  · have l0 : cpy σ1 301 0 299 0 336 298 = σ1 298 := cpy_o _ _ _ _ _ _ (by decide)
    have l1 : cpy σ1 301 0 299 0 336 300 = σ1 300 := cpy_o _ _ _ _ _ _ (by decide)
    unfold MH
    rw [l0, l1]
    exact q2
  · rw [cpy_o _ _ _ _ _ _ b, q3 k a c, e0 k b d]
  · rw [cpy_o _ _ _ _ _ _ (by decide), q4 i hi, e0 298 (by decide) (by decide)]

/-- a state comes back -/
def bkS (σ : Sg) (ks j : Nat) : Sg := fun a b => if a = 299 ∧ b < j then σ 300 (336 * ks + b) else σ a b
theorem backM {σ : Sg} {hv : Nat → Vt} {hg : Nat → Int32} {ks : Nat} (hH : MH σ hv hg ks) (hk : ks ≤ 5) (h0 : 0 < ks) : ∃ σ', f_X6_back 298 σ = some (nI (ks - 1), σ') ∧ Mo (σ' 299) (hv (ks - 1)) (hg (ks - 1)) ∧ MH σ' hv hg (ks - 1) ∧ (∀ k, k ≠ 298 → k ≠ 299 → σ' k = σ k) ∧ ∀ i, i ≠ 2 → σ' 298 i = σ 298 i := by
  obtain ⟨h1, h2⟩ := hH
  rw [f_X6_back, if_pos kd_298, h1, show (0 : Int32) = nI 0 from rfl]
  simp only [n_eq (show ks < 2147483648 by omega) (show 0 < 2147483648 by omega)]
  rw [if_neg (by omega), show (1 : Int32) = nI 1 from rfl, n_sub (by omega)]
  simp only [bn]
  have key := loopU (fun n j => f_X6_back_26 n 298 (nI j) (bkS (up σ 298 2 (nI (ks - 1))) (ks - 1) j)) (fun _ => some (nI (ks - 1), bkS (up σ 298 2 (nI (ks - 1))) (ks - 1) 336)) 336 (by omega) ?_ ?_
  · have e : bkS (up σ 298 2 (nI (ks - 1))) (ks - 1) 0 = up σ 298 2 (nI (ks - 1)) := by funext k i; simp [bkS]
    rw [e] at key
    refine ⟨_, key, ?_, ⟨by simp [bkS, up_a], fun j hj => ?_⟩, fun k a b => ?_, fun i hi => ?_⟩
    · have rd : ∀ k, k < 336 → bkS (up σ 298 2 (nI (ks - 1))) (ks - 1) 336 299 k = σ 300 (336 * (ks - 1) + k) := fun k hk => by simp [bkS, hk, up_a]
      have := h2 (ks - 1) (by omega)
      exact ⟨(rd 3 (by omega)).trans this.1, fun k a b => (rd k a).trans (this.2 k a b)⟩
    · have := h2 j (by omega)
      have rd : ∀ k, bkS (up σ 298 2 (nI (ks - 1))) (ks - 1) 336 300 k = σ 300 k := fun k => by simp [bkS, up_a]
      exact ⟨(rd _).trans this.1, fun k a b => (rd _).trans (this.2 k a b)⟩
    · funext i; simp [bkS, a, b, up_a]
    · simp [bkS, up_a, hi]
  · intro n
    rw [f_X6_back_26]
    simp (disch := omega) only [kd_0, kd_1, kd_39, kd_269, kd_273, kd_298, rf_0_0, rf_0_1, rf_0_2, rf_0_3, rf_0_4, rf_1_1, rf_1_2, rf_1_4, rf_1_6, rf_1_7, rf_39_0, rf_269_0, rf_269_5, rf_269_6, rf_298_0, rf_298_1, rf_298_3, rf_298_4, rf_298_6, rf_298_7, rf_298_8, rf_298_9, bn, cb_some, li, ix_nI, inb_nI, n_lt, n_le, n_eq, n_div, n_rem, nI_add, pk_mul, decide_eq_true_eq, if_true, if_false, bI_0, bI_or, not_true, not_false_eq_true, reduceIte, Nat.le_refl]
    simp [bkS, up_a]
  · intro n j hj ih
    rw [f_X6_back_26]
    have r0 : bkS (up σ 298 2 (nI (ks - 1))) (ks - 1) j 298 2 = nI (ks - 1) := by simp [bkS, up_a]
    rw [r0]
    simp (disch := omega) only [kd_0, kd_1, kd_39, kd_269, kd_273, kd_298, rf_0_0, rf_0_1, rf_0_2, rf_0_3, rf_0_4, rf_1_1, rf_1_2, rf_1_4, rf_1_6, rf_1_7, rf_39_0, rf_269_0, rf_269_5, rf_269_6, rf_298_0, rf_298_1, rf_298_3, rf_298_4, rf_298_6, rf_298_7, rf_298_8, rf_298_9, bn, cb_some, li, ix_nI, inb_nI, n_lt, n_le, n_eq, n_div, n_rem, nI_add, pk_mul, decide_eq_true_eq, if_true, if_false, bI_0, bI_or, not_true, not_false_eq_true, reduceIte, show ¬ 336 ≤ j by omega, hj, show 336 * (ks - 1) + j < 1680 by omega]
    have e : up (bkS (up σ 298 2 (nI (ks - 1))) (ks - 1) j) 299 j (bkS (up σ 298 2 (nI (ks - 1))) (ks - 1) j 300 (336 * (ks - 1) + j)) = bkS (up σ 298 2 (nI (ks - 1))) (ks - 1) (j + 1) := by
      funext k i
      rw [up_a]
      unfold bkS
      by_cases h : k = 299
      · subst h
        by_cases h2 : i = j
        · subst h2; simp
        · by_cases h3 : i < j
          · simp [h2, h3, show i < j + 1 by omega]
          · simp [h2, h3, show ¬ i < j + 1 by omega]
      · simp [h]
    rw [e]
    exact ih
/-! refusals -/
/-- which refusal an answer is -/
def rfk (a : Int32) : Option Nat := if a = -2 then some 0 else if a = -3 then some 1 else if a = -4 then some 2 else none
theorem notedC {σ : Sg} {k : Nat} {a : Int32} (h : rfk a = some k) : f_X5_noted 0 a σ = some (a, up σ 297 k (σ 297 k + 1)) := by
  unfold rfk at h
  by_cases h2 : a = -2
  · subst h2; cases h; rw [f_X5_noted, if_pos kd_0, rf_0_4]; rfl
  · rw [if_neg h2] at h
    by_cases h3 : a = -3
    · subst h3; cases h; rw [f_X5_noted, if_pos kd_0, rf_0_4]; rfl
    · rw [if_neg h3] at h
      by_cases h4 : a = -4
      · subst h4; cases h; rw [f_X5_noted, if_pos kd_0, rf_0_4]; rfl
      · rw [if_neg h4] at h; cases h
theorem notedN {σ : Sg} {a : Int32} (h : -1 ≤ a) : f_X5_noted 0 a σ = some (a, σ) := by
  rw [f_X5_noted, if_pos kd_0, if_pos]
  rw [Int32.lt_iff_toInt_lt]
  rw [Int32.le_iff_toInt_le] at h
  have e1 : (-1 : Int32).toInt = -1 := by decide
  have e2 : (-2 : Int32).toInt = -2 := by decide
  omega
theorem rfk_none {a : Int32} (h : rfk a = none) : a ≠ -2 ∧ a ≠ -3 ∧ a ≠ -4 := by
  unfold rfk at h
  refine ⟨fun e => ?_, fun e => ?_, fun e => ?_⟩
  · rw [if_pos e] at h; cases h
  · subst e; cases h
  · subst e; cases h
theorem rfk_out {a : Int32} (h : rfk a = none) : -1 ≤ a ∨ a ≤ -5 := by
  obtain ⟨h1, h2, h3⟩ := rfk_none h
  rw [Int32.le_iff_toInt_le, Int32.le_iff_toInt_le]
  have e1 : (-1 : Int32).toInt = -1 := by decide
  have e2 : (-2 : Int32).toInt = -2 := by decide
  have e3 : (-3 : Int32).toInt = -3 := by decide
  have e4 : (-4 : Int32).toInt = -4 := by decide
  have e5 : (-5 : Int32).toInt = -5 := by decide
  have f1 : a.toInt ≠ -2 := fun q => h1 (Int32.toInt_inj.mp (q.trans e2.symm))
  have f2 : a.toInt ≠ -3 := fun q => h2 (Int32.toInt_inj.mp (q.trans e3.symm))
  have f3 : a.toInt ≠ -4 := fun q => h3 (Int32.toInt_inj.mp (q.trans e4.symm))
  omega
theorem notedO {σ : Sg} {a : Int32} (h : rfk a = none) : f_X5_noted 0 a σ = some (a, σ) := by
  rcases rfk_out h with h1 | h1
  · exact notedN h1
  · rw [f_X5_noted, if_pos kd_0]
    rw [Int32.le_iff_toInt_le] at h1
    have e2 : (-2 : Int32).toInt = -2 := by decide
    have e4 : (-4 : Int32).toInt = -4 := by decide
    have e5 : (-5 : Int32).toInt = -5 := by decide
    rw [if_neg (by rw [Int32.lt_iff_toInt_lt]; omega), if_pos (by rw [Int32.lt_iff_toInt_lt]; omega)]
theorem refusedM {σ : Sg} {k : Nat} {a : Int32} (h : rfk a = some k) : f_X6_refused 298 a σ = some (a, up σ 302 k (σ 302 k + 1)) := by
  unfold rfk at h
  by_cases h2 : a = -2
  · subst h2; cases h; rw [f_X6_refused, if_pos kd_298, rf_298_4]; rfl
  · rw [if_neg h2] at h
    by_cases h3 : a = -3
    · subst h3; cases h; rw [f_X6_refused, if_pos kd_298, rf_298_4]; rfl
    · rw [if_neg h3] at h
      by_cases h4 : a = -4
      · subst h4; cases h; rw [f_X6_refused, if_pos kd_298, rf_298_4]; rfl
      · rw [if_neg h4] at h; cases h
theorem rfk_lt {a : Int32} {k : Nat} (h : rfk a = some k) : k < 3 ∧ ¬ -1 ≤ a ∧ ¬ a ≤ -5 ∧ ¬ 0 ≤ a ∧ a < 0 := by
  unfold rfk at h
  by_cases h2 : a = -2
  · subst h2; cases h; decide
  · rw [if_neg h2] at h
    by_cases h3 : a = -3
    · subst h3; cases h; decide
    · rw [if_neg h3] at h
      by_cases h4 : a = -4
      · subst h4; cases h; decide
      · rw [if_neg h4] at h; cases h
theorem countedM {σ : Sg} {k : Nat} {a : Int32} (h : rfk a = some k) : f_X6_counted 298 a σ = some (a, up σ 302 k (σ 302 k + 1)) := by
  obtain ⟨-, h1, h2, -⟩ := rfk_lt h
  rw [f_X6_counted, if_pos kd_298, if_neg h1, if_neg h2, refusedM h, cb_some]
theorem countedN {σ : Sg} {a : Int32} (h : -1 ≤ a) : f_X6_counted 298 a σ = some (a, σ) := by
  rw [f_X6_counted, if_pos kd_298, if_pos h]
theorem countedO {σ : Sg} {a : Int32} (h : rfk a = none) : f_X6_counted 298 a σ = some (a, σ) := by
  rcases rfk_out h with h1 | h1
  · exact countedN h1
  · rw [f_X6_counted, if_pos kd_298]
    by_cases h2 : -1 ≤ a
    · rw [if_pos h2]
    · rw [if_neg h2, if_pos h1]
theorem doneR {σ : Sg} {k : Nat} {a : Int32} (h : rfk a = some k) : f_X6_done 298 a σ = some (a, up σ 302 k (σ 302 k + 1)) := by
  obtain ⟨-, h1, -⟩ := rfk_lt h
  rw [f_X6_done, if_pos kd_298, if_neg h1, refusedM h, cb_some]
theorem CI_ref {σ : Sg} {v : Vt} {g : Int32} {hv : Nat → Vt} {hg : Nat → Int32} {ks tl : Nat} {tb : Nat → Nat} {rz : Nat → Int32} {k : Nat} (hV : VI v hv ks tl tb) (hk : k < 3) (h : CI σ v g hv hg ks tl tb rz) : CI (up σ 297 k (σ 297 k + 1)) v g hv hg ks tl tb (rzU rz k) := by
  obtain ⟨h1, ⟨nx, h2⟩, h3, h4, h5, h6⟩ := h
  refine ⟨Cl_loc h1 hV.1.2.1 (fun j a b => up_o _ _ _ _ (by omega)), ⟨nx, CH_loc h2 hV.2.2.1 (fun j a b => up_o _ _ _ _ (by omega))⟩, by rw [up_o _ _ _ _ (by decide)]; exact h3, by rw [up_o _ _ _ _ (by decide)]; exact h4, fun i hi => ?_, by rw [up_o _ _ _ _ (by decide)]; exact h6⟩
  rw [up_a]
  unfold rzU
  by_cases e : i = k
  · subst e; simp [h5 i hi]
  · simp [e, h5 i hi]
theorem MI_ref {σ : Sg} {v : Vt} {g : Int32} {hv : Nat → Vt} {hg : Nat → Int32} {ks tl : Nat} {tb : Nat → Nat} {rz : Nat → Int32} {k : Nat} (hk : k < 3) (h : MI σ v g hv hg ks tl tb rz) : MI (up σ 302 k (σ 302 k + 1)) v g hv hg ks tl tb (rzU rz k) := by
  obtain ⟨h1, h2, h3, h4, h5⟩ := h
  refine ⟨by rw [up_o _ _ _ _ (by decide)]; exact h1, ?_, by rw [up_o _ _ _ _ (by decide)]; exact h3, by rw [up_o _ _ _ _ (by decide)]; exact h4, fun i hi => ?_⟩
  · unfold MH
    rw [up_o _ _ _ _ (by decide), up_o _ _ _ _ (by decide)]
    exact h2
  · rw [up_a]
    unfold rzU
    by_cases e : i = k
    · subst e; simp [h5 i hi]
    · simp [e, h5 i hi]
