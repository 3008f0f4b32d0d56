theorem bI_0 (b : Bool) : (bI b = nI 0) = (b = false) := by cases b <;> simp [bI] <;> decide
theorem bI_1 (b : Bool) : (bI b = nI 1) = (b = true) := by cases b <;> simp [bI] <;> decide
theorem bI_or (b : Bool) : (bI b = nI 0 ∨ bI b = nI 1) = True := by cases b <;> simp [bI] <;> decide
theorem inb_ex {x : Int32} {N : Nat} (h : inb x N = true) (hN : N < 2147483648) : ∃ j, j < N ∧ x = nI j := vp_in_of (inb_in h) (by omega)
theorem inb_toInt (x : Int32) (N : Nat) : inb x N = decide (0 ≤ x.toInt ∧ x.toInt < (N : Int)) := rfl
theorem isb (x : Int32) {N : Nat} (hN : N < 2147483648) (σ : Sg) : f_X5_isBelow x (nI N) σ = some (bI (inb x N), σ) := by
  rw [f_X5_isBelow, inb_toInt]
  have e0 : (x < 0) ↔ x.toInt < 0 := Int32.lt_iff_toInt_lt
  have e1 : (nI N ≤ x) ↔ (N : Int) ≤ x.toInt := by rw [Int32.le_iff_toInt_le, nI_toInt (by omega)]
  by_cases h0 : x < 0
  · rw [if_pos h0, decide_eq_false (fun q => by have := e0.mp h0; omega)]
    rfl
  · rw [if_neg h0]
    by_cases h1 : nI N ≤ x
    · rw [if_pos h1, decide_eq_false (fun q => by have := e1.mp h1; omega)]
      rfl
    · rw [if_neg h1, decide_eq_true]
      · rfl
      · have a : ¬ x.toInt < 0 := fun q => h0 (e0.mpr q)
        have b : ¬ (N : Int) ≤ x.toInt := fun q => h1 (e1.mpr q)
        omega
theorem isI {x y : Int32} {N : Nat} (hy : y.toInt = (N : Int) - 1) (σ : Sg) : f_X6_isIn x 0 y σ = some (bI (inb x N), σ) := by
  rw [f_X6_isIn, inb_toInt]
  have e0 : (x < 0) ↔ x.toInt < 0 := Int32.lt_iff_toInt_lt
  have e1 : (y < x) ↔ (N : Int) ≤ x.toInt := by rw [Int32.lt_iff_toInt_lt, hy]; omega
  by_cases h0 : x < 0
  · rw [if_pos h0, decide_eq_false (fun q => by have := e0.mp h0; omega)]
    rfl
  · rw [if_neg h0]
    by_cases h1 : y < x
    · rw [if_pos h1, decide_eq_false (fun q => by have := e1.mp h1; omega)]
      rfl
    · rw [if_neg h1, decide_eq_true]
      · rfl
      · have a : ¬ x.toInt < 0 := fun q => h0 (e0.mpr q)
        have b : ¬ (N : Int) ≤ x.toInt := fun q => h1 (e1.mpr q)
        omega
theorem isSpot_eq (x : Int32) (σ : Sg) : f_X6_isSpot x σ = some (bI (inb x 12), σ) := by
  rw [f_X6_isSpot, isI (N := 12) (by decide), cb_some, show (0 : Int32) = nI 0 from rfl, show (1 : Int32) = nI 1 from rfl]
  simp only [bI_or, if_true]
theorem isCall_eq {σ : Sg} {v : Vt} {g : Int32} (hM : Mo (σ 299) v g) (hV : v 1 < 1000) (x : Int32) : f_X6_isCall 298 x σ = some (bI (inb x (v 1)), σ) := by
  rw [f_X6_isCall, if_pos kd_298, if_pos (by decide), rf_298_0, show ix 1 = 1 from rfl, hM.2 1 (by omega) (by omega), isI (N := v 1) (by rw [show (1 : Int32) = nI 1 from rfl, pk_sub_toInt (by omega) (by omega)]; rfl), cb_some, show (0 : Int32) = nI 0 from rfl, show (1 : Int32) = nI 1 from rfl]
  simp only [bI_or, if_true]
theorem isDancer_eq {σ : Sg} {v : Vt} {g : Int32} (hM : Mo (σ 299) v g) (hV : v 0 < 1000) (x : Int32) : f_X6_isDancer 298 x σ = some (bI (inb x (v 0)), σ) := by
  rw [f_X6_isDancer, if_pos kd_298, if_pos (by decide), rf_298_0, show ix 0 = 0 from rfl, hM.2 0 (by omega) (by omega), isI (N := v 0) (by rw [show (1 : Int32) = nI 1 from rfl, pk_sub_toInt (by omega) (by omega)]; rfl), cb_some, show (0 : Int32) = nI 0 from rfl, show (1 : Int32) = nI 1 from rfl]
  simp only [bI_or, if_true]
theorem place_eq (c s w : Nat) (σ : Sg) : f_X6_place 298 (nI c) (nI s) (nI w) σ = some (nI (36 + 36 * c + 12 * w + s), σ) := by
  rw [f_X6_place, if_pos kd_298]
  simp only [li, pk_mul, nI_add]
theorem whoM {σ : Sg} {v : Vt} {g : Int32} (hM : Mo (σ 299) v g) (hV : Va v) {s : Nat} (hs : s < 2147483648) : f_X6_who 298 (nI s) σ = some (oI (who v s), σ) := by
  have h8 := hV.1
  have key : f_X6_who_2 FU 298 (nI s) (nI 0) σ = some (oI (whoF v s (v 0 - 0) 0), σ) := loopU (fun n j => f_X6_who_2 n 298 (nI s) (nI j) σ) (fun j => some (oI (whoF v s (v 0 - j) j), σ)) (v 0) (by omega) ?_ ?_
  · rw [f_X6_who, if_pos kd_298]
    exact key
  · intro n
    rw [f_X6_who_2]
    simp (disch := omega) only [kd_0, kd_1, kd_39, kd_269, kd_273, kd_298, rf_0_0, rf_0_1, rf_0_2, rf_0_3, rf_0_4, rf_1_1, rf_1_2, rf_1_4, rf_1_6, rf_1_7, rf_39_0, rf_269_0, rf_269_5, rf_269_6, rf_298_0, rf_298_1, rf_298_3, rf_298_4, rf_298_6, rf_298_7, rf_298_8, rf_298_9, bn, cb_some, li, ix_nI, inb_nI, n_lt, n_le, n_eq, n_div, n_rem, nI_add, pk_mul, decide_eq_true_eq, if_true, if_false, bI_0, bI_or, not_true, not_false_eq_true, reduceIte, hM.2, show (0 : Nat) < 336 by omega, Nat.le_refl, Nat.sub_self]
    rfl
  · intro n j hj ih
    rw [f_X6_who_2]
    obtain ⟨b1, -⟩ := hV.2.2.2.1 j hj
    simp (disch := omega) only [kd_0, kd_1, kd_39, kd_269, kd_273, kd_298, rf_0_0, rf_0_1, rf_0_2, rf_0_3, rf_0_4, rf_1_1, rf_1_2, rf_1_4, rf_1_6, rf_1_7, rf_39_0, rf_269_0, rf_269_5, rf_269_6, rf_298_0, rf_298_1, rf_298_3, rf_298_4, rf_298_6, rf_298_7, rf_298_8, rf_298_9, bn, cb_some, li, ix_nI, inb_nI, n_lt, n_le, n_eq, n_div, n_rem, nI_add, pk_mul, decide_eq_true_eq, if_true, if_false, bI_0, bI_or, not_true, not_false_eq_true, reduceIte, hM.2, show (0 : Nat) < 336 by omega, show ¬ v 0 ≤ j by omega, show 4 + 4 * j < 336 by omega]
    rw [show v 0 - j = (v 0 - (j + 1)) + 1 by omega, whoF]
    by_cases h : v (4 + 4 * j) = s
    · rw [if_pos h, if_pos h]; rfl
    · rw [if_neg h, if_neg h]; exact ih
theorem whoC {σ : Sg} {v : Vt} {g : Int32} (hC : Cl σ 1 v g) (hV : Va v) {s : Nat} (hs : s < 12) : f_X3_whoIsOn 1 (nI s) σ = some (oI (who v s), σ) := by
  have h8 := hV.1
  rw [f_X3_whoIsOn, if_pos kd_1]
  exact who_cls hC hV s hs (v 0) FU 0 (by omega) (FU_gt (by omega))
/-- is a spot somebody's home -/
def homeF (v : Vt) (s : Nat) : Nat → Nat → Bool
  | 0, _ => false
  | n + 1, j => if v (6 + 4 * j) = s then true else homeF v s n (j + 1)
theorem homeC {σ : Sg} {v : Vt} {g : Int32} (hC : Cl σ 1 v g) (hV : Va v) {s : Nat} (hs : s < 12) : f_X3_isHome 1 (nI s) σ = some (bI (homeF v s (v 0) 0), σ) := by
  have h8 := hV.1
  have key : f_X3_isHome_2 FU 1 (nI s) (nI 0) σ = some (bI (homeF v s (v 0 - 0) 0), σ) := loopU (fun n j => f_X3_isHome_2 n 1 (nI s) (nI j) σ) (fun j => some (bI (homeF v s (v 0 - j) j), σ)) (v 0) (by omega) ?_ ?_
  · rw [f_X3_isHome, if_pos kd_1]
    exact key
  · intro n
    rw [f_X3_isHome_2]
    simp (disch := omega) only [kd_0, kd_1, kd_39, kd_269, kd_273, kd_298, rf_0_0, rf_0_1, rf_0_2, rf_0_3, rf_0_4, rf_1_1, rf_1_2, rf_1_4, rf_1_6, rf_1_7, rf_39_0, rf_269_0, rf_269_5, rf_269_6, rf_298_0, rf_298_1, rf_298_3, rf_298_4, rf_298_6, rf_298_7, rf_298_8, rf_298_9, bn, cb_some, li, ix_nI, inb_nI, n_lt, n_le, n_eq, n_div, n_rem, nI_add, pk_mul, decide_eq_true_eq, if_true, if_false, bI_0, bI_or, not_true, not_false_eq_true, reduceIte, hC.1, Nat.le_refl, Nat.sub_self]
    rfl
  · intro n j hj ih
    rw [f_X3_isHome_2]
    have hd := (hC.2.2.2.2.1 j (by omega)).2
    obtain ⟨-, -, v1, v2⟩ := hV.2.2.2.1 j (by omega)
    simp (disch := omega) only [kd_0, kd_1, kd_39, kd_269, kd_273, kd_298, rf_0_0, rf_0_1, rf_0_2, rf_0_3, rf_0_4, rf_1_1, rf_1_2, rf_1_4, rf_1_6, rf_1_7, rf_39_0, rf_269_0, rf_269_5, rf_269_6, rf_298_0, rf_298_1, rf_298_3, rf_298_4, rf_298_6, rf_298_7, rf_298_8, rf_298_9, bn, cb_some, li, ix_nI, inb_nI, n_lt, n_le, n_eq, n_div, n_rem, nI_add, pk_mul, decide_eq_true_eq, if_true, if_false, bI_0, bI_or, not_true, not_false_eq_true, reduceIte, hC.1, show ¬ v 0 ≤ j by omega, show j < 8 by omega, hd, show (v (6 + 4 * j) * 4 + v (7 + 4 * j)) / 4 = v (6 + 4 * j) by omega]
    rw [show v 0 - j = (v 0 - (j + 1)) + 1 by omega, homeF]
    by_cases h : v (6 + 4 * j) = s
    · rw [if_pos h, if_pos h]; rfl
    · rw [if_neg h, if_neg h]; exact ih
