/-! the plan followed; places held and brought back -/
def AG (u v : Vt) : Prop := ∀ k, (k < 4 ∨ 36 ≤ k ∨ 2 ≤ k % 4) → u k = v k
theorem AG_mv {u v : Vt} {c : Nat} (h : AG u v) (h0 : v 0 ≤ 8) : AG (mvv u c) v := fun k hk => by
  have : u 0 = v 0 := h 0 (by omega)
  unfold mvv
  rw [mvJ_o _ _ _ (by omega)]
  exact h k hk
theorem AG_refl (v : Vt) : AG v v := fun _ _ => rfl
theorem AG_go {u v : Vt} (h : AG u v) (c : Nat) : go u c = go v c ∧ tu u c = tu v c ∧ wa u c = wa v c := by
  refine ⟨?_, ?_, ?_⟩
  · funext s; exact h _ (by omega)
  · funext s; exact h _ (by omega)
  · funext s; exact h _ (by omega)
/-- a depth of stood holds the places in v -/
def HS (σ : Sg) (p : Nat) (v : Vt) : Prop := ∀ d, d < 8 → σ 304 (16 * p + 2 * d) = nI (v (4 + 4 * d)) ∧ σ 304 (16 * p + 2 * d + 1) = nI (v (5 + 4 * d))
theorem holdsM {σ : Sg} {v : Vt} {g : Int32} {p : Nat} (hM : Mo (σ 299) v g) (hp : p ≤ 5) : ∃ σ', f_X6_holds 298 (nI p) σ = some ((), σ') ∧ HS σ' p v ∧ (∀ i, (i < 16 * p ∨ 16 * p + 16 ≤ i) → σ' 304 i = σ 304 i) ∧ ∀ k, k ≠ 304 → σ' k = σ k := by
  rw [f_X6_holds, if_pos kd_298]
  have key := loopI (fun n j τ => f_X6_holds_2 n 298 (nI p) (nI j) τ) (fun j τ => (∀ d, d < j → τ 304 (16 * p + 2 * d) = nI (v (4 + 4 * d)) ∧ τ 304 (16 * p + 2 * d + 1) = nI (v (5 + 4 * d))) ∧ (∀ i, (i < 16 * p ∨ 16 * p + 16 ≤ i) → τ 304 i = σ 304 i) ∧ ∀ k, k ≠ 304 → τ k = σ k) (fun q => HS q.2 p v ∧ (∀ i, (i < 16 * p ∨ 16 * p + 16 ≤ i) → q.2 304 i = σ 304 i) ∧ ∀ k, k ≠ 304 → q.2 k = σ k) 8 ?_ ?_ FU 0 σ (by omega) (FU_gt (by omega)) ⟨fun d hd => absurd hd (Nat.not_lt_zero _), fun i _ => rfl, fun k _ => rfl⟩
  · obtain ⟨⟨⟨⟩, τ'⟩, e, h2, h3, h4⟩ := key
    exact ⟨τ', e, h2, h3, h4⟩
  · intro n τ hI
    refine ex_of (a := ((), τ)) ?_ hI
    rw [f_X6_holds_2, if_pos kd_298]
    simp (disch := omega) only [kd_0, kd_1, kd_39, kd_269, kd_273, kd_298, rf_0_0, rf_0_1, rf_0_2, rf_0_3, rf_0_4, rf_1_1, rf_1_2, rf_1_4, rf_1_6, rf_1_7, rf_39_0, rf_269_0, rf_269_5, rf_269_6, rf_298_0, rf_298_1, rf_298_3, rf_298_4, rf_298_6, rf_298_7, rf_298_8, rf_298_9, bnE, cbE, lj, ix_nI, inb_nI, n_lt, n_le, n_eq, n_div, n_rem, nI_add, pk_mul, decide_eq_true_eq, if_true, if_false, bI_0, bI_or, not_true, not_false_eq_true, ↓reduceIte, Nat.le_refl]
  · intro n j τ hj hI
    obtain ⟨i1, i2, i3⟩ := hI
    have e4 : τ 299 (4 + 4 * j) = nI (v (4 + 4 * j)) := by rw [i3 299 (by omega)]; exact hM.2 _ (by omega) (by omega)
    have e5 : τ 299 (5 + 4 * j) = nI (v (5 + 4 * j)) := by rw [i3 299 (by omega)]; exact hM.2 _ (by omega) (by omega)
    refine stp (s' := up (up τ 304 (16 * p + 2 * j) (nI (v (4 + 4 * j)))) 304 (16 * p + 2 * j + 1) (nI (v (5 + 4 * j)))) ?_ ⟨fun d hd => ?_, fun i hi => ?_, fun k hk => by rw [up_o _ _ _ _ hk, up_o _ _ _ _ hk]; exact i3 k hk⟩
    · rw [f_X6_holds_2, if_pos kd_298]
      simp (disch := omega) only [kd_0, kd_1, kd_39, kd_269, kd_273, kd_298, rf_0_0, rf_0_1, rf_0_2, rf_0_3, rf_0_4, rf_1_1, rf_1_2, rf_1_4, rf_1_6, rf_1_7, rf_39_0, rf_269_0, rf_269_5, rf_269_6, rf_298_0, rf_298_1, rf_298_3, rf_298_4, rf_298_6, rf_298_7, rf_298_8, rf_298_9, bnE, cbE, lj, ix_nI, inb_nI, n_lt, n_le, n_eq, n_div, n_rem, nI_add, pk_mul, decide_eq_true_eq, if_true, if_false, bI_0, bI_or, not_true, not_false_eq_true, ↓reduceIte, ux_s, ux_n, ux_o, show ¬ 8 ≤ j by omega, e4, e5, show 4 + 4 * j < 336 by omega, show 5 + 4 * j < 336 by omega, show 16 * p + 2 * j < 96 by omega, show 16 * p + 2 * j + 1 < 96 by omega]
    · by_cases e : d = j
      · subst e; rw [ux_n _ _ _ (by omega), ux_s, ux_s]; exact ⟨rfl, rfl⟩
      · rw [ux_n _ _ _ (by omega), ux_n _ _ _ (by omega), ux_n _ _ _ (by omega), ux_n _ _ _ (by omega)]; exact i1 d (by omega)
    · rw [ux_n _ _ _ (by omega), ux_n _ _ _ (by omega)]; exact i2 i hi
/-- the first j dancers' places out of v, the rest out of u -/
def reJ (u v : Vt) (j : Nat) : Vt := fun k => if 4 ≤ k ∧ k < 4 + 4 * j ∧ k % 4 < 2 then v k else u k
theorem reJ_u (u v : Vt) (j : Nat) : vu (vu (reJ u v j) (4 + 4 * j) (v (4 + 4 * j))) (5 + 4 * j) (v (5 + 4 * j)) = reJ u v (j + 1) := by
  funext k
  by_cases e1 : k = 5 + 4 * j
  · subst e1; rw [vu_s]; unfold reJ; rw [if_pos (by omega)]
  · rw [vu_n _ _ e1]
    by_cases e2 : k = 4 + 4 * j
    · subst e2; rw [vu_s]; unfold reJ; rw [if_pos (by omega)]
    · rw [vu_n _ _ e2]
      unfold reJ
      by_cases q1 : 4 ≤ k ∧ k < 4 + 4 * j ∧ k % 4 < 2
      · rw [if_pos q1, if_pos (by omega)]
      · rw [if_neg q1, if_neg (by omega)]
theorem returnsM {σ : Sg} {u v : Vt} {g : Int32} {p : Nat} (hM : Mo (σ 299) u g) (hH : HS σ p v) (hA : AG u v) (hp : p ≤ 5) : ∃ σ', f_X6_returns 298 (nI p) σ = some ((), σ') ∧ Mo (σ' 299) v g ∧ ∀ k, k ≠ 299 → σ' k = σ k := by
  rw [f_X6_returns, if_pos kd_298]
  have e8 : reJ u v 8 = v := by
    funext k
    unfold reJ
    by_cases q : 4 ≤ k ∧ k < 4 + 4 * 8 ∧ k % 4 < 2
    · rw [if_pos q]
    · rw [if_neg q]; exact hA k (by omega)
  have key := loopI (fun n j τ => f_X6_returns_2 n 298 (nI p) (nI j) τ) (fun j τ => Mo (τ 299) (reJ u v j) g ∧ ∀ k, k ≠ 299 → τ k = σ k) (fun q => Mo (q.2 299) v g ∧ ∀ k, k ≠ 299 → q.2 k = σ k) 8 ?_ ?_ FU 0 σ (by omega) (FU_gt (by omega)) ⟨by rw [show reJ u v 0 = u by funext k; unfold reJ; rw [if_neg (by omega)]]; exact hM, fun k _ => rfl⟩
  · obtain ⟨⟨⟨⟩, τ'⟩, e, h2, h3⟩ := key
    exact ⟨τ', e, h2, h3⟩
  · intro n τ hI
    rw [e8] at hI
    refine ex_of (a := ((), τ)) ?_ hI
    rw [f_X6_returns_2, if_pos kd_298]
    simp (disch := omega) only [kd_0, kd_1, kd_39, kd_269, kd_273, kd_298, rf_0_0, rf_0_1, rf_0_2, rf_0_3, rf_0_4, rf_1_1, rf_1_2, rf_1_4, rf_1_6, rf_1_7, rf_39_0, rf_269_0, rf_269_5, rf_269_6, rf_298_0, rf_298_1, rf_298_3, rf_298_4, rf_298_6, rf_298_7, rf_298_8, rf_298_9, bnE, cbE, lj, ix_nI, inb_nI, n_lt, n_le, n_eq, n_div, n_rem, nI_add, pk_mul, decide_eq_true_eq, if_true, if_false, bI_0, bI_or, not_true, not_false_eq_true, ↓reduceIte, Nat.le_refl]
  · intro n j τ hj hI
    obtain ⟨i1, i3⟩ := hI
    obtain ⟨a1, a2⟩ := hH j hj
    rw [← i3 304 (by omega)] at a1 a2
    have hM2 := Mo_up (Mo_up i1 (k := 4 + 4 * j) (x := v (4 + 4 * j)) (by omega)) (k := 5 + 4 * j) (x := v (5 + 4 * j)) (by omega)
    rw [reJ_u] at hM2
    refine stp (s' := up (up τ 299 (4 + 4 * j) (nI (v (4 + 4 * j)))) 299 (5 + 4 * j) (nI (v (5 + 4 * j)))) ?_ ⟨hM2, fun k hk => by rw [up_o _ _ _ _ hk, up_o _ _ _ _ hk]; exact i3 k hk⟩
    rw [f_X6_returns_2, if_pos kd_298]
    simp (disch := omega) only [kd_0, kd_1, kd_39, kd_269, kd_273, kd_298, rf_0_0, rf_0_1, rf_0_2, rf_0_3, rf_0_4, rf_1_1, rf_1_2, rf_1_4, rf_1_6, rf_1_7, rf_39_0, rf_269_0, rf_269_5, rf_269_6, rf_298_0, rf_298_1, rf_298_3, rf_298_4, rf_298_6, rf_298_7, rf_298_8, rf_298_9, bnE, cbE, lj, ix_nI, inb_nI, n_lt, n_le, n_eq, n_div, n_rem, nI_add, pk_mul, decide_eq_true_eq, if_true, if_false, bI_0, bI_or, not_true, not_false_eq_true, ↓reduceIte, ux_s, ux_n, ux_o, show ¬ 8 ≤ j by omega, a1, a2, show 4 + 4 * j < 336 by omega, show 5 + 4 * j < 336 by omega, show 16 * p + 2 * j < 96 by omega, show 16 * p + 2 * j + 1 < 96 by omega]
/-- the plan from its place i on -/
def wkF : Vt → Nat → Nat → Vt × Option Nat
  | u, 0, _ => (u, none)
  | u, n + 1, i => if fitV u (u (324 + i)) then wkF (mvv u (u (324 + i))) n (i + 1) else (u, some i)
theorem walks7 {σ : Sg} {v : Vt} {g : Int32} (hM : Mo (σ 299) v g) (hV : Va v) : ∃ σ', f_X6_walks_7 FU 298 0 σ = some (oI (wkF v (v 2) 0).2, σ') ∧ Mo (σ' 299) (wkF v (v 2) 0).1 g ∧ AG (wkF v (v 2) 0).1 v ∧ Va (wkF v (v 2) 0).1 ∧ ∀ k, k ≠ 299 → σ' k = σ k := by
  have h0 := hV.1
  have h2 := hV.2.2.1
  have key := loopI (fun n j τ => f_X6_walks_7 n 298 (nI j) τ) (fun j τ => ∃ u, Mo (τ 299) u g ∧ Va u ∧ AG u v ∧ wkF u (v 2 - j) j = wkF v (v 2) 0 ∧ ∀ k, k ≠ 299 → τ k = σ k) (fun q => q.1 = oI (wkF v (v 2) 0).2 ∧ Mo (q.2 299) (wkF v (v 2) 0).1 g ∧ AG (wkF v (v 2) 0).1 v ∧ Va (wkF v (v 2) 0).1 ∧ ∀ k, k ≠ 299 → q.2 k = σ k) (v 2) ?_ ?_ FU 0 σ (by omega) (FU_gt (by omega)) ⟨v, hM, hV, AG_refl v, rfl, fun k _ => rfl⟩
  · obtain ⟨⟨r, τ'⟩, e, rfl, q⟩ := key
    exact ⟨τ', e, q⟩
  · intro n τ hI
    obtain ⟨u, i1, i2, i3, i4, i5⟩ := hI
    rw [Nat.sub_self, wkF] at i4
    refine ex_of (a := (-1, τ)) ?_ ⟨by rw [← i4]; rfl, by rw [← i4]; exact i1, by rw [← i4]; exact i3, by rw [← i4]; exact i2, i5⟩
    have e2 : τ 299 2 = nI (v 2) := by rw [i1.2 2 (by omega) (by omega), i3 2 (by omega)]
    rw [f_X6_walks_7, if_pos kd_298, if_pos (by decide), rf_298_0, show ix 2 = 2 from rfl, e2, if_pos (by rw [n_le (by omega) (by omega)]; omega)]
  · intro n j τ hj hI
    obtain ⟨u, i1, i2, i3, i4, i5⟩ := hI
    have e2 : τ 299 2 = nI (v 2) := by rw [i1.2 2 (by omega) (by omega), i3 2 (by omega)]
    have ep : τ 299 (324 + j) = nI (u (324 + j)) := i1.2 _ (by omega) (by omega)
    have hc : u (324 + j) < u 1 := i2.2.2.2.2.2.2 j (by rw [i3 2 (by omega)]; exact hj)
    rw [show v 2 - j = (v 2 - (j + 1)) + 1 by omega, wkF] at i4
    have est : f_X6_walks_7 (n + 1) 298 (nI j) τ = if bI (fitV u (u (324 + j))) = 0 then some (nI j, τ) else cb (f_X6_moves 298 (nI (u (324 + j))) τ) (fun a6 τ7 => f_X6_walks_7 n 298 (nI (j + 1)) τ7) := by
      rw [f_X6_walks_7, if_pos kd_298, if_pos (by decide), rf_298_0, show ix 2 = 2 from rfl, e2, if_neg (by rw [n_le (by omega) (by omega)]; omega), show (324 : Int32) = nI 324 from rfl, nI_add, if_pos (by rw [inb_nI (by omega)]; exact decide_eq_true (by omega)), ix_nI (by omega), ep]
      simp only [bnE]
      rw [fitsM i1 i2 hc, cb_some, show (1 : Int32) = nI 1 from rfl, nI_add]
      rfl
    cases hf : fitV u (u (324 + j)) with
    | false =>
      rw [hf, if_neg (by simp)] at i4
      rw [hf, if_pos bf] at est
      exact Or.inr ⟨_, est, by rw [← i4]; rfl, by rw [← i4]; exact i1, by rw [← i4]; exact i3, by rw [← i4]; exact i2, i5⟩
    | true =>
      rw [hf, if_pos rfl] at i4
      obtain ⟨τ', e, q1, q2⟩ := movesM i1 i2 hc
      rw [hf, if_neg bt, e, cb_some] at est
      exact Or.inl ⟨τ', est, mvv u (u (324 + j)), q1, Va_mv i2 hc, AG_mv i3 h0, i4, fun k hk => by rw [q2 k hk]; exact i5 k hk⟩
theorem Cl_6 {σ τ : Sg} {v : Vt} {g : Int32} (hC : Cl σ 1 v g) (h : ∀ k, k ≠ 6 → τ k = σ k) : Cl τ 1 v g := by
  obtain ⟨c0, c3, c5, c8, cd, cc, cp⟩ := hC
  refine ⟨by rw [h 1 (by omega)]; exact c0, by rw [h 1 (by omega)]; exact c3, by rw [h 1 (by omega)]; exact c5, by rw [h 1 (by omega)]; exact c8, fun d hd => ?_, fun c hc s hs => ?_, fun i hi => ?_⟩
  · rw [h (1 + 1) (by omega), h (1 + 2) (by omega)]; exact cd d hd
  · rw [h _ (by omega), h _ (by omega), h _ (by omega)]; exact cc c hc s hs
  · rw [h (1 + 4) (by omega)]; exact cp i hi
theorem followC {σ : Sg} {v : Vt} {g : Int32} (hC : Cl σ 1 v g) (hV : Va v) : ∃ σ', f_X3_followPlan 1 σ = some (oI (wkF v (v 2) 0).2, σ') ∧ (∀ d, d < v 0 → σ' 6 d = nI (plv (wkF v (v 2) 0).1 d)) ∧ ∀ k, k ≠ 6 → σ' k = σ k := by
  have h0 := hV.1
  have h1 := hV.2.1
  have h2 := hV.2.2.1
  rw [f_X3_followPlan, if_pos kd_1, rf_1_1, rf_1_7]
  simp only [bnE]
  have key := loopI (fun n j τ => f_X3_followPlan_17 n 1 (nI j) τ) (fun j τ => ∃ u, Va u ∧ AG u v ∧ (∀ d, d < v 0 → τ 6 d = nI (plv u d)) ∧ wkF u (v 2 - j) j = wkF v (v 2) 0 ∧ ∀ k, k ≠ 6 → τ k = σ k) (fun q => q.1 = oI (wkF v (v 2) 0).2 ∧ (∀ d, d < v 0 → q.2 6 d = nI (plv (wkF v (v 2) 0).1 d)) ∧ ∀ k, k ≠ 6 → q.2 k = σ k) (v 2) ?_ ?_ FU 0 (cpy σ 2 0 6 0 8) (by omega) (FU_gt (by omega)) ⟨v, hV, AG_refl v, fun d hd => by rw [cpy_at, if_pos ⟨rfl, by omega⟩]; exact (hC.2.2.2.2.1 d hd).1, rfl, fun k hk => cpy_o _ _ _ _ _ _ hk⟩
  · obtain ⟨⟨r, τ'⟩, e, rfl, q⟩ := key
    exact ⟨τ', e, q⟩
  · intro n τ hI
    obtain ⟨u, i1, i2, i3, i4, i5⟩ := hI
    rw [Nat.sub_self, wkF] at i4
    refine ex_of (a := (-1, τ)) ?_ ⟨by rw [← i4]; rfl, by rw [← i4]; exact i3, i5⟩
    have e5 : τ 1 5 = nI (v 2) := by rw [i5 1 (by omega)]; exact hC.2.2.1
    rw [f_X3_followPlan_17, if_pos kd_1, e5, if_pos (by rw [n_le (by omega) (by omega)]; omega)]
  · intro n j τ hj hI
    obtain ⟨u, i1, i2, i3, i4, i5⟩ := hI
    have hCt := Cl_6 hC i5
    have e5 : τ 1 5 = nI (v 2) := hCt.2.2.1
    have ep : τ 5 j = nI (u (324 + j)) := by rw [i2 _ (by omega)]; exact hCt.2.2.2.2.2.2 j hj
    have e0 : τ 1 0 = nI (u 0) := by rw [i2 0 (by omega)]; exact hCt.1
    have hc' : u (324 + j) < u 1 := i1.2.2.2.2.2.2 j (by rw [i2 2 (by omega)]; exact hj)
    have hc : u (324 + j) < v 1 := by rw [← i2 1 (by omega)]; exact hc'
    obtain ⟨r0, r1, -⟩ := c_at (show u (324 + j) < 8 by omega)
    rw [show v 2 - j = (v 2 - (j + 1)) + 1 by omega, wkF] at i4
    have hu0 : u 0 = v 0 := i2 0 (by omega)
    obtain ⟨g1, g2, g3⟩ := AG_go i2 (u (324 + j))
    have est : f_X3_followPlan_17 (n + 1) 1 (nI j) τ = if bI (fitV u (u (324 + j))) = 0 then some (nI j, τ) else cb (f_X3_move 1 6 (7 + 4 * u (324 + j)) τ) (fun a7 τ8 => f_X3_followPlan_17 n 1 (nI (j + 1)) τ8) := by
      rw [f_X3_followPlan_17, if_pos kd_1, e5, if_neg (by rw [n_le (by omega) (by omega)]; omega), if_pos (by rw [inb_nI (by omega)]; exact decide_eq_true (by omega)), rf_1_6, rf_1_7, rf_1_4, ix_nI (by omega), ep, if_pos (by rw [inb_nI (by omega)]; exact decide_eq_true (by omega)), ix_nI (by omega), r0, e0, heldV i1 kd_2.2.2.1 kd_2.2.2.2 (fun d hd => i3 d (by rw [← hu0]; exact hd)), cb_some, fitC hCt hV hc, cb_some, show (1 : Int32) = nI 1 from rfl, nI_add]
      unfold fitV
      rw [g3]
    cases hf : fitV u (u (324 + j)) with
    | false =>
      rw [hf, if_neg (by simp)] at i4
      rw [hf, if_pos bf] at est
      exact Or.inr ⟨_, est, by rw [← i4]; rfl, by rw [← i4]; exact i3, i5⟩
    | true =>
      rw [hf, if_pos rfl] at i4
      obtain ⟨τ', e, q1, q2⟩ := moveC (σ := τ) (pl := plv u) (n := v 0) kd_2.2.2.1 r1 (by omega) (by rw [kd_2.2.2.2]; exact h0) h0 (by omega) hCt.1 (fun d hd => ⟨i3 d hd, by obtain ⟨b1, b2, -⟩ := i1.2.2.2.1 d (by rw [hu0]; exact hd); unfold plv; omega⟩) (Ca_of hCt hc) (Cb_of hV hc)
      rw [hf, if_neg bt, e, cb_some] at est
      refine Or.inl ⟨τ', est, mvv u (u (324 + j)), Va_mv i1 hc', AG_mv i2 h0, fun d hd => ?_, i4, fun k hk => by rw [q2 k hk]; exact i5 k hk⟩
      rw [q1 d hd, ← g1, ← g2, plv_mv i1 (by rw [hu0]; exact hd)]
theorem CI_6 {σ τ : Sg} {v : Vt} {g : Int32} {hv : Nat → Vt} {hg : Nat → Int32} {ks tl : Nat} {tb : Nat → Nat} {rz : Nat → Int32} (hV : VI v hv ks tl tb) (hC : CI σ v g hv hg ks tl tb rz) (h : ∀ k, k ≠ 6 → τ k = σ k) : CI τ v g hv hg ks tl tb rz := by
  obtain ⟨c1, ⟨nx, c2⟩, c3⟩ := hC
  exact ⟨Cl_6 c1 h, ⟨nx, CH_loc c2 hV.2.2.1 (fun k a b => h k (by omega))⟩, CT_loc c3 (by rw [h 269 (by omega)]) (h 270 (by omega)) (h 297 (by omega)) (h 283 (by omega))⟩
theorem MI_w {σ τ : Sg} {v : Vt} {g : Int32} {hv : Nat → Vt} {hg : Nat → Int32} {ks tl : Nat} {tb : Nat → Nat} {rz : Nat → Int32} (hM : MI σ v g hv hg ks tl tb rz) (h1 : Mo (τ 299) v g) (h : ∀ k, k ≠ 299 → k ≠ 304 → k ≠ 305 → τ k = σ k) : MI τ v g hv hg ks tl tb rz := by
  obtain ⟨m1, m2, m3⟩ := hM
  refine ⟨h1, ?_, ?_⟩
  · unfold MH
    rw [h 298 (by omega) (by omega) (by omega), h 300 (by omega) (by omega) (by omega)]
    exact m2
  · unfold MT
    rw [h 298 (by omega) (by omega) (by omega), h 303 (by omega) (by omega) (by omega), h 302 (by omega) (by omega) (by omega)]
    exact m3
theorem wkF_lt : ∀ (n : Nat) (u : Vt) (i e : Nat), (wkF u n i).2 = some e → e < i + n := by
  intro n
  induction n with
  | zero => intro u i e h; cases h
  | succ n ih =>
    intro u i e h
    rw [wkF] at h
    split at h
    · have := ih _ _ _ h; omega
    · cases h; omega
theorem walksM {σ : Sg} {v : Vt} {g : Int32} (hM : Mo (σ 299) v g) (hV : Va v) : ∃ σ', f_X6_walks 298 σ = some (oI (wkF v (v 2) 0).2, σ') ∧ Mo (σ' 299) (wkF v (v 2) 0).1 g ∧ AG (wkF v (v 2) 0).1 v ∧ Va (wkF v (v 2) 0).1 ∧ HS σ' 5 v ∧ ∀ k, k ≠ 299 → k ≠ 304 → σ' k = σ k := by
  obtain ⟨σ1, e1, p1, p2, p3⟩ := holdsM (p := 5) hM (by omega)
  obtain ⟨σ2, e2, q1, q2, q3, q4⟩ := walks7 (σ := σ1) (v := v) (g := g) (by rw [p3 299 (by omega)]; exact hM) hV
  refine ⟨σ2, ?_, q1, q2, q3, fun d hd => ?_, fun k a b => by rw [q4 k a, p3 k b]⟩
  · rw [f_X6_walks, if_pos kd_298, show (5 : Int32) = nI 5 from rfl, e1, cb_some, e2]
  · rw [q4 304 (by omega)]; exact p1 d hd
theorem sim_judges {n : Nat} (hn : n < 600) : Sim (Inv n) (Inv (n + 1)) (f_X5_judges 0) (f_X6_judges 298) := by
  refine sim_of hn (fun v g hv hg ks tl tb rz hV hB => ⟨oI (wkF v (v 2) 0).2, v, g, hv, hg, ks, tl, tb, rz, hV, Or.inl rfl, fun σ hC => ?_, fun σ hM => ?_⟩)
  · obtain ⟨σ', e, q1, q2⟩ := followC hC.1 hV.1
    rw [f_X5_judges, if_pos kd_0, rf_0_0, e, cb_some]
    exact ⟨σ', rfl, CI_6 hV hC q2, fun k hk => q2 k (by omega)⟩
  · obtain ⟨σ1, e1, p1, p2, p3, p4, p5⟩ := walksM hM.1 hV.1
    obtain ⟨σ2, e2, q1, q2⟩ := returnsM p1 p4 p2 (by omega)
    rw [f_X6_judges, if_pos kd_298, e1, cb_some, show (5 : Int32) = nI 5 from rfl, e2, cb_some]
    exact ⟨σ2, rfl, MI_w hM q1 (fun k a b c => by rw [q2 k a, p5 k a b]), fun k hk => by rw [q2 k (by omega), p5 k (by omega) (by omega)]⟩
theorem sim_planned {n : Nat} (hn : n < 600) (x y : Int32) : Sim (Inv n) (Inv (n + 1)) (f_X5_planned 0 x y) (f_X6_planned 298 x y) := by
  refine ask_sim hn (fun v g hv hg ks tl tb rz hV => ?_)
  have h0 := hV.1.1
  have hr : ∀ σ, f_X6_planned_17 298 σ = cb (f_X6_counted 298 (-2) σ) (fun b τ => some (b, τ)) := fun σ => by rw [f_X6_planned_17, if_pos kd_298, refusedM (k := 0) rfl, countedM (k := 0) rfl]
  cases hx : inb x (v 0) with
  | false =>
    refine ⟨-2, fun σ hC => ⟨σ, ?_, hC, fun k hk => rfl⟩, fun σ hM => ⟨σ, ?_, hM, fun k hk => rfl⟩⟩
    · rw [f_X5_planned, if_pos kd_0, rf_0_0, f_X3_askPlanned, if_pos kd_1, hC.1.1, isb _ (by omega), cb_some, hx, if_pos bf, cb_some]
    · rw [f_X6_planned, if_pos kd_298, isDancer_eq hM.1 (by omega), cb_some, hx, if_pos bf, hr]
  | true =>
    cases hy : inb y 2 with
    | false =>
      refine ⟨-2, fun σ hC => ⟨σ, ?_, hC, fun k hk => rfl⟩, fun σ hM => ⟨σ, ?_, hM, fun k hk => rfl⟩⟩
      · rw [f_X5_planned, if_pos kd_0, rf_0_0, f_X3_askPlanned, if_pos kd_1, hC.1.1, isb _ (by omega), cb_some, hx, if_neg bt, show f_X5_isBelow y 2 σ = some (bI (inb y 2), σ) from isb y (N := 2) (by omega) σ, cb_some, hy, if_pos bf, cb_some]
      · rw [f_X6_planned, if_pos kd_298, isDancer_eq hM.1 (by omega), cb_some, hx, if_neg bt, isI (N := 2) (by decide), cb_some, hy, if_pos bf, hr]
    | true =>
      obtain ⟨d, hd, rfl⟩ := inb_ex hx (by omega)
      obtain ⟨w, hw, rfl⟩ := inb_ex hy (by omega)
      have i1 : inb (nI d) 8 = true := by rw [inb_nI (by omega)]; exact decide_eq_true (by omega)
      have hVa : Va (wkF v (v 2) 0).1 ∧ AG (wkF v (v 2) 0).1 v := by
        have : ∀ (n : Nat) (u : Vt) (i : Nat), Va u → AG u v → i + n ≤ u 2 → Va (wkF u n i).1 ∧ AG (wkF u n i).1 v := by
          intro n
          induction n with
          | zero => intro u i a b _; exact ⟨a, b⟩
          | succ n ih =>
            intro u i a b c
            rw [wkF]
            split
            · have hc := a.2.2.2.2.2.2 i (by omega)
              have h02 : u 0 ≤ 8 := a.1
              refine ih _ _ (Va_mv a hc) (AG_mv b h0) ?_
              unfold mvv
              rw [mvJ_o _ _ _ (by omega)]; omega
            · exact ⟨a, b⟩
        exact this (v 2) v 0 hV.1 (AG_refl v) (by omega)
      obtain ⟨b1, b2, -⟩ := hVa.1.2.2.2.1 d (by rw [hVa.2 0 (by omega)]; exact hd)
      refine ⟨nI ((wkF v (v 2) 0).1 (4 + 4 * d + w)), fun σ hC => ?_, fun σ hM => ?_⟩
      · obtain ⟨σ', e, q1, q2⟩ := followC hC.1 hV.1
        refine ⟨σ', ?_, CI_6 hV hC q2, fun k hk => q2 k (by omega)⟩
        rw [f_X5_planned, if_pos kd_0, rf_0_0, f_X3_askPlanned, if_pos kd_1, hC.1.1, isb _ (by omega), cb_some, hx, if_neg bt, show f_X5_isBelow (nI w) 2 σ = some (bI (inb (nI w) 2), σ) from isb (nI w) (N := 2) (by omega) σ, cb_some, hy, if_neg bt, e, cb_some, if_pos i1, if_pos i1, rf_1_7, ix_nI (by omega), q1 d hd, show (4 : Int32) = nI 4 from rfl]
        unfold plv
        rw [n_div (by omega) (by omega) (by omega), n_rem (by omega) (by omega) (by omega)]
        rcases (show w = 0 ∨ w = 1 by omega) with rfl | rfl
        · rw [if_pos (show nI 0 = 0 from rfl), cb_some, show ((wkF v (v 2) 0).1 (4 + 4 * d) * 4 + (wkF v (v 2) 0).1 (5 + 4 * d)) / 4 = (wkF v (v 2) 0).1 (4 + 4 * d + 0) by rw [Nat.add_zero]; omega]
        · rw [if_neg (by decide), cb_some, show ((wkF v (v 2) 0).1 (4 + 4 * d) * 4 + (wkF v (v 2) 0).1 (5 + 4 * d)) % 4 = (wkF v (v 2) 0).1 (4 + 4 * d + 1) by rw [show 4 + 4 * d + 1 = 5 + 4 * d by omega]; omega]
      · obtain ⟨σ1, e1, p1, p2, p3, p4, p5⟩ := walksM hM.1 hV.1
        obtain ⟨σ2, e2, q1, q2⟩ := returnsM p1 p4 p2 (by omega)
        refine ⟨σ2, ?_, MI_w hM q1 (fun k a b c => by rw [q2 k a, p5 k a b]), fun k hk => by rw [q2 k (by omega), p5 k (by omega) (by omega)]⟩
        have hb : (wkF v (v 2) 0).1 (4 + 4 * d + w) < 12 := by
          rcases (show w = 0 ∨ w = 1 by omega) with rfl | rfl
          · exact b1
          · rw [show 4 + 4 * d + 1 = 5 + 4 * d by omega]; omega
        rw [f_X6_planned, if_pos kd_298, isDancer_eq hM.1 (by omega), cb_some, hx, if_neg bt, isI (N := 2) (by decide), cb_some, hy, if_neg bt, e1, cb_some, show (4 : Int32) = nI 4 from rfl, pk_mul, nI_add, nI_add, if_pos (by rw [inb_nI (by omega)]; exact decide_eq_true (by omega)), rf_298_0, ix_nI (by omega), p1.2 _ (by omega) (by omega)]
        simp only [bnE]
        rw [show (5 : Int32) = nI 5 from rfl, e2, cb_some, countedN (ge_nI (by omega)), cb_some]
