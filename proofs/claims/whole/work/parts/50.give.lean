/-! gives, home, count -/
theorem kd_2 : kd 2 = 7 ∧ ln 2 = 8 ∧ kd 6 = 7 ∧ ln 6 = 8 := by decide +kernel
theorem occS_cong {sp sp' : Nat → Nat} {n : Nat} (h : ∀ d, d < n → sp d = sp' d) (s : Nat) : occS sp n s = occS sp' n s := by
  unfold occS
  cases e : anyB (fun d => s == sp' d) n with
  | false =>
    rw [anyB_f] at e ⊢
    intro i hi
    rw [h i hi]; exact e i hi
  | true =>
    rw [anyB_iff] at e ⊢
    obtain ⟨i, hi, q⟩ := e
    exact ⟨i, hi, by rw [h i hi]; exact q⟩
/-- the places of the dancers in v -/
def plv (v : Vt) (d : Nat) : Nat := v (4 + 4 * d) * 4 + v (5 + 4 * d)
def occv (v : Vt) : Nat → Bool := occS (fun d => v (4 + 4 * d)) (v 0)
theorem heldV {σ : Sg} {v : Vt} {k : Nat} (hV : Va v) (hk : kd k = 7) (hl : ln k = 8) (hp : ∀ d, d < v 0 → σ k d = nI (plv v d)) : f_X5_heldSpots k (nI (v 0)) σ = some (nI (bm (occv v) 12), σ) := by
  have h0 := hV.1
  rw [heldC (pl := plv v) hk h0 (by omega) (fun d hd => ⟨hp d hd, by obtain ⟨b1, b2, -⟩ := hV.2.2.2.1 d hd; unfold plv; omega⟩)]
  rw [bm_cong (fun i hi => occS_cong (fun d hd => ?_) i)]
  · rfl
  · obtain ⟨b1, b2, -⟩ := hV.2.2.2.1 d hd
    unfold plv
    omega
theorem fitC {σ : Sg} {v : Vt} {g : Int32} (hC : Cl σ 1 v g) (hV : Va v) {c : Nat} (hc : c < v 1) (occ : Nat → Bool) : f_X0_fitsOn (7 + 4 * c) (nI (bm occ 12)) σ = some (bI (fitP occ (wa v c)), σ) := by
  have h1 := hV.2.1
  exact fits_on (c_at (by omega)).2.1 (Ca_of hC hc) (Cb_of hV hc) occ
theorem plv_mv {v : Vt} (hV : Va v) {c d : Nat} (hd : d < v 0) : pb (go v c) (tu v c) (plv v d) = plv (mvv v c) d := by
  obtain ⟨b1, b2, -⟩ := hV.2.2.2.1 d hd
  have e : plv v d / 4 = v (4 + 4 * d) := by unfold plv; omega
  unfold pb
  rw [e]
  unfold plv mvv
  rw [mvJ_s _ _ hd, mvJ_f _ _ hd]
  omega
theorem chg_eq {v : Vt} (hV : Va v) {c d : Nat} (hc : c < v 1) (hd : d < v 0) : (pb (go v c) (tu v c) (plv v d) != plv v d) = chg v c d := by
  obtain ⟨b1, b2, -⟩ := hV.2.2.2.1 d hd
  obtain ⟨d1, d2, d3⟩ := (Cb_of hV hc) _ b1
  rw [plv_mv hV hd]
  unfold plv mvv chg
  rw [mvJ_s _ _ hd, mvJ_f _ _ hd, Bool.eq_iff_iff]
  simp only [bne_iff_ne, ne_eq, Bool.or_eq_true]
  omega
theorem Cl_mv {τ τ' : Sg} {v : Vt} {g g' : Int32} {c : Nat} (hC : Cl τ 1 v g) (hV : Va v) (h8 : τ' 1 8 = g') (hn : ∀ i, i ≠ 8 → τ' 1 i = τ 1 i) (hp : ∀ d, d < v 0 → τ' 2 d = nI (plv (mvv v c) d)) (ho : ∀ k, k ≠ 1 → k ≠ 2 → τ' k = τ k) : Cl τ' 1 (mvv v c) g' := by
  obtain ⟨h0, h1, h2, -⟩ := hV
  obtain ⟨c0, c3, c5, c8, cd, cc, cp⟩ := hC
  have en : ∀ k, (k < 4 ∨ 4 + 4 * v 0 ≤ k ∨ 2 ≤ k % 4) → mvv v c k = v k := fun k h => mvJ_o v c _ h
  refine ⟨?_, ?_, ?_, h8, fun d hd' => ?_, fun c' hc s hs => ?_, fun i hi' => ?_⟩
  · rw [hn 0 (by omega), en 0 (by omega)]; exact c0
  · rw [hn 3 (by omega), en 1 (by omega)]; exact c3
  · rw [hn 5 (by omega), en 2 (by omega)]; exact c5
  · rw [en 0 (by omega)] at hd'
    refine ⟨hp d hd', ?_⟩
    rw [en (6 + 4 * d) (by omega), en (7 + 4 * d) (by omega), ho (1 + 2) (by omega) (by omega)]
    exact (cd d hd').2
  · rw [en 1 (by omega)] at hc
    rw [en _ (by omega), en _ (by omega), en _ (by omega), ho _ (by omega) (by omega), ho _ (by omega) (by omega), ho _ (by omega) (by omega)]
    exact cc c' hc s hs
  · rw [en 2 (by omega)] at hi'
    rw [en _ (by omega), ho _ (by omega) (by omega)]
    exact cp i hi'
theorem Mo_g {σ : Sg} {v : Vt} {g : Int32} (h : Mo (σ 299) v g) (g' : Int32) : Mo ((up σ 299 3 g') 299) v g' := ⟨ux_s _ _ _ _, fun k h1 h2 => by rw [ux_n _ _ _ h2]; exact h.2 k h1 h2⟩
theorem op_gives (x : Int32) (v : Vt) (g : Int32) (hV : Va v) : ∃ (r : Int32) (v' : Vt) (g' : Int32), Va v' ∧ OkR r v g v' g' ∧ OpC (f_X3_give 1 x) v g r v' g' ∧ OpM (f_X6_given 298 x) v g r v' g' := by
  have h0 := hV.1
  have h1 := hV.2.1
  cases hx : inb x (v 1) with
  | false =>
    refine ⟨-2, v, g, hV, Or.inr ⟨0, rfl, rfl, rfl⟩, OpC_bad (fun τ hC => ?_), OpM_bad (fun τ hM => ?_)⟩
    · rw [f_X3_give, if_pos kd_1, hC.2.1, isb x (by omega), cb_some, hx, if_pos bf]
    · rw [f_X6_given, if_pos kd_298, isCall_eq hM (by omega), cb_some, hx, if_pos bf]
  | true =>
    obtain ⟨c, hc, rfl⟩ := inb_ex hx (by omega)
    obtain ⟨r0, r1, -⟩ := c_at (show c < 8 by omega)
    have i1 : inb (nI c) 8 = true := by rw [inb_nI (by omega)]; exact decide_eq_true (by omega)
    have hcl : ∀ τ, Cl τ 1 v g → f_X3_give 1 (nI c) τ = if bI (fitP (occv v) (wa v c)) = 0 then some (-3, τ) else (bn (up τ 1 8 ((τ 1 8) + 1)) (fun τ8 => if inb (nI c) 8 then (cb (f_X3_move 1 2 (7 + 4 * c) τ8) (fun a10 τ11 => some (a10, τ11))) else none)) := fun τ hC => by
      rw [f_X3_give, if_pos kd_1, hC.2.1, isb _ (by omega), cb_some, hx, if_neg bt, if_pos i1, rf_1_1, hC.1, heldV hV kd_2.1 kd_2.2.1 (fun d hd => (hC.2.2.2.2.1 d hd).1), cb_some, rf_1_4, ix_nI (by omega), r0, fitC hC hV hc, cb_some]
    cases hf : fitP (occv v) (wa v c) with
    | false =>
      refine ⟨-3, v, g, hV, Or.inr ⟨1, rfl, rfl, rfl⟩, OpC_bad (fun τ hC => ?_), OpM_bad (fun τ hM => ?_)⟩
      · rw [hcl τ hC, hf, if_pos bf]
      · rw [f_X6_given, if_pos kd_298, isCall_eq hM (by omega), cb_some, hx, if_neg bt, fitsM hM hV hc, cb_some, show fitP (occS (fun d => v (4 + 4 * d)) (v 0)) (wa v c) = false from hf, if_pos bf]
    | true =>
      have hle := cn_le (chg v c) (v 0)
      refine ⟨nI (cn (chg v c) (v 0)), mvv v c, g + 1, Va_mv hV hc, Or.inl (ge0 (by omega)), fun τ hC => ?_, fun τ hM => ?_⟩
      · rw [hcl τ hC, hf, if_neg bt]
        simp only [bnE]
        rw [if_pos i1]
        have hCa : Ca (up τ 1 8 (τ 1 8 + 1)) (7 + 4 * c) (go v c) (tu v c) (wa v c) := fun s hs => by
          rw [up_o _ _ _ _ (by omega), up_o _ _ _ _ (by omega), up_o _ _ _ _ (by omega)]; exact Ca_of hC hc s hs
        obtain ⟨τ', e, q1, q2⟩ := moveC (σ := up τ 1 8 (τ 1 8 + 1)) (pl := plv v) (n := v 0) kd_2.1 r1 (by omega) (by rw [kd_2.2.1]; exact h0) h0 (by omega) (by rw [ux_n _ _ _ (by omega)]; exact hC.1) (fun d hd => ⟨by rw [ux_o _ _ _ _ (by omega)]; exact (hC.2.2.2.2.1 d hd).1, by obtain ⟨b1, b2, -⟩ := hV.2.2.2.1 d hd; unfold plv; omega⟩) hCa (Cb_of hV hc)
        rw [e, cb_some, cn_cong (fun d hd => chg_eq hV hc hd)]
        refine ⟨τ', rfl, Cl_mv hC hV ?_ (fun i hi => ?_) (fun d hd => ?_) (fun k a b => ?_), fun k hk => ?_⟩
        · rw [q2 1 (by omega), ux_s, hC.2.2.2.1]
        · rw [q2 1 (by omega), ux_n _ _ _ hi]
        · rw [q1 d hd, plv_mv hV hd]
        · rw [q2 k b, up_o _ _ _ _ a]
        · rw [q2 k (by omega), up_o _ _ _ _ (by omega)]
      · rw [f_X6_given, if_pos kd_298, isCall_eq hM (by omega), cb_some, hx, if_neg bt, fitsM hM hV hc, cb_some, show fitP (occS (fun d => v (4 + 4 * d)) (v 0)) (wa v c) = true from hf, if_neg bt, if_pos (by decide), if_pos (by decide), rf_298_0, show ix 3 = 3 from rfl, hM.1]
        simp only [bnE]
        obtain ⟨τ', e, q1, q2⟩ := movesM (Mo_g hM (g + 1)) hV hc
        rw [e, cb_some]
        exact ⟨τ', rfl, q1, fun k hk => by rw [q2 k hk, up_o _ _ _ _ hk]⟩
theorem sim_gives {n : Nat} (hn : n < 600) (x : Int32) : Sim (Inv n) (Inv (n + 1)) (f_X5_gives 0 x) (f_X6_gives 298 x) := by
  refine mut_sim (opc := f_X3_give 1 x) (opm := f_X6_given 298 x) hn (fun σ => ?_) (fun σ => ?_) (op_gives x)
  · rw [f_X5_gives, if_pos kd_0, rf_0_0, rf_0_1]
  · rw [f_X6_gives, if_pos kd_298]
/-! home -/
def hmJ (v : Vt) (j : Nat) : Vt := fun k => if 4 ≤ k ∧ k < 4 + 4 * j ∧ k % 4 < 2 then v (k + 2) else v k
theorem hmJ_0 (v : Vt) : hmJ v 0 = v := by funext k; unfold hmJ; rw [if_neg (by omega)]
theorem hmJ_o (v : Vt) (j : Nat) {k : Nat} (h : k < 4 ∨ 4 + 4 * j ≤ k ∨ 2 ≤ k % 4) : hmJ v j k = v k := by unfold hmJ; rw [if_neg (by omega)]
theorem hmJ_i (v : Vt) {j d : Nat} (h : d < j) : hmJ v j (4 + 4 * d) = v (6 + 4 * d) ∧ hmJ v j (5 + 4 * d) = v (7 + 4 * d) := by
  unfold hmJ
  rw [if_pos (by omega), if_pos (by omega), show 4 + 4 * d + 2 = 6 + 4 * d by omega, show 5 + 4 * d + 2 = 7 + 4 * d by omega]
  exact ⟨rfl, rfl⟩
theorem hmJ_u (v : Vt) (j : Nat) : vu (vu (hmJ v j) (4 + 4 * j) (v (6 + 4 * j))) (5 + 4 * j) (v (7 + 4 * j)) = hmJ v (j + 1) := by
  funext k
  by_cases e1 : k = 5 + 4 * j
  · subst e1; rw [vu_s, (hmJ_i v (show j < j + 1 by omega)).2]
  · rw [vu_n _ _ e1]
    by_cases e2 : k = 4 + 4 * j
    · subst e2; rw [vu_s, (hmJ_i v (show j < j + 1 by omega)).1]
    · rw [vu_n _ _ e2]
      unfold hmJ
      by_cases q1 : 4 ≤ k ∧ k < 4 + 4 * j ∧ k % 4 < 2
      · rw [if_pos q1, if_pos (by omega)]
      · rw [if_neg q1, if_neg (by omega)]
theorem Va_hm {v : Vt} (hV : Va v) : Va (hmJ v (v 0)) := by
  obtain ⟨h0, h1, h2, hd, hcc, hii, hp⟩ := hV
  have en : ∀ k, (k < 4 ∨ 4 + 4 * v 0 ≤ k ∨ 2 ≤ k % 4) → hmJ v (v 0) k = v k := fun k h => hmJ_o v _ h
  refine ⟨by rw [en 0 (by omega)]; exact h0, by rw [en 1 (by omega)]; exact h1, by rw [en 2 (by omega)]; exact h2, fun d hd' => ?_, fun c' hc' r hr => ?_, fun c' hc' r hr t ht => ?_, fun i hi' => ?_⟩
  · rw [en 0 (by omega)] at hd'
    obtain ⟨b1, b2, b3, b4⟩ := hd d hd'
    rw [(hmJ_i v hd').1, (hmJ_i v hd').2, en (6 + 4 * d) (by omega), en (7 + 4 * d) (by omega)]
    exact ⟨b3, b4, b3, b4⟩
  · rw [en 1 (by omega)] at hc'
    rw [en _ (by omega), en _ (by omega), en _ (by omega)]
    exact hcc c' hc' r hr
  · rw [en 1 (by omega)] at hc'
    rw [en _ (by omega), en _ (by omega)]
    exact hii c' hc' r hr t ht
  · rw [en 2 (by omega)] at hi'
    rw [en _ (by omega), en 1 (by omega)]
    exact hp i hi'
theorem sim_home {n : Nat} (hn : n < 600) : Sim (Inv n) (Inv (n + 1)) (f_X5_home 0) (f_X6_home 298) := by
  refine sim_of hn (fun v g hv hg ks tl tb rz hV hB => ?_)
  have h0 := hV.1.1
  have h1 := hV.1.2.1
  have h2 := hV.1.2.2.1
  have hle := cn_le (hmB v) (v 0)
  have en : ∀ k, (k < 4 ∨ 4 + 4 * v 0 ≤ k ∨ 2 ≤ k % 4) → hmJ v (v 0) k = v k := fun k h => hmJ_o v _ h
  have oc : OpC (f_X3_sendHome 1) v g (nI (v 0 - cn (hmB v) (v 0))) (hmJ v (v 0)) g := fun τ hC => by
    rw [f_X3_sendHome, if_pos kd_1, howHomeC hC hV.1, cb_some, hC.1, n_sub hle, rf_1_1, rf_1_2]
    simp only [bnE]
    obtain ⟨c0, c3, c5, c8, cd, cc, cp⟩ := hC
    have lo : ∀ k, k ≠ 2 → cpy τ 3 0 2 0 8 k = τ k := fun k hk => cpy_o _ _ _ _ _ _ hk
    refine ⟨_, rfl, ⟨?_, ?_, ?_, ?_, fun d hd' => ?_, fun c' hc s hs => ?_, fun i hi' => ?_⟩, fun k hk => lo k (by omega)⟩
    · rw [lo 1 (by omega), en 0 (by omega)]; exact c0
    · rw [lo 1 (by omega), en 1 (by omega)]; exact c3
    · rw [lo 1 (by omega), en 2 (by omega)]; exact c5
    · rw [lo 1 (by omega)]; exact c8
    · rw [en 0 (by omega)] at hd'
      rw [(hmJ_i v hd').1, (hmJ_i v hd').2, en (6 + 4 * d) (by omega), en (7 + 4 * d) (by omega), lo (1 + 2) (by omega), cpy_at, if_pos ⟨rfl, by omega⟩]
      exact ⟨(cd d hd').2, (cd d hd').2⟩
    · rw [en 1 (by omega)] at hc
      rw [en _ (by omega), en _ (by omega), en _ (by omega), lo _ (by omega), lo _ (by omega), lo _ (by omega)]
      exact cc c' hc s hs
    · rw [en 2 (by omega)] at hi'
      rw [en _ (by omega), lo _ (by omega)]
      exact cp i hi'
  refine ⟨nI (v 0 - cn (hmB v) (v 0)), hmJ v (v 0), g, push hv ks v, push hg ks g, nk ks, tl, tb, rz, VI_push hV (Va_hm hV.1), Or.inl rfl, fun σ hC => ?_, fun σ hM => ?_⟩
  · rw [f_X5_home, if_pos kd_0, rf_0_0, rf_0_1]
    exact mutC hV (Va_hm hV.1) oc (ge0 (by omega)) hC
  · rw [f_X6_home, if_pos kd_298, if_pos (by decide), atHomeM hM.1 hV.1, cb_some, rf_298_0, show ix 0 = 0 from rfl, hM.1.2 0 (by omega) (by omega), n_sub hle]
    simp only [bnE]
    refine keepM (op := fun τ => f_X6_home_18 FU 298 (nI (v 0 - cn (hmB v) (v 0))) 0 τ) hV.2.1 (fun τ hτ => ?_) hM
    have key := loopI (fun n j τ' => f_X6_home_18 n 298 (nI (v 0 - cn (hmB v) (v 0))) (nI j) τ') (fun j τ' => Mo (τ' 299) (hmJ v j) g ∧ ∀ k, k ≠ 299 → τ' k = τ k) (fun q => q.1 = nI (v 0 - cn (hmB v) (v 0)) ∧ Mo (q.2 299) (hmJ v (v 0)) g ∧ ∀ k, k ≠ 299 → q.2 k = τ k) (v 0) ?_ ?_ FU 0 τ (by omega) (FU_gt (by omega)) ⟨by rw [hmJ_0]; exact hτ, fun k hk => rfl⟩
    · obtain ⟨⟨r, τ'⟩, e, rfl, q2, q3⟩ := key
      exact ⟨τ', e, q2, q3⟩
    · intro m τ' hI
      obtain ⟨i2, i3⟩ := hI
      refine ex_of (a := (nI (v 0 - cn (hmB v) (v 0)), τ')) ?_ ⟨rfl, i2, i3⟩
      have e0 : τ' 299 0 = nI (v 0) := by rw [i2.2 0 (by omega) (by omega), hmJ_o _ _ (by omega)]
      rw [f_X6_home_18, if_pos kd_298, if_pos (by decide), rf_298_0, show ix 0 = 0 from rfl, e0, if_pos (by rw [n_le (by omega) (by omega)]; omega)]
    · intro m j τ' hj hI
      obtain ⟨i2, i3⟩ := hI
      have e0 : τ' 299 0 = nI (v 0) := by rw [i2.2 0 (by omega) (by omega), hmJ_o _ _ (by omega)]
      have e6 : τ' 299 (6 + 4 * j) = nI (v (6 + 4 * j)) := by rw [i2.2 _ (by omega) (by omega), hmJ_o _ _ (by omega)]
      have e7 : τ' 299 (7 + 4 * j) = nI (v (7 + 4 * j)) := by rw [i2.2 _ (by omega) (by omega), hmJ_o _ _ (by omega)]
      have hM2 := Mo_up (Mo_up i2 (k := 4 + 4 * j) (x := v (6 + 4 * j)) (by omega)) (k := 5 + 4 * j) (x := v (7 + 4 * j)) (by omega)
      rw [hmJ_u] at hM2
      refine stp (s' := up (up τ' 299 (4 + 4 * j) (nI (v (6 + 4 * j)))) 299 (5 + 4 * j) (nI (v (7 + 4 * j)))) ?_ ⟨hM2, fun k hk => by rw [up_o _ _ _ _ hk, up_o _ _ _ _ hk]; exact i3 k hk⟩
      rw [f_X6_home_18, if_pos kd_298]
      simp (disch := omega) only [kd_0, kd_1, kd_39, kd_269, kd_273, kd_298, rf_0_0, rf_0_1, rf_0_2, rf_0_3, rf_0_4, rf_1_1, rf_1_2, rf_1_4, rf_1_6, rf_1_7, rf_39_0, rf_269_0, rf_269_5, rf_269_6, rf_298_0, rf_298_1, rf_298_3, rf_298_4, rf_298_6, rf_298_7, rf_298_8, rf_298_9, bnE, cbE, lj, ix_nI, inb_nI, n_lt, n_le, n_eq, n_div, n_rem, nI_add, pk_mul, decide_eq_true_eq, if_true, if_false, bI_0, bI_or, not_true, not_false_eq_true, ↓reduceIte, ux_s, ux_n, ux_o, e0, e6, e7, show 0 < 336 by omega, show ¬ v 0 ≤ j by omega, show 4 + 4 * j < 336 by omega, show 5 + 4 * j < 336 by omega, show 6 + 4 * j < 336 by omega, show 7 + 4 * j < 336 by omega]
/-! count -/
def fitV (v : Vt) (c : Nat) : Bool := fitP (occv v) (wa v c)
def cnN (v : Vt) (g : Int32) (w : Nat) : Int32 := if w = 0 then nI (v 0) else if w = 1 then nI (v 1) else if w = 2 then nI (cn (hmB v) (v 0)) else if w = 3 then nI (prs v) else if w = 4 then nI (bm (fitV v) (v 1)) else if w = 5 then nI (v 2) else g
def cnA (v : Vt) (g : Int32) (x : Int32) : Int32 := if inb x 7 then cnN v g (ix x) else -2
theorem fitbC {σ : Sg} {v : Vt} {g : Int32} (hC : Cl σ 1 v g) (hV : Va v) : f_X3_callsThatFit 1 σ = some (nI (bm (fitV v) (v 1)), σ) := by
  have h0 := hV.1
  have h1 := hV.2.1
  rw [f_X3_callsThatFit, if_pos kd_1, rf_1_1, hC.1, heldV hV kd_2.1 kd_2.2.1 (fun d hd => (hC.2.2.2.2.1 d hd).1), cb_some]
  have key := loopU (fun n j => f_X3_callsThatFit_16 n 1 (nI (bm (occv v) 12)) (nI (bm (fitV v) j)) (nI j) σ) (fun _ => some (nI (bm (fitV v) (v 1)), σ)) (v 1) (by omega) ?_ ?_
  · exact key
  · intro n
    rw [f_X3_callsThatFit_16, if_pos kd_1, hC.2.1, if_pos (by rw [n_le (by omega) (by omega)]; omega)]
  · intro n j hj ih
    rw [show bm (fitV v) (j + 1) = bm (fitV v) j ||| (if fitV v j then 2 ^ j else 0) from rfl] at ih
    rw [f_X3_callsThatFit_16, if_pos kd_1, hC.2.1, if_neg (by rw [n_le (by omega) (by omega)]; omega), if_pos (by rw [inb_nI (by omega)]; exact decide_eq_true (by omega)), rf_1_4, ix_nI (by omega), (c_at (show j < 8 by omega)).1, fitC hC hV hj, cb_some]
    have f : ∀ z, f_X3_callsThatFit_43 (f_X3_callsThatFit_16 n) 1 (nI (bm (occv v) 12)) z (nI j) σ = f_X3_callsThatFit_16 n 1 (nI (bm (occv v) 12)) z (nI (j + 1)) σ := fun z => by
      rw [f_X3_callsThatFit_43, if_pos kd_1, show (1 : Int32) = nI 1 from rfl, nI_add]
    cases e : fitP (occv v) (wa v j) with
    | false => rw [if_pos bf, f]; rw [show fitV v j = false from e] at ih; simpa only [Nat.or_zero, Bool.false_eq_true, if_false, if_true] using ih
    | true =>
      rw [if_neg bt]
      simp only [bnE]
      rw [f, show (1 : Int32) = nI 1 from rfl, show (31 : Int32) = nI 31 from rfl, b_one _ (by omega), b_or]
      rw [show fitV v j = true from e] at ih; simpa only [Nat.or_zero, Bool.false_eq_true, if_false, if_true] using ih
theorem fitbM {σ : Sg} {v : Vt} {g : Int32} (hM : Mo (σ 299) v g) (hV : Va v) : f_X6_number_65 FU 298 0 0 σ = some (nI (bm (fitV v) (v 1)), σ) := by
  have h0 := hV.1
  have h1 := hV.2.1
  have key := loopU (fun n j => f_X6_number_65 n 298 (nI (bm (fitV v) j)) (nI j) σ) (fun _ => some (nI (bm (fitV v) (v 1)), σ)) (v 1) (by omega) ?_ ?_
  · exact key
  · intro n
    rw [f_X6_number_65, if_pos kd_298, if_pos (by decide), rf_298_0, show ix 1 = 1 from rfl, hM.2 1 (by omega) (by omega), if_pos (by rw [n_le (by omega) (by omega)]; omega)]
  · intro n j hj ih
    rw [bm] at ih
    rw [f_X6_number_65, if_pos kd_298, if_pos (by decide), rf_298_0, show ix 1 = 1 from rfl, hM.2 1 (by omega) (by omega), if_neg (by rw [n_le (by omega) (by omega)]; omega), fitsM hM hV hj, cb_some]
    have f : ∀ z, f_X6_number_91 (f_X6_number_65 n) 298 (nI j) (nI (bm (fitV v) j)) (nI z) σ = f_X6_number_65 n 298 (nI (bm (fitV v) j ||| z)) (nI (j + 1)) σ := fun z => by
      rw [f_X6_number_91, if_pos kd_298, show (1 : Int32) = nI 1 from rfl, nI_add, b_or]; rfl
    cases e : fitP (occS (fun d => v (4 + 4 * d)) (v 0)) (wa v j) with
    | false => rw [if_pos bf, show (0 : Int32) = nI 0 from rfl, f]; rw [show fitV v j = false from e] at ih; simpa only [Nat.or_zero, Bool.false_eq_true, if_false, if_true] using ih
    | true =>
      rw [if_neg bt, show (1 : Int32) = nI 1 from rfl, show (31 : Int32) = nI 31 from rfl, b_one _ (by omega), f]
      rw [show fitV v j = true from e] at ih; simpa only [Nat.or_zero, Bool.false_eq_true, if_false, if_true] using ih
theorem cnC {σ : Sg} {v : Vt} {g : Int32} (hC : Cl σ 1 v g) (hV : Va v) (x : Int32) : f_X3_askCount 1 x σ = some (cnA v g x, σ) := by
  rw [f_X3_askCount, if_pos kd_1]
  unfold cnA
  cases hy : inb x 7 with
  | false =>
    have l := lits hy (by omega)
    rw [if_neg (show ¬ x = 0 from l 0 (by omega)), if_neg (show ¬ x = 1 from l 1 (by omega)), if_neg (show ¬ x = 2 from l 2 (by omega)), if_neg (show ¬ x = 3 from l 3 (by omega)), if_neg (show ¬ x = 4 from l 4 (by omega)), if_neg (show ¬ x = 5 from l 5 (by omega)), if_neg (show ¬ x = 6 from l 6 (by omega))]
    rfl
  | true =>
    obtain ⟨w, hw, rfl⟩ := inb_ex hy (by omega)
    rw [if_pos rfl, ix_nI (by omega), howHomeC hC hV, pairsC hC hV, fitbC hC hV, cb_some, cb_some, cb_some, hC.1, hC.2.1, hC.2.2.1, hC.2.2.2.1]
    rcases (show w = 0 ∨ w = 1 ∨ w = 2 ∨ w = 3 ∨ w = 4 ∨ w = 5 ∨ w = 6 by omega) with rfl | rfl | rfl | rfl | rfl | rfl | rfl <;> rfl
theorem cnM {σ : Sg} {v : Vt} {g : Int32} (hM : Mo (σ 299) v g) (hV : Va v) (x : Int32) : f_X6_number 298 x σ = some (cnA v g x, σ) := by
  rw [f_X6_number, if_pos kd_298]
  unfold cnA
  cases hy : inb x 7 with
  | false =>
    have l := lits hy (by omega)
    rw [if_neg (show ¬ x = 0 from l 0 (by omega)), if_neg (show ¬ x = 1 from l 1 (by omega)), if_neg (show ¬ x = 2 from l 2 (by omega)), if_neg (show ¬ x = 3 from l 3 (by omega)), if_neg (show ¬ x = 4 from l 4 (by omega)), if_neg (show ¬ x = 5 from l 5 (by omega)), if_neg (show ¬ x = 6 from l 6 (by omega))]
    rfl
  | true =>
    obtain ⟨w, hw, rfl⟩ := inb_ex hy (by omega)
    have f : ∀ z, z < 2 → f_X6_number_44 298 (nI z) σ = some (nI (v z), σ) := fun z hz => by
      rw [f_X6_number_44, if_pos kd_298, if_pos (by rw [inb_nI (by omega)]; exact decide_eq_true (by omega)), rf_298_0, ix_nI (by omega), hM.2 _ (by omega) (by omega)]
    rw [if_pos rfl, ix_nI (by omega), atHomeM hM hV, pairsM hM hV, fitbM hM hV, cb_some, cb_some, rf_298_0, show ix 2 = 2 from rfl, show ix 3 = 3 from rfl, hM.2 2 (by omega) (by omega), hM.1]
    rcases (show w = 0 ∨ w = 1 ∨ w = 2 ∨ w = 3 ∨ w = 4 ∨ w = 5 ∨ w = 6 by omega) with rfl | rfl | rfl | rfl | rfl | rfl | rfl
    · rw [if_pos (show nI 0 = 0 from rfl), f 0 (by omega)]; rfl
    · rw [if_neg (by decide), if_pos (show nI 1 = 1 from rfl), f 1 (by omega)]; rfl
    · rfl
    · rfl
    · rfl
    · rfl
    · rfl
theorem sim_count {n : Nat} (hn : n < 600) (x : Int32) : Sim (Inv n) (Inv (n + 1)) (f_X5_count 0 x) (f_X6_count 298 x) := by
  refine ask_sim hn (fun v g hv hg ks tl tb rz hV => ⟨cnA v g x, fun σ hC => ⟨σ, ?_, hC, fun k hk => rfl⟩, fun σ hM => ⟨σ, ?_, hM, fun k hk => rfl⟩⟩)
  · rw [f_X5_count, if_pos kd_0, rf_0_0, cnC hC.1 hV.1, cb_some]
  · rw [f_X6_count, if_pos kd_298, cnM hM.1 hV.1, cb_some]
