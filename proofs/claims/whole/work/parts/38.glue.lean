/-- a change of the square, in the class -/
def OpC (op : Sg → Option (Int32 × Sg)) (v : Vt) (g : Int32) (r : Int32) (v' : Vt) (g' : Int32) : Prop := ∀ τ, Cl τ 1 v g → ∃ τ', op τ = some (r, τ') ∧ Cl τ' 1 v' g' ∧ ∀ k, (k < 1 ∨ 39 ≤ k) → τ' k = τ k
/-- the same, in the reference -/
def OpM (op : Sg → Option (Int32 × Sg)) (v : Vt) (g : Int32) (r : Int32) (v' : Vt) (g' : Int32) : Prop := ∀ τ, Mo (τ 299) v g → ∃ τ', op τ = some (r, τ') ∧ Mo (τ' 299) v' g' ∧ ∀ k, k ≠ 299 → τ' k = τ k
/-- an answer that leaves a state, or a refusal that changes nothing -/
def OkR (r : Int32) (v : Vt) (g : Int32) (v' : Vt) (g' : Int32) : Prop := 0 ≤ r ∨ ∃ k, rfk r = some k ∧ v' = v ∧ g' = g
theorem le_m1 {r : Int32} (h : 0 ≤ r) : -1 ≤ r := by
  rw [Int32.le_iff_toInt_le] at h ⊢
  have e1 : (-1 : Int32).toInt = -1 := by decide
  have e2 : (0 : Int32).toInt = 0 := by decide
  omega
def nk (ks : Nat) : Nat := if ks < 5 then ks + 1 else 5
theorem nk_le (ks : Nat) : nk ks ≤ 5 := by unfold nk; split <;> omega
/-- behind prepare: the square now lies in the spare slot, nothing else is other -/
theorem CH_push {σ σ1 σ2 : Sg} {v : Vt} {g : Int32} {hv : Nat → Vt} {hg : Nat → Int32} {ks nx : Nat} (hH : CH σ hv hg ks nx) (hk : ks ≤ 5) (hV : Va v) (hVh : ∀ j, j < ks → Va (hv j)) (h1 : Cl σ1 (41 + 38 * nx) v g) (h2 : ∀ k, (k < 41 + 38 * nx ∨ 41 + 38 * nx + 38 ≤ k) → σ1 k = σ k) (h3 : ∀ k, 39 < k → σ2 k = σ1 k) (h4 : σ2 39 1 = nI ((nx + 1) % 6)) (h5 : σ2 39 2 = nI (nk ks)) : CH σ2 (push hv ks v) (push hg ks g) (nk ks) ((nx + 1) % 6) := by
  obtain ⟨a1, a2, a3, a4⟩ := hH
  refine ⟨by omega, h4, h5, fun j hj => ?_⟩
  unfold nk at hj ⊢
  by_cases h : ks < 5
  · rw [if_pos h] at hj ⊢
    have e : ((nx + 1) % 6 + 6 - (ks + 1) + j) % 6 = (nx + 6 - ks + j) % 6 := by omega
    rw [e]
    have hp : push hv ks v j = if j = ks then v else hv j := by simp [push, h]
    have hq : push hg ks g j = if j = ks then g else hg j := by simp [push, h]
    rw [hp, hq]
    by_cases e2 : j = ks
    · subst e2
      rw [if_pos rfl, if_pos rfl, show (nx + 6 - j + j) % 6 = nx by omega]
      exact Cl_loc h1 hV.2.1 (fun k b c => h3 k (by omega))
    · rw [if_neg e2, if_neg e2]
      refine Cl_loc (a4 j (by omega)) (hVh j (by omega)).2.1 (fun k b c => ?_)
      rw [h3 k (by omega), h2 k (by omega)]
  · rw [if_neg h] at hj ⊢
    have e5 : ks = 5 := by omega
    subst e5
    have hp : push hv 5 v j = if j = 4 then v else hv (j + 1) := by simp [push]
    have hq : push hg 5 g j = if j = 4 then g else hg (j + 1) := by simp [push]
    rw [hp, hq]
    by_cases e2 : j = 4
    · subst e2
      rw [if_pos rfl, if_pos rfl, show ((nx + 1) % 6 + 6 - 5 + 4) % 6 = nx by omega]
      exact Cl_loc h1 hV.2.1 (fun k b c => h3 k (by omega))
    · rw [if_neg e2, if_neg e2, show ((nx + 1) % 6 + 6 - 5 + j) % 6 = (nx + 6 - 5 + (j + 1)) % 6 by omega]
      refine Cl_loc (a4 (j + 1) (by omega)) (hVh (j + 1) (by omega)).2.1 (fun k b c => ?_)
      rw [h3 k (by omega), h2 k (by omega)]
theorem VI_push {v v' : Vt} {hv : Nat → Vt} {ks tl : Nat} {tb : Nat → Nat} (hV : VI v hv ks tl tb) (hV' : Va v') : VI v' (push hv ks v) (nk ks) tl tb := by
  obtain ⟨h1, h2, h3, h4⟩ := hV
  refine ⟨hV', nk_le ks, fun j hj => ?_, h4⟩
  unfold nk at hj
  unfold push
  by_cases h : ks < 5
  · rw [if_pos h] at hj ⊢
    by_cases e : j = ks
    · rw [if_pos e]; exact h1
    · rw [if_neg e]; exact h3 j (by omega)
  · rw [if_neg h] at hj ⊢
    by_cases e : j = 4
    · rw [if_pos e]; exact h1
    · rw [if_neg e]; exact h3 (j + 1) (by omega)
theorem mutC {op : Sg → Option (Int32 × Sg)} {v v' : Vt} {g g' : Int32} {hv : Nat → Vt} {hg : Nat → Int32} {ks tl : Nat} {tb : Nat → Nat} {rz : Nat → Int32} {r : Int32} (hV : VI v hv ks tl tb) (hV' : Va v') (ho : OpC op v g r v' g') (hr : 0 ≤ r) {σ : Sg} (hC : CI σ v g hv hg ks tl tb rz) : ∃ σ', cb (f_X1_prepare 39 1 σ) (fun _ τ => cb (op τ) (fun a τ1 => cb (f_X5_settled 0 a τ1) (fun b τ2 => some (b, τ2)))) = some (r, σ') ∧ CI σ' v' g' (push hv ks v) (push hg ks g) (nk ks) tl tb rz ∧ ∀ k, 298 ≤ k → σ' k = σ k := by
  obtain ⟨c1, ⟨nx, hH⟩, c3⟩ := hC
  obtain ⟨σ1, e1, p1, p2⟩ := hprep c1 hV.1 hH.1 hH.2.1
  have c1' : Cl σ1 1 v g := Cl_loc c1 hV.1.2.1 (fun k a b => p2 k (by omega))
  obtain ⟨σ2, e2, q1, q2⟩ := ho σ1 c1'
  have n1 : σ2 39 1 = nI nx := by rw [q2 39 (by omega), p2 39 (by omega)]; exact hH.2.1
  have n2 : σ2 39 2 = nI ks := by rw [q2 39 (by omega), p2 39 (by omega)]; exact hH.2.2.1
  rw [e1, cb_some, e2, cb_some, f_X5_settled, if_pos kd_0, if_neg (by
    rw [Int32.lt_iff_toInt_lt]
    rw [Int32.le_iff_toInt_le] at hr
    omega), rf_0_1, hconf hH.1 n1 n2 hV.2.1]
  have e0 : ∀ k, k ≠ 39 → (up (up σ2 39 1 (nI ((nx + 1) % 6))) 39 2 (nI (if ks < 5 then ks + 1 else 5))) k = σ2 k := fun k hk => by rw [up_o _ _ _ _ hk, up_o _ _ _ _ hk]
  simp only [cb_some, f_X5_settled_11, kd_0, if_true, notedN (le_m1 hr)]
  refine ⟨_, rfl, ⟨Cl_loc q1 hV'.2.1 (fun k a b => e0 k (by omega)), ⟨(nx + 1) % 6, CH_push (σ1 := σ1) hH hV.2.1 hV.1 hV.2.2.1 p1 p2 (fun k hk => by rw [e0 k (by omega), q2 k (by omega)]) (by simp [up_a]) (by simp [up_a, nk])⟩, CT_loc c3 ?_ ?_ ?_ ?_⟩, fun k hk => ?_⟩
  · rw [e0 269 (by decide), q2 269 (by omega), p2 269 (by have := hH.1; omega)]
  · rw [e0 270 (by decide), q2 270 (by omega), p2 270 (by have := hH.1; omega)]
  · rw [e0 297 (by decide), q2 297 (by omega), p2 297 (by have := hH.1; omega)]
  · rw [e0 283 (by decide), q2 283 (by omega), p2 283 (by have := hH.1; omega)]
  · rw [e0 k (by omega), q2 k (by omega), p2 k (by have := hH.1; omega)]
theorem mutCr {op : Sg → Option (Int32 × Sg)} {v : Vt} {g : Int32} {hv : Nat → Vt} {hg : Nat → Int32} {ks tl : Nat} {tb : Nat → Nat} {rz : Nat → Int32} {r : Int32} {k : Nat} (hV : VI v hv ks tl tb) (ho : OpC op v g r v g) (hr : rfk r = some k) {σ : Sg} (hC : CI σ v g hv hg ks tl tb rz) : ∃ σ', cb (f_X1_prepare 39 1 σ) (fun _ τ => cb (op τ) (fun a τ1 => cb (f_X5_settled 0 a τ1) (fun b τ2 => some (b, τ2)))) = some (r, σ') ∧ CI σ' v g hv hg ks tl tb (rzU rz k) ∧ ∀ k, 298 ≤ k → σ' k = σ k := by
  obtain ⟨c1, ⟨nx, hH⟩, c3⟩ := hC
  obtain ⟨k3, -, -, -, hneg⟩ := rfk_lt hr
  obtain ⟨σ1, e1, p1, p2⟩ := hprep c1 hV.1 hH.1 hH.2.1
  have c1' : Cl σ1 1 v g := Cl_loc c1 hV.1.2.1 (fun k a b => p2 k (by omega))
  obtain ⟨σ2, e2, q1, q2⟩ := ho σ1 c1'
  have hn := hH.1
  have hks := hV.2.1
  have hC2 : CI σ2 v g hv hg ks tl tb rz := by
    refine ⟨q1, ⟨nx, hn, by rw [q2 39 (by omega), p2 39 (by omega)]; exact hH.2.1, by rw [q2 39 (by omega), p2 39 (by omega)]; exact hH.2.2.1, fun j hj => ?_⟩, CT_loc c3 ?_ ?_ ?_ ?_⟩
    · exact Cl_loc (hH.2.2.2 j hj) (hV.2.2.1 j hj).2.1 (fun k a b => by rw [q2 k (by omega), p2 k (by omega)])
    · rw [q2 269 (by omega), p2 269 (by omega)]
    · rw [q2 270 (by omega), p2 270 (by omega)]
    · rw [q2 297 (by omega), p2 297 (by omega)]
    · rw [q2 283 (by omega), p2 283 (by omega)]
  rw [e1, cb_some, e2, cb_some, f_X5_settled, if_pos kd_0, if_pos hneg]
  simp only [cb_some, f_X5_settled_11, kd_0, if_true, notedC hr]
  refine ⟨_, rfl, CI_ref hV k3 hC2, fun k hk => ?_⟩
  rw [up_o _ _ _ _ (by omega), q2 k (by omega), p2 k (by omega)]
theorem mutM {op : Sg → Option (Int32 × Sg)} {v v' : Vt} {g g' : Int32} {hv : Nat → Vt} {hg : Nat → Int32} {ks tl : Nat} {tb : Nat → Nat} {rz : Nat → Int32} {r : Int32} (hk : ks ≤ 5) (ho : OpM op v g r v' g') (hr : 0 ≤ r) {σ : Sg} (hM : MI σ v g hv hg ks tl tb rz) : ∃ σ', cb (f_X6_notes 298 σ) (fun _ τ => cb (op τ) (fun a τ1 => cb (f_X6_done 298 a τ1) (fun b τ2 => some (b, τ2)))) = some (r, σ') ∧ MI σ' v' g' (push hv ks v) (push hg ks g) (nk ks) tl tb rz ∧ ∀ k, k < 298 → σ' k = σ k := by
  obtain ⟨m1, m2, m3⟩ := hM
  rw [notes_eq, cb_some]
  have l0 : ∀ k, k ≠ 301 → cpy σ 299 0 301 0 336 k = σ k := fun k hk => cpy_o _ _ _ _ _ _ hk
  have t1 : Mo (cpy σ 299 0 301 0 336 301) v g := ⟨by rw [cpy_at, if_pos ⟨rfl, by omega⟩]; exact m1.1, fun k a b => by rw [cpy_at, if_pos ⟨rfl, a⟩]; exact m1.2 k a b⟩
  obtain ⟨σ2, e2, q1, q2⟩ := ho (cpy σ 299 0 301 0 336) (by rw [l0 299 (by decide)]; exact m1)
  have t2 : Mo (σ2 301) v g := by rw [q2 301 (by decide)]; exact t1
  have h2 : MH σ2 hv hg ks := by
    unfold MH
    rw [q2 298 (by decide), q2 300 (by decide), l0 298 (by decide), l0 300 (by decide)]
    exact m2
  obtain ⟨σ3, e3, s1, s2, s3, s4⟩ := doneM q1 t2 h2 hk (le_m1 hr)
  rw [e2, cb_some, e3, cb_some]
  refine ⟨_, rfl, ⟨s1, s2, ?_⟩, fun k hk2 => by rw [s3 k (by omega) (by omega) (by omega) (by omega), q2 k (by omega), l0 k (by omega)]⟩
  unfold MT
  rw [s4 5 (by decide), q2 298 (by decide), l0 298 (by decide), s3 303 (by decide) (by decide) (by decide) (by decide), q2 303 (by decide), l0 303 (by decide), s3 302 (by decide) (by decide) (by decide) (by decide), q2 302 (by decide), l0 302 (by decide)]
  exact m3
theorem mutMr {op : Sg → Option (Int32 × Sg)} {v : Vt} {g : Int32} {hv : Nat → Vt} {hg : Nat → Int32} {ks tl : Nat} {tb : Nat → Nat} {rz : Nat → Int32} {r : Int32} {k : Nat} (ho : OpM op v g r v g) (hr : rfk r = some k) {σ : Sg} (hM : MI σ v g hv hg ks tl tb rz) : ∃ σ', cb (f_X6_notes 298 σ) (fun _ τ => cb (op τ) (fun a τ1 => cb (f_X6_done 298 a τ1) (fun b τ2 => some (b, τ2)))) = some (r, σ') ∧ MI σ' v g hv hg ks tl tb (rzU rz k) ∧ ∀ k, k < 298 → σ' k = σ k := by
  obtain ⟨m1, m2, m3⟩ := hM
  obtain ⟨k3, -⟩ := rfk_lt hr
  rw [notes_eq, cb_some]
  have l0 : ∀ k, k ≠ 301 → cpy σ 299 0 301 0 336 k = σ k := fun k hk => cpy_o _ _ _ _ _ _ hk
  obtain ⟨σ2, e2, q1, q2⟩ := ho (cpy σ 299 0 301 0 336) (by rw [l0 299 (by decide)]; exact m1)
  have hM2 : MI σ2 v g hv hg ks tl tb rz := by
    refine ⟨q1, ?_, ?_⟩
    · unfold MH
      rw [q2 298 (by decide), q2 300 (by decide), l0 298 (by decide), l0 300 (by decide)]
      exact m2
    · unfold MT
      rw [q2 298 (by decide), l0 298 (by decide), q2 303 (by decide), l0 303 (by decide), q2 302 (by decide), l0 302 (by decide)]
      exact m3
  rw [e2, cb_some, doneR hr, cb_some]
  refine ⟨_, rfl, MI_ref k3 hM2, fun k hk2 => by rw [up_o _ _ _ _ (by omega), q2 k (by omega), l0 k (by omega)]⟩
/-- a change that class and reference do by note and done -/
theorem mut_sim {opc opm fx fm : Sg → Option (Int32 × Sg)} {n : Nat} (hn : n < 600) (hx : ∀ σ, fx σ = cb (f_X1_prepare 39 1 σ) (fun _ τ => cb (opc τ) (fun a τ1 => cb (f_X5_settled 0 a τ1) (fun b τ2 => some (b, τ2))))) (hm : ∀ σ, fm σ = cb (f_X6_notes 298 σ) (fun _ τ => cb (opm τ) (fun a τ1 => cb (f_X6_done 298 a τ1) (fun b τ2 => some (b, τ2)))))
    (h : ∀ (v : Vt) (g : Int32), Va v → ∃ (r : Int32) (v' : Vt) (g' : Int32), Va v' ∧ OkR r v g v' g' ∧ OpC opc v g r v' g' ∧ OpM opm v g r v' g') : Sim (Inv n) (Inv (n + 1)) fx fm := by
  refine sim_of hn (fun v g hv hg ks tl tb rz hV hB => ?_)
  obtain ⟨r, v', g', hV', hk, hc, ho⟩ := h v g hV.1
  rcases hk with hr | ⟨k, hr, rfl, rfl⟩
  · exact ⟨r, v', g', push hv ks v, push hg ks g, nk ks, tl, tb, rz, VI_push hV hV', Or.inl rfl, fun σ hC => by rw [hx]; exact mutC hV hV' hc hr hC, fun σ hM => by rw [hm]; exact mutM hV.2.1 ho hr hM⟩
  · exact ⟨r, v', g', hv, hg, ks, tl, tb, rzU rz k, hV, Or.inr ⟨k, rfl⟩, fun σ hC => by rw [hx]; exact mutCr hV hc hr hC, fun σ hM => by rw [hm]; exact mutMr ho hr hM⟩
/-- a change that the reference does by keeps -/
theorem keepM {op : Sg → Option (Int32 × Sg)} {v v' : Vt} {g g' : Int32} {hv : Nat → Vt} {hg : Nat → Int32} {ks tl : Nat} {tb : Nat → Nat} {rz : Nat → Int32} {r : Int32} (hk : ks ≤ 5) (ho : OpM op v g r v' g') {σ : Sg} (hM : MI σ v g hv hg ks tl tb rz) : ∃ σ', cb (f_X6_keeps 298 σ) (fun _ τ => op τ) = some (r, σ') ∧ MI σ' v' g' (push hv ks v) (push hg ks g) (nk ks) tl tb rz ∧ ∀ k, k < 298 → σ' k = σ k := by
  obtain ⟨m1, m2, m3⟩ := hM
  obtain ⟨σ1, e1, s2, s3, s4⟩ := keepsM m1 m2 hk
  obtain ⟨σ2, e2, q1, q2⟩ := ho σ1 (by rw [s3 299 (by decide) (by decide)]; exact m1)
  rw [e1, cb_some]
  refine ⟨_, e2, ⟨q1, ?_, ?_⟩, fun k hk2 => by rw [q2 k (by omega), s3 k (by omega) (by omega)]⟩
  · unfold MH
    rw [q2 298 (by decide), q2 300 (by decide)]
    exact s2
  · unfold MT
    rw [q2 298 (by decide), s4 5 (by decide), q2 303 (by decide), s3 303 (by decide) (by decide), q2 302 (by decide), s3 302 (by decide) (by decide)]
    exact m3
theorem refM {v : Vt} {g : Int32} {hv : Nat → Vt} {hg : Nat → Int32} {ks tl : Nat} {tb : Nat → Nat} {rz : Nat → Int32} {r : Int32} {k : Nat} (hr : rfk r = some k) {σ : Sg} (hM : MI σ v g hv hg ks tl tb rz) : ∃ σ', cb (f_X6_refused 298 r σ) (fun b τ2 => some (b, τ2)) = some (r, σ') ∧ MI σ' v g hv hg ks tl tb (rzU rz k) ∧ ∀ k, k < 298 → σ' k = σ k := by
  obtain ⟨k3, -⟩ := rfk_lt hr
  rw [refusedM hr, cb_some]
  exact ⟨_, rfl, MI_ref k3 hM, fun k hk => up_o _ _ _ _ (by omega)⟩
theorem keep_sim {opc opm fx fm : Sg → Option (Int32 × Sg)} {n : Nat} (hn : n < 600) (hx : ∀ σ, fx σ = cb (f_X1_prepare 39 1 σ) (fun _ τ => cb (opc τ) (fun a τ1 => cb (f_X5_settled 0 a τ1) (fun b τ2 => some (b, τ2)))))
    (h : ∀ (v : Vt) (g : Int32), Va v → ∃ (r : Int32) (v' : Vt) (g' : Int32), Va v' ∧ OpC opc v g r v' g' ∧ ((0 ≤ r ∧ (∀ σ, Mo (σ 299) v g → fm σ = cb (f_X6_keeps 298 σ) (fun _ τ => opm τ)) ∧ OpM opm v g r v' g') ∨ (∃ k, rfk r = some k ∧ v' = v ∧ g' = g ∧ ∀ σ, Mo (σ 299) v g → fm σ = cb (f_X6_refused 298 r σ) (fun b τ2 => some (b, τ2))))) : Sim (Inv n) (Inv (n + 1)) fx fm := by
  refine sim_of hn (fun v g hv hg ks tl tb rz hV hB => ?_)
  obtain ⟨r, v', g', hV', hc, hk⟩ := h v g hV.1
  rcases hk with ⟨hr, hm, ho⟩ | ⟨k, hr, rfl, rfl, hm⟩
  · exact ⟨r, v', g', push hv ks v, push hg ks g, nk ks, tl, tb, rz, VI_push hV hV', Or.inl rfl, fun σ hC => by rw [hx]; exact mutC hV hV' hc hr hC, fun σ hM => by rw [hm σ hM.1]; exact keepM hV.2.1 ho hM⟩
  · exact ⟨r, v', g', hv, hg, ks, tl, tb, rzU rz k, hV, Or.inr ⟨k, rfl⟩, fun σ hC => by rw [hx]; exact mutCr hV hc hr hC, fun σ hM => by rw [hm σ hM.1]; exact refM hr hM⟩
/-- a question: its answer (perhaps a refusal) -/
theorem ask_sim {fx fm : Sg → Option (Int32 × Sg)} {n : Nat} (hn : n < 600) (h : ∀ (v : Vt) (g : Int32) (hv : Nat → Vt) (hg : Nat → Int32) (ks tl : Nat) (tb : Nat → Nat) (rz : Nat → Int32), VI v hv ks tl tb → ∃ a : Int32,
      (∀ σ, CI σ v g hv hg ks tl tb rz → ∃ σ1, fx σ = cb (f_X5_noted 0 a σ1) (fun b τ => some (b, τ)) ∧ CI σ1 v g hv hg ks tl tb rz ∧ ∀ k, 298 ≤ k → σ1 k = σ k) ∧
      (∀ σ, MI σ v g hv hg ks tl tb rz → ∃ σ1, fm σ = cb (f_X6_counted 298 a σ1) (fun b τ => some (b, τ)) ∧ MI σ1 v g hv hg ks tl tb rz ∧ ∀ k, k < 298 → σ1 k = σ k)) : Sim (Inv n) (Inv (n + 1)) fx fm := by
  refine sim_of hn (fun v g hv hg ks tl tb rz hV hB => ?_)
  obtain ⟨a, hc, hm⟩ := h v g hv hg ks tl tb rz hV
  cases ha : rfk a with
  | some k =>
    obtain ⟨k3, -⟩ := rfk_lt ha
    refine ⟨a, v, g, hv, hg, ks, tl, tb, rzU rz k, hV, Or.inr ⟨k, rfl⟩, fun σ hC => ?_, fun σ hM => ?_⟩
    · obtain ⟨σ1, e1, c1, l1⟩ := hc σ hC
      rw [e1, notedC ha, cb_some]
      exact ⟨_, rfl, CI_ref hV k3 c1, fun k hk => by rw [up_o _ _ _ _ (by omega), l1 k hk]⟩
    · obtain ⟨σ1, e1, c1, l1⟩ := hm σ hM
      rw [e1, countedM ha, cb_some]
      exact ⟨_, rfl, MI_ref k3 c1, fun k hk => by rw [up_o _ _ _ _ (by omega), l1 k hk]⟩
  | none =>
    refine ⟨a, v, g, hv, hg, ks, tl, tb, rz, hV, Or.inl rfl, fun σ hC => ?_, fun σ hM => ?_⟩
    · obtain ⟨σ1, e1, c1, l1⟩ := hc σ hC
      rw [e1, notedO ha, cb_some]
      exact ⟨_, rfl, c1, l1⟩
    · obtain ⟨σ1, e1, c1, l1⟩ := hm σ hM
      rw [e1, countedO ha, cb_some]
      exact ⟨_, rfl, c1, l1⟩
