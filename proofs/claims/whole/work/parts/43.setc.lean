/-! one call's numbers in v; a call set, a call added -/
theorem place0 (c s : Nat) (σ : Sg) : f_X6_place 298 (nI c) (nI s) (nI 0) σ = some (nI (36 + 36 * c + s), σ) := by rw [place_eq, show 36 + 36 * c + 12 * 0 + s = 36 + 36 * c + s by omega]
theorem place1 (c s : Nat) (σ : Sg) : f_X6_place 298 (nI c) (nI s) (nI 1) σ = some (nI (48 + 36 * c + s), σ) := by rw [place_eq, show 36 + 36 * c + 12 * 1 + s = 48 + 36 * c + s by omega]
theorem place2 (c s : Nat) (σ : Sg) : f_X6_place 298 (nI c) (nI s) (nI 2) σ = some (nI (60 + 36 * c + s), σ) := by rw [place_eq, show 36 + 36 * c + 12 * 2 + s = 60 + 36 * c + s by omega]
def go (v : Vt) (c s : Nat) : Nat := v (36 + 36 * c + s)
def tu (v : Vt) (c s : Nat) : Nat := v (48 + 36 * c + s)
def wa (v : Vt) (c s : Nat) : Nat := v (60 + 36 * c + s)
theorem bnE {β γ : Type} (x : γ) (K : γ → β) : bn x K = K x := id rfl
theorem cbE {α β : Type} (a : α) (σ : Sg) (K : α → Sg → Option (β × Sg)) : cb (some (a, σ)) K = K a σ := id (cb_some a σ K)
theorem lj (n : Nat) : (OfNat.ofNat n : Int32) = nI n := id (li n)
theorem Ca_of {τ : Sg} {v : Vt} {g : Int32} (hC : Cl τ 1 v g) {c : Nat} (hc : c < v 1) : Ca τ (7 + 4 * c) (go v c) (tu v c) (wa v c) := by
  intro s hs
  obtain ⟨a, b, d⟩ := hC.2.2.2.2.2.1 c hc s hs
  rw [show 1 + 7 + 4 * c = 7 + 4 * c + 1 by omega] at a
  rw [show 1 + 8 + 4 * c = 7 + 4 * c + 2 by omega] at b
  rw [show 1 + 9 + 4 * c = 7 + 4 * c + 3 by omega] at d
  exact ⟨a, b, d⟩
theorem Cb_of {v : Vt} (hV : Va v) {c : Nat} (hc : c < v 1) : Cb (go v c) (tu v c) (wa v c) := fun s hs => hV.2.2.2.2.1 c hc s hs
def setc (v : Vt) (c : Nat) (g t w : Nat → Nat) : Vt := fun k => if 36 + 36 * c ≤ k ∧ k < 72 + 36 * c then (if k < 48 + 36 * c then g (k - (36 + 36 * c)) else if k < 60 + 36 * c then t (k - (48 + 36 * c)) else w (k - (60 + 36 * c))) else v k
theorem setc_g (v : Vt) (c : Nat) (g t w : Nat → Nat) {s : Nat} (hs : s < 12) : setc v c g t w (36 + 36 * c + s) = g s := by
  unfold setc
  rw [if_pos (by omega), if_pos (by omega), show 36 + 36 * c + s - (36 + 36 * c) = s by omega]
theorem setc_t (v : Vt) (c : Nat) (g t w : Nat → Nat) {s : Nat} (hs : s < 12) : setc v c g t w (48 + 36 * c + s) = t s := by
  unfold setc
  rw [if_pos (by omega), if_neg (by omega), if_pos (by omega), show 48 + 36 * c + s - (48 + 36 * c) = s by omega]
theorem setc_w (v : Vt) (c : Nat) (g t w : Nat → Nat) {s : Nat} (hs : s < 12) : setc v c g t w (60 + 36 * c + s) = w s := by
  unfold setc
  rw [if_pos (by omega), if_neg (by omega), if_neg (by omega), show 60 + 36 * c + s - (60 + 36 * c) = s by omega]
theorem setc_o (v : Vt) (c : Nat) (g t w : Nat → Nat) {k : Nat} (hk : k < 36 + 36 * c ∨ 72 + 36 * c ≤ k) : setc v c g t w k = v k := by
  unfold setc
  rw [if_neg (by omega)]
theorem setc_cong {v : Vt} {c : Nat} {g t w g' t' w' : Nat → Nat} (h : ∀ s, s < 12 → g s = g' s ∧ t s = t' s ∧ w s = w' s) : setc v c g t w = setc v c g' t' w' := by
  funext k
  unfold setc
  by_cases h1 : 36 + 36 * c ≤ k ∧ k < 72 + 36 * c
  · rw [if_pos h1, if_pos h1]
    by_cases h2 : k < 48 + 36 * c
    · rw [if_pos h2, if_pos h2]; exact (h _ (by omega)).1
    · rw [if_neg h2, if_neg h2]
      by_cases h3 : k < 60 + 36 * c
      · rw [if_pos h3, if_pos h3]; exact (h _ (by omega)).2.1
      · rw [if_neg h3, if_neg h3]; exact (h _ (by omega)).2.2
  · rw [if_neg h1, if_neg h1]
def fu (f : Nat → Nat) (t x : Nat) : Nat → Nat := fun s => if s = t then x else f s
theorem fu_s (f : Nat → Nat) (t x : Nat) : fu f t x t = x := by simp [fu]
theorem fu_n (f : Nat → Nat) {t s : Nat} (x : Nat) (h : s ≠ t) : fu f t x s = f s := by simp [fu, h]
theorem setc_ug (v : Vt) (c : Nat) (g t w : Nat → Nat) {s : Nat} (hs : s < 12) (x : Nat) : vu (setc v c g t w) (36 + 36 * c + s) x = setc v c (fu g s x) t w := by
  funext k
  by_cases h : k = 36 + 36 * c + s
  · subst h; rw [vu_s, setc_g _ _ _ _ _ hs, fu_s]
  · rw [vu_n _ _ h]
    unfold setc
    by_cases h1 : 36 + 36 * c ≤ k ∧ k < 72 + 36 * c
    · rw [if_pos h1, if_pos h1]
      by_cases h2 : k < 48 + 36 * c
      · rw [if_pos h2, if_pos h2, fu_n _ _ (by omega)]
      · rw [if_neg h2, if_neg h2]
    · rw [if_neg h1, if_neg h1]
theorem setc_ut (v : Vt) (c : Nat) (g t w : Nat → Nat) {s : Nat} (hs : s < 12) (x : Nat) : vu (setc v c g t w) (48 + 36 * c + s) x = setc v c g (fu t s x) w := by
  funext k
  by_cases h : k = 48 + 36 * c + s
  · subst h; rw [vu_s, setc_t _ _ _ _ _ hs, fu_s]
  · rw [vu_n _ _ h]
    unfold setc
    by_cases h1 : 36 + 36 * c ≤ k ∧ k < 72 + 36 * c
    · rw [if_pos h1, if_pos h1]
      by_cases h2 : k < 48 + 36 * c
      · rw [if_pos h2, if_pos h2]
      · rw [if_neg h2, if_neg h2]
        by_cases h3 : k < 60 + 36 * c
        · rw [if_pos h3, if_pos h3, fu_n _ _ (by omega)]
        · rw [if_neg h3, if_neg h3]
    · rw [if_neg h1, if_neg h1]
theorem setc_uw (v : Vt) (c : Nat) (g t w : Nat → Nat) {s : Nat} (hs : s < 12) (x : Nat) : vu (setc v c g t w) (60 + 36 * c + s) x = setc v c g t (fu w s x) := by
  funext k
  by_cases h : k = 60 + 36 * c + s
  · subst h; rw [vu_s, setc_w _ _ _ _ _ hs, fu_s]
  · rw [vu_n _ _ h]
    unfold setc
    by_cases h1 : 36 + 36 * c ≤ k ∧ k < 72 + 36 * c
    · rw [if_pos h1, if_pos h1]
      by_cases h2 : k < 48 + 36 * c
      · rw [if_pos h2, if_pos h2]
      · rw [if_neg h2, if_neg h2]
        by_cases h3 : k < 60 + 36 * c
        · rw [if_pos h3, if_pos h3]
        · rw [if_neg h3, if_neg h3, fu_n _ _ (by omega)]
    · rw [if_neg h1, if_neg h1]
theorem setc_id (v : Vt) (c : Nat) : setc v c (go v c) (tu v c) (wa v c) = v := by
  funext k
  unfold setc go tu wa
  by_cases h1 : 36 + 36 * c ≤ k ∧ k < 72 + 36 * c
  · rw [if_pos h1]
    by_cases h2 : k < 48 + 36 * c
    · rw [if_pos h2, show 36 + 36 * c + (k - (36 + 36 * c)) = k by omega]
    · rw [if_neg h2]
      by_cases h3 : k < 60 + 36 * c
      · rw [if_pos h3, show 48 + 36 * c + (k - (48 + 36 * c)) = k by omega]
      · rw [if_neg h3, show 60 + 36 * c + (k - (60 + 36 * c)) = k by omega]
  · rw [if_neg h1]
/-- a call added -/
def addc (v : Vt) (g t w : Nat → Nat) : Vt := vu (setc v (v 1) g t w) 1 (v 1 + 1)
theorem Va_add {v : Vt} {g t w : Nat → Nat} (hV : Va v) (h8 : v 1 < 8) (hB : Cb g t w) (hi : ∀ s, s < 12 → ∀ r, r < 12 → g s = g r → s = r) : Va (addc v g t w) := by
  obtain ⟨h0, h1, h2, hd, hcc, hii, hp⟩ := hV
  have e1 : addc v g t w 1 = v 1 + 1 := vu_s _ _ _
  have en : ∀ k, k ≠ 1 → (k < 36 + 36 * v 1 ∨ 72 + 36 * v 1 ≤ k) → addc v g t w k = v k := fun k a b => by
    unfold addc
    rw [vu_n _ _ a, setc_o _ _ _ _ _ b]
  have eg : ∀ s, s < 12 → addc v g t w (36 + 36 * v 1 + s) = g s := fun s hs => by unfold addc; rw [vu_n _ _ (by omega), setc_g _ _ _ _ _ hs]
  have et : ∀ s, s < 12 → addc v g t w (48 + 36 * v 1 + s) = t s := fun s hs => by unfold addc; rw [vu_n _ _ (by omega), setc_t _ _ _ _ _ hs]
  have ew : ∀ s, s < 12 → addc v g t w (60 + 36 * v 1 + s) = w s := fun s hs => by unfold addc; rw [vu_n _ _ (by omega), setc_w _ _ _ _ _ hs]
  refine ⟨by rw [en 0 (by omega) (by omega)]; exact h0, by rw [e1]; omega, by rw [en 2 (by omega) (by omega)]; exact h2, fun d hd' => ?_, fun c hc s hs => ?_, fun c hc s hs r hr => ?_, fun i hi' => ?_⟩
  · rw [en 0 (by omega) (by omega)] at hd'
    rw [en _ (by omega) (by omega), en _ (by omega) (by omega), en _ (by omega) (by omega), en _ (by omega) (by omega)]
    exact hd d hd'
  · rw [e1] at hc
    by_cases e : c = v 1
    · subst e; rw [eg s hs, et s hs, ew s hs]; exact hB s hs
    · rw [en _ (by omega) (by omega), en _ (by omega) (by omega), en _ (by omega) (by omega)]
      exact hcc c (by omega) s hs
  · rw [e1] at hc
    by_cases e : c = v 1
    · subst e; rw [eg s hs, eg r hr]; exact hi s hs r hr
    · rw [en _ (by omega) (by omega), en _ (by omega) (by omega)]
      exact hii c (by omega) s hs r hr
  · rw [en 2 (by omega) (by omega)] at hi'
    rw [en _ (by omega) (by omega), e1]
    have := hp i hi'
    omega
theorem Cl_add {τ τ' : Sg} {v : Vt} {g : Int32} {f t w : Nat → Nat} (hC : Cl τ 1 v g) (hV : Va v) (h8 : v 1 < 8) (hA : Ca τ' (7 + 4 * v 1) f t w) (h3 : τ' 1 3 = nI (v 1 + 1)) (hn : ∀ i, i ≠ 3 → τ' 1 i = τ 1 i) (ho : ∀ k, k ≠ 1 → k ≠ 7 + 4 * v 1 + 1 → k ≠ 7 + 4 * v 1 + 2 → k ≠ 7 + 4 * v 1 + 3 → τ' k = τ k) : Cl τ' 1 (addc v f t w) g := by
  obtain ⟨h0, h1, h2, -⟩ := hV
  obtain ⟨c0, c3, c5, c8, cd, cc, cp⟩ := hC
  have e1 : addc v f t w 1 = v 1 + 1 := vu_s _ _ _
  have en : ∀ k, k ≠ 1 → (k < 36 + 36 * v 1 ∨ 72 + 36 * v 1 ≤ k) → addc v f t w k = v k := fun k a b => by
    unfold addc
    rw [vu_n _ _ a, setc_o _ _ _ _ _ b]
  have eg : ∀ s, s < 12 → addc v f t w (36 + 36 * v 1 + s) = f s := fun s hs => by unfold addc; rw [vu_n _ _ (by omega), setc_g _ _ _ _ _ hs]
  have et : ∀ s, s < 12 → addc v f t w (48 + 36 * v 1 + s) = t s := fun s hs => by unfold addc; rw [vu_n _ _ (by omega), setc_t _ _ _ _ _ hs]
  have ew : ∀ s, s < 12 → addc v f t w (60 + 36 * v 1 + s) = w s := fun s hs => by unfold addc; rw [vu_n _ _ (by omega), setc_w _ _ _ _ _ hs]
  refine ⟨?_, ?_, ?_, ?_, fun d hd' => ?_, fun c hc s hs => ?_, fun i hi' => ?_⟩
  · rw [hn 0 (by omega), en 0 (by omega) (by omega)]; exact c0
  · rw [h3, e1]
  · rw [hn 5 (by omega), en 2 (by omega) (by omega)]; exact c5
  · rw [hn 8 (by omega)]; exact c8
  · rw [en 0 (by omega) (by omega)] at hd'
    rw [en _ (by omega) (by omega), en _ (by omega) (by omega), en _ (by omega) (by omega), en _ (by omega) (by omega), ho _ (by omega) (by omega) (by omega) (by omega), ho _ (by omega) (by omega) (by omega) (by omega)]
    exact cd d hd'
  · rw [e1] at hc
    by_cases e : c = v 1
    · subst e
      rw [eg s hs, et s hs, ew s hs]
      obtain ⟨x1, x2, x3⟩ := hA s hs
      rw [show 1 + 7 + 4 * v 1 = 7 + 4 * v 1 + 1 by omega, show 1 + 8 + 4 * v 1 = 7 + 4 * v 1 + 2 by omega, show 1 + 9 + 4 * v 1 = 7 + 4 * v 1 + 3 by omega]
      exact ⟨x1, x2, x3⟩
    · rw [en _ (by omega) (by omega), en _ (by omega) (by omega), en _ (by omega) (by omega), ho _ (by omega) (by omega) (by omega) (by omega), ho _ (by omega) (by omega) (by omega) (by omega), ho _ (by omega) (by omega) (by omega) (by omega)]
      exact cc c (by omega) s hs
  · rw [en 2 (by omega) (by omega)] at hi'
    rw [en _ (by omega) (by omega), ho _ (by omega) (by omega) (by omega) (by omega)]
    exact cp i hi'
theorem ux_s (σ : Sg) (k i : Nat) (x : Int32) : up σ k i x k i = x := by simp [up_a]
theorem ux_n (σ : Sg) (k : Nat) {i j : Nat} (x : Int32) (h : j ≠ i) : up σ k i x k j = σ k j := by simp [up_a, h]
theorem ux_o (σ : Sg) {k k' : Nat} (i : Nat) (x : Int32) (j : Nat) (h : k' ≠ k) : up σ k i x k' j = σ k' j := by rw [up_o _ _ _ _ h]
theorem adds_z {τ σ : Sg} {v : Vt} {g : Int32} {f t w : Nat → Nat} (hV : Va v) (h8 : v 1 < 8) (n : Nat) (h1 : Mo (σ 299) (setc v (v 1) f t w) g) (h2 : ∀ s, s < 12 → f s = s ∧ t s = 0 ∧ w s = 0) (h3 : ∀ k, k ≠ 299 → σ k = τ k) : ∃ a, f_X6_adds_16 (n + 1) 298 (nI 12) σ = some a ∧ a.1 = nI (v 1) ∧ Mo (a.2 299) (addc v (fun s => s) (fun _ => 0) (fun _ => 0)) g ∧ ∀ k, k ≠ 299 → a.2 k = τ k := by
  have hM1 := Mo_up h1 (k := 1) (x := v 1 + 1) (by omega)
  have e1 : setc v (v 1) f t w 1 = v 1 := setc_o _ _ _ _ _ (by omega)
  refine ex_of (a := (nI (v 1), up σ 299 1 (nI (v 1 + 1)))) ?_ ⟨rfl, ?_, fun k hk => (up_o _ _ _ _ hk).trans (h3 k hk)⟩
  · skip
    rw [f_X6_adds_16, if_pos kd_298, if_pos (by decide), if_pos (by decide), if_pos (by decide), rf_298_0, show ix 1 = 1 from rfl]
    simp (disch := omega) only [kd_0, kd_1, kd_39, kd_269, kd_273, kd_298, rf_0_0, rf_0_1, rf_0_2, rf_0_3, rf_0_4, rf_1_1, rf_1_2, rf_1_4, rf_1_6, rf_1_7, rf_39_0, rf_269_0, rf_269_5, rf_269_6, rf_298_0, rf_298_1, rf_298_3, rf_298_4, rf_298_6, rf_298_7, rf_298_8, rf_298_9, bnE, cbE, lj, ix_nI, inb_nI, n_lt, n_le, n_eq, n_div, n_rem, nI_add, pk_mul, decide_eq_true_eq, if_true, if_false, bI_0, bI_or, not_true, not_false_eq_true, ↓reduceIte, h1.2, Nat.le_refl, show 1 < 336 by omega, e1, ux_s, ux_n, ux_o]
    rw [n_sub (by omega), show v 1 + 1 - 1 = v 1 by omega]
  · unfold addc
    rw [setc_cong (g' := fun s => s) (t' := fun _ => 0) (w' := fun _ => 0) h2] at hM1
    exact hM1
theorem adds_s {τ σ : Sg} {v : Vt} {g : Int32} {f t w : Nat → Nat} (hV : Va v) (h8 : v 1 < 8) (n j : Nat) (hj : j < 12) (h1 : Mo (σ 299) (setc v (v 1) f t w) g) (h2 : ∀ s, s < j → f s = s ∧ t s = 0 ∧ w s = 0) (h3 : ∀ k, k ≠ 299 → σ k = τ k) : ∃ σ', f_X6_adds_16 (n + 1) 298 (nI j) σ = f_X6_adds_16 n 298 (nI (j + 1)) σ' ∧ ∃ f t w, Mo (σ' 299) (setc v (v 1) f t w) g ∧ (∀ s, s < j + 1 → f s = s ∧ t s = 0 ∧ w s = 0) ∧ ∀ k, k ≠ 299 → σ' k = τ k := by
  have e1 : ∀ f t w, setc v (v 1) f t w 1 = v 1 := fun f t w => setc_o _ _ _ _ _ (by omega)
  have hM1 := Mo_up h1 (k := 36 + 36 * v 1 + j) (x := j) (by omega)
  rw [setc_ug _ _ _ _ _ hj] at hM1
  have hM2 := Mo_up hM1 (k := 48 + 36 * v 1 + j) (x := 0) (by omega)
  rw [setc_ut _ _ _ _ _ hj] at hM2
  have hM3 := Mo_up hM2 (k := 60 + 36 * v 1 + j) (x := 0) (by omega)
  rw [setc_uw _ _ _ _ _ hj] at hM3
  refine ⟨up (up (up σ 299 (36 + 36 * v 1 + j) (nI j)) 299 (48 + 36 * v 1 + j) (nI 0)) 299 (60 + 36 * v 1 + j) (nI 0), ?_, _, _, _, hM3, fun s hs => ?_, fun k hk => by rw [up_o _ _ _ _ hk, up_o _ _ _ _ hk, up_o _ _ _ _ hk]; exact h3 k hk⟩
  · skip
    rw [f_X6_adds_16, if_pos kd_298, if_neg (by rw [show (12 : Int32) = nI 12 from rfl, n_le (by omega) (by omega)]; omega), if_pos (by decide), rf_298_0, show ix 1 = 1 from rfl, h1.2 1 (by decide) (by decide), e1, show (0 : Int32) = nI 0 from rfl, place0, cb_some]
    simp (disch := omega) only [kd_0, kd_1, kd_39, kd_269, kd_273, kd_298, rf_0_0, rf_0_1, rf_0_2, rf_0_3, rf_0_4, rf_1_1, rf_1_2, rf_1_4, rf_1_6, rf_1_7, rf_39_0, rf_269_0, rf_269_5, rf_269_6, rf_298_0, rf_298_1, rf_298_3, rf_298_4, rf_298_6, rf_298_7, rf_298_8, rf_298_9, bnE, cbE, lj, ix_nI, inb_nI, n_lt, n_le, n_eq, n_div, n_rem, nI_add, pk_mul, decide_eq_true_eq, if_true, if_false, bI_0, bI_or, not_true, not_false_eq_true, ↓reduceIte, place0, place1, place2, h1.2, show ¬ 12 ≤ j by omega, show 1 < 336 by omega, e1, ux_s, ux_n, ux_o, show 36 + 36 * v 1 + j < 336 by omega, show 48 + 36 * v 1 + j < 336 by omega, show 60 + 36 * v 1 + j < 336 by omega]
  · by_cases e : s = j
    · subst e; rw [fu_s, fu_s, fu_s]; exact ⟨rfl, rfl, rfl⟩
    · rw [fu_n _ _ e, fu_n _ _ e, fu_n _ _ e]; exact h2 s (by omega)
/-- the reference adds a call -/
theorem addsM {τ : Sg} {v : Vt} {g : Int32} (hM : Mo (τ 299) v g) (hV : Va v) (h8 : v 1 < 8) : ∃ τ', f_X6_adds 298 τ = some (nI (v 1), τ') ∧ Mo (τ' 299) (addc v (fun s => s) (fun _ => 0) (fun _ => 0)) g ∧ ∀ k, k ≠ 299 → τ' k = τ k := by
  have e0 : f_X6_adds 298 τ = f_X6_adds_16 FU 298 (nI 0) τ := by
    rw [f_X6_adds, if_pos kd_298, if_pos (by decide), rf_298_0, show ix 1 = 1 from rfl, hM.2 1 (by omega) (by omega), if_neg (by rw [show (8 : Int32) = nI 8 from rfl, n_eq (by omega) (by omega)]; omega)]
    rfl
  rw [e0]
  have key := loopI (fun n j σ => f_X6_adds_16 n 298 (nI j) σ) (fun j σ => ∃ f t w, Mo (σ 299) (setc v (v 1) f t w) g ∧ (∀ s, s < j → f s = s ∧ t s = 0 ∧ w s = 0) ∧ ∀ k, k ≠ 299 → σ k = τ k) (fun q => q.1 = nI (v 1) ∧ Mo (q.2 299) (addc v (fun s => s) (fun _ => 0) (fun _ => 0)) g ∧ ∀ k, k ≠ 299 → q.2 k = τ k) 12 ?_ ?_ FU 0 τ (by omega) (FU_gt (by omega)) ⟨go v (v 1), tu v (v 1), wa v (v 1), by rw [setc_id]; exact hM, fun s hs => absurd hs (Nat.not_lt_zero _), fun k hk => rfl⟩
  · obtain ⟨⟨r, τ'⟩, e, rfl, h2, h3⟩ := key
    exact ⟨τ', e, h2, h3⟩
  · intro n σ hI
    obtain ⟨f, t, w, h1, h2, h3⟩ := hI
    exact adds_z hV h8 n h1 h2 h3
  · intro n j σ hj hI
    obtain ⟨f, t, w, h1, h2, h3⟩ := hI
    exact Or.inl (adds_s hV h8 n j hj h1 h2 h3)
/-- the class sets a call's numbers anew -/
theorem resetC {σ : Sg} {k : Nat} (hk : kd k = 0) : ∃ σ', f_X0_reset k σ = some ((), σ') ∧ Ca σ' k (fun s => s) (fun _ => 0) (fun _ => 0) ∧ ∀ i, i ≠ k + 1 → i ≠ k + 2 → i ≠ k + 3 → σ' i = σ i := by
  obtain ⟨r0, r1, r2, -⟩ := st0 hk
  rw [f_X0_reset, if_pos hk]
  have key := loopI (fun n j τ => f_X0_reset_2 n k (nI j) τ) (fun j τ => (∀ s, s < j → τ (k + 1) s = nI s ∧ τ (k + 2) s = nI 0 ∧ τ (k + 3) s = nI 0) ∧ ∀ i, i ≠ k + 1 → i ≠ k + 2 → i ≠ k + 3 → τ i = σ i) (fun q => Ca q.2 k (fun s => s) (fun _ => 0) (fun _ => 0) ∧ ∀ i, i ≠ k + 1 → i ≠ k + 2 → i ≠ k + 3 → q.2 i = σ i) 12 ?_ ?_ FU 0 σ (by omega) (FU_gt (by omega)) ⟨fun s hs => absurd hs (Nat.not_lt_zero _), fun i _ _ _ => rfl⟩
  · obtain ⟨⟨⟨⟩, τ'⟩, e, h2, h3⟩ := key
    exact ⟨τ', e, h2, h3⟩
  · intro n τ hI
    refine ex_of (a := ((), τ)) ?_ hI
    rw [f_X0_reset_2, if_pos hk]
    simp (disch := omega) only [kd_0, kd_1, kd_39, kd_269, kd_273, kd_298, rf_0_0, rf_0_1, rf_0_2, rf_0_3, rf_0_4, rf_1_1, rf_1_2, rf_1_4, rf_1_6, rf_1_7, rf_39_0, rf_269_0, rf_269_5, rf_269_6, rf_298_0, rf_298_1, rf_298_3, rf_298_4, rf_298_6, rf_298_7, rf_298_8, rf_298_9, bnE, cbE, lj, ix_nI, inb_nI, n_lt, n_le, n_eq, n_div, n_rem, nI_add, pk_mul, decide_eq_true_eq, if_true, if_false, bI_0, bI_or, not_true, not_false_eq_true, ↓reduceIte, Nat.le_refl]
  · intro n j τ hj hI
    obtain ⟨h1, h2⟩ := hI
    refine stp (s' := up (up (up τ (k + 1) j (nI j)) (k + 2) j (nI 0)) (k + 3) j (nI 0)) ?_ ⟨fun s hs => ?_, fun i a b c => by rw [up_o _ _ _ _ c, up_o _ _ _ _ b, up_o _ _ _ _ a]; exact h2 i a b c⟩
    · skip
      rw [f_X0_reset_2, if_pos hk]
      simp (disch := omega) only [kd_0, kd_1, kd_39, kd_269, kd_273, kd_298, rf_0_0, rf_0_1, rf_0_2, rf_0_3, rf_0_4, rf_1_1, rf_1_2, rf_1_4, rf_1_6, rf_1_7, rf_39_0, rf_269_0, rf_269_5, rf_269_6, rf_298_0, rf_298_1, rf_298_3, rf_298_4, rf_298_6, rf_298_7, rf_298_8, rf_298_9, bnE, cbE, lj, ix_nI, inb_nI, n_lt, n_le, n_eq, n_div, n_rem, nI_add, pk_mul, decide_eq_true_eq, if_true, if_false, bI_0, bI_or, not_true, not_false_eq_true, ↓reduceIte, show ¬ 12 ≤ j by omega, hj, r0, r1, r2]
    · by_cases e : s = j
      · subst e; simp [up_a]
      · simp [up_a, e]; exact h1 s (by omega)
theorem addC {τ : Sg} {v : Vt} {g : Int32} (hC : Cl τ 1 v g) (h8 : v 1 < 8) : ∃ τ', f_X3_addCall 1 τ = some (nI (v 1), τ') ∧ Ca τ' (7 + 4 * v 1) (fun s => s) (fun _ => 0) (fun _ => 0) ∧ τ' 1 3 = nI (v 1 + 1) ∧ (∀ i, i ≠ 3 → τ' 1 i = τ 1 i) ∧ ∀ k, k ≠ 1 → k ≠ 7 + 4 * v 1 + 1 → k ≠ 7 + 4 * v 1 + 2 → k ≠ 7 + 4 * v 1 + 3 → τ' k = τ k := by
  obtain ⟨r0, r1, -⟩ := c_at h8
  obtain ⟨σ', e, q1, q2⟩ := resetC (σ := τ) r1
  have e3 : σ' 1 3 = nI (v 1) := by rw [q2 1 (by omega) (by omega) (by omega)]; exact hC.2.1
  rw [f_X3_addCall, if_pos kd_1, hC.2.1]
  simp (disch := omega) only [kd_0, kd_1, kd_39, kd_269, kd_273, kd_298, rf_0_0, rf_0_1, rf_0_2, rf_0_3, rf_0_4, rf_1_1, rf_1_2, rf_1_4, rf_1_6, rf_1_7, rf_39_0, rf_269_0, rf_269_5, rf_269_6, rf_298_0, rf_298_1, rf_298_3, rf_298_4, rf_298_6, rf_298_7, rf_298_8, rf_298_9, bnE, cbE, lj, ix_nI, inb_nI, n_lt, n_le, n_eq, n_div, n_rem, nI_add, pk_mul, decide_eq_true_eq, if_true, if_false, bI_0, bI_or, not_true, not_false_eq_true, ↓reduceIte, h8, r0, e, e3]
  simp only [up_a, and_self, if_true]
  rw [n_sub (by omega), show v 1 + 1 - 1 = v 1 by omega]
  refine ⟨_, rfl, fun s hs => ?_, by simp [up_a], fun i hi => ?_, fun k a b c d => ?_⟩
  · rw [up_o _ _ _ _ (by omega), up_o _ _ _ _ (by omega), up_o _ _ _ _ (by omega)]; exact q1 s hs
  · rw [up_a, if_neg (by omega), q2 1 (by omega) (by omega) (by omega)]
  · rw [up_o _ _ _ _ a]; exact q2 k b c d
theorem op_call (v : Vt) (g : Int32) (hV : Va v) : ∃ (r : Int32) (v' : Vt) (g' : Int32), Va v' ∧ OkR r v g v' g' ∧ OpC (f_X3_addCall 1) v g r v' g' ∧ OpM (f_X6_adds 298) v g r v' g' := by
  have h1 := hV.2.1
  by_cases h8 : v 1 < 8
  · refine ⟨nI (v 1), addc v (fun s => s) (fun _ => 0) (fun _ => 0), g, Va_add hV h8 (fun s hs => ⟨hs, by omega, by omega⟩) (fun s _ r _ e => e), Or.inl (ge0 (by omega)), fun τ hC => ?_, fun τ hM => addsM hM hV h8⟩
    obtain ⟨τ', e, q1, q2, q3, q4⟩ := addC hC h8
    exact ⟨τ', e, Cl_add hC hV h8 q1 q2 q3 q4, fun k hk => q4 k (by omega) (by omega) (by omega) (by omega)⟩
  · have e8 : v 1 = 8 := by omega
    refine ⟨-4, v, g, hV, Or.inr ⟨2, rfl, rfl, rfl⟩, OpC_bad (fun τ hC => ?_), OpM_bad (fun τ hM => ?_)⟩
    · rw [f_X3_addCall, if_pos kd_1, hC.2.1, if_neg (by rw [e8]; decide)]
    · rw [f_X6_adds, if_pos kd_298, if_pos (by decide), rf_298_0, show ix 1 = 1 from rfl, hM.2 1 (by omega) (by omega), if_pos (by rw [e8]; rfl)]
theorem sim_call {n : Nat} (hn : n < 600) : Sim (Inv n) (Inv (n + 1)) (f_X5_call 0) (f_X6_call 298) := by
  refine mut_sim (opc := f_X3_addCall 1) (opm := f_X6_adds 298) hn (fun σ => ?_) (fun σ => ?_) op_call
  · rw [f_X5_call, if_pos kd_0, rf_0_0, rf_0_1]
  · rw [f_X6_call, if_pos kd_298]
