/-! What holds between two calls. v, g: the square now; hv, hg, ks: the states to go back to (0 the oldest); tl, tb: the text; rz: how often refused. -/
def push {α : Type} (hv : Nat → α) (ks : Nat) (x : α) : Nat → α := if ks < 5 then (fun j => if j = ks then x else hv j) else (fun j => if j = 4 then x else hv (j + 1))
def VI (v : Vt) (hv : Nat → Vt) (ks tl : Nat) (tb : Nat → Nat) : Prop := Va v ∧ ks ≤ 5 ∧ (∀ j, j < ks → Va (hv j)) ∧ tl ≤ 120 ∧ ∀ i, i < tl → tb i < 128
def CH (σ : Sg) (hv : Nat → Vt) (hg : Nat → Int32) (ks nx : Nat) : Prop := nx < 6 ∧ σ 39 1 = nI nx ∧ σ 39 2 = nI ks ∧ ∀ j, j < ks → Cl σ (41 + 38 * ((nx + 6 - ks + j) % 6)) (hv j) (hg j)
def CT (σ : Sg) (tl : Nat) (tb : Nat → Nat) (rz : Nat → Int32) : Prop := σ 269 1 = nI tl ∧ (∀ i, i < tl → σ 270 i = nI (tb i)) ∧ (∀ k, k < 3 → σ 297 k = rz k) ∧ ∀ p, p < 48 → σ 283 p = nI p
def CI (σ : Sg) (v : Vt) (g : Int32) (hv : Nat → Vt) (hg : Nat → Int32) (ks tl : Nat) (tb : Nat → Nat) (rz : Nat → Int32) : Prop := Cl σ 1 v g ∧ (∃ nx, CH σ hv hg ks nx) ∧ CT σ tl tb rz
def MH (σ : Sg) (hv : Nat → Vt) (hg : Nat → Int32) (ks : Nat) : Prop := σ 298 2 = nI ks ∧ ∀ j, j < ks → Mo (fun k => σ 300 (336 * j + k)) (hv j) (hg j)
def MT (σ : Sg) (tl : Nat) (tb : Nat → Nat) (rz : Nat → Int32) : Prop := σ 298 5 = nI tl ∧ (∀ i, i < tl → σ 303 i = nI (tb i)) ∧ ∀ k, k < 3 → σ 302 k = rz k
def MI (σ : Sg) (v : Vt) (g : Int32) (hv : Nat → Vt) (hg : Nat → Int32) (ks tl : Nat) (tb : Nat → Nat) (rz : Nat → Int32) : Prop := Mo (σ 299) v g ∧ MH σ hv hg ks ∧ MT σ tl tb rz
def Bz (rz : Nat → Int32) (n : Nat) : Prop := ∀ k, k < 3 → ∃ m, m ≤ n ∧ rz k = nI m
def rzU (rz : Nat → Int32) (k : Nat) : Nat → Int32 := fun i => if i = k then rz i + 1 else rz i
def RB (rz rz' : Nat → Int32) : Prop := rz' = rz ∨ ∃ k, rz' = rzU rz k
theorem Bz_up {rz rz' : Nat → Int32} {n : Nat} (h : Bz rz n) (r : RB rz rz') : Bz rz' (n + 1) := by
  intro k hk
  obtain ⟨m, h1, h2⟩ := h k hk
  rcases r with rfl | ⟨j, rfl⟩
  · exact ⟨m, by omega, h2⟩
  · unfold rzU
    by_cases e : k = j
    · rw [if_pos e, h2]; exact ⟨m + 1, by omega, nI_1 m⟩
    · rw [if_neg e]; exact ⟨m, by omega, h2⟩
def Inv (n : Nat) (σ : Sg) : Prop := ∃ (v : Vt) (g : Int32) (hv : Nat → Vt) (hg : Nat → Int32) (ks tl : Nat) (tb : Nat → Nat) (rz : Nat → Int32), VI v hv ks tl tb ∧ Bz rz n ∧ CI σ v g hv hg ks tl tb rz ∧ MI σ v g hv hg ks tl tb rz
theorem inv_mono (n : Nat) (σ : Sg) (h : Inv n σ) : Inv (n + 1) σ := by
  obtain ⟨v, g, hv, hg, ks, tl, tb, rz, hV, hB, hC, hM⟩ := h
  exact ⟨v, g, hv, hg, ks, tl, tb, rz, hV, Bz_up hB (Or.inl rfl), hC, hM⟩
theorem Cl_loc {σ σ' : Sg} {a : Nat} {v : Vt} {g : Int32} (h : Cl σ a v g) (h8 : v 1 ≤ 8) (e : ∀ k, a ≤ k → k < a + 38 → σ' k = σ k) : Cl σ' a v g := by
  obtain ⟨h1, h2, h3, h4, h5, h6, h7⟩ := h
  refine ⟨by rw [e a (by omega) (by omega)]; exact h1, by rw [e a (by omega) (by omega)]; exact h2, by rw [e a (by omega) (by omega)]; exact h3, by rw [e a (by omega) (by omega)]; exact h4, fun d hd => ?_, fun c hc s hs => ?_, fun i hi => ?_⟩
  · rw [e (a + 1) (by omega) (by omega), e (a + 2) (by omega) (by omega)]; exact h5 d hd
  · rw [e (a + 7 + 4 * c) (by omega) (by omega), e (a + 8 + 4 * c) (by omega) (by omega), e (a + 9 + 4 * c) (by omega) (by omega)]; exact h6 c hc s hs
  · rw [e (a + 4) (by omega) (by omega)]; exact h7 i hi
theorem CH_loc {σ σ' : Sg} {hv : Nat → Vt} {hg : Nat → Int32} {ks nx : Nat} (h : CH σ hv hg ks nx) (hV : ∀ j, j < ks → Va (hv j)) (e : ∀ k, 39 ≤ k → k < 269 → σ' k = σ k) : CH σ' hv hg ks nx := by
  obtain ⟨h1, h2, h3, h4⟩ := h
  refine ⟨h1, by rw [e 39 (by omega) (by omega)]; exact h2, by rw [e 39 (by omega) (by omega)]; exact h3, fun j hj => ?_⟩
  exact Cl_loc (h4 j hj) (hV j hj).2.1 (fun k a b => e k (by omega) (by omega))
theorem CT_loc {σ σ' : Sg} {tl : Nat} {tb : Nat → Nat} {rz : Nat → Int32} (h : CT σ tl tb rz) (e1 : σ' 269 1 = σ 269 1) (e2 : σ' 270 = σ 270) (e3 : σ' 297 = σ 297) (e4 : σ' 283 = σ 283) : CT σ' tl tb rz := by
  obtain ⟨h1, h2, h3, h4⟩ := h
  exact ⟨by rw [e1]; exact h1, by rw [e2]; exact h2, by rw [e3]; exact h3, by rw [e4]; exact h4⟩
theorem CI_loc {σ σ' : Sg} {v : Vt} {g : Int32} {hv : Nat → Vt} {hg : Nat → Int32} {ks tl : Nat} {tb : Nat → Nat} {rz : Nat → Int32} (hV : VI v hv ks tl tb) (h : CI σ v g hv hg ks tl tb rz) (e : ∀ k, k < 298 → σ' k = σ k) : CI σ' v g hv hg ks tl tb rz := by
  obtain ⟨h1, ⟨nx, h2⟩, h3⟩ := h
  exact ⟨Cl_loc h1 hV.1.2.1 (fun k a b => e k (by omega)), ⟨nx, CH_loc h2 hV.2.2.1 (fun k a b => e k (by omega))⟩, CT_loc h3 (by rw [e 269 (by omega)]) (e 270 (by omega)) (e 297 (by omega)) (e 283 (by omega))⟩
theorem MI_loc {σ σ' : Sg} {v : Vt} {g : Int32} {hv : Nat → Vt} {hg : Nat → Int32} {ks tl : Nat} {tb : Nat → Nat} {rz : Nat → Int32} (h : MI σ v g hv hg ks tl tb rz) (e : ∀ k, 298 ≤ k → σ' k = σ k) : MI σ' v g hv hg ks tl tb rz := by
  unfold MI MH MT at *
  rw [e 299 (by omega), e 298 (by omega), e 300 (by omega), e 303 (by omega), e 302 (by omega)]
  exact h
/-- the class's part and the reference's part give a Sim -/
theorem sim_of {β : Type} {fx fm : Sg → Option (β × Sg)} {n : Nat} (hn : n < 600) (h : ∀ (v : Vt) (g : Int32) (hv : Nat → Vt) (hg : Nat → Int32) (ks tl : Nat) (tb : Nat → Nat) (rz : Nat → Int32), VI v hv ks tl tb → Bz rz 600 →
    ∃ (r : β) (v' : Vt) (g' : Int32) (hv' : Nat → Vt) (hg' : Nat → Int32) (ks' tl' : Nat) (tb' : Nat → Nat) (rz' : Nat → Int32), VI v' hv' ks' tl' tb' ∧ RB rz rz' ∧
      (∀ σ, CI σ v g hv hg ks tl tb rz → ∃ σ', fx σ = some (r, σ') ∧ CI σ' v' g' hv' hg' ks' tl' tb' rz' ∧ ∀ k, 298 ≤ k → σ' k = σ k) ∧
      (∀ σ, MI σ v g hv hg ks tl tb rz → ∃ σ', fm σ = some (r, σ') ∧ MI σ' v' g' hv' hg' ks' tl' tb' rz' ∧ ∀ k, k < 298 → σ' k = σ k)) : Sim (Inv n) (Inv (n + 1)) fx fm := by
  intro σ hI
  obtain ⟨v, g, hv, hg, ks, tl, tb, rz, hV, hB, hC, hM⟩ := hI
  obtain ⟨r, v', g', hv', hg', ks', tl', tb', rz', hV', hR, hx, hm⟩ := h v g hv hg ks tl tb rz hV (fun k hk => by obtain ⟨m, a, b⟩ := hB k hk; exact ⟨m, by omega, b⟩)
  obtain ⟨σ1, e1, c1, l1⟩ := hx σ hC
  obtain ⟨σ2, e2, c2, l2⟩ := hm σ1 (MI_loc hM l1)
  exact ⟨r, σ1, σ2, e1, e2, v', g', hv', hg', ks', tl', tb', rz', hV', Bz_up hB hR, CI_loc hV' c1 l2, c2⟩
theorem inv_0 : Inv 0 σ0 := by
  refine ⟨fun _ => 0, 0, fun _ _ => 0, fun _ => 0, 0, 0, fun _ => 0, fun _ => 0, ⟨⟨Nat.zero_le _, Nat.zero_le _, Nat.zero_le _, fun d h => absurd h (Nat.not_lt_zero _), fun d h => absurd h (Nat.not_lt_zero _), fun d h => absurd h (Nat.not_lt_zero _), fun d h => absurd h (Nat.not_lt_zero _)⟩, by omega, fun j h => absurd h (Nat.not_lt_zero _), by omega, fun i h => absurd h (Nat.not_lt_zero _)⟩, fun k hk => ⟨0, Nat.le_refl _, rfl⟩, ⟨⟨rfl, rfl, rfl, rfl, fun d h => absurd h (Nat.not_lt_zero _), fun d h => absurd h (Nat.not_lt_zero _), fun d h => absurd h (Nat.not_lt_zero _)⟩, ⟨0, by omega, rfl, rfl, fun j h => absurd h (Nat.not_lt_zero _)⟩, rfl, fun i h => absurd h (Nat.not_lt_zero _), fun k h => rfl, fun p hp => ?_⟩, ⟨rfl, fun k h1 h2 => rfl⟩, ⟨rfl, fun j h => absurd h (Nat.not_lt_zero _)⟩, rfl, fun i h => absurd h (Nat.not_lt_zero _), fun k h => rfl⟩
  unfold σ0
  rw [if_pos ⟨rfl, hp⟩]
