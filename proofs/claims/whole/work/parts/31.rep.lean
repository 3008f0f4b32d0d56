/-! What the cells hold: a square's numbers as naturals (v), the calls given (g). v: 0 dancers, 1 calls, 2 the plan's length; 4 + 4 d: spot, facing, home's spot, home's facing; 36 + 36 c: goes, turns, wants of twelve spots each; 324 + i: the plan. -/
abbrev Vt : Type := Nat → Nat
def Cl (σ : Sg) (a : Nat) (v : Vt) (g : Int32) : Prop :=
  σ a 0 = nI (v 0) ∧ σ a 3 = nI (v 1) ∧ σ a 5 = nI (v 2) ∧ σ a 8 = g ∧
  (∀ d, d < v 0 → σ (a + 1) d = nI (v (4 + 4 * d) * 4 + v (5 + 4 * d)) ∧ σ (a + 2) d = nI (v (6 + 4 * d) * 4 + v (7 + 4 * d))) ∧
  (∀ c, c < v 1 → ∀ s, s < 12 → σ (a + 7 + 4 * c) s = nI (v (36 + 36 * c + s)) ∧ σ (a + 8 + 4 * c) s = nI (v (48 + 36 * c + s)) ∧ σ (a + 9 + 4 * c) s = nI (v (60 + 36 * c + s))) ∧
  (∀ i, i < v 2 → σ (a + 4) i = nI (v (324 + i)))
def Mo (u : Nat → Int32) (v : Vt) (g : Int32) : Prop := u 3 = g ∧ ∀ k, k < 336 → k ≠ 3 → u k = nI (v k)
def Va (v : Vt) : Prop :=
  v 0 ≤ 8 ∧ v 1 ≤ 8 ∧ v 2 ≤ 12 ∧
  (∀ d, d < v 0 → v (4 + 4 * d) < 12 ∧ v (5 + 4 * d) < 4 ∧ v (6 + 4 * d) < 12 ∧ v (7 + 4 * d) < 4) ∧
  (∀ c, c < v 1 → ∀ s, s < 12 → v (36 + 36 * c + s) < 12 ∧ v (48 + 36 * c + s) < 4 ∧ v (60 + 36 * c + s) < 3) ∧
  (∀ c, c < v 1 → ∀ s, s < 12 → ∀ t, t < 12 → v (36 + 36 * c + s) = v (36 + 36 * c + t) → s = t) ∧
  (∀ i, i < v 2 → v (324 + i) < v 1)
/-- who is on a spot: the first dancer from j on -/
def whoF (v : Vt) (s : Nat) : Nat → Nat → Option Nat
  | 0, _ => none
  | n + 1, j => if v (4 + 4 * j) = s then some j else whoF v s n (j + 1)
def who (v : Vt) (s : Nat) : Option Nat := whoF v s (v 0) 0
def oI (o : Option Nat) : Int32 := match o with
  | some d => nI d
  | none => -1
theorem who_cls {σ : Sg} {v : Vt} {g : Int32} (hC : Cl σ 1 v g) (hV : Va v) (s : Nat) (hs : s < 12) : ∀ (k n j : Nat), k + j = v 0 → k < n → f_X3_whoIsOn_2 n 1 (nI s) (nI j) σ = some (oI (whoF v s k j), σ) := by
  intro k
  induction k with
  | zero =>
    intro n j h1 h2
    obtain ⟨m, rfl⟩ : ∃ m, n = m + 1 := ⟨n - 1, by omega⟩
    rw [f_X3_whoIsOn_2, kd_1]
    rw [hC.1]
    have := hV.1
    simp only [if_true, n_le (show v 0 < 2147483648 by omega) (show j < 2147483648 by omega), show v 0 ≤ j by omega]
    rfl
  | succ k ih =>
    intro n j h1 h2
    obtain ⟨m, rfl⟩ : ∃ m, n = m + 1 := ⟨n - 1, by omega⟩
    rw [f_X3_whoIsOn_2, kd_1]
    rw [hC.1]
    have h8 := hV.1
    have hd := (hC.2.2.2.2.1 j (by omega)).1
    obtain ⟨v1, v2, -, -⟩ := hV.2.2.2.1 j (by omega)
    have hj : ix (nI j) = j := ix_nI (by omega)
    have hb : inb (nI j) 8 = true := by rw [inb_nI (by omega)]; exact decide_eq_true (by omega)
    simp only [if_true, n_le (show v 0 < 2147483648 by omega) (show j < 2147483648 by omega), show ¬ v 0 ≤ j by omega, if_false, rf_1_1, hj, hb, hd, li]
    rw [n_div (by omega) (by omega) (by omega), show (v (4 + 4 * j) * 4 + v (5 + 4 * j)) / 4 = v (4 + 4 * j) by omega]
    simp only [n_eq (show v (4 + 4 * j) < 2147483648 by omega) (show s < 2147483648 by omega), nI_add]
    rw [whoF]
    by_cases h : v (4 + 4 * j) = s
    · rw [if_pos h, if_pos h]; rfl
    · rw [if_neg h, if_neg h]
      exact ih m (j + 1) (by omega) (by omega)
