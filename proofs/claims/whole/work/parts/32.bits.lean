/-- a loop that counts up: its value from each place, given its end and its step -/
theorem loopR {α : Type} (F : Nat → Nat → α) (R : Nat → α) (N : Nat) (hz : ∀ n, F (n + 1) N = R N) (hs : ∀ n j, j < N → F n (j + 1) = R (j + 1) → F (n + 1) j = R j) : ∀ n j, j ≤ N → N - j < n → F n j = R j := by
  intro n
  induction n with
  | zero => intro j h1 h2; exact absurd h2 (by omega)
  | succ n ih =>
    intro j h1 h2
    rcases Nat.lt_or_ge j N with h | h
    · exact hs n j h (ih (j + 1) h (by omega))
    · have e : j = N := by omega
      subst e
      exact hz n
theorem FU_gt {n : Nat} (h : n < 100000) : n < FU := h
/-- the same, from 0 and with all its rounds -/
theorem loopU {α : Type} (F : Nat → Nat → α) (R : Nat → α) (N : Nat) (hN : N < 100000) (hz : ∀ n, F (n + 1) N = R N) (hs : ∀ n j, j < N → F n (j + 1) = R (j + 1) → F (n + 1) j = R j) : F FU 0 = R 0 := loopR F R N hz hs FU 0 (Nat.zero_le _) (by rw [Nat.sub_zero]; exact hN)
theorem b_or (a b : Nat) : nI a ||| nI b = nI (a ||| b) := by
  apply Int32.toBitVec_inj.mp
  simp [nI, BitVec.ofNat_or]
theorem b_and (a b : Nat) : nI a &&& nI b = nI (a &&& b) := by
  apply Int32.toBitVec_inj.mp
  simp [nI, BitVec.ofNat_and]
theorem b_xor (a b : Nat) : nI a ^^^ nI b = nI (a ^^^ b) := by
  apply Int32.toBitVec_inj.mp
  simp [nI, BitVec.ofNat_xor]
theorem b_one : ∀ s, s < 31 → nI 1 <<< (nI s &&& nI 31) = nI (2 ^ s) := by decide +kernel
/-- the spots below n of which p says so, as bits -/
def bm (p : Nat → Bool) : Nat → Nat
  | 0 => 0
  | n + 1 => bm p n ||| (if p n then 2 ^ n else 0)
theorem bm_tb (p : Nat → Bool) : ∀ n i, (bm p n).testBit i = (decide (i < n) && p i)
  | 0, i => by simp [bm]
  | n + 1, i => by
    rw [bm, Nat.testBit_or, bm_tb p n i]
    by_cases h : p n
    · rw [if_pos h, Nat.testBit_two_pow]
      by_cases e : n = i
      · subst e; simp [h]
      · have : (decide (i < n + 1)) = decide (i < n) := decide_eq_decide.mpr (by omega)
        simp [this, e]
    · rw [if_neg h, Nat.zero_testBit, Bool.or_false]
      by_cases e : n = i
      · subst e; simp [h]
      · have : (decide (i < n + 1)) = decide (i < n) := decide_eq_decide.mpr (by omega)
        simp [this]
theorem bm_lt (p : Nat → Bool) : ∀ n, bm p n < 2 ^ n
  | 0 => by simp [bm]
  | n + 1 => by
    rw [bm]
    have h := bm_lt p n
    apply Nat.or_lt_two_pow
    · exact Nat.lt_of_lt_of_le h (Nat.pow_le_pow_right (by omega) (by omega))
    · split
      · exact Nat.pow_lt_pow_right (by omega) (by omega)
      · exact Nat.two_pow_pos _
theorem bm_cong {p q : Nat → Bool} : ∀ {n : Nat}, (∀ i, i < n → p i = q i) → bm p n = bm q n
  | 0, _ => rfl
  | n + 1, h => by rw [bm, bm, bm_cong (fun i hi => h i (by omega)), h n (by omega)]
theorem bm_and (p q : Nat → Bool) (n : Nat) : bm p n &&& bm q n = bm (fun i => p i && q i) n := by
  apply Nat.eq_of_testBit_eq
  intro i
  rw [Nat.testBit_and, bm_tb, bm_tb, bm_tb]
  cases decide (i < n) <;> simp
theorem bm_eq {p q : Nat → Bool} {n : Nat} : bm p n = bm q n ↔ ∀ i, i < n → p i = q i := by
  constructor
  · intro h i hi
    have h2 := congrArg (fun z => z.testBit i) h
    simp only [bm_tb, hi, decide_true, Bool.true_and] at h2
    exact h2
  · exact bm_cong
theorem bm_set (p : Nat → Bool) {n t : Nat} (ht : t < n) : bm p n ||| 2 ^ t = bm (fun i => p i || i == t) n := by
  apply Nat.eq_of_testBit_eq
  intro i
  rw [Nat.testBit_or, bm_tb, bm_tb, Nat.testBit_two_pow]
  by_cases e : t = i
  · subst e; simp [ht]
  · have h1 : (i == t) = false := by simp; omega
    simp [h1, e]
/-- how many below n there are of which p says so -/
def cn (p : Nat → Bool) : Nat → Nat
  | 0 => 0
  | n + 1 => cn p n + (if p n then 1 else 0)
theorem cn_le (p : Nat → Bool) : ∀ n, cn p n ≤ n
  | 0 => Nat.le_refl _
  | n + 1 => by
    have := cn_le p n
    rw [cn]
    split <;> omega
theorem cn_cong {p q : Nat → Bool} : ∀ {n : Nat}, (∀ i, i < n → p i = q i) → cn p n = cn q n
  | 0, _ => rfl
  | n + 1, h => by rw [cn, cn, cn_cong (fun i hi => h i (by omega)), h n (by omega)]
theorem cn_not (p : Nat → Bool) : ∀ n, cn p n + cn (fun i => !p i) n = n
  | 0 => rfl
  | n + 1 => by
    have := cn_not p n
    rw [cn, cn]
    cases p n <;> simp <;> omega
