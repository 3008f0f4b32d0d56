/-- a call's cells -/
def Ca (σ : Sg) (k : Nat) (go tu wa : Nat → Nat) : Prop := ∀ s, s < 12 → σ (k + 1) s = nI (go s) ∧ σ (k + 2) s = nI (tu s) ∧ σ (k + 3) s = nI (wa s)
def Cb (go tu wa : Nat → Nat) : Prop := ∀ s, s < 12 → go s < 12 ∧ tu s < 4 ∧ wa s < 3
theorem swant {σ : Sg} {k : Nat} {go tu wa : Nat → Nat} (hk : kd k = 0) (hC : Ca σ k go tu wa) (hB : Cb go tu wa) {w : Nat} (hw : w < 3) : f_X0_spotsThatWant k (nI w) σ = some (nI (bm (fun s => wa s == w) 12), σ) := by
  obtain ⟨r0, r1, r2, -⟩ := st0 hk
  have key := loopU (fun n j => f_X0_spotsThatWant_4 n k (nI w) (nI (bm (fun s => wa s == w) j)) (nI j) σ) (fun _ => some (nI (bm (fun s => wa s == w) 12), σ)) 12 (by omega) ?_ ?_
  · rw [f_X0_spotsThatWant, if_pos hk]
    exact key
  · intro n
    rw [f_X0_spotsThatWant_4, if_pos hk, if_pos (by decide)]
  · intro n j hj ih
    obtain ⟨-, -, c3⟩ := hC j hj
    obtain ⟨-, -, b3⟩ := hB j hj
    rw [f_X0_spotsThatWant_4]
    simp (disch := omega) only [hk, r2, c3, li, ix_nI, inb_nI, n_lt, n_le, n_eq, n_div, n_rem, nI_add, pk_mul, decide_eq_true_eq, bn, f_X0_spotsThatWant_26, if_true, show ¬ 12 ≤ j by omega, hj, if_false, b_one, b_or]
    rw [bm] at ih
    by_cases h : wa j = w
    · rw [if_pos h]
      simpa [h] using ih
    · rw [if_neg h]
      simpa [h] using ih
def allB (p : Nat → Bool) : Nat → Bool
  | 0 => true
  | n + 1 => allB p n && p n
theorem allB_iff (p : Nat → Bool) : ∀ n, allB p n = true ↔ ∀ i, i < n → p i = true
  | 0 => by simp [allB]
  | n + 1 => by
    rw [allB, Bool.and_eq_true, allB_iff p n]
    constructor
    · intro h i hi
      rcases Nat.lt_or_ge i n with q | q
      · exact h.1 i q
      · rw [show i = n by omega]; exact h.2
    · intro h
      exact ⟨fun i hi => h i (by omega), h n (by omega)⟩
theorem allB_cong {p q : Nat → Bool} : ∀ {n : Nat}, (∀ i, i < n → p i = q i) → allB p n = allB q n
  | 0, _ => rfl
  | n + 1, h => by rw [allB, allB, allB_cong (fun i hi => h i (by omega)), h n (by omega)]
/-- a spot's want is met -/
def fitp (o : Bool) (w : Nat) : Bool := w == 0 || ((w == 1) == o)
/-- a call fits on what is held -/
def fitP (occ : Nat → Bool) (wa : Nat → Nat) : Bool := allB (fun s => fitp (occ s) (wa s)) 12
def bI (b : Bool) : Int32 := if b then 1 else 0
theorem fits_on {σ : Sg} {k : Nat} {go tu wa : Nat → Nat} (hk : kd k = 0) (hC : Ca σ k go tu wa) (hB : Cb go tu wa) (occ : Nat → Bool) : f_X0_fitsOn k (nI (bm occ 12)) σ = some (bI (fitP occ wa), σ) := by
  rw [f_X0_fitsOn, if_pos hk, show (1 : Int32) = nI 1 from rfl, show (2 : Int32) = nI 2 from rfl, swant hk hC hB (by omega), cb_some, swant hk hC hB (by omega), cb_some, b_and, b_and, bm_and, bm_and]
  have l1 := bm_lt (fun i => occ i && (wa i == 1)) 12
  have l2 := bm_lt (fun i => wa i == 1) 12
  have l3 := bm_lt (fun i => occ i && (wa i == 2)) 12
  have q1 : (nI (bm (fun i => occ i && (wa i == 1)) 12) = nI (bm (fun i => wa i == 1) 12)) ↔ ∀ i, i < 12 → (occ i && (wa i == 1)) = (wa i == 1) := (n_eq (by omega) (by omega)).trans bm_eq
  have q2 : (nI (bm (fun i => occ i && (wa i == 2)) 12) = 0) ↔ ∀ i, i < 12 → (occ i && (wa i == 2)) = false := by
    rw [show (0 : Int32) = nI (bm (fun _ => false) 12) from rfl, n_eq (by omega) (by decide), bm_eq]
  have hf : fitP occ wa = true ↔ (∀ i, i < 12 → (occ i && (wa i == 1)) = (wa i == 1)) ∧ (∀ i, i < 12 → (occ i && (wa i == 2)) = false) := by
    unfold fitP
    rw [allB_iff]
    constructor
    · intro h
      refine ⟨fun i hi => ?_, fun i hi => ?_⟩
      · have := h i hi
        unfold fitp at this
        by_cases e : wa i = 1
        · simpa [e] using this
        · simp [e]
      · have := h i hi
        unfold fitp at this
        by_cases e : wa i = 2
        · simpa [e] using this
        · simp [e]
    · intro h i hi
      have h1 := h.1 i hi
      have h2 := h.2 i hi
      have h3 := (hB i hi).2.2
      unfold fitp
      rcases (show wa i = 0 ∨ wa i = 1 ∨ wa i = 2 by omega) with e | e | e
      · simp [e]
      · simpa [e] using h1
      · simpa [e] using h2
  by_cases h : fitP occ wa = true
  · obtain ⟨h1, h2⟩ := hf.mp h
    rw [if_pos (q1.mpr h1), if_pos (q2.mpr h2), h]
    rfl
  · have h' : fitP occ wa = false := by simpa using h
    rw [h']
    by_cases h1 : ∀ i, i < 12 → (occ i && (wa i == 1)) = (wa i == 1)
    · rw [if_pos (q1.mpr h1), if_neg (fun z => h (hf.mpr ⟨h1, q2.mp z⟩))]
      rfl
    · rw [if_neg (fun z => h1 (q1.mp z))]
      rfl
theorem pbehind {σ : Sg} {k : Nat} {go tu wa : Nat → Nat} (hk : kd k = 0) (hC : Ca σ k go tu wa) (hB : Cb go tu wa) {p : Nat} (hp : p < 48) : f_X0_placeBehind k (nI p) σ = some (nI (go (p / 4) * 4 + (p + tu (p / 4)) % 4), σ) := by
  obtain ⟨r0, r1, r2, -⟩ := st0 hk
  obtain ⟨c1, c2, -⟩ := hC (p / 4) (by omega)
  obtain ⟨b1, b2, -⟩ := hB (p / 4) (by omega)
  rw [f_X0_placeBehind]
  simp (disch := omega) only [hk, r0, r1, bn, li, ix_nI, inb_nI, n_lt, n_le, n_eq, n_div, n_rem, nI_add, pk_mul, decide_eq_true_eq, c1, c2, if_true, show p / 4 < 12 by omega]
theorem smove {σ : Sg} {k : Nat} {go tu wa : Nat → Nat} (hk : kd k = 0) (hC : Ca σ k go tu wa) (hB : Cb go tu wa) : f_X0_spotsThatMove k σ = some (nI (cn (fun s => go s != s) 12), σ) := by
  obtain ⟨r0, r1, r2, -⟩ := st0 hk
  have key := loopU (fun n j => f_X0_spotsThatMove_4 n k (nI (cn (fun s => go s != s) j)) (nI j) σ) (fun _ => some (nI (cn (fun s => go s != s) 12), σ)) 12 (by omega) ?_ ?_
  · rw [f_X0_spotsThatMove, if_pos hk]
    exact key
  · intro n
    rw [f_X0_spotsThatMove_4, if_pos hk, if_pos (by decide)]
  · intro n j hj ih
    obtain ⟨c1, -, -⟩ := hC j hj
    obtain ⟨b1, -, -⟩ := hB j hj
    rw [f_X0_spotsThatMove_4]
    simp (disch := omega) only [hk, r0, c1, li, ix_nI, inb_nI, n_lt, n_le, n_eq, n_div, n_rem, nI_add, pk_mul, decide_eq_true_eq, bn, f_X0_spotsThatMove_26, if_true, show ¬ 12 ≤ j by omega, hj, if_false]
    rw [cn] at ih
    by_cases h : go j = j
    · rw [if_pos h]
      simpa [h] using ih
    · rw [if_neg h]
      simpa [h] using ih
/-- how many bits -/
theorem bitc (σ : Sg) : ∀ m, m < 4096 → f_J6_bitCount_0f7a4 (nI m) σ = some (nI (cn (fun i => m.testBit i) 12), σ) := by
  have h : ∀ a, a < 64 → ∀ b, b < 64 → ((f_J6_bitCount_0f7a4 (nI (64 * a + b)) (fun _ _ => 0)).map (fun q => q.1)) = some (nI (cn (fun i => (64 * a + b).testBit i) 12)) := by decide +kernel
  intro m hm
  have := h (m / 64) (by omega) (m % 64) (by omega)
  rw [show 64 * (m / 64) + m % 64 = m by omega] at this
  unfold f_J6_bitCount_0f7a4 at this ⊢
  simp only [bn, Option.map_some, Option.some.injEq] at this ⊢
  rw [this]
theorem swith {σ : Sg} {k : Nat} {go tu wa : Nat → Nat} (hk : kd k = 0) (hC : Ca σ k go tu wa) (hB : Cb go tu wa) : f_X0_spotsWithWant k σ = some (nI (cn (fun s => wa s != 0) 12), σ) := by
  have l1 := bm_lt (fun s => wa s == 0) 12
  rw [f_X0_spotsWithWant, if_pos hk, show (0 : Int32) = nI 0 from rfl, swant hk hC hB (by omega), cb_some, bitc σ _ (by omega), cb_some]
  have e1 : cn (fun i => (bm (fun s => wa s == 0) 12).testBit i) 12 = cn (fun s => wa s == 0) 12 := cn_cong (fun i hi => by rw [bm_tb]; simp [hi])
  rw [e1, show (12 : Int32) = nI 12 from rfl, n_sub (cn_le _ 12)]
  have e2 := cn_not (fun s => wa s == 0) 12
  have e3 : cn (fun i => !(wa i == 0)) 12 = cn (fun s => wa s != 0) 12 := rfl
  rw [show 12 - cn (fun s => wa s == 0) 12 = cn (fun s => wa s != 0) 12 by omega]
