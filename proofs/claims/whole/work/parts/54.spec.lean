/-! rows of calls: what is looked for -/
/-- the goal -/
def gl (g : Nat) (u : Vt) : Bool := (g == 1 || cn (hmB u) (u 0) == u 0) && (g == 0 || prs u == u 0 / 2)
/-- may call c come at this depth -/
def okc (va : Nat) (row : Nat → Nat) (p c : Nat) : Bool := va == 0 || (decide (cn (fun i => row i == c) p < va) && (p == 0 || row (p - 1) != c))
def stopB (va n : Nat) : Bool := va != 0 && n != 0
def lp (va : Nat) (self : Vt → (Nat → Nat) → Nat × (Nat → Nat)) (u : Vt) (p : Nat) : Nat → Nat → (Nat → Nat) → Nat × (Nat → Nat)
  | 0, _, row => (0, row)
  | m + 1, c, row => if okc va row p c && fitV u c then (if stopB va (self (mvv u c) (fu row p c)).1 then self (mvv u c) (fu row p c) else ((self (mvv u c) (fu row p c)).1 + (lp va self u p m (c + 1) row).1, (lp va self u p m (c + 1) row).2)) else lp va self u p m (c + 1) row
def nd (va g : Nat) : Nat → Nat → Vt → (Nat → Nat) → Nat × (Nat → Nat)
  | 0, p, u, row => lp va (fun u' row' => (if gl g u' then 1 else 0, row')) u p (u 1) 0 row
  | k + 1, p, u, row => lp va (nd va g k (p + 1)) u p (u 1) 0 row
def ndS (va g k p : Nat) : Vt → (Nat → Nat) → Nat × (Nat → Nat) := match k with
  | 0 => fun u' row' => (if gl g u' then 1 else 0, row')
  | k + 1 => nd va g k (p + 1)
theorem nd_eq (va g k p : Nat) (u : Vt) (row : Nat → Nat) : nd va g k p u row = lp va (ndS va g k p) u p (u 1) 0 row := by cases k <;> rfl
theorem lp_bd {va : Nat} {self : Vt → (Nat → Nat) → Nat × (Nat → Nat)} {u : Vt} {p B : Nat} (hu : ∀ c row, (self (mvv u c) row).1 ≤ B) : ∀ m c row, (lp va self u p m c row).1 ≤ m * B := by
  intro m
  induction m with
  | zero => intro c row; rw [lp]; omega
  | succ m ih =>
    intro c row
    rw [lp, Nat.succ_mul]
    have h1 := hu c (fu row p c)
    have h2 := ih (c + 1) row
    split
    · split
      · omega
      · dsimp only; omega
    · omega
theorem mvv_1 {u : Vt} {c : Nat} (h : u 0 ≤ 8) : mvv u c 1 = u 1 ∧ mvv u c 0 = u 0 ∧ mvv u c 2 = u 2 := by
  unfold mvv
  exact ⟨mvJ_o _ _ _ (by omega), mvJ_o _ _ _ (by omega), mvJ_o _ _ _ (by omega)⟩
theorem nd_bd (va g : Nat) : ∀ k p u row, u 0 ≤ 8 → u 1 ≤ 8 → (nd va g k p u row).1 ≤ 8 ^ (k + 1) := by
  intro k
  induction k with
  | zero =>
    intro p u row h0 h1
    rw [nd]
    have := lp_bd (va := va) (p := p) (B := 1) (self := fun u' row' => (if gl g u' then 1 else 0, row')) (u := u) (fun c row => by dsimp only; split <;> omega) (u 1) 0 row
    omega
  | succ k ih =>
    intro p u row h0 h1
    rw [nd]
    have := lp_bd (va := va) (p := p) (B := 8 ^ (k + 1)) (self := nd va g k (p + 1)) (u := u) (fun c row => ih _ _ _ (by rw [(mvv_1 h0).2.1]; exact h0) (by rw [(mvv_1 h0).1]; exact h1)) (u 1) 0 row
    have h2 : u 1 * 8 ^ (k + 1) ≤ 8 * 8 ^ (k + 1) := Nat.mul_le_mul_right _ h1
    have h3 : 8 ^ (k + 1 + 1) = 8 * 8 ^ (k + 1) := by rw [Nat.pow_succ, Nat.mul_comm]
    omega
theorem fit_iff {w : Nat → Nat} (hB : ∀ s, s < 12 → w s < 3) (occ : Nat → Bool) : (nI (bm occ 12) &&& nI (bm (fun s => w s == 1) 12) = nI (bm (fun s => w s == 1) 12) ∧ nI (bm occ 12) &&& nI (bm (fun s => w s == 2) 12) = 0) ↔ fitP occ w = true := by
  rw [b_and, b_and, bm_and, bm_and]
  have l1 := bm_lt (fun i => occ i && (w i == 1)) 12
  have l2 := bm_lt (fun i => w i == 1) 12
  have l3 := bm_lt (fun i => occ i && (w i == 2)) 12
  have q1 : (nI (bm (fun i => occ i && (w i == 1)) 12) = nI (bm (fun i => w i == 1) 12)) ↔ ∀ i, i < 12 → (occ i && (w i == 1)) = (w i == 1) := (n_eq (by omega) (by omega)).trans bm_eq
  have q2 : (nI (bm (fun i => occ i && (w i == 2)) 12) = 0) ↔ ∀ i, i < 12 → (occ i && (w i == 2)) = false := by
    rw [show (0 : Int32) = nI (bm (fun _ => false) 12) from rfl, n_eq (by omega) (by decide), bm_eq]
  rw [q1, q2]
  unfold fitP
  rw [allB_iff]
  constructor
  · intro h i hi
    have h1 := h.1 i hi
    have h2 := h.2 i hi
    have h3 := hB i hi
    unfold fitp
    rcases (show w i = 0 ∨ w i = 1 ∨ w i = 2 by omega) with e | e | e
    · simp [e]
    · simpa [e] using h1
    · simpa [e] using h2
  · intro h
    refine ⟨fun i hi => ?_, fun i hi => ?_⟩
    · have := h i hi
      unfold fitp at this
      by_cases e : w i = 1
      · simpa [e] using this
      · simp [e]
    · have := h i hi
      unfold fitp at this
      by_cases e : w i = 2
      · simpa [e] using this
      · simp [e]
theorem cn_all (p : Nat → Bool) : ∀ n, cn p n = n ↔ ∀ i, i < n → p i = true
  | 0 => by simp [cn]
  | n + 1 => by
    have h1 := cn_le p n
    have h2 := cn_all p n
    rw [cn]
    constructor
    · intro h
      have hn : p n = true := by
        cases e : p n with
        | true => rfl
        | false => rw [e] at h; simp at h; omega
      rw [hn] at h
      have := h2.mp (by simpa using h)
      intro i hi
      rcases Nat.lt_or_ge i n with q | q
      · exact this i q
      · rw [show i = n by omega]; exact hn
    · intro h
      rw [h n (by omega), h2.mpr (fun i hi => h i (by omega))]; simp
theorem alF_iff (p : Nat → Bool) : ∀ n j, alF p n j = true ↔ ∀ i, j ≤ i → i < j + n → p i = true
  | 0, j => by simp [alF]; intro i h1 h2; omega
  | n + 1, j => by
    rw [alF]
    by_cases h : p j = true
    · rw [if_pos h, alF_iff p n]
      constructor
      · intro q i h1 h2
        by_cases e : i = j
        · rw [e]; exact h
        · exact q i (by omega) (by omega)
      · intro q i h1 h2
        exact q i (by omega) (by omega)
    · rw [if_neg h]
      constructor
      · intro q; cases q
      · intro q; exact absurd (q j (by omega) (by omega)) h
/-! the reference's parts -/
theorem isGoalM {σ : Sg} {v : Vt} {g : Int32} (hM : Mo (σ 299) v g) (hV : Va v) {G : Nat} (hG : G < 3) : f_X6_isGoal 298 (nI G) σ = some (bI (gl G v), σ) := by
  have h0 := hV.1
  have hc := cn_le (hmB v) (v 0)
  have hp : prs v ≤ v 0 / 2 := cn_le _ _
  have f18 : f_X6_isGoal_18 298 (nI G) σ = some (bI (G == 0 || prs v == v 0 / 2), σ) := by
    rw [f_X6_isGoal_18, if_pos kd_298]
    by_cases e : G = 0
    · subst e; rw [if_pos (show nI 0 = 0 from rfl)]; rfl
    · rw [if_neg (by rw [show (0 : Int32) = nI 0 from rfl, n_eq (by omega) (by omega)]; exact e), pairsM hM hV, cb_some, if_pos (by decide), rf_298_0, show ix 0 = 0 from rfl, hM.2 0 (by omega) (by omega), show (2 : Int32) = nI 2 from rfl, n_div (by omega) (by omega) (by omega)]
      by_cases q : prs v = v 0 / 2
      · rw [if_pos (by rw [q]), q]; simp [bI]; rfl
      · rw [if_neg (by rw [n_eq (by omega) (by omega)]; exact q)]; simp [q, e, bI]
  rw [f_X6_isGoal, if_pos kd_298]
  unfold gl
  by_cases e : G = 1
  · subst e; rw [if_pos (show nI 1 = 1 from rfl), f18]; rfl
  · rw [if_neg (by rw [show (1 : Int32) = nI 1 from rfl, n_eq (by omega) (by omega)]; exact e), atHomeM hM hV, cb_some, if_pos (by decide), rf_298_0, show ix 0 = 0 from rfl, hM.2 0 (by omega) (by omega)]
    by_cases q : cn (hmB v) (v 0) = v 0
    · rw [if_pos (by rw [q]), f18, q]; simp
    · rw [if_neg (by rw [n_eq (by omega) (by omega)]; exact q)]; simp [q, e, bI]
theorem variedM {σ : Sg} {row : Nat → Nat} {p c va : Nat} (hp : p ≤ 5) (hr : ∀ i, i < p → σ 305 i = nI (row i) ∧ row i < 8) (hc : c < 8) (hv : va < 6) (h0 : 0 < va) : f_X6_isVaried 298 (nI p) (nI c) (nI va) σ = some (bI (okc va row p c), σ) := by
  rw [f_X6_isVaried, if_pos kd_298]
  have key := loopU (fun n j => f_X6_isVaried_6 n 298 (nI p) (nI c) (nI va) (nI (cn (fun i => row i == c) j)) (nI j) σ) (fun _ => some (bI (okc va row p c), σ)) p (by omega) ?_ ?_
  · exact key
  · intro n
    have hl := cn_le (fun i => row i == c) p
    rw [f_X6_isVaried_6, if_pos kd_298, if_pos (by rw [n_le (by omega) (by omega)]; omega)]
    unfold okc
    rw [show (va == 0) = false by simp; omega, Bool.false_or]
    by_cases q : va ≤ cn (fun i => row i == c) p
    · rw [if_pos (by rw [n_le (by omega) (by omega)]; exact q), decide_eq_false (by omega)]; rfl
    · rw [if_neg (by rw [n_le (by omega) (by omega)]; exact q), decide_eq_true (by omega), Bool.true_and, f_X6_isVaried_61]
      by_cases z : p = 0
      · subst z; rw [if_pos (show nI 0 = 0 from rfl)]; rfl
      · obtain ⟨r1, r2⟩ := hr (p - 1) (by omega)
        rw [if_neg (by rw [show (0 : Int32) = nI 0 from rfl, n_eq (by omega) (by omega)]; exact z), show (1 : Int32) = nI 1 from rfl, n_sub (by omega), if_pos (by rw [inb_nI (by omega)]; exact decide_eq_true (by omega)), rf_298_8, ix_nI (by omega), r1, show (p == 0) = false by simp [z], Bool.false_or]
        by_cases y : row (p - 1) = c
        · rw [if_pos (by rw [y])]; simp [y, bI]
        · rw [if_neg (by rw [n_eq (by omega) (by omega)]; exact y)]; simp [y, bI]; rfl
  · intro n j hj ih
    obtain ⟨r1, r2⟩ := hr j hj
    rw [cn] at ih
    rw [f_X6_isVaried_6, if_pos kd_298, if_neg (by rw [n_le (by omega) (by omega)]; omega), if_pos (by rw [inb_nI (by omega)]; exact decide_eq_true (by omega)), rf_298_8, ix_nI (by omega), r1]
    have f : ∀ z, f_X6_isVaried_30 (f_X6_isVaried_6 n) 298 (nI p) (nI c) (nI va) (nI j) (nI (cn (fun i => row i == c) j)) (nI z) σ = f_X6_isVaried_6 n 298 (nI p) (nI c) (nI va) (nI (cn (fun i => row i == c) j + z)) (nI (j + 1)) σ := fun z => by
      rw [f_X6_isVaried_30, if_pos kd_298, nI_add, show (nI j + 1 : Int32) = nI (j + 1) from nI_1 _]; rfl
    by_cases y : row j = c
    · rw [if_pos (by rw [y]), show f_X6_isVaried_30 (f_X6_isVaried_6 n) 298 (nI p) (nI c) (nI va) (nI j) (nI (cn (fun i => row i == c) j)) 1 σ = _ from f 1]
      rw [show (row j == c) = true by simp [y]] at ih
      exact ih
    · rw [if_neg (by rw [n_eq (by omega) (by omega)]; exact y), show f_X6_isVaried_30 (f_X6_isVaried_6 n) 298 (nI p) (nI c) (nI va) (nI j) (nI (cn (fun i => row i == c) j)) 0 σ = _ from f 0]
      rw [show (row j == c) = false by simp [y]] at ih
      exact ih
