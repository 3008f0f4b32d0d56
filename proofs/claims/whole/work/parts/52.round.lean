/-! how often a call has to be given: cycles and their least common multiple -/
def it (f : Nat → Nat) (s : Nat) : Nat → Nat
  | 0 => s
  | k + 1 => f (it f s k)
def ts (f t : Nat → Nat) (s : Nat) : Nat → Nat
  | 0 => 0
  | k + 1 => ts f t s k + t (it f s k)
def Pm (f : Nat → Nat) : Prop := (∀ i, i < 12 → f i < 12) ∧ ∀ i, i < 12 → ∀ j, j < 12 → f i = f j → i = j
theorem it_lt {f : Nat → Nat} (h : Pm f) {s : Nat} (hs : s < 12) : ∀ k, it f s k < 12
  | 0 => hs
  | k + 1 => h.1 _ (it_lt h hs k)
theorem it_add (f : Nat → Nat) (s a : Nat) : ∀ b, it f s (a + b) = it f (it f s a) b
  | 0 => rfl
  | b + 1 => by rw [← Nat.add_assoc, it, it, it_add f s a b]
theorem ts_add (f t : Nat → Nat) (s a : Nat) : ∀ b, ts f t s (a + b) = ts f t s a + ts f t (it f s a) b
  | 0 => rfl
  | b + 1 => by rw [← Nat.add_assoc, ts, ts, ts_add f t s a b, it_add, Nat.add_assoc]
theorem it_inj {f : Nat → Nat} (h : Pm f) {x y : Nat} (hx : x < 12) (hy : y < 12) : ∀ k, it f x k = it f y k → x = y
  | 0, e => e
  | k + 1, e => it_inj h hx hy k (h.2 _ (it_lt h hx k) _ (it_lt h hy k) e)
theorem it_ex {f : Nat → Nat} (h : Pm f) {s : Nat} (hs : s < 12) : ∃ k, 1 ≤ k ∧ k ≤ 1 + 11 ∧ it f s k = s := by
  by_cases q : ∃ k, 1 ≤ k ∧ k ≤ 1 + 11 ∧ it f s k = s
  · exact q
  · exfalso
    have key : ∀ i j, i < j → j < 13 → it f s i ≠ it f s j := fun i j a b e => by
      have e2 : it f s j = it f (it f s (j - i)) i := by rw [← it_add, show j - i + i = j by omega]
      rw [e2] at e
      have := it_inj h hs (it_lt h hs _) i e
      exact q ⟨j - i, by omega, by omega, this.symm⟩
    have := php 13 12 (it f s) (fun i _ => it_lt h hs i) (fun i hi j hj e => ?_)
    · omega
    · rcases Nat.lt_trichotomy i j with a | a | a
      · exact absurd e (key i j a hj)
      · exact a
      · exact absurd e.symm (key j i a hi)
def lnF (f : Nat → Nat) (s : Nat) : Nat → Nat → Nat
  | 0, j => j
  | n + 1, j => if it f s j = s then j else lnF f s n (j + 1)
theorem lnF_spec (f : Nat → Nat) (s : Nat) : ∀ n j, (∃ k, j ≤ k ∧ k ≤ j + n ∧ it f s k = s) → it f s (lnF f s n j) = s ∧ j ≤ lnF f s n j ∧ lnF f s n j ≤ j + n ∧ ∀ i, j ≤ i → i < lnF f s n j → it f s i ≠ s := by
  intro n
  induction n with
  | zero =>
    intro j h
    obtain ⟨k, a, b, c⟩ := h
    rw [show k = j by omega] at c
    exact ⟨c, Nat.le_refl _, Nat.le_refl _, fun i a b => by rw [lnF] at b; omega⟩
  | succ n ih =>
    intro j h
    rw [lnF]
    by_cases e : it f s j = s
    · rw [if_pos e]
      exact ⟨e, Nat.le_refl _, by omega, fun i a b => by omega⟩
    · rw [if_neg e]
      obtain ⟨k, a, b, c⟩ := h
      have hk : k ≠ j := fun q => e (by rw [← q]; exact c)
      obtain ⟨p1, p2, p3, p4⟩ := ih (j + 1) ⟨k, by omega, by omega, c⟩
      refine ⟨p1, by omega, by omega, fun i q1 q2 => ?_⟩
      by_cases q : i = j
      · rw [q]; exact e
      · exact p4 i (by omega) q2
def Ln (f : Nat → Nat) (s : Nat) : Nat := lnF f s 11 1
theorem Ln_spec {f : Nat → Nat} (h : Pm f) {s : Nat} (hs : s < 12) : it f s (Ln f s) = s ∧ 1 ≤ Ln f s ∧ Ln f s ≤ 12 ∧ ∀ i, 1 ≤ i → i < Ln f s → it f s i ≠ s := lnF_spec f s 11 1 (it_ex h hs)
def mT (x : Nat) : Nat := if x % 4 = 0 then 1 else if x % 4 = 2 then 2 else 4
def Cy (f t : Nat → Nat) (s : Nat) : Nat := Ln f s * mT (ts f t s (Ln f s))
theorem it_mul {f : Nat → Nat} {s L : Nat} (h : it f s L = s) : ∀ k, it f s (k * L) = s
  | 0 => by rw [Nat.zero_mul]; rfl
  | k + 1 => by rw [Nat.succ_mul, Nat.add_comm, it_add, h]; exact it_mul h k
theorem ts_mul {f t : Nat → Nat} {s L : Nat} (h : it f s L = s) : ∀ k, ts f t s (k * L) = k * ts f t s L
  | 0 => by rw [Nat.zero_mul, Nat.zero_mul]; rfl
  | k + 1 => by rw [Nat.succ_mul, Nat.add_comm, ts_add, h, ts_mul h k, Nat.succ_mul, Nat.add_comm]
theorem mT_pos (x : Nat) : 1 ≤ mT x ∧ mT x ≤ 4 := by unfold mT; split; omega; split <;> omega
theorem Cy_hit {f : Nat → Nat} (t : Nat → Nat) (h : Pm f) {s : Nat} (hs : s < 12) : it f s (Cy f t s) = s ∧ ts f t s (Cy f t s) % 4 = 0 := by
  obtain ⟨l1, -⟩ := Ln_spec h hs
  unfold Cy
  rw [Nat.mul_comm, it_mul l1, ts_mul l1]
  refine ⟨rfl, ?_⟩
  unfold mT
  split
  · omega
  · split <;> omega
theorem Cy_min {f : Nat → Nat} (t : Nat → Nat) (h : Pm f) {s : Nat} (hs : s < 12) {n : Nat} (h0 : 0 < n) (hn : n < Cy f t s) : ¬ (it f s n = s ∧ ts f t s n % 4 = 0) := by
  obtain ⟨l1, l2, l3, l4⟩ := Ln_spec h hs
  rintro ⟨a, b⟩
  have e : n = n / Ln f s * Ln f s + n % Ln f s := by rw [Nat.mul_comm]; exact (Nat.div_add_mod n (Ln f s)).symm
  have hr : n % Ln f s < Ln f s := Nat.mod_lt _ (by omega)
  have a2 : it f s (n % Ln f s) = s := by
    rw [e, it_add, it_mul l1] at a
    exact a
  have r0 : n % Ln f s = 0 := by
    by_cases q : n % Ln f s = 0
    · exact q
    · exact absurd a2 (l4 _ (by omega) hr)
  rw [r0, Nat.add_zero] at e
  rw [e, ts_mul l1] at b
  have hk0 : 0 < n / Ln f s := by
    rcases Nat.eq_zero_or_pos (n / Ln f s) with q | q
    · rw [q, Nat.zero_mul] at e; omega
    · exact q
  have hk : n / Ln f s < mT (ts f t s (Ln f s)) := by
    rw [e] at hn
    unfold Cy at hn
    rw [Nat.mul_comm] at hn
    exact Nat.lt_of_mul_lt_mul_left hn
  revert hk b
  generalize ts f t s (Ln f s) = T
  generalize n / Ln f s = k at hk0
  intro b hk
  unfold mT at hk
  split at hk
  · omega
  · split at hk
    · have : k = 1 := by omega
      subst this
      omega
    · rcases (show k = 1 ∨ k = 2 ∨ k = 3 by omega) with rfl | rfl | rfl <;> omega
theorem Cy_pos {f : Nat → Nat} (t : Nat → Nat) (h : Pm f) {s : Nat} (hs : s < 12) : 0 < Cy f t s ∧ Cy f t s ≤ 48 := by
  obtain ⟨l1, l2, l3, l4⟩ := Ln_spec h hs
  obtain ⟨m1, m2⟩ := mT_pos (ts f t s (Ln f s))
  unfold Cy
  exact ⟨Nat.mul_pos (by omega) (by omega), Nat.mul_le_mul l3 m2⟩
theorem Cy_dvd {f : Nat → Nat} (t : Nat → Nat) (h : Pm f) {s : Nat} (hs : s < 12) : Cy f t s ∣ 110880 := by
  obtain ⟨l1, l2, l3, l4⟩ := Ln_spec h hs
  have key : ∀ L, L < 13 → 1 ≤ L → (110880 % (L * 1) = 0 ∧ 110880 % (L * 2) = 0 ∧ 110880 % (L * 4) = 0) := by decide +kernel
  obtain ⟨k1, k2, k4⟩ := key (Ln f s) (by omega) l2
  unfold Cy mT
  split
  · exact Nat.dvd_of_mod_eq_zero k1
  · split
    · exact Nat.dvd_of_mod_eq_zero k2
    · exact Nat.dvd_of_mod_eq_zero k4
/-- one more of the same round -/
theorem Cy_orb {f : Nat → Nat} (t : Nat → Nat) (h : Pm f) {s : Nat} (hs : s < 12) (k : Nat) : Cy f t (it f s k) = Cy f t s := by
  have hx := it_lt h hs k
  have eq : ∀ n, (it f (it f s k) n = it f s k ∧ ts f t (it f s k) n % 4 = 0) ↔ (it f s n = s ∧ ts f t s n % 4 = 0) := by
    intro n
    have e1 : it f (it f s k) n = it f (it f s n) k := by rw [← it_add, ← it_add, Nat.add_comm]
    have e2 : ts f t s k + ts f t (it f s k) n = ts f t s n + ts f t (it f s n) k := by rw [← ts_add, ← ts_add, Nat.add_comm]
    constructor
    · rintro ⟨a, b⟩
      rw [e1] at a
      have q := it_inj h (it_lt h hs n) hs k a
      rw [q] at e2
      exact ⟨q, by omega⟩
    · rintro ⟨a, b⟩
      rw [e1, a]
      rw [a] at e2
      exact ⟨rfl, by omega⟩
  have p1 := Cy_pos t h hs
  have p2 := Cy_pos t h hx
  rcases Nat.lt_trichotomy (Cy f t (it f s k)) (Cy f t s) with q | q | q
  · exact absurd ((eq _).mp (Cy_hit t h hx)) (Cy_min t h hs p2.1 q)
  · exact q
  · exact absurd ((eq _).mpr (Cy_hit t h hs)) (Cy_min t h hx p1.1 q)
def lcF (C : Nat → Nat) : Nat → Nat
  | 0 => 1
  | n + 1 => Nat.lcm (lcF C n) (C n)
theorem lcF_dvd {C : Nat → Nat} {D : Nat} (h : ∀ s, s < 12 → C s ∣ D) : ∀ n, n ≤ 12 → lcF C n ∣ D
  | 0, _ => Nat.one_dvd _
  | n + 1, hn => Nat.lcm_dvd (lcF_dvd h n (by omega)) (h n (by omega))
theorem lcF_pos {C : Nat → Nat} (h : ∀ s, s < 12 → 0 < C s) : ∀ n, n ≤ 12 → 0 < lcF C n
  | 0, _ => by rw [lcF]; omega
  | n + 1, hn => Nat.lcm_pos (lcF_pos h n (by omega)) (h n (by omega))
theorem lcF_in {C : Nat → Nat} : ∀ n s, s < n → C s ∣ lcF C n
  | 0, s, h => absurd h (Nat.not_lt_zero _)
  | n + 1, s, h => by
    rw [lcF]
    rcases Nat.lt_or_ge s n with q | q
    · exact Nat.dvd_trans (lcF_in n s q) (Nat.dvd_lcm_left _ _)
    · rw [show s = n by omega]; exact Nat.dvd_lcm_right _ _
theorem lcm_abs {m n : Nat} (h : n ∣ m) (hm : 0 < m) : Nat.lcm m n = m := Nat.le_antisymm (Nat.le_of_dvd hm (Nat.lcm_dvd (Nat.dvd_refl m) h)) (Nat.le_of_dvd (Nat.lcm_pos hm (Nat.pos_of_dvd_of_pos h hm)) (Nat.dvd_lcm_left _ _))
/-! the class's least common multiple -/
theorem lcmC {a b : Nat} (ha : 0 < a) (hb : 0 < b) (ha2 : a ≤ 110880) (hb2 : b ≤ 48) (σ : Sg) : f_X0_leastCommonMultiple (nI a) (nI b) σ = some (nI (Nat.lcm a b), σ) := by
  have hl : 0 < Nat.lcm a b := Nat.lcm_pos ha hb
  obtain ⟨t, ht⟩ := Nat.dvd_lcm_left a b
  have hab : Nat.lcm a b ≤ a * b := Nat.le_of_dvd (Nat.mul_pos ha hb) (Nat.lcm_dvd (Nat.dvd_mul_right a b) (Nat.dvd_mul_left b a))
  have htb : t ≤ b := by rw [ht] at hab; exact Nat.le_of_mul_le_mul_left hab ha
  have ht0 : 0 < t := by
    rcases Nat.eq_zero_or_pos t with q | q
    · rw [q, Nat.mul_zero] at ht; omega
    · exact q
  have hbd : a * b < 2147483648 := Nat.lt_of_le_of_lt (Nat.mul_le_mul ha2 hb2) (by decide)
  have hmul : ∀ j, j ≤ b → a * j < 2147483648 := fun j hj => Nat.lt_of_le_of_lt (Nat.mul_le_mul_left a hj) hbd
  rw [f_X0_leastCommonMultiple]
  have key := loopR (fun n j => f_X0_leastCommonMultiple_2 n (nI a) (nI b) (nI (j + 1)) σ) (fun _ => some (nI (Nat.lcm a b), σ)) (t - 1) ?_ ?_ FU 0 (by omega) (FU_gt (by omega))
  · exact key
  · intro n
    rw [show t - 1 + 1 = t by omega, f_X0_leastCommonMultiple_2]
    by_cases e : t = b
    · rw [if_pos (by rw [n_le (by omega) (by omega)]; omega), pk_mul, ht, e]
    · rw [if_neg (by rw [n_le (by omega) (by omega)]; omega), if_pos (by rw [show (0 : Int32) = nI 0 from rfl, n_eq (by omega) (by omega)]; omega), pk_mul, n_rem (hmul t htb) hb (by omega), ← ht, Nat.mod_eq_zero_of_dvd (Nat.dvd_lcm_right a b), if_pos (show nI 0 = 0 from rfl)]
  · intro n j hj ih
    have hne : ¬ (a * (j + 1)) % b = 0 := fun q => by
      have h1 := Nat.le_of_dvd (Nat.mul_pos ha (by omega)) (Nat.lcm_dvd (Nat.dvd_mul_right a (j + 1)) (Nat.dvd_of_mod_eq_zero q))
      rw [ht] at h1
      have := Nat.le_of_mul_le_mul_left h1 ha
      omega
    have hmb : (a * (j + 1)) % b < b := Nat.mod_lt _ hb
    rw [f_X0_leastCommonMultiple_2, if_neg (by rw [n_le (by omega) (by omega)]; omega), if_pos (by rw [show (0 : Int32) = nI 0 from rfl, n_eq (by omega) (by omega)]; omega), pk_mul, n_rem (hmul _ (by omega)) hb (by omega), if_neg (by rw [show (0 : Int32) = nI 0 from rfl, n_eq (by omega) (by omega)]; exact hne), show (1 : Int32) = nI 1 from rfl, nI_add]
    exact ih
/-! the reference's -/
theorem gcdM (σ : Sg) : ∀ (n x y : Nat), y < n → x < 2147483648 → y < 2147483648 → f_X6_common_4 n (nI x) (nI y) σ = some (nI (Nat.gcd x y), σ) := by
  intro n
  induction n with
  | zero => intro x y h; omega
  | succ n ih =>
    intro x y h hx hy
    rw [f_X6_common_4]
    by_cases e : y = 0
    · subst e; rw [if_pos (show nI 0 = 0 from rfl), Nat.gcd_zero_right]
    · have hne : ¬ nI y = 0 := by rw [show (0 : Int32) = nI 0 from rfl, n_eq (by omega) (by omega)]; exact e
      have hm : x % y < y := Nat.mod_lt _ (by omega)
      rw [if_neg hne, if_pos hne, n_rem hx (by omega) hy]
      simp only [bnE]
      rw [ih y (x % y) (by omega) hy (by omega)]
      rw [Nat.gcd_comm x y, Nat.gcd_rec y x, Nat.gcd_comm]
theorem lcm_div {m n : Nat} : m / Nat.gcd m n * n = Nat.lcm m n := by
  unfold Nat.lcm
  obtain ⟨q, hq⟩ := Nat.gcd_dvd_left m n
  rcases Nat.eq_zero_or_pos (Nat.gcd m n) with h | h
  · rw [h, Nat.div_zero, Nat.div_zero, Nat.zero_mul]
  · have e1 : m / Nat.gcd m n = q := Nat.div_eq_of_eq_mul_right h hq
    rw [e1]
    have e2 : m * n = Nat.gcd m n * (q * n) := by rw [← Nat.mul_assoc, ← hq]
    rw [Nat.div_eq_of_eq_mul_right h e2]
theorem cycM {σ : Sg} {v : Vt} {g : Int32} (hM : Mo (σ 299) v g) (hV : Va v) {c s : Nat} (hc : c < v 1) (hs : s < 12) : f_X6_cycle 298 (nI c) (nI s) σ = some (nI (Cy (go v c) (tu v c) s), σ) := by
  have h1 := hV.2.1
  have hP : Pm (go v c) := ⟨fun i hi => ((Cb_of hV hc) i hi).1, hV.2.2.2.2.2.1 c hc⟩
  obtain ⟨p1, p2⟩ := Cy_pos (tu v c) hP hs
  have hlt := it_lt hP hs
  rw [f_X6_cycle, if_pos kd_298]
  have key := loopU (fun n j => f_X6_cycle_8 n 298 (nI c) (nI s) (nI j) (nI (ts (go v c) (tu v c) s j % 4)) (nI (it (go v c) s j)) σ) (fun _ => some (nI (Cy (go v c) (tu v c) s), σ)) (Cy (go v c) (tu v c) s) (by omega) ?_ ?_
  · exact key
  · intro n
    obtain ⟨q1, q2⟩ := Cy_hit (tu v c) hP hs
    rw [f_X6_cycle_8, if_pos kd_298, if_neg (by rw [show (0 : Int32) = nI 0 from rfl, n_eq (by omega) (by omega)]; omega), q1, if_pos rfl, q2, if_pos (show nI 0 = 0 from rfl)]
  · intro n j hj ih
    obtain ⟨b1, b2, b3⟩ := (Cb_of hV hc) _ (hlt j)
    have e0 : σ 299 (36 + 36 * c + it (go v c) s j) = nI (go v c (it (go v c) s j)) := hM.2 _ (by have := hlt j; omega) (by omega)
    have e1 : σ 299 (48 + 36 * c + it (go v c) s j) = nI (tu v c (it (go v c) s j)) := hM.2 _ (by have := hlt j; omega) (by omega)
    have step : f_X6_cycle_23 (f_X6_cycle_8 n) 298 (nI c) (nI s) (nI j) (nI (ts (go v c) (tu v c) s j % 4)) (nI (it (go v c) s j)) σ = some (nI (Cy (go v c) (tu v c) s), σ) := by
      have hl := hlt j
      have i0 : inb (nI (36 + 36 * c + it (go v c) s j)) 336 = true := by rw [inb_nI (by omega)]; exact decide_eq_true (by omega)
      have i1 : inb (nI (48 + 36 * c + it (go v c) s j)) 336 = true := by rw [inb_nI (by omega)]; exact decide_eq_true (by omega)
      rw [f_X6_cycle_23, if_pos kd_298, show (1 : Int32) = nI 1 from rfl, show (0 : Int32) = nI 0 from rfl, place1, cb_some, if_pos i1, rf_298_0, ix_nI (by omega), e1, nI_add, show (4 : Int32) = nI 4 from rfl, n_rem (by omega) (by omega) (by omega)]
      simp only [bnE]
      rw [place0, cb_some, if_pos i0, ix_nI (by omega), e0, nI_add]
      have e4 : (ts (go v c) (tu v c) s j % 4 + tu v c (it (go v c) s j)) % 4 = ts (go v c) (tu v c) s (j + 1) % 4 := by rw [ts]; omega
      rw [e4]
      exact ih
    rw [f_X6_cycle_8, if_pos kd_298]
    by_cases q0 : j = 0
    · subst q0; rw [if_pos (show nI 0 = 0 from rfl)]; exact step
    · rw [if_neg (by rw [show (0 : Int32) = nI 0 from rfl, n_eq (by omega) (by omega)]; exact q0)]
      have hl := hlt j
      have hmin := Cy_min (tu v c) hP hs (show 0 < j by omega) hj
      by_cases q1 : it (go v c) s j = s
      · have q2 : ¬ ts (go v c) (tu v c) s j % 4 = 0 := fun q => hmin ⟨q1, q⟩
        rw [if_pos (by rw [q1]), if_neg (by rw [show (0 : Int32) = nI 0 from rfl, n_eq (by omega) (by omega)]; exact q2)]
        exact step
      · rw [if_neg (by rw [n_eq (by omega) (by omega)]; exact q1)]
        exact step
def rnd (v : Vt) (c : Nat) : Nat := lcF (Cy (go v c) (tu v c)) 12
theorem roundM {σ : Sg} {v : Vt} {g : Int32} (hM : Mo (σ 299) v g) (hV : Va v) {c : Nat} (hc : c < v 1) : f_X6_round 298 (nI c) σ = some (nI (rnd v c), σ) := by
  have hP : Pm (go v c) := ⟨fun i hi => ((Cb_of hV hc) i hi).1, hV.2.2.2.2.2.1 c hc⟩
  have hd := lcF_dvd (fun s hs => Cy_dvd (tu v c) hP hs)
  have hp := lcF_pos (fun s hs => (Cy_pos (tu v c) hP hs).1)
  have hb : ∀ n, n ≤ 12 → lcF (Cy (go v c) (tu v c)) n ≤ 110880 := fun n hn => Nat.le_of_dvd (by omega) (hd n hn)
  rw [f_X6_round, if_pos kd_298]
  have key := loopU (fun n j => f_X6_round_4 n 298 (nI c) (nI (lcF (Cy (go v c) (tu v c)) j)) (nI j) σ) (fun _ => some (nI (rnd v c), σ)) 12 (by omega) ?_ ?_
  · exact key
  · intro n
    rw [f_X6_round_4, if_pos kd_298, if_pos (by decide)]; rfl
  · intro n j hj ih
    have c1 := Cy_pos (tu v c) hP hj
    have b1 := hb j (by omega)
    have g0 : 0 < Nat.gcd (lcF (Cy (go v c) (tu v c)) j) (Cy (go v c) (tu v c) j) := Nat.gcd_pos_of_pos_left _ (hp j (by omega))
    have g1 : Nat.gcd (lcF (Cy (go v c) (tu v c)) j) (Cy (go v c) (tu v c) j) ≤ Cy (go v c) (tu v c) j := Nat.le_of_dvd c1.1 (Nat.gcd_dvd_right _ _)
    rw [f_X6_round_4, if_pos kd_298, if_neg (by rw [show (12 : Int32) = nI 12 from rfl, n_le (by omega) (by omega)]; omega), cycM hM hV hc hj, cb_some, f_X6_common, gcdM σ FU _ _ (FU_gt (by omega)) (by omega) (by omega), cb_some, if_pos (by rw [show (0 : Int32) = nI 0 from rfl, n_eq (by omega) (by omega)]; omega)]
    simp only [bnE]
    rw [n_div (by omega) g0 (by omega), pk_mul, lcm_div, show (1 : Int32) = nI 1 from rfl, nI_add]
    exact ih
