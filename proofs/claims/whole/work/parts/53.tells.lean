theorem b_bit : ∀ a, a < 64 → ∀ b, b < 64 → ∀ x, x < 12 → ((nI (64 * a + b) >>> (nI x &&& 31)) &&& 1 = 0 ↔ (64 * a + b).testBit x = false) := by decide +kernel
theorem b_bit' {m x : Nat} (hm : m < 4096) (hx : x < 12) : (nI m >>> (nI x &&& 31)) &&& 1 = 0 ↔ m.testBit x = false := by
  have := b_bit (m / 64) (by omega) (m % 64) (by omega) x hx
  rw [show 64 * (m / 64) + m % 64 = m by omega] at this
  exact this
/-- x lies in the round of s -/
def orb (f : Nat → Nat) (s x : Nat) : Bool := anyB (fun k => x == it f s k) (Ln f s)
theorem orb_iff {f : Nat → Nat} (h : Pm f) {s x : Nat} (hs : s < 12) : orb f s x = true ↔ ∃ k, it f s k = x := by
  unfold orb
  rw [anyB_iff]
  obtain ⟨l1, l2, l3, l4⟩ := Ln_spec h hs
  constructor
  · rintro ⟨k, -, e⟩
    exact ⟨k, by rw [beq_iff_eq] at e; exact e.symm⟩
  · rintro ⟨k, e⟩
    refine ⟨k % Ln f s, Nat.mod_lt _ (by omega), ?_⟩
    rw [beq_iff_eq, ← e]
    have e2 : k = k / Ln f s * Ln f s + k % Ln f s := by rw [Nat.mul_comm]; exact (Nat.div_add_mod k (Ln f s)).symm
    have e3 : it f s (k / Ln f s * Ln f s + k % Ln f s) = it f s (k % Ln f s) := by rw [it_add, it_mul l1]
    rw [← e2] at e3
    exact e3
/-- seen ahead of j -/
def sn (f : Nat → Nat) (j x : Nat) : Bool := anyB (fun s => orb f s x) j
theorem sn_iff {f : Nat → Nat} (h : Pm f) {j x : Nat} (hj : j ≤ 12) : sn f j x = true ↔ ∃ s, s < j ∧ ∃ k, it f s k = x := by
  unfold sn
  rw [anyB_iff]
  constructor
  · rintro ⟨s, hs, e⟩
    exact ⟨s, hs, (orb_iff h (by omega)).mp e⟩
  · rintro ⟨s, hs, e⟩
    exact ⟨s, hs, (orb_iff h (by omega)).mpr e⟩
theorem sn_old {f : Nat → Nat} (h : Pm f) {j : Nat} (hj : j < 12) (hs : sn f j j = true) (x : Nat) : sn f (j + 1) x = sn f j x := by
  show (sn f j x || orb f j x) = sn f j x
  cases e : orb f j x with
  | false => rw [Bool.or_false]
  | true =>
    obtain ⟨s, h1, a, ha⟩ := (sn_iff h (by omega)).mp hs
    obtain ⟨b, hb⟩ := (orb_iff h hj).mp e
    rw [Bool.or_true]
    exact ((sn_iff h (by omega)).mpr ⟨s, h1, a + b, by rw [it_add, ha, hb]⟩).symm
theorem sn_new {f : Nat → Nat} (h : Pm f) {j : Nat} (hj : j < 12) (hs : sn f j j = false) {i : Nat} (hi : i < Ln f j) : (sn f j (it f j i) || anyB (fun k => it f j i == it f j k) i) = false := by
  obtain ⟨l1, l2, l3, l4⟩ := Ln_spec h hj
  rw [Bool.or_eq_false_iff]
  constructor
  · cases e : sn f j (it f j i) with
    | false => rfl
    | true =>
      obtain ⟨s, h1, a, ha⟩ := (sn_iff h (by omega)).mp e
      have : sn f j j = true := (sn_iff h (by omega)).mpr ⟨s, h1, a + (Ln f j - i), by rw [it_add, ha, ← it_add, show i + (Ln f j - i) = Ln f j by omega]; exact l1⟩
      rw [this] at hs; cases hs
  · rw [anyB_f]
    intro k hk
    rw [beq_eq_false_iff_ne]
    intro e
    have e2 : it f j i = it f (it f j (i - k)) k := by rw [← it_add, show i - k + k = i by omega]
    rw [e2] at e
    exact l4 (i - k) (by omega) (by omega) (it_inj h (it_lt h hj _) hj k e)
theorem timesC (T : Nat) (hT : T < 2147483648) (σ : Sg) : f_X0_timesToFaceAhead (nI T) σ = some (nI (mT T), σ) := by
  rw [f_X0_timesToFaceAhead, show (4 : Int32) = nI 4 from rfl, n_rem hT (by omega) (by omega), show (0 : Int32) = nI 0 from rfl, show (2 : Int32) = nI 2 from rfl]
  simp only [bnE]
  simp only [n_eq (show T % 4 < 2147483648 by omega) (show 0 < 2147483648 by omega), n_eq (show T % 4 < 2147483648 by omega) (show 2 < 2147483648 by omega)]
  unfold mT
  by_cases a : T % 4 = 0
  · rw [if_pos a, if_pos a]; rfl
  · rw [if_neg a, if_neg a]
    by_cases b : T % 4 = 2
    · rw [if_pos b, if_pos b]
    · rw [if_neg b, if_neg b]
theorem ts_le {f t : Nat → Nat} (h : Pm f) (ht : ∀ s, s < 12 → t s < 4) {s : Nat} (hs : s < 12) : ∀ k, ts f t s k ≤ 3 * k
  | 0 => by rw [ts]; omega
  | k + 1 => by
    have := ts_le h ht hs k
    have := ht _ (it_lt h hs k)
    rw [ts]
    omega
theorem bm_zero (n : Nat) : bm (fun _ => false) n = 0 := by
  induction n with
  | zero => rfl
  | succ n ih => rw [bm, ih]; simp
theorem round32 {σ : Sg} {k : Nat} {f t w : Nat → Nat} (hk : kd k = 0) (hC : Ca σ k f t w) (hB : Cb f t w) (hP : Pm f) {a j : Nat} (ha : 0 < a) (ha2 : a ≤ 110880) (hj : j < 12) (hsj : sn f j j = false) (rc : Nat → Int32 → Int32 → Int32 → Sg → Option (Int32 × Sg)) : f_X0_round_32 rc FU k (nI a) (nI (bm (sn f j) 12)) (nI j) 0 0 (nI j) σ = rc k (nI (Nat.lcm a (Cy f t j))) (nI (bm (sn f (j + 1)) 12)) (nI (j + 1)) σ := by
  obtain ⟨r0, r1, r2, -⟩ := st0 hk
  obtain ⟨l1, l2, l3, l4⟩ := Ln_spec hP hj
  have hts := ts_le hP (fun s hs => (hB s hs).2.1) hj
  have c1 := Cy_pos t hP hj
  have fin : ∀ m, f_X0_round_82 rc k (nI a) m (nI j) (nI (Ln f j)) (nI (ts f t j (Ln f j))) σ = rc k (nI (Nat.lcm a (Cy f t j))) m (nI (j + 1)) σ := fun m => by
    have := hts (Ln f j)
    rw [f_X0_round_82, if_pos hk, timesC _ (by omega), cb_some, pk_mul, show Ln f j * mT (ts f t j (Ln f j)) = Cy f t j from rfl, lcmC ha c1.1 ha2 c1.2, cb_some, f_X0_round_95, if_pos hk, show (1 : Int32) = nI 1 from rfl, nI_add]
  have key := loopU (fun n i => f_X0_round_32 rc n k (nI a) (nI (bm (fun x => sn f j x || anyB (fun q => x == it f j q) i) 12)) (nI j) (nI i) (nI (ts f t j i)) (nI (it f j i)) σ) (fun _ => rc k (nI (Nat.lcm a (Cy f t j))) (nI (bm (sn f (j + 1)) 12)) (nI (j + 1)) σ) (Ln f j) (by omega) ?_ ?_
  · rw [bm_cong (q := sn f j) (fun i hi => by show (sn f j i || false) = sn f j i; rw [Bool.or_false])] at key
    exact key
  · intro n
    rw [f_X0_round_32, if_pos hk]
    have e : bm (fun x => sn f j x || anyB (fun q => x == it f j q) (Ln f j)) 12 = bm (sn f (j + 1)) 12 := rfl
    by_cases q : 12 ≤ Ln f j
    · rw [if_pos (by rw [show (12 : Int32) = nI 12 from rfl, n_le (by omega) (by omega)]; exact q), fin, e]
    · have hl := bm_lt (fun x => sn f j x || anyB (fun q => x == it f j q) (Ln f j)) 12
      rw [if_neg (by rw [show (12 : Int32) = nI 12 from rfl, n_le (by omega) (by omega)]; exact q), if_neg, fin, e]
      rw [b_bit' hl (it_lt hP hj _), bm_tb]
      rw [decide_eq_true (it_lt hP hj _), Bool.true_and, l1]
      have : anyB (fun q => j == it f j q) (Ln f j) = true := (anyB_iff _ _).mpr ⟨0, by omega, by rw [it]; simp⟩
      rw [this, Bool.or_true]
      simp
  · intro n i hi ih
    have hlt := it_lt hP hj i
    have hl := bm_lt (fun x => sn f j x || anyB (fun q => x == it f j q) i) 12
    obtain ⟨a1, a2, a3⟩ := hC _ hlt
    obtain ⟨b1, b2, b3⟩ := hB _ hlt
    have hib : inb (nI (it f j i)) 12 = true := by rw [inb_nI (by omega)]; exact decide_eq_true hlt
    rw [f_X0_round_32, if_pos hk, if_neg (by rw [show (12 : Int32) = nI 12 from rfl, n_le (by omega) (by omega)]; omega), if_pos (by rw [b_bit' hl hlt, bm_tb, decide_eq_true hlt, Bool.true_and]; exact sn_new hP hj hsj hi), show (31 : Int32) = nI 31 from rfl, show (1 : Int32) = nI 1 from rfl, b_one _ (by omega), b_or, bm_set _ hlt, r0, r1]
    simp only [bnE]
    rw [if_pos hib, ix_nI (by omega), a2, a1, nI_add, nI_add]
    have e : bm (fun x => (sn f j x || anyB (fun q => x == it f j q) i) || x == it f j i) 12 = bm (fun x => sn f j x || anyB (fun q => x == it f j q) (i + 1)) 12 := bm_cong (fun x hx => by rw [anyB, Bool.or_assoc])
    rw [e, if_pos hib]
    exact ih
theorem roundC {σ : Sg} {k : Nat} {f t w : Nat → Nat} (hk : kd k = 0) (hC : Ca σ k f t w) (hB : Cb f t w) (hP : Pm f) : f_X0_round k σ = some (nI (lcF (Cy f t) 12), σ) := by
  have hd := lcF_dvd (fun s hs => Cy_dvd t hP hs)
  have hp := lcF_pos (fun s hs => (Cy_pos t hP hs).1)
  have hb : ∀ n, n ≤ 12 → lcF (Cy f t) n ≤ 110880 := fun n hn => Nat.le_of_dvd (by omega) (hd n hn)
  rw [f_X0_round, if_pos hk]
  have key := loopU (fun n j => f_X0_round_6 n k (nI (lcF (Cy f t) j)) (nI (bm (sn f j) 12)) (nI j) σ) (fun _ => some (nI (lcF (Cy f t) 12), σ)) 12 (by omega) ?_ ?_
  · rw [show bm (sn f 0) 12 = 0 from bm_zero 12] at key
    exact key
  · intro n
    rw [f_X0_round_6, if_pos hk, if_pos (by decide)]
  · intro n j hj ih
    have hl := bm_lt (sn f j) 12
    rw [f_X0_round_6, if_pos hk, if_neg (by rw [show (12 : Int32) = nI 12 from rfl, n_le (by omega) (by omega)]; omega)]
    cases e : sn f j j with
    | false =>
      rw [if_pos (by rw [b_bit' hl hj, bm_tb, decide_eq_true hj, Bool.true_and]; exact e), round32 hk hC hB hP (hp j (by omega)) (hb j (by omega)) hj e]
      exact ih
    | true =>
      rw [if_neg (by rw [b_bit' hl hj, bm_tb, decide_eq_true hj, Bool.true_and, e]; simp), f_X0_round_95, if_pos hk, show (1 : Int32) = nI 1 from rfl, nI_add]
      obtain ⟨s, h1, a, ha⟩ := (sn_iff hP (by omega)).mp e
      have e1 : lcF (Cy f t) (j + 1) = lcF (Cy f t) j := by
        rw [lcF]
        refine lcm_abs ?_ (hp j (by omega))
        have ee : Cy f t j = Cy f t s := by rw [← Cy_orb t hP (show s < 12 by omega) a, ha]
        rw [ee]
        exact lcF_in j s h1
      rw [e1, bm_cong (fun x hx => sn_old hP hj e x)] at ih
      exact ih
/-! tells -/
def tlN (v : Vt) (c w : Nat) : Int32 := if w = 0 then bI (fitV v c) else if w = 1 then nI (cn (fun s => go v c s != s) 12) else if w = 2 then nI (rnd v c) else nI (cn (fun s => wa v c s != 0) 12)
def tlA (v : Vt) (x y : Int32) : Int32 := if inb x (v 1) && inb y 4 then tlN v (ix x) (ix y) else -2
theorem tlC {σ : Sg} {v : Vt} {g : Int32} (hC : Cl σ 1 v g) (hV : Va v) (x y : Int32) : f_X3_askCall 1 x y σ = some (tlA v x y, σ) := by
  have h0 := hV.1
  have h1 := hV.2.1
  rw [f_X3_askCall, if_pos kd_1, hC.2.1, isb _ (by omega), cb_some]
  unfold tlA
  cases hx : inb x (v 1) with
  | false => rw [if_pos bf]; rfl
  | true =>
    obtain ⟨c, hc, rfl⟩ := inb_ex hx (by omega)
    rw [if_neg bt, Bool.true_and]
    obtain ⟨r0, r1, -⟩ := c_at (show c < 8 by omega)
    have hP : Pm (go v c) := ⟨fun i hi => ((Cb_of hV hc) i hi).1, hV.2.2.2.2.2.1 c hc⟩
    have i1 : inb (nI c) 8 = true := by rw [inb_nI (by omega)]; exact decide_eq_true (by omega)
    cases hz : inb y 4 with
    | false =>
      have l := lits hz (by omega)
      rw [if_neg (show ¬ y = 0 from l 0 (by omega)), if_neg (show ¬ y = 1 from l 1 (by omega)), if_neg (show ¬ y = 2 from l 2 (by omega)), if_neg (show ¬ y = 3 from l 3 (by omega))]
      rfl
    | true =>
      obtain ⟨w, hw, rfl⟩ := inb_ex hz (by omega)
      rw [if_pos rfl, if_pos i1, if_pos i1, if_pos i1, if_pos i1, rf_1_1, rf_1_4, hC.1, heldV hV kd_2.1 kd_2.2.1 (fun d hd => (hC.2.2.2.2.1 d hd).1), cb_some, ix_nI (by omega), ix_nI (by omega), r0, fitC hC hV hc, cb_some, smove r1 (Ca_of hC hc) (Cb_of hV hc), cb_some, roundC r1 (Ca_of hC hc) (Cb_of hV hc) hP, cb_some, swith r1 (Ca_of hC hc) (Cb_of hV hc), cb_some]
      unfold tlN
      rcases (show w = 0 ∨ w = 1 ∨ w = 2 ∨ w = 3 by omega) with rfl | rfl | rfl | rfl
      · rw [if_pos (show nI 0 = 0 from rfl), if_pos rfl]
        show (if bI (fitV v c) = 0 then some (0, σ) else some (1, σ)) = _
        cases fitV v c <;> rfl
      · rfl
      · rfl
      · rfl
theorem ofCall61 {σ : Sg} {v : Vt} {g : Int32} (hM : Mo (σ 299) v g) (hV : Va v) {c : Nat} (hc : c < v 1) : f_X6_ofCall_61 FU 298 (nI c) (nI 1) 0 0 σ = some (nI (cn (fun s => go v c s != s) 12), σ) ∧ f_X6_ofCall_61 FU 298 (nI c) (nI 3) 0 0 σ = some (nI (cn (fun s => wa v c s != 0) 12), σ) := by
  have h1 := hV.2.1
  constructor
  · have key := loopU (fun n j => f_X6_ofCall_61 n 298 (nI c) (nI 1) (nI (cn (fun s => go v c s != s) j)) (nI j) σ) (fun _ => some (nI (cn (fun s => go v c s != s) 12), σ)) 12 (by omega) ?_ ?_
    · exact key
    · intro n
      rw [f_X6_ofCall_61, if_pos kd_298, if_pos (by decide)]
    · intro n j hj ih
      have b1 := ((Cb_of hV hc) j hj).1
      have e0 : σ 299 (36 + 36 * c + j) = nI (go v c j) := hM.2 _ (by omega) (by omega)
      have f : ∀ z, f_X6_ofCall_118 (f_X6_ofCall_61 n) 298 (nI c) (nI 1) (nI j) (nI (cn (fun s => go v c s != s) j)) (nI z) σ = f_X6_ofCall_61 n 298 (nI c) (nI 1) (nI (cn (fun s => go v c s != s) j + z)) (nI (j + 1)) σ := fun z => by
        rw [f_X6_ofCall_118, if_pos kd_298, nI_add, show (nI j + 1 : Int32) = nI (j + 1) from nI_1 _]; rfl
      rw [f_X6_ofCall_61, if_pos kd_298, if_neg (by rw [show (12 : Int32) = nI 12 from rfl, n_le (by omega) (by omega)]; omega), if_pos (show nI 1 = 1 from rfl), show (0 : Int32) = nI 0 from rfl, place0, cb_some, if_pos (by rw [inb_nI (by omega)]; exact decide_eq_true (by omega)), rf_298_0, ix_nI (by omega), e0]
      rw [cn] at ih
      by_cases q : go v c j = j
      · rw [if_pos (by rw [q]), f_X6_ofCall_92, if_pos kd_298, if_neg (by decide), f_X6_ofCall_117, if_pos kd_298, show (0 : Int32) = nI 0 from rfl, f]
        rw [show (go v c j != j) = false by simp [q]] at ih
        exact ih
      · rw [if_neg (by rw [n_eq (by omega) (by omega)]; exact q), f_X6_ofCall_113, if_pos kd_298, show f_X6_ofCall_118 (f_X6_ofCall_61 n) 298 (nI c) (nI 1) (nI j) (nI (cn (fun s => go v c s != s) j)) 1 σ = _ from f 1]
        rw [show (go v c j != j) = true by simp [q]] at ih
        exact ih
  · have key := loopU (fun n j => f_X6_ofCall_61 n 298 (nI c) (nI 3) (nI (cn (fun s => wa v c s != 0) j)) (nI j) σ) (fun _ => some (nI (cn (fun s => wa v c s != 0) 12), σ)) 12 (by omega) ?_ ?_
    · exact key
    · intro n
      rw [f_X6_ofCall_61, if_pos kd_298, if_pos (by decide)]
    · intro n j hj ih
      have b1 := ((Cb_of hV hc) j hj).2.2
      have e0 : σ 299 (60 + 36 * c + j) = nI (wa v c j) := hM.2 _ (by omega) (by omega)
      have f : ∀ z, f_X6_ofCall_118 (f_X6_ofCall_61 n) 298 (nI c) (nI 3) (nI j) (nI (cn (fun s => wa v c s != 0) j)) (nI z) σ = f_X6_ofCall_61 n 298 (nI c) (nI 3) (nI (cn (fun s => wa v c s != 0) j + z)) (nI (j + 1)) σ := fun z => by
        rw [f_X6_ofCall_118, if_pos kd_298, nI_add, show (nI j + 1 : Int32) = nI (j + 1) from nI_1 _]; rfl
      rw [f_X6_ofCall_61, if_pos kd_298, if_neg (by rw [show (12 : Int32) = nI 12 from rfl, n_le (by omega) (by omega)]; omega), if_neg (by decide), f_X6_ofCall_92, if_pos kd_298, if_pos (show nI 3 = 3 from rfl), show (2 : Int32) = nI 2 from rfl, place2, cb_some, if_pos (by rw [inb_nI (by omega)]; exact decide_eq_true (by omega)), rf_298_0, ix_nI (by omega), e0]
      rw [cn] at ih
      by_cases q : wa v c j = 0
      · rw [if_pos (by rw [q]; rfl), f_X6_ofCall_117, if_pos kd_298, show f_X6_ofCall_118 (f_X6_ofCall_61 n) 298 (nI c) (nI 3) (nI j) (nI (cn (fun s => wa v c s != 0) j)) 0 σ = _ from f 0]
        rw [show (wa v c j != 0) = false by simp [q]] at ih
        exact ih
      · rw [if_neg (by rw [show (0 : Int32) = nI 0 from rfl, n_eq (by omega) (by omega)]; exact q), f_X6_ofCall_113, if_pos kd_298, show f_X6_ofCall_118 (f_X6_ofCall_61 n) 298 (nI c) (nI 3) (nI j) (nI (cn (fun s => wa v c s != 0) j)) 1 σ = _ from f 1]
        rw [show (wa v c j != 0) = true by simp [q]] at ih
        exact ih
theorem tlM {σ : Sg} {v : Vt} {g : Int32} (hM : Mo (σ 299) v g) (hV : Va v) (x y : Int32) : f_X6_ofCall 298 x y σ = some (tlA v x y, σ) := by
  have h1 := hV.2.1
  rw [f_X6_ofCall, if_pos kd_298, isCall_eq hM (by omega), cb_some]
  unfold tlA
  cases hx : inb x (v 1) with
  | false => rw [if_pos bf]; rfl
  | true =>
    obtain ⟨c, hc, rfl⟩ := inb_ex hx (by omega)
    rw [if_neg bt, Bool.true_and, isI (N := 4) (by decide), cb_some]
    cases hz : inb y 4 with
    | false => rw [if_pos bf]; rfl
    | true =>
      obtain ⟨w, hw, rfl⟩ := inb_ex hz (by omega)
      rw [if_neg bt, if_pos rfl, ix_nI (by omega), ix_nI (by omega)]
      unfold tlN
      rcases (show w = 0 ∨ w = 1 ∨ w = 2 ∨ w = 3 by omega) with rfl | rfl | rfl | rfl
      · rw [if_pos (show nI 0 = 0 from rfl), f_X6_ofCall_29, if_pos kd_298, if_neg (by decide), fitsM hM hV hc, cb_some, if_pos rfl]
        show (if bI (fitV v c) = 0 then some (0, σ) else some (1, σ)) = _
        cases fitV v c <;> rfl
      · rw [if_neg (by decide), if_neg (by decide), (ofCall61 hM hV hc).1]; rfl
      · rw [if_neg (by decide), if_pos (show nI 2 = 2 from rfl), f_X6_ofCall_29, if_pos kd_298, if_pos (show nI 2 = 2 from rfl), roundM hM hV hc, cb_some]; rfl
      · rw [if_neg (by decide), if_neg (by decide), (ofCall61 hM hV hc).2]; rfl
theorem sim_tells {n : Nat} (hn : n < 600) (x y : Int32) : Sim (Inv n) (Inv (n + 1)) (f_X5_tells 0 x y) (f_X6_tells 298 x y) := by
  refine ask_sim hn (fun v g hv hg ks tl tb rz hV => ⟨tlA v x y, fun σ hC => ⟨σ, ?_, hC, fun k hk => rfl⟩, fun σ hM => ⟨σ, ?_, hM, fun k hk => rfl⟩⟩)
  · rw [f_X5_tells, if_pos kd_0, rf_0_0, tlC hC.1 hV.1, cb_some]
  · rw [f_X6_tells, if_pos kd_298, tlM hM.1 hV.1, cb_some]
