/-! home, pairs, of, at, count -/
def hmB (v : Vt) (d : Nat) : Bool := v (4 + 4 * d) == v (6 + 4 * d) && v (5 + 4 * d) == v (7 + 4 * d)
theorem isHomeM {σ : Sg} {v : Vt} {g : Int32} (hM : Mo (σ 299) v g) (hV : Va v) {d : Nat} (hd : d < v 0) : f_X6_isHome 298 (nI d) σ = some (bI (hmB v d), σ) := by
  have h0 := hV.1
  obtain ⟨b1, b2, b3, b4⟩ := hV.2.2.2.1 d hd
  have e4 : σ 299 (4 + 4 * d) = nI (v (4 + 4 * d)) := hM.2 _ (by omega) (by omega)
  have e5 : σ 299 (5 + 4 * d) = nI (v (5 + 4 * d)) := hM.2 _ (by omega) (by omega)
  have e6 : σ 299 (6 + 4 * d) = nI (v (6 + 4 * d)) := hM.2 _ (by omega) (by omega)
  have e7 : σ 299 (7 + 4 * d) = nI (v (7 + 4 * d)) := hM.2 _ (by omega) (by omega)
  rw [f_X6_isHome, if_pos kd_298]
  simp (disch := omega) only [kd_0, kd_1, kd_39, kd_269, kd_273, kd_298, rf_0_0, rf_0_1, rf_0_2, rf_0_3, rf_0_4, rf_1_1, rf_1_2, rf_1_4, rf_1_6, rf_1_7, rf_39_0, rf_269_0, rf_269_5, rf_269_6, rf_298_0, rf_298_1, rf_298_3, rf_298_4, rf_298_6, rf_298_7, rf_298_8, rf_298_9, bnE, cbE, lj, ix_nI, inb_nI, n_lt, n_le, n_eq, n_div, n_rem, nI_add, pk_mul, decide_eq_true_eq, if_true, if_false, bI_0, bI_or, not_true, not_false_eq_true, ↓reduceIte, e4, e5, e6, e7, show 4 + 4 * d < 336 by omega, show 5 + 4 * d < 336 by omega, show 6 + 4 * d < 336 by omega, show 7 + 4 * d < 336 by omega]
  unfold hmB
  by_cases q1 : v (4 + 4 * d) = v (6 + 4 * d)
  · rw [if_pos q1]
    by_cases q2 : v (5 + 4 * d) = v (7 + 4 * d)
    · rw [if_pos q2]; simp [q1, q2, bI]; rfl
    · rw [if_neg q2]; simp [q1, q2, bI]; rfl
  · rw [if_neg q1]; simp [q1, bI]; rfl
theorem atHomeM {σ : Sg} {v : Vt} {g : Int32} (hM : Mo (σ 299) v g) (hV : Va v) : f_X6_atHome 298 σ = some (nI (cn (hmB v) (v 0)), σ) := by
  have h0 := hV.1
  rw [f_X6_atHome, if_pos kd_298]
  have key := loopU (fun n j => f_X6_atHome_4 n 298 (nI (cn (hmB v) j)) (nI j) σ) (fun _ => some (nI (cn (hmB v) (v 0)), σ)) (v 0) (by omega) ?_ ?_
  · exact key
  · intro n
    rw [f_X6_atHome_4, if_pos kd_298, if_pos (by decide), rf_298_0, show ix 0 = 0 from rfl, hM.2 0 (by omega) (by omega), if_pos (by rw [n_le (by omega) (by omega)]; omega)]
  · intro n j hj ih
    rw [cn] at ih
    rw [f_X6_atHome_4, if_pos kd_298, if_pos (by decide), rf_298_0, show ix 0 = 0 from rfl, hM.2 0 (by omega) (by omega), if_neg (by rw [n_le (by omega) (by omega)]; omega), isHomeM hM hV hj, cb_some]
    have f : ∀ z, f_X6_atHome_28 (f_X6_atHome_4 n) 298 (nI j) (nI (cn (hmB v) j)) (nI z) σ = f_X6_atHome_4 n 298 (nI (cn (hmB v) j + z)) (nI (j + 1)) σ := fun z => by
      rw [f_X6_atHome_28, if_pos kd_298, show (1 : Int32) = nI 1 from rfl, nI_add, nI_add]; rfl
    cases e : hmB v j with
    | false => rw [if_pos bf, show (0 : Int32) = nI 0 from rfl, f]; rw [e] at ih; exact ih
    | true => rw [if_neg bt, show (1 : Int32) = nI 1 from rfl, f]; rw [e] at ih; exact ih
theorem hmC {σ : Sg} {v : Vt} {g : Int32} (hC : Cl σ 1 v g) (hV : Va v) {d : Nat} (hd : d < v 0) : (σ 2 d = σ 3 d) ↔ hmB v d = true := by
  obtain ⟨b1, b2, b3, b4⟩ := hV.2.2.2.1 d hd
  obtain ⟨a1, a2⟩ := hC.2.2.2.2.1 d hd
  rw [a1, a2, n_eq (by omega) (by omega)]
  unfold hmB
  simp only [Bool.and_eq_true, beq_iff_eq]
  omega
theorem howHomeC {σ : Sg} {v : Vt} {g : Int32} (hC : Cl σ 1 v g) (hV : Va v) : f_X3_howManyAreHome 1 σ = some (nI (cn (hmB v) (v 0)), σ) := by
  have h0 := hV.1
  rw [f_X3_howManyAreHome, if_pos kd_1]
  have key := loopU (fun n j => f_X3_howManyAreHome_4 n 1 (nI (cn (hmB v) j)) (nI j) σ) (fun _ => some (nI (cn (hmB v) (v 0)), σ)) (v 0) (by omega) ?_ ?_
  · exact key
  · intro n
    rw [f_X3_howManyAreHome_4, if_pos kd_1, hC.1, if_pos (by rw [n_le (by omega) (by omega)]; omega)]
  · intro n j hj ih
    rw [cn] at ih
    have hib : inb (nI j) 8 = true := by rw [inb_nI (by omega)]; exact decide_eq_true (by omega)
    rw [f_X3_howManyAreHome_4, if_pos kd_1, hC.1, if_neg (by rw [n_le (by omega) (by omega)]; omega), if_pos hib, if_pos hib, rf_1_1, rf_1_2, ix_nI (by omega)]
    have f : ∀ z, f_X3_howManyAreHome_33 (f_X3_howManyAreHome_4 n) 1 (nI j) (nI (cn (hmB v) j)) (nI z) σ = f_X3_howManyAreHome_4 n 1 (nI (cn (hmB v) j + z)) (nI (j + 1)) σ := fun z => by
      rw [f_X3_howManyAreHome_33, if_pos kd_1, show (1 : Int32) = nI 1 from rfl, nI_add, nI_add]; rfl
    by_cases e : hmB v j = true
    · rw [if_pos ((hmC hC hV hj).mpr e), show (1 : Int32) = nI 1 from rfl, f]; rw [e] at ih; exact ih
    · rw [if_neg (fun q => e ((hmC hC hV hj).mp q)), show (0 : Int32) = nI 0 from rfl, f]
      rw [show hmB v j = false by simpa using e] at ih; exact ih
/-! pairs -/
def pairP (a f b e : Nat) : Bool := f == e && a / 4 == b / 4 && (a == b + 1 || b == a + 1)
def pp (p q : Nat) : Bool := (p == q + 4 || q == p + 4) && p / 16 == q / 16
theorem pp_eq {a f b e : Nat} (hf : f < 4) (he : e < 4) : pp (a * 4 + f) (b * 4 + e) = pairP a f b e := by
  unfold pp pairP
  rw [Bool.eq_iff_iff]
  simp only [Bool.and_eq_true, Bool.or_eq_true, beq_iff_eq]
  omega
theorem areC (σ : Sg) {p q : Nat} (hp : p < 48) (hq : q < 48) : f_X5_arePaired (nI p) (nI q) σ = some (bI (pp p q), σ) := by
  have h : ∀ p, p < 48 → ∀ q, q < 48 → ((f_X5_arePaired (nI p) (nI q) (fun _ _ => 0)).map (fun z => z.1)) = some (bI (pp p q)) := by decide +kernel
  have := h p hp q hq
  unfold f_X5_arePaired at this ⊢
  by_cases c1 : (if 0 ≤ nI p - nI q then nI p - nI q else 0 - (nI p - nI q)) = 4
  · rw [if_pos c1] at this ⊢
    by_cases c2 : nI p / 16 = nI q / 16
    · rw [if_pos c2] at this ⊢
      simp only [Option.map_some, Option.some.injEq] at this
      rw [← this]
    · rw [if_neg c2] at this ⊢
      simp only [Option.map_some, Option.some.injEq] at this
      rw [← this]
  · rw [if_neg c1] at this ⊢
    simp only [Option.map_some, Option.some.injEq] at this
    rw [← this]
def prn (d : Nat) : Nat := if d % 2 = 0 then d + 1 else d - 1
def prt (v : Vt) (d : Nat) : Option Nat := if prn d < v 0 then some (prn d) else none
def prd (v : Vt) (d : Nat) : Bool := decide (prn d < v 0) && pairP (v (4 + 4 * d)) (v (5 + 4 * d)) (v (4 + 4 * prn d)) (v (5 + 4 * prn d))
theorem partC {σ : Sg} {v : Vt} {g : Int32} (hC : Cl σ 1 v g) (hV : Va v) {d : Nat} (hd : d < v 0) : f_X3_partnerOf 1 (nI d) σ = some (oI (prt v d), σ) := by
  have h0 := hV.1
  have hx : d ^^^ 1 = prn d := (by decide +kernel : ∀ d, d < 8 → d ^^^ 1 = prn d) d (by omega)
  have hb : prn d < 9 := by unfold prn; split <;> omega
  rw [f_X3_partnerOf, if_pos kd_1, show (1 : Int32) = nI 1 from rfl, b_xor, hx, hC.1]
  simp only [bnE]
  unfold prt
  by_cases e : prn d < v 0
  · rw [if_pos e, if_neg (by rw [n_le (by omega) (by omega)]; omega)]; rfl
  · rw [if_neg e, if_pos (by rw [n_le (by omega) (by omega)]; omega)]; rfl
theorem partM {σ : Sg} {v : Vt} {g : Int32} (hM : Mo (σ 299) v g) (hV : Va v) {d : Nat} (hd : d < v 0) : f_X6_partner 298 (nI d) σ = some (oI (prt v d), σ) := by
  have h0 := hV.1
  have f : ∀ z, z < 9 → f_X6_partner_15 298 (nI z) σ = some (oI (if z < v 0 then some z else none), σ) := fun z hz => by
    rw [f_X6_partner_15, if_pos kd_298, if_pos (by decide), rf_298_0, show ix 0 = 0 from rfl, hM.2 0 (by omega) (by omega)]
    by_cases e : z < v 0
    · rw [if_pos e, if_neg (by rw [n_le (by omega) (by omega)]; omega)]; rfl
    · rw [if_neg e, if_pos (by rw [n_le (by omega) (by omega)]; omega)]; rfl
  rw [f_X6_partner, if_pos kd_298, show (2 : Int32) = nI 2 from rfl, n_rem (by omega) (by omega) (by omega), show (0 : Int32) = nI 0 from rfl, show (1 : Int32) = nI 1 from rfl, nI_add]
  simp only [n_eq (show d % 2 < 2147483648 by omega) (show 0 < 2147483648 by omega)]
  unfold prt prn
  by_cases e : d % 2 = 0
  · rw [if_pos e, if_pos e, f _ (by omega)]
  · rw [if_neg e, if_neg e, n_sub (by omega), f _ (by omega)]
theorem isPairC {σ : Sg} {v : Vt} {g : Int32} (hC : Cl σ 1 v g) (hV : Va v) {d : Nat} (hd : d < v 0) : f_X3_isPaired 1 (nI d) σ = some (bI (prd v d), σ) := by
  have h0 := hV.1
  rw [f_X3_isPaired, if_pos kd_1, partC hC hV hd, cb_some]
  unfold prt prd
  by_cases e : prn d < v 0
  · obtain ⟨b1, b2, -⟩ := hV.2.2.2.1 d hd
    obtain ⟨c1, c2, -⟩ := hV.2.2.2.1 _ e
    have a1 := (hC.2.2.2.2.1 d hd).1
    have a2 := (hC.2.2.2.2.1 _ e).1
    have o1 := (oI_neg (o := some (prn d)) (fun z hz => by cases hz; omega)).1
    have i1 : inb (nI d) 8 = true := by rw [inb_nI (by omega)]; exact decide_eq_true (by omega)
    have i2 : inb (nI (prn d)) 8 = true := by rw [inb_nI (by omega)]; exact decide_eq_true (by omega)
    rw [if_pos e, if_neg (fun q => by have := o1.mp q; cases this), show oI (some (prn d)) = nI (prn d) from rfl, if_pos i1, if_pos i2, rf_1_1, ix_nI (by omega), ix_nI (by omega), a1, a2, areC σ (by omega) (by omega), cb_some, pp_eq b2 c2, decide_eq_true e, Bool.true_and]
    cases pairP (v (4 + 4 * d)) (v (5 + 4 * d)) (v (4 + 4 * prn d)) (v (5 + 4 * prn d)) <;> rfl
  · rw [if_neg e, if_pos (show oI none = -1 from rfl), decide_eq_false e]; rfl
theorem sub1 {a b : Nat} (ha : a < 12) (hb : b < 12) : nI a - nI b = 1 ↔ a = b + 1 := (by decide +kernel : ∀ a, a < 12 → ∀ b, b < 12 → (nI a - nI b = 1 ↔ a = b + 1)) a ha b hb
theorem arePM {σ : Sg} {v : Vt} {g : Int32} (hM : Mo (σ 299) v g) (hV : Va v) {d : Nat} (hd : d < v 0) : f_X6_arePaired 298 (nI d) σ = some (bI (prd v d), σ) := by
  have h0 := hV.1
  rw [f_X6_arePaired, if_pos kd_298, partM hM hV hd, cb_some]
  unfold prt prd
  by_cases e : prn d < v 0
  · obtain ⟨b1, b2, -⟩ := hV.2.2.2.1 d hd
    obtain ⟨c1, c2, -⟩ := hV.2.2.2.1 _ e
    have e4 : σ 299 (4 + 4 * d) = nI (v (4 + 4 * d)) := hM.2 _ (by omega) (by omega)
    have e5 : σ 299 (5 + 4 * d) = nI (v (5 + 4 * d)) := hM.2 _ (by omega) (by omega)
    have p4 : σ 299 (4 + 4 * prn d) = nI (v (4 + 4 * prn d)) := hM.2 _ (by omega) (by omega)
    have p5 : σ 299 (5 + 4 * prn d) = nI (v (5 + 4 * prn d)) := hM.2 _ (by omega) (by omega)
    have o1 := (oI_neg (o := some (prn d)) (fun z hz => by cases hz; omega)).2
    rw [if_pos e, if_neg (fun q => by have := o1.mp q; cases this), show oI (some (prn d)) = nI (prn d) from rfl, decide_eq_true e, Bool.true_and]
    simp (disch := omega) only [show (5 : Int32) = nI 5 from rfl, show (4 : Int32) = nI 4 from rfl, pk_mul, nI_add, inb_nI, ix_nI, rf_298_0, bnE, e4, e5, p4, p5, n_div, n_eq, sub1, decide_eq_true_eq, show 5 + 4 * d < 336 by omega, show 4 + 4 * d < 336 by omega, show 5 + 4 * prn d < 336 by omega, show 4 + 4 * prn d < 336 by omega, ↓reduceIte, f_X6_arePaired_84]
    unfold pairP
    by_cases q1 : v (5 + 4 * d) = v (5 + 4 * prn d)
    · rw [if_pos q1]
      by_cases q2 : v (4 + 4 * d) / 4 = v (4 + 4 * prn d) / 4
      · rw [if_pos q2]
        by_cases q3 : v (4 + 4 * d) = v (4 + 4 * prn d) + 1
        · rw [if_pos q3]; simp [q1, q3, bI]; omega
        · rw [if_neg q3]
          by_cases q4 : v (4 + 4 * prn d) = v (4 + 4 * d) + 1
          · rw [if_pos q4]; simp [q1, q4, bI]; omega
          · rw [if_neg q4]; simp [q3, q4, bI]
      · rw [if_neg q2]; simp [q2, bI]
    · rw [if_neg q1]; simp [q1, bI]
  · rw [if_neg e, if_pos (by decide), decide_eq_false e]; rfl
def prs (v : Vt) : Nat := cn (fun i => prd v (2 * i)) (v 0 / 2)
theorem prs_odd (v : Vt) : cn (fun i => prd v (2 * i)) ((v 0 + 1) / 2) = prs v := by
  unfold prs
  rcases (show (v 0 + 1) / 2 = v 0 / 2 ∨ ((v 0 + 1) / 2 = v 0 / 2 + 1 ∧ v 0 % 2 = 1) by omega) with e | ⟨e, h⟩
  · rw [e]
  · rw [e, cn]
    have : prd v (2 * (v 0 / 2)) = false := by
      unfold prd prn
      rw [if_pos (by omega), decide_eq_false (by omega)]; rfl
    rw [this]; rfl
theorem pairsM {σ : Sg} {v : Vt} {g : Int32} (hM : Mo (σ 299) v g) (hV : Va v) : f_X6_pairs 298 σ = some (nI (prs v), σ) := by
  have h0 := hV.1
  rw [f_X6_pairs, if_pos kd_298]
  have key := loopU (fun n j => f_X6_pairs_4 n 298 (nI (cn (fun i => prd v (2 * i)) j)) (nI (2 * j)) σ) (fun _ => some (nI (prs v), σ)) (v 0 / 2) (by omega) ?_ ?_
  · exact key
  · intro n
    rw [f_X6_pairs_4, if_pos kd_298, if_pos (by decide), rf_298_0, show ix 0 = 0 from rfl, hM.2 0 (by omega) (by omega), show (1 : Int32) = nI 1 from rfl, nI_add, if_pos (by rw [n_le (by omega) (by omega)]; omega)]
    rfl
  · intro n j hj ih
    rw [cn] at ih
    rw [f_X6_pairs_4, if_pos kd_298, if_pos (by decide), rf_298_0, show ix 0 = 0 from rfl, hM.2 0 (by omega) (by omega), show (nI (2 * j) + 1 : Int32) = nI (2 * j + 1) from nI_1 _, if_neg (by rw [n_le (by omega) (by omega)]; omega), arePM hM hV (by omega), cb_some]
    have f : ∀ z, f_X6_pairs_30 (f_X6_pairs_4 n) 298 (nI (2 * j)) (nI (cn (fun i => prd v (2 * i)) j)) (nI z) σ = f_X6_pairs_4 n 298 (nI (cn (fun i => prd v (2 * i)) j + z)) (nI (2 * (j + 1))) σ := fun z => by
      rw [f_X6_pairs_30, if_pos kd_298, show (2 : Int32) = nI 2 from rfl, nI_add, nI_add, show 2 * j + 2 = 2 * (j + 1) by omega]; rfl
    cases e : prd v (2 * j) with
    | false => rw [if_pos bf, show (0 : Int32) = nI 0 from rfl, f]; rw [e] at ih; exact ih
    | true => rw [if_neg bt, show (1 : Int32) = nI 1 from rfl, f]; rw [e] at ih; exact ih
theorem pairsC {σ : Sg} {v : Vt} {g : Int32} (hC : Cl σ 1 v g) (hV : Va v) : f_X3_howManyPartnersArePaired 1 σ = some (nI (prs v), σ) := by
  have h0 := hV.1
  rw [f_X3_howManyPartnersArePaired, if_pos kd_1]
  have key := loopU (fun n j => f_X3_howManyPartnersArePaired_4 n 1 (nI (cn (fun i => prd v (2 * i)) j)) (nI (2 * j)) σ) (fun _ => some (nI (prs v), σ)) ((v 0 + 1) / 2) (by omega) ?_ ?_
  · exact key
  · intro n
    rw [f_X3_howManyPartnersArePaired_4, if_pos kd_1, hC.1, if_pos (by rw [n_le (by omega) (by omega)]; omega), prs_odd]
  · intro n j hj ih
    rw [cn] at ih
    rw [f_X3_howManyPartnersArePaired_4, if_pos kd_1, hC.1, if_neg (by rw [n_le (by omega) (by omega)]; omega), isPairC hC hV (by omega), cb_some]
    have f : ∀ z, f_X3_howManyPartnersArePaired_26 (f_X3_howManyPartnersArePaired_4 n) 1 (nI (2 * j)) (nI (cn (fun i => prd v (2 * i)) j)) (nI z) σ = f_X3_howManyPartnersArePaired_4 n 1 (nI (cn (fun i => prd v (2 * i)) j + z)) (nI (2 * (j + 1))) σ := fun z => by
      rw [f_X3_howManyPartnersArePaired_26, if_pos kd_1, show (2 : Int32) = nI 2 from rfl, nI_add, nI_add, show 2 * j + 2 = 2 * (j + 1) by omega]; rfl
    cases e : prd v (2 * j) with
    | false => rw [if_pos bf, show (0 : Int32) = nI 0 from rfl, f]; rw [e] at ih; exact ih
    | true => rw [if_neg bt, show (1 : Int32) = nI 1 from rfl, f]; rw [e] at ih; exact ih
/-! of -/
def ofN (v : Vt) (d w : Nat) : Int32 := if w < 4 then nI (v (4 + 4 * d + w)) else if w = 4 then bI (hmB v d) else if w = 5 then oI (prt v d) else bI (prd v d)
def ofA (v : Vt) (x y : Int32) : Int32 := if inb x (v 0) && inb y 7 then ofN v (ix x) (ix y) else -2
theorem lits {x : Int32} {N : Nat} (h : inb x N = false) (hN : N < 2147483648) (j : Nat) (hj : j < N) : ¬ x = nI j := inb_lit h hN j hj
theorem ofC {σ : Sg} {v : Vt} {g : Int32} (hC : Cl σ 1 v g) (hV : Va v) (x y : Int32) : f_X3_askDancer 1 x y σ = some (ofA v x y, σ) := by
  have h0 := hV.1
  rw [f_X3_askDancer, if_pos kd_1, hC.1, isb _ (by omega), cb_some]
  unfold ofA
  cases hx : inb x (v 0) with
  | false => rw [if_pos bf]; rfl
  | true =>
    obtain ⟨d, hd, rfl⟩ := inb_ex hx (by omega)
    rw [if_neg bt, Bool.true_and]
    cases hy : inb y 7 with
    | false =>
      have l := lits hy (by omega)
      rw [if_neg (show ¬ y = 0 from l 0 (by omega)), if_neg (show ¬ y = 1 from l 1 (by omega)), if_neg (show ¬ y = 2 from l 2 (by omega)), if_neg (show ¬ y = 3 from l 3 (by omega)), if_neg (show ¬ y = 4 from l 4 (by omega)), if_neg (show ¬ y = 5 from l 5 (by omega)), if_neg (show ¬ y = 6 from l 6 (by omega))]
      rfl
    | true =>
      obtain ⟨w, hw, rfl⟩ := inb_ex hy (by omega)
      have i1 : inb (nI d) 8 = true := by rw [inb_nI (by omega)]; exact decide_eq_true (by omega)
      obtain ⟨b1, b2, b3, b4⟩ := hV.2.2.2.1 d hd
      obtain ⟨a1, a2⟩ := hC.2.2.2.2.1 d hd
      rw [if_pos rfl, ix_nI (by omega), ix_nI (by omega)]
      unfold ofN
      rcases (show w = 0 ∨ w = 1 ∨ w = 2 ∨ w = 3 ∨ w = 4 ∨ w = 5 ∨ w = 6 by omega) with rfl | rfl | rfl | rfl | rfl | rfl | rfl
      · rw [if_pos (show nI 0 = 0 from rfl), if_pos i1, rf_1_1, show (4 : Int32) = nI 4 from rfl, a1, n_div (by omega) (by omega) (by omega), if_pos (by omega), show (v (4 + 4 * d) * 4 + v (5 + 4 * d)) / 4 = v (4 + 4 * d) by omega]; rfl
      · rw [if_neg (by decide), if_pos (show nI 1 = 1 from rfl), if_pos i1, rf_1_1, show (4 : Int32) = nI 4 from rfl, a1, n_rem (by omega) (by omega) (by omega), if_pos (by omega), show (v (4 + 4 * d) * 4 + v (5 + 4 * d)) % 4 = v (5 + 4 * d) by omega, show 4 + 4 * d + 1 = 5 + 4 * d by omega]
      · rw [if_neg (by decide), if_neg (by decide), if_pos (show nI 2 = 2 from rfl), if_pos i1, rf_1_2, show (4 : Int32) = nI 4 from rfl, a2, n_div (by omega) (by omega) (by omega), if_pos (by omega), show (v (6 + 4 * d) * 4 + v (7 + 4 * d)) / 4 = v (6 + 4 * d) by omega, show 4 + 4 * d + 2 = 6 + 4 * d by omega]
      · rw [if_neg (by decide), if_neg (by decide), if_neg (by decide), if_pos (show nI 3 = 3 from rfl), if_pos i1, rf_1_2, show (4 : Int32) = nI 4 from rfl, a2, n_rem (by omega) (by omega) (by omega), if_pos (by omega), show (v (6 + 4 * d) * 4 + v (7 + 4 * d)) % 4 = v (7 + 4 * d) by omega, show 4 + 4 * d + 3 = 7 + 4 * d by omega]
      · rw [if_neg (by decide), if_neg (by decide), if_neg (by decide), if_neg (by decide), if_pos (show nI 4 = 4 from rfl), if_pos i1, if_pos i1, rf_1_1, rf_1_2]
        by_cases e : hmB v d = true
        · rw [if_pos ((hmC hC hV hd).mpr e), e]; rfl
        · rw [if_neg (fun q => e ((hmC hC hV hd).mp q)), show hmB v d = false by simpa using e]; rfl
      · rw [if_neg (by decide), if_neg (by decide), if_neg (by decide), if_neg (by decide), if_neg (by decide), if_pos (show nI 5 = 5 from rfl), partC hC hV hd, cb_some]; rfl
      · rw [if_neg (by decide), if_neg (by decide), if_neg (by decide), if_neg (by decide), if_neg (by decide), if_neg (by decide), if_pos (show nI 6 = 6 from rfl), isPairC hC hV hd, cb_some]
        cases prd v d <;> rfl
theorem ofM {σ : Sg} {v : Vt} {g : Int32} (hM : Mo (σ 299) v g) (hV : Va v) (x y : Int32) : f_X6_ofDancer 298 x y σ = some (ofA v x y, σ) := by
  have h0 := hV.1
  rw [f_X6_ofDancer, if_pos kd_298, isDancer_eq hM (by omega), cb_some]
  unfold ofA
  cases hx : inb x (v 0) with
  | false => rw [if_pos bf]; rfl
  | true =>
    obtain ⟨d, hd, rfl⟩ := inb_ex hx (by omega)
    rw [if_neg bt, Bool.true_and, isI (N := 7) (by decide), cb_some]
    cases hy : inb y 7 with
    | false => rw [if_pos bf]; rfl
    | true =>
      obtain ⟨w, hw, rfl⟩ := inb_ex hy (by omega)
      rw [if_neg bt, if_pos rfl, ix_nI (by omega), ix_nI (by omega)]
      unfold ofN
      by_cases h4 : w < 4
      · have n4 : ¬ nI w = 4 := fun q => by have := (n_eq (by omega) (by omega)).mp (q.trans (li 4)); omega
        have n5 : ¬ nI w = 5 := fun q => by have := (n_eq (by omega) (by omega)).mp (q.trans (li 5)); omega
        have n6 : ¬ nI w = 6 := fun q => by have := (n_eq (by omega) (by omega)).mp (q.trans (li 6)); omega
        rw [if_neg n4, if_neg n5, if_neg n6, if_pos h4, show (4 : Int32) = nI 4 from rfl, pk_mul, nI_add, nI_add, if_pos (by rw [inb_nI (by omega)]; exact decide_eq_true (by omega)), rf_298_0, ix_nI (by omega), hM.2 _ (by omega) (by omega)]
      · rw [if_neg h4]
        rcases (show w = 4 ∨ w = 5 ∨ w = 6 by omega) with rfl | rfl | rfl
        · rw [if_pos (show nI 4 = 4 from rfl), isHomeM hM hV hd, cb_some]
          cases hmB v d <;> rfl
        · rw [if_neg (by decide), if_pos (show nI 5 = 5 from rfl), partM hM hV hd, cb_some]; rfl
        · rw [if_neg (by decide), if_neg (by decide), if_pos (show nI 6 = 6 from rfl), arePM hM hV hd, cb_some]
          cases prd v d <;> rfl
theorem sim_of' {n : Nat} (hn : n < 600) (x y : Int32) : Sim (Inv n) (Inv (n + 1)) (f_X5_of 0 x y) (f_X6_of 298 x y) := by
  refine ask_sim hn (fun v g hv hg ks tl tb rz hV => ⟨ofA v x y, fun σ hC => ⟨σ, ?_, hC, fun k hk => rfl⟩, fun σ hM => ⟨σ, ?_, hM, fun k hk => rfl⟩⟩)
  · rw [f_X5_of, if_pos kd_0, rf_0_0, ofC hC.1 hV.1, cb_some]
  · rw [f_X6_of, if_pos kd_298, ofM hM.1 hV.1, cb_some]
/-! at -/
def atA (v : Vt) (x y z : Int32) : Int32 := if inb x (v 1) && inb y 12 && inb z 3 then nI (v (36 + 36 * ix x + 12 * ix z + ix y)) else -2
theorem atC {σ : Sg} {v : Vt} {g : Int32} (hC : Cl σ 1 v g) (hV : Va v) (x y z : Int32) : f_X3_askSpotOfCall 1 x y z σ = some (atA v x y z, σ) := by
  have h1 := hV.2.1
  rw [f_X3_askSpotOfCall, if_pos kd_1, spotC hC hV, cb_some]
  unfold atA
  cases hx : (inb x (v 1) && inb y 12) with
  | false => rw [if_pos bf]; rfl
  | true =>
    rw [Bool.and_eq_true] at hx
    obtain ⟨hx1, hx2⟩ := hx
    obtain ⟨c, hc, rfl⟩ := inb_ex hx1 (by omega)
    obtain ⟨s, hs, rfl⟩ := inb_ex hx2 (by omega)
    rw [if_neg bt, Bool.true_and]
    obtain ⟨r0, r1, r2, r3, r4⟩ := c_at (show c < 8 by omega)
    obtain ⟨a1, a2, a3⟩ := Ca_of hC hc s hs
    have i1 : inb (nI c) 8 = true := by rw [inb_nI (by omega)]; exact decide_eq_true (by omega)
    rw [rf_1_4, ix_nI (by omega), ix_nI (by omega), r0, r2, r3, r4]
    cases hz : inb z 3 with
    | false =>
      have l := lits hz (by omega)
      rw [if_neg (show ¬ z = 0 from l 0 (by omega)), if_neg (show ¬ z = 1 from l 1 (by omega)), if_neg (show ¬ z = 2 from l 2 (by omega))]
      rfl
    | true =>
      obtain ⟨w, hw, rfl⟩ := inb_ex hz (by omega)
      rw [if_pos rfl, ix_nI (by omega)]
      rcases (show w = 0 ∨ w = 1 ∨ w = 2 by omega) with rfl | rfl | rfl
      · rw [if_pos (show nI 0 = 0 from rfl), if_pos i1, if_pos hx2, show 8 + 4 * c = 7 + 4 * c + 1 by omega, a1, show 36 + 36 * c + 12 * 0 + s = 36 + 36 * c + s by omega]; rfl
      · rw [if_neg (by decide), if_pos (show nI 1 = 1 from rfl), if_pos i1, if_pos hx2, show 9 + 4 * c = 7 + 4 * c + 2 by omega, a2, show 36 + 36 * c + 12 * 1 + s = 48 + 36 * c + s by omega]; rfl
      · rw [if_neg (by decide), if_neg (by decide), if_pos (show nI 2 = 2 from rfl), if_pos i1, if_pos hx2, show 10 + 4 * c = 7 + 4 * c + 3 by omega, a3, show 36 + 36 * c + 12 * 2 + s = 60 + 36 * c + s by omega]; rfl
theorem atM {σ : Sg} {v : Vt} {g : Int32} (hM : Mo (σ 299) v g) (hV : Va v) (x y z : Int32) : f_X6_atSpot 298 x y z σ = some (atA v x y z, σ) := by
  have h1 := hV.2.1
  rw [f_X6_atSpot, if_pos kd_298, isCall_eq hM (by omega), cb_some]
  unfold atA
  cases hx : inb x (v 1) with
  | false => rw [if_pos bf]; rfl
  | true =>
    rw [if_neg bt, isSpot_eq, cb_some]
    cases hy : inb y 12 with
    | false => rw [if_pos bf]; rfl
    | true =>
      rw [if_neg bt, isI (N := 3) (by decide), cb_some]
      cases hz : inb z 3 with
      | false => rw [if_pos bf]; rfl
      | true =>
        obtain ⟨c, hc, rfl⟩ := inb_ex hx (by omega)
        obtain ⟨s, hs, rfl⟩ := inb_ex hy (by omega)
        obtain ⟨w, hw, rfl⟩ := inb_ex hz (by omega)
        rw [if_neg bt, place_eq, cb_some, if_pos (by rw [inb_nI (by omega)]; exact decide_eq_true (by omega)), rf_298_0, ix_nI (by omega), hM.2 _ (by omega) (by omega), ix_nI (by omega), ix_nI (by omega), ix_nI (by omega)]
        rfl
theorem sim_at {n : Nat} (hn : n < 600) (x y z : Int32) : Sim (Inv n) (Inv (n + 1)) (f_X5_at 0 x y z) (f_X6_at 298 x y z) := by
  refine ask_sim hn (fun v g hv hg ks tl tb rz hV => ⟨atA v x y z, fun σ hC => ⟨σ, ?_, hC, fun k hk => rfl⟩, fun σ hM => ⟨σ, ?_, hM, fun k hk => rfl⟩⟩)
  · rw [f_X5_at, if_pos kd_0, rf_0_0, atC hC.1 hV.1, cb_some]
  · rw [f_X6_at, if_pos kd_298, atM hM.1 hV.1, cb_some]
