/-! the class's reader -/
def TC (σ : Sg) (tl : Nat) (tb : Nat → Nat) (p : Nat) : Prop := σ 269 1 = nI tl ∧ (∀ i, i < tl → σ 270 i = nI (tb i)) ∧ σ 269 2 = nI p
theorem up_id {σ : Sg} {k i : Nat} {x : Int32} (h : σ k i = x) : up σ k i x = σ := by
  funext a b
  rw [up_a]
  by_cases q : a = k ∧ b = i
  · obtain ⟨rfl, rfl⟩ := q; rw [if_pos ⟨rfl, rfl⟩, h]
  · rw [if_neg q]
theorem up_up (σ : Sg) (k i : Nat) (x y : Int32) : up (up σ k i x) k i y = up σ k i y := by
  funext a b
  rw [up_a, up_a, up_a]
  by_cases q : a = k ∧ b = i
  · rw [if_pos q, if_pos q]
  · rw [if_neg q, if_neg q, if_neg q]
theorem TC_at {σ : Sg} {tl : Nat} {tb : Nat → Nat} {p : Nat} (h : TC σ tl tb p) (q : Nat) : TC (up σ 269 2 (nI q)) tl tb q := ⟨by rw [ux_n _ _ _ (by omega)]; exact h.1, fun i hi => by rw [ux_o _ _ _ _ (by omega)]; exact h.2.1 i hi, ux_s _ _ _ _⟩
theorem skipC {tl : Nat} {tb : Nat → Nat} (htl : tl ≤ 120) (htb : ∀ i, i < tl → tb i < 128) : ∀ n p (σ : Sg), TC σ tl tb p → p ≤ tl → tl - p < n → f_X4_skipBlanks_0 n 269 σ = some ((), up σ 269 2 (nI (bl tb tl p))) := by
  intro n
  induction n with
  | zero => intro p σ _ _ h; omega
  | succ n ih =>
    intro p σ hT hp hn
    rw [f_X4_skipBlanks_0, if_pos kd_269, hT.1, hT.2.2]
    by_cases q : p < tl
    · have hb := htb p q
      rw [if_neg (by rw [n_le (by omega) (by omega)]; omega), if_pos (by rw [inb_nI (by omega)]; exact decide_eq_true (by omega)), rf_269_0, ix_nI (by omega), hT.2.1 p q]
      by_cases q2 : tb p = 32
      · rw [if_pos (by rw [q2]; rfl)]
        simp only [bnE]
        rw [show (nI p + 1 : Int32) = nI (p + 1) from nI_1 _, ih (p + 1) _ (TC_at hT (p + 1)) (by omega) (by omega), up_up, bl_step ⟨q, q2⟩]
      · rw [if_neg (by rw [show (32 : Int32) = nI 32 from rfl, n_eq (by omega) (by omega)]; exact q2), bl_stop (by omega), up_id hT.2.2]
    · rw [if_pos (by rw [n_le (by omega) (by omega)]; omega), bl_stop (by omega), up_id hT.2.2]
/-- the sign at a place -/
def sg (tb : Nat → Nat) (tl q : Nat) : Int32 := if q < tl then nI (tb q) else -1
theorem sg_eq {tb : Nat → Nat} {tl q : Nat} (htb : ∀ i, i < tl → tb i < 128) (c : Nat) (hc : c < 128) : sg tb tl q = nI c ↔ q < tl ∧ tb q = c := by
  unfold sg
  by_cases h : q < tl
  · rw [if_pos h, n_eq (by have := htb q h; omega) (by omega)]
    exact ⟨fun e => ⟨h, e⟩, fun e => e.2⟩
  · rw [if_neg h]
    refine ⟨fun e => ?_, fun e => absurd e.1 h⟩
    have h0 : (0 : Int32) ≤ nI c := ge0 (by omega)
    rw [← e] at h0
    exact absurd h0 (by decide)
theorem nextC {tl : Nat} {tb : Nat → Nat} (htl : tl ≤ 120) (htb : ∀ i, i < tl → tb i < 128) {p : Nat} {σ : Sg} (hT : TC σ tl tb p) (hp : p ≤ tl) : f_X4_nextSign 269 σ = some (sg tb tl (bl tb tl p), up σ 269 2 (nI (bl tb tl p))) := by
  obtain ⟨b1, b2, b3⟩ := bl_le (tb := tb) hp
  have hT2 := TC_at hT (bl tb tl p)
  rw [f_X4_nextSign, if_pos kd_269, f_X4_skipBlanks, if_pos kd_269, skipC htl htb FU p σ hT hp (FU_gt (by omega)), cb_some, hT2.1, hT2.2.2]
  unfold sg
  by_cases q : bl tb tl p < tl
  · rw [if_neg (by rw [n_le (by omega) (by omega)]; omega), if_pos (by rw [inb_nI (by omega)]; exact decide_eq_true (by omega)), rf_269_0, ix_nI (by omega), hT2.2.1 _ q, if_pos q]
  · rw [if_pos (by rw [n_le (by omega) (by omega)]; omega), if_neg q]
theorem moreC {tl : Nat} {tb : Nat → Nat} (htl : tl ≤ 120) (htb : ∀ i, i < tl → tb i < 128) {p : Nat} {σ : Sg} (hT : TC σ tl tb p) (hp : p ≤ tl) : f_X4_hasMore 269 σ = some (bI (decide (bl tb tl p < tl)), up σ 269 2 (nI (bl tb tl p))) := by
  rw [f_X4_hasMore, if_pos kd_269, nextC htl htb hT hp, cb_some]
  unfold sg
  by_cases q : bl tb tl p < tl
  · have hb := htb _ q
    have h0 := ge_nI (show tb (bl tb tl p) < 2147483648 by omega)
    rw [if_pos q, if_neg, decide_eq_true q]
    · rfl
    · intro e
      have h0 : (0 : Int32) ≤ nI (tb (bl tb tl p)) := ge0 (by omega)
      rw [e] at h0
      exact absurd h0 (by decide)
  · rw [if_neg q, if_pos rfl, decide_eq_false q]; rfl
theorem figC {tl : Nat} {tb : Nat → Nat} (htl : tl ≤ 120) (htb : ∀ i, i < tl → tb i < 128) {p : Nat} {σ : Sg} (hT : TC σ tl tb p) (hp : p < 200) : f_X4_isFigure 269 σ = some (bI (fg tb tl p), σ) := by
  rw [f_X4_isFigure, if_pos kd_269, hT.1, hT.2.2]
  unfold fg
  by_cases q : p < tl
  · have hb := htb p q
    have ib : inb (nI p) 120 = true := by rw [inb_nI (by omega)]; exact decide_eq_true (by omega)
    rw [if_neg (by rw [n_le (by omega) (by omega)]; omega), if_pos ib, rf_269_0, ix_nI (by omega), hT.2.1 p q, decide_eq_true q, Bool.true_and]
    by_cases q2 : tb p < 48
    · rw [if_pos (by rw [show (48 : Int32) = nI 48 from rfl, n_lt (by omega) (by omega)]; exact q2), decide_eq_false (by omega)]; rfl
    · rw [if_neg (by rw [show (48 : Int32) = nI 48 from rfl, n_lt (by omega) (by omega)]; exact q2), if_pos ib, decide_eq_true (show 48 ≤ tb p by omega), Bool.true_and]
      by_cases q3 : 57 < tb p
      · rw [if_pos (by rw [show (57 : Int32) = nI 57 from rfl, n_lt (by omega) (by omega)]; exact q3), decide_eq_false (by omega)]; rfl
      · rw [if_neg (by rw [show (57 : Int32) = nI 57 from rfl, n_lt (by omega) (by omega)]; exact q3), decide_eq_true (by omega)]; rfl
  · rw [if_pos (by rw [n_le (by omega) (by omega)]; omega), decide_eq_false q]; rfl
theorem failC (x : Int32) (σ : Sg) : f_X4_fails 269 x σ = some (0, up σ 269 3 x) := by rw [f_X4_fails, if_pos kd_269]; rfl
theorem rn54 {tl : Nat} {tb : Nat → Nat} (htl : tl ≤ 120) (htb : ∀ i, i < tl → tb i < 128) {p x k : Nat} {σ : Sg} (hT : TC σ tl tb p) (hp : p < 200) (hk : k < 3) : f_X4_readNumber_54 269 (nI x) (nI k) σ = if k = 0 ∨ fg tb tl p = true then some (-1, up σ 269 3 (nI p)) else some (nI x, σ) := by
  have f65 : f_X4_readNumber_65 269 σ = some (-1, up σ 269 3 (nI p)) := by rw [f_X4_readNumber_65, if_pos kd_269, hT.2.2, failC, cb_some]
  rw [f_X4_readNumber_54, if_pos kd_269]
  by_cases e : k = 0
  · subst e; rw [if_pos (show nI 0 = 0 from rfl), f65, if_pos (Or.inl rfl)]
  · rw [if_neg (by rw [show (0 : Int32) = nI 0 from rfl, n_eq (by omega) (by omega)]; exact e), figC htl htb hT hp, cb_some]
    cases hf : fg tb tl p with
    | false => rw [if_pos bf, if_neg (by simp [e])]
    | true => rw [if_neg bt, f65, if_pos (Or.inr rfl)]
theorem rn8 {tl : Nat} {tb : Nat → Nat} (htl : tl ≤ 120) (htb : ∀ i, i < tl → tb i < 128) {p x k n : Nat} {σ : Sg} (hT : TC σ tl tb p) (hp : p < 200) (hk : k < 2) : f_X4_readNumber_8 (n + 1) 269 (nI x) (nI k) σ = if fg tb tl p = true then f_X4_readNumber_8 n 269 (nI (10 * x + (tb p - 48))) (nI (k + 1)) (up σ 269 2 (nI (p + 1))) else f_X4_readNumber_54 269 (nI x) (nI k) σ := by
  rw [f_X4_readNumber_8, if_pos kd_269, if_neg (by rw [show (2 : Int32) = nI 2 from rfl, n_le (by omega) (by omega)]; omega), figC htl htb hT hp, cb_some]
  cases hf : fg tb tl p with
  | false => rw [if_pos bf, if_neg (by simp)]
  | true =>
    obtain ⟨q1, q2, q3⟩ := fg_iff.mp hf
    rw [if_neg bt, if_pos rfl, hT.2.2, if_pos (by rw [inb_nI (by omega)]; exact decide_eq_true (by omega)), rf_269_0, ix_nI (by omega), hT.2.1 p q1]
    simp only [bnE]
    rw [show (10 : Int32) = nI 10 from rfl, show (48 : Int32) = nI 48 from rfl, pk_mul, nI_add, n_sub (by omega), show x * 10 + tb p - 48 = 10 * x + (tb p - 48) by omega, show (nI p + 1 : Int32) = nI (p + 1) from nI_1 _, show (nI k + 1 : Int32) = nI (k + 1) from nI_1 _]
theorem numC {tl : Nat} {tb : Nat → Nat} (htl : tl ≤ 120) (htb : ∀ i, i < tl → tb i < 128) {p : Nat} {σ : Sg} (hT : TC σ tl tb p) (hp : p ≤ tl) : (∀ x e, nm tb tl p = (some x, e) → f_X4_readNumber 269 σ = some (nI x, up σ 269 2 (nI e))) ∧ (∀ e, nm tb tl p = (none, e) → f_X4_readNumber 269 σ = some (-1, up (up σ 269 2 (nI e)) 269 3 (nI e))) := by
  obtain ⟨b1, b2, b3⟩ := bl_le (tb := tb) hp
  obtain ⟨m, hm⟩ : ∃ m, FU = m + 3 := ⟨FU - 3, by have := FU_gt (show 3 < 100000 by omega); omega⟩
  have e0 : f_X4_readNumber 269 σ = f_X4_readNumber_8 (m + 3) 269 (nI 0) (nI 0) (up σ 269 2 (nI (bl tb tl p))) := by
    rw [f_X4_readNumber, if_pos kd_269, f_X4_skipBlanks, if_pos kd_269, skipC htl htb FU p σ hT hp (FU_gt (by omega)), cb_some, hm]
    rfl
  have t1 := TC_at hT (bl tb tl p)
  have t2 := TC_at hT (bl tb tl p + 1)
  have t3 := TC_at hT (bl tb tl p + 2)
  rw [e0, rn8 htl htb t1 (by omega) (by omega), up_up]
  unfold nm
  by_cases h1 : fg tb tl (bl tb tl p) = true
  · rw [if_pos h1, if_pos h1, rn8 htl htb t2 (by omega) (by omega), up_up]
    by_cases h2 : fg tb tl (bl tb tl p + 1) = true
    · rw [if_pos h2, if_pos h2, f_X4_readNumber_8, if_pos kd_269, if_pos (show (2 : Int32) ≤ nI (0 + 1 + 1) by decide), rn54 htl htb t3 (by omega) (by omega)]
      by_cases h3 : fg tb tl (bl tb tl p + 2) = true
      · rw [if_pos h3, if_pos (Or.inr h3)]
        exact ⟨fun x e h => (by cases h), fun e h => by rw [← (Prod.mk.inj h).2]⟩
      · rw [if_neg h3, if_neg (by simp [h3])]
        refine ⟨fun x e h => ?_, fun e h => by cases h⟩
        rw [← (Prod.mk.inj h).2, ← Option.some.inj (Prod.mk.inj h).1, show 10 * (10 * 0 + (tb (bl tb tl p) - 48)) + (tb (bl tb tl p + 1) - 48) = 10 * (tb (bl tb tl p) - 48) + (tb (bl tb tl p + 1) - 48) by omega]
    · rw [if_neg h2, if_neg h2, rn54 htl htb t2 (by omega) (by omega), if_neg (by simp [h2])]
      refine ⟨fun x e h => ?_, fun e h => by cases h⟩
      rw [← (Prod.mk.inj h).2, ← Option.some.inj (Prod.mk.inj h).1, show 10 * 0 + (tb (bl tb tl p) - 48) = tb (bl tb tl p) - 48 by omega]
  · rw [if_neg h1, if_neg h1, rn54 htl htb t1 (by omega) (by omega), if_pos (Or.inl rfl)]
    exact ⟨fun x e h => (by cases h), fun e h => by rw [← (Prod.mk.inj h).2]⟩
/-- what reading may change -/
def FR (σ σ' : Sg) : Prop := (∀ i, i ≠ 2 → i ≠ 3 → i ≠ 7 → σ' 269 i = σ 269 i) ∧ ∀ k, k ≠ 269 → k ≠ 271 → k ≠ 272 → σ' k = σ k
theorem FR_trans {a b c : Sg} (h1 : FR a b) (h2 : FR b c) : FR a c := ⟨fun i x y z => (h2.1 i x y z).trans (h1.1 i x y z), fun k x y z => (h2.2 k x y z).trans (h1.2 k x y z)⟩
theorem FR_up (σ : Sg) {i : Nat} (hi : i = 2 ∨ i = 3 ∨ i = 7) (x : Int32) : FR σ (up σ 269 i x) := ⟨fun j a b c => ux_n _ _ _ (by omega), fun k a b c => up_o _ _ _ _ a⟩
theorem FR_goes (σ : Sg) (i : Nat) (x : Int32) : FR σ (up σ 272 i x) := ⟨fun j a b c => ux_o _ _ _ _ (by omega), fun k a b c => up_o _ _ _ _ c⟩
theorem FR_nums (σ : Sg) (i : Nat) (x : Int32) : FR σ (up σ 271 i x) := ⟨fun j a b c => ux_o _ _ _ _ (by omega), fun k a b c => up_o _ _ _ _ b⟩
def YC (σ : Sg) (tl : Nat) (tb : Nat → Nat) (p : Nat) (gf : Nat → Nat) (td : Nat → Bool) : Prop := TC σ tl tb p ∧ σ 269 7 = nI (bm td 12) ∧ ∀ s, s < 12 → σ 272 s = nI (gf s)
theorem YC_at {σ : Sg} {tl : Nat} {tb : Nat → Nat} {p : Nat} {gf : Nat → Nat} {td : Nat → Bool} (h : YC σ tl tb p gf td) (q : Nat) : YC (up σ 269 2 (nI q)) tl tb q gf td := ⟨TC_at h.1 q, by rw [ux_n _ _ _ (by omega)]; exact h.2.1, fun s hs => by rw [ux_o _ _ _ _ (by omega)]; exact h.2.2 s hs⟩
theorem takesC {σ : Sg} {td : Nat → Bool} {x st : Nat} (h7 : σ 269 7 = nI (bm td 12)) (hx : x < 100) : f_X4_takesSpot 269 (nI x) (nI st) σ = if 12 ≤ x ∨ td x = true then some (0, up σ 269 3 (nI st)) else some (1, up σ 269 7 (nI (bm (fun s => td s || s == x) 12))) := by
  have f24 : f_X4_takesSpot_24 269 (nI st) σ = some (0, up σ 269 3 (nI st)) := by rw [f_X4_takesSpot_24, if_pos kd_269, failC, cb_some, if_pos (Or.inl rfl)]
  have hne : ¬ nI x = -1 := fun e => by
    have h0 : (0 : Int32) ≤ nI x := ge0 (by omega)
    rw [e] at h0
    exact absurd h0 (by decide)
  rw [f_X4_takesSpot, if_pos kd_269, if_neg hne, f24, h7]
  by_cases q : 12 ≤ x
  · rw [if_pos (by rw [show (12 : Int32) = nI 12 from rfl, n_le (by omega) (by omega)]; exact q), if_pos (Or.inl q)]
  · rw [if_neg (by rw [show (12 : Int32) = nI 12 from rfl, n_le (by omega) (by omega)]; exact q)]
    have hl := bm_lt td 12
    cases ht : td x with
    | false =>
      rw [if_pos (by rw [b_bit' hl (by omega), bm_tb, decide_eq_true (show x < 12 by omega), Bool.true_and]; exact ht), if_neg (by simp; omega), show (31 : Int32) = nI 31 from rfl, show (1 : Int32) = nI 1 from rfl, b_one _ (by omega), b_or, bm_set td (show x < 12 by omega)]
      rfl
    | true =>
      rw [if_neg (by rw [b_bit' hl (by omega), bm_tb, decide_eq_true (show x < 12 by omega), Bool.true_and, ht]; simp), if_pos (Or.inr rfl)]
def CyO (σ σ' : Sg) (tl : Nat) (tb : Nat → Nat) (r : Option ((Nat → Nat) × (Nat → Bool)) × Nat) (v : Option (Int32 × Sg)) : Prop := FR σ σ' ∧ v = some (bI r.1.isSome, σ') ∧ match r.1 with
  | some g => YC σ' tl tb r.2 g.1 g.2 ∧ σ' 269 3 = σ 269 3
  | none => σ' 269 3 = nI r.2
theorem cyC {tl : Nat} {tb : Nat → Nat} (htl : tl ≤ 120) (htb : ∀ i, i < tl → tb i < 128) : ∀ f n fi la gf td p (σ : Sg) F x1 x2, f + n = 14 → YI n fi la gf td → p ≤ tl → YC σ tl tb p gf td → (0 < n → x1 = nI fi ∧ x2 = nI la) → f < F → ∃ σ', CyO σ σ' tl tb (cy tb tl f n fi la gf td p) (f_X4_readCycle_6 F 269 x1 x2 (nI n) σ) := by
  intro f
  induction f with
  | zero => intro n fi la gf td p σ F x1 x2 h1 h2; have := cn_le td 12; have := h2.2.1; omega
  | succ f ih =>
    intro n fi la gf td p σ F x1 x2 hfn hY hp hC hx hF
    have hn12 : n ≤ 12 := Nat.le_trans hY.2.1 (cn_le td 12)
    obtain ⟨F, rfl⟩ : ∃ z, F = z + 1 := ⟨F - 1, by omega⟩
    obtain ⟨b1, b2, b3⟩ := bl_le (tb := tb) hp
    have hC2 := YC_at hC (bl tb tl p)
    have hfr2 := FR_up σ (Or.inl rfl) (nI (bl tb tl p)) (i := 2)
    have hs41 := sg_eq (tb := tb) (tl := tl) (q := bl tb tl p) htb 41 (by omega)
    rw [f_X4_readCycle_6, if_pos kd_269, if_neg (by rw [show (12 : Int32) = nI 12 from rfl, n_lt (by omega) (by omega)]; omega), nextC htl htb hC.1 hp, cb_some, cy]
    -- reading a spot
    have rest : ∃ σ', CyO σ σ' tl tb (match nm tb tl (bl tb tl p) with
        | (none, e) => (none, e)
        | (some x, e) => if 12 ≤ x ∨ td x = true then (none, bl tb tl p) else cy tb tl f (n + 1) (if n = 0 then x else fi) x (if n = 0 then gf else fu gf la x) (fun s => td s || s == x) e) (f_X4_readCycle_45 (f_X4_readCycle_6 F) 269 x1 x2 (nI n) (up σ 269 2 (nI (bl tb tl p)))) := by
      obtain ⟨u1, u2⟩ := numC htl htb hC2.1 b2
      obtain ⟨n1, n2⟩ := nm_le (tb := tb) b2
      rw [f_X4_readCycle_45, if_pos kd_269, hC2.1.2.2]
      simp only [bnE]
      cases hnm : nm tb tl (bl tb tl p) with
      | mk o e =>
        rw [hnm] at n1 n2
        cases o with
        | none =>
          rw [u2 e hnm, cb_some, up_up, f_X4_takesSpot, if_pos kd_269, if_pos rfl, cb_some, if_pos rfl]
          exact ⟨_, FR_trans (FR_up σ (Or.inl rfl) _) (FR_up _ (Or.inr (Or.inl rfl)) _), rfl, ux_s _ _ _ _⟩
        | some x =>
          dsimp only at n1 n2
          have hx100 := (n2 x rfl).1
          have hC3 := YC_at hC e
          rw [u1 x e hnm, cb_some, up_up, takesC hC3.2.1 hx100]
          dsimp only
          by_cases q : 12 ≤ x ∨ td x = true
          · rw [if_pos q, if_pos q, cb_some, if_pos rfl]
            exact ⟨_, FR_trans (FR_up σ (Or.inl rfl) _) (FR_up _ (Or.inr (Or.inl rfl)) _), rfl, ux_s _ _ _ _⟩
          · have hx12 : x < 12 := by omega
            have ht : td x = false := by cases e3 : td x with
              | false => rfl
              | true => exact absurd (Or.inr e3) q
            rw [if_neg q, if_neg q, cb_some, if_neg (show ¬ (1 : Int32) = 0 by decide)]
            have hYs := YI_step hY hx12 ht
            have hfr7 : FR σ (up (up σ 269 2 (nI e)) 269 7 (nI (bm (fun s => td s || s == x) 12))) := FR_trans (FR_up σ (Or.inl rfl) _) (FR_up _ (Or.inr (Or.inr rfl)) _)
            have hT7 : TC (up (up σ 269 2 (nI e)) 269 7 (nI (bm (fun s => td s || s == x) 12))) tl tb e := ⟨by rw [ux_n _ _ _ (by omega)]; exact hC3.1.1, fun i hi => by rw [ux_o _ _ _ _ (by omega)]; exact hC3.1.2.1 i hi, by rw [ux_n _ _ _ (by omega)]; exact hC3.1.2.2⟩
            have h37 : (up (up σ 269 2 (nI e)) 269 7 (nI (bm (fun s => td s || s == x) 12))) 269 3 = σ 269 3 := by rw [ux_n _ _ _ (by omega), ux_n _ _ _ (by omega)]
            by_cases z : n = 0
            · subst z
              rw [if_pos (show nI 0 = 0 from rfl), f_X4_readCycle_88, if_pos kd_269, show (nI 0 + 1 : Int32) = nI (0 + 1) from nI_1 _]
              rw [if_pos rfl, if_pos rfl] at hYs ⊢
              obtain ⟨σ', w1, w2, w3⟩ := ih (0 + 1) x x gf (fun s => td s || s == x) e _ F (nI x) (nI x) (by omega) hYs n1 ⟨hT7, ux_s _ _ _ _, fun s hs => by rw [ux_o _ _ _ _ (by omega), ux_o _ _ _ _ (by omega)]; exact hC.2.2 s hs⟩ (fun _ => ⟨rfl, rfl⟩) (by omega)
              refine ⟨σ', FR_trans hfr7 w1, w2, ?_⟩
              revert w3
              cases (cy tb tl f (0 + 1) x x gf (fun s => td s || s == x) e).1 with
              | none => exact fun w3 => w3
              | some g => exact fun w3 => ⟨w3.1, by rw [w3.2]; exact h37⟩
            · obtain ⟨x1e, x2e⟩ := hx (by omega)
              rcases hY.2.2 with ⟨z2, -⟩ | ⟨-, f1, l1, f2, l2, -, -⟩
              · exact absurd z2 z
              rw [if_neg z, if_neg z] at hYs ⊢
              rw [if_neg (show ¬ nI n = 0 by rw [show (0 : Int32) = nI 0 from rfl, n_eq (by omega) (by omega)]; exact z), x2e, if_pos (by rw [inb_nI (by omega)]; exact decide_eq_true (by omega)), rf_269_6, ix_nI (by omega), f_X4_readCycle_88, if_pos kd_269, show (nI n + 1 : Int32) = nI (n + 1) from nI_1 _]
              obtain ⟨σ', w1, w2, w3⟩ := ih (n + 1) fi x (fu gf la x) (fun s => td s || s == x) e (up (up (up σ 269 2 (nI e)) 269 7 (nI (bm (fun s => td s || s == x) 12))) 272 la (nI x)) F x1 (nI x) (by omega) hYs n1 ⟨⟨by rw [ux_o _ _ _ _ (by omega)]; exact hT7.1, fun i hi => by rw [ux_o _ _ _ _ (by omega)]; exact hT7.2.1 i hi, by rw [ux_o _ _ _ _ (by omega)]; exact hT7.2.2⟩, by rw [ux_o _ _ _ _ (by omega), ux_s], fun s hs => by
                by_cases e4 : s = la
                · rw [e4, ux_s, fu_s]
                · rw [ux_n _ _ _ e4, fu_n _ _ e4, ux_o _ _ _ _ (by omega), ux_o _ _ _ _ (by omega)]; exact hC.2.2 s hs⟩ (fun _ => ⟨x1e, rfl⟩) (by omega)
              refine ⟨σ', FR_trans (FR_trans hfr7 (FR_goes _ la (nI x))) w1, w2, ?_⟩
              revert w3
              cases (cy tb tl f (n + 1) fi x (fu gf la x) (fun s => td s || s == x) e).1 with
              | none => exact fun w3 => w3
              | some g => exact fun w3 => ⟨w3.1, by rw [w3.2, ux_o _ _ _ _ (by omega)]; exact h37⟩
    by_cases q : bl tb tl p < tl ∧ tb (bl tb tl p) = 41 ∧ 2 ≤ n
    · obtain ⟨q1, q2, q3⟩ := q
      obtain ⟨x1e, x2e⟩ := hx (by omega)
      rcases hY.2.2 with ⟨z2, -⟩ | ⟨-, f1, l1, f2, l2, -, -⟩
      · omega
      rw [if_pos (show sg tb tl (bl tb tl p) = 41 from hs41.mpr ⟨q1, q2⟩), if_neg (show ¬ nI n < 2 by rw [show (2 : Int32) = nI 2 from rfl, n_lt (by omega) (by omega)]; omega), if_pos ⟨q1, q2, q3⟩, hC2.1.2.2, show (nI (bl tb tl p) + 1 : Int32) = nI (bl tb tl p + 1) from nI_1 _, x1e, x2e, up_up]
      simp only [bnE]
      rw [if_pos (by rw [inb_nI (by omega)]; exact decide_eq_true (by omega)), rf_269_6, ix_nI (by omega)]
      have hC3 := YC_at hC (bl tb tl p + 1)
      refine ⟨_, FR_trans (FR_up σ (Or.inl rfl) _) (FR_goes _ la (nI fi)), rfl, ⟨⟨by rw [ux_o _ _ _ _ (by omega)]; exact hC3.1.1, fun i hi => by rw [ux_o _ _ _ _ (by omega)]; exact hC3.1.2.1 i hi, by rw [ux_o _ _ _ _ (by omega)]; exact hC3.1.2.2⟩, by rw [ux_o _ _ _ _ (by omega)]; exact hC3.2.1, fun s hs => ?_⟩, by rw [ux_o _ _ _ _ (by omega), ux_n _ _ _ (by omega)]⟩
      show _ = nI (fu gf la fi s)
      by_cases e4 : s = la
      · rw [e4, ux_s, fu_s]
      · rw [ux_n _ _ _ e4, fu_n _ _ e4]; exact hC3.2.2 s hs
    · rw [if_neg q]
      by_cases q2 : bl tb tl p < tl ∧ tb (bl tb tl p) = 41
      · rw [if_pos (show sg tb tl (bl tb tl p) = 41 from hs41.mpr q2), if_pos (by rw [show (2 : Int32) = nI 2 from rfl, n_lt (by omega) (by omega)]; omega)]
        exact rest
      · rw [if_neg (show ¬ sg tb tl (bl tb tl p) = 41 from fun z => q2 (hs41.mp z))]
        exact rest
/-- how many numbers stand behind a letter, or -1 -/
def nbX (x : Int32) : Int32 := if x = 100 then 2 else if x = 103 then 1 else if x = 107 then 0 else if x = 112 then 1 else if x = 117 then 3 else if x = 119 then 3 else -1
def nbO (o : Option Nat) : Int32 := match o with
  | some w => nI w
  | none => -1
theorem nbX_nb : ∀ k, k < 128 → nbX (nI k) = nbO (nb k) := by decide +kernel
theorem nbC (x : Int32) (σ : Sg) : f_X4_numbersBehind x σ = some (nbX x, σ) := by
  by_cases h100 : x = 100
  · subst h100; rfl
  by_cases h101 : x = 101
  · subst h101; rfl
  by_cases h102 : x = 102
  · subst h102; rfl
  by_cases h103 : x = 103
  · subst h103; rfl
  by_cases h104 : x = 104
  · subst h104; rfl
  by_cases h105 : x = 105
  · subst h105; rfl
  by_cases h106 : x = 106
  · subst h106; rfl
  by_cases h107 : x = 107
  · subst h107; rfl
  by_cases h108 : x = 108
  · subst h108; rfl
  by_cases h109 : x = 109
  · subst h109; rfl
  by_cases h110 : x = 110
  · subst h110; rfl
  by_cases h111 : x = 111
  · subst h111; rfl
  by_cases h112 : x = 112
  · subst h112; rfl
  by_cases h113 : x = 113
  · subst h113; rfl
  by_cases h114 : x = 114
  · subst h114; rfl
  by_cases h115 : x = 115
  · subst h115; rfl
  by_cases h116 : x = 116
  · subst h116; rfl
  by_cases h117 : x = 117
  · subst h117; rfl
  by_cases h118 : x = 118
  · subst h118; rfl
  by_cases h119 : x = 119
  · subst h119; rfl
  rw [f_X4_numbersBehind, if_neg h100, if_neg h101, if_neg h102, if_neg h103, if_neg h104, if_neg h105, if_neg h106, if_neg h107, if_neg h108, if_neg h109, if_neg h110, if_neg h111, if_neg h112, if_neg h113, if_neg h114, if_neg h115, if_neg h116, if_neg h117, if_neg h118, if_neg h119]
  unfold nbX
  rw [if_neg h100, if_neg h103, if_neg h107, if_neg h112, if_neg h117, if_neg h119]
