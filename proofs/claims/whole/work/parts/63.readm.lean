/-! the reference's reader -/
def TM (σ : Sg) (tl : Nat) (tb : Nat → Nat) (p : Nat) : Prop := σ 298 5 = nI tl ∧ (∀ i, i < tl → σ 303 i = nI (tb i)) ∧ σ 298 11 = nI p
theorem TM_at {σ : Sg} {tl : Nat} {tb : Nat → Nat} {p : Nat} (h : TM σ tl tb p) (q : Nat) : TM (up σ 298 11 (nI q)) tl tb q := ⟨by rw [ux_n _ _ _ (by omega)]; exact h.1, fun i hi => by rw [ux_o _ _ _ _ (by omega)]; exact h.2.1 i hi, ux_s _ _ _ _⟩
def by0 (tb : Nat → Nat) (tl q : Nat) : Nat := if q < tl then tb q else 0
theorem by0_lt {tb : Nat → Nat} {tl : Nat} (htb : ∀ i, i < tl → tb i < 128) (q : Nat) : by0 tb tl q < 128 := by
  unfold by0
  by_cases h : q < tl
  · rw [if_pos h]; exact htb q h
  · rw [if_neg h]; omega
theorem by0_eq {tb : Nat → Nat} {tl : Nat} (htb : ∀ i, i < tl → tb i < 128) (q c : Nat) (h0 : 0 < c) (hc : c < 128) : nI (by0 tb tl q) = nI c ↔ q < tl ∧ tb q = c := by
  have h1 := by0_lt htb q
  rw [n_eq (by omega) (by omega)]
  unfold by0
  by_cases h : q < tl
  · rw [if_pos h]; exact ⟨fun e => ⟨h, e⟩, fun e => e.2⟩
  · rw [if_neg h]; exact ⟨fun e => by omega, fun e => absurd e.1 h⟩
theorem byteM {tl : Nat} {tb : Nat → Nat} (htl : tl ≤ 120) {p q : Nat} {σ : Sg} (hT : TM σ tl tb p) (hq : q < 2147483648) : f_X6_byteAt 298 (nI q) σ = some (nI (by0 tb tl q), σ) := by
  rw [f_X6_byteAt, if_pos kd_298, hT.1]
  unfold by0
  by_cases h : q < tl
  · rw [if_neg (by rw [n_le (by omega) (by omega)]; omega), if_pos (by rw [inb_nI (by omega)]; exact decide_eq_true (by omega)), rf_298_6, ix_nI (by omega), hT.2.1 q h, if_pos h]
  · rw [if_pos (by rw [n_le (by omega) (by omega)]; omega), if_neg h]; rfl
theorem blankM {tl : Nat} {tb : Nat → Nat} (htl : tl ≤ 120) (htb : ∀ i, i < tl → tb i < 128) : ∀ n p (σ : Sg), TM σ tl tb p → p ≤ tl → tl - p < n → f_X6_blanks_0 n 298 σ = some ((), up σ 298 11 (nI (bl tb tl p))) := by
  intro n
  induction n with
  | zero => intro p σ _ _ h; omega
  | succ n ih =>
    intro p σ hT hp hn
    have e32 := by0_eq htb p 32 (by omega) (by omega)
    rw [f_X6_blanks_0, if_pos kd_298, hT.2.2, byteM htl hT (by omega), cb_some]
    by_cases q : p < tl ∧ tb p = 32
    · rw [if_pos (show nI (by0 tb tl p) = 32 from e32.mpr q), hT.1, hT.2.2, if_neg (by rw [n_le (by omega) (by omega)]; omega)]
      simp only [bnE]
      rw [show (nI p + 1 : Int32) = nI (p + 1) from nI_1 _, ih (p + 1) _ (TM_at hT (p + 1)) (by omega) (by omega), up_up, bl_step q]
    · rw [if_neg (show ¬ nI (by0 tb tl p) = 32 from fun z => q (e32.mp z)), bl_stop q, up_id hT.2.2]
theorem blanksM {tl : Nat} {tb : Nat → Nat} (htl : tl ≤ 120) (htb : ∀ i, i < tl → tb i < 128) {p : Nat} {σ : Sg} (hT : TM σ tl tb p) (hp : p ≤ tl) : f_X6_blanks 298 σ = some ((), up σ 298 11 (nI (bl tb tl p))) := by
  rw [f_X6_blanks, if_pos kd_298, blankM htl htb FU p σ hT hp (FU_gt (by omega))]
theorem failM (x : Int32) (σ : Sg) : f_X6_fails 298 x σ = some (0, up σ 298 12 x) := by rw [f_X6_fails, if_pos kd_298]; rfl
theorem figM (σ : Sg) {b : Nat} (hb : b < 128) : f_X6_isFigure (nI b) σ = some (bI (decide (48 ≤ b) && decide (b ≤ 57)), σ) := by
  rw [f_X6_isFigure]
  by_cases q2 : b < 48
  · rw [if_pos (by rw [show (48 : Int32) = nI 48 from rfl, n_lt (by omega) (by omega)]; exact q2), decide_eq_false (by omega)]; rfl
  · rw [if_neg (by rw [show (48 : Int32) = nI 48 from rfl, n_lt (by omega) (by omega)]; exact q2), decide_eq_true (show 48 ≤ b by omega), Bool.true_and]
    by_cases q3 : 57 < b
    · rw [if_pos (by rw [show (57 : Int32) = nI 57 from rfl, n_lt (by omega) (by omega)]; exact q3), decide_eq_false (by omega)]; rfl
    · rw [if_neg (by rw [show (57 : Int32) = nI 57 from rfl, n_lt (by omega) (by omega)]; exact q3), decide_eq_true (by omega)]; rfl
theorem rn87 {tl : Nat} {tb : Nat → Nat} (htl : tl ≤ 120) (htb : ∀ i, i < tl → tb i < 128) {p q : Nat} {σ : Sg} (hT : TM σ tl tb p) (hp : p ≤ tl) (hq : q < 1000) : f_X6_readsNumber_87 298 (nI q) σ = if q < p ∧ fg tb tl p = false then some (1, σ) else some (0, up σ 298 12 (nI p)) := by
  have f125 : f_X6_readsNumber_125 298 σ = some (0, up σ 298 12 (nI p)) := by rw [f_X6_readsNumber_125, if_pos kd_298, f_X6_readsNumber_126, if_pos kd_298, if_pos rfl, hT.2.2, failM, cb_some, if_pos rfl]
  have f121 : f_X6_readsNumber_121 298 σ = some (1, σ) := by rw [f_X6_readsNumber_121, if_pos kd_298, f_X6_readsNumber_126, if_pos kd_298, if_neg (by decide), f_X6_readsNumber_142]
  rw [f_X6_readsNumber_87, if_pos kd_298, hT.2.2, hT.1, f125, f121]
  by_cases h1 : p ≤ q
  · rw [if_pos (by rw [n_le (by omega) (by omega)]; exact h1), if_neg (fun z => absurd z.1 (by omega))]
  · rw [if_neg (by rw [n_le (by omega) (by omega)]; exact h1)]
    by_cases h2 : p = tl
    · rw [if_pos (by rw [h2]), if_pos ⟨by omega, by unfold fg; rw [decide_eq_false (by omega)]; rfl⟩]
    · have hb := htb p (by omega)
      rw [if_neg (by rw [n_eq (by omega) (by omega)]; exact h2), if_pos (by rw [inb_nI (by omega)]; exact decide_eq_true (by omega)), rf_298_6, ix_nI (by omega), hT.2.1 p (by omega), figM σ hb, cb_some]
      have hfg : fg tb tl p = (decide (48 ≤ tb p) && decide (tb p ≤ 57)) := by unfold fg; rw [decide_eq_true (show p < tl by omega), Bool.true_and]
      rw [← hfg, f125, f121]
      cases hf : fg tb tl p with
      | false => rw [if_pos bf, if_pos ⟨by omega, rfl⟩]
      | true => rw [if_neg bt, if_neg (fun z => by cases z.2)]
theorem rn14 {tl : Nat} {tb : Nat → Nat} (htl : tl ≤ 120) (htb : ∀ i, i < tl → tb i < 128) {p q x n : Nat} {σ : Sg} (hT : TM σ tl tb p) (hp : p ≤ tl) (hq : q < 1000) (hx : σ 298 13 = nI x) : f_X6_readsNumber_14 (n + 1) 298 (nI q) σ = if fg tb tl p = true ∧ p < q + 2 then f_X6_readsNumber_14 n 298 (nI q) (up (up σ 298 13 (nI (10 * x + (tb p - 48)))) 298 11 (nI (p + 1))) else f_X6_readsNumber_87 298 (nI q) σ := by
  rw [f_X6_readsNumber_14, if_pos kd_298, hT.1, hT.2.2]
  by_cases h1 : tl ≤ p
  · rw [if_pos (by rw [n_le (by omega) (by omega)]; exact h1), if_neg (fun z => by have := (fg_iff.mp z.1).1; omega)]
  · have hb := htb p (by omega)
    have ib : inb (nI p) 120 = true := by rw [inb_nI (by omega)]; exact decide_eq_true (by omega)
    rw [if_neg (by rw [n_le (by omega) (by omega)]; exact h1), if_pos ib, rf_298_6, ix_nI (by omega), hT.2.1 p (by omega), figM σ hb, cb_some]
    have hfg : fg tb tl p = (decide (48 ≤ tb p) && decide (tb p ≤ 57)) := by unfold fg; rw [decide_eq_true (show p < tl by omega), Bool.true_and]
    rw [← hfg]
    cases hf : fg tb tl p with
    | false => rw [if_pos bf, if_neg (fun z => by cases z.1)]
    | true =>
      obtain ⟨q1, q2, q3⟩ := fg_iff.mp hf
      rw [if_neg bt, hT.2.2, show (2 : Int32) = nI 2 from rfl, nI_add]
      by_cases h2 : q + 2 ≤ p
      · rw [if_pos (by rw [n_le (by omega) (by omega)]; exact h2), if_neg (fun z => absurd z.2 (by omega))]
      · rw [if_neg (by rw [n_le (by omega) (by omega)]; exact h2), if_pos ib, if_pos ⟨rfl, by omega⟩]
        simp only [bnE]
        rw [hx, ix_nI (by omega), hT.2.1 p q1, show (10 : Int32) = nI 10 from rfl, show (48 : Int32) = nI 48 from rfl, pk_mul, nI_add, n_sub (by omega), ux_n _ _ _ (by omega), hT.2.2, show (nI p + 1 : Int32) = nI (p + 1) from nI_1 _, show 10 * x + tb p - 48 = 10 * x + (tb p - 48) by omega]
theorem up4 (σ : Sg) (a b c d : Int32) : up (up (up (up σ 298 11 a) 298 13 b) 298 13 c) 298 11 d = up (up σ 298 11 d) 298 13 c := by
  funext k i
  simp only [up_a]
  repeat' split
  all_goals first | rfl | (exfalso; omega)
theorem numM {tl : Nat} {tb : Nat → Nat} (htl : tl ≤ 120) (htb : ∀ i, i < tl → tb i < 128) {p : Nat} {σ : Sg} (hT : TM σ tl tb p) (hp : p ≤ tl) : (∀ x e, nm tb tl p = (some x, e) → f_X6_readsNumber 298 σ = some (1, up (up σ 298 11 (nI e)) 298 13 (nI x))) ∧ (∀ e, nm tb tl p = (none, e) → ∃ y, f_X6_readsNumber 298 σ = some (0, up (up (up σ 298 11 (nI e)) 298 13 y) 298 12 (nI e))) := by
  obtain ⟨b1, b2, b3⟩ := bl_le (tb := tb) hp
  obtain ⟨m, hm⟩ : ∃ m, FU = m + 3 := ⟨FU - 3, by have := FU_gt (show 3 < 100000 by omega); omega⟩
  have tS : ∀ p' x, TM (up (up σ 298 11 (nI p')) 298 13 (nI x)) tl tb p' := fun p' x => ⟨by rw [ux_n _ _ _ (by omega), ux_n _ _ _ (by omega)]; exact hT.1, fun i hi => by rw [ux_o _ _ _ _ (by omega), ux_o _ _ _ _ (by omega)]; exact hT.2.1 i hi, by rw [ux_n _ _ _ (by omega), ux_s]⟩
  have e0 : f_X6_readsNumber 298 σ = f_X6_readsNumber_14 (m + 3) 298 (nI (bl tb tl p)) (up (up σ 298 11 (nI (bl tb tl p))) 298 13 (nI 0)) := by
    rw [f_X6_readsNumber, if_pos kd_298, blanksM htl htb hT hp, cb_some, hm]
    simp only [bnE]
    rw [ux_s]
    rfl
  have e1 := rn14 (n := m + 2) htl htb (tS (bl tb tl p) 0) b2 (show bl tb tl p < 1000 by omega) (ux_s _ _ _ _)
  rw [← e0] at e1
  unfold nm
  by_cases h1 : fg tb tl (bl tb tl p) = true
  · have g1 := fg_iff.mp h1
    rw [if_pos ⟨h1, by omega⟩, up4, rn14 htl htb (tS _ _) (by omega) (by omega) (ux_s _ _ _ _)] at e1
    by_cases h2 : fg tb tl (bl tb tl p + 1) = true
    · have g2 := fg_iff.mp h2
      rw [if_pos ⟨h2, by omega⟩, up4, rn14 htl htb (tS _ _) (by omega) (by omega) (ux_s _ _ _ _), if_neg (fun z => absurd z.2 (by omega)), rn87 htl htb (tS _ _) (by omega) (by omega)] at e1
      by_cases h3 : fg tb tl (bl tb tl p + 2) = true
      · rw [if_neg (fun z => by rw [show bl tb tl p + 1 + 1 = bl tb tl p + 2 by omega, h3] at z; cases z.2)] at e1
        rw [if_pos h1, if_pos h2, if_pos h3, e1]
        exact ⟨fun x e h => (by cases h), fun e h => by rw [← (Prod.mk.inj h).2]; exact ⟨_, rfl⟩⟩
      · rw [if_pos ⟨by omega, by simpa using h3⟩] at e1
        rw [if_pos h1, if_pos h2, if_neg h3, e1]
        refine ⟨fun x e h => ?_, fun e h => (by cases h)⟩
        rw [← (Prod.mk.inj h).2, ← Option.some.inj (Prod.mk.inj h).1, show 10 * (10 * 0 + (tb (bl tb tl p) - 48)) + (tb (bl tb tl p + 1) - 48) = 10 * (tb (bl tb tl p) - 48) + (tb (bl tb tl p + 1) - 48) by omega]
    · rw [if_neg (fun z => h2 z.1), rn87 htl htb (tS _ _) (by omega) (by omega), if_pos ⟨by omega, by simpa using h2⟩] at e1
      rw [if_pos h1, if_neg h2, e1]
      refine ⟨fun x e h => ?_, fun e h => (by cases h)⟩
      rw [← (Prod.mk.inj h).2, ← Option.some.inj (Prod.mk.inj h).1, show 10 * 0 + (tb (bl tb tl p) - 48) = tb (bl tb tl p) - 48 by omega]
  · rw [if_neg (fun z => h1 z.1), rn87 htl htb (tS _ _) b2 (by omega), if_neg (fun z => absurd z.1 (by omega))] at e1
    rw [if_neg h1, e1]
    exact ⟨fun x e h => (by cases h), fun e h => by rw [← (Prod.mk.inj h).2]; exact ⟨_, rfl⟩⟩
/-- what reading may change, but for the rows ahead -/
def FM (b : Nat) (σ σ' : Sg) : Prop := (∀ i, i ≠ 11 → i ≠ 12 → i ≠ 13 → σ' 298 i = σ 298 i) ∧ (∀ k, k ≠ 298 → k ≠ 306 → σ' k = σ k) ∧ ∀ i, i < b + 1 → σ' 306 i = σ 306 i
theorem FM_refl (b : Nat) (σ : Sg) : FM b σ σ := ⟨fun _ _ _ _ => rfl, fun _ _ _ => rfl, fun _ _ => rfl⟩
theorem FM_trans {b : Nat} {x y z : Sg} (h1 : FM b x y) (h2 : FM b y z) : FM b x z := ⟨fun i p q r => (h2.1 i p q r).trans (h1.1 i p q r), fun k p q => (h2.2.1 k p q).trans (h1.2.1 k p q), fun i p => (h2.2.2 i p).trans (h1.2.2 i p)⟩
theorem FM_up (b : Nat) (σ : Sg) {i : Nat} (hi : i = 11 ∨ i = 12 ∨ i = 13) (x : Int32) : FM b σ (up σ 298 i x) := ⟨fun j p q r => ux_n _ _ _ (by omega), fun k p q => up_o _ _ _ _ p, fun j p => ux_o _ _ _ _ (by omega)⟩
theorem FM_row (b : Nat) (σ : Sg) {i : Nat} (hi : b + 1 ≤ i) (x : Int32) : FM b σ (up σ 306 i x) := ⟨fun j p q r => ux_o _ _ _ _ (by omega), fun k p q => up_o _ _ _ _ q, fun j p => ux_n _ _ _ (by omega)⟩
theorem TM_row {σ : Sg} {tl : Nat} {tb : Nat → Nat} {p : Nat} (h : TM σ tl tb p) (i : Nat) (x : Int32) : TM (up σ 306 i x) tl tb p := ⟨by rw [ux_o _ _ _ _ (by omega)]; exact h.1, fun j hj => by rw [ux_o _ _ _ _ (by omega)]; exact h.2.1 j hj, by rw [ux_o _ _ _ _ (by omega)]; exact h.2.2⟩
def YM (σ : Sg) (b : Nat) (gf : Nat → Nat) (td : Nat → Bool) : Prop := ∀ s, s < 12 → σ 306 (b + 1 + s) = if td s = true then nI (gf s) else -1
def CyM (b : Nat) (σ σ' : Sg) (tl : Nat) (tb : Nat → Nat) (r : Option ((Nat → Nat) × (Nat → Bool)) × Nat) (v : Option (Int32 × Sg)) : Prop := FM b σ σ' ∧ v = some (bI r.1.isSome, σ') ∧ match r.1 with
  | some g => TM σ' tl tb r.2 ∧ YM σ' b g.1 g.2
  | none => σ' 298 12 = nI r.2
theorem YI_lt {n fi la : Nat} {gf : Nat → Nat} {td : Nat → Bool} (h : YI n fi la gf td) {s : Nat} (hs : s < 12) : gf s < 12 := by
  rcases h.2.2 with ⟨-, hp⟩ | ⟨-, -, -, -, -, -, hb⟩
  · exact hp.1 s hs
  · exact hb s hs
theorem nm41 {tb : Nat → Nat} {tl q : Nat} (hb : bl tb tl q = q) (ht : tb q = 41) : nm tb tl q = (none, q) := by
  unfold nm
  rw [hb, if_neg (fun z => by have := fg_iff.mp z; omega)]
theorem cyM {tl : Nat} {tb : Nat → Nat} (htl : tl ≤ 120) (htb : ∀ i, i < tl → tb i < 128) {b : Nat} (hb : b + 13 ≤ 1560) : ∀ f n fi la gf td p (σ : Sg) F x2 x3, f + n = 14 → YI n fi la gf td → p ≤ tl → TM σ tl tb (bl tb tl p) → YM σ b gf td → (n = 0 → x2 = -1 ∧ x3 = -1) → (0 < n → x2 = nI fi ∧ x3 = nI la) → f < F → ∃ σ', CyM b σ σ' tl tb (cy tb tl f n fi la gf td p) (f_X6_readsCycle_11 F 298 (nI b) x2 x3 (nI n) σ) := by
  intro f
  induction f with
  | zero => intro n fi la gf td p σ F x2 x3 h1 h2; have := cn_le td 12; have := h2.2.1; omega
  | succ f ih =>
    intro n fi la gf td p σ F x2 x3 hfn hY hp hT hR hx0 hx hF
    have hn12 : n ≤ 12 := Nat.le_trans hY.2.1 (cn_le td 12)
    obtain ⟨F, rfl⟩ : ∃ z, F = z + 1 := ⟨F - 1, by omega⟩
    obtain ⟨b1, b2, b3⟩ := bl_le (tb := tb) hp
    have hbb := bl_bl (tb := tb) hp
    have e41 := by0_eq htb (bl tb tl p) 41 (by omega) (by omega)
    rw [f_X6_readsCycle_11, if_pos kd_298, hT.2.2, byteM htl hT (by omega), cb_some, cy]
    -- reading a spot
    have rest : ∃ σ', CyM b σ σ' tl tb (match nm tb tl (bl tb tl p) with
        | (none, e) => (none, e)
        | (some x, e) => if 12 ≤ x ∨ td x = true then (none, bl tb tl p) else cy tb tl f (n + 1) (if n = 0 then x else fi) x (if n = 0 then gf else fu gf la x) (fun s => td s || s == x) e) (f_X6_readsCycle_35 (f_X6_readsCycle_11 F) 298 (nI b) x2 x3 (nI n) σ) := by
      obtain ⟨u1, u2⟩ := numM htl htb hT b2
      obtain ⟨n1, n2⟩ := nm_le (tb := tb) b2
      rw [f_X6_readsCycle_35, if_pos kd_298, hT.2.2]
      simp only [bnE]
      cases hnm : nm tb tl (bl tb tl p) with
      | mk o e =>
        rw [hnm] at n1 n2
        cases o with
        | none =>
          obtain ⟨y, u3⟩ := u2 e hnm
          rw [u3, cb_some, if_pos rfl]
          exact ⟨_, FM_trans (FM_trans (FM_up b σ (Or.inl rfl) _) (FM_up b _ (Or.inr (Or.inr rfl)) _)) (FM_up b _ (Or.inr (Or.inl rfl)) _), rfl, ux_s _ _ _ _⟩
        | some x =>
          dsimp only at n1 n2
          have hx100 := (n2 x rfl).1
          rw [u1 x e hnm, cb_some, if_neg (by decide)]
          try dsimp only
          have g13 : (up (up σ 298 11 (nI e)) 298 13 (nI x)) 298 13 = nI x := ux_s _ _ _ _
          have gT : TM (up (up σ 298 11 (nI e)) 298 13 (nI x)) tl tb e := ⟨by rw [ux_n _ _ _ (by omega), ux_n _ _ _ (by omega)]; exact hT.1, fun i hi => by rw [ux_o _ _ _ _ (by omega), ux_o _ _ _ _ (by omega)]; exact hT.2.1 i hi, by rw [ux_n _ _ _ (by omega), ux_s]⟩
          have gY : YM (up (up σ 298 11 (nI e)) 298 13 (nI x)) b gf td := fun s hs => by rw [ux_o _ _ _ _ (by omega), ux_o _ _ _ _ (by omega)]; exact hR s hs
          have gF : FM b σ (up (up σ 298 11 (nI e)) 298 13 (nI x)) := FM_trans (FM_up b σ (Or.inl rfl) _) (FM_up b _ (Or.inr (Or.inr rfl)) _)
          generalize up (up σ 298 11 (nI e)) 298 13 (nI x) = σ3 at g13 gT gY gF ⊢
          have f75 : f_X6_readsCycle_75 298 (nI (bl tb tl p)) σ3 = some (0, up σ3 298 12 (nI (bl tb tl p))) := by rw [f_X6_readsCycle_75, if_pos kd_298, failM, cb_some, if_pos (Or.inl rfl)]
          rw [g13, f75]
          have bad : ∃ σ', CyM b σ σ' tl tb (none, bl tb tl p) (some (0, up σ3 298 12 (nI (bl tb tl p)))) := ⟨_, FM_trans gF (FM_up b _ (Or.inr (Or.inl rfl)) _), rfl, ux_s _ _ _ _⟩
          by_cases q12 : 12 ≤ x
          · rw [if_pos (show 11 < nI x by rw [show (11 : Int32) = nI 11 from rfl, n_lt (by omega) (by omega)]; omega), if_pos (Or.inl q12)]
            exact bad
          · rw [if_neg (show ¬ 11 < nI x by rw [show (11 : Int32) = nI 11 from rfl, n_lt (by omega) (by omega)]; omega), show (nI b + 1 : Int32) = nI (b + 1) from nI_1 _, nI_add, if_pos (show inb (nI (b + 1 + x)) 1560 = true by rw [inb_nI (by omega)]; exact decide_eq_true (by omega)), rf_298_9, ix_nI (by omega), gY x (by omega)]
            have gx := YI_lt hY (show x < 12 by omega)
            cases ht : td x with
            | true =>
              rw [if_pos (show 12 ≤ x ∨ true = true from Or.inr rfl), if_pos (show true = true from rfl), if_neg (show ¬ nI (gf x) < 0 by rw [show (0 : Int32) = nI 0 from rfl, n_lt (by omega) (by omega)]; omega)]
              exact bad
            | false =>
              rw [if_neg (show ¬ (12 ≤ x ∨ false = true) by simp; omega), if_neg (show ¬ false = true by decide), if_pos (show (-1 : Int32) < 0 by decide)]
              have hYs := YI_step hY (show x < 12 by omega) ht
              have gxx : gf x = x := hY.1 x (by omega) ht
              by_cases z : n = 0
              · obtain ⟨x2e, x3e⟩ := hx0 z
                subst z
                rw [if_pos (show (0 : Nat) = 0 from rfl), if_pos (show (0 : Nat) = 0 from rfl)] at hYs ⊢
                rw [if_pos (show x3 < 0 by rw [x3e]; decide), f_X6_readsCycle_100, if_pos kd_298, if_neg (show ¬ 0 ≤ x2 by rw [x2e]; decide), f_X6_readsCycle_112, if_pos kd_298]
                simp only [bnE]
                rw [g13, show (nI b + 1 : Int32) = nI (b + 1) from nI_1 _, nI_add, if_pos (by rw [inb_nI (by omega)]; exact decide_eq_true (by omega)), rf_298_9, ix_nI (by omega), blanksM htl htb (TM_row gT _ _) n1, cb_some, show (nI 0 + 1 : Int32) = nI (0 + 1) from nI_1 _]
                obtain ⟨σ', w1, w2, w3⟩ := ih (0 + 1) x x gf (fun s => td s || s == x) e (up (up σ3 306 (b + 1 + x) (nI x)) 298 11 (nI (bl tb tl e))) F (nI x) (nI x) (by omega) hYs n1 (TM_at (TM_row gT _ _) _) (fun s hs => by
                  rw [ux_o _ _ _ _ (by omega)]
                  by_cases e4 : s = x
                  · rw [e4, ux_s, gxx, if_pos (by simp)]
                  · rw [ux_n _ _ _ (by omega), gY s hs, show ((fun s => td s || s == x) s) = td s by simp [e4]]) (fun h => absurd h (by omega)) (fun _ => ⟨rfl, rfl⟩) (by omega)
                exact ⟨σ', FM_trans (FM_trans gF (FM_trans (FM_row b σ3 (by omega) _) (FM_up b _ (Or.inl rfl) _))) w1, w2, w3⟩
              · obtain ⟨x2e, x3e⟩ := hx (by omega)
                rcases hY.2.2 with ⟨z2, -⟩ | ⟨-, f1, l1, f2, l2, -, -⟩
                · exact absurd z2 z
                have hla : x ≠ la := fun e9 => by rw [e9, l2] at ht; cases ht
                rw [if_neg z, if_neg z] at hYs ⊢
                rw [x3e, x2e, if_neg (show ¬ nI la < 0 by rw [show (0 : Int32) = nI 0 from rfl, n_lt (by omega) (by omega)]; omega), nI_add, if_pos (by rw [inb_nI (by omega)]; exact decide_eq_true (by omega)), ix_nI (by omega), f_X6_readsCycle_100, if_pos kd_298, if_pos (ge0 (by omega)), f_X6_readsCycle_112, if_pos kd_298]
                simp only [bnE]
                rw [ux_o _ _ _ _ (by omega), g13, show (nI b + 1 : Int32) = nI (b + 1) from nI_1 _, nI_add, if_pos (by rw [inb_nI (by omega)]; exact decide_eq_true (by omega)), rf_298_9, ix_nI (by omega), blanksM htl htb (TM_row (TM_row gT _ _) _ _) n1, cb_some, show (nI n + 1 : Int32) = nI (n + 1) from nI_1 _]
                obtain ⟨σ', w1, w2, w3⟩ := ih (n + 1) fi x (fu gf la x) (fun s => td s || s == x) e (up (up (up σ3 306 (b + 1 + la) (nI x)) 306 (b + 1 + x) (nI x)) 298 11 (nI (bl tb tl e))) F (nI fi) (nI x) (by omega) hYs n1 (TM_at (TM_row (TM_row gT _ _) _ _) _) (fun s hs => by
                  rw [ux_o _ _ _ _ (by omega)]
                  by_cases e4 : s = x
                  · rw [e4, ux_s, fu_n _ _ hla, gxx, if_pos (by simp)]
                  · rw [ux_n _ _ _ (by omega)]
                    by_cases e5 : s = la
                    · rw [e5, ux_s, fu_s, if_pos (by simp [l2])]
                    · rw [ux_n _ _ _ (by omega), gY s hs, fu_n _ _ e5, show ((fun s => td s || s == x) s) = td s by simp [e4]]) (fun h => absurd h (by omega)) (fun _ => ⟨rfl, rfl⟩) (by omega)
                exact ⟨σ', FM_trans (FM_trans gF (FM_trans (FM_trans (FM_row b σ3 (by omega) _) (FM_row b _ (by omega) _)) (FM_up b _ (Or.inl rfl) _))) w1, w2, w3⟩
    by_cases q : bl tb tl p < tl ∧ tb (bl tb tl p) = 41
    · rw [if_pos (show nI (by0 tb tl (bl tb tl p)) = 41 from e41.mpr q), hT.2.2, hT.1, if_neg (show ¬ nI (bl tb tl p) = nI tl by rw [n_eq (by omega) (by omega)]; omega)]
      by_cases q3 : 2 ≤ n
      · obtain ⟨x2e, x3e⟩ := hx (by omega)
        rcases hY.2.2 with ⟨z2, -⟩ | ⟨-, f1, l1, f2, l2, -, -⟩
        · omega
        rw [if_pos (show 2 ≤ nI n by rw [show (2 : Int32) = nI 2 from rfl, n_le (by omega) (by omega)]; exact q3), if_pos ⟨q.1, q.2, q3⟩, x3e, x2e, show (nI b + 1 : Int32) = nI (b + 1) from nI_1 _, nI_add, if_pos (by rw [inb_nI (by omega)]; exact decide_eq_true (by omega)), rf_298_9, ix_nI (by omega)]
        simp only [bnE]
        rw [ux_o _ _ _ _ (by omega), hT.2.2, show (nI (bl tb tl p) + 1 : Int32) = nI (bl tb tl p + 1) from nI_1 _]
        refine ⟨_, FM_trans (FM_row b σ (by omega) _) (FM_up b _ (Or.inl rfl) _), rfl, TM_at (TM_row hT _ _) _, fun s hs => ?_⟩
        show _ = if td s = true then nI (fu gf la fi s) else -1
        rw [ux_o _ _ _ _ (by omega)]
        by_cases e5 : s = la
        · rw [e5, ux_s, fu_s, if_pos l2]
        · rw [ux_n _ _ _ (by omega), hR s hs, fu_n _ _ e5]
      · rw [if_neg (show ¬ 2 ≤ nI n by rw [show (2 : Int32) = nI 2 from rfl, n_le (by omega) (by omega)]; exact q3), if_neg (fun z => q3 z.2.2), nm41 hbb q.2, failM, cb_some, if_pos (Or.inl rfl)]
        exact ⟨_, FM_up b _ (Or.inr (Or.inl rfl)) _, rfl, ux_s _ _ _ _⟩
    · rw [if_neg (show ¬ nI (by0 tb tl (bl tb tl p)) = 41 from fun z => q (e41.mp z)), if_neg (fun z => q ⟨z.1, z.2.1⟩)]
      exact rest
