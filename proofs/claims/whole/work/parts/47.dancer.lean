def anyB (p : Nat → Bool) : Nat → Bool
  | 0 => false
  | n + 1 => anyB p n || p n
theorem anyB_iff (p : Nat → Bool) : ∀ n, anyB p n = true ↔ ∃ i, i < n ∧ p i = true
  | 0 => by simp [anyB]
  | n + 1 => by
    rw [anyB, Bool.or_eq_true, anyB_iff p n]
    constructor
    · rintro (⟨i, h1, h2⟩ | h)
      · exact ⟨i, by omega, h2⟩
      · exact ⟨n, by omega, h⟩
    · rintro ⟨i, h1, h2⟩
      rcases Nat.lt_or_ge i n with q | q
      · exact Or.inl ⟨i, q, h2⟩
      · rw [show i = n by omega] at h2; exact Or.inr h2
theorem anyB_f (p : Nat → Bool) (n : Nat) : anyB p n = false ↔ ∀ i, i < n → p i = false := by
  constructor
  · intro h i hi
    cases e : p i with
    | false => rfl
    | true => rw [(anyB_iff p n).mpr ⟨i, hi, e⟩] at h; cases h
  · intro h
    cases e : anyB p n with
    | false => rfl
    | true => obtain ⟨i, hi, q⟩ := (anyB_iff p n).mp e; rw [h i hi] at q; cases q
theorem whoF_none {v : Vt} {s : Nat} : ∀ n j, whoF v s n j = none ↔ ∀ d, j ≤ d → d < j + n → v (4 + 4 * d) ≠ s := by
  intro n
  induction n with
  | zero => intro j; exact ⟨fun _ d a b => absurd b (by omega), fun _ => rfl⟩
  | succ n ih =>
    intro j
    rw [whoF]
    by_cases h : v (4 + 4 * j) = s
    · rw [if_pos h]
      exact ⟨fun q => (by cases q), fun q => absurd h (q j (by omega) (by omega))⟩
    · rw [if_neg h, ih]
      constructor
      · intro q d a b
        by_cases e : d = j
        · rw [e]; exact h
        · exact q d (by omega) (by omega)
      · intro q d a b
        exact q d (by omega) (by omega)
theorem homeF_none {v : Vt} {s : Nat} : ∀ n j, homeF v s n j = false ↔ ∀ d, j ≤ d → d < j + n → v (6 + 4 * d) ≠ s := by
  intro n
  induction n with
  | zero => intro j; exact ⟨fun _ d a b => absurd b (by omega), fun _ => rfl⟩
  | succ n ih =>
    intro j
    rw [homeF]
    by_cases h : v (6 + 4 * j) = s
    · rw [if_pos h]
      exact ⟨fun q => (by cases q), fun q => absurd h (q j (by omega) (by omega))⟩
    · rw [if_neg h, ih]
      constructor
      · intro q d a b
        by_cases e : d = j
        · rw [e]; exact h
        · exact q d (by omega) (by omega)
      · intro q d a b
        exact q d (by omega) (by omega)
def tkn (v : Vt) (x : Int32) (d : Nat) : Bool := decide (nI (v (4 + 4 * d)) = x) || decide (nI (v (6 + 4 * d)) = x)
theorem oI_neg {o : Option Nat} (h : ∀ d, o = some d → d < 8) : (oI o = -1 ↔ o = none) ∧ (oI o < 0 ↔ o = none) := by
  cases o with
  | none => exact ⟨⟨fun _ => rfl, fun _ => rfl⟩, ⟨fun _ => rfl, fun _ => by decide⟩⟩
  | some d =>
    have hd := h d rfl
    refine ⟨⟨fun q => ?_, fun q => by cases q⟩, ⟨fun q => ?_, fun q => by cases q⟩⟩
    · have := ge_nI (show d < 2147483648 by omega)
      have h0 : (0 : Int32) ≤ nI d := ge0 (by omega)
      change nI d = -1 at q
      rw [q] at h0
      exact absurd h0 (by decide)
    · change nI d < 0 at q
      rw [show (0 : Int32) = nI 0 from rfl, n_lt (by omega) (by omega)] at q
      omega
theorem who_lt {v : Vt} {s d : Nat} (hV : Va v) (h : who v s = some d) : d < v 0 := by
  have : ∀ (n i e : Nat), whoF v s n i = some e → e < i + n := by
    intro n
    induction n with
    | zero => intro i e h; cases h
    | succ n ih =>
      intro i e h
      rw [whoF] at h
      split at h
      · cases h; omega
      · have := ih _ _ h; omega
  have h2 := this _ _ _ h
  omega
/-- the reference's loop -/
theorem comes5 {σ : Sg} {v : Vt} {g : Int32} (hM : Mo (σ 299) v g) (hV : Va v) (x y : Int32) : ∃ n, f_X6_comes_5 FU 298 x y 0 0 σ = f_X6_comes_5 (n + 1) 298 x y (bI (anyB (tkn v x) (v 0))) (nI (v 0)) σ := by
  have h0 := hV.1
  have key : ∀ n j, j ≤ v 0 → v 0 - j < n → ∃ m, f_X6_comes_5 n 298 x y (bI (anyB (tkn v x) j)) (nI j) σ = f_X6_comes_5 (m + 1) 298 x y (bI (anyB (tkn v x) (v 0))) (nI (v 0)) σ := by
    intro n
    induction n with
    | zero => intro j a b; omega
    | succ n ih =>
      intro j a b
      rcases Nat.lt_or_ge j (v 0) with h | h
      · obtain ⟨m, e⟩ := ih (j + 1) h (by omega)
        refine ⟨m, ?_⟩
        rw [← e, f_X6_comes_5, if_pos kd_298, if_pos (by decide), rf_298_0, show ix 0 = 0 from rfl, hM.2 0 (by omega) (by omega), if_neg (by rw [n_le (by omega) (by omega)]; omega)]
        have e1 : σ 299 (4 + 4 * j) = nI (v (4 + 4 * j)) := hM.2 _ (by omega) (by omega)
        have e2 : σ 299 (6 + 4 * j) = nI (v (6 + 4 * j)) := hM.2 _ (by omega) (by omega)
        have f1 : ∀ b, f_X6_comes_51 (f_X6_comes_5 n) 298 x y (nI j) b = f_X6_comes_5 n 298 x y 1 (nI (j + 1)) b := fun b => by
          rw [f_X6_comes_51, if_pos kd_298, f_X6_comes_56, if_pos kd_298, show (1 : Int32) = nI 1 from rfl, nI_add]
        have f2 : ∀ z b, f_X6_comes_56 (f_X6_comes_5 n) 298 x y (nI j) z b = f_X6_comes_5 n 298 x y z (nI (j + 1)) b := fun z b => by
          rw [f_X6_comes_56, if_pos kd_298, show (1 : Int32) = nI 1 from rfl, nI_add]
        rw [anyB]
        cases ha : anyB (tkn v x) j with
        | true => rw [if_neg bt, f1]; rfl
        | false =>
          rw [if_pos bf, Bool.false_or]
          simp (disch := omega) only [show (4 : Int32) = nI 4 from rfl, show (6 : Int32) = nI 6 from rfl, pk_mul, nI_add, inb_nI, ix_nI, e1, e2, decide_eq_true_eq, show 4 + 4 * j < 336 by omega, show 6 + 4 * j < 336 by omega, ↓reduceIte]
          by_cases q1 : nI (v (4 + 4 * j)) = x
          · rw [if_pos q1, f1, show tkn v x j = true by simp [tkn, q1]]; rfl
          · rw [if_neg q1]
            by_cases q2 : nI (v (6 + 4 * j)) = x
            · rw [if_pos q2, f1, show tkn v x j = true by simp [tkn, q2]]; rfl
            · rw [if_neg q2, f2, show tkn v x j = false by simp [tkn, q1, q2]]; rfl
      · have e : j = v 0 := by omega
        exact ⟨n, by rw [e]⟩
  exact key FU 0 (by omega) (FU_gt (by omega))
theorem kS {v : Vt} (hV : Va v) {s : Nat} (hs : s < 12) : anyB (tkn v (nI s)) (v 0) = false ↔ who v s = none ∧ homeF v s (v 0) 0 = false := by
  have h0 := hV.1
  rw [anyB_f, who, whoF_none, homeF_none]
  have hb := hV.2.2.2.1
  constructor
  · intro h
    refine ⟨fun d _ hd e => ?_, fun d _ hd e => ?_⟩
    · have := h d (by omega)
      rw [tkn, e] at this
      simp at this
    · have := h d (by omega)
      rw [tkn, e] at this
      simp at this
  · intro h d hd
    have a := h.1 d (by omega) (by omega)
    have b := h.2 d (by omega) (by omega)
    obtain ⟨b1, -, b3, -⟩ := hb d hd
    have n1 : ¬ nI (v (4 + 4 * d)) = nI s := fun e => a ((n_eq (by omega) (by omega)).mp e)
    have n2 : ¬ nI (v (6 + 4 * d)) = nI s := fun e => b ((n_eq (by omega) (by omega)).mp e)
    simp [tkn, n1, n2]
def adv (v : Vt) (s f : Nat) : Vt := vu (vu (vu (vu (vu v (4 + 4 * v 0) s) (5 + 4 * v 0) f) (6 + 4 * v 0) s) (7 + 4 * v 0) f) 0 (v 0 + 1)
theorem adv_o (v : Vt) (s f : Nat) {k : Nat} (h0 : k ≠ 0) (h : k < 4 + 4 * v 0 ∨ 8 + 4 * v 0 ≤ k) : adv v s f k = v k := by
  unfold adv
  rw [vu_n _ _ (by omega), vu_n _ _ (by omega), vu_n _ _ (by omega), vu_n _ _ (by omega), vu_n _ _ (by omega)]
theorem adv_i (v : Vt) (s f : Nat) : adv v s f 0 = v 0 + 1 ∧ adv v s f (4 + 4 * v 0) = s ∧ adv v s f (5 + 4 * v 0) = f ∧ adv v s f (6 + 4 * v 0) = s ∧ adv v s f (7 + 4 * v 0) = f := by
  unfold adv
  refine ⟨vu_s _ _ _, ?_, ?_, ?_, ?_⟩
  · rw [vu_n _ _ (by omega), vu_n _ _ (by omega), vu_n _ _ (by omega), vu_n _ _ (by omega), vu_s]
  · rw [vu_n _ _ (by omega), vu_n _ _ (by omega), vu_n _ _ (by omega), vu_s]
  · rw [vu_n _ _ (by omega), vu_n _ _ (by omega), vu_s]
  · rw [vu_n _ _ (by omega), vu_s]
theorem Va_adv {v : Vt} {s f : Nat} (hV : Va v) (h8 : v 0 < 8) (hs : s < 12) (hf : f < 4) : Va (adv v s f) := by
  obtain ⟨h0, h1, h2, hd, hcc, hii, hp⟩ := hV
  obtain ⟨i0, i4, i5, i6, i7⟩ := adv_i v s f
  have en : ∀ k, k ≠ 0 → (k < 4 + 4 * v 0 ∨ 8 + 4 * v 0 ≤ k) → adv v s f k = v k := fun k a b => adv_o v s f a b
  refine ⟨by rw [i0]; omega, by rw [en 1 (by omega) (by omega)]; exact h1, by rw [en 2 (by omega) (by omega)]; exact h2, fun d hd' => ?_, fun c hc r hr => ?_, fun c hc r hr t ht => ?_, fun i hi' => ?_⟩
  · rw [i0] at hd'
    by_cases e : d = v 0
    · subst e; rw [i4, i5, i6, i7]; exact ⟨hs, hf, hs, hf⟩
    · rw [en _ (by omega) (by omega), en _ (by omega) (by omega), en _ (by omega) (by omega), en _ (by omega) (by omega)]
      exact hd d (by omega)
  · rw [en 1 (by omega) (by omega)] at hc
    rw [en _ (by omega) (by omega), en _ (by omega) (by omega), en _ (by omega) (by omega)]
    exact hcc c hc r hr
  · rw [en 1 (by omega) (by omega)] at hc
    rw [en _ (by omega) (by omega), en _ (by omega) (by omega)]
    exact hii c hc r hr t ht
  · rw [en 2 (by omega) (by omega)] at hi'
    rw [en _ (by omega) (by omega), en 1 (by omega) (by omega)]
    exact hp i hi'
theorem isb4 (x : Int32) (σ : Sg) : f_X5_isBelow x 4 σ = some (bI (inb x 4), σ) := isb x (N := 4) (by omega) σ
theorem isb12 (x : Int32) (σ : Sg) : f_X5_isBelow x 12 σ = some (bI (inb x 12), σ) := isb x (N := 12) (by omega) σ
theorem op_dancer (x y : Int32) (v : Vt) (g : Int32) (hV : Va v) : ∃ (r : Int32) (v' : Vt) (g' : Int32), Va v' ∧ OkR r v g v' g' ∧ OpC (f_X3_addDancer 1 x y) v g r v' g' ∧ OpM (f_X6_comes 298 x y) v g r v' g' := by
  have h0 := hV.1
  have h1 := hV.2.1
  have hm : ∀ τ, Mo (τ 299) v g → ∃ n, f_X6_comes 298 x y τ = f_X6_comes_5 (n + 1) 298 x y (bI (anyB (tkn v x) (v 0))) (nI (v 0)) τ := fun τ hM => by
    rw [f_X6_comes, if_pos kd_298]; exact comes5 hM hV x y
  have bad : (∀ τ, Mo (τ 299) v g → ∀ n, f_X6_comes_5 (n + 1) 298 x y (bI (anyB (tkn v x) (v 0))) (nI (v 0)) τ = cb (f_X6_isSpot x τ) (fun a2 τ3 => if a2 = 0 then (some ((-2), τ3)) else (cb (f_X6_isIn y 0 3 τ3) (fun a4 τ5 => if a4 = 0 then (some ((-2), τ5)) else (if bI (anyB (tkn v x) (v 0)) = 0 then (if inb 0 336 then (if τ5 299 0 = 8 then (some ((-4), τ5)) else (if inb 0 336 then (bn (4 + (4 * (τ5 299 0))) (fun b8 => if inb b8 336 then (bn (up τ5 299 (ix b8) x) (fun τ10 => if inb (b8 + 1) 336 then (bn (up τ10 299 (ix (b8 + 1)) y) (fun τ12 => if inb (b8 + 2) 336 then (bn (up τ12 299 (ix (b8 + 2)) x) (fun τ14 => if inb (b8 + 3) 336 then (bn (up τ14 299 (ix (b8 + 3)) y) (fun τ16 => if inb 0 336 then (if inb 0 336 then (bn (up τ16 299 0 ((τ16 299 0) + 1)) (fun τ19 => if inb 0 336 then (some ((τ19 299 0) - 1, τ19)) else none)) else none) else none)) else none)) else none)) else none)) else none)) else none)) else none) else (some ((-2), τ5))))))) := fun τ hM n => by
    rw [f_X6_comes_5, if_pos kd_298, if_pos (by decide), rf_298_0, show ix 0 = 0 from rfl, hM.2 0 (by omega) (by omega), if_pos (by rw [n_le (by omega) (by omega)]; omega)]
  cases hx : inb x 12 with
  | false =>
    refine ⟨-2, v, g, hV, Or.inr ⟨0, rfl, rfl, rfl⟩, OpC_bad (fun τ hC => ?_), OpM_bad (fun τ hM => ?_)⟩
    · rw [f_X3_addDancer, if_pos kd_1, isb12, cb_some, hx, if_pos bf]
    · obtain ⟨n, e⟩ := hm τ hM
      rw [e, bad τ hM n, isSpot_eq, cb_some, hx, if_pos bf]
  | true =>
    cases hy : inb y 4 with
    | false =>
      refine ⟨-2, v, g, hV, Or.inr ⟨0, rfl, rfl, rfl⟩, OpC_bad (fun τ hC => ?_), OpM_bad (fun τ hM => ?_)⟩
      · rw [f_X3_addDancer, if_pos kd_1, isb12, cb_some, hx, if_neg bt, isb4, cb_some, hy, if_pos bf]
      · obtain ⟨n, e⟩ := hm τ hM
        rw [e, bad τ hM n, isSpot_eq, cb_some, hx, if_neg bt, isI (N := 4) (by decide), cb_some, hy, if_pos bf]
    | true =>
      obtain ⟨s, hs, rfl⟩ := inb_ex hx (by omega)
      obtain ⟨f, hf, rfl⟩ := inb_ex hy (by omega)
      have ho := oI_neg (o := who v s) (fun d h => by have := who_lt hV h; omega)
      have hcl : ∀ τ, Cl τ 1 v g → f_X3_addDancer 1 (nI s) (nI f) τ = if anyB (tkn v (nI s)) (v 0) then some (-2, τ) else (if nI (v 0) < 8 then (if inb (nI (v 0)) 8 then (bn (up τ 2 (ix (nI (v 0))) ((nI s * 4) + nI f)) (fun τ10 => if inb (τ10 1 0) 8 then (if inb (τ10 1 0) 8 then (bn (up τ10 3 (ix (τ10 1 0)) (τ10 2 (ix (τ10 1 0)))) (fun τ13 => bn (up τ13 1 0 ((τ13 1 0) + 1)) (fun τ14 => some ((τ14 1 0) - 1, τ14)))) else none) else none)) else none) else (some ((-4), τ))) := fun τ hC => by
        rw [f_X3_addDancer, if_pos kd_1, isb12, cb_some, hx, if_neg bt, isb4, cb_some, hy, if_neg bt, whoC hC hV hs, cb_some, rf_1_1, rf_1_2]
        cases hk : anyB (tkn v (nI s)) (v 0) with
        | false =>
          obtain ⟨k1, k2⟩ := (kS hV hs).mp hk
          rw [if_pos (ho.1.mpr k1), homeC hC hV hs, cb_some, k2, if_pos bf, hC.1]
          rfl
        | true =>
          rw [if_pos rfl]
          by_cases k1 : who v s = none
          · rw [if_pos (ho.1.mpr k1), homeC hC hV hs, cb_some]
            cases k2 : homeF v s (v 0) 0 with
            | false => rw [(kS hV hs).mpr ⟨k1, k2⟩] at hk; cases hk
            | true => rw [if_neg bt]
          · rw [if_neg (fun q => k1 (ho.1.mp q))]
      cases hk : anyB (tkn v (nI s)) (v 0) with
      | true =>
        refine ⟨-2, v, g, hV, Or.inr ⟨0, rfl, rfl, rfl⟩, OpC_bad (fun τ hC => ?_), OpM_bad (fun τ hM => ?_)⟩
        · rw [hcl τ hC, hk, if_pos rfl]
        · obtain ⟨n, e⟩ := hm τ hM
          rw [e, bad τ hM n, isSpot_eq, cb_some, hx, if_neg bt, isI (N := 4) (by decide), cb_some, hy, if_neg bt, hk, if_neg bt]
      | false =>
        by_cases h8 : v 0 < 8
        · refine ⟨nI (v 0), adv v s f, g, Va_adv hV h8 hs hf, Or.inl (ge0 (by omega)), fun τ hC => ?_, fun τ hM => ?_⟩
          · rw [hcl τ hC, hk]
            obtain ⟨i0, i4, i5, i6, i7⟩ := adv_i v s f
            have en : ∀ k, k ≠ 0 → (k < 4 + 4 * v 0 ∨ 8 + 4 * v 0 ≤ k) → adv v s f k = v k := fun k a b => adv_o v s f a b
            obtain ⟨c0, c3, c5, c8, cd, cc, cp⟩ := hC
            refine ⟨up (up (up τ 2 (v 0) (nI (s * 4 + f))) 3 (v 0) (nI (s * 4 + f))) 1 0 (nI (v 0 + 1)), ?_, ⟨?_, ?_, ?_, ?_, fun d hd' => ?_, fun c hc r hr => ?_, fun i hi' => ?_⟩, fun k hk => by rw [up_o _ _ _ _ (by omega), up_o _ _ _ _ (by omega), up_o _ _ _ _ (by omega)]⟩
            · simp (disch := omega) only [kd_0, kd_1, kd_39, kd_269, kd_273, kd_298, rf_0_0, rf_0_1, rf_0_2, rf_0_3, rf_0_4, rf_1_1, rf_1_2, rf_1_4, rf_1_6, rf_1_7, rf_39_0, rf_269_0, rf_269_5, rf_269_6, rf_298_0, rf_298_1, rf_298_3, rf_298_4, rf_298_6, rf_298_7, rf_298_8, rf_298_9, bnE, cbE, lj, ix_nI, inb_nI, n_lt, n_le, n_eq, n_div, n_rem, nI_add, pk_mul, decide_eq_true_eq, if_true, if_false, bI_0, bI_or, not_true, not_false_eq_true, ↓reduceIte, ux_s, ux_n, ux_o, h8, c0, Bool.false_eq_true]
              rw [n_sub (by omega), show v 0 + 1 - 1 = v 0 by omega]
            · rw [ux_s, i0]
            · rw [ux_n _ _ _ (by omega), ux_o _ _ _ _ (by omega), ux_o _ _ _ _ (by omega), en 1 (by omega) (by omega)]; exact c3
            · rw [ux_n _ _ _ (by omega), ux_o _ _ _ _ (by omega), ux_o _ _ _ _ (by omega), en 2 (by omega) (by omega)]; exact c5
            · rw [ux_n _ _ _ (by omega), ux_o _ _ _ _ (by omega), ux_o _ _ _ _ (by omega)]; exact c8
            · rw [i0] at hd'
              have u1 : (up (up (up τ 2 (v 0) (nI (s * 4 + f))) 3 (v 0) (nI (s * 4 + f))) 1 0 (nI (v 0 + 1))) (1 + 1) d = if d = v 0 then nI (s * 4 + f) else τ (1 + 1) d := by simp [up_a]
              have u2 : (up (up (up τ 2 (v 0) (nI (s * 4 + f))) 3 (v 0) (nI (s * 4 + f))) 1 0 (nI (v 0 + 1))) (1 + 2) d = if d = v 0 then nI (s * 4 + f) else τ (1 + 2) d := by simp [up_a]
              rw [u1, u2]
              by_cases e : d = v 0
              · subst e; rw [i4, i5, i6, i7, if_pos rfl, if_pos rfl]; exact ⟨rfl, rfl⟩
              · rw [en _ (by omega) (by omega), en _ (by omega) (by omega), en _ (by omega) (by omega), en _ (by omega) (by omega), if_neg e, if_neg e]
                exact cd d (by omega)
            · rw [en 1 (by omega) (by omega)] at hc
              rw [en _ (by omega) (by omega), en _ (by omega) (by omega), en _ (by omega) (by omega)]
              simp (disch := omega) only [up_o]
              exact cc c hc r hr
            · rw [en 2 (by omega) (by omega)] at hi'
              rw [en _ (by omega) (by omega)]
              simp (disch := omega) only [up_o]
              exact cp i hi'
          · obtain ⟨n, e⟩ := hm τ hM
            rw [e, bad τ hM n, isSpot_eq, cb_some, hx, if_neg bt, isI (N := 4) (by decide), cb_some, hy, if_neg bt, hk, if_pos bf]
            have key := Mo_up (Mo_up (Mo_up (Mo_up (Mo_up hM (k := 4 + 4 * v 0) (x := s) (by omega)) (k := 5 + 4 * v 0) (x := f) (by omega)) (k := 6 + 4 * v 0) (x := s) (by omega)) (k := 7 + 4 * v 0) (x := f) (by omega)) (k := 0) (x := v 0 + 1) (by omega)
            refine ⟨_, ?_, key, fun k hk => by rw [up_o _ _ _ _ hk, up_o _ _ _ _ hk, up_o _ _ _ _ hk, up_o _ _ _ _ hk, up_o _ _ _ _ hk]⟩
            simp (disch := omega) only [kd_0, kd_1, kd_39, kd_269, kd_273, kd_298, rf_0_0, rf_0_1, rf_0_2, rf_0_3, rf_0_4, rf_1_1, rf_1_2, rf_1_4, rf_1_6, rf_1_7, rf_39_0, rf_269_0, rf_269_5, rf_269_6, rf_298_0, rf_298_1, rf_298_3, rf_298_4, rf_298_6, rf_298_7, rf_298_8, rf_298_9, bnE, cbE, lj, ix_nI, inb_nI, n_lt, n_le, n_eq, n_div, n_rem, nI_add, pk_mul, decide_eq_true_eq, if_true, if_false, bI_0, bI_or, not_true, not_false_eq_true, ↓reduceIte, ux_s, ux_n, ux_o, hM.2, show 0 < 336 by omega, show ¬ v 0 = 8 by omega, show 4 + 4 * v 0 < 336 by omega, show 4 + 4 * v 0 + 1 < 336 by omega, show 4 + 4 * v 0 + 2 < 336 by omega, show 4 + 4 * v 0 + 3 < 336 by omega]
            rw [n_sub (by omega), show v 0 + 1 - 1 = v 0 by omega, show 4 + 4 * v 0 + 1 = 5 + 4 * v 0 by omega, show 4 + 4 * v 0 + 2 = 6 + 4 * v 0 by omega, show 4 + 4 * v 0 + 3 = 7 + 4 * v 0 by omega]
        · have e8 : v 0 = 8 := by omega
          refine ⟨-4, v, g, hV, Or.inr ⟨2, rfl, rfl, rfl⟩, OpC_bad (fun τ hC => ?_), OpM_bad (fun τ hM => ?_)⟩
          · rw [hcl τ hC, hk, if_neg (by simp), if_neg (by rw [e8]; decide)]
          · obtain ⟨n, e⟩ := hm τ hM
            rw [e, bad τ hM n, isSpot_eq, cb_some, hx, if_neg bt, isI (N := 4) (by decide), cb_some, hy, if_neg bt, hk, if_pos bf, if_pos (by decide), hM.2 0 (by omega) (by omega), if_pos (by rw [e8]; rfl)]
theorem sim_dancer {n : Nat} (hn : n < 600) (x y : Int32) : Sim (Inv n) (Inv (n + 1)) (f_X5_dancer 0 x y) (f_X6_dancer 298 x y) := by
  refine mut_sim (opc := f_X3_addDancer 1 x y) (opm := f_X6_comes 298 x y) hn (fun σ => ?_) (fun σ => ?_) (op_dancer x y)
  · rw [f_X5_dancer, if_pos kd_0, rf_0_0, rf_0_1]
  · rw [f_X6_dancer, if_pos kd_298]
