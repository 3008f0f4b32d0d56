/-! the class's reader: cycles, numbers, orders, the whole text -/
theorem od_bl {tb : Nat → Nat} {tl p : Nat} (hp : p ≤ tl) : od tb tl (bl tb tl p) = od tb tl p := by unfold od; rw [bl_bl hp]
theorem rd_bl {tb : Nat → Nat} {tl p : Nat} (hp : p ≤ tl) (f : Nat) : rd tb tl f (bl tb tl p) = rd tb tl f p := by
  cases f with
  | zero => rfl
  | succ f => rw [rd, rd, od_bl hp]
theorem nIm1 {x : Nat} (h : x < 2147483648) : ¬ nI x = -1 := fun e => by
  have h0 : (0 : Int32) ≤ nI x := ge0 h
  rw [e] at h0
  exact absurd h0 (by decide)
theorem bN {α β : Type} (e : β) : bI ((none : Option α), e).1.isSome = 0 := rfl
theorem bS {α β : Type} (a : α) (e : β) : ¬ bI ((some a : Option α), e).1.isSome = 0 := bt
theorem FR_refl (σ : Sg) : FR σ σ := ⟨fun _ _ _ _ => rfl, fun _ _ _ _ => rfl⟩
def CsO (σ σ' : Sg) (tl : Nat) (tb : Nat → Nat) (r : Option (Nat → Nat) × Nat) (v : Option (Int32 × Sg)) : Prop := FR σ σ' ∧ v = some (bI r.1.isSome, σ') ∧ match r.1 with
  | some g => TC σ' tl tb r.2 ∧ (∀ s, s < 12 → σ' 272 s = nI (g s)) ∧ σ' 269 3 = σ 269 3
  | none => σ' 269 3 = nI r.2
theorem csC {tl : Nat} {tb : Nat → Nat} (htl : tl ≤ 120) (htb : ∀ i, i < tl → tb i < 128) : ∀ f m gf td p (σ : Sg) F, f + m = 13 → 2 * m ≤ cn td 12 → Pm gf → (∀ s, s < 12 → td s = false → gf s = s) → p ≤ tl → YC σ tl tb p gf td → f + 1 < F → ∃ σ', CsO σ σ' tl tb (cs tb tl f gf td p) (f_X4_readCycles_30 F 269 1 (nI m) σ) := by
  intro f
  induction f with
  | zero => intro m gf td p σ F h1 h2; have := cn_le td 12; omega
  | succ f ih =>
    intro m gf td p σ F hfm h2 hP hI hp hC hF
    have hm6 : m ≤ 6 := by have := cn_le td 12; omega
    obtain ⟨F, rfl⟩ : ∃ z, F = z + 1 := ⟨F - 1, by omega⟩
    obtain ⟨b1, b2, b3⟩ := bl_le (tb := tb) hp
    have hC2 := YC_at hC (bl tb tl p)
    have hs40 := sg_eq (tb := tb) (tl := tl) (q := bl tb tl p) htb 40 (by omega)
    rw [f_X4_readCycles_30, if_pos kd_269, if_neg (by rw [show (12 : Int32) = nI 12 from rfl, n_le (by omega) (by omega)]; omega), if_neg (by decide), nextC htl htb hC.1 hp, cb_some, cs]
    by_cases q : bl tb tl p < tl ∧ tb (bl tb tl p) = 40
    · rw [if_pos (show sg tb tl (bl tb tl p) = 40 from hs40.mpr q), if_pos q, hC2.1.2.2, show (nI (bl tb tl p) + 1 : Int32) = nI (bl tb tl p + 1) from nI_1 _, up_up]
      simp only [bnE]
      rw [f_X4_readCycle, if_pos kd_269]
      have hYI : YI 0 0 0 gf td := ⟨hI, by omega, Or.inl ⟨rfl, hP⟩⟩
      have hC3 := YC_at hC (bl tb tl p + 1)
      obtain ⟨σ1, w1, w2, w3⟩ := cyC htl htb 14 0 0 0 gf td (bl tb tl p + 1) (up σ 269 2 (nI (bl tb tl p + 1))) FU (-1) (-1) (by omega) hYI (by omega) hC3 (fun h => absurd h (Nat.not_lt_zero _)) (FU_gt (by omega))
      have w2' : f_X4_readCycle_6 FU 269 (-1) (-1) 0 (up σ 269 2 (nI (bl tb tl p + 1))) = some (bI (cy tb tl 14 0 0 0 gf td (bl tb tl p + 1)).1.isSome, σ1) := w2
      rw [w2', cb_some, show (nI m + 1 : Int32) = nI (m + 1) from nI_1 _]
      cases hcy : cy tb tl 14 0 0 0 gf td (bl tb tl p + 1) with
      | mk o e =>
        rw [hcy] at w3
        cases o with
        | none =>
          obtain ⟨F, rfl⟩ : ∃ z, F = z + 1 := ⟨F - 1, by omega⟩
          rw [f_X4_readCycles_30, if_pos kd_269, if_neg (by rw [show (12 : Int32) = nI 12 from rfl, n_le (by omega) (by omega)]; omega), if_pos (bN e), if_pos (Or.inl (bN e))]
          exact ⟨σ1, FR_trans (FR_up σ (Or.inl rfl) _) w1, rfl, w3⟩
        | some g2 =>
          obtain ⟨g3, t3⟩ := g2
          obtain ⟨w3, w4⟩ := w3
          obtain ⟨r1, r2, r3, r4, r5⟩ := cy_ok tb tl _ _ _ _ _ _ _ _ _ _ hYI (by omega) hcy
          obtain ⟨σ2, z1, z2, z3⟩ := ih (m + 1) g3 t3 e σ1 F (by omega) (by omega) r1 r2 r5 w3 (by omega)
          refine ⟨σ2, FR_trans (FR_trans (FR_up σ (Or.inl rfl) _) w1) z1, z2, ?_⟩
          try dsimp only
          revert z3
          cases (cs tb tl f g3 t3 e).1 with
          | none => exact fun z3 => z3
          | some g => exact fun z3 => ⟨z3.1, z3.2.1, by rw [z3.2.2, w4, ux_n _ _ _ (by omega)]⟩
    · rw [if_neg (show ¬ sg tb tl (bl tb tl p) = 40 from fun z => q (hs40.mp z)), if_pos (Or.inr rfl), if_neg q]
      exact ⟨_, FR_up σ (Or.inl rfl) _, rfl, hC2.1, hC2.2.2, ux_n _ _ _ (by omega)⟩
theorem rcsC {tl : Nat} {tb : Nat → Nat} (htl : tl ≤ 120) (htb : ∀ i, i < tl → tb i < 128) {p : Nat} {σ : Sg} (hT : TC σ tl tb p) (hp : p ≤ tl) : ∃ σ', CsO σ σ' tl tb (cs tb tl 13 (fun s => s) (fun _ => false) p) (f_X4_readCycles 269 σ) := by
  rw [f_X4_readCycles, if_pos kd_269]
  have key := loopI (fun n j τ => f_X4_readCycles_2 n 269 (nI j) τ) (fun j τ => FR σ τ ∧ TC τ tl tb p ∧ τ 269 3 = σ 269 3 ∧ ∀ s, s < j → τ 272 s = nI s) (fun q => CsO σ q.2 tl tb (cs tb tl 13 (fun s => s) (fun _ => false) p) (some q)) 12 ?_ ?_ FU 0 σ (by omega) (FU_gt (by omega)) ⟨FR_refl σ, hT, rfl, fun s hs => absurd hs (Nat.not_lt_zero _)⟩
  · obtain ⟨⟨a, τ'⟩, e, h2⟩ := key
    have e' : f_X4_readCycles_2 FU 269 0 σ = some (a, τ') := e
    rw [e']
    exact ⟨τ', h2⟩
  · intro n τ hI
    obtain ⟨i1, i2, i3, i4⟩ := hI
    try dsimp only
    rw [f_X4_readCycles_2, if_pos kd_269, if_pos (by decide)]
    simp only [bnE]
    obtain ⟨σ2, z1, z2, z3⟩ := csC htl htb 13 0 (fun s => s) (fun _ => false) p (up τ 269 7 0) FU (by omega) (by omega) ⟨fun i hi => hi, fun i hi j hj e => e⟩ (fun s hs _ => rfl) hp ⟨⟨by rw [ux_n _ _ _ (by omega)]; exact i2.1, fun i hi => by rw [ux_o _ _ _ _ (by omega)]; exact i2.2.1 i hi, by rw [ux_n _ _ _ (by omega)]; exact i2.2.2⟩, by rw [ux_s, bm_zero]; rfl, fun s hs => by rw [ux_o _ _ _ _ (by omega)]; exact i4 s hs⟩ (FU_gt (by omega))
    have z2' : f_X4_readCycles_30 FU 269 1 0 (up τ 269 7 0) = some (bI (cs tb tl 13 (fun s => s) (fun _ => false) p).1.isSome, σ2) := z2
    refine ⟨_, z2', FR_trans i1 (FR_trans (FR_up τ (Or.inr (Or.inr rfl)) 0) z1), rfl, ?_⟩
    revert z3
    cases (cs tb tl 13 (fun s => s) (fun _ => false) p).1 with
    | none => exact fun z3 => z3
    | some g => exact fun z3 => ⟨z3.1, z3.2.1, by show σ2 269 3 = σ 269 3; rw [z3.2.2, ux_n _ _ _ (by omega)]; exact i3⟩
  · intro n j τ hj hI
    obtain ⟨i1, i2, i3, i4⟩ := hI
    refine stp (s' := up τ 272 j (nI j)) ?_ ⟨FR_trans i1 (FR_goes _ _ _), ⟨by rw [ux_o _ _ _ _ (by omega)]; exact i2.1, fun i hi => by rw [ux_o _ _ _ _ (by omega)]; exact i2.2.1 i hi, by rw [ux_o _ _ _ _ (by omega)]; exact i2.2.2⟩, by rw [ux_o _ _ _ _ (by omega)]; exact i3, fun s hs => ?_⟩
    · try dsimp only
      rw [f_X4_readCycles_2, if_pos kd_269, if_neg (by rw [show (12 : Int32) = nI 12 from rfl, n_le (by omega) (by omega)]; omega), if_pos (by rw [inb_nI (by omega)]; exact decide_eq_true (by omega))]
      simp only [bnE]
      rw [rf_269_6, ix_nI (by omega), show (nI j + 1 : Int32) = nI (j + 1) from nI_1 _]
    · by_cases e : s = j
      · rw [e, ux_s]
      · rw [ux_n _ _ _ e]; exact i4 s (by omega)
def NsO (σ σ' : Sg) (tl : Nat) (tb : Nat → Nat) (w : Nat) (r : Option (Nat → Nat) × Nat) (v : Option (Int32 × Sg)) : Prop := FR σ σ' ∧ v = some (bI r.1.isSome, σ') ∧ match r.1 with
  | some g => TC σ' tl tb r.2 ∧ (∀ j, j < w → σ' 271 j = nI (g j)) ∧ σ' 269 3 = σ 269 3
  | none => σ' 269 3 = nI r.2
theorem nsC {tl : Nat} {tb : Nat → Nat} (htl : tl ≤ 120) (htb : ∀ i, i < tl → tb i < 128) : ∀ m i ns p (σ : Sg) F, i + m ≤ 3 → TC σ tl tb p → p ≤ tl → (∀ j, j < i → σ 271 j = nI (ns j)) → m < F → ∃ σ', NsO σ σ' tl tb (i + m) (nsF tb tl m i ns p) (f_X4_readNumbers_2 F 269 (nI (i + m)) (nI i) σ) := by
  intro m
  induction m with
  | zero =>
    intro i ns p σ F h1 hT hp hj hF
    obtain ⟨F, rfl⟩ : ∃ z, F = z + 1 := ⟨F - 1, by omega⟩
    rw [f_X4_readNumbers_2, if_pos kd_269, if_pos (by rw [n_le (by omega) (by omega)]; omega), nsF]
    exact ⟨σ, FR_refl σ, rfl, hT, fun j h => hj j (by omega), rfl⟩
  | succ m ih =>
    intro i ns p σ F h1 hT hp hj hF
    obtain ⟨F, rfl⟩ : ∃ z, F = z + 1 := ⟨F - 1, by omega⟩
    have ib : inb (nI i) 3 = true := by rw [inb_nI (by omega)]; exact decide_eq_true (by omega)
    obtain ⟨u1, u2⟩ := numC htl htb hT hp
    obtain ⟨n1, n2⟩ := nm_le (tb := tb) hp
    rw [f_X4_readNumbers_2, if_pos kd_269, if_neg (by rw [n_le (by omega) (by omega)]; omega), nsF]
    cases hnm : nm tb tl p with
    | mk o e =>
      rw [hnm] at n1 n2
      cases o with
      | none =>
        rw [u2 e hnm, cb_some, if_pos ib]
        simp only [bnE]
        rw [if_pos ib, rf_269_5, ix_nI (by omega), ux_s, if_pos rfl]
        exact ⟨_, FR_trans (FR_trans (FR_up σ (Or.inl rfl) _) (FR_up _ (Or.inr (Or.inl rfl)) _)) (FR_nums _ _ _), rfl, by dsimp only; rw [ux_o _ _ _ _ (by omega), ux_s]⟩
      | some x =>
        dsimp only at n1 n2
        have hx := (n2 x rfl).1
        rw [u1 x e hnm, cb_some, if_pos ib]
        simp only [bnE]
        rw [if_pos ib, rf_269_5, ix_nI (by omega), ux_s, if_neg (nIm1 (by omega)), show (nI i + 1 : Int32) = nI (i + 1) from nI_1 _, show i + (m + 1) = i + 1 + m by omega]
        have hT2 := TC_at hT e
        obtain ⟨σ2, z1, z2, z3⟩ := ih (i + 1) (fu ns i x) e (up (up σ 269 2 (nI e)) 271 i (nI x)) F (by omega) ⟨by rw [ux_o _ _ _ _ (by omega)]; exact hT2.1, fun i hi => by rw [ux_o _ _ _ _ (by omega)]; exact hT2.2.1 i hi, by rw [ux_o _ _ _ _ (by omega)]; exact hT2.2.2⟩ n1 (fun j h => by
          by_cases e2 : j = i
          · rw [e2, ux_s, fu_s]
          · rw [ux_n _ _ _ e2, fu_n _ _ e2, ux_o _ _ _ _ (by omega)]; exact hj j (by omega)) (by omega)
        refine ⟨σ2, FR_trans (FR_trans (FR_up σ (Or.inl rfl) _) (FR_nums _ _ _)) z1, z2, ?_⟩
        try dsimp only
        revert z3
        cases (nsF tb tl m (i + 1) (fu ns i x) e).1 with
        | none => exact fun z3 => z3
        | some g => exact fun z3 => ⟨z3.1, z3.2.1, by rw [z3.2.2, ux_o _ _ _ _ (by omega), ux_n _ _ _ (by omega)]⟩
def QF (σ σ' : Sg) : Prop := σ' 269 1 = σ 269 1 ∧ ∀ k, k ≠ 269 → k ≠ 271 → k ≠ 272 → σ' k = σ k
theorem QF_trans {a b c : Sg} (h1 : QF a b) (h2 : QF b c) : QF a c := ⟨h2.1.trans h1.1, fun k x y z => (h2.2 k x y z).trans (h1.2 k x y z)⟩
theorem QF_FR {a b : Sg} (h : FR a b) : QF a b := ⟨h.1 1 (by omega) (by omega) (by omega), h.2⟩
theorem QF_up (σ : Sg) {i : Nat} (hi : i ≠ 1) (x : Int32) : QF σ (up σ 269 i x) := ⟨ux_n _ _ _ (by omega), fun k a b c => up_o _ _ _ _ a⟩
def OC (σ : Sg) (o : Od) : Prop := σ 269 4 = nI o.1 ∧ (o.1 ≠ 107 → ∀ w, nb o.1 = some w → ∀ j, j < w → σ 271 j = nI (o.2.1 j)) ∧ (o.1 = 107 → ∀ s, s < 12 → σ 272 s = nI (o.2.2 s))
def OdO (σ σ' : Sg) (tl : Nat) (tb : Nat → Nat) (r : Option Od × Nat) (v : Option (Int32 × Sg)) : Prop := QF σ σ' ∧ v = some (bI r.1.isSome, σ') ∧ match r.1 with
  | some o => TC σ' tl tb r.2 ∧ OC σ' o ∧ σ' 269 3 = σ 269 3
  | none => σ' 269 3 = nI r.2
theorem ro61 {tl : Nat} {tb : Nat → Nat} (htl : tl ≤ 120) (htb : ∀ i, i < tl → tb i < 128) {e : Nat} {σ : Sg} (hT : TC σ tl tb e) (he : e ≤ tl) : f_X4_readOrder_61 269 1 σ = if bl tb tl e < tl ∧ tb (bl tb tl e) = 59 then some (1, up σ 269 2 (nI (bl tb tl e + 1))) else some (0, up (up σ 269 2 (nI (bl tb tl e))) 269 3 (nI (bl tb tl e))) := by
  have hs59 := sg_eq (tb := tb) (tl := tl) (q := bl tb tl e) htb 59 (by omega)
  rw [f_X4_readOrder_61, if_pos kd_269, if_neg (by decide), nextC htl htb hT he, cb_some]
  by_cases q : bl tb tl e < tl ∧ tb (bl tb tl e) = 59
  · rw [if_pos (show sg tb tl (bl tb tl e) = 59 from hs59.mpr q), if_pos q, ux_s, show (nI (bl tb tl e) + 1 : Int32) = nI (bl tb tl e + 1) from nI_1 _, up_up]
    rfl
  · rw [if_neg (show ¬ sg tb tl (bl tb tl e) = 59 from fun z => q (hs59.mp z)), if_neg q, ux_s, failC, cb_some, if_pos (Or.inl rfl)]
theorem nb_le {k w : Nat} (h : nb k = some w) : w ≤ 3 ∧ (k = 107 ↔ w = 0) := by
  unfold nb at h
  repeat' split at h
  all_goals first | (cases h; omega) | (cases h)
theorem odC {tl : Nat} {tb : Nat → Nat} (htl : tl ≤ 120) (htb : ∀ i, i < tl → tb i < 128) {p : Nat} {σ : Sg} (hT : TC σ tl tb p) (hp : p ≤ tl) : ∃ σ', OdO σ σ' tl tb (od tb tl p) (f_X4_readOrder 269 σ) := by
  obtain ⟨b1, b2, b3⟩ := bl_le (tb := tb) hp
  have hQ : QF σ (up (up σ 269 2 (nI (bl tb tl p))) 269 4 (sg tb tl (bl tb tl p))) := QF_trans (QF_up σ (by omega) _) (QF_up _ (by omega) _)
  have hT2 := TC_at hT (bl tb tl p)
  rw [f_X4_readOrder, if_pos kd_269, nextC htl htb hT hp, cb_some]
  simp only [bnE]
  rw [nbC, cb_some, ux_s]
  have bad : nbX (sg tb tl (bl tb tl p)) = -1 → ∃ σ', OdO σ σ' tl tb (none, bl tb tl p) (if nbX (sg tb tl (bl tb tl p)) = -1 then (cb (f_X4_fails 269 ((up (up σ 269 2 (nI (bl tb tl p))) 269 4 (sg tb tl (bl tb tl p))) 269 2) (up (up σ 269 2 (nI (bl tb tl p))) 269 4 (sg tb tl (bl tb tl p)))) (fun a11 τ12 => if a11 = 0 ∨ a11 = 1 then some (a11, τ12) else none)) else none) := by
    intro h
    rw [if_pos h, failC, cb_some, if_pos (Or.inl rfl), ux_n _ _ _ (by omega), ux_s]
    exact ⟨_, QF_trans hQ (QF_up _ (by omega) _), rfl, ux_s _ _ _ _⟩
  unfold od
  by_cases q : bl tb tl p < tl
  · have hsg : sg tb tl (bl tb tl p) = nI (tb (bl tb tl p)) := by unfold sg; rw [if_pos q]
    have hk := htb _ q
    have hnb : nbX (sg tb tl (bl tb tl p)) = nbO (nb (tb (bl tb tl p))) := by rw [hsg]; exact nbX_nb _ hk
    rw [if_pos q]
    cases hw : nb (tb (bl tb tl p)) with
    | none =>
      rw [hw] at hnb
      have hx : nbX (sg tb tl (bl tb tl p)) = -1 := hnb
      obtain ⟨σ', z⟩ := bad hx
      rw [if_pos hx] at z ⊢
      exact ⟨σ', z⟩
    | some w =>
      rw [hw] at hnb
      obtain ⟨w3, wk⟩ := nb_le hw
      have hx : nbX (sg tb tl (bl tb tl p)) = nI w := hnb
      have h22 : (up (up σ 269 2 (nI (bl tb tl p))) 269 4 (sg tb tl (bl tb tl p))) 269 2 = nI (bl tb tl p) := by rw [ux_n _ _ _ (by omega), ux_s]
      rw [hx, if_neg (nIm1 (by omega)), h22, show (nI (bl tb tl p) + 1 : Int32) = nI (bl tb tl p + 1) from nI_1 _]
      have hT3 : TC (up (up (up σ 269 2 (nI (bl tb tl p))) 269 4 (sg tb tl (bl tb tl p))) 269 2 (nI (bl tb tl p + 1))) tl tb (bl tb tl p + 1) := ⟨by rw [ux_n _ _ _ (by omega), ux_n _ _ _ (by omega)]; exact hT2.1, fun i hi => by rw [ux_o _ _ _ _ (by omega), ux_o _ _ _ _ (by omega)]; exact hT2.2.1 i hi, ux_s _ _ _ _⟩
      have h34 : (up (up (up σ 269 2 (nI (bl tb tl p))) 269 4 (sg tb tl (bl tb tl p))) 269 2 (nI (bl tb tl p + 1))) 269 4 = nI (tb (bl tb tl p)) := by rw [ux_n _ _ _ (by omega), ux_s, hsg]
      have h33 : (up (up (up σ 269 2 (nI (bl tb tl p))) 269 4 (sg tb tl (bl tb tl p))) 269 2 (nI (bl tb tl p + 1))) 269 3 = σ 269 3 := by rw [ux_n _ _ _ (by omega), ux_n _ _ _ (by omega), ux_n _ _ _ (by omega)]
      have hQ3 : QF σ (up (up (up σ 269 2 (nI (bl tb tl p))) 269 4 (sg tb tl (bl tb tl p))) 269 2 (nI (bl tb tl p + 1))) := QF_trans hQ (QF_up _ (by omega) _)
      generalize (up (up (up σ 269 2 (nI (bl tb tl p))) 269 4 (sg tb tl (bl tb tl p))) 269 2 (nI (bl tb tl p + 1))) = σ3 at hT3 h34 h33 hQ3 ⊢
      rw [h34]
      try dsimp only
      unfold bd
      by_cases q2 : tb (bl tb tl p) = 107
      · rw [if_pos (show nI (tb (bl tb tl p)) = 107 by rw [q2]; rfl), if_pos q2]
        obtain ⟨σ4, z1, z2, z3⟩ := rcsC htl htb hT3 (by omega)
        rw [z2, cb_some]
        cases hcs : cs tb tl 13 (fun s => s) (fun _ => false) (bl tb tl p + 1) with
        | mk o e =>
          rw [hcs] at z3
          cases o with
          | none =>
            refine ⟨σ4, QF_trans hQ3 (QF_FR z1), ?_, z3⟩
            show f_X4_readOrder_61 269 0 σ4 = some (0, σ4)
            rw [f_X4_readOrder_61, if_pos kd_269, if_pos rfl]
          | some g =>
            obtain ⟨y1, y2, y3⟩ := z3
            obtain ⟨r1, r2, r3⟩ := cs_ok tb tl _ _ _ _ _ _ ⟨fun i hi => hi, fun i hi j hj e => e⟩ (fun s hs _ => rfl) (by omega) hcs
            try dsimp only
            show ∃ σ', OdO σ σ' tl tb _ (f_X4_readOrder_61 269 1 σ4)
            rw [ro61 htl htb y1 r3]
            have y4 : σ4 269 4 = nI 107 := by rw [z1.1 4 (by omega) (by omega) (by omega), h34, q2]
            by_cases q3 : bl tb tl e < tl ∧ tb (bl tb tl e) = 59
            · rw [if_pos q3, if_pos q3]
              refine ⟨_, QF_trans (QF_trans hQ3 (QF_FR z1)) (QF_up _ (by omega) _), rfl, TC_at y1 _, ⟨by rw [ux_n _ _ _ (by omega)]; exact y4, fun z => absurd rfl z, fun _ s hs => by rw [ux_o _ _ _ _ (by omega)]; exact y2 s hs⟩, by rw [ux_n _ _ _ (by omega), y3, h33]⟩
            · rw [if_neg q3, if_neg q3]
              exact ⟨_, QF_trans (QF_trans hQ3 (QF_FR z1)) (QF_trans (QF_up _ (by omega) _) (QF_up _ (by omega) _)), rfl, ux_s _ _ _ _⟩
      · rw [if_neg (show ¬ nI (tb (bl tb tl p)) = 107 by rw [show (107 : Int32) = nI 107 from rfl, n_eq (by omega) (by omega)]; exact q2), if_neg q2, f_X4_readNumbers, if_pos kd_269]
        obtain ⟨σ4, z1, z2, z3⟩ := nsC htl htb w 0 (fun _ => 0) (bl tb tl p + 1) σ3 FU (by omega) hT3 (by omega) (fun j h => absurd h (Nat.not_lt_zero _)) (FU_gt (by omega))
        rw [Nat.zero_add] at z2 z3
        have z2' : f_X4_readNumbers_2 FU 269 (nI w) 0 σ3 = some (bI (nsF tb tl w 0 (fun _ => 0) (bl tb tl p + 1)).1.isSome, σ4) := z2
        rw [z2', cb_some]
        cases hcs : nsF tb tl w 0 (fun _ => 0) (bl tb tl p + 1) with
        | mk o e =>
          rw [hcs] at z3
          cases o with
          | none =>
            refine ⟨σ4, QF_trans hQ3 (QF_FR z1), ?_, z3⟩
            show f_X4_readOrder_61 269 0 σ4 = some (0, σ4)
            rw [f_X4_readOrder_61, if_pos kd_269, if_pos rfl]
          | some g =>
            obtain ⟨y1, y2, y3⟩ := z3
            obtain ⟨r1, r2, r3⟩ := nsF_ok tb tl _ _ _ _ _ _ (by omega) hcs
            try dsimp only
            show ∃ σ', OdO σ σ' tl tb _ (f_X4_readOrder_61 269 1 σ4)
            rw [ro61 htl htb y1 r2]
            have y4 : σ4 269 4 = nI (tb (bl tb tl p)) := by rw [z1.1 4 (by omega) (by omega) (by omega), h34]
            by_cases q3 : bl tb tl e < tl ∧ tb (bl tb tl e) = 59
            · rw [if_pos q3, if_pos q3]
              refine ⟨_, QF_trans (QF_trans hQ3 (QF_FR z1)) (QF_up _ (by omega) _), rfl, TC_at y1 _, ⟨by rw [ux_n _ _ _ (by omega)]; exact y4, fun _ w' hw' j hj => ?_, fun z => absurd z q2⟩, by rw [ux_n _ _ _ (by omega), y3, h33]⟩
              have ew : w' = w := by
                have hw2 : nb (tb (bl tb tl p)) = some w' := hw'
                rw [hw] at hw2
                exact (Option.some.inj hw2).symm
              rw [ux_o _ _ _ _ (by omega)]
              exact y2 j (by omega)
            · rw [if_neg q3, if_neg q3]
              exact ⟨_, QF_trans (QF_trans hQ3 (QF_FR z1)) (QF_trans (QF_up _ (by omega) _) (QF_up _ (by omega) _)), rfl, ux_s _ _ _ _⟩
  · have hsg : sg tb tl (bl tb tl p) = -1 := by unfold sg; rw [if_neg q]
    have hx : nbX (sg tb tl (bl tb tl p)) = -1 := by rw [hsg]; rfl
    rw [if_neg q]
    obtain ⟨σ', z⟩ := bad hx
    rw [if_pos hx] at z ⊢
    exact ⟨σ', z⟩
def rv (r : Option (List Od) × Nat) : Int32 := match r.1 with
  | some _ => -1
  | none => nI r.2
theorem ffC {tl : Nat} {tb : Nat → Nat} (htl : tl ≤ 120) (htb : ∀ i, i < tl → tb i < 128) : ∀ f m p (σ : Sg) F, f + m = 62 → 2 * m ≤ p → p ≤ tl → TC σ tl tb p → σ 269 3 = -1 → f < F → ∃ σ', QF σ σ' ∧ cb (f_X4_readOrder 269 σ) (fun a3 τ4 => f_X4_firstFault_11 F 269 a3 (nI (m + 1)) τ4) = some (rv (rd tb tl f p), σ') := by
  intro f
  induction f with
  | zero => intro m p σ F h1 h2 h3; omega
  | succ f ih =>
    intro m p σ F hfm h2 hp hT h3 hF
    obtain ⟨F, rfl⟩ : ∃ z, F = z + 1 := ⟨F - 1, by omega⟩
    obtain ⟨σ1, o1, o2, o3⟩ := odC htl htb hT hp
    rw [o2, cb_some, rd, f_X4_firstFault_11, if_pos kd_269, if_neg (by rw [show (120 : Int32) = nI 120 from rfl, n_le (by omega) (by omega)]; omega)]
    cases hod : od tb tl p with
    | mk o e =>
      rw [hod] at o3
      cases o with
      | none =>
        rw [if_pos (bN e)]
        have o3' : σ1 269 3 = nI e := o3
        rw [o3']
        exact ⟨σ1, o1, rfl⟩
      | some o =>
        obtain ⟨t1, t2, t3⟩ := o3
        obtain ⟨k1, k2, k3, k4, k5⟩ := od_ok hp hod
        obtain ⟨c1, c2, c3⟩ := bl_le (tb := tb) k5
        rw [if_neg (bS o e), moreC htl htb t1 k5, cb_some]
        try dsimp only
        by_cases q : bl tb tl e < tl
        · rw [decide_eq_true q, if_neg bt, if_pos q, show (nI (m + 1) + 1 : Int32) = nI (m + 1 + 1) from nI_1 _]
          obtain ⟨σ2, z1, z2⟩ := ih (m + 1) (bl tb tl e) (up σ1 269 2 (nI (bl tb tl e))) F (by omega) (by omega) c2 (TC_at t1 _) (by rw [ux_n _ _ _ (by omega), t3]; exact h3) (by omega)
          rw [rd_bl k5] at z2
          refine ⟨σ2, QF_trans (QF_trans o1 (QF_up _ (by omega) _)) z1, ?_⟩
          rw [z2]
          cases hr : rd tb tl f e with
          | mk l e' =>
            cases l with
            | none => rfl
            | some l => rfl
        · rw [decide_eq_false q, if_pos bf, if_neg q]
          refine ⟨up σ1 269 2 (nI (bl tb tl e)), QF_trans o1 (QF_up σ1 (by omega) _), ?_⟩
          rw [ux_n _ _ _ (by omega), t3, h3]
          rfl
theorem ffC0 {tl : Nat} {tb : Nat → Nat} (htl : tl ≤ 120) (htb : ∀ i, i < tl → tb i < 128) {σ : Sg} (h1 : σ 269 1 = nI tl) (h2 : ∀ i, i < tl → σ 270 i = nI (tb i)) : ∃ σ', QF σ σ' ∧ f_X4_firstFault 269 σ = some (rv (rd tb tl 62 0), σ') := by
  rw [f_X4_firstFault, if_pos kd_269, f_X4_restart, if_pos kd_269]
  simp only [bnE]
  rw [cb_some]
  obtain ⟨σ2, z1, z2⟩ := ffC htl htb 62 0 0 (up (up σ 269 2 0) 269 3 (-1)) FU (by omega) (by omega) (by omega) ⟨by rw [ux_n _ _ _ (by omega), ux_n _ _ _ (by omega)]; exact h1, fun i hi => by rw [ux_o _ _ _ _ (by omega), ux_o _ _ _ _ (by omega)]; exact h2 i hi, by rw [ux_n _ _ _ (by omega), ux_s]; rfl⟩ (ux_s _ _ _ _) (FU_gt (by omega))
  exact ⟨σ2, QF_trans (QF_trans (QF_up _ (by omega) _) (QF_up _ (by omega) _)) z1, z2⟩
