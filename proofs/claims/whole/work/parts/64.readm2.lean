/-! the reference's reader: cycles, numbers, orders, the whole text -/
def RowG (σ : Sg) (b : Nat) (g : Nat → Nat) : Prop := ∀ s, s < 12 → σ 306 (b + 1 + s) = nI (g s) ∨ (σ 306 (b + 1 + s) = -1 ∧ g s = s)
def CsM (b : Nat) (σ σ' : Sg) (tl : Nat) (tb : Nat → Nat) (r : Option (Nat → Nat) × Nat) (v : Option (Int32 × Sg)) : Prop := FM b σ σ' ∧ v = some (bI r.1.isSome, σ') ∧ match r.1 with
  | some g => TM σ' tl tb r.2 ∧ RowG σ' b g
  | none => σ' 298 12 = nI r.2
theorem csM {tl : Nat} {tb : Nat → Nat} (htl : tl ≤ 120) (htb : ∀ i, i < tl → tb i < 128) {b : Nat} (hb : b + 13 ≤ 1560) : ∀ f m gf td p (σ : Sg) F, f + m = 13 → 2 * m ≤ cn td 12 → Pm gf → (∀ s, s < 12 → td s = false → gf s = s) → p ≤ tl → TM σ tl tb (bl tb tl p) → YM σ b gf td → f < F → ∃ σ', CsM b σ σ' tl tb (cs tb tl f gf td p) (f_X6_readsCycles_29 F 298 (nI b) σ) := by
  intro f
  induction f with
  | zero => intro m gf td p σ F h1 h2; have := cn_le td 12; omega
  | succ f ih =>
    intro m gf td p σ F hfm h2 hP hI hp hT hR hF
    obtain ⟨F, rfl⟩ : ∃ z, F = z + 1 := ⟨F - 1, by omega⟩
    obtain ⟨b1, b2, b3⟩ := bl_le (tb := tb) hp
    have stop : ¬ (bl tb tl p < tl ∧ tb (bl tb tl p) = 40) → ∃ σ', CsM b σ σ' tl tb (if bl tb tl p < tl ∧ tb (bl tb tl p) = 40 then (match cy tb tl 14 0 0 0 gf td (bl tb tl p + 1) with
        | (none, e) => (none, e)
        | (some (gf', td'), e) => cs tb tl f gf' td' e) else (some gf, bl tb tl p)) (some (1, σ)) := by
      intro q
      rw [if_neg q]
      refine ⟨σ, FM_refl b σ, rfl, hT, fun s hs => ?_⟩
      have h := hR s hs
      cases ht : td s with
      | true => rw [ht, if_pos rfl] at h; exact Or.inl h
      | false => rw [ht, if_neg (by decide)] at h; exact Or.inr ⟨h, hI s hs ht⟩
    rw [f_X6_readsCycles_29, if_pos kd_298, hT.1, hT.2.2, cs]
    by_cases q1 : bl tb tl p < tl
    · have hk := htb _ q1
      rw [if_neg (show ¬ nI tl ≤ nI (bl tb tl p) by rw [n_le (by omega) (by omega)]; omega), if_pos (show inb (nI (bl tb tl p)) 120 = true by rw [inb_nI (by omega)]; exact decide_eq_true (by omega)), rf_298_6, ix_nI (by omega), hT.2.1 _ q1]
      by_cases q2 : tb (bl tb tl p) = 40
      · rw [if_pos (show nI (tb (bl tb tl p)) = 40 by rw [q2]; rfl), if_pos ⟨q1, q2⟩]
        simp only [bnE]
        have hYI : YI 0 0 0 gf td := ⟨hI, by omega, Or.inl ⟨rfl, hP⟩⟩
        have hT2 := TM_at hT (bl tb tl p + 1)
        obtain ⟨c1, c2, c3⟩ := bl_le (tb := tb) (tl := tl) (p := bl tb tl p + 1) (by omega)
        rw [show (nI (bl tb tl p) + 1 : Int32) = nI (bl tb tl p + 1) from nI_1 _, f_X6_readsCycle, if_pos kd_298, blanksM htl htb hT2 (by omega), cb_some, up_up]
        obtain ⟨σ1, w1, w2, w3⟩ := cyM htl htb hb 14 0 0 0 gf td (bl tb tl p + 1) (up σ 298 11 (nI (bl tb tl (bl tb tl p + 1)))) FU (-1) (-1) (by omega) hYI (by omega) (TM_at hT _) (fun s hs => by rw [ux_o _ _ _ _ (by omega)]; exact hR s hs) (fun _ => ⟨rfl, rfl⟩) (fun h => absurd h (Nat.not_lt_zero _)) (FU_gt (by omega))
        have w2' : f_X6_readsCycle_11 FU 298 (nI b) (-1) (-1) 0 (up σ 298 11 (nI (bl tb tl (bl tb tl p + 1)))) = some (bI (cy tb tl 14 0 0 0 gf td (bl tb tl p + 1)).1.isSome, σ1) := w2
        rw [w2', cb_some]
        cases hcy : cy tb tl 14 0 0 0 gf td (bl tb tl p + 1) with
        | mk o e =>
          rw [hcy] at w3
          cases o with
          | none =>
            rw [if_pos (bN e)]
            exact ⟨σ1, FM_trans (FM_up b σ (Or.inl rfl) _) w1, rfl, w3⟩
          | some g2 =>
            obtain ⟨g3, t3⟩ := g2
            obtain ⟨w3, w4⟩ := w3
            obtain ⟨r1, r2, r3, r4, r5⟩ := cy_ok tb tl _ _ _ _ _ _ _ _ _ _ hYI (by omega) hcy
            rw [if_neg (bS (g3, t3) e), blanksM htl htb w3 r5, cb_some]
            obtain ⟨σ2, z1, z2, z3⟩ := ih (m + 1) g3 t3 e (up σ1 298 11 (nI (bl tb tl e))) F (by omega) (by omega) r1 r2 r5 (TM_at w3 _) (fun s hs => by rw [ux_o _ _ _ _ (by omega)]; exact w4 s hs) (by omega)
            exact ⟨σ2, FM_trans (FM_trans (FM_trans (FM_up b σ (Or.inl rfl) _) w1) (FM_up b σ1 (Or.inl rfl) _)) z1, z2, z3⟩
      · rw [if_neg (show ¬ nI (tb (bl tb tl p)) = 40 by rw [show (40 : Int32) = nI 40 from rfl, n_eq (by omega) (by omega)]; exact q2)]
        exact stop (fun z => q2 z.2)
    · rw [if_pos (show nI tl ≤ nI (bl tb tl p) by rw [n_le (by omega) (by omega)]; omega)]
      exact stop (fun z => q1 z.1)
theorem rcsM {tl : Nat} {tb : Nat → Nat} (htl : tl ≤ 120) (htb : ∀ i, i < tl → tb i < 128) {b : Nat} (hb : b + 13 ≤ 1560) {p : Nat} {σ : Sg} (hT : TM σ tl tb p) (hp : p ≤ tl) : ∃ σ', CsM b σ σ' tl tb (cs tb tl 13 (fun s => s) (fun _ => false) p) (f_X6_readsCycles 298 (nI b) σ) := by
  rw [f_X6_readsCycles, if_pos kd_298]
  have key := loopI (fun n j τ => f_X6_readsCycles_2 n 298 (nI b) (nI j) τ) (fun j τ => FM b σ τ ∧ TM τ tl tb p ∧ ∀ s, s < j → τ 306 (b + 1 + s) = -1) (fun q => CsM b σ q.2 tl tb (cs tb tl 13 (fun s => s) (fun _ => false) p) (some q)) 12 ?_ ?_ FU 0 σ (by omega) (FU_gt (by omega)) ⟨FM_refl b σ, hT, fun s hs => absurd hs (Nat.not_lt_zero _)⟩
  · obtain ⟨⟨a, τ'⟩, e, h2⟩ := key
    have e' : f_X6_readsCycles_2 FU 298 (nI b) 0 σ = some (a, τ') := e
    rw [e']
    exact ⟨τ', h2⟩
  · intro n τ hI
    obtain ⟨i1, i2, i4⟩ := hI
    try dsimp only
    rw [f_X6_readsCycles_2, if_pos kd_298, if_pos (by decide), blanksM htl htb i2 hp, cb_some]
    obtain ⟨σ2, z1, z2, z3⟩ := csM htl htb hb 13 0 (fun s => s) (fun _ => false) p (up τ 298 11 (nI (bl tb tl p))) FU (by omega) (by omega) ⟨fun i hi => hi, fun i hi j hj e => e⟩ (fun s hs _ => rfl) hp (TM_at i2 _) (fun s hs => by rw [ux_o _ _ _ _ (by omega), if_neg (by simp)]; exact i4 s hs) (FU_gt (by omega))
    exact ⟨_, z2, FM_trans i1 (FM_trans (FM_up b τ (Or.inl rfl) _) z1), rfl, z3⟩
  · intro n j τ hj hI
    obtain ⟨i1, i2, i4⟩ := hI
    refine stp (s' := up τ 306 (b + 1 + j) (-1)) ?_ ⟨FM_trans i1 (FM_row b _ (by omega) _), TM_row i2 _ _, fun s hs => ?_⟩
    · try dsimp only
      rw [f_X6_readsCycles_2, if_pos kd_298, if_neg (by rw [show (12 : Int32) = nI 12 from rfl, n_le (by omega) (by omega)]; omega), show (nI b + 1 : Int32) = nI (b + 1) from nI_1 _, nI_add, if_pos (by rw [inb_nI (by omega)]; exact decide_eq_true (by omega))]
      simp only [bnE]
      rw [rf_298_9, ix_nI (by omega), show (nI j + 1 : Int32) = nI (j + 1) from nI_1 _]
    · by_cases e : s = j
      · rw [e, ux_s]
      · rw [ux_n _ _ _ (by omega)]; exact i4 s (by omega)
def NsM (b : Nat) (σ : Sg) (tl : Nat) (tb : Nat → Nat) (w : Nat) (r : Option (Nat → Nat) × Nat) (v : Option (Int32 × Sg)) : Prop := match r.1 with
  | some g => ∃ σ' F, FM b σ σ' ∧ v = f_X6_readsOrder_74 (F + 1) 298 (nI b) (nI w) (nI w) σ' ∧ TM σ' tl tb r.2 ∧ ∀ j, j < w → σ' 306 (b + 1 + j) = nI (g j)
  | none => ∃ σ', FM b σ σ' ∧ v = some (0, σ') ∧ σ' 298 12 = nI r.2
theorem nsM {tl : Nat} {tb : Nat → Nat} (htl : tl ≤ 120) (htb : ∀ i, i < tl → tb i < 128) {b : Nat} (hb : b + 13 ≤ 1560) : ∀ m i ns p (σ : Sg) F, i + m ≤ 3 → TM σ tl tb p → p ≤ tl → (∀ j, j < i → σ 306 (b + 1 + j) = nI (ns j)) → m < F → NsM b σ tl tb (i + m) (nsF tb tl m i ns p) (f_X6_readsOrder_74 F 298 (nI b) (nI (i + m)) (nI i) σ) := by
  intro m
  induction m with
  | zero =>
    intro i ns p σ F h1 hT hp hj hF
    obtain ⟨F, rfl⟩ : ∃ z, F = z + 1 := ⟨F - 1, by omega⟩
    rw [nsF]
    exact ⟨σ, F, FM_refl b σ, rfl, hT, fun j h => hj j (by omega)⟩
  | succ m ih =>
    intro i ns p σ F h1 hT hp hj hF
    obtain ⟨F, rfl⟩ : ∃ z, F = z + 1 := ⟨F - 1, by omega⟩
    obtain ⟨u1, u2⟩ := numM htl htb hT hp
    obtain ⟨n1, n2⟩ := nm_le (tb := tb) hp
    rw [f_X6_readsOrder_74, if_pos kd_298, if_neg (by rw [n_le (by omega) (by omega)]; omega), nsF]
    cases hnm : nm tb tl p with
    | mk o e =>
      rw [hnm] at n1 n2
      cases o with
      | none =>
        obtain ⟨y, u3⟩ := u2 e hnm
        rw [u3, cb_some, if_pos rfl]
        exact ⟨_, FM_trans (FM_trans (FM_up b σ (Or.inl rfl) _) (FM_up b _ (Or.inr (Or.inr rfl)) _)) (FM_up b _ (Or.inr (Or.inl rfl)) _), rfl, ux_s _ _ _ _⟩
      | some x =>
        dsimp only at n1 n2
        have hx := (n2 x rfl).1
        rw [u1 x e hnm, cb_some, if_neg (by decide), show (nI b + 1 : Int32) = nI (b + 1) from nI_1 _, nI_add, if_pos (by rw [inb_nI (by omega)]; exact decide_eq_true (by omega))]
        simp only [bnE]
        rw [rf_298_9, ix_nI (by omega), ux_s, show (nI i + 1 : Int32) = nI (i + 1) from nI_1 _, show i + (m + 1) = i + 1 + m by omega]
        have gT : TM (up (up σ 298 11 (nI e)) 298 13 (nI x)) tl tb e := ⟨by rw [ux_n _ _ _ (by omega), ux_n _ _ _ (by omega)]; exact hT.1, fun i hi => by rw [ux_o _ _ _ _ (by omega), ux_o _ _ _ _ (by omega)]; exact hT.2.1 i hi, by rw [ux_n _ _ _ (by omega), ux_s]⟩
        have z := ih (i + 1) (fu ns i x) e (up (up (up σ 298 11 (nI e)) 298 13 (nI x)) 306 (b + 1 + i) (nI x)) F (by omega) (TM_row gT _ _) n1 (fun j h => by
          by_cases e2 : j = i
          · rw [e2, ux_s, fu_s]
          · rw [ux_n _ _ _ (by omega), fu_n _ _ e2, ux_o _ _ _ _ (by omega), ux_o _ _ _ _ (by omega)]; exact hj j (by omega)) (by omega)
        have hfr : FM b σ (up (up (up σ 298 11 (nI e)) 298 13 (nI x)) 306 (b + 1 + i) (nI x)) := FM_trans (FM_trans (FM_up b σ (Or.inl rfl) _) (FM_up b _ (Or.inr (Or.inr rfl)) _)) (FM_row b _ (by omega) _)
        unfold NsM at z ⊢
        try dsimp only
        revert z
        cases (nsF tb tl m (i + 1) (fu ns i x) e).1 with
        | none => exact fun ⟨σ', z1, z2, z3⟩ => ⟨σ', FM_trans hfr z1, z2, z3⟩
        | some g => exact fun ⟨σ', F', z1, z2, z3⟩ => ⟨σ', F', FM_trans hfr z1, z2, z3⟩
theorem end74 {tl : Nat} {tb : Nat → Nat} (htl : tl ≤ 120) (htb : ∀ i, i < tl → tb i < 128) {b w F k e : Nat} {σ : Sg} (hT : TM σ tl tb e) (he : e ≤ tl) (hk : σ 298 10 = nI k) : f_X6_readsOrder_74 (F + 1) 298 (nI b) (nI w) (nI w) σ = if bl tb tl e < tl ∧ tb (bl tb tl e) = 59 then some (1, up (up σ 298 11 (nI (bl tb tl e + 1))) 298 10 (nI (k + 1))) else some (0, up (up σ 298 11 (nI (bl tb tl e))) 298 12 (nI (bl tb tl e))) := by
  obtain ⟨b1, b2, b3⟩ := bl_le (tb := tb) he
  have hT2 := TM_at hT (bl tb tl e)
  have e59 := by0_eq htb (bl tb tl e) 59 (by omega) (by omega)
  rw [f_X6_readsOrder_74, if_pos kd_298, if_pos (Int32.le_refl _), blanksM htl htb hT he, cb_some, ux_s, byteM htl hT2 (by omega), cb_some]
  by_cases q : bl tb tl e < tl ∧ tb (bl tb tl e) = 59
  · rw [if_pos (show nI (by0 tb tl (bl tb tl e)) = 59 from e59.mpr q), if_pos q]
    simp only [bnE]
    rw [ux_s, show (nI (bl tb tl e) + 1 : Int32) = nI (bl tb tl e + 1) from nI_1 _, up_up, ux_n _ _ _ (by omega), hk, show (nI k + 1 : Int32) = nI (k + 1) from nI_1 _]
  · rw [if_neg (show ¬ nI (by0 tb tl (bl tb tl e)) = 59 from fun z => q (e59.mp z)), if_neg q, ux_s, failM, cb_some, if_pos (Or.inl rfl)]
def OR (σ : Sg) (b : Nat) (o : Od) : Prop := σ 306 b = nI o.1 ∧ (o.1 ≠ 107 → ∀ w, nb o.1 = some w → ∀ j, j < w → σ 306 (b + 1 + j) = nI (o.2.1 j)) ∧ (o.1 = 107 → RowG σ b o.2.2)
def QM (k : Nat) (σ σ' : Sg) : Prop := (∀ i, i ≠ 10 → i ≠ 11 → i ≠ 12 → i ≠ 13 → σ' 298 i = σ 298 i) ∧ (∀ c, c ≠ 298 → c ≠ 306 → σ' c = σ c) ∧ ∀ i, i < 13 * k → σ' 306 i = σ 306 i
theorem QM_trans {k k' : Nat} (hk : k ≤ k') {x y z : Sg} (h1 : QM k x y) (h2 : QM k' y z) : QM k x z := ⟨fun i p q r s => (h2.1 i p q r s).trans (h1.1 i p q r s), fun c p q => (h2.2.1 c p q).trans (h1.2.1 c p q), fun i p => (h2.2.2 i (by omega)).trans (h1.2.2 i p)⟩
theorem QM_FM {k : Nat} {x y : Sg} (h : FM (13 * k) x y) : QM k x y := ⟨fun i p q r s => h.1 i q r s, h.2.1, fun i p => h.2.2 i (by omega)⟩
theorem QM_up (k : Nat) (σ : Sg) {i : Nat} (hi : i = 10 ∨ i = 11 ∨ i = 12 ∨ i = 13) (x : Int32) : QM k σ (up σ 298 i x) := ⟨fun j p q r s => ux_n _ _ _ (by omega), fun c p q => up_o _ _ _ _ p, fun j p => ux_o _ _ _ _ (by omega)⟩
theorem QM_row (k : Nat) (σ : Sg) {i : Nat} (hi : 13 * k ≤ i) (x : Int32) : QM k σ (up σ 306 i x) := ⟨fun j p q r s => ux_o _ _ _ _ (by omega), fun c p q => up_o _ _ _ _ q, fun j p => ux_n _ _ _ (by omega)⟩
theorem nbM (σ : Sg) {k : Nat} (hk : k < 128) : f_X6_numbersOf (nI k) σ = some (nbO (nb k), σ) := by
  have ne : ∀ c, c < 128 → k ≠ c → ¬ nI k = nI c := fun c hc h => by rw [n_eq (by omega) (by omega)]; exact h
  by_cases h1 : k = 117
  · subst h1; rfl
  by_cases h2 : k = 119
  · subst h2; rfl
  by_cases h3 : k = 100
  · subst h3; rfl
  by_cases h4 : k = 103
  · subst h4; rfl
  by_cases h5 : k = 112
  · subst h5; rfl
  by_cases h6 : k = 107
  · subst h6; rfl
  rw [f_X6_numbersOf, if_neg (show ¬ nI k = 117 from ne 117 (by omega) h1), if_neg (show ¬ nI k = 119 from ne 119 (by omega) h2), if_neg (show ¬ nI k = 100 from ne 100 (by omega) h3), if_neg (show ¬ nI k = 103 from ne 103 (by omega) h4), if_neg (show ¬ nI k = 112 from ne 112 (by omega) h5), if_neg (show ¬ nI k = 107 from ne 107 (by omega) h6)]
  have : nb k = none := by unfold nb; rw [if_neg h6, if_neg (by omega), if_neg h3, if_neg (by omega)]
  rw [this]
  rfl
def OdM (k : Nat) (σ σ' : Sg) (tl : Nat) (tb : Nat → Nat) (r : Option Od × Nat) (v : Option (Int32 × Sg)) : Prop := QM k σ σ' ∧ v = some (bI r.1.isSome, σ') ∧ match r.1 with
  | some o => TM σ' tl tb r.2 ∧ OR σ' (13 * k) o ∧ σ' 298 10 = nI (k + 1)
  | none => σ' 298 12 = nI r.2
theorem odM {tl : Nat} {tb : Nat → Nat} (htl : tl ≤ 120) (htb : ∀ i, i < tl → tb i < 128) {p k : Nat} {σ : Sg} (hT : TM σ tl tb (bl tb tl p)) (hp : p ≤ tl) (hk : σ 298 10 = nI k) (hk2 : k ≤ 60) : ∃ σ', OdM k σ σ' tl tb (od tb tl p) (f_X6_readsOrder 298 σ) := by
  obtain ⟨b1, b2, b3⟩ := bl_le (tb := tb) hp
  have hb0 := by0_lt htb (bl tb tl p)
  rw [f_X6_readsOrder, if_pos kd_298]
  simp only [bnE]
  rw [hk, show (13 : Int32) = nI 13 from rfl, pk_mul, hT.2.2, byteM htl hT (by omega), cb_some, nbM σ hb0, cb_some]
  have bad : nb (by0 tb tl (bl tb tl p)) = none → ∃ σ', OdM k σ σ' tl tb (none, bl tb tl p) (cb (f_X6_fails 298 (σ 298 11) σ) (fun a12 τ13 => if a12 = 0 ∨ a12 = 1 then some (a12, τ13) else none)) := by
    intro h
    rw [failM, cb_some, if_pos (Or.inl rfl), hT.2.2]
    exact ⟨_, QM_up k σ (Or.inr (Or.inr (Or.inl rfl))) _, rfl, ux_s _ _ _ _⟩
  unfold od
  by_cases q : bl tb tl p < tl
  · have ey : by0 tb tl (bl tb tl p) = tb (bl tb tl p) := by unfold by0; rw [if_pos q]
    have hkt := htb _ q
    rw [ey] at bad ⊢
    rw [if_pos q]
    cases hw : nb (tb (bl tb tl p)) with
    | none =>
      have z := bad hw
      rw [if_neg (show ¬ 0 ≤ nbO none by decide)]
      exact z
    | some w =>
      obtain ⟨w3, wk⟩ := nb_le hw
      rw [if_pos (show 0 ≤ nbO (some w) from ge0 (by omega)), hT.2.2, if_pos (by rw [inb_nI (by omega)]; exact decide_eq_true (by omega)), if_pos (by rw [inb_nI (by omega)]; exact decide_eq_true (by omega)), rf_298_6, rf_298_9, ix_nI (by omega), ix_nI (by omega), hT.2.1 _ q, ux_o _ _ _ _ (by omega), hT.2.2, show (nI (bl tb tl p) + 1 : Int32) = nI (bl tb tl p + 1) from nI_1 _]
      have hT3 : TM (up (up σ 306 (13 * k) (nI (tb (bl tb tl p)))) 298 11 (nI (bl tb tl p + 1))) tl tb (bl tb tl p + 1) := TM_at (TM_row hT _ _) _
      have h3r : (up (up σ 306 (13 * k) (nI (tb (bl tb tl p)))) 298 11 (nI (bl tb tl p + 1))) 306 (13 * k) = nI (tb (bl tb tl p)) := by rw [ux_o _ _ _ _ (by omega), ux_s]
      have h3k : (up (up σ 306 (13 * k) (nI (tb (bl tb tl p)))) 298 11 (nI (bl tb tl p + 1))) 298 10 = nI k := by rw [ux_n _ _ _ (by omega), ux_o _ _ _ _ (by omega)]; exact hk
      have hQ3 : QM k σ (up (up σ 306 (13 * k) (nI (tb (bl tb tl p)))) 298 11 (nI (bl tb tl p + 1))) := QM_trans (Nat.le_refl _) (QM_row k σ (Nat.le_refl _) _) (QM_up k _ (Or.inr (Or.inl rfl)) _)
      generalize (up (up σ 306 (13 * k) (nI (tb (bl tb tl p)))) 298 11 (nI (bl tb tl p + 1))) = σ3 at hT3 h3r h3k hQ3 ⊢
      try dsimp only
      unfold bd
      -- the end: a ;
      have fin : ∀ (o : Od) (e F : Nat) (σ4 : Sg), FM (13 * k) σ3 σ4 → TM σ4 tl tb e → e ≤ tl → OR σ4 (13 * k) o → ∃ σ', OdM k σ σ' tl tb (if bl tb tl e < tl ∧ tb (bl tb tl e) = 59 then (some o, bl tb tl e + 1) else (none, bl tb tl e)) (f_X6_readsOrder_74 (F + 1) 298 (nI (13 * k)) (nI w) (nI w) σ4) := by
        intro o e F σ4 z1 z2 z3 z4
        have h4k : σ4 298 10 = nI k := by rw [z1.1 10 (by omega) (by omega) (by omega)]; exact h3k
        rw [end74 htl htb z2 z3 h4k]
        by_cases q3 : bl tb tl e < tl ∧ tb (bl tb tl e) = 59
        · rw [if_pos q3, if_pos q3]
          have hrow : (up (up σ4 298 11 (nI (bl tb tl e + 1))) 298 10 (nI (k + 1))) 306 = σ4 306 := by rw [up_o _ _ _ _ (by omega), up_o _ _ _ _ (by omega)]
          refine ⟨_, QM_trans (Nat.le_refl _) (QM_trans (Nat.le_refl _) hQ3 (QM_FM z1)) (QM_trans (Nat.le_refl _) (QM_up k _ (Or.inr (Or.inl rfl)) _) (QM_up k _ (Or.inl rfl) _)), rfl, ⟨?_, ?_, ?_⟩, ?_, ux_s _ _ _ _⟩
          · rw [ux_n _ _ _ (by omega), ux_n _ _ _ (by omega)]; exact z2.1
          · intro i hi; rw [ux_o _ _ _ _ (by omega), ux_o _ _ _ _ (by omega)]; exact z2.2.1 i hi
          · rw [ux_n _ _ _ (by omega), ux_s]
          · unfold OR RowG at z4 ⊢
            rw [hrow]
            exact z4
        · rw [if_neg q3, if_neg q3]
          exact ⟨_, QM_trans (Nat.le_refl _) (QM_trans (Nat.le_refl _) hQ3 (QM_FM z1)) (QM_trans (Nat.le_refl _) (QM_up k _ (Or.inr (Or.inl rfl)) _) (QM_up k _ (Or.inr (Or.inr (Or.inl rfl))) _)), rfl, ux_s _ _ _ _⟩
      have e72 : ∀ τ, f_X6_readsOrder_72 298 (nI (13 * k)) (nbO (some w)) τ = f_X6_readsOrder_74 FU 298 (nI (13 * k)) (nI w) (nI 0) τ := fun τ => by rw [f_X6_readsOrder_72, if_pos kd_298]; rfl
      by_cases q2 : tb (bl tb tl p) = 107
      · have hw0 : w = 0 := wk.mp q2
        subst hw0
        rw [if_pos (show nbO (some 0) = 0 from rfl), if_pos q2]
        obtain ⟨σ4, z1, z2, z3⟩ := rcsM htl htb (b := 13 * k) (by omega) hT3 (by omega)
        rw [z2, cb_some]
        cases hcs : cs tb tl 13 (fun s => s) (fun _ => false) (bl tb tl p + 1) with
        | mk o e =>
          rw [hcs] at z3
          cases o with
          | none =>
            rw [if_pos (bN e)]
            exact ⟨σ4, QM_trans (Nat.le_refl _) hQ3 (QM_FM z1), rfl, z3⟩
          | some g =>
            obtain ⟨y1, y2⟩ := z3
            obtain ⟨r1, r2, r3⟩ := cs_ok tb tl _ _ _ _ _ _ ⟨fun i hi => hi, fun i hi j hj e => e⟩ (fun s hs _ => rfl) (by omega) hcs
            rw [if_neg (bS g e), e72]
            try dsimp only
            exact fin (107, fun _ => 0, g) e 99999 σ4 z1 y1 r3 ⟨by rw [z1.2.2 (13 * k) (by omega), h3r, q2], fun z => absurd rfl z, fun _ => y2⟩
      · have hw0 : w ≠ 0 := fun z => q2 (wk.mpr z)
        rw [if_neg (show ¬ nbO (some w) = 0 by show ¬ nI w = nI 0; rw [n_eq (by omega) (by omega)]; exact hw0), if_neg q2, e72]
        have z := nsM htl htb (b := 13 * k) (by omega) w 0 (fun _ => 0) (bl tb tl p + 1) σ3 FU (by omega) hT3 (by omega) (fun j h => absurd h (Nat.not_lt_zero _)) (FU_gt (by omega))
        rw [Nat.zero_add] at z
        cases hcs : nsF tb tl w 0 (fun _ => 0) (bl tb tl p + 1) with
        | mk o e =>
          rw [hcs] at z
          cases o with
          | none =>
            obtain ⟨σ4, z1, z2, z3⟩ := z
            rw [z2]
            exact ⟨σ4, QM_trans (Nat.le_refl _) hQ3 (QM_FM z1), rfl, z3⟩
          | some g =>
            obtain ⟨σ4, F', z1, z2, z3, z4⟩ := z
            obtain ⟨r1, r2, r3⟩ := nsF_ok tb tl _ _ _ _ _ _ (by omega) hcs
            rw [z2]
            try dsimp only
            refine fin (tb (bl tb tl p), g, fun s => s) e F' σ4 z1 z3 r2 ⟨by rw [z1.2.2 (13 * k) (by omega), h3r], fun _ w' hw' j hj => ?_, fun z => absurd z q2⟩
            have ew : w' = w := by
              have hw2 : nb (tb (bl tb tl p)) = some w' := hw'
              rw [hw] at hw2
              exact (Option.some.inj hw2).symm
            exact z4 j (by omega)
  · have ey : by0 tb tl (bl tb tl p) = 0 := by unfold by0; rw [if_neg q]
    have z := bad (by rw [ey]; rfl)
    rw [ey, if_neg (show ¬ 0 ≤ nbO (nb 0) by decide), if_neg q]
    exact z
def OL (σ : Sg) : Nat → List Od → Prop
  | _, [] => True
  | k, o :: l => OR σ (13 * k) o ∧ OL σ (k + 1) l
theorem OR_loc {σ σ' : Sg} {b : Nat} {o : Od} (h : OR σ b o) (ho : Ok o) (e : ∀ i, b ≤ i → i < b + 13 → σ' 306 i = σ 306 i) : OR σ' b o := by
  obtain ⟨h1, h2, h3⟩ := h
  refine ⟨by rw [e b (by omega) (by omega)]; exact h1, fun z w hw j hj => ?_, fun z s hs => ?_⟩
  · have := (nb_le hw).1
    rw [e _ (by omega) (by omega)]
    exact h2 z w hw j hj
  · rw [e _ (by omega) (by omega)]
    exact h3 z s hs
def RdM (k : Nat) (σ σ' : Sg) (r : Option (List Od) × Nat) (v : Option (Int32 × Sg)) : Prop := QM k σ σ' ∧ v = some (bI r.1.isSome, σ') ∧ match r.1 with
  | some l => OL σ' k l ∧ σ' 298 10 = nI (k + l.length)
  | none => σ' 298 12 = nI r.2
theorem rdM {tl : Nat} {tb : Nat → Nat} (htl : tl ≤ 120) (htb : ∀ i, i < tl → tb i < 128) : ∀ f k p (σ : Sg) F, f + k = 62 → 2 * k ≤ p → p ≤ tl → TM σ tl tb (bl tb tl p) → σ 298 10 = nI k → f < F → ∃ σ', RdM k σ σ' (rd tb tl f p) (f_X6_reads_32 (f_X6_reads_14 F) 298 σ) := by
  intro f
  induction f with
  | zero => intro k p σ F h1 h2 h3; omega
  | succ f ih =>
    intro k p σ F hfm h2 hp hT hk hF
    obtain ⟨F, rfl⟩ : ∃ z, F = z + 1 := ⟨F - 1, by omega⟩
    obtain ⟨σ1, o1, o2, o3⟩ := odM htl htb hT hp hk (by omega)
    rw [f_X6_reads_32, if_pos kd_298, o2, cb_some, rd]
    cases hod : od tb tl p with
    | mk o e =>
      rw [hod] at o3
      cases o with
      | none =>
        rw [if_pos (bN e)]
        exact ⟨σ1, o1, rfl, o3⟩
      | some o =>
        obtain ⟨t1, t2, t3⟩ := o3
        obtain ⟨k1, k2, k3, k4, k5⟩ := od_ok hp hod
        obtain ⟨c1, c2, c3⟩ := bl_le (tb := tb) k5
        rw [if_neg (bS o e), blanksM htl htb t1 k5, cb_some, f_X6_reads_14, if_pos kd_298]
        have hT2 := TM_at t1 (bl tb tl e)
        have hk2 : (up σ1 298 11 (nI (bl tb tl e))) 298 10 = nI (k + 1) := by rw [ux_n _ _ _ (by omega)]; exact t3
        have hOR : OR (up σ1 298 11 (nI (bl tb tl e))) (13 * k) o := OR_loc t2 k1 (fun i _ _ => ux_o _ _ _ _ (by omega))
        have hQ : QM k σ (up σ1 298 11 (nI (bl tb tl e))) := QM_trans (Nat.le_refl _) o1 (QM_up k _ (Or.inr (Or.inl rfl)) _)
        generalize up σ1 298 11 (nI (bl tb tl e)) = σ2 at hT2 hk2 hOR hQ ⊢
        rw [hT2.1, hT2.2.2, hk2]
        try dsimp only
        by_cases q : bl tb tl e < tl
        · rw [if_pos (show nI (bl tb tl e) < nI tl by rw [n_lt (by omega) (by omega)]; exact q), if_pos q]
          obtain ⟨σ3, z1, z2, z3⟩ := ih (k + 1) e σ2 F (by omega) (by omega) k5 hT2 hk2 (by omega)
          refine ⟨σ3, QM_trans (by omega) hQ z1, ?_, ?_⟩
          · rw [z2]
            cases rd tb tl f e with
            | mk l e' => cases l <;> rfl
          · cases hr : rd tb tl f e with
            | mk l e' =>
              rw [hr] at z3
              cases l with
              | none => exact z3
              | some l =>
                obtain ⟨z3, z4⟩ := z3
                refine ⟨⟨OR_loc hOR k1 (fun i h h' => z1.2.2 i (by omega)), z3⟩, ?_⟩
                rw [z4, show k + 1 + l.length = k + (o :: l).length by rw [List.length_cons]; omega]
        · rw [if_neg (show ¬ nI (bl tb tl e) < nI tl by rw [n_lt (by omega) (by omega)]; exact q), if_neg (show ¬ nI (k + 1) = 0 by show ¬ nI (k + 1) = nI 0; rw [n_eq (by omega) (by omega)]; omega), if_neg q]
          exact ⟨σ2, hQ, rfl, ⟨hOR, trivial⟩, hk2⟩
theorem rdM0 {tl : Nat} {tb : Nat → Nat} (htl : tl ≤ 120) (htb : ∀ i, i < tl → tb i < 128) {σ : Sg} (h1 : σ 298 5 = nI tl) (h2 : ∀ i, i < tl → σ 303 i = nI (tb i)) : ∃ σ', RdM 0 σ σ' (rd tb tl 62 0) (f_X6_reads 298 σ) := by
  have hT : TM (up (up σ 298 11 0) 298 10 0) tl tb 0 := ⟨by rw [ux_n _ _ _ (by omega), ux_n _ _ _ (by omega)]; exact h1, fun i hi => by rw [ux_o _ _ _ _ (by omega), ux_o _ _ _ _ (by omega)]; exact h2 i hi, by rw [ux_n _ _ _ (by omega), ux_s]; rfl⟩
  obtain ⟨m, hm⟩ : ∃ m, FU = m + 1 ∧ 62 < m := ⟨FU - 1, by have := FU_gt (show 64 < 100000 by omega); omega⟩
  obtain ⟨hm, hm2⟩ := hm
  rw [f_X6_reads, if_pos kd_298]
  simp only [bnE]
  rw [blanksM htl htb hT (by omega), cb_some, hm, f_X6_reads_14, if_pos kd_298]
  have hQ : QM 0 σ (up (up (up σ 298 11 0) 298 10 0) 298 11 (nI (bl tb tl 0))) := QM_trans (Nat.le_refl _) (QM_trans (Nat.le_refl _) (QM_up 0 _ (Or.inr (Or.inl rfl)) _) (QM_up 0 _ (Or.inl rfl) _)) (QM_up 0 _ (Or.inr (Or.inl rfl)) _)
  have hk : (up (up (up σ 298 11 0) 298 10 0) 298 11 (nI (bl tb tl 0))) 298 10 = nI 0 := by rw [ux_n _ _ _ (by omega), ux_s]; rfl
  have hT2 := TM_at hT (bl tb tl 0)
  generalize up (up (up σ 298 11 0) 298 10 0) 298 11 (nI (bl tb tl 0)) = σ2 at hT2 hk hQ ⊢
  rw [hk, if_pos (show nI 0 = 0 from rfl), show (if σ2 298 11 < σ2 298 5 then f_X6_reads_32 (f_X6_reads_14 m) 298 σ2 else f_X6_reads_32 (f_X6_reads_14 m) 298 σ2) = f_X6_reads_32 (f_X6_reads_14 m) 298 σ2 by split <;> rfl]
  obtain ⟨σ3, z1, z2, z3⟩ := rdM htl htb 62 0 0 σ2 m (by omega) (by omega) (by omega) hT2 hk hm2
  exact ⟨σ3, QM_trans (Nat.le_refl _) hQ z1, z2, z3⟩
