/-! a text of orders read -/
def blF (tb : Nat → Nat) (tl : Nat) : Nat → Nat → Nat
  | 0, p => p
  | n + 1, p => if p < tl ∧ tb p = 32 then blF tb tl n (p + 1) else p
def bl (tb : Nat → Nat) (tl p : Nat) : Nat := blF tb tl (tl - p) p
theorem bl_step {tb : Nat → Nat} {tl p : Nat} (h : p < tl ∧ tb p = 32) : bl tb tl p = bl tb tl (p + 1) := by
  unfold bl
  rw [show tl - p = (tl - (p + 1)) + 1 by omega, blF, if_pos h]
theorem bl_stop {tb : Nat → Nat} {tl p : Nat} (h : ¬ (p < tl ∧ tb p = 32)) : bl tb tl p = p := by
  unfold bl
  cases tl - p with
  | zero => rfl
  | succ n => rw [blF, if_neg h]
theorem blF_le (tb : Nat → Nat) (tl : Nat) : ∀ n p, p ≤ tl → n = tl - p → p ≤ blF tb tl n p ∧ blF tb tl n p ≤ tl ∧ ¬ (blF tb tl n p < tl ∧ tb (blF tb tl n p) = 32) := by
  intro n
  induction n with
  | zero => intro p h1 h2; rw [blF]; exact ⟨Nat.le_refl _, h1, by omega⟩
  | succ n ih =>
    intro p h1 h2
    rw [blF]
    by_cases h : p < tl ∧ tb p = 32
    · rw [if_pos h]
      obtain ⟨a, b, c⟩ := ih (p + 1) (by omega) (by omega)
      exact ⟨by omega, b, c⟩
    · rw [if_neg h]; exact ⟨Nat.le_refl _, h1, h⟩
theorem bl_le {tb : Nat → Nat} {tl p : Nat} (h : p ≤ tl) : p ≤ bl tb tl p ∧ bl tb tl p ≤ tl ∧ ¬ (bl tb tl p < tl ∧ tb (bl tb tl p) = 32) := blF_le tb tl _ p h rfl
theorem bl_bl {tb : Nat → Nat} {tl p : Nat} (h : p ≤ tl) : bl tb tl (bl tb tl p) = bl tb tl p := bl_stop (bl_le h).2.2
def fg (tb : Nat → Nat) (tl p : Nat) : Bool := decide (p < tl) && (decide (48 ≤ tb p) && decide (tb p ≤ 57))
theorem fg_iff {tb : Nat → Nat} {tl p : Nat} : fg tb tl p = true ↔ p < tl ∧ 48 ≤ tb p ∧ tb p ≤ 57 := by
  unfold fg
  simp
/-- a number: its value and where it ends, or where it can't be read -/
def nm (tb : Nat → Nat) (tl p : Nat) : Option Nat × Nat := if fg tb tl (bl tb tl p) then (if fg tb tl (bl tb tl p + 1) then (if fg tb tl (bl tb tl p + 2) then (none, bl tb tl p + 2) else (some (10 * (tb (bl tb tl p) - 48) + (tb (bl tb tl p + 1) - 48)), bl tb tl p + 2)) else (some (tb (bl tb tl p) - 48), bl tb tl p + 1)) else (none, bl tb tl p)
theorem nm_le {tb : Nat → Nat} {tl p : Nat} (h : p ≤ tl) : (nm tb tl p).2 ≤ tl ∧ ∀ x, (nm tb tl p).1 = some x → x < 100 ∧ bl tb tl p < (nm tb tl p).2 := by
  obtain ⟨a, b, c⟩ := bl_le (tb := tb) h
  unfold nm
  by_cases h1 : fg tb tl (bl tb tl p) = true
  · rw [if_pos h1]
    have q1 := fg_iff.mp h1
    by_cases h2 : fg tb tl (bl tb tl p + 1) = true
    · rw [if_pos h2]
      have q2 := fg_iff.mp h2
      by_cases h3 : fg tb tl (bl tb tl p + 2) = true
      · rw [if_pos h3]
        have q3 := fg_iff.mp h3
        exact ⟨by dsimp only; omega, fun x hx => by cases hx⟩
      · rw [if_neg h3]
        exact ⟨by dsimp only; omega, fun x hx => by dsimp only at hx ⊢; cases hx; omega⟩
    · rw [if_neg h2]
      exact ⟨by dsimp only; omega, fun x hx => by dsimp only at hx ⊢; cases hx; omega⟩
  · rw [if_neg h1]
    exact ⟨b, fun x hx => by cases hx⟩
/-- a cycle: its spots so far n, its first and last spot, where spots go, which are told -/
def cy (tb : Nat → Nat) (tl : Nat) : Nat → Nat → Nat → Nat → (Nat → Nat) → (Nat → Bool) → Nat → Option ((Nat → Nat) × (Nat → Bool)) × Nat
  | 0, _, _, _, _, _, _ => (none, 0)
  | f + 1, n, fi, la, gf, td, p => if bl tb tl p < tl ∧ tb (bl tb tl p) = 41 ∧ 2 ≤ n then (some (fu gf la fi, td), bl tb tl p + 1) else match nm tb tl (bl tb tl p) with
    | (none, e) => (none, e)
    | (some x, e) => if 12 ≤ x ∨ td x = true then (none, bl tb tl p) else cy tb tl f (n + 1) (if n = 0 then x else fi) x (if n = 0 then gf else fu gf la x) (fun s => td s || s == x) e
def cs (tb : Nat → Nat) (tl : Nat) : Nat → (Nat → Nat) → (Nat → Bool) → Nat → Option (Nat → Nat) × Nat
  | 0, _, _, _ => (none, 0)
  | f + 1, gf, td, p => if bl tb tl p < tl ∧ tb (bl tb tl p) = 40 then (match cy tb tl 14 0 0 0 gf td (bl tb tl p + 1) with
    | (none, e) => (none, e)
    | (some (gf', td'), e) => cs tb tl f gf' td' e) else (some gf, bl tb tl p)
def nsF (tb : Nat → Nat) (tl : Nat) : Nat → Nat → (Nat → Nat) → Nat → Option (Nat → Nat) × Nat
  | 0, _, ns, p => (some ns, p)
  | m + 1, i, ns, p => match nm tb tl p with
    | (none, e) => (none, e)
    | (some x, e) => nsF tb tl m (i + 1) (fu ns i x) e
abbrev Od : Type := Nat × (Nat → Nat) × (Nat → Nat)
def nb (k : Nat) : Option Nat := if k = 107 then some 0 else if k = 103 ∨ k = 112 then some 1 else if k = 100 then some 2 else if k = 117 ∨ k = 119 then some 3 else none
def bd (tb : Nat → Nat) (tl k w p : Nat) : Option Od × Nat := if k = 107 then (match cs tb tl 13 (fun s => s) (fun _ => false) p with
    | (none, e) => (none, e)
    | (some gf, e) => (some (107, fun _ => 0, gf), e)) else (match nsF tb tl w 0 (fun _ => 0) p with
    | (none, e) => (none, e)
    | (some ns, e) => (some (k, ns, fun s => s), e))
def od (tb : Nat → Nat) (tl p : Nat) : Option Od × Nat := if bl tb tl p < tl then (match nb (tb (bl tb tl p)) with
    | none => (none, bl tb tl p)
    | some w => (match bd tb tl (tb (bl tb tl p)) w (bl tb tl p + 1) with
      | (none, e) => (none, e)
      | (some o, e) => if bl tb tl e < tl ∧ tb (bl tb tl e) = 59 then (some o, bl tb tl e + 1) else (none, bl tb tl e))) else (none, bl tb tl p)
/-- all orders from p on -/
def rd (tb : Nat → Nat) (tl : Nat) : Nat → Nat → Option (List Od) × Nat
  | 0, _ => (none, 0)
  | f + 1, p => match od tb tl p with
    | (none, e) => (none, e)
    | (some o, e) => if bl tb tl e < tl then (match rd tb tl f e with
      | (none, e') => (none, e')
      | (some l, e') => (some (o :: l), e')) else (some [o], e)
/-! what cycles keep -/
theorem Pm_sw {f : Nat → Nat} (h : Pm f) {a b : Nat} (ha : a < 12) (hb : b < 12) {f' : Nat → Nat} (h2 : ∀ s, s < 12 → f' s = f (if s = a then b else if s = b then a else s)) : Pm f' := by
  have hsw : ∀ s, s < 12 → (if s = a then b else if s = b then a else s) < 12 := fun s hs => by split; exact hb; split; exact ha; exact hs
  refine ⟨fun i hi => by rw [h2 i hi]; exact h.1 _ (hsw i hi), fun i hi j hj e => ?_⟩
  rw [h2 i hi, h2 j hj] at e
  have := h.2 _ (hsw i hi) _ (hsw j hj) e
  revert this
  repeat' split
  all_goals omega
theorem Pm_cong {f f' : Nat → Nat} (h : Pm f) (h2 : ∀ s, s < 12 → f' s = f s) : Pm f' := ⟨fun i hi => by rw [h2 i hi]; exact h.1 i hi, fun i hi j hj e => by rw [h2 i hi, h2 j hj] at e; exact h.2 i hi j hj e⟩
def YI (n fi la : Nat) (gf : Nat → Nat) (td : Nat → Bool) : Prop := (∀ s, s < 12 → td s = false → gf s = s) ∧ n ≤ cn td 12 ∧ ((n = 0 ∧ Pm gf) ∨ (0 < n ∧ fi < 12 ∧ la < 12 ∧ td fi = true ∧ td la = true ∧ Pm (fu gf la fi) ∧ ∀ s, s < 12 → gf s < 12))
theorem cn_add {td : Nat → Bool} {x : Nat} (h : td x = false) : ∀ n, x < n → cn (fun s => td s || s == x) n = cn td n + 1 := by
  intro n
  induction n with
  | zero => intro q; omega
  | succ n ih =>
    intro q
    rw [cn, cn]
    by_cases e : x = n
    · subst e
      rw [cn_cong (q := td) (fun i hi => by rw [show (i == x) = false by simp; omega, Bool.or_false]), h]
      simp
    · rw [ih (by omega), show (n == x) = false by simp; omega, Bool.or_false]
      omega
theorem YI_step {n fi la x : Nat} {gf : Nat → Nat} {td : Nat → Bool} (h : YI n fi la gf td) (hx : x < 12) (ht : td x = false) : YI (n + 1) (if n = 0 then x else fi) x (if n = 0 then gf else fu gf la x) (fun s => td s || s == x) := by
  obtain ⟨h1, h2, h3⟩ := h
  refine ⟨fun s hs q => ?_, by rw [cn_add ht 12 hx]; omega, Or.inr ⟨by omega, ?_⟩⟩
  · simp only [Bool.or_eq_false_iff, beq_eq_false_iff_ne] at q
    have q1 := h1 s hs q.1
    by_cases e : n = 0
    · rw [if_pos e]; exact q1
    · rw [if_neg e]
      rcases h3 with ⟨z, -⟩ | ⟨-, -, -, -, z, -⟩
      · exact absurd z e
      · rw [fu_n _ _ (fun e2 => by rw [e2, z] at q; cases q.1)]; exact q1
  · rcases h3 with ⟨z, hp⟩ | ⟨z, f1, l1, f2, l2, hp, hb⟩
    · rw [if_pos z, if_pos z]
      refine ⟨hx, hx, by simp, by simp, Pm_cong hp (fun s hs => ?_), hp.1⟩
      by_cases e : s = x
      · rw [e, fu_s]; exact (h1 x hx ht).symm
      · rw [fu_n _ _ e]
    · rw [if_neg (by omega), if_neg (by omega)]
      have hne : x ≠ la := fun e => by rw [e, l2] at ht; cases ht
      refine ⟨f1, hx, by simp [f2], by simp, Pm_sw hp l1 hx (fun s hs => ?_), fun s hs => ?_⟩
      · by_cases e : s = la
        · subst e
          rw [if_pos rfl, fu_n _ _ (fun q => hne q.symm), fu_s, fu_n _ _ hne]
          exact (h1 x hx ht).symm
        · rw [if_neg e]
          by_cases e2 : s = x
          · subst e2; rw [if_pos rfl, fu_s, fu_s]
          · rw [if_neg e2, fu_n _ _ e2, fu_n _ _ e, fu_n _ _ e]
      · by_cases e : s = la
        · rw [e, fu_s]; exact hx
        · rw [fu_n _ _ e]; exact hb s hs
theorem cy_ok (tb : Nat → Nat) (tl : Nat) : ∀ f n fi la gf td p gf' td' e, YI n fi la gf td → p ≤ tl → cy tb tl f n fi la gf td p = (some (gf', td'), e) → Pm gf' ∧ (∀ s, s < 12 → td' s = false → gf' s = s) ∧ cn td 12 + 2 ≤ cn td' 12 + n ∧ p < e ∧ e ≤ tl := by
  intro f
  induction f with
  | zero => intro n fi la gf td p gf' td' e hY hp h; rw [cy] at h; cases h
  | succ f ih =>
    intro n fi la gf td p gf' td' e hY hp h
    obtain ⟨b1, b2, b3⟩ := bl_le (tb := tb) hp
    rw [cy] at h
    by_cases q : bl tb tl p < tl ∧ tb (bl tb tl p) = 41 ∧ 2 ≤ n
    · rw [if_pos q] at h
      obtain ⟨q1, q2, q3⟩ := q
      have h' := Prod.mk.inj h
      have h'' := Prod.mk.inj (Option.some.inj h'.1)
      obtain ⟨y1, y2, y3⟩ := hY
      rcases y3 with ⟨z, -⟩ | ⟨z, f1, l1, f2, l2, hp', hb⟩
      · omega
      · rw [← h''.1, ← h''.2, ← h'.2]
        refine ⟨hp', fun s hs q => ?_, by omega, by omega, by omega⟩
        rw [fu_n _ _ (fun e2 => by rw [e2, l2] at q; cases q)]; exact y1 s hs q
    · rw [if_neg q] at h
      obtain ⟨n1, n2⟩ := nm_le (tb := tb) b2
      cases hn : nm tb tl (bl tb tl p) with
      | mk o e2 =>
        rw [hn] at h n1 n2
        cases o with
        | none => cases h
        | some x =>
          dsimp only at h n1 n2
          by_cases q2 : 12 ≤ x ∨ td x = true
          · rw [if_pos q2] at h; cases h
          · rw [if_neg q2] at h
            have hx : x < 12 := by omega
            have ht : td x = false := by cases e3 : td x with
              | false => rfl
              | true => exact absurd (Or.inr e3) q2
            obtain ⟨r1, r2, r3, r4, r5⟩ := ih _ _ _ _ _ _ _ _ _ (YI_step hY hx ht) n1 h
            rw [cn_add ht 12 hx] at r3
            have := (n2 x rfl).2
            rw [bl_bl hp] at this
            exact ⟨r1, r2, by omega, by omega, r5⟩
theorem cs_ok (tb : Nat → Nat) (tl : Nat) : ∀ f gf td p gf' e, Pm gf → (∀ s, s < 12 → td s = false → gf s = s) → p ≤ tl → cs tb tl f gf td p = (some gf', e) → Pm gf' ∧ p ≤ e ∧ e ≤ tl := by
  intro f
  induction f with
  | zero => intro gf td p gf' e _ _ _ h; rw [cs] at h; cases h
  | succ f ih =>
    intro gf td p gf' e hP hI hp h
    obtain ⟨b1, b2, b3⟩ := bl_le (tb := tb) hp
    rw [cs] at h
    by_cases q : bl tb tl p < tl ∧ tb (bl tb tl p) = 40
    · rw [if_pos q] at h
      cases hc : cy tb tl 14 0 0 0 gf td (bl tb tl p + 1) with
      | mk o e2 =>
        rw [hc] at h
        cases o with
        | none => cases h
        | some g2 =>
          obtain ⟨g3, t3⟩ := g2
          dsimp only at h
          obtain ⟨r1, r2, r3, r4, r5⟩ := cy_ok tb tl _ _ _ _ _ _ _ _ _ _ ⟨hI, by omega, Or.inl ⟨rfl, hP⟩⟩ (by omega) hc
          obtain ⟨s1, s2, s3⟩ := ih _ _ _ _ _ r1 r2 r5 h
          exact ⟨s1, by omega, s3⟩
    · rw [if_neg q] at h
      have h' := Prod.mk.inj h
      rw [← Option.some.inj h'.1, ← h'.2]
      exact ⟨hP, b1, b2⟩
theorem nsF_ok (tb : Nat → Nat) (tl : Nat) : ∀ m i ns p ns' e, p ≤ tl → nsF tb tl m i ns p = (some ns', e) → p ≤ e ∧ e ≤ tl ∧ ((∀ j, j < i → ns j < 100) → ∀ j, j < i + m → ns' j < 100) := by
  intro m
  induction m with
  | zero =>
    intro i ns p ns' e hp h
    rw [nsF] at h
    have h' := Prod.mk.inj h
    rw [← Option.some.inj h'.1, ← h'.2]
    exact ⟨Nat.le_refl _, hp, fun q j hj => q j (by omega)⟩
  | succ m ih =>
    intro i ns p ns' e hp h
    rw [nsF] at h
    obtain ⟨b1, b2, b3⟩ := bl_le (tb := tb) hp
    obtain ⟨n1, n2⟩ := nm_le (tb := tb) hp
    cases hn : nm tb tl p with
    | mk o e2 =>
      rw [hn] at h n1 n2
      cases o with
      | none => cases h
      | some x =>
        dsimp only at h n1 n2
        obtain ⟨s1, s2, s3⟩ := ih _ _ _ _ _ n1 h
        have := n2 x rfl
        refine ⟨by omega, s2, fun q j hj => s3 (fun j' hj' => ?_) j (by omega)⟩
        by_cases e3 : j' = i
        · rw [e3, fu_s]; exact this.1
        · rw [fu_n _ _ e3]; exact q j' (by omega)
/-- an order that can be done -/
def Ok (o : Od) : Prop := ∃ w, nb o.1 = some w ∧ (o.1 = 107 → Pm o.2.2) ∧ (o.1 ≠ 107 → ∀ j, j < w → o.2.1 j < 100)
theorem od_ok {tb : Nat → Nat} {tl p : Nat} (hp : p ≤ tl) {o : Od} {e : Nat} (h : od tb tl p = (some o, e)) : Ok o ∧ bl tb tl p < tl ∧ o.1 = tb (bl tb tl p) ∧ p + 2 ≤ e ∧ e ≤ tl := by
  obtain ⟨b1, b2, b3⟩ := bl_le (tb := tb) hp
  unfold od at h
  by_cases q : bl tb tl p < tl
  · rw [if_pos q] at h
    cases hw : nb (tb (bl tb tl p)) with
    | none => rw [hw] at h; cases h
    | some w =>
      rw [hw] at h
      dsimp only at h
      cases hb : bd tb tl (tb (bl tb tl p)) w (bl tb tl p + 1) with
      | mk o2 e2 =>
        rw [hb] at h
        cases o2 with
        | none => cases h
        | some o2 =>
          dsimp only at h
          have key : Ok o2 ∧ o2.1 = tb (bl tb tl p) ∧ bl tb tl p + 1 ≤ e2 ∧ e2 ≤ tl := by
            unfold bd at hb
            by_cases q2 : tb (bl tb tl p) = 107
            · rw [if_pos q2] at hb
              cases hc : cs tb tl 13 (fun s => s) (fun _ => false) (bl tb tl p + 1) with
              | mk o3 e3 =>
                rw [hc] at hb
                cases o3 with
                | none => cases hb
                | some g3 =>
                  have hb' := Prod.mk.inj hb
                  obtain ⟨r1, r2, r3⟩ := cs_ok tb tl _ _ _ _ _ _ ⟨fun i hi => hi, fun i hi j hj e => e⟩ (fun s hs _ => rfl) (by omega) hc
                  rw [← Option.some.inj hb'.1, ← hb'.2, q2]
                  exact ⟨⟨0, rfl, fun _ => r1, fun z => absurd rfl z⟩, rfl, r2, r3⟩
            · rw [if_neg q2] at hb
              cases hc : nsF tb tl w 0 (fun _ => 0) (bl tb tl p + 1) with
              | mk o3 e3 =>
                rw [hc] at hb
                cases o3 with
                | none => cases hb
                | some g3 =>
                  have hb' := Prod.mk.inj hb
                  obtain ⟨r1, r2, r3⟩ := nsF_ok tb tl _ _ _ _ _ _ (by omega) hc
                  rw [← Option.some.inj hb'.1, ← hb'.2]
                  refine ⟨⟨w, hw, fun z => absurd z q2, fun _ j hj => r3 (fun j' hj' => absurd hj' (Nat.not_lt_zero _)) j (by omega)⟩, rfl, r1, r2⟩
          obtain ⟨k1, k2, k3, k4⟩ := key
          obtain ⟨c1, c2, c3⟩ := bl_le (tb := tb) k4
          by_cases q3 : bl tb tl e2 < tl ∧ tb (bl tb tl e2) = 59
          · rw [if_pos q3] at h
            have h' := Prod.mk.inj h
            rw [← Option.some.inj h'.1, ← h'.2]
            exact ⟨k1, q, k2, by omega, by omega⟩
          · rw [if_neg q3] at h; cases h
  · rw [if_neg q] at h; cases h
