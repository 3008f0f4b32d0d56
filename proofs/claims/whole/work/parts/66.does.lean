/-! orders done, and does -/
theorem cy_le {tb : Nat → Nat} {tl : Nat} : ∀ f n fi la gf td p, p ≤ tl → (cy tb tl f n fi la gf td p).2 ≤ tl := by
  intro f
  induction f with
  | zero => intro n fi la gf td p h; rw [cy]; exact Nat.zero_le _
  | succ f ih =>
    intro n fi la gf td p h
    obtain ⟨b1, b2, b3⟩ := bl_le (tb := tb) h
    obtain ⟨n1, n2⟩ := nm_le (tb := tb) b2
    rw [cy]
    by_cases q : bl tb tl p < tl ∧ tb (bl tb tl p) = 41 ∧ 2 ≤ n
    · rw [if_pos q]; exact q.1
    · rw [if_neg q]
      cases hnm : nm tb tl (bl tb tl p) with
      | mk o e =>
        rw [hnm] at n1
        cases o with
        | none => exact n1
        | some x =>
          dsimp only
          by_cases q2 : 12 ≤ x ∨ td x = true
          · rw [if_pos q2]; exact b2
          · rw [if_neg q2]; exact ih _ _ _ _ _ _ n1
theorem cs_le {tb : Nat → Nat} {tl : Nat} : ∀ f gf td p, p ≤ tl → (cs tb tl f gf td p).2 ≤ tl := by
  intro f
  induction f with
  | zero => intro gf td p h; rw [cs]; exact Nat.zero_le _
  | succ f ih =>
    intro gf td p h
    obtain ⟨b1, b2, b3⟩ := bl_le (tb := tb) h
    rw [cs]
    by_cases q : bl tb tl p < tl ∧ tb (bl tb tl p) = 40
    · rw [if_pos q]
      have h2 := cy_le (tb := tb) (tl := tl) 14 0 0 0 gf td (bl tb tl p + 1) (by omega)
      cases hc : cy tb tl 14 0 0 0 gf td (bl tb tl p + 1) with
      | mk o e =>
        rw [hc] at h2
        cases o with
        | none => exact h2
        | some g =>
          obtain ⟨g3, t3⟩ := g
          exact ih _ _ _ h2
    · rw [if_neg q]; exact b2
theorem nsF_le {tb : Nat → Nat} {tl : Nat} : ∀ m i ns p, p ≤ tl → (nsF tb tl m i ns p).2 ≤ tl := by
  intro m
  induction m with
  | zero => intro i ns p h; rw [nsF]; exact h
  | succ m ih =>
    intro i ns p h
    obtain ⟨n1, n2⟩ := nm_le (tb := tb) h
    rw [nsF]
    cases hnm : nm tb tl p with
    | mk o e =>
      rw [hnm] at n1
      cases o with
      | none => exact n1
      | some x => exact ih _ _ _ n1
theorem bd_le {tb : Nat → Nat} {tl k w p : Nat} (h : p ≤ tl) : (bd tb tl k w p).2 ≤ tl := by
  unfold bd
  by_cases q : k = 107
  · rw [if_pos q]
    have h2 := cs_le (tb := tb) 13 (fun s => s) (fun _ => false) p h
    cases hc : cs tb tl 13 (fun s => s) (fun _ => false) p with
    | mk o e => rw [hc] at h2; cases o <;> exact h2
  · rw [if_neg q]
    have h2 := nsF_le (tb := tb) w 0 (fun _ => 0) p h
    cases hc : nsF tb tl w 0 (fun _ => 0) p with
    | mk o e => rw [hc] at h2; cases o <;> exact h2
theorem od_le {tb : Nat → Nat} {tl p : Nat} (h : p ≤ tl) : (od tb tl p).2 ≤ tl := by
  obtain ⟨b1, b2, b3⟩ := bl_le (tb := tb) h
  unfold od
  by_cases q : bl tb tl p < tl
  · rw [if_pos q]
    cases hw : nb (tb (bl tb tl p)) with
    | none => exact b2
    | some w =>
      dsimp only
      have h2 := bd_le (tb := tb) (k := tb (bl tb tl p)) (w := w) (show bl tb tl p + 1 ≤ tl by omega)
      cases hc : bd tb tl (tb (bl tb tl p)) w (bl tb tl p + 1) with
      | mk o e =>
        rw [hc] at h2
        cases o with
        | none => exact h2
        | some o =>
          obtain ⟨c1, c2, c3⟩ := bl_le (tb := tb) (show e ≤ tl from h2)
          dsimp only
          by_cases q3 : bl tb tl e < tl ∧ tb (bl tb tl e) = 59
          · rw [if_pos q3]; exact q3.1
          · rw [if_neg q3]; exact c2
  · rw [if_neg q]; exact b2
theorem rd_le {tb : Nat → Nat} {tl : Nat} : ∀ f p, p ≤ tl → (rd tb tl f p).2 ≤ tl := by
  intro f
  induction f with
  | zero => intro p h; rw [rd]; exact Nat.zero_le _
  | succ f ih =>
    intro p h
    have h2 := od_le (tb := tb) h
    rw [rd]
    cases hc : od tb tl p with
    | mk o e =>
      rw [hc] at h2
      cases o with
      | none => exact h2
      | some o =>
        dsimp only
        by_cases q : bl tb tl e < tl
        · rw [if_pos q]
          have h3 := ih e h2
          cases hr : rd tb tl f e with
          | mk l e' => rw [hr] at h3; cases l <;> exact h3
        · rw [if_neg q]; exact h2
theorem rd_ok {tb : Nat → Nat} {tl : Nat} : ∀ f p l e, p ≤ tl → rd tb tl f p = (some l, e) → (∀ o, o ∈ l → Ok o) ∧ p + 2 * l.length ≤ tl ∧ 0 < l.length := by
  intro f
  induction f with
  | zero => intro p l e h h2; rw [rd] at h2; cases h2
  | succ f ih =>
    intro p l e h h2
    rw [rd] at h2
    cases hc : od tb tl p with
    | mk o e1 =>
      rw [hc] at h2
      cases o with
      | none => cases h2
      | some o =>
        obtain ⟨k1, k2, k3, k4, k5⟩ := od_ok h hc
        dsimp only at h2
        by_cases q : bl tb tl e1 < tl
        · rw [if_pos q] at h2
          cases hr : rd tb tl f e1 with
          | mk l' e' =>
            rw [hr] at h2
            cases l' with
            | none => cases h2
            | some l' =>
              obtain ⟨i1, i2, i3⟩ := ih e1 l' e' k5 hr
              have h3 := Option.some.inj (Prod.mk.inj h2).1
              subst h3
              refine ⟨fun x hx => ?_, by rw [List.length_cons]; omega, by rw [List.length_cons]; omega⟩
              rcases List.mem_cons.mp hx with rfl | hx
              · exact k1
              · exact i1 x hx
        · rw [if_neg q] at h2
          have h3 := Option.some.inj (Prod.mk.inj h2).1
          subst h3
          refine ⟨fun x hx => ?_, by simp; omega, by simp⟩
          rcases List.mem_cons.mp hx with rfl | hx
          · exact k1
          · cases hx
def RA : List Od → Vt → Int32 → Vt → Int32 → Prop
  | [], v, g, v', g' => v' = v ∧ g' = g
  | o :: l, v, g, v', g' => ∃ r v1 g1, 0 ≤ r ∧ Va v1 ∧ OdCl o v g r v1 g1 ∧ OdMo o v g r v1 g1 ∧ RA l v1 g1 v' g'
def RF : List Od → Nat → Vt → Int32 → Prop
  | [], _, _, _ => False
  | o :: l, j, v, g => (j = 0 ∧ ∃ r k, rfk r = some k ∧ OdCl o v g r v g ∧ OdMo o v g r v g) ∨ (∃ j', j = j' + 1 ∧ ∃ r v1 g1, 0 ≤ r ∧ Va v1 ∧ OdCl o v g r v1 g1 ∧ OdMo o v g r v1 g1 ∧ RF l j' v1 g1)
theorem run_l : ∀ l : List Od, (∀ o, o ∈ l → Ok o) → ∀ v g, Va v → (∃ v' g', Va v' ∧ RA l v g v' g') ∨ ∃ j, j < l.length ∧ RF l j v g := by
  intro l
  induction l with
  | nil => intro _ v g hV; exact Or.inl ⟨v, g, hV, rfl, rfl⟩
  | cons o l ih =>
    intro ho v g hV
    obtain ⟨r, v1, g1, h1, h2, hc, hm⟩ := od_do (ho o List.mem_cons_self) v g hV
    rcases h2 with hr | ⟨k, hr, rfl, rfl⟩
    · rcases ih (fun x hx => ho x (List.mem_cons_of_mem _ hx)) v1 g1 h1 with ⟨v', g', a1, a2⟩ | ⟨j, a1, a2⟩
      · exact Or.inl ⟨v', g', a1, r, v1, g1, hr, h1, hc, hm, a2⟩
      · exact Or.inr ⟨j + 1, by rw [List.length_cons]; omega, Or.inr ⟨j, rfl, r, v1, g1, hr, h1, hc, hm, a2⟩⟩
    · exact Or.inr ⟨0, by rw [List.length_cons]; omega, Or.inl ⟨rfl, r, k, hr, hc, hm⟩⟩
/-- what doing orders may change in the class -/
def LF (σ σ' : Sg) : Prop := σ' 269 1 = σ 269 1 ∧ ∀ k, 39 ≤ k → k ≠ 269 → k ≠ 271 → k ≠ 272 → σ' k = σ k
theorem LF_trans {a b c : Sg} (h1 : LF a b) (h2 : LF b c) : LF a c := ⟨h2.1.trans h1.1, fun k w x y z => (h2.2 k w x y z).trans (h1.2 k w x y z)⟩
theorem LF_QF {a b : Sg} (h : QF a b) : LF a b := ⟨h.1, fun k _ x y z => h.2 k x y z⟩
theorem LF_op {a b : Sg} (h : ∀ k, (k < 1 ∨ 39 ≤ k) → b k = a k) : LF a b := ⟨by rw [h 269 (by omega)], fun k w x y z => h k (Or.inr w)⟩
theorem doC {tl : Nat} {tb : Nat → Nat} (htl : tl ≤ 120) (htb : ∀ i, i < tl → tb i < 128) : ∀ f k p (σ : Sg) l e v g F, rd tb tl f p = (some l, e) → 2 * k ≤ p → p ≤ tl → TC σ tl tb p → Cl σ 1 v g → Va v → f + 1 < F →
    (∀ v' g', RA l v g v' g' → ∃ σ', f_X5_does_38 F 0 (nI k) σ = f_X5_does_94 0 (nI (k + l.length)) σ' ∧ Cl σ' 1 v' g' ∧ LF σ σ') ∧ (∀ j, RF l j v g → ∃ σ', f_X5_does_38 F 0 (nI k) σ = f_X5_does_71 0 (nI (k + j)) σ' ∧ LF σ σ') := by
  intro f
  induction f with
  | zero => intro k p σ l e v g F h; rw [rd] at h; cases h
  | succ f ih =>
    intro k p σ l e v g F h hk hp hT hC hV hF
    obtain ⟨F, rfl⟩ : ∃ z, F = z + 1 := ⟨F - 1, by omega⟩
    obtain ⟨b1, b2, b3⟩ := bl_le (tb := tb) hp
    rw [rd] at h
    cases hod : od tb tl p with
    | mk o e1 =>
      rw [hod] at h
      cases o with
      | none => cases h
      | some o =>
        obtain ⟨k1, k2, k3, k4, k5⟩ := od_ok hp hod
        obtain ⟨c1, c2, c3⟩ := bl_le (tb := tb) k5
        dsimp only at h
        obtain ⟨σ2, o1, o2, o3⟩ := odC htl htb (TC_at hT (bl tb tl p)) b2
        rw [od_bl hp, hod] at o2 o3
        obtain ⟨t1, t2, t3⟩ := o3
        have hL2 : LF σ σ2 := LF_trans (LF_QF (QF_up σ (by omega) _)) (LF_QF o1)
        have hC2 : Cl σ2 1 v g := Cl_loc hC hV.2.1 (fun k x y => by rw [o1.2 k (by omega) (by omega) (by omega), up_o _ _ _ _ (by omega)])
        have E : f_X5_does_38 (F + 1) 0 (nI k) σ = cb (f_X5_doOrder 0 σ2) (fun a5 τ6 => if 0 ≤ a5 then (f_X5_does_38 F 0 (nI (k + 1)) τ6) else (f_X5_does_71 0 (nI k) τ6)) := by
          rw [f_X5_does_38, if_pos kd_0, if_neg (show ¬ 120 ≤ nI k by rw [show (120 : Int32) = nI 120 from rfl, n_le (by omega) (by omega)]; omega), rf_0_2, moreC htl htb hT hp, cb_some, decide_eq_true k2, if_neg bt, o2, cb_some, if_neg (bS o e1), show (nI k + 1 : Int32) = nI (k + 1) from nI_1 _]
        rw [E]
        -- behind an order that was done
        have stp3 : ∀ v1 g1 (σ3 : Sg), Cl σ3 1 v1 g1 → Va v1 → (∀ k, (k < 1 ∨ 39 ≤ k) → σ3 k = σ2 k) → ∀ l', l = o :: l' → (∀ v' g', RA l' v1 g1 v' g' → ∃ σ', f_X5_does_38 F 0 (nI (k + 1)) σ3 = f_X5_does_94 0 (nI (k + 1 + l'.length)) σ' ∧ Cl σ' 1 v' g' ∧ LF σ3 σ') ∧ (∀ j, RF l' j v1 g1 → ∃ σ', f_X5_does_38 F 0 (nI (k + 1)) σ3 = f_X5_does_71 0 (nI (k + 1 + j)) σ' ∧ LF σ3 σ') := by
          intro v1 g1 σ3 hC3 hV1 h3 l' hl
          have hT3 : TC σ3 tl tb e1 := ⟨by rw [h3 269 (by omega)]; exact t1.1, fun i hi => by rw [h3 270 (by omega)]; exact t1.2.1 i hi, by rw [h3 269 (by omega)]; exact t1.2.2⟩
          by_cases q : bl tb tl e1 < tl
          · rw [if_pos q] at h
            cases hr : rd tb tl f e1 with
            | mk l2 e' =>
              rw [hr] at h
              cases l2 with
              | none => cases h
              | some l2 =>
                have h4 := Option.some.inj (Prod.mk.inj h).1
                rw [hl] at h4
                have h5 := (List.cons.inj h4).2
                subst h5
                exact ih (k + 1) e1 σ3 l2 e' v1 g1 F hr (by omega) k5 hT3 hC3 hV1 (by omega)
          · rw [if_neg q] at h
            have h4 := Option.some.inj (Prod.mk.inj h).1
            rw [hl] at h4
            have h5 := (List.cons.inj h4).2
            subst h5
            refine ⟨fun v' g' hR => ?_, fun j hR => absurd hR (by intro z; exact z)⟩
            obtain ⟨rfl, rfl⟩ := hR
            obtain ⟨F, rfl⟩ : ∃ z, F = z + 1 := ⟨F - 1, by omega⟩
            refine ⟨up σ3 269 2 (nI (bl tb tl e1)), ?_, Cl_loc hC3 hV1.2.1 (fun k x y => up_o _ _ _ _ (by omega)), LF_QF (QF_up σ3 (by omega) _)⟩
            rw [f_X5_does_38, if_pos kd_0, if_neg (show ¬ 120 ≤ nI (k + 1) by rw [show (120 : Int32) = nI 120 from rfl, n_le (by omega) (by omega)]; omega), rf_0_2, moreC htl htb hT3 k5, cb_some, decide_eq_false q, if_pos bf]
            rfl
        have hl : ∃ l', l = o :: l' := by
          by_cases q : bl tb tl e1 < tl
          · rw [if_pos q] at h
            cases hr : rd tb tl f e1 with
            | mk l2 e' =>
              rw [hr] at h
              cases l2 with
              | none => cases h
              | some l2 => exact ⟨l2, (Option.some.inj (Prod.mk.inj h).1).symm⟩
          · rw [if_neg q] at h
            exact ⟨[], (Option.some.inj (Prod.mk.inj h).1).symm⟩
        obtain ⟨l', hl⟩ := hl
        subst hl
        constructor
        · intro v' g' hR
          obtain ⟨r, v1, g1, hr, hV1, hc, hm, hR⟩ := hR
          obtain ⟨σ3, e3, w1, w2⟩ := hc σ2 hC2 t2
          obtain ⟨σ4, x1, x2, x3⟩ := (stp3 v1 g1 σ3 w1 hV1 w2 l' rfl).1 v' g' hR
          rw [e3, cb_some, if_pos hr, x1, List.length_cons, show k + (l'.length + 1) = k + 1 + l'.length by omega]
          exact ⟨σ4, rfl, x2, LF_trans (LF_trans hL2 (LF_op w2)) x3⟩
        · intro j hR
          rcases hR with ⟨rfl, r, kk, hr, hc, hm⟩ | ⟨j', rfl, r, v1, g1, hr, hV1, hc, hm, hR⟩
          · obtain ⟨σ3, e3, w1, w2⟩ := hc σ2 hC2 t2
            rw [e3, cb_some, if_neg (rfk_lt hr).2.2.2.1]
            exact ⟨σ3, rfl, LF_trans hL2 (LF_op w2)⟩
          · obtain ⟨σ3, e3, w1, w2⟩ := hc σ2 hC2 t2
            obtain ⟨σ4, x1, x2⟩ := (stp3 v1 g1 σ3 w1 hV1 w2 l' rfl).2 j' hR
            rw [e3, cb_some, if_pos hr, x1, show k + (j' + 1) = k + 1 + j' by omega]
            exact ⟨σ4, rfl, LF_trans (LF_trans hL2 (LF_op w2)) x2⟩
theorem OR_eq {σ σ' : Sg} {b : Nat} {o : Od} (e : σ' 306 = σ 306) (h : OR σ b o) : OR σ' b o := by
  unfold OR RowG at h ⊢
  rw [e]
  exact h
theorem OL_eq {σ σ' : Sg} (e : σ' 306 = σ 306) : ∀ l k, OL σ k l → OL σ' k l := by
  intro l
  induction l with
  | nil => intro k _; trivial
  | cons o l ih => intro k h; exact ⟨OR_eq e h.1, ih (k + 1) h.2⟩
theorem doM : ∀ (l : List Od) k (σ : Sg) v g F N, OL σ k l → k + l.length = N → N ≤ 60 → σ 298 10 = nI N → Mo (σ 299) v g → l.length < F →
    (∀ v' g', RA l v g v' g' → ∃ σ', f_X6_does_21 F 298 (nI k) σ = cb (f_X6_done 298 (nI N) σ') (fun a1 τ2 => some (a1, τ2)) ∧ Mo (σ' 299) v' g' ∧ ∀ c, c ≠ 299 → σ' c = σ c) ∧ (∀ j, RF l j v g → ∃ σ', f_X6_does_21 F 298 (nI k) σ = f_X6_does_43 FU 298 (nI (k + j)) 0 σ' ∧ ∀ c, c ≠ 299 → σ' c = σ c) := by
  intro l
  induction l with
  | nil =>
    intro k σ v g F N hO hN hN2 h10 hM hF
    obtain ⟨F, rfl⟩ : ∃ z, F = z + 1 := ⟨F - 1, by omega⟩
    refine ⟨fun v' g' hR => ?_, fun j hR => absurd hR (by intro z; exact z)⟩
    obtain ⟨rfl, rfl⟩ := hR
    refine ⟨σ, ?_, hM, fun c _ => rfl⟩
    have hN' : k = N := hN
    rw [f_X6_does_21, if_pos kd_298, h10, if_pos (by rw [n_le (by omega) (by omega)]; omega)]
  | cons o l ih =>
    intro k σ v g F N hO hN hN2 h10 hM hF
    obtain ⟨F, rfl⟩ : ∃ z, F = z + 1 := ⟨F - 1, by omega⟩
    rw [List.length_cons] at hN hF
    have E : f_X6_does_21 (F + 1) 298 (nI k) σ = cb (f_X6_doesOne 298 (nI (13 * k)) σ) (fun a3 τ4 => if (-1) ≤ a3 then (f_X6_does_21 F 298 (nI (k + 1)) τ4) else (f_X6_does_43 FU 298 (nI k) 0 τ4)) := by
      rw [f_X6_does_21, if_pos kd_298, h10, if_neg (by rw [n_le (by omega) (by omega)]; omega), show (13 : Int32) = nI 13 from rfl, pk_mul, show (nI k + 1 : Int32) = nI (k + 1) from nI_1 _]
    rw [E]
    constructor
    · intro v' g' hR
      obtain ⟨r, v1, g1, hr, hV1, hc, hm, hR⟩ := hR
      obtain ⟨σ3, e3, w1, w2⟩ := hm σ (13 * k) hM (by omega) hO.1
      obtain ⟨σ4, x1, x2, x3⟩ := (ih (k + 1) σ3 v1 g1 F N (OL_eq (w2 306 (by omega)) l _ hO.2) (by omega) hN2 (by rw [w2 298 (by omega)]; exact h10) w1 (by omega)).1 v' g' hR
      rw [e3, cb_some, if_pos (le_m1 hr), x1]
      exact ⟨σ4, rfl, x2, fun c hc => (x3 c hc).trans (w2 c hc)⟩
    · intro j hR
      rcases hR with ⟨rfl, r, kk, hr, hc, hm⟩ | ⟨j', rfl, r, v1, g1, hr, hV1, hc, hm, hR⟩
      · obtain ⟨σ3, e3, w1, w2⟩ := hm σ (13 * k) hM (by omega) hO.1
        rw [e3, cb_some, if_neg (rfk_lt hr).2.1]
        exact ⟨σ3, rfl, w2⟩
      · obtain ⟨σ3, e3, w1, w2⟩ := hm σ (13 * k) hM (by omega) hO.1
        obtain ⟨σ4, x1, x3⟩ := (ih (k + 1) σ3 v1 g1 F N (OL_eq (w2 306 (by omega)) l _ hO.2) (by omega) hN2 (by rw [w2 298 (by omega)]; exact h10) w1 (by omega)).2 j' hR
        rw [e3, cb_some, if_pos (le_m1 hr), x1, show k + (j' + 1) = k + 1 + j' by omega]
        exact ⟨σ4, rfl, fun c hc => (x3 c hc).trans (w2 c hc)⟩
theorem does43 {σ : Sg} {r : Int32} : f_X6_does_43 FU 298 r 0 σ = some ((-1000) - r, cpy σ 301 0 299 0 336) := by
  have key := loopU (fun n j => f_X6_does_43 n 298 r (nI j) (cpy σ 301 0 299 0 j)) (fun _ => some ((-1000) - r, cpy σ 301 0 299 0 336)) 336 (by omega) ?_ ?_
  · have e : cpy σ 301 0 299 0 0 = σ := by funext k i; rw [cpy_at]; simp
    rw [e] at key
    exact key
  · intro n
    rw [f_X6_does_43, if_pos kd_298, if_pos (by decide)]
  · intro n j hj ih
    have i1 : inb (nI j) 336 = true := by rw [inb_nI (by omega)]; exact decide_eq_true (by omega)
    rw [f_X6_does_43, if_pos kd_298, if_neg (show ¬ 336 ≤ nI j by rw [show (336 : Int32) = nI 336 from rfl, n_le (by omega) (by omega)]; omega), if_pos i1, if_pos i1]
    simp only [bnE]
    rw [rf_298_0, rf_298_3, ix_nI (by omega), show (nI j + 1 : Int32) = nI (j + 1) from nI_1 _, show cpy σ 301 0 299 0 j 301 j = σ 301 j by rw [cpy_at]; simp, cpy_succ]
    exact ih
theorem hundo {σ : Sg} {v : Vt} {g : Int32} {nx : Nat} (hC : Cl σ (41 + 38 * nx) v g) (hV : Va v) (hn : nx < 6) (h1 : σ 39 1 = nI nx) : ∃ σ', f_X1_undo 39 1 σ = some ((), σ') ∧ Cl σ' 1 v g ∧ ∀ k, (k < 1 ∨ 39 ≤ k) → σ' k = σ k := by
  obtain ⟨e1, e2⟩ := slot_kd nx hn
  obtain ⟨σ', e, h2, h3⟩ := sq_copy kd_1 e2 (Or.inl (by omega)) hC hV
  refine ⟨σ', ?_, h2, fun k hk => h3 k (by omega)⟩
  rw [f_X1_undo, if_pos kd_39, if_pos kd_1, h1, if_pos (by rw [inb_nI (by omega)]; exact decide_eq_true hn), ix_nI (by omega), rf_39_0, e1, e, cb_some]
def mxS (a b : Sg) : Sg := fun k => if k < 269 then a k else b k
theorem CI_QF {σ σ' : Sg} {v : Vt} {g : Int32} {hv : Nat → Vt} {hg : Nat → Int32} {ks tl : Nat} {tb : Nat → Nat} {rz : Nat → Int32} (hV : VI v hv ks tl tb) (h : CI σ v g hv hg ks tl tb rz) (q : QF σ σ') : CI σ' v g hv hg ks tl tb rz := by
  obtain ⟨h1, ⟨nx, h2⟩, h3⟩ := h
  exact ⟨Cl_loc h1 hV.1.2.1 (fun k a b => q.2 k (by omega) (by omega) (by omega)), ⟨nx, CH_loc h2 hV.2.2.1 (fun k a b => q.2 k (by omega) (by omega) (by omega))⟩, CT_loc h3 q.1 (q.2 270 (by omega) (by omega) (by omega)) (q.2 297 (by omega) (by omega) (by omega)) (q.2 283 (by omega) (by omega) (by omega))⟩
theorem MI_QM {σ σ' : Sg} {v : Vt} {g : Int32} {hv : Nat → Vt} {hg : Nat → Int32} {ks tl : Nat} {tb : Nat → Nat} {rz : Nat → Int32} (h : MI σ v g hv hg ks tl tb rz) (q : QM 0 σ σ') : MI σ' v g hv hg ks tl tb rz := by
  unfold MI MH MT at *
  rw [q.2.1 299 (by omega) (by omega), q.2.1 300 (by omega) (by omega), q.2.1 303 (by omega) (by omega), q.2.1 302 (by omega) (by omega), q.1 2 (by omega) (by omega) (by omega) (by omega), q.1 5 (by omega) (by omega) (by omega) (by omega)]
  exact h
theorem sim_does {n : Nat} (hn : n < 600) : Sim (Inv n) (Inv (n + 1)) (f_X5_does 0) (f_X6_does 298) := by
  refine sim_of hn (fun v g hv hg ks tl tb rz hV hB => ?_)
  have htl := hV.2.2.2.1
  have htb := hV.2.2.2.2
  have hks := hV.2.1
  -- the text read
  have rC : ∀ σ, CI σ v g hv hg ks tl tb rz → ∃ σ1, f_X4_firstFault 269 σ = some (rv (rd tb tl 62 0), σ1) ∧ CI σ1 v g hv hg ks tl tb rz ∧ ∀ k, 298 ≤ k → σ1 k = σ k := fun σ hC => by
    obtain ⟨σ1, q1, e1⟩ := ffC0 htl htb hC.2.2.1 hC.2.2.2.1
    exact ⟨σ1, e1, CI_QF hV hC q1, fun k hk => q1.2 k (by omega) (by omega) (by omega)⟩
  have rM : ∀ σ, MI σ v g hv hg ks tl tb rz → ∃ σ1, RdM 0 σ σ1 (rd tb tl 62 0) (f_X6_reads 298 σ) ∧ MI σ1 v g hv hg ks tl tb rz ∧ ∀ k, k < 298 → σ1 k = σ k := fun σ hM => by
    obtain ⟨σ1, z⟩ := rdM0 htl htb hM.2.2.1 hM.2.2.2.1
    exact ⟨σ1, z, MI_QM hM z.1, fun k hk => z.1.2.1 k (by omega) (by omega)⟩
  have hle := rd_le (tb := tb) (tl := tl) 62 0 (by omega)
  cases hrd : rd tb tl 62 0 with
  | mk o e =>
    rw [hrd] at hle rC rM
    cases o with
    | none =>
      refine ⟨(-10) - nI e, v, g, hv, hg, ks, tl, tb, rz, hV, Or.inl rfl, fun σ hC => ?_, fun σ hM => ?_⟩
      · obtain ⟨σ1, e1, c1, l1⟩ := rC σ hC
        refine ⟨σ1, ?_, c1, l1⟩
        have he : e ≤ tl := hle
        rw [f_X5_does, if_pos kd_0, rf_0_2, e1, cb_some]
        show (if nI e = -1 then _ else _) = _
        rw [if_neg (nIm1 (by omega))]
        rfl
      · obtain ⟨σ1, ⟨z1, z2, z3⟩, c1, l1⟩ := rM σ hM
        refine ⟨σ1, ?_, c1, l1⟩
        have z3' : σ1 298 12 = nI e := z3
        rw [f_X6_does, if_pos kd_298, z2, cb_some, if_pos (bN e), z3']
    | some l =>
      obtain ⟨r1, r2, r3⟩ := rd_ok 62 0 l e (by omega) hrd
      have hN : l.length ≤ 60 := by omega
      -- the class, up to its loop
      have bC : ∀ σ, CI σ v g hv hg ks tl tb rz → ∃ nx σ2, nx < 6 ∧ f_X5_does 0 σ = f_X5_does_38 FU 0 (nI 0) σ2 ∧ TC σ2 tl tb 0 ∧ Cl σ2 1 v g ∧ Cl σ2 (41 + 38 * nx) v g ∧ CI σ2 v g hv hg ks tl tb rz ∧ CH σ2 hv hg ks nx ∧ ∀ k, 298 ≤ k → σ2 k = σ k := fun σ hC => by
        obtain ⟨σ1, e1, c1, l1⟩ := rC σ hC
        obtain ⟨a1, ⟨nx, a2⟩, a3⟩ := c1
        have hn6 := a2.1
        obtain ⟨σ2, e2, p1, p2⟩ := hprep a1 hV.1 a2.1 a2.2.1
        have ho : ∀ k, k ≠ 269 → (up (up σ2 269 2 0) 269 3 (-1)) k = σ2 k := fun k hk => by rw [up_o _ _ _ _ hk, up_o _ _ _ _ hk]
        have hcl : Cl (up (up σ2 269 2 0) 269 3 (-1)) 1 v g := Cl_loc a1 hV.1.2.1 (fun k x y => by rw [ho k (by omega), p2 k (by omega)])
        have hch : CH (up (up σ2 269 2 0) 269 3 (-1)) hv hg ks nx := by
          refine ⟨hn6, by rw [ho 39 (by omega), p2 39 (by omega)]; exact a2.2.1, by rw [ho 39 (by omega), p2 39 (by omega)]; exact a2.2.2.1, fun j hj => ?_⟩
          exact Cl_loc (a2.2.2.2 j hj) (hV.2.2.1 j hj).2.1 (fun k a b => by rw [ho k (by omega), p2 k (by omega)])
        have h1 : (up (up σ2 269 2 0) 269 3 (-1)) 269 1 = σ1 269 1 := by rw [ux_n _ _ _ (by omega), ux_n _ _ _ (by omega), p2 269 (by omega)]
        have h270 : (up (up σ2 269 2 0) 269 3 (-1)) 270 = σ1 270 := by rw [ho 270 (by omega), p2 270 (by omega)]
        refine ⟨nx, up (up σ2 269 2 0) 269 3 (-1), hn6, ?_, ⟨by rw [h1]; exact a3.1, fun i hi => by rw [h270]; exact a3.2.1 i hi, by rw [ux_n _ _ _ (by omega), ux_s]; rfl⟩, hcl, Cl_loc p1 hV.1.2.1 (fun k x y => ho k (by omega)), ⟨hcl, ⟨nx, hch⟩, CT_loc a3 h1 h270 (by rw [ho 297 (by omega), p2 297 (by omega)]) (by rw [ho 283 (by omega), p2 283 (by omega)])⟩, hch, fun k hk => by rw [ho k (by omega), p2 k (by omega), l1 k hk]⟩
        rw [f_X5_does, if_pos kd_0, rf_0_2, e1, cb_some]
        show (if (-1 : Int32) = -1 then _ else _) = _
        rw [if_pos rfl, rf_0_1, rf_0_0, e2, cb_some, f_X4_restart, if_pos kd_269]
        simp only [bnE]
        rw [cb_some]
        rfl
      -- the reference, up to its loop
      have bM : ∀ σ, MI σ v g hv hg ks tl tb rz → ∃ σ2, f_X6_does 298 σ = f_X6_does_21 FU 298 (nI 0) σ2 ∧ OL σ2 0 l ∧ σ2 298 10 = nI l.length ∧ Mo (σ2 301) v g ∧ MI σ2 v g hv hg ks tl tb rz ∧ ∀ k, k < 298 → σ2 k = σ k := fun σ hM => by
        obtain ⟨σ1, ⟨z1, z2, z3, z4⟩, c1, l1⟩ := rM σ hM
        have l0 : ∀ k, k ≠ 301 → cpy σ1 299 0 301 0 336 k = σ1 k := fun k hk => cpy_o _ _ _ _ _ _ hk
        refine ⟨cpy σ1 299 0 301 0 336, ?_, OL_eq (l0 306 (by omega)) l 0 z3, ?_, ⟨by rw [cpy_at, if_pos ⟨rfl, by omega⟩]; exact c1.1.1, fun k a b => by rw [cpy_at, if_pos ⟨rfl, a⟩]; exact c1.1.2 k a b⟩, ?_, fun k hk => by rw [l0 k (by omega), l1 k hk]⟩
        · rw [f_X6_does, if_pos kd_298, z2, cb_some, if_neg (bS l e), notes_eq, cb_some]
          rfl
        · rw [l0 298 (by omega), z4, Nat.zero_add]
        · unfold MI MH MT at *
          rw [l0 299 (by omega), l0 298 (by omega), l0 300 (by omega), l0 303 (by omega), l0 302 (by omega)]
          exact c1
      rcases run_l l r1 v g hV.1 with ⟨v', g', hV', hR⟩ | ⟨j, hj, hR⟩
      · refine ⟨nI l.length, v', g', push hv ks v, push hg ks g, nk ks, tl, tb, rz, VI_push hV hV', Or.inl rfl, fun σ hC => ?_, fun σ hM => ?_⟩
        · obtain ⟨nx, σ2, hn6, e2, hT2, hC2, hS2, hI2, hH2, l2⟩ := bC σ hC
          obtain ⟨σ3, e3, c3, f3⟩ := (doC htl htb 62 0 0 σ2 l e v g FU hrd (by omega) (by omega) hT2 hC2 hV.1 (FU_gt (by omega))).1 v' g' hR
          have n1 : σ3 39 1 = nI nx := by rw [f3.2 39 (by omega) (by omega) (by omega) (by omega)]; exact hH2.2.1
          have n2 : σ3 39 2 = nI ks := by rw [f3.2 39 (by omega) (by omega) (by omega) (by omega)]; exact hH2.2.2.1
          rw [e2, e3, f_X5_does_94, if_pos kd_0, rf_0_1, hconf hn6 n1 n2 hks, cb_some, Nat.zero_add]
          have e0 : ∀ k, k ≠ 39 → (up (up σ3 39 1 (nI ((nx + 1) % 6))) 39 2 (nI (if ks < 5 then ks + 1 else 5))) k = σ3 k := fun k hk => by rw [up_o _ _ _ _ hk, up_o _ _ _ _ hk]
          refine ⟨_, rfl, ⟨Cl_loc c3 hV'.2.1 (fun k a b => e0 k (by omega)), ⟨(nx + 1) % 6, CH_push (σ := mxS σ2 σ3) (σ1 := mxS σ2 σ3) (CH_loc hH2 hV.2.2.1 (fun k a b => if_pos b)) hks hV.1 hV.2.2.1 (Cl_loc hS2 hV.1.2.1 (fun k a b => if_pos (by omega))) (fun k _ => rfl) (fun k hk => ?_) (by simp [up_a]) (by simp [up_a, nk])⟩, CT_loc hI2.2.2 ?_ ?_ ?_ ?_⟩, fun k hk => ?_⟩
          · rw [e0 k (by omega)]
            unfold mxS
            by_cases q : k < 269
            · rw [if_pos q, f3.2 k (by omega) (by omega) (by omega) (by omega)]
            · rw [if_neg q]
          · rw [e0 269 (by omega), f3.1]
          · rw [e0 270 (by omega), f3.2 270 (by omega) (by omega) (by omega) (by omega)]
          · rw [e0 297 (by omega), f3.2 297 (by omega) (by omega) (by omega) (by omega)]
          · rw [e0 283 (by omega), f3.2 283 (by omega) (by omega) (by omega) (by omega)]
          · rw [e0 k (by omega), f3.2 k (by omega) (by omega) (by omega) (by omega), l2 k hk]
        · obtain ⟨σ2, e2, hO, h10, hT, hM2, l2⟩ := bM σ hM
          obtain ⟨σ3, e3, c3, f3⟩ := (doM l 0 σ2 v g FU l.length hO (by omega) hN h10 hM2.1 (FU_gt (by omega))).1 v' g' hR
          have t3 : Mo (σ3 301) v g := by rw [f3 301 (by omega)]; exact hT
          have h3 : MH σ3 hv hg ks := by
            unfold MH
            rw [f3 298 (by omega), f3 300 (by omega)]
            exact hM2.2.1
          obtain ⟨σ4, e4, s1, s2, s3, s4⟩ := doneM c3 t3 h3 hks (ge_nI (show l.length < 2147483648 by omega))
          rw [e2, e3, e4, cb_some]
          refine ⟨_, rfl, ⟨s1, s2, ?_⟩, fun k hk2 => by rw [s3 k (by omega) (by omega) (by omega) (by omega), f3 k (by omega), l2 k hk2]⟩
          unfold MT
          rw [s4 5 (by omega), f3 298 (by omega), s3 303 (by omega) (by omega) (by omega) (by omega), f3 303 (by omega), s3 302 (by omega) (by omega) (by omega) (by omega), f3 302 (by omega)]
          exact hM2.2.2
      · refine ⟨(-1000) - nI j, v, g, hv, hg, ks, tl, tb, rz, hV, Or.inl rfl, fun σ hC => ?_, fun σ hM => ?_⟩
        · obtain ⟨nx, σ2, hn6, e2, hT2, hC2, hS2, hI2, hH2, l2⟩ := bC σ hC
          obtain ⟨σ3, e3, f3⟩ := (doC htl htb 62 0 0 σ2 l e v g FU hrd (by omega) (by omega) hT2 hC2 hV.1 (FU_gt (by omega))).2 j hR
          have n1 : σ3 39 1 = nI nx := by rw [f3.2 39 (by omega) (by omega) (by omega) (by omega)]; exact hH2.2.1
          have hS3 : Cl σ3 (41 + 38 * nx) v g := Cl_loc hS2 hV.1.2.1 (fun k a b => f3.2 k (by omega) (by omega) (by omega) (by omega))
          obtain ⟨σ4, e4, c4, f4⟩ := hundo hS3 hV.1 hn6 n1
          rw [e2, e3, f_X5_does_71, if_pos kd_0, rf_0_1, rf_0_0, e4, cb_some, Nat.zero_add]
          refine ⟨σ4, rfl, ⟨c4, ⟨nx, CH_loc hH2 hV.2.2.1 (fun k a b => by rw [f4 k (by omega), f3.2 k (by omega) (by omega) (by omega) (by omega)])⟩, CT_loc hI2.2.2 ?_ ?_ ?_ ?_⟩, fun k hk => ?_⟩
          · rw [f4 269 (by omega), f3.1]
          · rw [f4 270 (by omega), f3.2 270 (by omega) (by omega) (by omega) (by omega)]
          · rw [f4 297 (by omega), f3.2 297 (by omega) (by omega) (by omega) (by omega)]
          · rw [f4 283 (by omega), f3.2 283 (by omega) (by omega) (by omega) (by omega)]
          · rw [f4 k (by omega), f3.2 k (by omega) (by omega) (by omega) (by omega), l2 k hk]
        · obtain ⟨σ2, e2, hO, h10, hT, hM2, l2⟩ := bM σ hM
          obtain ⟨σ3, e3, f3⟩ := (doM l 0 σ2 v g FU l.length hO (by omega) hN h10 hM2.1 (FU_gt (by omega))).2 j hR
          have t3 : Mo (σ3 301) v g := by rw [f3 301 (by omega)]; exact hT
          rw [e2, e3, does43, Nat.zero_add]
          have l0 : ∀ k, k ≠ 299 → cpy σ3 301 0 299 0 336 k = σ3 k := fun k hk => cpy_o _ _ _ _ _ _ hk
          refine ⟨_, rfl, ⟨⟨by rw [cpy_at, if_pos ⟨rfl, by omega⟩]; exact t3.1, fun k a b => by rw [cpy_at, if_pos ⟨rfl, a⟩]; exact t3.2 k a b⟩, ?_, ?_⟩, fun k hk => by rw [l0 k (by omega), f3 k (by omega), l2 k hk]⟩
          · unfold MH
            rw [l0 298 (by omega), l0 300 (by omega), f3 298 (by omega), f3 300 (by omega)]
            exact hM2.2.1
          · unfold MT
            rw [l0 298 (by omega), l0 303 (by omega), l0 302 (by omega), f3 298 (by omega), f3 303 (by omega), f3 302 (by omega)]
            exact hM2.2.2
