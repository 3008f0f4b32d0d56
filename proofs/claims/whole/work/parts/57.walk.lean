def Cout (σ σ' : Sg) (v : Vt) (many va p : Nat) (us : Nat → Vt) (row : Nat → Nat) (q : Nat × (Nat → Nat)) : Prop := DS σ' v p us row ∧ (stopB va q.1 = true → ∀ i, i < many → σ' 295 i = nI (q.2 i)) ∧ ∀ k, ¬ dyn k → σ' k = σ k
theorem DS_295 {σ : Sg} {v : Vt} {p : Nat} {us : Nat → Vt} {row : Nat → Nat} (hD : DS σ v p us row) (hp : p ≤ 5) (x : Int32) : DS (up σ 295 p x) v p us row := by
  obtain ⟨d1, d2, d3⟩ := hD
  refine ⟨fun i hi => ⟨fun d hd => by rw [ux_o _ _ _ _ (by omega)]; exact (d1 i hi).1 d hd, by rw [ux_o _ _ _ _ (by omega)]; exact (d1 i hi).2⟩, fun i hi => by rw [ux_n _ _ _ (by omega)]; exact d2 i hi, fun c hc => by rw [ux_o _ _ _ _ (by omega)]; exact d3 c hc⟩
theorem Cnode {v : Vt} {G many mx va : Nat} {rep : Bool} {en : Nat} (hV : Va v) (hMd : Md va many mx rep en) (hG : G < 3) : ∀ k p, p + k + 1 = many → ∀ D, k < D → ∀ (us : Nat → Vt) (row : Nat → Nat) (σ : Sg), UG v p us → (∀ i, i < p → row i < 8) → CQ σ v G many mx rep en → DS σ v p us row → ∃ σ', f_X2_walk D 273 (nI p) σ = some (nI (nd va G k p (us p) row).1, σ') ∧ Cout σ σ' v many va p us row (nd va G k p (us p) row) := by
  have h0 := hV.1
  have h1 := hV.2.1
  have hm5 := hMd.1
  obtain ⟨s0, s1, s2, s3, s4, s5, s6, s7, -⟩ := sx
  have hen : ∀ r, (va = 0 ∨ r = 0) → r ≤ 32768 → ¬ nI en ≤ nI r := fun r hr hb => by
    have : en = 1 ∨ en = 1000000 := by rcases hMd.2 with ⟨_, _, _, _, e⟩ | ⟨_, _, _, e⟩ <;> omega
    rw [n_le (by omega) (by omega)]
    rcases hMd.2 with ⟨e1, _, _, _, e⟩ | ⟨_, _, _, e⟩ <;> omega
  have hen2 : ∀ r, va ≠ 0 → r ≠ 0 → r ≤ 65536 → nI en ≤ nI r := fun r hv hr hb => by
    have e : en = 1 := by rcases hMd.2 with ⟨_, _, _, _, e⟩ | ⟨z, _, _, e⟩; exact e; exact absurd z hv
    rw [n_le (by omega) (by omega)]; omega
  intro k
  induction k with
  | zero =>
    intro p hpk D hD us row σ hU hrw hC hDS
    obtain ⟨D, rfl⟩ : ∃ d, D = d + 1 := ⟨D - 1, by omega⟩
    rw [f_X2_walk, if_pos kd_273, nd_eq]
    have inner : ∀ m c, m + c = v 1 → ∀ r n (τ : Sg), r + m ≤ 8 → (va = 0 ∨ r = 0) → m < n → CQ τ v G many mx rep en → DS τ v p us row → ∃ σ', f_X2_walk_4 (f_X2_walk D) n 273 (nI p) (nI r) (nI c) τ = some (nI (r + (lp va (ndS va G 0 p) (us p) p m c row).1), σ') ∧ Cout τ σ' v many va p us row (lp va (ndS va G 0 p) (us p) p m c row) := by
      intro m
      induction m with
      | zero =>
        intro c hmc r n τ hrb hr hn hCt hDt
        obtain ⟨n, rfl⟩ : ∃ z, n = z + 1 := ⟨n - 1, by omega⟩
        refine ⟨τ, ?_, hDt, fun hs => by rw [lp] at hs; unfold stopB at hs; simp at hs, fun k _ => rfl⟩
        rw [f_X2_walk_4, if_pos kd_273, hCt.2.2.2.1, if_neg (by rw [n_le (by omega) (by omega)]; omega), hCt.2.1, if_pos (by rw [n_le (by omega) (by omega)]; omega), lp, Nat.add_zero]
      | succ m ih =>
        intro c hmc r n τ hrb hr hn hCt hDt
        obtain ⟨n, rfl⟩ : ∃ z, n = z + 1 := ⟨n - 1, by omega⟩
        have f113 : ∀ r' τ', f_X2_walk_113 (f_X2_walk D) (f_X2_walk_4 (f_X2_walk D) n) 273 (nI p) (nI r') (nI c) τ' = f_X2_walk_4 (f_X2_walk D) n 273 (nI p) (nI r') (nI (c + 1)) τ' := fun r' τ' => by
          rw [f_X2_walk_113, if_pos kd_273, show (nI c + 1 : Int32) = nI (c + 1) from nI_1 _]
        rw [f_X2_walk_4, if_pos kd_273, hCt.2.2.2.1, if_neg (by rw [n_le (by omega) (by omega)]; omega), hCt.2.1, if_neg (by rw [n_le (by omega) (by omega)]; omega), hCt.2.2.2.2.2.2.1, if_neg (hen r hr (by omega)), mayC hCt hDt hMd hU hV hrw (by omega) (by omega), cb_some]
        cases hok : (okc va row p c && fitV (us p) c) with
        | false =>
          obtain ⟨σ', e1, e2⟩ := ih (c + 1) (by omega) r n τ (by omega) hr (by omega) hCt hDt
          have el : lp va (ndS va G 0 p) (us p) p (m + 1) c row = lp va (ndS va G 0 p) (us p) p m (c + 1) row := by rw [lp, hok]; rfl
          rw [if_pos bf, f113, el]
          exact ⟨σ', e1, e2⟩
        | true =>
          rw [Bool.and_eq_true] at hok
          have hC2 : CQ (up τ 295 p (nI c)) v G many mx rep en := CQ_loc hCt h1 (fun k hk => up_o _ _ _ _ (by unfold dyn at hk; omega))
          have hD2 : DS (up τ 295 p (nI c)) v p us row := DS_295 hDt (by omega) _
          obtain ⟨t0, t1, t2⟩ := sx3 (show p < 6 by omega)
          obtain ⟨t3, t4, t5⟩ := sx0 (show c < 9 by omega)
          obtain ⟨hVp, hAp⟩ := hU p (Nat.le_refl _)
          obtain ⟨g1, g2, g3⟩ := AG_go hAp c
          have hcu : c < us p 1 := by rw [hAp 1 (by omega)]; omega
          have hu0 : us p 0 = v 0 := hAp 0 (by omega)
          have egoal : f_X2_isGoalBehind 273 (nI c) (nI p) (up τ 295 p (nI c)) = some (bI (gl G (mvv (us p) c)), up τ 295 p (nI c)) := by
            rw [f_X2_isGoalBehind, if_pos kd_273, if_pos (by rw [inb_nI (by omega)]; exact decide_eq_true (by omega)), if_pos (by rw [inb_nI (by omega)]; exact decide_eq_true (by omega)), s3, s0, ix_nI (by omega), ix_nI (by omega), t0, t3]
            exact goalC (v := v) (fr := plv (us p)) t1 t4 t2 t5 h0 hG hC2.1 hC2.2.2.1 hC2.2.2.2.2.2.2.2.2.2.2 (Va_mv hVp hcu) (AG_mv hAp h0) (fun d hd => ⟨(hD2.1 p (Nat.le_refl _)).1 d hd, plv_lt hVp (by omega), by rw [hC2.2.2.2.2.2.2.2.1 c (by omega) _ (plv_lt hVp (by omega)), ← g1, ← g2, plv_mv hVp (by omega)]⟩)
          rw [if_neg bt, if_pos (by rw [inb_nI (by omega)]; exact decide_eq_true (by omega)), s6, ix_nI (by omega)]
          simp only [bnE]
          rw [hC2.2.2.2.1, show (nI p + 1 : Int32) = nI (p + 1) from nI_1 _, if_pos (by rw [show p + 1 = many by omega]), egoal, cb_some]
          have f72 : ∀ z, f_X2_walk_72 (f_X2_walk D) (f_X2_walk_4 (f_X2_walk D) n) 273 (nI p) (nI c) (nI r) (nI z) (up τ 295 p (nI c)) = f_X2_walk_4 (f_X2_walk D) n 273 (nI p) (nI (r + z)) (nI (c + 1)) (up τ 295 p (nI c)) := fun z => by
            rw [f_X2_walk_72, if_pos kd_273, nI_add]
            simp only [bnE]
            rw [f113]
          have eg2 : (if bI (gl G (mvv (us p) c)) = 0 then f_X2_walk_72 (f_X2_walk D) (f_X2_walk_4 (f_X2_walk D) n) 273 (nI p) (nI c) (nI r) 0 (up τ 295 p (nI c)) else f_X2_walk_72 (f_X2_walk D) (f_X2_walk_4 (f_X2_walk D) n) 273 (nI p) (nI c) (nI r) 1 (up τ 295 p (nI c))) = f_X2_walk_4 (f_X2_walk D) n 273 (nI p) (nI (r + if gl G (mvv (us p) c) then 1 else 0)) (nI (c + 1)) (up τ 295 p (nI c)) := by
            cases gl G (mvv (us p) c) with
            | false => rw [if_pos bf]; exact f72 0
            | true => rw [if_neg bt]; exact f72 1
          rw [eg2]
          have hb1 : (if gl G (mvv (us p) c) then 1 else 0) ≤ 1 := by split <;> omega
          have e2 : lp va (ndS va G 0 p) (us p) p (m + 1) c row = if stopB va (if gl G (mvv (us p) c) then 1 else 0) then (if gl G (mvv (us p) c) then 1 else 0, fu row p c) else ((if gl G (mvv (us p) c) then 1 else 0) + (lp va (ndS va G 0 p) (us p) p m (c + 1) row).1, (lp va (ndS va G 0 p) (us p) p m (c + 1) row).2) := by rw [lp, hok.1, hok.2]; rfl
          have hlo : ∀ k, ¬ dyn k → (up τ 295 p (nI c)) k = τ k := fun k hk => up_o _ _ _ _ (by unfold dyn at hk; omega)
          cases hst : stopB va (if gl G (mvv (us p) c) then 1 else 0) with
          | true =>
            obtain ⟨z1, z2⟩ := stop_t hst
            obtain ⟨n, rfl⟩ : ∃ z, n = z + 1 := ⟨n - 1, by omega⟩
            rw [e2, hst, if_pos rfl]
            refine ⟨up τ 295 p (nI c), ?_, hD2, fun _ i hi => ?_, hlo⟩
            · rw [f_X2_walk_4, if_pos kd_273, hC2.2.2.2.1, if_neg (by rw [n_le (by omega) (by omega)]; omega), hC2.2.2.2.2.2.2.1, if_pos (hen2 (r + if gl G (mvv (us p) c) then 1 else 0) z1 (by omega) (by omega))]
              split <;> rfl
            · show (up τ 295 p (nI c)) 295 i = nI (fu row p c i)
              by_cases e : i = p
              · rw [e, fu_s, ux_s]
              · rw [fu_n _ _ e]; exact hD2.2.1 i (by omega)
          | false =>
            obtain ⟨σ', e1, w1, w2, w3⟩ := ih (c + 1) (by omega) (r + if gl G (mvv (us p) c) then 1 else 0) n (up τ 295 p (nI c)) (by omega) (by rcases hr with y | y; exact Or.inl y; rcases stop_f hst with y2 | y2; exact Or.inl y2; exact Or.inr (by rw [y, y2])) (by omega) hC2 hD2
            have hz : ∀ y : Nat, stopB va ((if gl G (mvv (us p) c) then 1 else 0) + y) = stopB va y := fun y => by
              rcases stop_f hst with z | z
              · rw [z]; rfl
              · rw [z, Nat.zero_add]
            rw [e2, hst, if_neg (show ¬ (false = true) by simp), e1]
            refine ⟨σ', by dsimp only; rw [Nat.add_assoc], w1, fun hs => ?_, fun k hk => by rw [w3 k hk, hlo k hk]⟩
            dsimp only at hs ⊢
            rw [hz] at hs
            exact w2 hs
    have hA1 := (hU p (Nat.le_refl _)).2 1 (by omega)
    obtain ⟨σ', e1, e2⟩ := inner (v 1) 0 (by omega) 0 FU σ (by omega) (Or.inr rfl) (FU_gt (by omega)) hC hDS
    rw [Nat.zero_add] at e1
    rw [hA1]
    exact ⟨σ', e1, e2⟩
  | succ k ihk =>
    intro p hpk D hD us row σ hU hrw hC hDS
    obtain ⟨D, rfl⟩ : ∃ d, D = d + 1 := ⟨D - 1, by omega⟩
    rw [f_X2_walk, if_pos kd_273, nd_eq]
    have hpow : 8 * 8 ^ (k + 1) ≤ 32768 := (by decide : ∀ j, j < 4 → 8 * 8 ^ (j + 1) ≤ 32768) k (by omega)
    have inner : ∀ m c, m + c = v 1 → ∀ r n (τ : Sg), r + m * 8 ^ (k + 1) ≤ 8 * 8 ^ (k + 1) → (va = 0 ∨ r = 0) → m < n → CQ τ v G many mx rep en → DS τ v p us row → ∃ σ', f_X2_walk_4 (f_X2_walk D) n 273 (nI p) (nI r) (nI c) τ = some (nI (r + (lp va (ndS va G (k + 1) p) (us p) p m c row).1), σ') ∧ Cout τ σ' v many va p us row (lp va (ndS va G (k + 1) p) (us p) p m c row) := by
      intro m
      induction m with
      | zero =>
        intro c hmc r n τ hrb hr hn hCt hDt
        obtain ⟨n, rfl⟩ : ∃ z, n = z + 1 := ⟨n - 1, by omega⟩
        refine ⟨τ, ?_, hDt, fun hs => by rw [lp] at hs; unfold stopB at hs; simp at hs, fun k _ => rfl⟩
        rw [f_X2_walk_4, if_pos kd_273, hCt.2.2.2.1, if_neg (by rw [n_le (by omega) (by omega)]; omega), hCt.2.1, if_pos (by rw [n_le (by omega) (by omega)]; omega), lp, Nat.add_zero]
      | succ m ih =>
        intro c hmc r n τ hrb hr hn hCt hDt
        obtain ⟨n, rfl⟩ : ∃ z, n = z + 1 := ⟨n - 1, by omega⟩
        rw [Nat.succ_mul] at hrb
        have f113 : ∀ r' τ', f_X2_walk_113 (f_X2_walk D) (f_X2_walk_4 (f_X2_walk D) n) 273 (nI p) (nI r') (nI c) τ' = f_X2_walk_4 (f_X2_walk D) n 273 (nI p) (nI r') (nI (c + 1)) τ' := fun r' τ' => by
          rw [f_X2_walk_113, if_pos kd_273, show (nI c + 1 : Int32) = nI (c + 1) from nI_1 _]
        rw [f_X2_walk_4, if_pos kd_273, hCt.2.2.2.1, if_neg (by rw [n_le (by omega) (by omega)]; omega), hCt.2.1, if_neg (by rw [n_le (by omega) (by omega)]; omega), hCt.2.2.2.2.2.2.1, if_neg (hen r hr (by omega)), mayC hCt hDt hMd hU hV hrw (by omega) (by omega), cb_some]
        cases hok : (okc va row p c && fitV (us p) c) with
        | false =>
          obtain ⟨σ', e1, e2⟩ := ih (c + 1) (by omega) r n τ (by omega) hr (by omega) hCt hDt
          have el : lp va (ndS va G (k + 1) p) (us p) p (m + 1) c row = lp va (ndS va G (k + 1) p) (us p) p m (c + 1) row := by rw [lp, hok]; rfl
          rw [if_pos bf, f113, el]
          exact ⟨σ', e1, e2⟩
        | true =>
          rw [Bool.and_eq_true] at hok
          have hC2 : CQ (up τ 295 p (nI c)) v G many mx rep en := CQ_loc hCt h1 (fun k hk => up_o _ _ _ _ (by unfold dyn at hk; omega))
          have hD2 : DS (up τ 295 p (nI c)) v p us row := DS_295 hDt (by omega) _
          obtain ⟨hVp, hAp⟩ := hU p (Nat.le_refl _)
          have hcu : c < us p 1 := by rw [hAp 1 (by omega)]; omega
          have hu0 : us p 0 = v 0 := hAp 0 (by omega)
          have ib : inb (nI c) 8 = true := by rw [inb_nI (by omega)]; exact decide_eq_true (by omega)
          obtain ⟨τ6, e6, p1, p2, p3, p4⟩ := stepC hC2 hD2 hU h0 h1 (by omega) (show c < v 1 by omega)
          have e296 : τ6 296 c = nI (cn (fun i => row i == c) p) := by rw [p4 296 (by omega) (by omega)]; exact hD2.2.2 c (by omega)
          have hcnle := cn_le (fun i => row i == c) p
          rw [if_neg bt, if_pos (by rw [inb_nI (by omega)]; exact decide_eq_true (by omega)), s6, ix_nI (by omega)]
          simp only [bnE]
          rw [hC2.2.2.2.1, show (nI p + 1 : Int32) = nI (p + 1) from nI_1 _, if_neg (by rw [n_eq (by omega) (by omega)]; omega), e6, cb_some, if_pos ib, if_pos ib, s7, ix_nI (by omega), e296, show (nI (cn (fun i => row i == c) p) + 1 : Int32) = nI (cn (fun i => row i == c) p + 1) from nI_1 _]
          -- the state below
          have hlo6 : ∀ k, ¬ dyn k → (up τ6 296 c (nI (cn (fun i => row i == c) p + 1))) k = τ k := fun k hk => by
            unfold dyn at hk
            rw [up_o _ _ _ _ (by omega), p4 k (by omega) (by omega), up_o _ _ _ _ (by omega)]
          have hC3 : CQ (up τ6 296 c (nI (cn (fun i => row i == c) p + 1))) v G many mx rep en := CQ_loc hCt h1 hlo6
          have hUm : UG v (p + 1) (uw us (p + 1) (mvv (us p) c)) := fun i hi => by
            by_cases e : i = p + 1
            · subst e; rw [uw_s]; exact ⟨Va_mv hVp hcu, AG_mv hAp h0⟩
            · rw [uw_n _ _ e]; exact hU i (by omega)
          have hD3 : DS (up τ6 296 c (nI (cn (fun i => row i == c) p + 1))) v (p + 1) (uw us (p + 1) (mvv (us p) c)) (fu row p c) := by
            refine ⟨fun i hi => ?_, fun i hi => ?_, fun x hx => ?_⟩
            · rw [ux_o _ _ _ _ (by omega)]
              by_cases e : i = p + 1
              · subst e; rw [uw_s]
                exact ⟨fun d hd => by rw [ux_o _ _ _ _ (by omega), show 287 + (p + 1) = 288 + p by omega]; exact p1 d hd, p2⟩
              · rw [uw_n _ _ e, p3 i e]
                refine ⟨fun d hd => ?_, by rw [ux_o _ _ _ _ (by omega)]; exact (hDt.1 i (by omega)).2⟩
                rw [ux_o _ _ _ _ (by omega), p4 _ (by omega) (by omega), ux_o _ _ _ _ (by omega)]
                exact (hDt.1 i (by omega)).1 d hd
            · rw [ux_o _ _ _ _ (by omega), p4 295 (by omega) (by omega)]
              by_cases e : i = p
              · rw [e, fu_s, ux_s]
              · rw [fu_n _ _ e, ux_n _ _ _ e]; exact hDt.2.1 i (by omega)
            · rw [cn_fu]
              by_cases e : c = x
              · subst e; rw [ux_s, if_pos rfl]
              · rw [ux_n _ _ _ (fun q => e q.symm), if_neg e, Nat.add_zero, p4 296 (by omega) (by omega)]
                exact hD2.2.2 x hx
          obtain ⟨τ11, e11, w1, w2, w3⟩ := ihk (p + 1) (by omega) D (by omega) (uw us (p + 1) (mvv (us p) c)) (fu row p c) (up τ6 296 c (nI (cn (fun i => row i == c) p + 1))) hUm (fun i hi => by by_cases e : i = p; rw [e, fu_s]; omega; rw [fu_n _ _ e]; exact hrw i (by omega)) hC3 hD3
          rw [uw_s] at e11 w2
          have hbq := nd_bd va G k (p + 1) (mvv (us p) c) (fu row p c) (by rw [(mvv_1 (by omega)).2.1]; omega) (by rw [(mvv_1 (by omega)).1, hAp 1 (by omega)]; exact h1)
          generalize hqq : nd va G k (p + 1) (mvv (us p) c) (fu row p c) = q at e11 w2 hbq
          have e296b : τ11 296 c = nI (cn (fun i => row i == c) p + 1) := by
            have := w1.2.2 c (by omega)
            rw [cn_fu, if_pos rfl] at this
            exact this
          rw [e11, cb_some, nI_add, if_pos ib, if_pos ib, e296b, show (nI (cn (fun i => row i == c) p + 1) - 1 : Int32) = nI (cn (fun i => row i == c) p + 1 - 1) from n_sub (b := 1) (by omega), show cn (fun i => row i == c) p + 1 - 1 = cn (fun i => row i == c) p by omega, f113]
          have hD4 : DS (up τ11 296 c (nI (cn (fun i => row i == c) p))) v p us row := by
            refine ⟨fun i hi => ?_, fun i hi => ?_, fun x hx => ?_⟩
            · have := w1.1 i (by omega)
              rw [uw_n _ _ (by omega)] at this
              rw [ux_o _ _ _ _ (by omega)]
              exact ⟨fun d hd => by rw [ux_o _ _ _ _ (by omega)]; exact this.1 d hd, this.2⟩
            · have := w1.2.1 i (by omega)
              rw [fu_n _ _ (by omega)] at this
              rw [ux_o _ _ _ _ (by omega)]; exact this
            · by_cases e : c = x
              · subst e; rw [ux_s]
              · have := w1.2.2 x hx
                rw [cn_fu, if_neg e, Nat.add_zero] at this
                rw [ux_n _ _ _ (fun q => e q.symm)]; exact this
          have hlo11 : ∀ k, ¬ dyn k → (up τ11 296 c (nI (cn (fun i => row i == c) p))) k = τ k := fun k hk => by
            rw [up_o _ _ _ _ (by unfold dyn at hk; omega), w3 k hk, hlo6 k hk]
          have hC4 : CQ (up τ11 296 c (nI (cn (fun i => row i == c) p))) v G many mx rep en := CQ_loc hCt h1 hlo11
          have e2 : lp va (ndS va G (k + 1) p) (us p) p (m + 1) c row = if stopB va q.1 then q else (q.1 + (lp va (ndS va G (k + 1) p) (us p) p m (c + 1) row).1, (lp va (ndS va G (k + 1) p) (us p) p m (c + 1) row).2) := by
            rw [lp, hok.1, hok.2, show ndS va G (k + 1) p (mvv (us p) c) (fu row p c) = q from hqq]; rfl
          cases hst : stopB va q.1 with
          | true =>
            obtain ⟨z1, z2⟩ := stop_t hst
            obtain ⟨n, rfl⟩ : ∃ z, n = z + 1 := ⟨n - 1, by omega⟩
            rw [e2, hst, if_pos rfl]
            refine ⟨up τ11 296 c (nI (cn (fun i => row i == c) p)), ?_, hD4, fun _ i hi => ?_, hlo11⟩
            · rw [f_X2_walk_4, if_pos kd_273, hC4.2.2.2.1, if_neg (by rw [n_le (by omega) (by omega)]; omega), hC4.2.2.2.2.2.2.1, if_pos (hen2 (r + q.1) z1 (by omega) (by omega))]
              split <;> rfl
            · rw [ux_o _ _ _ _ (by omega)]; exact w2 hst i hi
          | false =>
            obtain ⟨σ', e1, y1, y2, y3⟩ := ih (c + 1) (by omega) (r + q.1) n (up τ11 296 c (nI (cn (fun i => row i == c) p))) (by omega) (by rcases hr with y | y; exact Or.inl y; rcases stop_f hst with y2 | y2; exact Or.inl y2; exact Or.inr (by rw [y, y2])) (by omega) hC4 hD4
            have hz : ∀ y : Nat, stopB va (q.1 + y) = stopB va y := fun y => by
              rcases stop_f hst with z | z
              · rw [z]; rfl
              · rw [z, Nat.zero_add]
            rw [e2, hst, if_neg (show ¬ (false = true) by simp), e1]
            refine ⟨σ', by dsimp only; rw [Nat.add_assoc], y1, fun hs => ?_, fun k hk => by rw [y3 k hk, hlo11 k hk]⟩
            dsimp only at hs ⊢
            rw [hz] at hs
            exact y2 hs
    have hA1 := (hU p (Nat.le_refl _)).2 1 (by omega)
    have hle8 : v 1 * 8 ^ (k + 1) ≤ 8 * 8 ^ (k + 1) := Nat.mul_le_mul_right _ h1
    obtain ⟨σ', e1, e2⟩ := inner (v 1) 0 (by omega) 0 FU σ (by omega) (Or.inr rfl) (FU_gt (by omega)) hC hDS
    rw [Nat.zero_add] at e1
    rw [hA1]
    exact ⟨σ', e1, e2⟩
