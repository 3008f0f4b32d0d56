/-! rows, finds, found -/
theorem loopK {S β : Type} (F : Nat → Nat → S → β) (K : S → β) (I : Nat → S → Prop) (N : Nat) (hz : ∀ n s, I N s → F (n + 1) N s = K s) (hs : ∀ n j s, j < N → I j s → ∃ s', F (n + 1) j s = F n (j + 1) s' ∧ I (j + 1) s') : ∀ n j s, j ≤ N → N - j < n → I j s → ∃ s', F n j s = K s' ∧ I N s' := by
  intro n
  induction n with
  | zero => intro j s a b; omega
  | succ n ih =>
    intro j s a b h
    rcases Nat.lt_or_ge j N with q | q
    · obtain ⟨s', e, h'⟩ := hs n j s q h
      rw [e]; exact ih (j + 1) s' q (by omega) h'
    · have e : j = N := by omega
      subst e
      exact ⟨s, hz n s h, h⟩
theorem fillC {σ : Sg} : ∃ σ', f_J7_fill_53178 296 0 σ = some ((), σ') ∧ (∀ i, i < 8 → σ' 296 i = nI 0) ∧ ∀ k, k ≠ 296 → σ' k = σ k := by
  obtain ⟨-, -, -, -, -, -, -, -, k1, k2⟩ := sx
  rw [f_J7_fill_53178, if_pos k1, k2]
  simp only [bnE]
  have key := loopI (fun n j τ => f_J7_fill_53178_5 n 296 0 (nI j) (nI 8) τ) (fun j τ => (∀ i, i < j → τ 296 i = nI 0) ∧ ∀ k, k ≠ 296 → τ k = σ k) (fun q => (∀ i, i < 8 → q.2 296 i = nI 0) ∧ ∀ k, k ≠ 296 → q.2 k = σ k) 8 ?_ ?_ FU 0 σ (by omega) (FU_gt (by omega)) ⟨fun i hi => absurd hi (Nat.not_lt_zero _), fun k _ => rfl⟩
  · obtain ⟨⟨⟨⟩, τ'⟩, e, h2⟩ := key
    exact ⟨τ', e, h2⟩
  · intro n τ hI
    refine ex_of (a := ((), τ)) ?_ hI
    rw [f_J7_fill_53178_5, if_pos k1, if_pos (by decide)]
  · intro n j τ hj hI
    obtain ⟨i1, i2⟩ := hI
    refine stp (s' := up τ 296 j (nI 0)) ?_ ⟨fun i hi => ?_, fun k hk => by rw [up_o _ _ _ _ hk]; exact i2 k hk⟩
    · rw [f_J7_fill_53178_5, if_pos k1, if_neg (by rw [n_le (by omega) (by omega)]; omega), k2, if_pos (by rw [inb_nI (by omega)]; exact decide_eq_true (by omega)), ix_nI (by omega)]
      simp only [bnE]
      rw [show (nI j + 1 : Int32) = nI (j + 1) from nI_1 _]; rfl
    · by_cases e : i = j
      · rw [e, ux_s]
      · rw [ux_n _ _ _ e]; exact i1 i (by omega)
/-- the tables -/
def Tb (σ : Sg) (v : Vt) (m : Nat) : Prop := ∀ c, c < m → (∀ p, p < 48 → σ (275 + c) p = nI (pb (go v c) (tu v c) p)) ∧ σ 284 c = nI (bm (fun s => wa v c s == 1) 12) ∧ σ 285 c = nI (bm (fun s => wa v c s == 2) 12)
theorem start125 {τ : Sg} {v : Vt} {g : Int32} {c : Nat} (hC : Cl τ 1 v g) (hV : Va v) (hc : c < v 1) (rc : Nat → Nat → Int32 → Sg → Option (Unit × Sg)) : ∃ τ', f_X2_start_125 rc FU 273 1 (nI c) 0 τ = rc 273 1 (nI (c + 1)) τ' ∧ (∀ p, p < 48 → τ' (275 + c) p = nI (pb (go v c) (tu v c) p)) ∧ ∀ k, k ≠ 275 + c → τ' k = τ k := by
  have h1 := hV.2.1
  obtain ⟨r0, r1, -⟩ := c_at (show c < 8 by omega)
  obtain ⟨t0, t1, t2⟩ := sx0 (show c < 9 by omega)
  have ca := Ca_of hC hc
  have cb' := Cb_of hV hc
  have key := loopK (fun n j s => f_X2_start_125 rc n 273 1 (nI c) (nI j) s) (fun s => rc 273 1 (nI (c + 1)) s) (fun j s => (∀ p, p < j → s (275 + c) p = nI (pb (go v c) (tu v c) p)) ∧ ∀ k, k ≠ 275 + c → s k = τ k) 48 ?_ ?_ FU 0 τ (by omega) (FU_gt (by omega)) ⟨fun p hp => absurd hp (Nat.not_lt_zero _), fun k _ => rfl⟩
  · exact key
  · intro n s hI
    rw [f_X2_start_125, if_pos kd_273, if_pos kd_1, if_pos (by decide), show (nI c + 1 : Int32) = nI (c + 1) from nI_1 _]
  · intro n j s hj hI
    obtain ⟨i1, i2⟩ := hI
    have hCa : Ca s (7 + 4 * c) (go v c) (tu v c) (wa v c) := fun x hx => by rw [i2 _ (by omega), i2 _ (by omega), i2 _ (by omega)]; exact ca x hx
    refine ⟨up s (275 + c) j (nI (pb (go v c) (tu v c) j)), ?_, fun p hp => ?_, fun k hk => by rw [up_o _ _ _ _ hk]; exact i2 k hk⟩
    · rw [f_X2_start_125, if_pos kd_273, if_pos kd_1, if_neg (by rw [show (48 : Int32) = nI 48 from rfl, n_le (by omega) (by omega)]; omega), if_pos (by rw [inb_nI (by omega)]; exact decide_eq_true (by omega)), if_pos (by rw [inb_nI (by omega)]; exact decide_eq_true (by omega)), rf_1_4, sx.1, ix_nI (by omega), r0, t0, show f_X0_placeBehind (7 + 4 * c) (nI j) s = some (nI (pb (go v c) (tu v c) j), s) from pbehind r1 hCa cb' hj, cb_some, if_pos (by rw [inb_nI (by omega)]; exact decide_eq_true (by omega)), ix_nI (by omega)]
      simp only [bnE]
      rw [show (nI j + 1 : Int32) = nI (j + 1) from nI_1 _]
    · by_cases e : p = j
      · rw [e, ux_s]
      · rw [ux_n _ _ _ e]; exact i1 p (by omega)
theorem start82 {τ : Sg} {v : Vt} {g : Int32} (hC : Cl τ 1 v g) (hV : Va v) (h9 : τ 273 9 = nI (v 1)) : ∃ τ', f_X2_start_82 FU 273 1 0 τ = some ((), τ') ∧ Tb τ' v (v 1) ∧ ∀ k, (k < 275 ∨ 283 ≤ k) → k ≠ 284 → k ≠ 285 → τ' k = τ k := by
  have h1 := hV.2.1
  obtain ⟨s0, s1, s2, s3, s4, s5, s6, s7, -⟩ := sx
  have key := loopI (fun n j s => f_X2_start_82 n 273 1 (nI j) s) (fun j s => Tb s v j ∧ ∀ k, (k < 275 ∨ 283 ≤ k) → k ≠ 284 → k ≠ 285 → s k = τ k) (fun q => Tb q.2 v (v 1) ∧ ∀ k, (k < 275 ∨ 283 ≤ k) → k ≠ 284 → k ≠ 285 → q.2 k = τ k) (v 1) ?_ ?_ FU 0 τ (by omega) (FU_gt (by omega)) ⟨fun c hc => absurd hc (Nat.not_lt_zero _), fun k _ _ _ => rfl⟩
  · obtain ⟨⟨⟨⟩, τ'⟩, e, h2⟩ := key
    exact ⟨τ', e, h2⟩
  · intro n s hI
    refine ex_of (a := ((), s)) ?_ hI
    rw [f_X2_start_82, if_pos kd_273, if_pos kd_1, hI.2 273 (by omega) (by omega) (by omega), h9, if_pos (by rw [n_le (by omega) (by omega)]; omega)]
  · intro n j s hj hI
    obtain ⟨i1, i2⟩ := hI
    obtain ⟨r0, r1, -⟩ := c_at (show j < 8 by omega)
    have ib : inb (nI j) 8 = true := by rw [inb_nI (by omega)]; exact decide_eq_true (by omega)
    have hCs : Cl s 1 v g := Cl_loc hC h1 (fun k a b => i2 k (by omega) (by omega) (by omega))
    have hC2 : Cl (up s 284 j (nI (bm (fun x => wa v j x == 1) 12))) 1 v g := Cl_loc hCs h1 (fun k a b => up_o _ _ _ _ (by omega))
    have hC3 : Cl (up (up s 284 j (nI (bm (fun x => wa v j x == 1) 12))) 285 j (nI (bm (fun x => wa v j x == 2) 12))) 1 v g := Cl_loc hC2 h1 (fun k a b => up_o _ _ _ _ (by omega))
    obtain ⟨s', e, q1, q2⟩ := start125 hC3 hV hj (f_X2_start_82 n)
    refine stp (s' := s') ?_ ⟨fun c hc => ?_, fun k a b d => by rw [q2 k (by omega), up_o _ _ _ _ d, up_o _ _ _ _ b]; exact i2 k a b d⟩
    · rw [f_X2_start_82, if_pos kd_273, if_pos kd_1, i2 273 (by omega) (by omega) (by omega), h9, if_neg (by rw [n_le (by omega) (by omega)]; omega), if_pos ib, rf_1_4, ix_nI (by omega), r0, show f_X0_spotsThatWant (7 + 4 * j) 1 s = some (nI (bm (fun x => wa v j x == 1) 12), s) from swant r1 (Ca_of hCs hj) (Cb_of hV hj) (w := 1) (by omega), cb_some, if_pos ib, s1, s2]
      simp only [bnE]
      rw [if_pos ib, show f_X0_spotsThatWant (7 + 4 * j) 2 (up s 284 j (nI (bm (fun x => wa v j x == 1) 12))) = some (nI (bm (fun x => wa v j x == 2) 12), up s 284 j (nI (bm (fun x => wa v j x == 1) 12))) from swant r1 (Ca_of hC2 hj) (Cb_of hV hj) (w := 2) (by omega), cb_some, if_pos ib, e]
    · rw [q2 284 (by omega), q2 285 (by omega)]
      by_cases e : c = j
      · subst e
        exact ⟨q1, by rw [ux_o _ _ _ _ (by omega), ux_s], by rw [ux_s]⟩
      · obtain ⟨w1, w2, w3⟩ := i1 c (by omega)
        refine ⟨fun p hp => ?_, by rw [ux_o _ _ _ _ (by omega), ux_n _ _ _ e]; exact w2, by rw [ux_n _ _ _ e, ux_o _ _ _ _ (by omega)]; exact w3⟩
        rw [q2 _ (by omega), ux_o _ _ _ _ (by omega), ux_o _ _ _ _ (by omega)]; exact w1 p hp
theorem startC {σ : Sg} {v : Vt} {g : Int32} {G : Nat} (hC : Cl σ 1 v g) (hV : Va v) : ∃ σ', f_X2_start 273 1 (nI G) σ = some ((), σ') ∧ σ' 273 8 = nI (v 0) ∧ σ' 273 9 = nI (v 1) ∧ σ' 273 10 = nI G ∧ Tb σ' v (v 1) ∧ (∀ d, d < v 0 → σ' 294 d = nI (v (6 + 4 * d) * 4 + v (7 + 4 * d))) ∧ DS σ' v 0 (fun _ => v) (fun _ => 0) ∧ ∀ k, (k < 273 ∨ k = 283 ∨ 297 ≤ k) → σ' k = σ k := by
  have h0 := hV.1
  have h1 := hV.2.1
  obtain ⟨s0, s1, s2, s3, s4, s5, s6, s7, -⟩ := sx
  obtain ⟨t0, t1, t2⟩ := sx3 (show 0 < 6 by omega)
  rw [Nat.add_zero] at t0 t1 t2
  obtain ⟨c0, c3, c5, c8, cd, cc, cp⟩ := id hC
  let A : Sg := up (up (up σ 273 10 (nI G)) 273 8 (nI (v 0))) 273 9 (nI (v 1))
  let B : Sg := cpy (cpy A 3 0 294 0 8) 2 0 287 0 8
  have lA : ∀ k, k ≠ 273 → A k = σ k := fun k hk => by show up (up (up σ 273 10 (nI G)) 273 8 (nI (v 0))) 273 9 (nI (v 1)) k = σ k; rw [up_o _ _ _ _ hk, up_o _ _ _ _ hk, up_o _ _ _ _ hk]
  have lB : ∀ k, k ≠ 273 → k ≠ 287 → k ≠ 294 → B k = σ k := fun k a b c => by show cpy (cpy A 3 0 294 0 8) 2 0 287 0 8 k = σ k; rw [cpy_o _ _ _ _ _ _ b, cpy_o _ _ _ _ _ _ c, lA k a]
  have B273 : B 273 = A 273 := by show cpy (cpy A 3 0 294 0 8) 2 0 287 0 8 273 = A 273; rw [cpy_o _ _ _ _ _ _ (by omega), cpy_o _ _ _ _ _ _ (by omega)]
  have B8 : B 273 8 = nI (v 0) := by rw [B273]; show up (up (up σ 273 10 (nI G)) 273 8 (nI (v 0))) 273 9 (nI (v 1)) 273 8 = nI (v 0); rw [ux_n _ _ _ (by omega), ux_s]
  have B9 : B 273 9 = nI (v 1) := by rw [B273]; show up (up (up σ 273 10 (nI G)) 273 8 (nI (v 0))) 273 9 (nI (v 1)) 273 9 = nI (v 1); rw [ux_s]
  have B10 : B 273 10 = nI G := by rw [B273]; show up (up (up σ 273 10 (nI G)) 273 8 (nI (v 0))) 273 9 (nI (v 1)) 273 10 = nI G; rw [ux_n _ _ _ (by omega), ux_n _ _ _ (by omega), ux_s]
  have B287 : ∀ d, d < v 0 → B 287 d = nI (plv v d) := fun d hd => by
    show cpy (cpy A 3 0 294 0 8) 2 0 287 0 8 287 d = _
    rw [cpy_at, if_pos ⟨rfl, by omega⟩, cpy_o _ _ _ _ _ _ (by omega), lA 2 (by omega)]; exact (cd d hd).1
  have B294 : ∀ d, d < v 0 → B 294 d = nI (v (6 + 4 * d) * 4 + v (7 + 4 * d)) := fun d hd => by
    show cpy (cpy A 3 0 294 0 8) 2 0 287 0 8 294 d = _
    rw [cpy_at, if_neg (by omega), cpy_at, if_pos ⟨rfl, by omega⟩, lA 3 (by omega)]; exact (cd d hd).2
  have hheld : f_X5_heldSpots 287 (nI (v 0)) B = some (nI (bm (occv v) 12), B) := heldV hV t1 t2 B287
  obtain ⟨E, eE, f1, f2⟩ := fillC (σ := up B 293 0 (nI (bm (occv v) 12)))
  have lE : ∀ k, k ≠ 273 → k ≠ 287 → k ≠ 293 → k ≠ 294 → k ≠ 296 → E k = σ k := fun k a b c d e => by rw [f2 k e, up_o _ _ _ _ c, lB k a b d]
  have E273 : E 273 = B 273 := by rw [f2 273 (by omega), up_o _ _ _ _ (by omega)]
  have hCE : Cl E 1 v g := Cl_loc hC h1 (fun k a b => lE k (by omega) (by omega) (by omega) (by omega) (by omega))
  obtain ⟨σ', eS, g1, g2⟩ := start82 hCE hV (by rw [E273]; exact B9)
  have S273 : σ' 273 = B 273 := by rw [g2 273 (by omega) (by omega) (by omega)]; exact E273
  refine ⟨σ', ?_, by rw [S273]; exact B8, by rw [S273]; exact B9, by rw [S273]; exact B10, g1, fun d hd => ?_, ⟨fun i hi => ?_, fun i hi => absurd hi (Nat.not_lt_zero _), fun c hc => ?_⟩, fun k hk => ?_⟩
  · rw [f_X2_start, if_pos kd_273, if_pos kd_1, rf_1_1, rf_1_2, s3, s4, s5, s7, show ix 0 = 0 from rfl, t0]
    simp only [bnE, show inb 0 6 = true by decide, if_true]
    have e1 : (up σ 273 10 (nI G)) 1 0 = nI (v 0) := by rw [ux_o _ _ _ _ (by omega)]; exact c0
    have e2 : (up (up σ 273 10 (nI G)) 273 8 (nI (v 0))) 1 3 = nI (v 1) := by rw [ux_o _ _ _ _ (by omega), ux_o _ _ _ _ (by omega)]; exact c3
    rw [e1, e2]
    show (cb (f_X5_heldSpots 287 (B 273 8) B) fun a8 τ9 => cb (f_J7_fill_53178 296 0 (up τ9 293 0 a8)) fun _ τ13 => f_X2_start_82 FU 273 1 0 τ13) = _
    rw [B8, hheld, cb_some, eE, cb_some, eS]
  · rw [g2 294 (by omega) (by omega) (by omega), f2 294 (by omega), up_o _ _ _ _ (by omega)]; exact B294 d hd
  · have i0 : i = 0 := by omega
    subst i0
    refine ⟨fun d hd => ?_, ?_⟩
    · rw [g2 287 (by omega) (by omega) (by omega), f2 287 (by omega), up_o _ _ _ _ (by omega)]; exact B287 d hd
    · rw [g2 293 (by omega) (by omega) (by omega), f2 293 (by omega), ux_s]
  · rw [g2 296 (by omega) (by omega) (by omega), f1 c (by omega)]; rfl
  · rw [g2 k (by omega) (by omega) (by omega)]; exact lE k (by omega) (by omega) (by omega) (by omega) (by omega)
/-- all but the length is set -/
def CR (σ : Sg) (v : Vt) (G mx : Nat) (rep : Bool) (en : Nat) : Prop := ∀ many : Nat, CQ (up σ 273 11 (nI many)) v G many mx rep en
theorem rowsC {σ : Sg} {v : Vt} {G many mx va : Nat} {rep : Bool} {en : Nat} (hR : CR σ v G mx rep en) (hD : DS σ v 0 (fun _ => v) (fun _ => 0)) (hV : Va v) (hMd : Md va many mx rep en) (hG : G < 3) : ∃ σ', f_X2_rowsOfLength 273 (nI many) σ = some (nI (rsN va G many v).1, σ') ∧ CR σ' v G mx rep en ∧ DS σ' v 0 (fun _ => v) (fun _ => 0) ∧ (stopB va (rsN va G many v).1 = true → ∀ i, i < many → σ' 295 i = nI ((rsN va G many v).2 i)) ∧ ∀ k, (k < 273 ∨ k = 283 ∨ 297 ≤ k) → σ' k = σ k := by
  have h0 := hV.1
  have h1 := hV.2.1
  have hm5 := hMd.1
  have hC := hR many
  have hD1 : DS (up σ 273 11 (nI many)) v 0 (fun _ => v) (fun _ => 0) := by
    obtain ⟨d1, d2, d3⟩ := hD
    refine ⟨fun i hi => ⟨fun d hd => by rw [ux_o _ _ _ _ (by omega)]; exact (d1 i hi).1 d hd, by rw [ux_o _ _ _ _ (by omega)]; exact (d1 i hi).2⟩, fun i hi => absurd hi (Nat.not_lt_zero _), fun c hc => by rw [ux_o _ _ _ _ (by omega)]; exact d3 c hc⟩
  rw [f_X2_rowsOfLength, if_pos kd_273]
  simp only [bnE]
  have hCR : ∀ σ' : Sg, (∀ k, ¬ dyn k → σ' k = (up σ 273 11 (nI many)) k) → CR σ' v G mx rep en := fun σ' h m' => by
    refine CQ_loc (hR m') h1 (fun k hk => ?_)
    by_cases e : k = 273
    · subst e
      funext i
      by_cases e2 : i = 11
      · subst e2; rw [ux_s, ux_s]
      · rw [ux_n _ _ _ e2, ux_n _ _ _ e2, h 273 (by unfold dyn; omega), ux_n _ _ _ e2]
    · rw [up_o _ _ _ _ e, up_o _ _ _ _ e, h k hk, up_o _ _ _ _ e]
  unfold rsN
  by_cases e0 : many = 0
  · subst e0
    rw [if_pos (show nI 0 = 0 from rfl), if_pos rfl]
    obtain ⟨s0, s1, s2, s3, s4, s5, s6, s7, -⟩ := sx
    obtain ⟨t0, t1, t2⟩ := sx3 (show 0 < 6 by omega)
    obtain ⟨t3, t4, t5⟩ := sx0 (show 8 < 9 by omega)
    have eg : f_X2_isGoalBehind 273 8 0 (up σ 273 11 (nI 0)) = some (bI (gl G v), up σ 273 11 (nI 0)) := by
      rw [f_X2_isGoalBehind, if_pos kd_273, if_pos (by decide), if_pos (by decide), s3, s0, show ix 0 = 0 from rfl, show ix 8 = 8 from rfl, t0, t3]
      exact goalC (v := v) (fr := plv v) t1 t4 t2 t5 h0 hG hC.1 hC.2.2.1 hC.2.2.2.2.2.2.2.2.2.2 hV (AG_refl v) (fun d hd => ⟨(hD1.1 0 (Nat.le_refl _)).1 d hd, plv_lt hV hd, hC.2.2.2.2.2.2.2.2.1 _ (plv_lt hV hd)⟩)
    rw [eg, cb_some]
    refine ⟨up σ 273 11 (nI 0), ?_, hCR _ (fun _ _ => rfl), hD1, fun _ i hi => absurd hi (Nat.not_lt_zero _), fun k hk => up_o _ _ _ _ (by omega)⟩
    cases gl G v <;> rfl
  · rw [if_neg (by rw [show (0 : Int32) = nI 0 from rfl, n_eq (by omega) (by omega)]; exact e0), if_neg e0]
    obtain ⟨σ', e1, w1, w2, w3⟩ := Cnode hV hMd hG (many - 1) 0 (by omega) 7 (by omega) (fun _ => v) (fun _ => 0) (up σ 273 11 (nI many)) (fun i _ => ⟨hV, AG_refl v⟩) (fun i hi => absurd hi (Nat.not_lt_zero _)) hC hD1
    rw [show f_X2_walk 7 273 0 (up σ 273 11 (nI many)) = _ from e1, cb_some]
    exact ⟨σ', rfl, hCR σ' w3, w1, w2, fun k hk => by rw [w3 k (by unfold dyn; omega), up_o _ _ _ _ (by omega)]⟩
/-- the fewest -/
def fwF (va g : Nat) (v : Vt) : Nat → Nat → Option Nat
  | 0, _ => none
  | m + 1, j => if (rsN va g j v).1 = 0 then fwF va g v m (j + 1) else some j
theorem fwF_lt (va g : Nat) (v : Vt) : ∀ m j e, fwF va g v m j = some e → j ≤ e ∧ e < j + m := by
  intro m
  induction m with
  | zero => intro j e h; cases h
  | succ m ih =>
    intro j e h
    rw [fwF] at h
    split at h
    · have := ih _ _ h; omega
    · cases h; omega
theorem rsN_bd {va g : Nat} {v : Vt} (hV : Va v) {many : Nat} (hm : many ≤ 5) : (rsN va g many v).1 ≤ 32768 := by
  unfold rsN
  split
  · dsimp only; split <;> omega
  · have := nd_bd va g (many - 1) 0 v (fun _ => 0) hV.1 hV.2.1
    have hb8 : 8 ^ (many - 1 + 1) ≤ 32768 := (by decide : ∀ j, j < 5 → 8 ^ (j + 1) ≤ 32768) (many - 1) (by omega)
    omega
theorem CQ_mk {σ : Sg} {v : Vt} {g : Int32} {G : Nat} (hC : Cl σ 1 v g) (hV : Va v) (h283 : ∀ p, p < 48 → σ 283 p = nI p) (mx : Nat) (rep : Bool) (en : Nat) : ∃ σ', f_X2_start 273 1 (nI G) σ = some ((), σ') ∧ CR (up (up (up σ' 273 12 (nI mx)) 273 13 (bI rep)) 273 14 (nI en)) v G mx rep en ∧ DS (up (up (up σ' 273 12 (nI mx)) 273 13 (bI rep)) 273 14 (nI en)) v 0 (fun _ => v) (fun _ => 0) ∧ ∀ k, (k < 273 ∨ k = 283 ∨ 297 ≤ k) → (up (up (up σ' 273 12 (nI mx)) 273 13 (bI rep)) 273 14 (nI en)) k = σ k := by
  have h1 := hV.2.1
  obtain ⟨σ', e, a1, a2, a3, a4, a5, a6, a7⟩ := startC (G := G) hC hV
  refine ⟨σ', e, fun many => ?_, ?_, fun k hk => by rw [up_o _ _ _ _ (by omega), up_o _ _ _ _ (by omega), up_o _ _ _ _ (by omega)]; exact a7 k hk⟩
  · have lo : ∀ k, k ≠ 273 → (up (up (up (up σ' 273 12 (nI mx)) 273 13 (bI rep)) 273 14 (nI en)) 273 11 (nI many)) k = σ' k := fun k hk => by rw [up_o _ _ _ _ hk, up_o _ _ _ _ hk, up_o _ _ _ _ hk, up_o _ _ _ _ hk]
    refine ⟨?_, ?_, ?_, ?_, ?_, ?_, ?_, fun c hc p hp => ?_, fun p hp => ?_, fun c hc => ?_, fun d hd => ?_⟩
    · rw [ux_n _ _ _ (by omega), ux_n _ _ _ (by omega), ux_n _ _ _ (by omega), ux_n _ _ _ (by omega)]; exact a1
    · rw [ux_n _ _ _ (by omega), ux_n _ _ _ (by omega), ux_n _ _ _ (by omega), ux_n _ _ _ (by omega)]; exact a2
    · rw [ux_n _ _ _ (by omega), ux_n _ _ _ (by omega), ux_n _ _ _ (by omega), ux_n _ _ _ (by omega)]; exact a3
    · rw [ux_s]
    · rw [ux_n _ _ _ (by omega), ux_n _ _ _ (by omega), ux_n _ _ _ (by omega), ux_s]
    · rw [ux_n _ _ _ (by omega), ux_n _ _ _ (by omega), ux_s]
    · rw [ux_n _ _ _ (by omega), ux_s]
    · rw [lo _ (by omega)]; exact (a4 c hc).1 p hp
    · rw [lo _ (by omega), a7 283 (by omega)]; exact h283 p hp
    · rw [lo _ (by omega), lo _ (by omega)]; exact (a4 c hc).2
    · rw [lo _ (by omega)]; exact a5 d hd
  · have lo : ∀ k, k ≠ 273 → (up (up (up σ' 273 12 (nI mx)) 273 13 (bI rep)) 273 14 (nI en)) k = σ' k := fun k hk => by rw [up_o _ _ _ _ hk, up_o _ _ _ _ hk, up_o _ _ _ _ hk]
    obtain ⟨d1, d2, d3⟩ := a6
    refine ⟨fun i hi => ⟨fun d hd => by rw [lo _ (by omega)]; exact (d1 i hi).1 d hd, by rw [lo _ (by omega)]; exact (d1 i hi).2⟩, fun i hi => absurd hi (Nat.not_lt_zero _), fun c hc => by rw [lo _ (by omega)]; exact d3 c hc⟩
theorem shortC {σ : Sg} {v : Vt} {g : Int32} {G n va : Nat} (hC : Cl σ 1 v g) (hV : Va v) (h283 : ∀ p, p < 48 → σ 283 p = nI p) (hG : G < 3) (hn : n < 6) (h0 : va ≠ 0) (hva : va < 6) : ∃ σ', f_X2_shortest 273 1 (nI G) (nI n) (nI va) σ = some (oI (fwF va G v (n + 1) 0), σ') ∧ (∀ m, fwF va G v (n + 1) 0 = some m → ∀ i, i < m → σ' 295 i = nI ((rsN va G m v).2 i)) ∧ ∀ k, (k < 273 ∨ k = 283 ∨ 297 ≤ k) → σ' k = σ k := by
  obtain ⟨σ1, e1, a1, a2, a3⟩ := CQ_mk (G := G) hC hV h283 va false 1
  rw [f_X2_shortest, if_pos kd_273, if_pos kd_1, e1, cb_some]
  simp only [bnE]
  have key := loopI (fun m j s => f_X2_shortest_25 m 273 (nI n) (nI j) s) (fun j s => CR s v G va false 1 ∧ DS s v 0 (fun _ => v) (fun _ => 0) ∧ fwF va G v (n + 1 - j) j = fwF va G v (n + 1) 0 ∧ ∀ k, (k < 273 ∨ k = 283 ∨ 297 ≤ k) → s k = σ k) (fun q => q.1 = oI (fwF va G v (n + 1) 0) ∧ (∀ m, fwF va G v (n + 1) 0 = some m → ∀ i, i < m → q.2 295 i = nI ((rsN va G m v).2 i)) ∧ ∀ k, (k < 273 ∨ k = 283 ∨ 297 ≤ k) → q.2 k = σ k) (n + 1) ?_ ?_ FU 0 _ (by omega) (FU_gt (by omega)) ⟨a1, a2, rfl, a3⟩
  · obtain ⟨⟨r, τ'⟩, e, rfl, q⟩ := key
    exact ⟨τ', e, q⟩
  · intro m s hI
    obtain ⟨i1, i2, i3, i4⟩ := hI
    rw [Nat.sub_self, fwF] at i3
    refine ex_of (a := (-1, s)) ?_ ⟨by rw [← i3]; rfl, fun m' hm' => (by rw [← i3] at hm'; cases hm'), i4⟩
    rw [f_X2_shortest_25, if_pos kd_273, if_pos (by rw [n_lt (by omega) (by omega)]; omega)]
  · intro m j s hj hI
    obtain ⟨i1, i2, i3, i4⟩ := hI
    obtain ⟨s', e, w1, w2, w3, w4⟩ := rowsC (many := j) (va := va) i1 i2 hV ⟨by omega, Or.inl ⟨h0, hva, rfl, rfl, rfl⟩⟩ hG
    have hb := rsN_bd (va := va) (g := G) hV (show j ≤ 5 by omega)
    rw [show n + 1 - j = (n + 1 - (j + 1)) + 1 by omega, fwF] at i3
    have est : f_X2_shortest_25 (m + 1) 273 (nI n) (nI j) s = if nI (rsN va G j v).1 ≤ 0 then f_X2_shortest_25 m 273 (nI n) (nI (j + 1)) s' else some (nI j, s') := by
      rw [f_X2_shortest_25, if_pos kd_273, if_neg (by rw [n_lt (by omega) (by omega)]; omega), e, cb_some, show (nI j + 1 : Int32) = nI (j + 1) from nI_1 _]
    by_cases hq : (rsN va G j v).1 = 0
    · rw [if_pos hq] at i3
      rw [hq, if_pos (by decide)] at est
      exact Or.inl ⟨s', est, w1, w2, i3, fun k hk => by rw [w4 k hk]; exact i4 k hk⟩
    · rw [if_neg hq] at i3
      rw [if_neg (by rw [show (0 : Int32) = nI 0 from rfl, n_le (by omega) (by omega)]; omega)] at est
      refine Or.inr ⟨_, est, by rw [← i3]; rfl, fun m' hm' i hi => ?_, fun k hk => (w4 k hk).trans (i4 k hk)⟩
      rw [← i3] at hm'
      cases hm'
      exact w3 (by unfold stopB; simp [h0, hq]) i hi
theorem fewM {σ : Sg} {v : Vt} {g : Int32} {G n va : Nat} (hM : Mo (σ 299) v g) (hV : Va v) (hG : G < 3) (hn : n < 6) (h0 : va ≠ 0) (hva : va < 6) : ∃ σ', f_X6_fewest_33 FU 298 (nI G) (nI n) (nI va) 0 σ = some (oI (fwF va G v (n + 1) 0), σ') ∧ Mo (σ' 299) v g ∧ (∀ m, fwF va G v (n + 1) 0 = some m → ∀ i, i < m → σ' 305 i = nI ((rsN va G m v).2 i)) ∧ ∀ k, k ≠ 299 → k ≠ 304 → k ≠ 305 → σ' k = σ k := by
  have key := loopI (fun m j s => f_X6_fewest_33 m 298 (nI G) (nI n) (nI va) (nI j) s) (fun j s => Mo (s 299) v g ∧ fwF va G v (n + 1 - j) j = fwF va G v (n + 1) 0 ∧ ∀ k, k ≠ 299 → k ≠ 304 → k ≠ 305 → s k = σ k) (fun q => q.1 = oI (fwF va G v (n + 1) 0) ∧ Mo (q.2 299) v g ∧ (∀ m, fwF va G v (n + 1) 0 = some m → ∀ i, i < m → q.2 305 i = nI ((rsN va G m v).2 i)) ∧ ∀ k, k ≠ 299 → k ≠ 304 → k ≠ 305 → q.2 k = σ k) (n + 1) ?_ ?_ FU 0 σ (by omega) (FU_gt (by omega)) ⟨hM, rfl, fun k _ _ _ => rfl⟩
  · obtain ⟨⟨r, τ'⟩, e, rfl, q⟩ := key
    exact ⟨τ', e, q⟩
  · intro m s hI
    obtain ⟨i1, i3, i4⟩ := hI
    rw [Nat.sub_self, fwF] at i3
    refine ex_of (a := (-1, s)) ?_ ⟨by rw [← i3]; rfl, i1, fun m' hm' => (by rw [← i3] at hm'; cases hm'), i4⟩
    rw [f_X6_fewest_33, if_pos kd_298, if_pos (by rw [n_lt (by omega) (by omega)]; omega)]
  · intro m j s hj hI
    obtain ⟨i1, i3, i4⟩ := hI
    obtain ⟨s', e, w1, w3, w4⟩ := srchM (many := j) (va := va) i1 hV (by omega) hG hva
    have hb := rsN_bd (va := va) (g := G) hV (show j ≤ 5 by omega)
    rw [show n + 1 - j = (n + 1 - (j + 1)) + 1 by omega, fwF] at i3
    have est : f_X6_fewest_33 (m + 1) 298 (nI G) (nI n) (nI va) (nI j) s = if nI (rsN va G j v).1 ≤ 0 then f_X6_fewest_33 m 298 (nI G) (nI n) (nI va) (nI (j + 1)) s' else some (nI j, s') := by
      rw [f_X6_fewest_33, if_pos kd_298, if_neg (by rw [n_lt (by omega) (by omega)]; omega), e, cb_some, show (nI j + 1 : Int32) = nI (j + 1) from nI_1 _]
    by_cases hq : (rsN va G j v).1 = 0
    · rw [if_pos hq] at i3
      rw [hq, if_pos (by decide)] at est
      exact Or.inl ⟨s', est, w1, i3, fun k a b c => by rw [w4 k a b c]; exact i4 k a b c⟩
    · rw [if_neg hq] at i3
      rw [if_neg (by rw [show (0 : Int32) = nI 0 from rfl, n_le (by omega) (by omega)]; omega)] at est
      refine Or.inr ⟨_, est, by rw [← i3]; rfl, w1, fun m' hm' i hi => ?_, fun k a b c => (w4 k a b c).trans (i4 k a b c)⟩
      rw [← i3] at hm'
      cases hm'
      exact w3 (by unfold stopB; simp [h0, hq]) i hi
theorem lp_rw {va N : Nat} {self : Vt → (Nat → Nat) → Nat × (Nat → Nat)} {u : Vt} {p : Nat} (h8 : u 1 ≤ 8) (hs : ∀ c row', (∀ i, i < p + 1 → row' i < 8) → stopB va (self (mvv u c) row').1 = true → ∀ i, i < N → (self (mvv u c) row').2 i < 8) : ∀ m c row, m + c ≤ u 1 → (∀ i, i < p → row i < 8) → stopB va (lp va self u p m c row).1 = true → ∀ i, i < N → (lp va self u p m c row).2 i < 8 := by
  intro m
  induction m with
  | zero => intro c row _ _ h; rw [lp] at h; unfold stopB at h; simp at h
  | succ m ih =>
    intro c row hmc hr h
    rw [lp] at h ⊢
    have hr' : ∀ i, i < p + 1 → fu row p c i < 8 := fun i hi => by
      by_cases e : i = p
      · rw [e, fu_s]; omega
      · rw [fu_n _ _ e]; exact hr i (by omega)
    by_cases q1 : (okc va row p c && fitV u c) = true
    · rw [if_pos q1] at h ⊢
      by_cases q2 : stopB va (self (mvv u c) (fu row p c)).1 = true
      · rw [if_pos q2]; exact hs c _ hr' q2
      · rw [if_neg q2] at h ⊢
        have hz : stopB va (lp va self u p m (c + 1) row).1 = true := by
          rcases stop_f (show stopB va (self (mvv u c) (fu row p c)).1 = false by simpa using q2) with z | z
          · rw [z] at h; unfold stopB at h; simp at h
          · dsimp only at h; rw [z, Nat.zero_add] at h; exact h
        exact ih (c + 1) row (by omega) hr hz
    · rw [if_neg q1] at h ⊢
      exact ih (c + 1) row (by omega) hr h
theorem nd_rw (va g : Nat) : ∀ k p u row, u 0 ≤ 8 → u 1 ≤ 8 → (∀ i, i < p → row i < 8) → stopB va (nd va g k p u row).1 = true → ∀ i, i < p + k + 1 → (nd va g k p u row).2 i < 8 := by
  intro k
  induction k with
  | zero =>
    intro p u row h0 h1 hr h
    rw [nd] at h ⊢
    exact lp_rw (N := p + 0 + 1) h1 (fun c row' hr' _ i hi => hr' i (by omega)) (u 1) 0 row (by omega) hr h
  | succ k ih =>
    intro p u row h0 h1 hr h
    rw [nd] at h ⊢
    exact lp_rw (N := p + (k + 1) + 1) h1 (fun c row' hr' hs i hi => ih (p + 1) _ row' (by rw [(mvv_1 h0).2.1]; exact h0) (by rw [(mvv_1 h0).1]; exact h1) hr' hs i (by omega)) (u 1) 0 row (by omega) hr h
theorem rsN_rw {va g : Nat} {v : Vt} (hV : Va v) {many : Nat} (h : stopB va (rsN va g many v).1 = true) : ∀ i, i < many → (rsN va g many v).2 i < 8 := by
  unfold rsN at h ⊢
  intro i hi
  rw [if_neg (by omega)] at h ⊢
  exact nd_rw va g (many - 1) 0 v (fun _ => 0) hV.1 hV.2.1 (fun i hi => absurd hi (Nat.not_lt_zero _)) h i (by omega)
/-! the questions -/
def vrn (z : Int32) : Bool := inb z 6 && z != 0
theorem vr_ex {z : Int32} (h : vrn z = true) : ∃ a, a ≠ 0 ∧ a < 6 ∧ z = nI a := by
  unfold vrn at h
  rw [Bool.and_eq_true] at h
  obtain ⟨j, hj, rfl⟩ := inb_ex h.1 (by omega)
  refine ⟨j, fun e => ?_, hj, rfl⟩
  subst e
  simp at h
  exact absurd rfl h.2
theorem vr_lt (z : Int32) : (vrn z = false → (z < 1 ∨ 5 < z)) ∧ (vrn z = true → ¬ z < 1 ∧ ¬ 5 < z) := by
  constructor
  · intro h
    unfold vrn at h
    cases e : inb z 6 with
    | true =>
      obtain ⟨j, hj, rfl⟩ := inb_ex e (by omega)
      rw [e, Bool.true_and] at h
      have : nI j = 0 := by simpa using h
      rw [this]; exact Or.inl (by decide)
    | false =>
      rw [inb_toInt] at e
      have e := of_decide_eq_false e
      rw [Int32.lt_iff_toInt_lt, Int32.lt_iff_toInt_lt, show (1 : Int32).toInt = 1 from rfl, show (5 : Int32).toInt = 5 from rfl]
      omega
  · intro h
    obtain ⟨a, h0, h6, rfl⟩ := vr_ex h
    rw [show (1 : Int32) = nI 1 from rfl, show (5 : Int32) = nI 5 from rfl, n_lt (by omega) (by omega), n_lt (by omega) (by omega)]
    omega
theorem isS (x y z : Int32) (σ : Sg) : f_X5_isSearch x y z σ = some (bI (inb x 3 && inb y 6 && vrn z), σ) := by
  rw [f_X5_isSearch, show f_X5_isBelow x 3 σ = some (bI (inb x 3), σ) from isb x (N := 3) (by omega) σ, cb_some]
  cases inb x 3 with
  | false => rfl
  | true =>
    rw [if_neg bt, show f_X5_isBelow y 6 σ = some (bI (inb y 6), σ) from isb y (N := 6) (by omega) σ, cb_some]
    cases inb y 6 with
    | false => rfl
    | true =>
      rw [if_neg bt]
      cases e : vrn z with
      | false =>
        rcases (vr_lt z).1 e with q | q
        · rw [if_pos q]; rfl
        · by_cases q2 : z < 1
          · rw [if_pos q2]; rfl
          · rw [if_neg q2, if_pos q]; rfl
      | true =>
        obtain ⟨q1, q2⟩ := (vr_lt z).2 e
        rw [if_neg q1, if_neg q2]; rfl
theorem fewM' {σ : Sg} {v : Vt} {g : Int32} (hM : Mo (σ 299) v g) (x y z : Int32) : f_X6_fewest 298 x y z σ = if (inb x 3 && inb y 6 && vrn z) then f_X6_fewest_33 FU 298 x y z 0 σ else some (-2, σ) := by
  rw [f_X6_fewest, if_pos kd_298, isI (N := 3) (by decide), cb_some]
  cases inb x 3 with
  | false => rfl
  | true =>
    rw [if_neg bt, isI (N := 6) (by decide), cb_some]
    cases inb y 6 with
    | false => rfl
    | true =>
      rw [if_neg bt]
      have : f_X6_isIn z 1 5 σ = some (bI (vrn z), σ) := by
        rw [f_X6_isIn]
        cases e : vrn z with
        | false =>
          rcases (vr_lt z).1 e with q | q
          · rw [if_pos q]; rfl
          · by_cases q2 : z < 1
            · rw [if_pos q2]; rfl
            · rw [if_neg q2, if_pos q]; rfl
        | true =>
          obtain ⟨q1, q2⟩ := (vr_lt z).2 e
          rw [if_neg q1, if_neg q2]; rfl
      rw [this, cb_some]
      cases vrn z with
      | false => rfl
      | true => rw [if_neg bt]; rfl
theorem CI_s {σ τ : Sg} {v : Vt} {g : Int32} {hv : Nat → Vt} {hg : Nat → Int32} {ks tl : Nat} {tb : Nat → Nat} {rz : Nat → Int32} (hV : VI v hv ks tl tb) (hC : CI σ v g hv hg ks tl tb rz) (h : ∀ k, (k < 273 ∨ k = 283 ∨ 297 ≤ k) → τ k = σ k) : CI τ v g hv hg ks tl tb rz := by
  obtain ⟨c1, ⟨nx, c2⟩, c3⟩ := hC
  exact ⟨Cl_loc c1 hV.1.2.1 (fun k a b => h k (by omega)), ⟨nx, CH_loc c2 hV.2.2.1 (fun k a b => h k (by omega))⟩, CT_loc c3 (by rw [h 269 (by omega)]) (h 270 (by omega)) (h 297 (by omega)) (h 283 (by omega))⟩
theorem oI_ge {o : Option Nat} (h : ∀ d, o = some d → d < 100000) : -1 ≤ oI o := by
  cases o with
  | none => decide
  | some d => exact ge_nI (by have := h d rfl; omega)
theorem sim_finds {n : Nat} (hn : n < 600) (x y z : Int32) : Sim (Inv n) (Inv (n + 1)) (f_X5_finds 0 x y z) (f_X6_finds 298 x y z) := by
  refine ask_sim hn (fun v g hv hg ks tl tb rz hV => ?_)
  have f29 : ∀ a σ, f_X5_finds_29 0 a σ = cb (f_X5_noted 0 a σ) (fun b τ => some (b, τ)) := fun a σ => by rw [f_X5_finds_29, if_pos kd_0]
  cases hx : (inb x 3 && inb y 6 && vrn z) with
  | false =>
    refine ⟨-2, fun σ hC => ⟨σ, ?_, hC, fun k hk => rfl⟩, fun σ hM => ⟨σ, ?_, hM, fun k hk => rfl⟩⟩
    · rw [f_X5_finds, if_pos kd_0, isS, cb_some, hx, if_pos bf, f29]
    · rw [f_X6_finds, if_pos kd_298, fewM' hM.1, hx, if_neg (by simp), cb_some]
  | true =>
    have hx' := hx
    rw [Bool.and_eq_true, Bool.and_eq_true] at hx'
    obtain ⟨G, hG, rfl⟩ := inb_ex hx'.1.1 (by omega)
    obtain ⟨m, hm, rfl⟩ := inb_ex hx'.1.2 (by omega)
    obtain ⟨va, h0, h6, rfl⟩ := vr_ex hx'.2
    refine ⟨oI (fwF va G v (m + 1) 0), fun σ hC => ?_, fun σ hM => ?_⟩
    · obtain ⟨σ', e, w1, w2⟩ := shortC (G := G) (n := m) (va := va) hC.1 hV.1 hC.2.2.2.2.2 hG hm h0 h6
      refine ⟨σ', ?_, CI_s hV hC w2, fun k hk => w2 k (by omega)⟩
      rw [f_X5_finds, if_pos kd_0, isS, cb_some, hx, if_neg bt, rf_0_3, rf_0_0, e, cb_some, f29]
    · obtain ⟨σ', e, w1, w2, w3⟩ := fewM (G := G) (n := m) (va := va) hM.1 hV.1 hG hm h0 h6
      refine ⟨σ', ?_, MI_w hM w1 w3, fun k hk => w3 k (by omega) (by omega) (by omega)⟩
      rw [f_X6_finds, if_pos kd_298, fewM' hM.1, hx, if_pos rfl, e, cb_some]
theorem sim_found {n : Nat} (hn : n < 600) (x y z w : Int32) : Sim (Inv n) (Inv (n + 1)) (f_X5_found 0 x y z w) (f_X6_found 298 x y z w) := by
  refine ask_sim hn (fun v g hv hg ks tl tb rz hV => ?_)
  have f14 : ∀ σ, f_X5_found_14 0 σ = cb (f_X5_noted 0 (-2) σ) (fun b τ => some (b, τ)) := fun σ => by rw [f_X5_found_14, if_pos kd_0]
  have m17 : ∀ σ, f_X6_found_17 298 w (-2) σ = cb (f_X6_counted 298 (-2) σ) (fun b τ => some (b, τ)) := fun σ => by rw [f_X6_found_17, if_pos kd_298, if_neg (by decide), refusedM (k := 0) rfl, countedM (k := 0) rfl]
  cases hx : (inb x 3 && inb y 6 && vrn z) with
  | false =>
    refine ⟨-2, fun σ hC => ⟨σ, ?_, hC, fun k hk => rfl⟩, fun σ hM => ⟨σ, ?_, hM, fun k hk => rfl⟩⟩
    · rw [f_X5_found, if_pos kd_0, isS, cb_some, hx, if_pos bf, f14]
    · rw [f_X6_found, if_pos kd_298]
      by_cases hw : 0 ≤ w
      · rw [if_pos hw, fewM' hM.1, hx, if_neg (by simp), cb_some, m17]
      · rw [if_neg hw, m17]
  | true =>
    have hx' := hx
    rw [Bool.and_eq_true, Bool.and_eq_true] at hx'
    obtain ⟨G, hG, rfl⟩ := inb_ex hx'.1.1 (by omega)
    obtain ⟨m, hm, rfl⟩ := inb_ex hx'.1.2 (by omega)
    obtain ⟨va, h0, h6, rfl⟩ := vr_ex hx'.2
    by_cases hw : 0 ≤ w
    · have hob : ∀ d, fwF va G v (m + 1) 0 = some d → d < 6 := fun d hd => by have := fwF_lt va G v _ _ _ hd; omega
      by_cases hle : oI (fwF va G v (m + 1) 0) ≤ w
      · refine ⟨-1, fun σ hC => ?_, fun σ hM => ?_⟩
        · obtain ⟨σ', e, w1, w2⟩ := shortC (G := G) (n := m) (va := va) hC.1 hV.1 hC.2.2.2.2.2 hG hm h0 h6
          refine ⟨σ', ?_, CI_s hV hC w2, fun k hk => w2 k (by omega)⟩
          rw [f_X5_found, if_pos kd_0, isS, cb_some, hx, if_neg bt, if_pos hw, rf_0_3, rf_0_0, e, cb_some, if_pos hle, notedN (by decide), cb_some]
        · obtain ⟨σ', e, w1, w2, w3⟩ := fewM (G := G) (n := m) (va := va) hM.1 hV.1 hG hm h0 h6
          refine ⟨σ', ?_, MI_w hM w1 w3, fun k hk => w3 k (by omega) (by omega) (by omega)⟩
          rw [f_X6_found, if_pos kd_298, if_pos hw, fewM' hM.1, hx, if_pos rfl, e, cb_some, f_X6_found_17, if_pos kd_298, if_pos (oI_ge (fun d hd => by have := hob d hd; omega)), if_pos hle, countedN (by decide), cb_some]
      · cases hfw : fwF va G v (m + 1) 0 with
        | none =>
          rw [hfw] at hle
          exfalso
          exact hle (le_m1 hw)
        | some d =>
          have hd6 := hob d hfw
          rw [hfw] at hle
          have hwj : ∃ j, j < d ∧ w = nI j := by
            have hib : inb w d = true := by
              rw [inb_toInt]
              refine decide_eq_true ⟨?_, ?_⟩
              · rw [Int32.le_iff_toInt_le] at hw; exact hw
              · change ¬ nI d ≤ w at hle
                rw [Int32.le_iff_toInt_le, nI_toInt (by omega)] at hle
                omega
            exact inb_ex hib (by omega)
          obtain ⟨j, hj, rfl⟩ := hwj
          have hrow : (rsN va G d v).2 j < 2147483648 ∧ True := ⟨?_, trivial⟩
          · refine ⟨nI ((rsN va G d v).2 j), fun σ hC => ?_, fun σ hM => ?_⟩
            · obtain ⟨σ', e, w1, w2⟩ := shortC (G := G) (n := m) (va := va) hC.1 hV.1 hC.2.2.2.2.2 hG hm h0 h6
              refine ⟨σ', ?_, CI_s hV hC w2, fun k hk => w2 k (by omega)⟩
              rw [f_X5_found, if_pos kd_0, isS, cb_some, hx, if_neg bt, if_pos hw, rf_0_3, rf_0_0, e, cb_some, hfw, if_neg hle, f_X2_callOfRow, if_pos kd_273, show f_X5_isBelow (nI j) 5 σ' = some (bI (inb (nI j) 5), σ') from isb (nI j) (N := 5) (by omega) σ', cb_some, show inb (nI j) 5 = true by rw [inb_nI (by omega)]; exact decide_eq_true (by omega), if_neg bt, if_pos rfl, sx.2.2.2.2.2.2.1, ix_nI (by omega), w1 d hfw j hj, cb_some, notedN (ge_nI hrow.1), cb_some]
            · obtain ⟨σ', e, w1, w2, w3⟩ := fewM (G := G) (n := m) (va := va) hM.1 hV.1 hG hm h0 h6
              refine ⟨σ', ?_, MI_w hM w1 w3, fun k hk => w3 k (by omega) (by omega) (by omega)⟩
              rw [f_X6_found, if_pos kd_298, if_pos hw, fewM' hM.1, hx, if_pos rfl, e, cb_some, f_X6_found_17, if_pos kd_298, hfw, if_pos (oI_ge (o := some d) (fun e he => by cases he; omega)), if_neg hle, if_pos (by rw [inb_nI (by omega)]; exact decide_eq_true (by omega)), rf_298_8, ix_nI (by omega), w2 d hfw j hj, countedN (ge_nI hrow.1), cb_some]
          · have hst : stopB va (rsN va G d v).1 = true := by
              have : ∀ m j e, fwF va G v m j = some e → (rsN va G e v).1 ≠ 0 := by
                intro m
                induction m with
                | zero => intro j e h; cases h
                | succ m ih =>
                  intro j e h
                  rw [fwF] at h
                  split at h
                  · exact ih _ _ h
                  · cases h; assumption
              have := this _ _ _ hfw
              unfold stopB
              simp [h0, this]
            have := rsN_rw hV.1 hst j hj
            omega
    · refine ⟨-2, fun σ hC => ⟨σ, ?_, hC, fun k hk => rfl⟩, fun σ hM => ⟨σ, ?_, hM, fun k hk => rfl⟩⟩
      · rw [f_X5_found, if_pos kd_0, isS, cb_some, hx, if_neg bt, if_neg hw, f14]
      · rw [f_X6_found, if_pos kd_298, if_neg hw, m17]
theorem sim_rows {n : Nat} (hn : n < 600) (x y : Int32) : Sim (Inv n) (Inv (n + 1)) (f_X5_rows 0 x y) (f_X6_rows 298 x y) := by
  refine ask_sim hn (fun v g hv hg ks tl tb rz hV => ?_)
  have f45 : ∀ a σ, f_X5_rows_45 0 a σ = cb (f_X5_noted 0 a σ) (fun b τ => some (b, τ)) := fun a σ => by rw [f_X5_rows_45, if_pos kd_0]
  have f20 : ∀ σ, f_X5_rows_20 0 x y σ = cb (f_X5_noted 0 (-2) σ) (fun b τ => some (b, τ)) := fun σ => by rw [f_X5_rows_20, if_pos kd_0, f_X5_rows_21, if_pos kd_0, if_pos rfl, f45]
  have m28 : ∀ σ, f_X6_rows_28 298 σ = cb (f_X6_counted 298 (-2) σ) (fun b τ => some (b, τ)) := fun σ => by rw [f_X6_rows_28, if_pos kd_298, refusedM (k := 0) rfl, countedM (k := 0) rfl]
  cases hx : inb x 3 with
  | false =>
    refine ⟨-2, fun σ hC => ⟨σ, ?_, hC, fun k hk => rfl⟩, fun σ hM => ⟨σ, ?_, hM, fun k hk => rfl⟩⟩
    · rw [f_X5_rows, if_pos kd_0, show f_X5_isBelow x 3 σ = some (bI (inb x 3), σ) from isb x (N := 3) (by omega) σ, cb_some, hx, if_pos bf, f20]
    · rw [f_X6_rows, if_pos kd_298, isI (N := 3) (by decide), cb_some, hx, if_pos bf, m28]
  | true =>
    cases hy : inb y 5 with
    | false =>
      refine ⟨-2, fun σ hC => ⟨σ, ?_, hC, fun k hk => rfl⟩, fun σ hM => ⟨σ, ?_, hM, fun k hk => rfl⟩⟩
      · rw [f_X5_rows, if_pos kd_0, show f_X5_isBelow x 3 σ = some (bI (inb x 3), σ) from isb x (N := 3) (by omega) σ, cb_some, hx, if_neg bt, show f_X5_isBelow y 5 σ = some (bI (inb y 5), σ) from isb y (N := 5) (by omega) σ, cb_some, hy, if_pos bf, f20]
      · rw [f_X6_rows, if_pos kd_298, isI (N := 3) (by decide), cb_some, hx, if_neg bt, isI (N := 5) (by decide), cb_some, hy, if_pos bf, m28]
    | true =>
      obtain ⟨G, hG, rfl⟩ := inb_ex hx (by omega)
      obtain ⟨m, hm, rfl⟩ := inb_ex hy (by omega)
      have hb := rsN_bd (va := 0) (g := G) hV.1 (show m ≤ 5 by omega)
      refine ⟨nI (rsN 0 G m v).1, fun σ hC => ?_, fun σ hM => ?_⟩
      · obtain ⟨σ1, e1, a1, a2, a3⟩ := CQ_mk (G := G) hC.1 hV.1 hC.2.2.2.2.2 m true 1000000
        obtain ⟨σ2, e2, w1, w2, w3, w4⟩ := rowsC (many := m) (va := 0) a1 a2 hV.1 ⟨by omega, Or.inr ⟨rfl, rfl, rfl, rfl⟩⟩ hG
        refine ⟨σ2, ?_, CI_s hV hC (fun k hk => by rw [w4 k hk, a3 k hk]), fun k hk => by rw [w4 k (by omega), a3 k (by omega)]⟩
        rw [f_X5_rows, if_pos kd_0, show f_X5_isBelow (nI G) 3 σ = some (bI (inb (nI G) 3), σ) from isb (nI G) (N := 3) (by omega) σ, cb_some, hx, if_neg bt, show f_X5_isBelow (nI m) 5 σ = some (bI (inb (nI m) 5), σ) from isb (nI m) (N := 5) (by omega) σ, cb_some, hy, if_neg bt, f_X5_rows_21, if_pos kd_0, if_neg (by decide), rf_0_3, rf_0_0, f_X2_howMany, if_pos kd_273, if_pos kd_1, e1, cb_some]
        simp only [bnE]
        rw [show f_X2_rowsOfLength 273 (nI m) (up (up (up σ1 273 12 (nI m)) 273 13 1) 273 14 1000000) = _ from e2, cb_some, cb_some, f45]
      · obtain ⟨σ', e, w1, w2, w3⟩ := srchM (many := m) (va := 0) (G := G) hM.1 hV.1 (by omega) hG (by omega)
        refine ⟨σ', ?_, MI_w hM w1 w3, fun k hk => w3 k (by omega) (by omega) (by omega)⟩
        rw [f_X6_rows, if_pos kd_298, isI (N := 3) (by decide), cb_some, hx, if_neg bt, isI (N := 5) (by decide), cb_some, hy, if_neg bt, show f_X6_search 298 (nI m) (nI G) 0 σ = _ from e, cb_some, countedN (ge_nI (by omega)), cb_some]
