/-! the reference's search -/
def SS (σ σ0 : Sg) (v : Vt) (g : Int32) (p : Nat) (us : Nat → Vt) (row : Nat → Nat) : Prop := (∃ u, Mo (σ 299) u g ∧ AG u v) ∧ (∀ i, i ≤ p → HS σ i (us i)) ∧ (∀ i, i < p → σ 305 i = nI (row i)) ∧ ∀ k, k ≠ 299 → k ≠ 304 → k ≠ 305 → σ k = σ0 k
def UG (v : Vt) (p : Nat) (us : Nat → Vt) : Prop := ∀ i, i ≤ p → Va (us i) ∧ AG (us i) v
theorem AG_trans {u w v : Vt} (h1 : AG u v) (h2 : AG w v) : AG u w := fun k hk => (h1 k hk).trans (h2 k hk).symm
theorem s50 {σ σ0 : Sg} {v : Vt} {g : Int32} {p c : Nat} {us : Nat → Vt} {row : Nat → Nat} (hS : SS σ σ0 v g p us row) (hU : UG v p us) (hp : p ≤ 4) (h1 : v 1 ≤ 8) (hc : c ≤ v 1) (hr : σ 305 p + 1 = nI c) : ∃ σ2, Mo (σ2 299) (us p) g ∧ (∀ i, i ≤ p → HS σ2 i (us i)) ∧ (∀ i, i < p → σ2 305 i = nI (row i)) ∧ σ2 305 p = nI c ∧ (∀ k, k ≠ 299 → k ≠ 304 → k ≠ 305 → σ2 k = σ0 k) ∧ ∀ rc x1 x2 x3 x4, f_X6_search_50 rc 298 x1 x2 x3 x4 (nI p) σ = if c = v 1 then f_X6_search_171 rc 298 x1 x2 x3 x4 (nI p + (-1)) σ2 else if x3 = 0 then f_X6_search_109 rc 298 x1 x2 x3 x4 (nI p) (nI c) σ2 else cb (f_X6_isVaried 298 (nI p) (nI c) x3 σ2) (fun a9 τ10 => if a9 = 0 then f_X6_search_171 rc 298 x1 x2 x3 x4 (nI p) τ10 else f_X6_search_109 rc 298 x1 x2 x3 x4 (nI p) (nI c) τ10) := by
  obtain ⟨⟨u, s1, s2⟩, s3, s4, s5⟩ := hS
  obtain ⟨hVp, hAp⟩ := hU p (Nat.le_refl _)
  obtain ⟨σ1, e1, q1, q2⟩ := returnsM s1 (s3 p (Nat.le_refl _)) (AG_trans s2 hAp) (by omega)
  have ib : inb (nI p) 6 = true := by rw [inb_nI (by omega)]; exact decide_eq_true (by omega)
  have hr1 : σ1 305 p + 1 = nI c := by rw [q2 305 (by omega)]; exact hr
  have ew : (up σ1 305 p (nI c)) 299 1 = nI (v 1) := by rw [ux_o _ _ _ _ (by omega), q1.2 1 (by omega) (by omega), hAp 1 (by omega)]
  refine ⟨up σ1 305 p (nI c), by rw [up_o _ _ _ _ (by omega)]; exact q1, fun i hi d hd => ?_, fun i hi => ?_, ux_s _ _ _ _, fun k a b c' => ?_, fun rc x1 x2 x3 x4 => ?_⟩
  · rw [up_o _ _ _ _ (by omega), q2 304 (by omega)]; exact s3 i hi d hd
  · rw [ux_n _ _ _ (by omega), q2 305 (by omega)]; exact s4 i hi
  · rw [up_o _ _ _ _ c', q2 k a]; exact s5 k a b c'
  · rw [f_X6_search_50, if_pos kd_298, e1, cb_some, if_pos ib, if_pos ib, rf_298_8, rf_298_0, ix_nI (by omega), hr1]
    simp only [bnE]
    rw [if_pos ib, if_pos (by decide), ux_s, show ix 1 = 1 from rfl, ew]
    simp only [n_eq (show c < 2147483648 by omega) (show v 1 < 2147483648 by omega)]
def uw (us : Nat → Vt) (p : Nat) (x : Vt) : Nat → Vt := fun i => if i = p then x else us i
theorem uw_s (us : Nat → Vt) (p : Nat) (x : Vt) : uw us p x p = x := if_pos rfl
theorem uw_n (us : Nat → Vt) {p i : Nat} (x : Vt) (h : i ≠ p) : uw us p x i = us i := if_neg h
theorem s109 {σ2 σ0 : Sg} {v : Vt} {g : Int32} {p c : Nat} {us : Nat → Vt} {row : Nat → Nat} (hM : Mo (σ2 299) (us p) g) (hH : ∀ i, i ≤ p → HS σ2 i (us i)) (hR : ∀ i, i < p → σ2 305 i = nI (row i)) (hc5 : σ2 305 p = nI c) (ho : ∀ k, k ≠ 299 → k ≠ 304 → k ≠ 305 → σ2 k = σ0 k) (hU : UG v p us) (hp : p ≤ 4) (h0 : v 0 ≤ 8) (hc : c < v 1) {many G : Nat} (hm : many ≤ 5) (hG : G < 3) (hpm : p < many) (x3 : Int32) (x4 : Nat) (rc : Nat → Int32 → Int32 → Int32 → Int32 → Int32 → Sg → Option (Int32 × Sg)) :
    (fitV (us p) c = false → f_X6_search_109 rc 298 (nI many) (nI G) x3 (nI x4) (nI p) (nI c) σ2 = rc 298 (nI many) (nI G) x3 (nI x4) (nI p) σ2) ∧
    (fitV (us p) c = true → p + 1 = many → ∃ σ3, f_X6_search_109 rc 298 (nI many) (nI G) x3 (nI x4) (nI p) (nI c) σ2 = rc 298 (nI many) (nI G) x3 (nI (x4 + if gl G (mvv (us p) c) then 1 else 0)) (nI p) σ3 ∧ SS σ3 σ0 v g p us row ∧ σ3 305 p = nI c) ∧
    (fitV (us p) c = true → p + 1 < many → ∃ σ3, f_X6_search_109 rc 298 (nI many) (nI G) x3 (nI x4) (nI p) (nI c) σ2 = rc 298 (nI many) (nI G) x3 (nI x4) (nI (p + 1)) σ3 ∧ SS σ3 σ0 v g (p + 1) (uw us (p + 1) (mvv (us p) c)) (fu row p c) ∧ σ3 305 (p + 1) + 1 = nI 0) := by
  obtain ⟨hVp, hAp⟩ := hU p (Nat.le_refl _)
  have hcu : c < us p 1 := by rw [hAp 1 (by omega)]; exact hc
  have ef : f_X6_search_109 rc 298 (nI many) (nI G) x3 (nI x4) (nI p) (nI c) σ2 = if bI (fitV (us p) c) = 0 then rc 298 (nI many) (nI G) x3 (nI x4) (nI p) σ2 else (cb (f_X6_moves 298 (nI c) σ2) (fun a3 τ4 => if nI many ≤ nI p + 1 then (cb (f_X6_isGoal 298 (nI G) τ4) (fun a5 τ6 => if a5 = 0 then (f_X6_search_168 rc 298 (nI many) (nI G) x3 (nI p) (nI x4) 0 τ6) else (f_X6_search_168 rc 298 (nI many) (nI G) x3 (nI p) (nI x4) 1 τ6))) else (cb (f_X6_holds 298 (nI p + 1) τ4) (fun _ τ8 => if inb (nI p + 1) 6 then (bn (up τ8 (rf 298 8) (ix (nI p + 1)) ((-1))) (fun τ10 => f_X6_search_171 rc 298 (nI many) (nI G) x3 (nI x4) (nI p + 1) τ10)) else none)))) := by
    rw [f_X6_search_109, if_pos kd_298, fitsM hM hVp hcu, cb_some, f_X6_search_171, if_pos kd_298]
    rfl
  rw [ef]
  refine ⟨fun hf => by rw [hf, if_pos bf], fun hf hl => ?_, fun hf hl => ?_⟩
  · obtain ⟨σ3, e3, m1, m2⟩ := movesM hM hVp hcu
    have hVm := Va_mv hVp hcu
    rw [hf, if_neg bt, e3, cb_some, show (nI p + 1 : Int32) = nI (p + 1) from nI_1 _, if_pos (by rw [n_le (by omega) (by omega)]; omega), isGoalM m1 hVm hG, cb_some]
    have f : ∀ z, f_X6_search_168 rc 298 (nI many) (nI G) x3 (nI p) (nI x4) (nI z) σ3 = rc 298 (nI many) (nI G) x3 (nI (x4 + z)) (nI p) σ3 := fun z => by
      rw [f_X6_search_168, if_pos kd_298, nI_add]
      simp only [bnE]
      rw [f_X6_search_171, if_pos kd_298]
    refine ⟨σ3, ?_, ⟨⟨_, m1, AG_mv hAp h0⟩, fun i hi d hd => by rw [m2 304 (by omega)]; exact hH i hi d hd, fun i hi => by rw [m2 305 (by omega)]; exact hR i hi, fun k a b c' => by rw [m2 k a]; exact ho k a b c'⟩, by rw [m2 305 (by omega)]; exact hc5⟩
    cases gl G (mvv (us p) c) with
    | false => rw [if_pos bf, show f_X6_search_168 rc 298 (nI many) (nI G) x3 (nI p) (nI x4) 0 σ3 = _ from f 0]; rfl
    | true => rw [if_neg bt, show f_X6_search_168 rc 298 (nI many) (nI G) x3 (nI p) (nI x4) 1 σ3 = _ from f 1]; rfl
  · obtain ⟨σ3, e3, m1, m2⟩ := movesM hM hVp hcu
    have hVm := Va_mv hVp hcu
    obtain ⟨σ4, e4, k1, k2, k3⟩ := holdsM (p := p + 1) m1 (by omega)
    rw [hf, if_neg bt, e3, cb_some, show (nI p + 1 : Int32) = nI (p + 1) from nI_1 _, if_neg (by rw [n_le (by omega) (by omega)]; omega), e4, cb_some, if_pos (by rw [inb_nI (by omega)]; exact decide_eq_true (by omega)), rf_298_8, ix_nI (by omega)]
    simp only [bnE]
    rw [f_X6_search_171, if_pos kd_298]
    refine ⟨_, rfl, ⟨⟨_, by rw [up_o _ _ _ _ (by omega), k3 299 (by omega)]; exact m1, AG_mv hAp h0⟩, fun i hi d hd => ?_, fun i hi => ?_, fun k a b c' => by rw [up_o _ _ _ _ c', k3 k b, m2 k a]; exact ho k a b c'⟩, by rw [ux_s]; rfl⟩
    · rw [up_o _ _ _ _ (by omega)]
      by_cases e : i = p + 1
      · subst e; rw [uw_s]; exact k1 d hd
      · rw [uw_n _ _ e, k2 _ (by omega), k2 _ (by omega), m2 304 (by omega)]
        exact hH i (by omega) d hd
    · rw [ux_n _ _ _ (by omega), k3 305 (by omega), m2 305 (by omega)]
      by_cases e : i = p
      · subst e; rw [fu_s]; exact hc5
      · rw [fu_n _ _ e]; exact hR i (by omega)
def ct : Nat → Nat
  | 0 => 0
  | k + 1 => 8 * (1 + ct k) + 1
theorem m1m (p : Nat) : (nI (p + 1) : Int32) + (-1) = nI p := by
  rw [show (nI (p + 1) : Int32) = nI p + 1 from (nI_1 p).symm, Int32.add_assoc, show (1 : Int32) + (-1) = 0 from rfl, Int32.add_zero]
/-- what one run of the loop comes to -/
def Mout (v : Vt) (g : Int32) (σ0 : Sg) (many G va p : Nat) (us : Nat → Vt) (row : Nat → Nat) (q : Nat × (Nat → Nat)) (x4 n C : Nat) (σ : Sg) : Prop := ∃ n' σ', n ≤ n' + C ∧ (∃ u, Mo (σ' 299) u g ∧ AG u v) ∧ HS σ' 0 (us 0) ∧ (∀ k, k ≠ 299 → k ≠ 304 → k ≠ 305 → σ' k = σ0 k) ∧
      ((stopB va q.1 = true ∧ (∀ i, i < many → σ' 305 i = nI (q.2 i)) ∧ ∃ z, f_X6_search_36 n 298 (nI many) (nI G) (nI va) (nI x4) (nI p) σ = f_X6_search_36 n' 298 (nI many) (nI G) (nI va) (nI (x4 + q.1)) z σ') ∨
       (stopB va q.1 = false ∧ SS σ' σ0 v g p us row ∧ f_X6_search_36 n 298 (nI many) (nI G) (nI va) (nI x4) (nI p) σ = f_X6_search_36 n' 298 (nI many) (nI G) (nI va) (nI (x4 + q.1)) (nI p + (-1)) σ'))
theorem head36 {many G va x4 p : Nat} (hp : p ≤ 5) (hv : va < 6) (hx : va = 0 ∨ x4 = 0) (n : Nat) (σ : Sg) : f_X6_search_36 (n + 1) 298 (nI many) (nI G) (nI va) (nI x4) (nI p) σ = f_X6_search_50 (f_X6_search_36 n) 298 (nI many) (nI G) (nI va) (nI x4) (nI p) σ := by
  rw [f_X6_search_36, if_pos kd_298, if_neg (by rw [show (0 : Int32) = nI 0 from rfl, n_lt (by omega) (by omega)]; omega)]
  by_cases e : va = 0
  · subst e; rw [if_pos (show nI 0 = 0 from rfl)]
  · rw [if_neg (by rw [show (0 : Int32) = nI 0 from rfl, n_eq (by omega) (by omega)]; exact e)]
    have : x4 = 0 := by omega
    subst this
    rw [if_pos (show nI 0 = 0 from rfl)]
theorem stop_f {va n : Nat} (h : stopB va n = false) : va = 0 ∨ n = 0 := by
  unfold stopB at h
  simp at h
  omega
theorem stop_t {va n : Nat} (h : stopB va n = true) : va ≠ 0 ∧ n ≠ 0 := by
  unfold stopB at h
  simp at h
  exact h
theorem Mnode {σ0 : Sg} {v : Vt} {g : Int32} {many G va : Nat} (h0 : v 0 ≤ 8) (h1 : v 1 ≤ 8) (hm : many ≤ 5) (hG : G < 3) (hva : va < 6) : ∀ k p, p + k + 1 = many → ∀ m c, m + c = v 1 → ∀ (us : Nat → Vt) (row : Nat → Nat) (σ : Sg) (x4 n : Nat), UG v p us → (∀ i, i < p → row i < 8) → SS σ σ0 v g p us row → σ 305 p + 1 = nI c → (va = 0 ∨ x4 = 0) → m * (1 + ct k) + 1 ≤ n → Mout v g σ0 many G va p us row (lp va (ndS va G k p) (us p) p m c row) x4 n (m * (1 + ct k) + 1) σ := by
  intro k
  induction k with
  | zero =>
    intro p hpk m
    induction m with
    | zero =>
      intro c hmc us row σ x4 n hU hrw hS hr hx hn
      obtain ⟨n, rfl⟩ : ∃ n', n = n' + 1 := ⟨n - 1, by omega⟩
      obtain ⟨σ2, a1, a2, a3, a4, a5, a6⟩ := s50 hS hU (by omega) h1 (by omega) hr
      refine ⟨n, σ2, by omega, ⟨_, a1, (hU p (Nat.le_refl _)).2⟩, a2 0 (by omega), a5, Or.inr ⟨by rw [lp]; unfold stopB; simp, ⟨⟨_, a1, (hU p (Nat.le_refl _)).2⟩, a2, a3, a5⟩, ?_⟩⟩
      rw [head36 (by omega) hva hx, a6, if_pos (by omega), f_X6_search_171, if_pos kd_298, lp, Nat.add_zero]
    | succ m ih =>
      intro c hmc us row σ x4 n hU hrw hS hr hx hn
      obtain ⟨n, rfl⟩ : ∃ n', n = n' + 1 := ⟨n - 1, by omega⟩
      obtain ⟨σ2, a1, a2, a3, a4, a5, a6⟩ := s50 hS hU (by omega) h1 (by omega) hr
      have hS2 : SS σ2 σ0 v g p us row := ⟨⟨_, a1, (hU p (Nat.le_refl _)).2⟩, a2, a3, a5⟩
      have hr2 : σ2 305 p + 1 = nI (c + 1) := by rw [a4]; exact nI_1 _
      obtain ⟨b1, b2, -⟩ := s109 a1 a2 a3 a4 a5 hU (by omega) h0 (show c < v 1 by omega) hm hG (by omega) (nI va) x4 (f_X6_search_36 n)
      have hstep : f_X6_search_36 (n + 1) 298 (nI many) (nI G) (nI va) (nI x4) (nI p) σ = if okc va row p c then f_X6_search_109 (f_X6_search_36 n) 298 (nI many) (nI G) (nI va) (nI x4) (nI p) (nI c) σ2 else f_X6_search_36 n 298 (nI many) (nI G) (nI va) (nI x4) (nI p) σ2 := by
        rw [head36 (by omega) hva hx, a6, if_neg (by omega)]
        by_cases e : va = 0
        · subst e; rw [if_pos (show nI 0 = 0 from rfl), if_pos (show okc 0 row p c = true from rfl)]
        · rw [if_neg (by rw [show (0 : Int32) = nI 0 from rfl, n_eq (by omega) (by omega)]; exact e), variedM (by omega) (fun i hi => ⟨a3 i hi, hrw i hi⟩) (by omega) hva (by omega), cb_some, f_X6_search_171, if_pos kd_298]
          cases okc va row p c with
          | false => rw [if_pos bf]; rfl
          | true => rw [if_neg bt]; rfl
      have hct : (m + 1) * (1 + ct 0) = m * (1 + ct 0) + 1 := by rw [ct]; omega
      rw [hct] at hn ⊢
      cases hok : (okc va row p c && fitV (us p) c) with
      | false =>
        obtain ⟨n', σ', c1, c2, c3, c4, c5⟩ := ih (c + 1) (by omega) us row σ2 x4 n hU hrw hS2 hr2 hx (by omega)
        have e1 : f_X6_search_36 (n + 1) 298 (nI many) (nI G) (nI va) (nI x4) (nI p) σ = f_X6_search_36 n 298 (nI many) (nI G) (nI va) (nI x4) (nI p) σ2 := by
          rw [hstep]
          cases e : okc va row p c with
          | false => rfl
          | true => rw [e, Bool.true_and] at hok; rw [if_pos rfl, b1 hok]
        have e2 : lp va (ndS va G 0 p) (us p) p (m + 1) c row = lp va (ndS va G 0 p) (us p) p m (c + 1) row := by rw [lp, hok]; rfl
        unfold Mout
        rw [e2, e1]
        exact ⟨n', σ', by omega, c2, c3, c4, c5⟩
      | true =>
        rw [Bool.and_eq_true] at hok
        obtain ⟨σ3, d1, d2, d3⟩ := b2 hok.2 (by omega)
        rw [hok.1, if_pos rfl, d1] at hstep
        have e2 : lp va (ndS va G 0 p) (us p) p (m + 1) c row = if stopB va (if gl G (mvv (us p) c) then 1 else 0) then (if gl G (mvv (us p) c) then 1 else 0, fu row p c) else ((if gl G (mvv (us p) c) then 1 else 0) + (lp va (ndS va G 0 p) (us p) p m (c + 1) row).1, (lp va (ndS va G 0 p) (us p) p m (c + 1) row).2) := by rw [lp, hok.1, hok.2]; rfl
        cases hst : stopB va (if gl G (mvv (us p) c) then 1 else 0) with
        | true =>
          unfold Mout
          rw [e2, hst, if_pos rfl, hstep]
          refine ⟨n, σ3, by omega, d2.1, d2.2.1 0 (by omega), d2.2.2.2, Or.inl ⟨hst, fun i hi => ?_, nI p, rfl⟩⟩
          show σ3 305 i = nI (fu row p c i)
          by_cases e : i = p
          · rw [e, fu_s]; exact d3
          · rw [fu_n _ _ e]; exact d2.2.2.1 i (by omega)
        | false =>
          obtain ⟨n', σ', c1, c2, c3, c4, c5⟩ := ih (c + 1) (by omega) us row σ3 (x4 + if gl G (mvv (us p) c) then 1 else 0) n hU hrw d2 (by rw [d3]; exact nI_1 _) (by rcases hx with q | q; exact Or.inl q; rcases stop_f hst with q2 | q2; exact Or.inl q2; exact Or.inr (by rw [q, q2])) (by omega)
          have hz : ∀ q : Nat, stopB va ((if gl G (mvv (us p) c) then 1 else 0) + q) = stopB va q := fun q => by
            rcases stop_f hst with z | z
            · rw [z]; rfl
            · rw [z, Nat.zero_add]
          unfold Mout
          rw [e2, hst, if_neg (by simp), hstep]
          dsimp only
          rw [hz, ← Nat.add_assoc]
          exact ⟨n', σ', by omega, c2, c3, c4, c5⟩
  | succ k ihk =>
    intro p hpk m
    induction m with
    | zero =>
      intro c hmc us row σ x4 n hU hrw hS hr hx hn
      obtain ⟨n, rfl⟩ : ∃ n', n = n' + 1 := ⟨n - 1, by omega⟩
      obtain ⟨σ2, a1, a2, a3, a4, a5, a6⟩ := s50 hS hU (by omega) h1 (by omega) hr
      refine ⟨n, σ2, by omega, ⟨_, a1, (hU p (Nat.le_refl _)).2⟩, a2 0 (by omega), a5, Or.inr ⟨by rw [lp]; unfold stopB; simp, ⟨⟨_, a1, (hU p (Nat.le_refl _)).2⟩, a2, a3, a5⟩, ?_⟩⟩
      rw [head36 (by omega) hva hx, a6, if_pos (by omega), f_X6_search_171, if_pos kd_298, lp, Nat.add_zero]
    | succ m ih =>
      intro c hmc us row σ x4 n hU hrw hS hr hx hn
      obtain ⟨n, rfl⟩ : ∃ n', n = n' + 1 := ⟨n - 1, by omega⟩
      obtain ⟨σ2, a1, a2, a3, a4, a5, a6⟩ := s50 hS hU (by omega) h1 (by omega) hr
      have hS2 : SS σ2 σ0 v g p us row := ⟨⟨_, a1, (hU p (Nat.le_refl _)).2⟩, a2, a3, a5⟩
      have hr2 : σ2 305 p + 1 = nI (c + 1) := by rw [a4]; exact nI_1 _
      obtain ⟨b1, -, b3⟩ := s109 a1 a2 a3 a4 a5 hU (by omega) h0 (show c < v 1 by omega) hm hG (by omega) (nI va) x4 (f_X6_search_36 n)
      have hstep : f_X6_search_36 (n + 1) 298 (nI many) (nI G) (nI va) (nI x4) (nI p) σ = if okc va row p c then f_X6_search_109 (f_X6_search_36 n) 298 (nI many) (nI G) (nI va) (nI x4) (nI p) (nI c) σ2 else f_X6_search_36 n 298 (nI many) (nI G) (nI va) (nI x4) (nI p) σ2 := by
        rw [head36 (by omega) hva hx, a6, if_neg (by omega)]
        by_cases e : va = 0
        · subst e; rw [if_pos (show nI 0 = 0 from rfl), if_pos (show okc 0 row p c = true from rfl)]
        · rw [if_neg (by rw [show (0 : Int32) = nI 0 from rfl, n_eq (by omega) (by omega)]; exact e), variedM (by omega) (fun i hi => ⟨a3 i hi, hrw i hi⟩) (by omega) hva (by omega), cb_some, f_X6_search_171, if_pos kd_298]
          cases okc va row p c with
          | false => rw [if_pos bf]; rfl
          | true => rw [if_neg bt]; rfl
      have hct : (m + 1) * (1 + ct (k + 1)) = m * (1 + ct (k + 1)) + (1 + ct (k + 1)) := Nat.succ_mul _ _
      rw [hct] at hn ⊢
      cases hok : (okc va row p c && fitV (us p) c) with
      | false =>
        obtain ⟨n', σ', c1, c2, c3, c4, c5⟩ := ih (c + 1) (by omega) us row σ2 x4 n hU hrw hS2 hr2 hx (by omega)
        have e1 : f_X6_search_36 (n + 1) 298 (nI many) (nI G) (nI va) (nI x4) (nI p) σ = f_X6_search_36 n 298 (nI many) (nI G) (nI va) (nI x4) (nI p) σ2 := by
          rw [hstep]
          cases e : okc va row p c with
          | false => rfl
          | true => rw [e, Bool.true_and] at hok; rw [if_pos rfl, b1 hok]
        have e2 : lp va (ndS va G (k + 1) p) (us p) p (m + 1) c row = lp va (ndS va G (k + 1) p) (us p) p m (c + 1) row := by rw [lp, hok]; rfl
        unfold Mout
        rw [e2, e1]
        exact ⟨n', σ', by omega, c2, c3, c4, c5⟩
      | true =>
        rw [Bool.and_eq_true] at hok
        obtain ⟨σ3, d1, d2, d3⟩ := b3 hok.2 (by omega)
        rw [hok.1, if_pos rfl, d1] at hstep
        obtain ⟨hVp, hAp⟩ := hU p (Nat.le_refl _)
        have hcu : c < us p 1 := by rw [hAp 1 (by omega)]; omega
        have hUm : UG v (p + 1) (uw us (p + 1) (mvv (us p) c)) := fun i hi => by
          by_cases e : i = p + 1
          · subst e; rw [uw_s]; exact ⟨Va_mv hVp hcu, AG_mv hAp h0⟩
          · rw [uw_n _ _ e]; exact hU i (by omega)
        have hle : v 1 * (1 + ct k) ≤ 8 * (1 + ct k) := Nat.mul_le_mul_right _ h1
        have hctk : ct (k + 1) = 8 * (1 + ct k) + 1 := rfl
        obtain ⟨n1, σ4, f1, f2, f3, f4, f5⟩ := ihk (p + 1) (by omega) (v 1) 0 (by omega) (uw us (p + 1) (mvv (us p) c)) (fu row p c) σ3 x4 n hUm (fun i hi => by by_cases e : i = p; rw [e, fu_s]; omega; rw [fu_n _ _ e]; exact hrw i (by omega)) d2 d3 hx (by omega)
        rw [uw_n _ _ (by omega)] at f3
        have eq0 : lp va (ndS va G k (p + 1)) (uw us (p + 1) (mvv (us p) c) (p + 1)) (p + 1) (v 1) 0 (fu row p c) = ndS va G (k + 1) p (mvv (us p) c) (fu row p c) := by
          rw [uw_s]
          show _ = nd va G k (p + 1) (mvv (us p) c) (fu row p c)
          rw [nd_eq, (mvv_1 (by rw [hAp 0 (by omega)]; exact h0)).1, hAp 1 (by omega)]
        rw [eq0] at f5
        generalize hqq : ndS va G (k + 1) p (mvv (us p) c) (fu row p c) = q at f5
        have e2 : lp va (ndS va G (k + 1) p) (us p) p (m + 1) c row = if stopB va q.1 then q else (q.1 + (lp va (ndS va G (k + 1) p) (us p) p m (c + 1) row).1, (lp va (ndS va G (k + 1) p) (us p) p m (c + 1) row).2) := by rw [lp, hok.1, hok.2, hqq]; rfl
        rcases f5 with ⟨g1, g2, z, g3⟩ | ⟨g1, g2, g3⟩
        · unfold Mout
          rw [e2, g1, if_pos rfl, hstep]
          exact ⟨n1, σ4, by omega, f2, f3, f4, Or.inl ⟨g1, g2, z, g3⟩⟩
        · have hSb : SS σ4 σ0 v g p us row := by
            obtain ⟨w1, w2, w3, w4⟩ := g2
            refine ⟨w1, fun i hi => ?_, fun i hi => ?_, w4⟩
            · have := w2 i (by omega)
              rw [uw_n _ _ (by omega)] at this
              exact this
            · have := w3 i (by omega)
              rw [fu_n _ _ (by omega)] at this
              exact this
          have hrb : σ4 305 p = nI c := by
            have := g2.2.2.1 p (by omega)
            rw [fu_s] at this
            exact this
          rw [m1m] at g3
          obtain ⟨n', σ', c1, c2, c3, c4, c5⟩ := ih (c + 1) (by omega) us row σ4 (x4 + q.1) n1 hU hrw hSb (by rw [hrb]; exact nI_1 _) (by rcases hx with y | y; exact Or.inl y; rcases stop_f g1 with y2 | y2; exact Or.inl y2; exact Or.inr (by rw [y, y2])) (by omega)
          have hz : ∀ y : Nat, stopB va (q.1 + y) = stopB va y := fun y => by
            rcases stop_f g1 with z | z
            · rw [z]; rfl
            · rw [z, Nat.zero_add]
          unfold Mout
          rw [e2, g1, if_neg (by simp), hstep, g3]
          dsimp only
          rw [hz, ← Nat.add_assoc x4 q.1]
          exact ⟨n', σ', by omega, c2, c3, c4, c5⟩
/-- the whole search of rows of so many calls -/
def rsN (va g many : Nat) (v : Vt) : Nat × (Nat → Nat) := if many = 0 then (if gl g v then 1 else 0, fun _ => 0) else nd va g (many - 1) 0 v (fun _ => 0)
theorem srchM {σ : Sg} {v : Vt} {g : Int32} (hM : Mo (σ 299) v g) (hV : Va v) {many G va : Nat} (hm : many ≤ 5) (hG : G < 3) (hva : va < 6) : ∃ σ', f_X6_search 298 (nI many) (nI G) (nI va) σ = some (nI (rsN va G many v).1, σ') ∧ Mo (σ' 299) v g ∧ (stopB va (rsN va G many v).1 = true → ∀ i, i < many → σ' 305 i = nI ((rsN va G many v).2 i)) ∧ ∀ k, k ≠ 299 → k ≠ 304 → k ≠ 305 → σ' k = σ k := by
  have h0 := hV.1
  have h1 := hV.2.1
  rw [f_X6_search, if_pos kd_298]
  unfold rsN
  by_cases e0 : many = 0
  · subst e0
    rw [if_pos (show nI 0 = 0 from rfl), isGoalM hM hV hG, cb_some, if_pos rfl]
    refine ⟨σ, ?_, hM, fun _ i hi => absurd hi (Nat.not_lt_zero _), fun k _ _ _ => rfl⟩
    cases gl G v <;> rfl
  · obtain ⟨σ1, e1, k1, k2, k3⟩ := holdsM (p := 0) hM (by omega)
    rw [if_neg (by rw [show (0 : Int32) = nI 0 from rfl, n_eq (by omega) (by omega)]; exact e0), show f_X6_holds 298 0 σ = some ((), σ1) from e1, cb_some, if_pos (by decide), rf_298_8, show ix 0 = 0 from rfl, if_neg e0]
    simp only [bnE]
    have hS : SS (up σ1 305 0 (-1)) σ v g 0 (fun _ => v) (fun _ => 0) := ⟨⟨v, by rw [up_o _ _ _ _ (by omega), k3 299 (by omega)]; exact hM, AG_refl v⟩, fun i hi d hd => by rw [up_o _ _ _ _ (by omega), show i = 0 by omega]; exact k1 d hd, fun i hi => absurd hi (Nat.not_lt_zero _), fun k a b c => by rw [up_o _ _ _ _ c, k3 k b]⟩
    have hcb : v 1 * (1 + ct (many - 1)) + 1 ≤ 42129 := by
      have b1 : v 1 * (1 + ct (many - 1)) ≤ 8 * (1 + ct (many - 1)) := Nat.mul_le_mul_right _ h1
      have b2 : ct (many - 1) ≤ 5265 := (by decide : ∀ j, j < 5 → ct j ≤ 5265) (many - 1) (by omega)
      omega
    obtain ⟨n', σ2, c1, ⟨u, c2, c2'⟩, c3, c4, c5⟩ := Mnode (σ0 := σ) (v := v) (g := g) (many := many) (G := G) (va := va) h0 h1 hm hG hva (many - 1) 0 (by omega) (v 1) 0 (by omega) (fun _ => v) (fun _ => 0) (up σ1 305 0 (-1)) 0 FU (fun i _ => ⟨hV, AG_refl v⟩) (fun i hi => absurd hi (Nat.not_lt_zero _)) hS (by rw [ux_s]; rfl) (Or.inr rfl) (Nat.le_trans hcb (by decide))
    have hF : (100000 : Nat) ≤ FU := by decide
    obtain ⟨n', rfl⟩ : ∃ m, n' = m + 1 := ⟨n' - 1, by omega⟩
    have hbd := nd_bd va G (many - 1) 0 v (fun _ => 0) h0 h1
    have hb8 : 8 ^ (many - 1 + 1) ≤ 32768 := (by decide : ∀ j, j < 5 → 8 ^ (j + 1) ≤ 32768) (many - 1) (by omega)
    rw [nd_eq] at hbd
    rw [nd_eq]
    rw [Nat.zero_add] at c5
    generalize lp va (ndS va G (many - 1) 0) v 0 (v 1) 0 (fun _ => 0) = q at c5 hbd ⊢
    obtain ⟨σ3, e3, q1, q2⟩ := returnsM (p := 0) c2 c3 c2' (by omega)
    have fin : f_X6_search_174 298 (nI q.1) σ2 = some (nI q.1, σ3) := by
      rw [f_X6_search_174, if_pos kd_298, show f_X6_returns 298 0 σ2 = some ((), σ3) from e3, cb_some]
    refine ⟨σ3, ?_, q1, fun hs i hi => ?_, fun k a b c => by rw [q2 k a]; exact c4 k a b c⟩
    · rcases c5 with ⟨g1, g2, z, g3⟩ | ⟨g1, g2, g3⟩
      · rw [show f_X6_search_36 FU 298 (nI many) (nI G) (nI va) 0 0 (up σ1 305 0 (-1)) = _ from g3, f_X6_search_36, if_pos kd_298]
        obtain ⟨s1, s2⟩ := stop_t g1
        by_cases hz : z < 0
        · rw [if_pos hz, fin]
        · rw [if_neg hz, if_neg (by rw [show (0 : Int32) = nI 0 from rfl, n_eq (by omega) (by omega)]; exact s1)]
          rw [if_neg (by rw [show (0 : Int32) = nI 0 from rfl, n_eq (by omega) (by omega)]; exact s2), fin]
      · rw [show f_X6_search_36 FU 298 (nI many) (nI G) (nI va) 0 0 (up σ1 305 0 (-1)) = _ from g3, f_X6_search_36, if_pos kd_298, if_pos (by decide), fin]
    · rcases c5 with ⟨g1, g2, z, g3⟩ | ⟨g1, g2, g3⟩
      · rw [q2 305 (by omega)]; exact g2 i hi
      · rw [g1] at hs; cases hs
