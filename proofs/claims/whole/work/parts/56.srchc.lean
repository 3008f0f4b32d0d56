/-! the class's search -/
theorem sx : rf 273 0 = 274 ∧ rf 273 1 = 284 ∧ rf 273 2 = 285 ∧ rf 273 3 = 286 ∧ rf 273 4 = 293 ∧ rf 273 5 = 294 ∧ rf 273 6 = 295 ∧ rf 273 7 = 296 ∧ kd 296 = 7 ∧ ln 296 = 8 := by decide +kernel
theorem sx0 {i : Nat} (h : i < 9) : rf 274 i = 275 + i ∧ kd (275 + i) = 7 ∧ ln (275 + i) = 48 := (by decide +kernel : ∀ i, i < 9 → rf 274 i = 275 + i ∧ kd (275 + i) = 7 ∧ ln (275 + i) = 48) i h
theorem sx3 {i : Nat} (h : i < 6) : rf 286 i = 287 + i ∧ kd (287 + i) = 7 ∧ ln (287 + i) = 8 := (by decide +kernel : ∀ i, i < 6 → rf 286 i = 287 + i ∧ kd (287 + i) = 7 ∧ ln (287 + i) = 8) i h
def CQ (σ : Sg) (v : Vt) (G many mx : Nat) (rep : Bool) (en : Nat) : Prop :=
  σ 273 8 = nI (v 0) ∧ σ 273 9 = nI (v 1) ∧ σ 273 10 = nI G ∧ σ 273 11 = nI many ∧ σ 273 12 = nI mx ∧ σ 273 13 = bI rep ∧ σ 273 14 = nI en ∧
  (∀ c, c < v 1 → ∀ p, p < 48 → σ (275 + c) p = nI (pb (go v c) (tu v c) p)) ∧ (∀ p, p < 48 → σ 283 p = nI p) ∧
  (∀ c, c < v 1 → σ 284 c = nI (bm (fun s => wa v c s == 1) 12) ∧ σ 285 c = nI (bm (fun s => wa v c s == 2) 12)) ∧ ∀ d, d < v 0 → σ 294 d = nI (v (6 + 4 * d) * 4 + v (7 + 4 * d))
def dyn (k : Nat) : Prop := (287 ≤ k ∧ k ≤ 293) ∨ k = 295 ∨ k = 296
theorem CQ_loc {σ σ' : Sg} {v : Vt} {G many mx : Nat} {rep : Bool} {en : Nat} (h : CQ σ v G many mx rep en) (h1 : v 1 ≤ 8) (e : ∀ k, ¬ dyn k → σ' k = σ k) : CQ σ' v G many mx rep en := by
  obtain ⟨a1, a2, a3, a4, a5, a6, a7, a8, a9, a10, a11⟩ := h
  unfold dyn at e
  have e273 := e 273 (by omega)
  refine ⟨by rw [e273]; exact a1, by rw [e273]; exact a2, by rw [e273]; exact a3, by rw [e273]; exact a4, by rw [e273]; exact a5, by rw [e273]; exact a6, by rw [e273]; exact a7, fun c hc p hp => ?_, fun p hp => ?_, fun c hc => ?_, fun d hd => ?_⟩
  · rw [e _ (by omega)]; exact a8 c hc p hp
  · rw [e _ (by omega)]; exact a9 p hp
  · rw [e 284 (by omega), e 285 (by omega)]; exact a10 c hc
  · rw [e 294 (by omega)]; exact a11 d hd
def DS (σ : Sg) (v : Vt) (p : Nat) (us : Nat → Vt) (row : Nat → Nat) : Prop := (∀ i, i ≤ p → (∀ d, d < v 0 → σ (287 + i) d = nI (plv (us i) d)) ∧ σ 293 i = nI (bm (occv (us i)) 12)) ∧ (∀ i, i < p → σ 295 i = nI (row i)) ∧ ∀ c, c < v 1 → σ 296 c = nI (cn (fun i => row i == c) p)
theorem plv_lt {u : Vt} (hV : Va u) {d : Nat} (hd : d < u 0) : plv u d < 48 := by
  obtain ⟨b1, b2, -⟩ := hV.2.2.2.1 d hd
  unfold plv; omega
theorem goal70 {σ : Sg} {v u : Vt} {r3 r4 : Nat} {fr : Nat → Nat} (k3 : kd r3 = 7) (k4 : kd r4 = 7) (l3 : ln r3 = 8) (l4 : ln r4 = 48) (h0 : v 0 ≤ 8) (e8 : σ 273 8 = nI (v 0)) (hV : Va u) (hu : u 0 = v 0) (hf : ∀ d, d < v 0 → σ r3 d = nI (fr d) ∧ fr d < 48 ∧ σ r4 (fr d) = nI (plv u d)) : f_X2_isGoalBehind_70 FU 273 r3 r4 0 σ = some (bI (alF (fun i => prd u (2 * i)) (v 0 / 2) 0), σ) := by
  have key : f_X2_isGoalBehind_70 FU 273 r3 r4 (nI (2 * 0)) σ = some (bI (alF (fun i => prd u (2 * i)) (v 0 / 2 - 0) 0), σ) := loopU (fun n j => f_X2_isGoalBehind_70 n 273 r3 r4 (nI (2 * j)) σ) (fun j => some (bI (alF (fun i => prd u (2 * i)) (v 0 / 2 - j) j), σ)) (v 0 / 2) (by omega) ?_ ?_
  · exact key
  · intro n
    rw [f_X2_isGoalBehind_70, if_pos kd_273, if_pos k3, if_pos k4, e8, show (nI (2 * (v 0 / 2)) + 1 : Int32) = nI (2 * (v 0 / 2) + 1) from nI_1 _, if_pos (by rw [n_le (by omega) (by omega)]; omega), Nat.sub_self]
    rfl
  · intro n j hj ih
    obtain ⟨a1, a2, a3⟩ := hf (2 * j) (by omega)
    obtain ⟨b1, b2, b3⟩ := hf (2 * j + 1) (by omega)
    have hl1 := plv_lt hV (show 2 * j < u 0 by omega)
    have hl2 := plv_lt hV (show 2 * j + 1 < u 0 by omega)
    obtain ⟨-, c2, -⟩ := hV.2.2.2.1 (2 * j) (by omega)
    obtain ⟨-, d2, -⟩ := hV.2.2.2.1 (2 * j + 1) (by omega)
    have hp : prd u (2 * j) = pp (plv u (2 * j)) (plv u (2 * j + 1)) := by
      unfold prd prn plv
      rw [if_pos (by omega), decide_eq_true (by omega), Bool.true_and, pp_eq c2 d2]
    rw [f_X2_isGoalBehind_70, if_pos kd_273, if_pos k3, if_pos k4, e8, show (nI (2 * j) + 1 : Int32) = nI (2 * j + 1) from nI_1 _, if_neg (by rw [n_le (by omega) (by omega)]; omega), l3, if_pos (by rw [inb_nI (by omega)]; exact decide_eq_true (by omega)), ix_nI (by omega), a1, l4, if_pos (by rw [inb_nI (by omega)]; exact decide_eq_true (by omega)), if_pos (by rw [inb_nI (by omega)]; exact decide_eq_true (by omega)), ix_nI (by omega), b1, if_pos (by rw [inb_nI (by omega)]; exact decide_eq_true (by omega)), ix_nI (by omega), ix_nI (by omega), a3, b3, areC σ hl1 hl2, cb_some, ← hp, show v 0 / 2 - j = (v 0 / 2 - (j + 1)) + 1 by omega, alF]
    cases hq : prd u (2 * j) with
    | false => rw [if_pos bf]; rfl
    | true =>
      rw [if_neg bt, show (nI (2 * j) + 2 : Int32) = nI (2 * (j + 1)) from nI_add _ _]
      exact ih
theorem alF_cn (p : Nat → Bool) (n : Nat) : alF p n 0 = (cn p n == n) := by
  rw [Bool.eq_iff_iff, alF_iff, beq_iff_eq, cn_all]
  constructor
  · intro h i hi; exact h i (by omega) (by omega)
  · intro h i _ hi; exact h i (by omega)
theorem goalC {σ : Sg} {v u : Vt} {G : Nat} {r3 r4 : Nat} {fr : Nat → Nat} (k3 : kd r3 = 7) (k4 : kd r4 = 7) (l3 : ln r3 = 8) (l4 : ln r4 = 48) (h0 : v 0 ≤ 8) (hG : G < 3) (e8 : σ 273 8 = nI (v 0)) (e10 : σ 273 10 = nI G) (hh : ∀ d, d < v 0 → σ 294 d = nI (v (6 + 4 * d) * 4 + v (7 + 4 * d))) (hV : Va u) (hA : AG u v) (hf : ∀ d, d < v 0 → σ r3 d = nI (fr d) ∧ fr d < 48 ∧ σ r4 (fr d) = nI (plv u d)) : (if σ 273 10 = 1 then f_X2_isGoalBehind_60 273 r3 r4 σ else f_X2_isGoalBehind_26 FU 273 r3 r4 0 σ) = some (bI (gl G u), σ) := by
  have hu : u 0 = v 0 := hA 0 (by omega)
  have f60 : f_X2_isGoalBehind_60 273 r3 r4 σ = some (bI (G == 0 || alF (fun i => prd u (2 * i)) (v 0 / 2) 0), σ) := by
    rw [f_X2_isGoalBehind_60, if_pos kd_273, if_pos k3, if_pos k4, e10, goal70 k3 k4 l3 l4 h0 e8 hV hu hf]
    by_cases e : G = 0
    · subst e; rw [if_pos (show nI 0 = 0 from rfl)]; rfl
    · rw [if_neg (by rw [show (0 : Int32) = nI 0 from rfl, n_eq (by omega) (by omega)]; exact e), show (G == 0) = false by simp [e], Bool.false_or]
  have key : f_X2_isGoalBehind_26 FU 273 r3 r4 (nI 0) σ = if alF (hmB u) (v 0 - 0) 0 then some (bI (G == 0 || alF (fun i => prd u (2 * i)) (v 0 / 2) 0), σ) else some (0, σ) := loopU (fun n j => f_X2_isGoalBehind_26 n 273 r3 r4 (nI j) σ) (fun j => if alF (hmB u) (v 0 - j) j then some (bI (G == 0 || alF (fun i => prd u (2 * i)) (v 0 / 2) 0), σ) else some (0, σ)) (v 0) (by omega) ?_ ?_
  · unfold gl
    rw [hu]
    have e1 : (cn (hmB u) (v 0) == v 0) = alF (hmB u) (v 0) 0 := (alF_cn _ _).symm
    have e2 : (prs u == v 0 / 2) = alF (fun i => prd u (2 * i)) (v 0 / 2) 0 := by unfold prs; rw [hu]; exact (alF_cn _ _).symm
    rw [e1, e2, e10]
    by_cases e : G = 1
    · subst e; rw [if_pos (show nI 1 = 1 from rfl), f60]; rfl
    · rw [if_neg (by rw [show (1 : Int32) = nI 1 from rfl, n_eq (by omega) (by omega)]; exact e), show f_X2_isGoalBehind_26 FU 273 r3 r4 0 σ = _ from key, show (G == 1) = false by simp [e], Bool.false_or, Nat.sub_zero]
      cases alF (hmB u) (v 0) 0 with
      | false => rfl
      | true => rw [if_pos rfl, Bool.true_and]
  · intro n
    rw [f_X2_isGoalBehind_26, if_pos kd_273, if_pos k3, if_pos k4, e8, if_pos (by rw [n_le (by omega) (by omega)]; omega), f60, Nat.sub_self]
    rfl
  · intro n j hj ih
    obtain ⟨a1, a2, a3⟩ := hf j hj
    have hl := plv_lt hV (show j < u 0 by omega)
    obtain ⟨b1, b2, b3, b4⟩ := hV.2.2.2.1 j (by omega)
    have h6 : u (6 + 4 * j) = v (6 + 4 * j) := hA _ (by omega)
    have h7 : u (7 + 4 * j) = v (7 + 4 * j) := hA _ (by omega)
    have hq : (nI (plv u j) = nI (v (6 + 4 * j) * 4 + v (7 + 4 * j))) ↔ hmB u j = true := by
      rw [← h6, ← h7, n_eq (by omega) (by omega)]
      unfold hmB plv
      simp only [Bool.and_eq_true, beq_iff_eq]
      omega
    rw [f_X2_isGoalBehind_26, if_pos kd_273, if_pos k3, if_pos k4, e8, if_neg (by rw [n_le (by omega) (by omega)]; omega), l3, if_pos (by rw [inb_nI (by omega)]; exact decide_eq_true (by omega)), ix_nI (by omega), a1, l4, if_pos (by rw [inb_nI (by omega)]; exact decide_eq_true (by omega)), if_pos (by rw [inb_nI (by omega)]; exact decide_eq_true (by omega)), ix_nI (by omega), a3, sx.2.2.2.2.2.1, hh j hj, show v 0 - j = (v 0 - (j + 1)) + 1 by omega, alF, show (nI j + 1 : Int32) = nI (j + 1) from nI_1 _]
    by_cases e : hmB u j = true
    · rw [if_pos (hq.mpr e), if_pos e]; exact ih
    · rw [if_neg (fun z => e (hq.mp z)), if_neg e]; rfl
/-- the modes: a row is found, or all are counted -/
def Md (va many mx : Nat) (rep : Bool) (en : Nat) : Prop := many ≤ 5 ∧ ((va ≠ 0 ∧ va < 6 ∧ mx = va ∧ rep = false ∧ en = 1) ∨ (va = 0 ∧ mx = many ∧ rep = true ∧ en = 1000000))
theorem mayC {σ : Sg} {v : Vt} {G many mx va p c : Nat} {rep : Bool} {en : Nat} {us : Nat → Vt} {row : Nat → Nat} (hC : CQ σ v G many mx rep en) (hD : DS σ v p us row) (hMd : Md va many mx rep en) (hU : UG v p us) (hV : Va v) (hr : ∀ i, i < p → row i < 8) (hp : p < many) (hc : c < v 1) : f_X2_mayCome 273 (nI c) (nI p) σ = some (bI (okc va row p c && fitV (us p) c), σ) := by
  obtain ⟨a1, a2, a3, a4, a5, a6, a7, a8, a9, a10, a11⟩ := hC
  obtain ⟨d1, d2, d3⟩ := hD
  obtain ⟨hm5, hmd⟩ := hMd
  have h1 := hV.2.1
  obtain ⟨s0, s1, s2, s3, s4, s5, s6, s7, -⟩ := sx
  have ib : inb (nI c) 8 = true := by rw [inb_nI (by omega)]; exact decide_eq_true (by omega)
  have ip : inb (nI p) 6 = true := by rw [inb_nI (by omega)]; exact decide_eq_true (by omega)
  have hle := cn_le (fun i => row i == c) p
  have f38 : f_X2_mayCome_38 273 (nI c) (nI p) σ = some (bI (fitV (us p) c), σ) := by
    have hfi := fit_iff (fun s hs => ((Cb_of hV hc) s hs).2.2) (occv (us p))
    have ew : fitV (us p) c = fitP (occv (us p)) (wa v c) := by unfold fitV; rw [(AG_go (hU p (Nat.le_refl _)).2 c).2.2]
    rw [f_X2_mayCome_38, if_pos kd_273, if_pos ip, if_pos ib, if_pos ib, s4, s1, s2, ix_nI (by omega), ix_nI (by omega), (d1 p (Nat.le_refl _)).2, (a10 c hc).1, (a10 c hc).2, if_pos ip, if_pos ib, ew]
    cases e : fitP (occv (us p)) (wa v c) with
    | true =>
      obtain ⟨q1, q2⟩ := hfi.mpr e
      rw [if_pos q1, if_pos q2]; rfl
    | false =>
      by_cases q1 : nI (bm (occv (us p)) 12) &&& nI (bm (fun s => wa v c s == 1) 12) = nI (bm (fun s => wa v c s == 1) 12)
      · rw [if_pos q1, if_neg (fun q2 => by have := hfi.mp ⟨q1, q2⟩; rw [e] at this; cases this)]; rfl
      · rw [if_neg q1]; rfl
  rw [f_X2_mayCome, if_pos kd_273, if_pos ib, a5, s7, ix_nI (by omega), d3 c hc, f38, a6, s6]
  rcases hmd with ⟨m1, m2, m3, rfl, m5⟩ | ⟨rfl, m3, rfl, m5⟩
  · unfold okc
    rw [m3, show (va == 0) = false by simp [m1], Bool.false_or, if_pos bf]
    by_cases q : va ≤ cn (fun i => row i == c) p
    · rw [if_pos (by rw [n_le (by omega) (by omega)]; exact q), decide_eq_false (by omega)]; rfl
    · rw [if_neg (by rw [n_le (by omega) (by omega)]; exact q), decide_eq_true (by omega), Bool.true_and]
      by_cases z : p = 0
      · subst z; rw [if_pos (by decide)]; rfl
      · have r2 := hr (p - 1) (by omega)
        rw [if_neg (by rw [show (0 : Int32) = nI 0 from rfl, n_le (by omega) (by omega)]; omega), show (nI p - 1 : Int32) = nI (p - 1) from n_sub (b := 1) (by omega), if_pos (by rw [inb_nI (by omega)]; exact decide_eq_true (by omega)), ix_nI (by omega), d2 (p - 1) (by omega), show (p == 0) = false by simp [z], Bool.false_or]
        by_cases y : row (p - 1) = c
        · rw [if_pos (by rw [y])]; simp [y, bI]
        · rw [if_neg (by rw [n_eq (by omega) (by omega)]; exact y), show (row (p - 1) != c) = true by simp [y], Bool.true_and]
  · rw [m3, if_neg (by rw [n_le (by omega) (by omega)]; omega), if_neg bt]
    rfl
theorem stepC {σ : Sg} {v : Vt} {G many mx p c : Nat} {rep : Bool} {en : Nat} {us : Nat → Vt} {row : Nat → Nat} (hC : CQ σ v G many mx rep en) (hD : DS σ v p us row) (hU : UG v p us) (h0 : v 0 ≤ 8) (h1 : v 1 ≤ 8) (hp : p + 1 ≤ 5) (hc : c < v 1) : ∃ σ', f_X2_step 273 (nI c) (nI p) σ = some ((), σ') ∧ (∀ d, d < v 0 → σ' (288 + p) d = nI (plv (mvv (us p) c) d)) ∧ σ' 293 (p + 1) = nI (bm (occv (mvv (us p) c)) 12) ∧ (∀ i, i ≠ p + 1 → σ' 293 i = σ 293 i) ∧ ∀ k, k ≠ 288 + p → k ≠ 293 → σ' k = σ k := by
  obtain ⟨a1, a2, a3, a4, a5, a6, a7, a8, a9, a10, a11⟩ := hC
  obtain ⟨s0, s1, s2, s3, s4, s5, s6, s7, -⟩ := sx
  obtain ⟨t0, t1, t2⟩ := sx3 (show p < 6 by omega)
  obtain ⟨t3, t4, t5⟩ := sx3 (show p + 1 < 6 by omega)
  obtain ⟨t6, -⟩ := sx0 (show c < 9 by omega)
  obtain ⟨hVp, hAp⟩ := hU p (Nat.le_refl _)
  obtain ⟨g1, g2, g3⟩ := AG_go hAp c
  have hu0 : us p 0 = v 0 := hAp 0 (by omega)
  have hcu : c < us p 1 := by rw [hAp 1 (by omega)]; exact hc
  have hVm := Va_mv hVp hcu
  have hm0 : mvv (us p) c 0 = v 0 := by rw [(mvv_1 (by omega)).2.1]; exact hu0
  rw [show 287 + (p + 1) = 288 + p by omega] at t3 t4 t5
  rw [f_X2_step, if_pos kd_273, if_pos (by rw [inb_nI (by omega)]; exact decide_eq_true (by omega)), show (nI p + 1 : Int32) = nI (p + 1) from nI_1 _, if_pos (by rw [inb_nI (by omega)]; exact decide_eq_true (by omega)), s3, ix_nI (by omega), ix_nI (by omega), t0, t3]
  have key := loopI (fun n j τ => f_X2_step_20 n 273 (nI c) (nI p) (287 + p) (288 + p) (nI j) τ) (fun j τ => (∀ d, d < j → τ (288 + p) d = nI (plv (mvv (us p) c) d)) ∧ ∀ k, k ≠ 288 + p → τ k = σ k) (fun q => (∀ d, d < v 0 → q.2 (288 + p) d = nI (plv (mvv (us p) c) d)) ∧ q.2 293 (p + 1) = nI (bm (occv (mvv (us p) c)) 12) ∧ (∀ i, i ≠ p + 1 → q.2 293 i = σ 293 i) ∧ ∀ k, k ≠ 288 + p → k ≠ 293 → q.2 k = σ k) (v 0) ?_ ?_ FU 0 σ (by omega) (FU_gt (by omega)) ⟨fun d hd => absurd hd (Nat.not_lt_zero _), fun k _ => rfl⟩
  · obtain ⟨⟨⟨⟩, τ'⟩, e, h2⟩ := key
    exact ⟨τ', e, h2⟩
  · intro n τ hI
    obtain ⟨i1, i2⟩ := hI
    have e8 : τ 273 8 = nI (v 0) := by rw [i2 273 (by omega)]; exact a1
    have hh := heldV (σ := τ) hVm t4 t5 (fun d hd => i1 d (by omega))
    rw [hm0] at hh
    refine ex_of (a := ((), up τ 293 (p + 1) (nI (bm (occv (mvv (us p) c)) 12)))) ?_ ⟨fun d hd => by dsimp only; rw [ux_o _ _ _ _ (by omega)]; exact i1 d hd, ux_s _ _ _ _, fun i hi => by dsimp only; rw [ux_n _ _ _ hi, i2 293 (by omega)], fun k a b => by dsimp only; rw [up_o _ _ _ _ b, i2 k a]⟩
    rw [f_X2_step_20, if_pos kd_273, if_pos t1, if_pos t4, e8, if_pos (by rw [n_le (by omega) (by omega)]; omega), hh, cb_some, show (nI p + 1 : Int32) = nI (p + 1) from nI_1 _, if_pos (by rw [inb_nI (by omega)]; exact decide_eq_true (by omega)), s4, ix_nI (by omega)]
    simp only [bnE]
  · intro n j τ hj hI
    obtain ⟨i1, i2⟩ := hI
    have e8 : τ 273 8 = nI (v 0) := by rw [i2 273 (by omega)]; exact a1
    have ef : τ (287 + p) j = nI (plv (us p) j) := by rw [i2 _ (by omega)]; exact (hD.1 p (Nat.le_refl _)).1 j hj
    have hl := plv_lt hVp (show j < us p 0 by omega)
    have eb : τ (275 + c) (plv (us p) j) = nI (plv (mvv (us p) c) j) := by
      rw [i2 _ (by omega), a8 c hc _ hl, ← g1, ← g2, plv_mv hVp (by omega)]
    refine stp (s' := up τ (288 + p) j (nI (plv (mvv (us p) c) j))) ?_ ⟨fun d hd => ?_, fun k hk => by rw [up_o _ _ _ _ hk]; exact i2 k hk⟩
    · rw [f_X2_step_20, if_pos kd_273, if_pos t1, if_pos t4, e8, if_neg (by rw [n_le (by omega) (by omega)]; omega), if_pos (by rw [inb_nI (by omega)]; exact decide_eq_true (by omega)), t2, if_pos (by rw [inb_nI (by omega)]; exact decide_eq_true (by omega)), ix_nI (by omega), ef, if_pos (by rw [inb_nI (by omega)]; exact decide_eq_true (by omega)), t5, if_pos (by rw [inb_nI (by omega)]; exact decide_eq_true (by omega)), s0, ix_nI (by omega), t6, ix_nI (by omega), eb]
      simp only [bnE]
      rw [show (nI j + 1 : Int32) = nI (j + 1) from nI_1 _]
    · by_cases e : d = j
      · subst e; rw [ux_s]
      · rw [ux_n _ _ _ e]; exact i1 d (by omega)
theorem cn_fu (row : Nat → Nat) (p c x : Nat) : cn (fun i => fu row p c i == x) (p + 1) = cn (fun i => row i == x) p + (if c = x then 1 else 0) := by
  rw [cn, fu_s, cn_cong (q := fun i => row i == x) (fun i hi => by rw [fu_n _ _ (by omega)])]
  by_cases e : c = x
  · simp [e]
  · simp [e]
