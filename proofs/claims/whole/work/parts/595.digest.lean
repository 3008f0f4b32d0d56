/-! digest -/
def dg (h : Int64) (x : Int32) : Int64 := (31 * h) + x.toInt64
def gf (S : Nat → Int64 → Int64) : Nat → Nat → Int64 → Int64
  | 0, _, h => h
  | n + 1, j, h => gf S n (j + 1) (S j h)
theorem gfL {β : Type} (F : Nat → Int64 → Nat → β) (S : Nat → Int64 → Int64) (N : Nat) (K : Int64 → β) (hz : ∀ n h, F (n + 1) h N = K h) (hs : ∀ n h j, j < N → F (n + 1) h j = F n (S j h) (j + 1)) : ∀ n j h, j ≤ N → N - j < n → F n h j = K (gf S (N - j) j h) := by
  intro n
  induction n with
  | zero => intro j h h1 h2; omega
  | succ n ih =>
    intro j h h1 h2
    rcases Nat.lt_or_ge j N with q | q
    · rw [hs n h j q, ih (j + 1) _ q (by omega), show N - j = (N - (j + 1)) + 1 by omega, gf]
    · have e : j = N := by omega
      subst e
      rw [hz, Nat.sub_self, gf]
theorem gfU {β : Type} (F : Nat → Int64 → Nat → β) (S : Nat → Int64 → Int64) (N : Nat) (K : Int64 → β) (hN : N < 100000) (hz : ∀ n h, F (n + 1) h N = K h) (hs : ∀ n h j, j < N → F (n + 1) h j = F n (S j h) (j + 1)) (h : Int64) : F FU h 0 = K (gf S N 0 h) := by
  have := gfL F S N K hz hs FU 0 h (Nat.zero_le _) (by rw [Nat.sub_zero]; exact hN)
  rw [Nat.sub_zero] at this
  exact this
theorem gf_at (A : Nat → Nat → Int32) (h : Int64) : gf (fun s h => gf (fun w h => dg h (A s w)) 3 0 h) 12 0 h = gf (fun k h => dg h (A (k / 3) (k % 3))) 36 0 h := rfl
theorem gf_cn (B C : Nat → Int32) (h : Int64) : gf (fun k h => dg h (C k)) 7 0 (gf (fun k h => dg h (B k)) 5 0 h) = gf (fun k h => dg h (if k < 5 then B k else C (k - 5))) 12 0 h := rfl
theorem mixE (y : Int64) (x : Int32) (σ : Sg) : f_X5_mixed y x σ = some (dg y x, σ) := rfl
def tdN (ks tl : Nat) (rz : Nat → Int32) (j : Nat) : Int32 := if j < 3 then rz j else if j = 3 then nI tl else nI ks
theorem tdC {σ : Sg} {v : Vt} {g : Int32} {hv : Nat → Vt} {hg : Nat → Int32} {ks tl : Nat} {tb : Nat → Nat} {rz : Nat → Int32} (hC : CI σ v g hv hg ks tl tb rz) {j : Nat} (hj : j < 5) : f_X5_told 0 (nI j) σ = some (tdN ks tl rz j, σ) := by
  obtain ⟨c1, ⟨nx, c2⟩, c3, c4, c5, c6⟩ := hC
  rcases (show j = 0 ∨ j = 1 ∨ j = 2 ∨ j = 3 ∨ j = 4 by omega) with rfl | rfl | rfl | rfl | rfl
  · rw [f_X5_told, if_pos kd_0, if_pos (show nI 0 = 0 from rfl), f_X5_told_36, if_pos kd_0, if_pos (by decide), rf_0_4, ix_nI (by omega), c5 0 (by omega)]; rfl
  · rw [f_X5_told, if_pos kd_0, if_neg (by decide), if_pos (show nI 1 = 1 from rfl), f_X5_told_36, if_pos kd_0, if_pos (by decide), rf_0_4, ix_nI (by omega), c5 1 (by omega)]; rfl
  · rw [f_X5_told, if_pos kd_0, if_neg (by decide), if_neg (by decide), if_pos (show nI 2 = 2 from rfl), f_X5_told_36, if_pos kd_0, if_pos (by decide), rf_0_4, ix_nI (by omega), c5 2 (by omega)]; rfl
  · rw [f_X5_told, if_pos kd_0, if_neg (by decide), if_neg (by decide), if_neg (by decide), if_pos (show nI 3 = 3 from rfl), rf_0_2, c3]; rfl
  · rw [f_X5_told, if_pos kd_0, if_neg (by decide), if_neg (by decide), if_neg (by decide), if_neg (by decide), if_pos (show nI 4 = 4 from rfl), rf_0_1, c2.2.2.1]; rfl
theorem tdM {σ : Sg} {v : Vt} {g : Int32} {hv : Nat → Vt} {hg : Nat → Int32} {ks tl : Nat} {tb : Nat → Nat} {rz : Nat → Int32} (hM : MI σ v g hv hg ks tl tb rz) {j : Nat} (hj : j < 5) : f_X6_toldOf 298 (nI j) σ = some (tdN ks tl rz j, σ) := by
  obtain ⟨m1, m2, m3, m4, m5⟩ := hM
  have hx : inb (nI j) 5 = true := by rw [inb_nI (by omega)]; exact decide_eq_true hj
  rw [f_X6_toldOf, if_pos kd_298, isI (N := 5) (by decide), cb_some, hx, if_neg bt]
  unfold tdN
  by_cases h3 : j < 3
  · rw [if_neg (by rw [show (3 : Int32) = nI 3 from rfl, n_le (by omega) (by omega)]; omega), if_pos (by rw [inb_nI (by omega)]; exact decide_eq_true h3), rf_298_4, ix_nI (by omega), m5 j h3, if_pos h3]
  · rw [if_pos (by rw [show (3 : Int32) = nI 3 from rfl, n_le (by omega) (by omega)]; omega), if_neg h3, m3, m2.1]
    by_cases h4 : j = 3
    · subst h4
      rw [if_pos rfl, if_pos (show nI 3 = 3 from rfl)]
    · rw [if_neg h4, if_neg (by rw [show (3 : Int32) = nI 3 from rfl, n_eq (by omega) (by omega)]; exact h4)]
def dgP (v : Vt) (h : Int64) : Int64 := gf (fun i h => dg h (nI (v (324 + i)))) (v 2) 0 h
def dgK (v : Vt) (c : Nat) (h : Int64) : Int64 := gf (fun w h => dg h (tlA v (nI c) (nI w))) 4 0 (gf (fun k h => dg h (atA v (nI c) (nI (k / 3)) (nI (k % 3)))) 36 0 h)
def dgD (v : Vt) (d : Nat) (h : Int64) : Int64 := gf (fun w h => dg h (ofA v (nI d) (nI w))) 7 0 h
def dgB (v : Vt) (g : Int32) (ks tl : Nat) (rz : Nat → Int32) (h : Int64) : Int64 := gf (fun k h => dg h (if k < 5 then tdN ks tl rz k else cnA v g (nI (k - 5)))) 12 0 h
def dgv (v : Vt) (g : Int32) (ks tl : Nat) (rz : Nat → Int32) : Int64 := dgP v (gf (dgK v) (v 1) 0 (gf (dgD v) (v 0) 0 (dgB v g ks tl rz 2633)))
theorem dgC {σ : Sg} {v : Vt} {g : Int32} {hv : Nat → Vt} {hg : Nat → Int32} {ks tl : Nat} {tb : Nat → Nat} {rz : Nat → Int32} (hV : VI v hv ks tl tb) (hC : CI σ v g hv hg ks tl tb rz) : f_X5_digest 0 σ = some (dgv v g ks tl rz, σ) := by
  have hc := hC.1
  have v0 := hV.1.1
  have v1 := hV.1.2.1
  have v2 := hV.1.2.2.1
  have q132 : ∀ h, f_X5_digest_132 FU 0 h 0 σ = some (dgP v h, σ) := fun h => gfU (fun n h j => f_X5_digest_132 n 0 h (nI j) σ) (fun i h => dg h (nI (v (324 + i)))) (v 2) (fun h => some (h, σ)) (by omega) (fun n h => by
      rw [f_X5_digest_132, if_pos kd_0, rf_0_0, hc.2.2.1, if_pos (by rw [n_le (by omega) (by omega)]; omega)]) (fun n h j hj => by
      have hp : σ 5 j = nI (v (324 + j)) := hc.2.2.2.2.2.2 j hj
      rw [f_X5_digest_132, if_pos kd_0, rf_0_0, hc.2.2.1, if_neg (by rw [n_le (by omega) (by omega)]; omega), if_pos (by rw [inb_nI (by omega)]; exact decide_eq_true (by omega)), mixE, cb_some, rf_1_6, ix_nI (by omega), hp, show (nI j + 1 : Int32) = nI (j + 1) from nI_1 _]) h
  have q16 : ∀ (rc : Nat → Int32 → Int64 → Int32 → Sg → Option (Int64 × Sg)) (c s : Nat) h, f_X5_mixedWithCall_16 rc FU 0 (nI c) h (nI s) 0 σ = rc 0 (nI c) (gf (fun w h => dg h (atA v (nI c) (nI s) (nI w))) 3 0 h) (nI (s + 1)) σ := fun rc c s h => gfU (fun n h j => f_X5_mixedWithCall_16 rc n 0 (nI c) h (nI s) (nI j) σ) (fun w h => dg h (atA v (nI c) (nI s) (nI w))) 3 (fun h => rc 0 (nI c) h (nI (s + 1)) σ) (by omega) (fun n h => by
      rw [f_X5_mixedWithCall_16, if_pos kd_0, if_pos (by decide), show (nI s + 1 : Int32) = nI (s + 1) from nI_1 _]) (fun n h j hj => by
      rw [f_X5_mixedWithCall_16, if_pos kd_0, if_neg (by rw [show (3 : Int32) = nI 3 from rfl, n_le (by omega) (by omega)]; omega), rf_0_0, atC hc hV.1, cb_some, mixE, cb_some, show (nI j + 1 : Int32) = nI (j + 1) from nI_1 _]) h
  have q56 : ∀ (c : Nat) h, f_X5_mixedWithCall_56 FU 0 (nI c) h 0 σ = some (gf (fun w h => dg h (tlA v (nI c) (nI w))) 4 0 h, σ) := fun c h => gfU (fun n h j => f_X5_mixedWithCall_56 n 0 (nI c) h (nI j) σ) (fun w h => dg h (tlA v (nI c) (nI w))) 4 (fun h => some (h, σ)) (by omega) (fun n h => by
      rw [f_X5_mixedWithCall_56, if_pos kd_0, if_pos (by decide)]) (fun n h j hj => by
      rw [f_X5_mixedWithCall_56, if_pos kd_0, if_neg (by rw [show (4 : Int32) = nI 4 from rfl, n_le (by omega) (by omega)]; omega), rf_0_0, tlC hc hV.1, cb_some, mixE, cb_some, show (nI j + 1 : Int32) = nI (j + 1) from nI_1 _]) h
  have q6 : ∀ (c : Nat) h, f_X5_mixedWithCall 0 h (nI c) σ = some (dgK v c h, σ) := fun c h => by
    have e : f_X5_mixedWithCall_6 FU 0 (nI c) h 0 σ = f_X5_mixedWithCall_56 FU 0 (nI c) (gf (fun s h => gf (fun w h => dg h (atA v (nI c) (nI s) (nI w))) 3 0 h) 12 0 h) 0 σ := gfU (fun n h j => f_X5_mixedWithCall_6 n 0 (nI c) h (nI j) σ) (fun s h => gf (fun w h => dg h (atA v (nI c) (nI s) (nI w))) 3 0 h) 12 (fun h => f_X5_mixedWithCall_56 FU 0 (nI c) h 0 σ) (by omega) (fun n h => by
      rw [f_X5_mixedWithCall_6, if_pos kd_0, if_pos (by decide)]) (fun n h j hj => by
      rw [f_X5_mixedWithCall_6, if_pos kd_0, if_neg (by rw [show (12 : Int32) = nI 12 from rfl, n_le (by omega) (by omega)]; omega), q16]) h
    rw [f_X5_mixedWithCall, if_pos kd_0, e, gf_at (fun s w => atA v (nI c) (nI s) (nI w)), q56]
    rfl
  have q106 : ∀ h, f_X5_digest_106 FU 0 h 0 σ = some (dgP v (gf (dgK v) (v 1) 0 h), σ) := fun h => gfU (fun n h j => f_X5_digest_106 n 0 h (nI j) σ) (dgK v) (v 1) (fun h => some (dgP v h, σ)) (by omega) (fun n h => by
      rw [f_X5_digest_106, if_pos kd_0, rf_0_0, hc.2.1, if_pos (by rw [n_le (by omega) (by omega)]; omega), q132]) (fun n h j hj => by
      rw [f_X5_digest_106, if_pos kd_0, rf_0_0, hc.2.1, if_neg (by rw [n_le (by omega) (by omega)]; omega), q6, cb_some, show (nI j + 1 : Int32) = nI (j + 1) from nI_1 _]) h
  have q70 : ∀ (rc : Nat → Int64 → Int32 → Sg → Option (Int64 × Sg)) (d : Nat) h, f_X5_digest_70 rc FU 0 h (nI d) 0 σ = rc 0 (dgD v d h) (nI (d + 1)) σ := fun rc d h => gfU (fun n h j => f_X5_digest_70 rc n 0 h (nI d) (nI j) σ) (fun w h => dg h (ofA v (nI d) (nI w))) 7 (fun h => rc 0 h (nI (d + 1)) σ) (by omega) (fun n h => by
      rw [f_X5_digest_70, if_pos kd_0, if_pos (by decide), show (nI d + 1 : Int32) = nI (d + 1) from nI_1 _]) (fun n h j hj => by
      rw [f_X5_digest_70, if_pos kd_0, if_neg (by rw [show (7 : Int32) = nI 7 from rfl, n_le (by omega) (by omega)]; omega), rf_0_0, ofC hc hV.1, cb_some, mixE, cb_some, show (nI j + 1 : Int32) = nI (j + 1) from nI_1 _]) h
  have q56' : ∀ h, f_X5_digest_56 FU 0 h 0 σ = some (dgP v (gf (dgK v) (v 1) 0 (gf (dgD v) (v 0) 0 h)), σ) := fun h => gfU (fun n h j => f_X5_digest_56 n 0 h (nI j) σ) (dgD v) (v 0) (fun h => some (dgP v (gf (dgK v) (v 1) 0 h), σ)) (by omega) (fun n h => by
      rw [f_X5_digest_56, if_pos kd_0, rf_0_0, hc.1, if_pos (by rw [n_le (by omega) (by omega)]; omega), q106]) (fun n h j hj => by
      rw [f_X5_digest_56, if_pos kd_0, rf_0_0, hc.1, if_neg (by rw [n_le (by omega) (by omega)]; omega), q70]) h
  have q29 : ∀ h, f_X5_digest_29 FU 0 h 0 σ = some (dgP v (gf (dgK v) (v 1) 0 (gf (dgD v) (v 0) 0 (gf (fun k h => dg h (cnA v g (nI k))) 7 0 h))), σ) := fun h => gfU (fun n h j => f_X5_digest_29 n 0 h (nI j) σ) (fun k h => dg h (cnA v g (nI k))) 7 (fun h => some (dgP v (gf (dgK v) (v 1) 0 (gf (dgD v) (v 0) 0 h)), σ)) (by omega) (fun n h => by
      rw [f_X5_digest_29, if_pos kd_0, if_pos (by decide), q56']) (fun n h j hj => by
      rw [f_X5_digest_29, if_pos kd_0, if_neg (by rw [show (7 : Int32) = nI 7 from rfl, n_le (by omega) (by omega)]; omega), rf_0_0, cnC hc hV.1, cb_some, mixE, cb_some, show (nI j + 1 : Int32) = nI (j + 1) from nI_1 _]) h
  have q6' : ∀ h, f_X5_digest_6 FU 0 h 0 σ = some (dgP v (gf (dgK v) (v 1) 0 (gf (dgD v) (v 0) 0 (gf (fun k h => dg h (cnA v g (nI k))) 7 0 (gf (fun k h => dg h (tdN ks tl rz k)) 5 0 h)))), σ) := fun h => gfU (fun n h j => f_X5_digest_6 n 0 h (nI j) σ) (fun k h => dg h (tdN ks tl rz k)) 5 (fun h => some (dgP v (gf (dgK v) (v 1) 0 (gf (dgD v) (v 0) 0 (gf (fun k h => dg h (cnA v g (nI k))) 7 0 h))), σ)) (by omega) (fun n h => by
      rw [f_X5_digest_6, if_pos kd_0, if_pos (by decide), q29]) (fun n h j hj => by
      rw [f_X5_digest_6, if_pos kd_0, if_neg (by rw [show (5 : Int32) = nI 5 from rfl, n_le (by omega) (by omega)]; omega), tdC hC hj, cb_some, mixE, cb_some, show (nI j + 1 : Int32) = nI (j + 1) from nI_1 _]) h
  rw [f_X5_digest, if_pos kd_0, q6', gf_cn (tdN ks tl rz) (fun k => cnA v g (nI k))]
  rfl
theorem dgM {σ : Sg} {v : Vt} {g : Int32} {hv : Nat → Vt} {hg : Nat → Int32} {ks tl : Nat} {tb : Nat → Nat} {rz : Nat → Int32} (hV : VI v hv ks tl tb) (hM : MI σ v g hv hg ks tl tb rz) : f_X6_digest 298 σ = some (dgv v g ks tl rz, σ) := by
  have hm := hM.1
  have v0 := hV.1.1
  have v1 := hV.1.2.1
  have v2 := hV.1.2.2.1
  have w0 : σ 299 0 = nI (v 0) := hm.2 0 (by omega) (by omega)
  have w1 : σ 299 1 = nI (v 1) := hm.2 1 (by omega) (by omega)
  have w2 : σ 299 2 = nI (v 2) := hm.2 2 (by omega) (by omega)
  have q182 : ∀ h, f_X6_digest_182 FU 298 h 0 σ = some (dgP v h, σ) := fun h => gfU (fun n h j => f_X6_digest_182 n 298 h (nI j) σ) (fun i h => dg h (nI (v (324 + i)))) (v 2) (fun h => some (h, σ)) (by omega) (fun n h => by
      rw [f_X6_digest_182, if_pos kd_298, if_pos (by decide), rf_298_0, show ix 2 = 2 from rfl, w2, if_pos (by rw [n_le (by omega) (by omega)]; omega)]) (fun n h j hj => by
      rw [f_X6_digest_182, if_pos kd_298, if_pos (by decide), rf_298_0, show ix 2 = 2 from rfl, w2, if_neg (by rw [n_le (by omega) (by omega)]; omega), show (324 : Int32) = nI 324 from rfl, nI_add, if_pos (by rw [inb_nI (by omega)]; exact decide_eq_true (by omega)), ix_nI (by omega), hm.2 (324 + j) (by omega) (by omega), show (nI j + 1 : Int32) = nI (j + 1) from nI_1 _]
      rfl) h
  have q147 : ∀ (rc : Nat → Int64 → Int32 → Sg → Option (Int64 × Sg)) (c : Nat) h, f_X6_digest_147 rc FU 298 h (nI c) 0 σ = rc 298 (gf (fun w h => dg h (tlA v (nI c) (nI w))) 4 0 h) (nI (c + 1)) σ := fun rc c h => gfU (fun n h j => f_X6_digest_147 rc n 298 h (nI c) (nI j) σ) (fun w h => dg h (tlA v (nI c) (nI w))) 4 (fun h => rc 298 h (nI (c + 1)) σ) (by omega) (fun n h => by
      rw [f_X6_digest_147, if_pos kd_298, if_pos (by decide), show (nI c + 1 : Int32) = nI (c + 1) from nI_1 _]) (fun n h j hj => by
      rw [f_X6_digest_147, if_pos kd_298, if_neg (by rw [show (4 : Int32) = nI 4 from rfl, n_le (by omega) (by omega)]; omega), tlM hm hV.1, cb_some, show (nI j + 1 : Int32) = nI (j + 1) from nI_1 _]
      rfl) h
  have q110 : ∀ (rc : Nat → Int64 → Int32 → Sg → Option (Int64 × Sg)) (c : Nat) h, f_X6_digest_110 rc FU 298 h (nI c) 0 σ = rc 298 (dgK v c h) (nI (c + 1)) σ := fun rc c h => gfU (fun n h j => f_X6_digest_110 rc n 298 h (nI c) (nI j) σ) (fun k h => dg h (atA v (nI c) (nI (k / 3)) (nI (k % 3)))) 36 (fun h => rc 298 (gf (fun w h => dg h (tlA v (nI c) (nI w))) 4 0 h) (nI (c + 1)) σ) (by omega) (fun n h => by
      rw [f_X6_digest_110, if_pos kd_298, if_pos (by decide), q147]) (fun n h j hj => by
      rw [f_X6_digest_110, if_pos kd_298, if_neg (by rw [show (36 : Int32) = nI 36 from rfl, n_le (by omega) (by omega)]; omega), show (3 : Int32) = nI 3 from rfl, n_div (by omega) (by omega) (by omega), n_rem (by omega) (by omega) (by omega), atM hm hV.1, cb_some, show (nI j + 1 : Int32) = nI (j + 1) from nI_1 _]
      rfl) h
  have q97 : ∀ h, f_X6_digest_97 FU 298 h 0 σ = some (dgP v (gf (dgK v) (v 1) 0 h), σ) := fun h => gfU (fun n h j => f_X6_digest_97 n 298 h (nI j) σ) (dgK v) (v 1) (fun h => some (dgP v h, σ)) (by omega) (fun n h => by
      rw [f_X6_digest_97, if_pos kd_298, if_pos (by decide), rf_298_0, show ix 1 = 1 from rfl, w1, if_pos (by rw [n_le (by omega) (by omega)]; omega), q182]) (fun n h j hj => by
      rw [f_X6_digest_97, if_pos kd_298, if_pos (by decide), rf_298_0, show ix 1 = 1 from rfl, w1, if_neg (by rw [n_le (by omega) (by omega)]; omega), q110]) h
  have q61 : ∀ (rc : Nat → Int64 → Int32 → Sg → Option (Int64 × Sg)) (d : Nat) h, f_X6_digest_61 rc FU 298 h (nI d) 0 σ = rc 298 (dgD v d h) (nI (d + 1)) σ := fun rc d h => gfU (fun n h j => f_X6_digest_61 rc n 298 h (nI d) (nI j) σ) (fun w h => dg h (ofA v (nI d) (nI w))) 7 (fun h => rc 298 h (nI (d + 1)) σ) (by omega) (fun n h => by
      rw [f_X6_digest_61, if_pos kd_298, if_pos (by decide), show (nI d + 1 : Int32) = nI (d + 1) from nI_1 _]) (fun n h j hj => by
      rw [f_X6_digest_61, if_pos kd_298, if_neg (by rw [show (7 : Int32) = nI 7 from rfl, n_le (by omega) (by omega)]; omega), ofM hm hV.1, cb_some, show (nI j + 1 : Int32) = nI (j + 1) from nI_1 _]
      rfl) h
  have q48 : ∀ h, f_X6_digest_48 FU 298 h 0 σ = some (dgP v (gf (dgK v) (v 1) 0 (gf (dgD v) (v 0) 0 h)), σ) := fun h => gfU (fun n h j => f_X6_digest_48 n 298 h (nI j) σ) (dgD v) (v 0) (fun h => some (dgP v (gf (dgK v) (v 1) 0 h), σ)) (by omega) (fun n h => by
      rw [f_X6_digest_48, if_pos kd_298, if_pos (by decide), rf_298_0, show ix 0 = 0 from rfl, w0, if_pos (by rw [n_le (by omega) (by omega)]; omega), q97]) (fun n h j hj => by
      rw [f_X6_digest_48, if_pos kd_298, if_pos (by decide), rf_298_0, show ix 0 = 0 from rfl, w0, if_neg (by rw [n_le (by omega) (by omega)]; omega), q61]) h
  have q6 : ∀ h, f_X6_digest_6 FU 298 h 0 σ = some (dgP v (gf (dgK v) (v 1) 0 (gf (dgD v) (v 0) 0 (dgB v g ks tl rz h))), σ) := fun h => gfU (fun n h j => f_X6_digest_6 n 298 h (nI j) σ) (fun k h => dg h (if k < 5 then tdN ks tl rz k else cnA v g (nI (k - 5)))) 12 (fun h => some (dgP v (gf (dgK v) (v 1) 0 (gf (dgD v) (v 0) 0 h)), σ)) (by omega) (fun n h => by
      rw [f_X6_digest_6, if_pos kd_298, if_pos (by decide), q48]) (fun n h j hj => by
      rw [f_X6_digest_6, if_pos kd_298, if_neg (by rw [show (12 : Int32) = nI 12 from rfl, n_le (by omega) (by omega)]; omega)]
      by_cases q : j < 5
      · rw [if_neg (by rw [show (5 : Int32) = nI 5 from rfl, n_le (by omega) (by omega)]; omega), tdM hM q, cb_some, f_X6_digest_37, if_pos kd_298, show (nI j + 1 : Int32) = nI (j + 1) from nI_1 _, if_pos q]
        rfl
      · rw [if_pos (by rw [show (5 : Int32) = nI 5 from rfl, n_le (by omega) (by omega)]; omega), show (5 : Int32) = nI 5 from rfl, n_sub (by omega), cnM hm hV.1, cb_some, f_X6_digest_37, if_pos kd_298, show (nI j + 1 : Int32) = nI (j + 1) from nI_1 _, if_neg q]
        rfl) h
  rw [f_X6_digest, if_pos kd_298, q6]
  rfl
theorem sim_digest {n : Nat} (hn : n < 600) : Sim (Inv n) (Inv (n + 1)) (f_X5_digest 0) (f_X6_digest 298) := by
  refine sim_of hn (fun v g hv hg ks tl tb rz hV hB => ⟨dgv v g ks tl rz, v, g, hv, hg, ks, tl, tb, rz, hV, Or.inl rfl, fun σ hC => ⟨σ, dgC hV hC, hC, fun k hk => rfl⟩, fun σ hM => ⟨σ, dgM hV hM, hM, fun k hk => rfl⟩⟩)
