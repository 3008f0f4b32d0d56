/-- all numbers at the start -/
def σ0 : Sg := fun k i => if k = 283 ∧ i < 48 then nI i else 0
theorem σ0_z {k : Nat} (h : k ≠ 283) : σ0 k = fun _ => 0 := by
  funext i
  unfold σ0
  rw [if_neg (fun q => h q.1)]
/-- what was made before, and from k on the layout -/
def mix (G : Gt) (κ : Nat → va_E) (k : Nat) : Nat → va_E := fun j => if j < k then κ j else ce G σ0 j
theorem ce_i0 (G : Gt) {k n : Nat} (h : kd k = 7) (hn : ln k = n) (hz : k ≠ 283) : ce G σ0 k = .inl (G.2.2.2.1, n, .inl (fun _ => 0)) := by
  rw [ce_int G σ0 h, hn, σ0_z hz]
theorem ce_lit (G : Gt) {k ci n : Nat} {vs : List Value} (hk : kd k = ci) (hc : ci ≤ 6) (hn : ln k = n) (h : (List.range n).map (ceF G σ0 k) = vs) : ce G σ0 k = .inr (ci, vs) := by
  rw [ce_obj G σ0 hk hc, hn, h]
theorem arrV_congr (c : ClassId) (n : Nat) {f g : Nat → Value} (h : ∀ i, i < n → f i = g i) : arrV c n f = arrV c n g := by
  unfold arrV
  congr 1
  apply Array.ext
  · simp
  · intro i h1 h2
    simp only [Array.getElem_ofFn]
    exact h i (by simpa using h1)
theorem at_ref {G : Gt} {j t n : Nat} {f : Nat → Option Nat} {H : Heap} (ht : kd j = t) (h8 : 8 ≤ t) (hn : ln j = n) (h : ∀ i, i < n → f i = some (Gb G + rf j i)) (ha : va_at (Gd G) cls (Gb G + j, .inl (G.2.2.2.2 t, n, .inr (.inr (.inr (.inr f))))) H) : va_at (Gd G) cls (Gb G + j, ce G σ0 j) H := by
  rw [ce_ref G σ0 ht h8, hn]
  have h1 : H[Gb G + j]? = some (vp_cell (G.2.2.2.2 t) (n, .inr (.inr (.inr (.inr f))))) := ha
  show H[Gb G + j]? = some (vp_cell _ _)
  rw [h1, vp_cell_q, vp_cell_q]
  exact congrArg some (arrV_congr _ _ (fun i hi => by rw [h i hi]))
theorem ac_int : Cond.arrayClass .int ∈ gtb := gm 116 (by decide +kernel) (by decide +kernel)
theorem oi_ins : Cond.instanceMethod objectInit ∈ gtb := gm 88 (by decide +kernel) (by decide +kernel)
theorem oi_code : Cond.code objectInit ⟨#[0xb1]⟩ 1 none ∈ gtb := gm 89 (by decide +kernel) (by decide +kernel)
theorem kl_L_7 : Cond.classLink RL 7 RX5 ∈ gtb := gm 82 (by decide +kernel) (by decide +kernel)
theorem kl_L_10 : Cond.classLink RL 10 RX6 ∈ gtb := gm 731 (by decide +kernel) (by decide +kernel)
theorem kl_X5_9 : Cond.classLink RX5 9 RX3 ∈ gtb := gm 90 (by decide +kernel) (by decide +kernel)
theorem kl_X5_16 : Cond.classLink RX5 16 RX1 ∈ gtb := gm 154 (by decide +kernel) (by decide +kernel)
theorem kl_X5_23 : Cond.classLink RX5 23 RX4 ∈ gtb := gm 174 (by decide +kernel) (by decide +kernel)
theorem kl_X5_30 : Cond.classLink RX5 30 RX2 ∈ gtb := gm 209 (by decide +kernel) (by decide +kernel)
theorem kl_X3_18 : Cond.classLink RX3 18 RX0 ∈ gtb := gm 96 (by decide +kernel) (by decide +kernel)
theorem kl_X1_11 : Cond.classLink RX1 11 RX3 ∈ gtb := gm 160 (by decide +kernel) (by decide +kernel)
theorem kl_X2_9 : Cond.classLink RX2 9 "[[I" ∈ gtb := gm 215 (by decide +kernel) (by decide +kernel)
theorem it_X0 : Cond.instantiable RX0 3 ∈ gtb := gm 98 (by decide +kernel) (by decide +kernel)
theorem it_X1 : Cond.instantiable RX1 3 ∈ gtb := gm 155 (by decide +kernel) (by decide +kernel)
theorem it_X2 : Cond.instantiable RX2 15 ∈ gtb := gm 210 (by decide +kernel) (by decide +kernel)
theorem it_X3 : Cond.instantiable RX3 9 ∈ gtb := gm 91 (by decide +kernel) (by decide +kernel)
theorem it_X4 : Cond.instantiable RX4 8 ∈ gtb := gm 175 (by decide +kernel) (by decide +kernel)
theorem it_X5 : Cond.instantiable RX5 5 ∈ gtb := gm 83 (by decide +kernel) (by decide +kernel)
theorem it_X6 : Cond.instantiable RX6 14 ∈ gtb := gm 732 (by decide +kernel) (by decide +kernel)
abbrev MX0_init : Mt := (RX0, cX0_init, 1, none, 1)
abbrev MX3_init : Mt := (RX3, cX3_init, 2, none, 2)
abbrev MX1_init : Mt := (RX1, cX1_init, 2, none, 3)
abbrev MX4_init : Mt := (RX4, cX4_init, 1, none, 1)
abbrev MX2_init : Mt := (RX2, cX2_init, 2, none, 1)
abbrev MX5_init : Mt := (RX5, cX5_init, 1, none, 4)
abbrev MX6_init : Mt := (RX6, cX6_init, 1, none, 1)
theorem st0 {k : Nat} (h : kd k = 0) : rf k 0 = k + 1 ∧ rf k 1 = k + 2 ∧ rf k 2 = k + 3 ∧ kd (k + 1) = 7 ∧ kd (k + 2) = 7 ∧ kd (k + 3) = 7 ∧ ln (k + 1) = 12 ∧ ln (k + 2) = 12 ∧ ln (k + 3) = 12 ∧ k + 1 ≠ 283 ∧ k + 2 ≠ 283 ∧ k + 3 ≠ 283 := (by decide +kernel : ∀ k, k < 307 → kd k = 0 → rf k 0 = k + 1 ∧ rf k 1 = k + 2 ∧ rf k 2 = k + 3 ∧ kd (k + 1) = 7 ∧ kd (k + 2) = 7 ∧ kd (k + 3) = 7 ∧ ln (k + 1) = 12 ∧ ln (k + 2) = 12 ∧ ln (k + 3) = 12 ∧ k + 1 ≠ 283 ∧ k + 2 ≠ 283 ∧ k + 3 ≠ 283) k (kd_lt (by omega)) h
theorem ce_0 (G : Gt) {k : Nat} (h : kd k = 0) : ce G σ0 k = .inr (0, [.ref (Gb G + (k + 1)), .ref (Gb G + (k + 2)), .ref (Gb G + (k + 3))]) := by
  obtain ⟨a1, a2, a3, -⟩ := st0 h
  refine ce_lit G h (by decide) (ln_obj h (by decide)) ?_
  simp [lnc, List.range, List.range.loop, ceF, h, irf, a1, a2, a3]
set_option maxRecDepth 100000 in
set_option maxHeartbeats 4000000 in
theorem ck_X0 (l : Launch) (G : Gt) (κ : Nat → va_E) (k : Nat) (h0 : kd k = 0) (he : κ k = .inr (0, [.null, .null, .null])) : CtK l G yX0_init MX0_init 3 36 [.ref (Gb G + k)] κ (k + 1) (mix G κ k) (k + 4) := by
  refine CtK.of (by decide +kernel) rfl rfl (Nat.le_of_ble_eq_true rfl) ?_
  show Bw l G MX0_init 3 36 0 [(0, .ref (Gb G + k))] [] κ (k + 1) 0 0 _ _
  refine Bw.aload_n 0 rfl rfl dX0_init_0 ?_
  refine Bw.objInit ml_X0_3 oi_ins oi_code (Nat.le_of_ble_eq_true rfl) (Nat.le_of_ble_eq_true rfl) rfl dX0_init_1 ?_
  refine Bw.aload_n 0 rfl rfl dX0_init_4 ?_
  refine Bw.bipush (v := 12) ib_12 rfl dX0_init_5 ?_
  refine Bw.newa (K := 12) ac_int (by decide) (by decide) (by decide) (by decide) (by decide) rfl dX0_init_7 ?_
  refine Bw.putR (fs := [.null, .null, .null]) (t := tyX0) (ty := .array .int) fl_X0_9 rfl rfl rfl (by decide +kernel) tyX0_ok nmX0 rfl rfl (by omega) (by simp [va_up, he] <;> omega) (by decide) rfl dX0_init_9 ?_
  refine Bw.aload_n 0 rfl rfl dX0_init_12 ?_
  refine Bw.bipush (v := 12) ib_12 rfl dX0_init_13 ?_
  refine Bw.newa (K := 12) ac_int (by decide) (by decide) (by decide) (by decide) (by decide) rfl dX0_init_15 ?_
  refine Bw.putR (fs := [.ref (Gb G + (k + 1)), .null, .null]) (t := tyX0) (ty := .array .int) fl_X0_15 rfl rfl rfl (by decide +kernel) tyX0_ok nmX0 rfl rfl (by omega) (by simp [va_up, he] <;> omega) (by simp) rfl dX0_init_17 ?_
  refine Bw.aload_n 0 rfl rfl dX0_init_20 ?_
  refine Bw.bipush (v := 12) ib_12 rfl dX0_init_21 ?_
  refine Bw.newa (K := 12) ac_int (by decide) (by decide) (by decide) (by decide) (by decide) rfl dX0_init_23 ?_
  refine Bw.putR (fs := [.ref (Gb G + (k + 1)), .ref (Gb G + (k + 1 + 1)), .null]) (t := tyX0) (ty := .array .int) fl_X0_18 rfl rfl rfl (by decide +kernel) tyX0_ok nmX0 rfl rfl (by omega) (by simp [va_up, he] <;> omega) (by simp) rfl dX0_init_25 ?_
  obtain ⟨a1, a2, a3, b1, b2, b3, c1, c2, c3, e1, e2, e3⟩ := st0 h0
  refine Bw.vret rfl (by omega) (fun j hj H' ha => ?_) (by decide) (by decide) dX0_init_28
  unfold mix
  by_cases h1 : j < k
  · rw [if_pos h1]
    simpa [va_up, show j ≠ k by omega, show j ≠ k + 1 by omega, show j ≠ k + 1 + 1 by omega, show j ≠ k + 1 + 1 + 1 by omega] using ha
  · rw [if_neg h1]
    rcases (show j = k ∨ j = k + 1 ∨ j = k + 2 ∨ j = k + 3 by omega) with rfl | rfl | rfl | rfl
    · rw [ce_0 G h0]; simpa [va_up] using ha
    · rw [ce_i0 G b1 c1 e1]; simpa [va_up] using ha
    · rw [ce_i0 G b2 c2 e2]; simpa [va_up] using ha
    · rw [ce_i0 G b3 c3 e3]; simpa [va_up] using ha
theorem st3a {k : Nat} (h : kd k = 3) : rf k 1 = k + 1 ∧ rf k 2 = k + 2 ∧ rf k 4 = k + 3 ∧ rf k 6 = k + 4 ∧ rf k 7 = k + 5 ∧ kd (k + 1) = 7 ∧ kd (k + 2) = 7 ∧ kd (k + 3) = 8 ∧ kd (k + 4) = 7 ∧ kd (k + 5) = 7 := (by decide +kernel : ∀ k, k < 307 → kd k = 3 → rf k 1 = k + 1 ∧ rf k 2 = k + 2 ∧ rf k 4 = k + 3 ∧ rf k 6 = k + 4 ∧ rf k 7 = k + 5 ∧ kd (k + 1) = 7 ∧ kd (k + 2) = 7 ∧ kd (k + 3) = 8 ∧ kd (k + 4) = 7 ∧ kd (k + 5) = 7) k (kd_lt (by omega)) h
theorem st3b {k : Nat} (h : kd k = 3) : ln (k + 1) = 8 ∧ ln (k + 2) = 8 ∧ ln (k + 3) = 8 ∧ ln (k + 4) = 12 ∧ ln (k + 5) = 8 ∧ k ≠ 283 ∧ k + 1 ≠ 283 ∧ k + 2 ≠ 283 ∧ k + 4 ≠ 283 ∧ k + 5 ≠ 283 := (by decide +kernel : ∀ k, k < 307 → kd k = 3 → ln (k + 1) = 8 ∧ ln (k + 2) = 8 ∧ ln (k + 3) = 8 ∧ ln (k + 4) = 12 ∧ ln (k + 5) = 8 ∧ k ≠ 283 ∧ k + 1 ≠ 283 ∧ k + 2 ≠ 283 ∧ k + 4 ≠ 283 ∧ k + 5 ≠ 283) k (kd_lt (by omega)) h
theorem st3 {k : Nat} (h : kd k = 3) : rf k 1 = k + 1 ∧ rf k 2 = k + 2 ∧ rf k 4 = k + 3 ∧ rf k 6 = k + 4 ∧ rf k 7 = k + 5 ∧ kd (k + 1) = 7 ∧ kd (k + 2) = 7 ∧ kd (k + 3) = 8 ∧ kd (k + 4) = 7 ∧ kd (k + 5) = 7 ∧ ln (k + 1) = 8 ∧ ln (k + 2) = 8 ∧ ln (k + 3) = 8 ∧ ln (k + 4) = 12 ∧ ln (k + 5) = 8 ∧ k ≠ 283 ∧ k + 1 ≠ 283 ∧ k + 2 ≠ 283 ∧ k + 4 ≠ 283 ∧ k + 5 ≠ 283 := by
  obtain ⟨a1, a2, a3, a4, a5, a6, a7, a8, a9, a10⟩ := st3a h
  exact ⟨a1, a2, a3, a4, a5, a6, a7, a8, a9, a10, st3b h⟩
theorem st3c {k : Nat} (h : kd k = 3) : ∀ c, c < 8 → rf (k + 3) c = k + 6 + 4 * c ∧ kd (k + 6 + 4 * c) = 0 := (by decide +kernel : ∀ k, k < 307 → kd k = 3 → ∀ c, c < 8 → rf (k + 3) c = k + 6 + 4 * c ∧ kd (k + 6 + 4 * c) = 0) k (kd_lt (by omega)) h
theorem ce_3 (G : Gt) {k : Nat} (h : kd k = 3) : ce G σ0 k = .inr (3, [.int 0, .ref (Gb G + (k + 1)), .ref (Gb G + (k + 2)), .int 0, .ref (Gb G + (k + 3)), .int 0, .ref (Gb G + (k + 4)), .ref (Gb G + (k + 5)), .int 0]) := by
  obtain ⟨a1, a2, a4, a6, a7, -, -, -, -, -, -, -, -, -, -, hz, -⟩ := st3 h
  refine ce_lit G h (by decide) (ln_obj h (by decide)) ?_
  simp [lnc, List.range, List.range.loop, ceF, h, irf, a1, a2, a4, a6, a7, σ0_z hz]
/-- a Square under way: c of its calls are there -/
def sqK (G : Gt) (κ : Nat → va_E) (k c : Nat) : Nat → va_E := fun j => if j < k then κ j else if j = k + 3 then .inl (G.2.2.2.2 8, 8, .inr (.inr (.inr (.inr (fun i => if i < c then some (Gb G + (k + 6 + 4 * i)) else none))))) else ce G σ0 j
set_option maxRecDepth 100000 in
set_option maxHeartbeats 4000000 in
theorem bw_X3_47 (l : Launch) (G : Gt) (κ : Nat → va_E) (k : Nat) (h3 : kd k = 3) : ∀ (n c : Nat), c + n = 8 → Bw l G MX3_init 37 356 47 [(0, .ref (Gb G + k)), (1, .int (nI c))] [] (sqK G κ k c) (k + 6 + 4 * c) (5 + 4 * c) (44 + 39 * c) (mix G κ k) (k + 38) := by
  intro n
  induction n with
  | zero =>
    intro c hc
    have e8 : c = 8 := by omega
    subst e8
    refine Bw.iload_n 1 rfl rfl dX3_init_47 ?_
    refine Bw.bipush (v := 8) ib_8 rfl dX3_init_48 ?_
    refine Bw.icmp_ge (q := 53) (t := 72) rfl (by decide) dX3_init_50 (fun hc => ?_) (fun hc => absurd (by decide) hc)
    obtain ⟨a1, a2, a4, a6, a7, b1, b2, b3, b4, b5, l1, l2, l3, l4, l5, z0, z1, z2, z4, z5⟩ := st3 h3
    refine Bw.vret rfl (by omega) (fun j hj H' ha => ?_) (by decide) (by decide) dX3_init_72
    unfold mix
    unfold sqK at ha
    by_cases h1 : j < k
    · rw [if_pos h1] at ha ⊢
      exact ha
    · rw [if_neg h1] at ha ⊢
      by_cases h2 : j = k + 3
      · rw [if_pos h2] at ha
        subst h2
        exact at_ref b3 (by decide) l3 (fun i hi => by rw [if_pos hi, (st3c h3 i hi).1]) ha
      · rw [if_neg h2] at ha
        exact ha
  | succ n ih =>
    intro c hc
    have hc8 : c < 8 := by omega
    obtain ⟨a1, a2, a4, a6, a7, b1, b2, b3, b4, b5, l1, l2, l3, l4, l5, z0, z1, z2, z4, z5⟩ := st3 h3
    refine Bw.iload_n 1 rfl rfl dX3_init_47 ?_
    refine Bw.bipush (v := 8) ib_8 rfl dX3_init_48 ?_
    refine Bw.icmp_ge (q := 53) (t := 72) rfl (by decide) dX3_init_50 (fun hq => absurd hq (nI_ge (a := c) (b := 8) hc8 (by decide))) (fun hq => ?_)
    refine Bw.aload_n 0 rfl rfl dX3_init_53 ?_
    refine Bw.getR (k := k) (v := .ref (Gb G + (k + 3))) (fs := [.int 0, .ref (Gb G + (k + 1)), .ref (Gb G + (k + 2)), .int 0, .ref (Gb G + (k + 3)), .int 0, .ref (Gb G + (k + 4)), .ref (Gb G + (k + 5)), .int 0]) fl_X3_20 (by omega) (by unfold sqK; rw [if_neg (by omega), if_neg (by omega), ce_3 G h3]) rfl rfl dX3_init_54 ?_
    refine Bw.iload_n 1 rfl rfl dX3_init_57 ?_
    refine Bw.new (n := 3) (fs := [.null, .null, .null]) (r := (RX0, TX0, 3)) (ci := 0) rfl tyX0 tyX0_ok ingX0 kl_X3_18 it_X0 ini_X0 (fun j hj => by rcases (show j = 0 ∨ j = 1 ∨ j = 2 from by have : j < 3 := hj; omega) with rfl | rfl | rfl <;> rfl) rfl (by omega) (by omega) rfl dX3_init_58 ?_
    refine Bw.dupr rfl dX3_init_61 ?_
    refine Bw.callIN (mc' := 3) (ms' := 36) rfl rfl (by decide +kernel : (RX3, 30, yX0_init, RX5) ∈ nest) ins_X0_init ini_X0 cw_X0_init ⟨by decide, by decide, by decide +kernel⟩ (ck_X0 l G _ (k + 6 + 4 * c) (st3c h3 c hc8).2 (by simp [va_up])) (by omega) (by decide) (by decide) (by omega) (by omega) (Nat.le_of_ble_eq_true rfl) rfl dX3_init_62 ?_
    refine Bw.congr (κ1 := sqK G κ k c) (fun j hj => ?_) ?_
    · unfold mix va_up
      by_cases h1 : j < k + 6 + 4 * c
      · rw [if_pos h1, if_neg (by omega)]
      · rw [if_neg h1]
        unfold sqK
        rw [if_neg (by omega), if_neg (by omega)]
    refine Bw.aast (t := 8) (ci := 0) (n := 8) (k := k + 3) (fs := [.ref (Gb G + (k + 6 + 4 * c + 1)), .ref (Gb G + (k + 6 + 4 * c + 2)), .ref (Gb G + (k + 6 + 4 * c + 3))]) (Or.inl ⟨rfl, rfl⟩) (by omega) (by unfold sqK; rw [if_neg (by omega), if_pos rfl]) (by omega) (by unfold sqK; rw [if_neg (by omega), if_neg (by omega), ce_0 G (st3c h3 c hc8).2]) (inb_of (vp_in_nI hc8 (by decide))) rfl dX3_init_65 ?_
    refine Bw.iinc (v := nI (c + 1)) (L' := [(1, .int (nI (c + 1))), (0, .ref (Gb G + k))]) 1 rfl ((ii_1 _).trans (nI_succ c).symm) (by decide) rfl rfl dX3_init_66 ?_
    refine Bw.goto (q := 47) (by decide) dX3_init_69 ?_
    refine Bw.sub (L' := [(0, .ref (Gb G + k)), (1, .int (nI (c + 1)))]) [1, 0] rfl ?_
    refine Bw.congr (κ1 := sqK G κ k (c + 1)) (fun j hj => ?_) ?_
    · unfold sqK
      by_cases h1 : j = k + 3
      · subst h1
        simp only [va_up, if_true, Nat.not_lt.mpr (show k ≤ k + 3 by omega), if_false]
        refine congrArg (fun (f : Nat → Option Nat) => (Sum.inl (G.2.2.2.2 8, 8, .inr (.inr (.inr (.inr f)))) : va_E)) (funext fun i => ?_)
        unfold va_up
        rw [show ix (nI c) = c from nI_clamp (by omega)]
        by_cases hi : i = c
        · subst hi; rw [if_pos rfl, if_pos (by omega)]
        · rw [if_neg hi]
          dsimp only
          by_cases hi2 : i < c
          · rw [if_pos hi2, if_pos (by omega)]
          · rw [if_neg hi2, if_neg (by omega)]
      · simp only [va_up, if_neg h1]
    have hk2 := ih (c + 1) (by omega)
    rw [show k + 6 + 4 * (c + 1) = k + 6 + 4 * c + 4 by omega, show 5 + 4 * (c + 1) = 5 + 4 * c + 1 + 3 by omega, show 44 + 39 * (c + 1) = 44 + 39 * c + 3 + 36 by omega] at hk2
    exact hk2
set_option maxRecDepth 100000 in
set_option maxHeartbeats 4000000 in
theorem ck_X3 (l : Launch) (G : Gt) (κ : Nat → va_E) (k : Nat) (h3 : kd k = 3) (he : κ k = .inr (3, [.int 0, .null, .null, .int 0, .null, .int 0, .null, .null, .int 0])) : CtK l G yX3_init MX3_init 37 356 [.ref (Gb G + k)] κ (k + 1) (mix G κ k) (k + 38) := by
  refine CtK.of (by decide +kernel) rfl rfl (Nat.le_of_ble_eq_true rfl) ?_
  show Bw l G MX3_init 37 356 0 [(0, .ref (Gb G + k))] [] κ (k + 1) 0 0 _ _
  refine Bw.aload_n 0 rfl rfl dX3_init_0 ?_
  refine Bw.objInit ml_X3_3 oi_ins oi_code (Nat.le_of_ble_eq_true rfl) (Nat.le_of_ble_eq_true rfl) rfl dX3_init_1 ?_
  refine Bw.aload_n 0 rfl rfl dX3_init_4 ?_
  refine Bw.bipush (v := 8) ib_8 rfl dX3_init_5 ?_
  refine Bw.newa (K := 8) ac_int (by decide) (by decide) (by decide) (by decide) (by decide) rfl dX3_init_7 ?_
  refine Bw.putR (fs := [.int 0, .null, .null, .int 0, .null, .int 0, .null, .null, .int 0]) (t := tyX3) (ty := .array .int) fl_X3_9 rfl rfl rfl (by decide +kernel) tyX3_ok nmX3 rfl rfl (by omega) (by simp [va_up, he] <;> omega) (by simp) rfl dX3_init_9 ?_
  refine Bw.aload_n 0 rfl rfl dX3_init_12 ?_
  refine Bw.bipush (v := 8) ib_8 rfl dX3_init_13 ?_
  refine Bw.newa (K := 8) ac_int (by decide) (by decide) (by decide) (by decide) (by decide) rfl dX3_init_15 ?_
  refine Bw.putR (fs := [.int 0, .ref (Gb G + (k + 1)), .null, .int 0, .null, .int 0, .null, .null, .int 0]) (t := tyX3) (ty := .array .int) fl_X3_15 rfl rfl rfl (by decide +kernel) tyX3_ok nmX3 rfl rfl (by omega) (by simp [va_up, he] <;> omega) (by simp) rfl dX3_init_17 ?_
  refine Bw.aload_n 0 rfl rfl dX3_init_20 ?_
  refine Bw.bipush (v := 8) ib_8 rfl dX3_init_21 ?_
  refine Bw.anew (K := 8) (t := 8) (ci := 0) (r := (RX0, TX0, 3)) kl_X3_18 rfl (Or.inl ⟨rfl, rfl⟩) (by decide) (by decide) (by decide) (by decide) (by decide) rfl dX3_init_23 ?_
  refine Bw.putR (fs := [.int 0, .ref (Gb G + (k + 1)), .ref (Gb G + (k + 1 + 1)), .int 0, .null, .int 0, .null, .null, .int 0]) (t := tyX3) (ty := .array (.object RX0)) fl_X3_20 rfl rfl rfl (by decide +kernel) tyX3_ok nmX3 rfl rfl (by omega) (by simp [va_up, he] <;> omega) (by simp) rfl dX3_init_26 ?_
  refine Bw.aload_n 0 rfl rfl dX3_init_29 ?_
  refine Bw.bipush (v := 12) ib_12 rfl dX3_init_30 ?_
  refine Bw.newa (K := 12) ac_int (by decide) (by decide) (by decide) (by decide) (by decide) rfl dX3_init_32 ?_
  refine Bw.putR (fs := [.int 0, .ref (Gb G + (k + 1)), .ref (Gb G + (k + 1 + 1)), .int 0, .ref (Gb G + (k + 1 + 1 + 1)), .int 0, .null, .null, .int 0]) (t := tyX3) (ty := .array .int) fl_X3_24 rfl rfl rfl (by decide +kernel) tyX3_ok nmX3 rfl rfl (by omega) (by simp [va_up, he] <;> omega) (by simp) rfl dX3_init_34 ?_
  refine Bw.aload_n 0 rfl rfl dX3_init_37 ?_
  refine Bw.bipush (v := 8) ib_8 rfl dX3_init_38 ?_
  refine Bw.newa (K := 8) ac_int (by decide) (by decide) (by decide) (by decide) (by decide) rfl dX3_init_40 ?_
  refine Bw.putR (fs := [.int 0, .ref (Gb G + (k + 1)), .ref (Gb G + (k + 1 + 1)), .int 0, .ref (Gb G + (k + 1 + 1 + 1)), .int 0, .ref (Gb G + (k + 1 + 1 + 1 + 1)), .null, .int 0]) (t := tyX3) (ty := .array .int) fl_X3_27 rfl rfl rfl (by decide +kernel) tyX3_ok nmX3 rfl rfl (by omega) (by simp [va_up, he] <;> omega) (by simp) rfl dX3_init_42 ?_
  refine Bw.iconst (v := 0) ic_0 rfl dX3_init_45 ?_
  refine Bw.istore_n (L' := [(1, .int 0), (0, .ref (Gb G + k))]) (Nat.le_of_ble_eq_true rfl) rfl rfl dX3_init_46 ?_
  refine Bw.sub (L' := [(0, .ref (Gb G + k)), (1, .int (nI 0))]) [1, 0] rfl ?_
  refine Bw.congr (κ1 := sqK G κ k 0) (fun j hj => ?_) ?_
  · obtain ⟨a1, a2, a4, a6, a7, b1, b2, b3, b4, b5, l1, l2, l3, l4, l5, z0, z1, z2, z4, z5⟩ := st3 h3
    unfold sqK
    by_cases h1 : j < k
    · rw [if_pos h1]
      simp [va_up, show j ≠ k by omega, show j ≠ k + 1 by omega, show j ≠ k + 1 + 1 by omega, show j ≠ k + 1 + 1 + 1 by omega, show j ≠ k + 1 + 1 + 1 + 1 by omega, show j ≠ k + 1 + 1 + 1 + 1 + 1 by omega]
    · rw [if_neg h1]
      rcases (show j = k ∨ j = k + 1 ∨ j = k + 2 ∨ j = k + 3 ∨ j = k + 4 ∨ j = k + 5 by omega) with rfl | rfl | rfl | rfl | rfl | rfl
      · rw [if_neg (by omega), ce_3 G h3]; simp [va_up]
      · rw [if_neg (by omega), ce_i0 G b1 l1 z1]; simp [va_up]
      · rw [if_neg (by omega), ce_i0 G b2 l2 z2]; simp [va_up]
      · rw [if_pos rfl]; simp [va_up]
      · rw [if_neg (by omega), ce_i0 G b4 l4 z4]; simp [va_up]
      · rw [if_neg (by omega), ce_i0 G b5 l5 z5]; simp [va_up]
  exact bw_X3_47 l G κ k h3 8 0 rfl
theorem ib_9 : (Int8.ofInt 9).toInt32 = 9 := by decide
theorem ib_96 : (Int8.ofInt 96).toInt32 = 96 := by decide
theorem is_1680 : (Int16.ofInt 1680).toInt32 = 1680 := by decide
theorem is_1560 : (Int16.ofInt 1560).toInt32 = 1560 := by decide
theorem st1 : rf 39 0 = 40 ∧ kd 39 = 1 ∧ kd 40 = 9 ∧ ln 40 = 6 ∧ ∀ c, c < 6 → rf 40 c = 41 + 38 * c ∧ kd (41 + 38 * c) = 3 := by decide +kernel
theorem ce_1 (G : Gt) : ce G σ0 39 = .inr (1, [.ref (Gb G + 40), .int 0, .int 0]) := by
  refine ce_lit G st1.2.1 (by decide) (ln_obj st1.2.1 (by decide)) ?_
  simp [lnc, List.range, List.range.loop, ceF, st1.2.1, irf, st1.1, σ0_z (show (39 : Nat) ≠ 283 by decide)]
def hiK (G : Gt) (κ : Nat → va_E) (c : Nat) : Nat → va_E := fun j => if j < 39 then κ j else if j = 40 then .inl (G.2.2.2.2 9, 6, .inr (.inr (.inr (.inr (fun i => if i < c then some (Gb G + (41 + 38 * i)) else none))))) else ce G σ0 j
set_option maxRecDepth 100000 in
set_option maxHeartbeats 4000000 in
theorem bw_X1_15 (l : Launch) (G : Gt) (κ : Nat → va_E) : ∀ (n c : Nat), c + n = 6 → Bw l G MX1_init 229 2196 15 [(0, .ref (Gb G + 39)), (1, .int (nI c))] [] (hiK G κ c) (41 + 38 * c) (1 + 38 * c) (6 + 365 * c) (mix G κ 39) 269 := by
  obtain ⟨s1, s2, s3, s4, s5⟩ := st1
  intro n
  induction n with
  | zero =>
    intro c hc
    have e8 : c = 6 := by omega
    subst e8
    refine Bw.iload_n 1 rfl rfl dX1_init_15 ?_
    refine Bw.bipush (v := 6) ib_6 rfl dX1_init_16 ?_
    refine Bw.icmp_ge (q := 21) (t := 40) rfl (by decide) dX1_init_18 (fun hc => ?_) (fun hc => absurd (by decide) hc)
    refine Bw.vret rfl (by omega) (fun j hj H' ha => ?_) (by decide) (by decide) dX1_init_40
    unfold mix
    unfold hiK at ha
    by_cases h1 : j < 39
    · rw [if_pos h1] at ha ⊢
      exact ha
    · rw [if_neg h1] at ha ⊢
      by_cases h2 : j = 40
      · rw [if_pos h2] at ha
        subst h2
        exact at_ref s3 (by decide) s4 (fun i hi => by rw [if_pos hi, (s5 i hi).1]) ha
      · rw [if_neg h2] at ha
        exact ha
  | succ n ih =>
    intro c hc
    have hc8 : c < 6 := by omega
    refine Bw.iload_n 1 rfl rfl dX1_init_15 ?_
    refine Bw.bipush (v := 6) ib_6 rfl dX1_init_16 ?_
    refine Bw.icmp_ge (q := 21) (t := 40) rfl (by decide) dX1_init_18 (fun hq => absurd hq (nI_ge (a := c) (b := 6) hc8 (by decide))) (fun hq => ?_)
    refine Bw.aload_n 0 rfl rfl dX1_init_21 ?_
    refine Bw.getR (k := 39) (v := .ref (Gb G + 40)) (fs := [.ref (Gb G + 40), .int 0, .int 0]) fl_X1_13 (by omega) (by unfold hiK; rw [if_neg (by omega), if_neg (by omega), ce_1 G]) rfl rfl dX1_init_22 ?_
    refine Bw.iload_n 1 rfl rfl dX1_init_25 ?_
    refine Bw.new (n := 9) (fs := [.int 0, .null, .null, .int 0, .null, .int 0, .null, .null, .int 0]) (r := (RX3, TX3, 9)) (ci := 3) rfl tyX3 tyX3_ok ingX3 kl_X1_11 it_X3 ini_X3 (fun j hj => by rcases (show j = 0 ∨ j = 1 ∨ j = 2 ∨ j = 3 ∨ j = 4 ∨ j = 5 ∨ j = 6 ∨ j = 7 ∨ j = 8 from by have : j < 9 := hj; omega) with rfl | rfl | rfl | rfl | rfl | rfl | rfl | rfl | rfl <;> rfl) rfl (by omega) (by omega) rfl dX1_init_26 ?_
    refine Bw.dupr rfl dX1_init_29 ?_
    refine Bw.callI (mc' := 37) (ms' := 356) rfl rfl ml_X1_17 ins_X3_init ini_X3 cw_X3_init ⟨by decide, by decide, by decide +kernel⟩ (ck_X3 l G _ (41 + 38 * c) (s5 c hc8).2 (by simp [va_up])) (by omega) (by decide) (by decide) (by omega) (by omega) (Nat.le_of_ble_eq_true rfl) rfl dX1_init_30 ?_
    refine Bw.congr (κ1 := hiK G κ c) (fun j hj => ?_) ?_
    · unfold mix va_up
      by_cases h1 : j < 41 + 38 * c
      · rw [if_pos h1, if_neg (by omega)]
      · rw [if_neg h1]
        unfold hiK
        rw [if_neg (by omega), if_neg (by omega)]
    refine Bw.aast (t := 9) (ci := 3) (n := 6) (k := 40) (fs := [.int 0, .ref (Gb G + (41 + 38 * c + 1)), .ref (Gb G + (41 + 38 * c + 2)), .int 0, .ref (Gb G + (41 + 38 * c + 3)), .int 0, .ref (Gb G + (41 + 38 * c + 4)), .ref (Gb G + (41 + 38 * c + 5)), .int 0]) (Or.inr ⟨rfl, rfl⟩) (by omega) (by unfold hiK; rw [if_neg (by omega), if_pos rfl]) (by omega) (by unfold hiK; rw [if_neg (by omega), if_neg (by omega), ce_3 G (s5 c hc8).2]) (inb_of (vp_in_nI hc8 (by decide))) rfl dX1_init_33 ?_
    refine Bw.iinc (v := nI (c + 1)) (L' := [(1, .int (nI (c + 1))), (0, .ref (Gb G + 39))]) 1 rfl ((ii_1 _).trans (nI_succ c).symm) (by decide) rfl rfl dX1_init_34 ?_
    refine Bw.goto (q := 15) (by decide) dX1_init_37 ?_
    refine Bw.sub (L' := [(0, .ref (Gb G + 39)), (1, .int (nI (c + 1)))]) [1, 0] rfl ?_
    refine Bw.congr (κ1 := hiK G κ (c + 1)) (fun j hj => ?_) ?_
    · unfold hiK
      by_cases h1 : j = 40
      · subst h1
        simp only [va_up, if_true, Nat.not_lt.mpr (show 39 ≤ 40 by omega), if_false]
        refine congrArg (fun (f : Nat → Option Nat) => (Sum.inl (G.2.2.2.2 9, 6, .inr (.inr (.inr (.inr f)))) : va_E)) (funext fun i => ?_)
        unfold va_up
        rw [show ix (nI c) = c from nI_clamp (by omega)]
        by_cases hi : i = c
        · subst hi; rw [if_pos rfl, if_pos (by omega)]
        · rw [if_neg hi]
          dsimp only
          by_cases hi2 : i < c
          · rw [if_pos hi2, if_pos (by omega)]
          · rw [if_neg hi2, if_neg (by omega)]
      · simp only [va_up, if_neg h1]
    have hk2 := ih (c + 1) (by omega)
    rw [show 41 + 38 * (c + 1) = 41 + 38 * c + 38 by omega, show 1 + 38 * (c + 1) = 1 + 38 * c + 1 + 37 by omega, show 6 + 365 * (c + 1) = 6 + 365 * c + 9 + 356 by omega] at hk2
    exact hk2
set_option maxRecDepth 100000 in
set_option maxHeartbeats 4000000 in
theorem ck_X1 (l : Launch) (G : Gt) (κ : Nat → va_E) (he : κ 39 = .inr (1, [.null, .int 0, .int 0])) : CtK l G yX1_init MX1_init 229 2196 [.ref (Gb G + 39)] κ (40) (mix G κ 39) (269) := by
  refine CtK.of (by decide +kernel) rfl rfl (Nat.le_of_ble_eq_true rfl) ?_
  show Bw l G MX1_init 229 2196 0 [(0, .ref (Gb G + 39))] [] κ (40) 0 0 _ _
  refine Bw.aload_n 0 rfl rfl dX1_init_0 ?_
  refine Bw.objInit ml_X1_3 oi_ins oi_code (Nat.le_of_ble_eq_true rfl) (Nat.le_of_ble_eq_true rfl) rfl dX1_init_1 ?_
  refine Bw.aload_n 0 rfl rfl dX1_init_4 ?_
  refine Bw.bipush (v := 6) ib_6 rfl dX1_init_5 ?_
  refine Bw.anew (K := 6) (t := 9) (ci := 3) (r := (RX3, TX3, 9)) kl_X1_11 rfl (Or.inr ⟨rfl, rfl⟩) (by decide) (by decide) (by decide) (by decide) (by decide) rfl dX1_init_7 ?_
  refine Bw.putR (fs := [.null, .int 0, .int 0]) (t := tyX1) (ty := .array (.object RX3)) fl_X1_13 rfl rfl rfl (by decide +kernel) tyX1_ok nmX1 rfl rfl (by omega) (by simp [va_up, he]) (by simp) rfl dX1_init_10 ?_
  refine Bw.iconst (v := 0) ic_0 rfl dX1_init_13 ?_
  refine Bw.istore_n (L' := [(1, .int 0), (0, .ref (Gb G + 39))]) (Nat.le_of_ble_eq_true rfl) rfl rfl dX1_init_14 ?_
  refine Bw.sub (L' := [(0, .ref (Gb G + 39)), (1, .int (nI 0))]) [1, 0] rfl ?_
  refine Bw.congr (κ1 := hiK G κ 0) (fun j hj => ?_) ?_
  · unfold hiK
    by_cases h1 : j < 39
    · rw [if_pos h1]
      simp [va_up, show j ≠ 39 by omega, show j ≠ 40 by omega]
    · rw [if_neg h1]
      rcases (show j = 39 ∨ j = 40 by omega) with rfl | rfl
      · rw [if_neg (by omega), ce_1 G]; simp [va_up]
      · rw [if_pos rfl]; simp [va_up]
  exact bw_X1_15 l G κ 6 0 rfl
set_option maxRecDepth 100000 in
set_option maxHeartbeats 4000000 in
theorem ck_X4 (l : Launch) (G : Gt) (κ : Nat → va_E) (he : κ 269 = .inr (4, [.null, .int 0, .int 0, .int 0, .int 0, .null, .null, .int 0])) : CtK l G yX4_init MX4_init 3 135 [.ref (Gb G + 269)] κ (270) (mix G κ 269) (273) := by
  refine CtK.of (by decide +kernel) rfl rfl (Nat.le_of_ble_eq_true rfl) ?_
  show Bw l G MX4_init 3 135 0 [(0, .ref (Gb G + 269))] [] κ (270) 0 0 _ _
  refine Bw.aload_n 0 rfl rfl dX4_init_0 ?_
  refine Bw.objInit ml_X4_3 oi_ins oi_code (Nat.le_of_ble_eq_true rfl) (Nat.le_of_ble_eq_true rfl) rfl dX4_init_1 ?_
  refine Bw.aload_n 0 rfl rfl dX4_init_4 ?_
  refine Bw.bipush (v := 120) ib_120 rfl dX4_init_5 ?_
  refine Bw.newa (K := 120) ac_int (by decide) (by decide) (by decide) (by decide) (by decide) rfl dX4_init_7 ?_
  refine Bw.putR (v := 270) (fs := [.null, .int 0, .int 0, .int 0, .int 0, .null, .null, .int 0]) (t := tyX4) (ty := .array .int) fl_X4_9 rfl rfl rfl (by decide +kernel) tyX4_ok nmX4 rfl rfl (by omega) (by simp [va_up, he]) (by simp) rfl dX4_init_9 ?_
  refine Bw.aload_n 0 rfl rfl dX4_init_12 ?_
  refine Bw.iconst (v := 3) ic_3 rfl dX4_init_13 ?_
  refine Bw.newa (K := 3) ac_int (by decide) (by decide) (by decide) (by decide) (by decide) rfl dX4_init_14 ?_
  refine Bw.putR (v := 271) (fs := [.ref (Gb G + 270), .int 0, .int 0, .int 0, .int 0, .null, .null, .int 0]) (t := tyX4) (ty := .array .int) fl_X4_15 rfl rfl rfl (by decide +kernel) tyX4_ok nmX4 rfl rfl (by omega) (by simp [va_up, he]) (by simp) rfl dX4_init_16 ?_
  refine Bw.aload_n 0 rfl rfl dX4_init_19 ?_
  refine Bw.bipush (v := 12) ib_12 rfl dX4_init_20 ?_
  refine Bw.newa (K := 12) ac_int (by decide) (by decide) (by decide) (by decide) (by decide) rfl dX4_init_22 ?_
  refine Bw.putR (v := 272) (fs := [.ref (Gb G + 270), .int 0, .int 0, .int 0, .int 0, .ref (Gb G + 271), .null, .int 0]) (t := tyX4) (ty := .array .int) fl_X4_18 rfl rfl rfl (by decide +kernel) tyX4_ok nmX4 rfl rfl (by omega) (by simp [va_up, he]) (by simp) rfl dX4_init_24 ?_
  have s1 : kd 269 = 4 ∧ rf 269 0 = 270 ∧ rf 269 5 = 271 ∧ rf 269 6 = 272 ∧ kd 270 = 7 ∧ kd 271 = 7 ∧ kd 272 = 7 ∧ ln 270 = 120 ∧ ln 271 = 3 ∧ ln 272 = 12 := by decide +kernel
  obtain ⟨s1, s2, s3, s4, s5, s6, s7, s8, s9, s10⟩ := s1
  have c4 : ce G σ0 269 = .inr (4, [.ref (Gb G + 270), .int 0, .int 0, .int 0, .int 0, .ref (Gb G + 271), .ref (Gb G + 272), .int 0]) := by
    refine ce_lit G s1 (by decide) (ln_obj s1 (by decide)) ?_
    simp [lnc, List.range, List.range.loop, ceF, s1, irf, s2, s3, s4, σ0_z (show (269 : Nat) ≠ 283 by decide)]
  refine Bw.vret rfl (by omega) (fun j hj H' ha => ?_) (by decide) (by decide) dX4_init_27
  unfold mix
  by_cases h1 : j < 269
  · rw [if_pos h1]
    simpa [va_up, show j ≠ 269 by omega, show j ≠ 270 by omega, show j ≠ 271 by omega, show j ≠ 272 by omega] using ha
  · rw [if_neg h1]
    rcases (show j = 269 ∨ j = 270 ∨ j = 271 ∨ j = 272 by omega) with rfl | rfl | rfl | rfl
    · rw [c4]; simpa [va_up] using ha
    · rw [ce_i0 G s5 s8 (by decide)]; simpa [va_up] using ha
    · rw [ce_i0 G s6 s9 (by decide)]; simpa [va_up] using ha
    · rw [ce_i0 G s7 s10 (by decide)]; simpa [va_up] using ha
set_option maxRecDepth 100000 in
set_option maxHeartbeats 4000000 in
theorem ck_X6 (l : Launch) (G : Gt) (κ : Nat → va_E) (he : κ 298 = .inr (6, [.null, .null, .int 0, .null, .null, .int 0, .null, .null, .null, .null, .int 0, .int 0, .int 0, .int 0])) : CtK l G yX6_init MX6_init 8 4137 [.ref (Gb G + 298)] κ (299) (mix G κ 298) (307) := by
  refine CtK.of (by decide +kernel) rfl rfl (Nat.le_of_ble_eq_true rfl) ?_
  show Bw l G MX6_init 8 4137 0 [(0, .ref (Gb G + 298))] [] κ (299) 0 0 _ _
  refine Bw.aload_n 0 rfl rfl dX6_init_0 ?_
  refine Bw.objInit ml_X6_1 oi_ins oi_code (Nat.le_of_ble_eq_true rfl) (Nat.le_of_ble_eq_true rfl) rfl dX6_init_1 ?_
  refine Bw.aload_n 0 rfl rfl dX6_init_4 ?_
  refine Bw.sipush (v := 336) is_336 rfl dX6_init_5 ?_
  refine Bw.newa (K := 336) ac_int (by decide) (by decide) (by decide) (by decide) (by decide) rfl dX6_init_8 ?_
  refine Bw.putR (v := 299) (fs := [.null, .null, .int 0, .null, .null, .int 0, .null, .null, .null, .null, .int 0, .int 0, .int 0, .int 0]) (t := tyX6) (ty := .array .int) fl_X6_7 rfl rfl rfl (by decide +kernel) tyX6_ok nmX6 rfl rfl (by omega) (by simp [va_up, he]) (by simp) rfl dX6_init_10 ?_
  refine Bw.aload_n 0 rfl rfl dX6_init_13 ?_
  refine Bw.sipush (v := 1680) is_1680 rfl dX6_init_14 ?_
  refine Bw.newa (K := 1680) ac_int (by decide) (by decide) (by decide) (by decide) (by decide) rfl dX6_init_17 ?_
  refine Bw.putR (v := 300) (fs := [.ref (Gb G + 299), .null, .int 0, .null, .null, .int 0, .null, .null, .null, .null, .int 0, .int 0, .int 0, .int 0]) (t := tyX6) (ty := .array .int) fl_X6_13 rfl rfl rfl (by decide +kernel) tyX6_ok nmX6 rfl rfl (by omega) (by simp [va_up, he]) (by simp) rfl dX6_init_19 ?_
  refine Bw.aload_n 0 rfl rfl dX6_init_22 ?_
  refine Bw.sipush (v := 336) is_336 rfl dX6_init_23 ?_
  refine Bw.newa (K := 336) ac_int (by decide) (by decide) (by decide) (by decide) (by decide) rfl dX6_init_26 ?_
  refine Bw.putR (v := 301) (fs := [.ref (Gb G + 299), .ref (Gb G + 300), .int 0, .null, .null, .int 0, .null, .null, .null, .null, .int 0, .int 0, .int 0, .int 0]) (t := tyX6) (ty := .array .int) fl_X6_16 rfl rfl rfl (by decide +kernel) tyX6_ok nmX6 rfl rfl (by omega) (by simp [va_up, he]) (by simp) rfl dX6_init_28 ?_
  refine Bw.aload_n 0 rfl rfl dX6_init_31 ?_
  refine Bw.iconst (v := 3) ic_3 rfl dX6_init_32 ?_
  refine Bw.newa (K := 3) ac_int (by decide) (by decide) (by decide) (by decide) (by decide) rfl dX6_init_33 ?_
  refine Bw.putR (v := 302) (fs := [.ref (Gb G + 299), .ref (Gb G + 300), .int 0, .ref (Gb G + 301), .null, .int 0, .null, .null, .null, .null, .int 0, .int 0, .int 0, .int 0]) (t := tyX6) (ty := .array .int) fl_X6_19 rfl rfl rfl (by decide +kernel) tyX6_ok nmX6 rfl rfl (by omega) (by simp [va_up, he]) (by simp) rfl dX6_init_35 ?_
  refine Bw.aload_n 0 rfl rfl dX6_init_38 ?_
  refine Bw.bipush (v := 120) ib_120 rfl dX6_init_39 ?_
  refine Bw.newa (K := 120) ac_int (by decide) (by decide) (by decide) (by decide) (by decide) rfl dX6_init_41 ?_
  refine Bw.putR (v := 303) (fs := [.ref (Gb G + 299), .ref (Gb G + 300), .int 0, .ref (Gb G + 301), .ref (Gb G + 302), .int 0, .null, .null, .null, .null, .int 0, .int 0, .int 0, .int 0]) (t := tyX6) (ty := .array .int) fl_X6_22 rfl rfl rfl (by decide +kernel) tyX6_ok nmX6 rfl rfl (by omega) (by simp [va_up, he]) (by simp) rfl dX6_init_43 ?_
  refine Bw.aload_n 0 rfl rfl dX6_init_46 ?_
  refine Bw.bipush (v := 96) ib_96 rfl dX6_init_47 ?_
  refine Bw.newa (K := 96) ac_int (by decide) (by decide) (by decide) (by decide) (by decide) rfl dX6_init_49 ?_
  refine Bw.putR (v := 304) (fs := [.ref (Gb G + 299), .ref (Gb G + 300), .int 0, .ref (Gb G + 301), .ref (Gb G + 302), .int 0, .ref (Gb G + 303), .null, .null, .null, .int 0, .int 0, .int 0, .int 0]) (t := tyX6) (ty := .array .int) fl_X6_25 rfl rfl rfl (by decide +kernel) tyX6_ok nmX6 rfl rfl (by omega) (by simp [va_up, he]) (by simp) rfl dX6_init_51 ?_
  refine Bw.aload_n 0 rfl rfl dX6_init_54 ?_
  refine Bw.bipush (v := 6) ib_6 rfl dX6_init_55 ?_
  refine Bw.newa (K := 6) ac_int (by decide) (by decide) (by decide) (by decide) (by decide) rfl dX6_init_57 ?_
  refine Bw.putR (v := 305) (fs := [.ref (Gb G + 299), .ref (Gb G + 300), .int 0, .ref (Gb G + 301), .ref (Gb G + 302), .int 0, .ref (Gb G + 303), .ref (Gb G + 304), .null, .null, .int 0, .int 0, .int 0, .int 0]) (t := tyX6) (ty := .array .int) fl_X6_28 rfl rfl rfl (by decide +kernel) tyX6_ok nmX6 rfl rfl (by omega) (by simp [va_up, he]) (by simp) rfl dX6_init_59 ?_
  refine Bw.aload_n 0 rfl rfl dX6_init_62 ?_
  refine Bw.sipush (v := 1560) is_1560 rfl dX6_init_63 ?_
  refine Bw.newa (K := 1560) ac_int (by decide) (by decide) (by decide) (by decide) (by decide) rfl dX6_init_66 ?_
  refine Bw.putR (v := 306) (fs := [.ref (Gb G + 299), .ref (Gb G + 300), .int 0, .ref (Gb G + 301), .ref (Gb G + 302), .int 0, .ref (Gb G + 303), .ref (Gb G + 304), .ref (Gb G + 305), .null, .int 0, .int 0, .int 0, .int 0]) (t := tyX6) (ty := .array .int) fl_X6_31 rfl rfl rfl (by decide +kernel) tyX6_ok nmX6 rfl rfl (by omega) (by simp [va_up, he]) (by simp) rfl dX6_init_68 ?_
  refine Bw.aload_n 0 rfl rfl dX6_init_71 ?_
  refine Bw.iconst (v := 0) ic_0 rfl dX6_init_72 ?_
  refine Bw.putI (fs := [.ref (Gb G + 299), .ref (Gb G + 300), .int 0, .ref (Gb G + 301), .ref (Gb G + 302), .int 0, .ref (Gb G + 303), .ref (Gb G + 304), .ref (Gb G + 305), .ref (Gb G + 306), .int 0, .int 0, .int 0, .int 0]) fl_X6_34 fp_6_5 rfl rfl (by omega) (by simp [va_up]) (by simp) rfl dX6_init_73 ?_
  have s1 : kd 298 = 6 ∧ rf 298 0 = 299 ∧ rf 298 1 = 300 ∧ rf 298 3 = 301 ∧ rf 298 4 = 302 ∧ rf 298 6 = 303 ∧ rf 298 7 = 304 ∧ rf 298 8 = 305 ∧ rf 298 9 = 306 := by decide +kernel
  have s2 : (kd 299 = 7 ∧ kd 300 = 7 ∧ kd 301 = 7 ∧ kd 302 = 7 ∧ kd 303 = 7 ∧ kd 304 = 7 ∧ kd 305 = 7 ∧ kd 306 = 7) := by decide +kernel
  have s3 : (ln 299 = 336 ∧ ln 300 = 1680 ∧ ln 301 = 336 ∧ ln 302 = 3 ∧ ln 303 = 120 ∧ ln 304 = 96 ∧ ln 305 = 6 ∧ ln 306 = 1560) := by decide +kernel
  obtain ⟨t0, t1, t2, t3, t4, t5, t6, t7, t8⟩ := s1
  obtain ⟨p1, p2, p3, p4, p5, p6, p7, p8⟩ := s2
  obtain ⟨q1, q2, q3, q4, q5, q6, q7, q8⟩ := s3
  have c4 : ce G σ0 298 = .inr (6, [.ref (Gb G + 299), .ref (Gb G + 300), .int 0, .ref (Gb G + 301), .ref (Gb G + 302), .int 0, .ref (Gb G + 303), .ref (Gb G + 304), .ref (Gb G + 305), .ref (Gb G + 306), .int 0, .int 0, .int 0, .int 0]) := by
    refine ce_lit G t0 (by decide) (ln_obj t0 (by decide)) ?_
    simp [lnc, List.range, List.range.loop, ceF, t0, irf, t1, t2, t3, t4, t5, t6, t7, t8, σ0_z (show (298 : Nat) ≠ 283 by decide)]
  refine Bw.vret rfl (by omega) (fun j hj H' ha => ?_) (by decide) (by decide) dX6_init_76
  unfold mix
  by_cases h1 : j < 298
  · rw [if_pos h1]
    simpa [va_up, show j ≠ 298 by omega, show j ≠ 299 by omega, show j ≠ 300 by omega, show j ≠ 301 by omega, show j ≠ 302 by omega, show j ≠ 303 by omega, show j ≠ 304 by omega, show j ≠ 305 by omega, show j ≠ 306 by omega] using ha
  · rw [if_neg h1]
    rcases (show j = 298 ∨ j = 299 ∨ j = 300 ∨ j = 301 ∨ j = 302 ∨ j = 303 ∨ j = 304 ∨ j = 305 ∨ j = 306 by omega) with rfl | rfl | rfl | rfl | rfl | rfl | rfl | rfl | rfl
    · rw [c4]; simpa [va_up] using ha
    · rw [ce_i0 G p1 q1 (by decide)]; simpa [va_up] using ha
    · rw [ce_i0 G p2 q2 (by decide)]; simpa [va_up] using ha
    · rw [ce_i0 G p3 q3 (by decide)]; simpa [va_up] using ha
    · rw [ce_i0 G p4 q4 (by decide)]; simpa [va_up] using ha
    · rw [ce_i0 G p5 q5 (by decide)]; simpa [va_up] using ha
    · rw [ce_i0 G p6 q6 (by decide)]; simpa [va_up] using ha
    · rw [ce_i0 G p7 q7 (by decide)]; simpa [va_up] using ha
    · rw [ce_i0 G p8 q8 (by decide)]; simpa [va_up] using ha
