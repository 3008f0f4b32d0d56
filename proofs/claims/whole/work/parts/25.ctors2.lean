def seK (G : Gt) (κ : Nat → va_E) (p : Nat) : Nat → va_E := fun j => if j < 273 then κ j else if j = 274 then .inl (G.2.2.2.2 10, 9, .inr (.inr (.inr (.inr (fun i => if i < 9 then some (Gb G + (274 + 1 + i)) else none))))) else if j = 286 then .inl (G.2.2.2.2 10, 6, .inr (.inr (.inr (.inr (fun i => if i < 6 then some (Gb G + (286 + 1 + i)) else none))))) else if j = 283 then .inl (G.2.2.2.1, 48, .inl (fun i => if i < p then nI i else 0)) else ce G σ0 j
theorem st2 : kd 273 = 2 ∧ rf 273 0 = 274 ∧ rf 273 1 = 284 ∧ rf 273 2 = 285 ∧ rf 273 3 = 286 ∧ rf 273 4 = 293 ∧ rf 273 5 = 294 ∧ rf 273 6 = 295 ∧ rf 273 7 = 296 ∧ kd 274 = 10 ∧ ln 274 = 9 ∧ kd 286 = 10 ∧ ln 286 = 6 ∧ (∀ i, i < 9 → rf 274 i = 274 + 1 + i) ∧ (∀ i, i < 6 → rf 286 i = 286 + 1 + i) ∧ kd 283 = 7 ∧ ln 283 = 48 := by decide +kernel
theorem ce_2 (G : Gt) : ce G σ0 273 = .inr (2, [.ref (Gb G + 274), .ref (Gb G + 284), .ref (Gb G + 285), .ref (Gb G + 286), .ref (Gb G + 293), .ref (Gb G + 294), .ref (Gb G + 295), .ref (Gb G + 296), .int 0, .int 0, .int 0, .int 0, .int 0, .int 0, .int 0]) := by
  obtain ⟨s0, s1, s2, s3, s4, s5, s6, s7, s8, -⟩ := st2
  refine ce_lit G s0 (by decide) (ln_obj s0 (by decide)) ?_
  simp [lnc, List.range, List.range.loop, ceF, s0, irf, s1, s2, s3, s4, s5, s6, s7, s8, σ0_z (show (273 : Nat) ≠ 283 by decide)]
set_option maxRecDepth 100000 in
set_option maxHeartbeats 4000000 in
theorem bw_X2_77 (l : Launch) (G : Gt) (κ : Nat → va_E) : ∀ (n c : Nat), c + n = 48 → Bw l G MX2_init 23 538 77 [(0, .ref (Gb G + 273)), (1, .int (nI c))] [] (seK G κ c) 297 23 538 (mix G κ 273) 297 := by
  obtain ⟨s0, s1, s2, s3, s4, s5, s6, s7, s8, u1, u2, u3, u4, u5, u6, u7, u8⟩ := st2
  intro n
  induction n with
  | zero =>
    intro c hc
    have e8 : c = 48 := by omega
    subst e8
    refine Bw.iload_n 1 rfl rfl dX2_init_77 ?_
    refine Bw.bipush (v := 48) ib_48 rfl dX2_init_78 ?_
    refine Bw.icmp_ge (q := 83) (t := 99) rfl (by decide) dX2_init_80 (fun hc => ?_) (fun hc => absurd (by decide) hc)
    refine Bw.vret rfl rfl (fun j hj H' ha => ?_) (Nat.le_refl _) (Nat.le_refl _) dX2_init_99
    unfold mix
    unfold seK at ha
    by_cases h1 : j < 273
    · rw [if_pos h1] at ha ⊢
      exact ha
    · rw [if_neg h1] at ha ⊢
      by_cases h2 : j = 274
      · rw [if_pos h2] at ha
        subst h2
        exact at_ref u1 (by decide) u2 (fun i hi => by rw [if_pos hi, u5 i hi]) ha
      · rw [if_neg h2] at ha
        by_cases h3 : j = 286
        · rw [if_pos h3] at ha
          subst h3
          exact at_ref u3 (by decide) u4 (fun i hi => by rw [if_pos hi, u6 i hi]) ha
        · rw [if_neg h3] at ha
          by_cases h4 : j = 283
          · rw [if_pos h4] at ha
            subst h4
            rw [ce_int G σ0 u7, u8]
            have e : σ0 283 = fun i => if i < 48 then nI i else 0 := by
              funext i
              unfold σ0
              by_cases hi : i < 48
              · rw [if_pos ⟨rfl, hi⟩, if_pos hi]
              · rw [if_neg (fun q => hi q.2), if_neg hi]
            rw [e]
            exact ha
          · rw [if_neg h4] at ha
            exact ha
  | succ n ih =>
    intro c hc
    have hc8 : c < 48 := by omega
    refine Bw.iload_n 1 rfl rfl dX2_init_77 ?_
    refine Bw.bipush (v := 48) ib_48 rfl dX2_init_78 ?_
    refine Bw.icmp_ge (q := 83) (t := 99) rfl (by decide) dX2_init_80 (fun hq => absurd hq (nI_ge (a := c) (b := 48) hc8 (by decide))) (fun hq => ?_)
    refine Bw.aload_n 0 rfl rfl dX2_init_83 ?_
    refine Bw.getR (k := 273) (v := .ref (Gb G + 274)) (fs := [.ref (Gb G + 274), .ref (Gb G + 284), .ref (Gb G + 285), .ref (Gb G + 286), .ref (Gb G + 293), .ref (Gb G + 294), .ref (Gb G + 295), .ref (Gb G + 296), .int 0, .int 0, .int 0, .int 0, .int 0, .int 0, .int 0]) fl_X2_11 (by omega) (by unfold seK; rw [if_neg (by omega), if_neg (by omega), if_neg (by omega), if_neg (by omega), ce_2 G]) rfl rfl dX2_init_84 ?_
    refine Bw.bipush (v := 8) ib_8 rfl dX2_init_87 ?_
    refine Bw.aald (k := 274) (n := 9) (v := Gb G + 283) (f := fun i => if i < 9 then some (Gb G + (274 + 1 + i)) else none) (by omega) (by unfold seK; rw [if_neg (by omega), if_pos rfl]) (by decide) rfl rfl dX2_init_89 ?_
    refine Bw.iload_n 1 rfl rfl dX2_init_90 ?_
    refine Bw.iload_n 1 rfl rfl dX2_init_91 ?_
    refine Bw.iast (k := 283) (n := 48) (f := fun i => if i < c then nI i else 0) (by omega) (by unfold seK; rw [if_neg (by omega), if_neg (by omega), if_neg (by omega), if_pos rfl]) (inb_of (vp_in_nI hc8 (by decide))) rfl dX2_init_92 ?_
    refine Bw.iinc (v := nI (c + 1)) (L' := [(1, .int (nI (c + 1))), (0, .ref (Gb G + 273))]) 1 rfl ((ii_1 _).trans (nI_succ c).symm) (by decide) rfl rfl dX2_init_93 ?_
    refine Bw.goto (q := 77) (by decide) dX2_init_96 ?_
    refine Bw.sub (L' := [(0, .ref (Gb G + 273)), (1, .int (nI (c + 1)))]) [1, 0] rfl ?_
    refine Bw.congr (κ1 := seK G κ (c + 1)) (fun j hj => ?_) (ih (c + 1) (by omega))
    unfold seK
    by_cases h1 : j = 283
    · subst h1
      simp only [va_up, if_true, Nat.not_lt.mpr (show 273 ≤ 283 by omega), if_false, show ¬ (283 : Nat) = 274 by decide, show ¬ (283 : Nat) = 286 by decide]
      refine congrArg (fun (f : Nat → Int32) => (Sum.inl (G.2.2.2.1, 48, .inl f) : va_E)) (funext fun i => ?_)
      unfold upd
      rw [show ix (nI c) = c from nI_clamp (by omega)]
      by_cases hi : i = c
      · subst hi; rw [if_pos rfl, if_pos (by omega)]
      · rw [if_neg hi]
        dsimp only
        by_cases hi2 : i < c
        · rw [if_pos hi2, if_pos (by omega)]
        · rw [if_neg hi2, if_neg (by omega)]
    · simp only [va_up, if_neg h1]
set_option maxRecDepth 100000 in
set_option maxHeartbeats 4000000 in
theorem ck_X2 (l : Launch) (G : Gt) (κ : Nat → va_E) (he : κ 273 = .inr (2, [.null, .null, .null, .null, .null, .null, .null, .null, .int 0, .int 0, .int 0, .int 0, .int 0, .int 0, .int 0])) : CtK l G yX2_init MX2_init 23 538 [.ref (Gb G + 273)] κ (274) (mix G κ 273) (297) := by
  refine CtK.of (by decide +kernel) rfl rfl (Nat.le_of_ble_eq_true rfl) ?_
  show Bw l G MX2_init 23 538 0 [(0, .ref (Gb G + 273))] [] κ (274) 0 0 _ _
  refine Bw.aload_n 0 rfl rfl dX2_init_0 ?_
  refine Bw.objInit ml_X2_3 oi_ins oi_code (Nat.le_of_ble_eq_true rfl) (Nat.le_of_ble_eq_true rfl) rfl dX2_init_1 ?_
  refine Bw.aload_n 0 rfl rfl dX2_init_4 ?_
  refine Bw.bipush (v := 9) ib_9 rfl dX2_init_5 ?_
  refine Bw.bipush (v := 48) ib_48 rfl dX2_init_7 ?_
  refine Bw.mna (n' := 9) (k' := 48) kl_X2_9 ac_int (by decide) (by decide) (by decide) (by decide) (by decide) (by decide) (by decide) (by decide) rfl dX2_init_9 ?_
  refine Bw.putR (v := 274) (fs := [.null, .null, .null, .null, .null, .null, .null, .null, .int 0, .int 0, .int 0, .int 0, .int 0, .int 0, .int 0]) (t := tyX2) (ty := .array (.array .int)) fl_X2_11 rfl rfl rfl (by decide +kernel) tyX2_ok nmX2 rfl rfl (by omega) (by simp [va_up, mnaK, he]) (by simp) rfl dX2_init_13 ?_
  refine Bw.aload_n 0 rfl rfl dX2_init_16 ?_
  refine Bw.bipush (v := 8) ib_8 rfl dX2_init_17 ?_
  refine Bw.newa (K := 8) ac_int (by decide) (by decide) (by decide) (by decide) (by decide) rfl dX2_init_19 ?_
  refine Bw.putR (v := 284) (fs := [.ref (Gb G + 274), .null, .null, .null, .null, .null, .null, .null, .int 0, .int 0, .int 0, .int 0, .int 0, .int 0, .int 0]) (t := tyX2) (ty := .array .int) fl_X2_16 rfl rfl rfl (by decide +kernel) tyX2_ok nmX2 rfl rfl (by omega) (by simp [va_up, mnaK, he]) (by simp) rfl dX2_init_21 ?_
  refine Bw.aload_n 0 rfl rfl dX2_init_24 ?_
  refine Bw.bipush (v := 8) ib_8 rfl dX2_init_25 ?_
  refine Bw.newa (K := 8) ac_int (by decide) (by decide) (by decide) (by decide) (by decide) rfl dX2_init_27 ?_
  refine Bw.putR (v := 285) (fs := [.ref (Gb G + 274), .ref (Gb G + 284), .null, .null, .null, .null, .null, .null, .int 0, .int 0, .int 0, .int 0, .int 0, .int 0, .int 0]) (t := tyX2) (ty := .array .int) fl_X2_20 rfl rfl rfl (by decide +kernel) tyX2_ok nmX2 rfl rfl (by omega) (by simp [va_up, mnaK, he]) (by simp) rfl dX2_init_29 ?_
  refine Bw.aload_n 0 rfl rfl dX2_init_32 ?_
  refine Bw.bipush (v := 6) ib_6 rfl dX2_init_33 ?_
  refine Bw.bipush (v := 8) ib_8 rfl dX2_init_35 ?_
  refine Bw.mna (n' := 6) (k' := 8) kl_X2_9 ac_int (by decide) (by decide) (by decide) (by decide) (by decide) (by decide) (by decide) (by decide) rfl dX2_init_37 ?_
  refine Bw.putR (v := 286) (fs := [.ref (Gb G + 274), .ref (Gb G + 284), .ref (Gb G + 285), .null, .null, .null, .null, .null, .int 0, .int 0, .int 0, .int 0, .int 0, .int 0, .int 0]) (t := tyX2) (ty := .array (.array .int)) fl_X2_23 rfl rfl rfl (by decide +kernel) tyX2_ok nmX2 rfl rfl (by omega) (by simp [va_up, mnaK, he]) (by simp) rfl dX2_init_41 ?_
  refine Bw.aload_n 0 rfl rfl dX2_init_44 ?_
  refine Bw.bipush (v := 6) ib_6 rfl dX2_init_45 ?_
  refine Bw.newa (K := 6) ac_int (by decide) (by decide) (by decide) (by decide) (by decide) rfl dX2_init_47 ?_
  refine Bw.putR (v := 293) (fs := [.ref (Gb G + 274), .ref (Gb G + 284), .ref (Gb G + 285), .ref (Gb G + 286), .null, .null, .null, .null, .int 0, .int 0, .int 0, .int 0, .int 0, .int 0, .int 0]) (t := tyX2) (ty := .array .int) fl_X2_26 rfl rfl rfl (by decide +kernel) tyX2_ok nmX2 rfl rfl (by omega) (by simp [va_up, mnaK, he]) (by simp) rfl dX2_init_49 ?_
  refine Bw.aload_n 0 rfl rfl dX2_init_52 ?_
  refine Bw.bipush (v := 8) ib_8 rfl dX2_init_53 ?_
  refine Bw.newa (K := 8) ac_int (by decide) (by decide) (by decide) (by decide) (by decide) rfl dX2_init_55 ?_
  refine Bw.putR (v := 294) (fs := [.ref (Gb G + 274), .ref (Gb G + 284), .ref (Gb G + 285), .ref (Gb G + 286), .ref (Gb G + 293), .null, .null, .null, .int 0, .int 0, .int 0, .int 0, .int 0, .int 0, .int 0]) (t := tyX2) (ty := .array .int) fl_X2_29 rfl rfl rfl (by decide +kernel) tyX2_ok nmX2 rfl rfl (by omega) (by simp [va_up, mnaK, he]) (by simp) rfl dX2_init_57 ?_
  refine Bw.aload_n 0 rfl rfl dX2_init_60 ?_
  refine Bw.iconst (v := 5) ic_5 rfl dX2_init_61 ?_
  refine Bw.newa (K := 5) ac_int (by decide) (by decide) (by decide) (by decide) (by decide) rfl dX2_init_62 ?_
  refine Bw.putR (v := 295) (fs := [.ref (Gb G + 274), .ref (Gb G + 284), .ref (Gb G + 285), .ref (Gb G + 286), .ref (Gb G + 293), .ref (Gb G + 294), .null, .null, .int 0, .int 0, .int 0, .int 0, .int 0, .int 0, .int 0]) (t := tyX2) (ty := .array .int) fl_X2_32 rfl rfl rfl (by decide +kernel) tyX2_ok nmX2 rfl rfl (by omega) (by simp [va_up, mnaK, he]) (by simp) rfl dX2_init_64 ?_
  refine Bw.aload_n 0 rfl rfl dX2_init_67 ?_
  refine Bw.bipush (v := 8) ib_8 rfl dX2_init_68 ?_
  refine Bw.newa (K := 8) ac_int (by decide) (by decide) (by decide) (by decide) (by decide) rfl dX2_init_70 ?_
  refine Bw.putR (v := 296) (fs := [.ref (Gb G + 274), .ref (Gb G + 284), .ref (Gb G + 285), .ref (Gb G + 286), .ref (Gb G + 293), .ref (Gb G + 294), .ref (Gb G + 295), .null, .int 0, .int 0, .int 0, .int 0, .int 0, .int 0, .int 0]) (t := tyX2) (ty := .array .int) fl_X2_35 rfl rfl rfl (by decide +kernel) tyX2_ok nmX2 rfl rfl (by omega) (by simp [va_up, mnaK, he]) (by simp) rfl dX2_init_72 ?_
  refine Bw.iconst (v := 0) ic_0 rfl dX2_init_75 ?_
  refine Bw.istore_n (L' := [(1, .int 0), (0, .ref (Gb G + 273))]) (Nat.le_of_ble_eq_true rfl) rfl rfl dX2_init_76 ?_
  refine Bw.sub (L' := [(0, .ref (Gb G + 273)), (1, .int (nI 0))]) [1, 0] rfl ?_
  refine Bw.congr (κ1 := seK G κ 0) (fun j hj => ?_) (bw_X2_77 l G κ 48 0 rfl)
  unfold seK
  by_cases h1 : j < 273
  · rw [if_pos h1]
    simp [va_up, mnaK, show j ≠ 273 by omega, show j ≠ 274 by omega, show j ≠ 284 by omega, show j ≠ 285 by omega, show j ≠ 286 by omega, show j ≠ 293 by omega, show j ≠ 294 by omega, show j ≠ 295 by omega, show j ≠ 296 by omega, show ¬ 274 < j by omega, show ¬ 286 < j by omega]
  · rw [if_neg h1]
    rcases (show j = 273 ∨ j = 274 ∨ j = 275 ∨ j = 276 ∨ j = 277 ∨ j = 278 ∨ j = 279 ∨ j = 280 ∨ j = 281 ∨ j = 282 ∨ j = 283 ∨ j = 284 ∨ j = 285 ∨ j = 286 ∨ j = 287 ∨ j = 288 ∨ j = 289 ∨ j = 290 ∨ j = 291 ∨ j = 292 ∨ j = 293 ∨ j = 294 ∨ j = 295 ∨ j = 296 by omega) with rfl | rfl | rfl | rfl | rfl | rfl | rfl | rfl | rfl | rfl | rfl | rfl | rfl | rfl | rfl | rfl | rfl | rfl | rfl | rfl | rfl | rfl | rfl | rfl
    · rw [if_neg (by omega), if_neg (by omega), if_neg (by omega), ce_2 G]; simp [va_up, mnaK]
    · simp [va_up, mnaK]
    · rw [if_neg (by omega), if_neg (by omega), if_neg (by omega), ce_i0 G (by decide +kernel : kd 275 = 7) (by decide +kernel : ln 275 = 48) (by decide)]; simp [va_up, mnaK]
    · rw [if_neg (by omega), if_neg (by omega), if_neg (by omega), ce_i0 G (by decide +kernel : kd 276 = 7) (by decide +kernel : ln 276 = 48) (by decide)]; simp [va_up, mnaK]
    · rw [if_neg (by omega), if_neg (by omega), if_neg (by omega), ce_i0 G (by decide +kernel : kd 277 = 7) (by decide +kernel : ln 277 = 48) (by decide)]; simp [va_up, mnaK]
    · rw [if_neg (by omega), if_neg (by omega), if_neg (by omega), ce_i0 G (by decide +kernel : kd 278 = 7) (by decide +kernel : ln 278 = 48) (by decide)]; simp [va_up, mnaK]
    · rw [if_neg (by omega), if_neg (by omega), if_neg (by omega), ce_i0 G (by decide +kernel : kd 279 = 7) (by decide +kernel : ln 279 = 48) (by decide)]; simp [va_up, mnaK]
    · rw [if_neg (by omega), if_neg (by omega), if_neg (by omega), ce_i0 G (by decide +kernel : kd 280 = 7) (by decide +kernel : ln 280 = 48) (by decide)]; simp [va_up, mnaK]
    · rw [if_neg (by omega), if_neg (by omega), if_neg (by omega), ce_i0 G (by decide +kernel : kd 281 = 7) (by decide +kernel : ln 281 = 48) (by decide)]; simp [va_up, mnaK]
    · rw [if_neg (by omega), if_neg (by omega), if_neg (by omega), ce_i0 G (by decide +kernel : kd 282 = 7) (by decide +kernel : ln 282 = 48) (by decide)]; simp [va_up, mnaK]
    · simp [va_up, mnaK]
    · rw [if_neg (by omega), if_neg (by omega), if_neg (by omega), ce_i0 G (by decide +kernel : kd 284 = 7) (by decide +kernel : ln 284 = 8) (by decide)]; simp [va_up, mnaK]
    · rw [if_neg (by omega), if_neg (by omega), if_neg (by omega), ce_i0 G (by decide +kernel : kd 285 = 7) (by decide +kernel : ln 285 = 8) (by decide)]; simp [va_up, mnaK]
    · simp [va_up, mnaK]
    · rw [if_neg (by omega), if_neg (by omega), if_neg (by omega), ce_i0 G (by decide +kernel : kd 287 = 7) (by decide +kernel : ln 287 = 8) (by decide)]; simp [va_up, mnaK]
    · rw [if_neg (by omega), if_neg (by omega), if_neg (by omega), ce_i0 G (by decide +kernel : kd 288 = 7) (by decide +kernel : ln 288 = 8) (by decide)]; simp [va_up, mnaK]
    · rw [if_neg (by omega), if_neg (by omega), if_neg (by omega), ce_i0 G (by decide +kernel : kd 289 = 7) (by decide +kernel : ln 289 = 8) (by decide)]; simp [va_up, mnaK]
    · rw [if_neg (by omega), if_neg (by omega), if_neg (by omega), ce_i0 G (by decide +kernel : kd 290 = 7) (by decide +kernel : ln 290 = 8) (by decide)]; simp [va_up, mnaK]
    · rw [if_neg (by omega), if_neg (by omega), if_neg (by omega), ce_i0 G (by decide +kernel : kd 291 = 7) (by decide +kernel : ln 291 = 8) (by decide)]; simp [va_up, mnaK]
    · rw [if_neg (by omega), if_neg (by omega), if_neg (by omega), ce_i0 G (by decide +kernel : kd 292 = 7) (by decide +kernel : ln 292 = 8) (by decide)]; simp [va_up, mnaK]
    · rw [if_neg (by omega), if_neg (by omega), if_neg (by omega), ce_i0 G (by decide +kernel : kd 293 = 7) (by decide +kernel : ln 293 = 6) (by decide)]; simp [va_up, mnaK]
    · rw [if_neg (by omega), if_neg (by omega), if_neg (by omega), ce_i0 G (by decide +kernel : kd 294 = 7) (by decide +kernel : ln 294 = 8) (by decide)]; simp [va_up, mnaK]
    · rw [if_neg (by omega), if_neg (by omega), if_neg (by omega), ce_i0 G (by decide +kernel : kd 295 = 7) (by decide +kernel : ln 295 = 5) (by decide)]; simp [va_up, mnaK]
    · rw [if_neg (by omega), if_neg (by omega), if_neg (by omega), ce_i0 G (by decide +kernel : kd 296 = 7) (by decide +kernel : ln 296 = 8) (by decide)]; simp [va_up, mnaK]
set_option maxRecDepth 100000 in
set_option maxHeartbeats 4000000 in
theorem ck_X5 (l : Launch) (G : Gt) (κ : Nat → va_E) (he : κ 0 = .inr (5, [.null, .null, .null, .null, .null])) : CtK l G yX5_init MX5_init 297 3263 [.ref (Gb G + 0)] κ (1) (mix G κ 0) (298) := by
  refine CtK.of (by decide +kernel) rfl rfl (Nat.le_of_ble_eq_true rfl) ?_
  show Bw l G MX5_init 297 3263 0 [(0, .ref (Gb G + 0))] [] κ (1) 0 0 _ _
  refine Bw.aload_n 0 rfl rfl dX5_init_0 ?_
  refine Bw.objInit ml_X5_3 oi_ins oi_code (Nat.le_of_ble_eq_true rfl) (Nat.le_of_ble_eq_true rfl) rfl dX5_init_1 ?_
  refine Bw.aload_n 0 rfl rfl dX5_init_4 ?_
  refine Bw.new (n := 9) (fs := [.int 0, .null, .null, .int 0, .null, .int 0, .null, .null, .int 0]) (r := (RX3, TX3, 9)) (ci := 3) rfl tyX3 tyX3_ok ingX3 kl_X5_9 it_X3 ini_X3 (fun j hj => by rcases (show j = 0 ∨ j = 1 ∨ j = 2 ∨ j = 3 ∨ j = 4 ∨ j = 5 ∨ j = 6 ∨ j = 7 ∨ j = 8 from by have : j < 9 := hj; omega) with rfl | rfl | rfl | rfl | rfl | rfl | rfl | rfl | rfl <;> rfl) rfl (by omega) (by omega) rfl dX5_init_5 ?_
  refine Bw.dupr rfl dX5_init_8 ?_
  refine Bw.callI (mc' := 37) (ms' := 356) rfl rfl ml_X5_11 ins_X3_init ini_X3 cw_X3_init ⟨by decide, by decide, by decide +kernel⟩ (ck_X3 l G _ 1 (by decide +kernel) (by simp [va_up])) (by omega) (by decide) (by decide) (by omega) (by omega) (Nat.le_of_ble_eq_true rfl) rfl dX5_init_9 ?_
  refine Bw.putR (v := 1) (fs := [.null, .null, .null, .null, .null]) (t := tyX5) (ty := .object RX3) fl_X5_12 rfl rfl rfl (by decide +kernel) tyX5_ok nmX5 rfl rfl (by omega) (by simp [va_up, mix, he]) (by simp) rfl dX5_init_12 ?_
  refine Bw.aload_n 0 rfl rfl dX5_init_15 ?_
  refine Bw.new (n := 3) (fs := [.null, .int 0, .int 0]) (r := (RX1, TX1, 3)) (ci := 1) rfl tyX1 tyX1_ok ingX1 kl_X5_16 it_X1 ini_X1 (fun j hj => by rcases (show j = 0 ∨ j = 1 ∨ j = 2 from by have : j < 3 := hj; omega) with rfl | rfl | rfl <;> rfl) rfl (by omega) (by omega) rfl dX5_init_16 ?_
  refine Bw.dupr rfl dX5_init_19 ?_
  refine Bw.callI (mc' := 229) (ms' := 2196) rfl rfl ml_X5_18 ins_X1_init ini_X1 cw_X1_init ⟨by decide, by decide, by decide +kernel⟩ (ck_X1 l G _ (by simp [va_up])) (by omega) (by decide) (by decide) (by omega) (by omega) (Nat.le_of_ble_eq_true rfl) rfl dX5_init_20 ?_
  refine Bw.putR (v := 39) (fs := [.ref (Gb G + 1), .null, .null, .null, .null]) (t := tyX5) (ty := .object RX1) fl_X5_19 rfl rfl rfl (by decide +kernel) tyX5_ok nmX5 rfl rfl (by omega) (by simp [va_up, mix, he]) (by simp) rfl dX5_init_23 ?_
  refine Bw.aload_n 0 rfl rfl dX5_init_26 ?_
  refine Bw.new (n := 8) (fs := [.null, .int 0, .int 0, .int 0, .int 0, .null, .null, .int 0]) (r := (RX4, TX4, 8)) (ci := 4) rfl tyX4 tyX4_ok ingX4 kl_X5_23 it_X4 ini_X4 (fun j hj => by rcases (show j = 0 ∨ j = 1 ∨ j = 2 ∨ j = 3 ∨ j = 4 ∨ j = 5 ∨ j = 6 ∨ j = 7 from by have : j < 8 := hj; omega) with rfl | rfl | rfl | rfl | rfl | rfl | rfl | rfl <;> rfl) rfl (by omega) (by omega) rfl dX5_init_27 ?_
  refine Bw.dupr rfl dX5_init_30 ?_
  refine Bw.callIN (mc' := 3) (ms' := 135) rfl rfl (by decide +kernel : (RX5, 25, yX4_init, RX5) ∈ nest) ins_X4_init ini_X4 cw_X4_init ⟨by decide, by decide, by decide +kernel⟩ (ck_X4 l G _ (by simp [va_up])) (by omega) (by decide) (by decide) (by omega) (by omega) (Nat.le_of_ble_eq_true rfl) rfl dX5_init_31 ?_
  refine Bw.putR (v := 269) (fs := [.ref (Gb G + 1), .ref (Gb G + 39), .null, .null, .null]) (t := tyX5) (ty := .object RX4) fl_X5_26 rfl rfl rfl (by decide +kernel) tyX5_ok nmX5 rfl rfl (by omega) (by simp [va_up, mix, he]) (by simp) rfl dX5_init_34 ?_
  refine Bw.aload_n 0 rfl rfl dX5_init_37 ?_
  refine Bw.new (n := 15) (fs := [.null, .null, .null, .null, .null, .null, .null, .null, .int 0, .int 0, .int 0, .int 0, .int 0, .int 0, .int 0]) (r := (RX2, TX2, 15)) (ci := 2) rfl tyX2 tyX2_ok ingX2 kl_X5_30 it_X2 ini_X2 (fun j hj => by rcases (show j = 0 ∨ j = 1 ∨ j = 2 ∨ j = 3 ∨ j = 4 ∨ j = 5 ∨ j = 6 ∨ j = 7 ∨ j = 8 ∨ j = 9 ∨ j = 10 ∨ j = 11 ∨ j = 12 ∨ j = 13 ∨ j = 14 from by have : j < 15 := hj; omega) with rfl | rfl | rfl | rfl | rfl | rfl | rfl | rfl | rfl | rfl | rfl | rfl | rfl | rfl | rfl <;> rfl) rfl (by omega) (by omega) rfl dX5_init_38 ?_
  refine Bw.dupr rfl dX5_init_41 ?_
  refine Bw.callI (mc' := 23) (ms' := 538) rfl rfl ml_X5_32 ins_X2_init ini_X2 cw_X2_init ⟨by decide, by decide, by decide +kernel⟩ (ck_X2 l G _ (by simp [va_up])) (by omega) (by decide) (by decide) (by omega) (by omega) (Nat.le_of_ble_eq_true rfl) rfl dX5_init_42 ?_
  refine Bw.putR (v := 273) (fs := [.ref (Gb G + 1), .ref (Gb G + 39), .ref (Gb G + 269), .null, .null]) (t := tyX5) (ty := .object RX2) fl_X5_33 rfl rfl rfl (by decide +kernel) tyX5_ok nmX5 rfl rfl (by omega) (by simp [va_up, mix, he]) (by simp) rfl dX5_init_45 ?_
  refine Bw.aload_n 0 rfl rfl dX5_init_48 ?_
  refine Bw.iconst (v := 3) ic_3 rfl dX5_init_49 ?_
  refine Bw.newa (K := 3) ac_int (by decide) (by decide) (by decide) (by omega) (by omega) rfl dX5_init_50 ?_
  refine Bw.putR (v := 297) (fs := [.ref (Gb G + 1), .ref (Gb G + 39), .ref (Gb G + 269), .ref (Gb G + 273), .null]) (t := tyX5) (ty := .array .int) fl_X5_37 rfl rfl rfl (by decide +kernel) tyX5_ok nmX5 rfl rfl (by omega) (by simp [va_up, mix, he]) (by simp) rfl dX5_init_52 ?_
  have s1 : kd 0 = 5 ∧ rf 0 0 = 1 ∧ rf 0 1 = 39 ∧ rf 0 2 = 269 ∧ rf 0 3 = 273 ∧ rf 0 4 = 297 := by decide +kernel
  obtain ⟨t0, t1, t2, t3, t4, t5⟩ := s1
  have c5 : ce G σ0 0 = .inr (5, [.ref (Gb G + 1), .ref (Gb G + 39), .ref (Gb G + 269), .ref (Gb G + 273), .ref (Gb G + 297)]) := by
    refine ce_lit G t0 (by decide) (ln_obj t0 (by decide)) ?_
    simp [lnc, List.range, List.range.loop, ceF, t0, irf, t1, t2, t3, t4, t5]
  refine Bw.vret rfl rfl (fun j hj H' ha => ?_) (by omega) (by omega) dX5_init_55
  unfold mix
  rw [if_neg (by omega)]
  by_cases h0 : j = 0
  · subst h0; rw [c5]; simpa [va_up] using ha
  · by_cases h2 : j = 297
    · subst h2
      rw [ce_i0 G (by decide +kernel : kd 297 = 7) (by decide +kernel : ln 297 = 3) (by decide)]
      simpa [va_up] using ha
    · have ha2 : va_at (Gd G) cls (Gb G + j, ce G σ0 j) H' := by
        simp only [va_up, mix, if_neg h0, if_neg h2] at ha
        by_cases g1 : j < 273
        · by_cases g2 : j < 269
          · by_cases g3 : j < 39
            · simpa [g1, g2, g3, show j ≠ 39 by omega, show j ≠ 269 by omega, show j ≠ 273 by omega, show ¬ j < 1 by omega] using ha
            · simpa [g1, g2, g3, show j ≠ 269 by omega, show j ≠ 273 by omega] using ha
          · simpa [g1, g2, show j ≠ 273 by omega] using ha
        · simpa [g1] using ha
      exact ha2
