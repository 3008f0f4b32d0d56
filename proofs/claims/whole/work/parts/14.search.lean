abbrev MX2_isGoalBehind : Mt := (RX2, cX2_isGoalBehind, 6, (some .boolean), 2)
def f_X2_isGoalBehind_70  : Nat → Nat → Nat → Nat → Int32 → Sg → Option (Int32 × Sg)
  | 0, _, _, _, _, _ => none
  | n + 1, r0, r3, r4, x5, σ => if kd r0 = 2 then (if kd r3 = 7 then (if kd r4 = 7 then (if σ r0 8 ≤ x5 + 1 then (some (1, σ)) else (if inb x5 (ln r3) then (if inb (σ r3 (ix x5)) (ln r4) then (if inb (x5 + 1) (ln r3) then (if inb (σ r3 (ix (x5 + 1))) (ln r4) then (cb (f_X5_arePaired (σ r4 (ix (σ r3 (ix x5)))) (σ r4 (ix (σ r3 (ix (x5 + 1))))) σ) (fun a5 τ6 => if a5 = 0 then (some (0, τ6)) else (f_X2_isGoalBehind_70 n r0 r3 r4 (x5 + 2) τ6))) else none) else none) else none) else none)) else none) else none) else none
def f_X2_isGoalBehind_60  (r0 : Nat) (r3 : Nat) (r4 : Nat) (σ : Sg) : Option (Int32 × Sg) := if kd r0 = 2 then (if kd r3 = 7 then (if kd r4 = 7 then (if σ r0 10 = 0 then (some (1, σ)) else (f_X2_isGoalBehind_70 FU r0 r3 r4 0 σ)) else none) else none) else none
def f_X2_isGoalBehind_26  : Nat → Nat → Nat → Nat → Int32 → Sg → Option (Int32 × Sg)
  | 0, _, _, _, _, _ => none
  | n + 1, r0, r3, r4, x5, σ => if kd r0 = 2 then (if kd r3 = 7 then (if kd r4 = 7 then (if σ r0 8 ≤ x5 then (f_X2_isGoalBehind_60 r0 r3 r4 σ) else (if inb x5 (ln r3) then (if inb (σ r3 (ix x5)) (ln r4) then (if inb x5 8 then (if σ r4 (ix (σ r3 (ix x5))) = σ (rf r0 5) (ix x5) then (f_X2_isGoalBehind_26 n r0 r3 r4 (x5 + 1) σ) else (some (0, σ))) else none) else none) else none)) else none) else none) else none
def f_X2_isGoalBehind (r0 : Nat) (x1 : Int32) (x2 : Int32) (σ : Sg) : Option (Int32 × Sg) := if kd r0 = 2 then (if inb x2 6 then (if inb x1 9 then (if σ r0 10 = 1 then (f_X2_isGoalBehind_60 r0 (rf (rf r0 3) (ix x2)) (rf (rf r0 0) (ix x1)) σ) else (f_X2_isGoalBehind_26 FU r0 (rf (rf r0 3) (ix x2)) (rf (rf r0 0) (ix x1)) 0 σ)) else none) else none) else none
theorem cn_X2_124 : CN RX2 124 yX5_arePaired RX5 MX5_arePaired 2 := ⟨by decide +kernel, sta_X5_arePaired, ini_X5, cw_X5_arePaired, ⟨by decide, by decide, by decide +kernel⟩⟩
set_option maxRecDepth 100000 in
set_option maxHeartbeats 4000000 in
theorem aw_X2_isGoalBehind_70 (l : Launch) (G : Gt) : ∀ (n : Nat) (r0 : Nat) (r3 : Nat) (r4 : Nat) (x5 : Int32) (σ : Sg), Aw l G MX2_isGoalBehind rI 70 [(0, .ref (Gb G + r0)), (3, .ref (Gb G + r3)), (4, .ref (Gb G + r4)), (5, .int x5)] [] σ (f_X2_isGoalBehind_70 n r0 r3 r4 x5 σ) := by
  intro n
  induction n with
  | zero => intro r0 r3 r4 x5 σ; exact Aw.no
  | succ n ih =>
    intro r0 r3 r4 x5 σ
    rw [f_X2_isGoalBehind_70]
    refine Aw.gd (fun hr0 => ?_)
    refine Aw.gd (fun hr3 => ?_)
    refine Aw.gd (fun hr4 => ?_)
    refine Aw.iload 3 rfl rfl dX2_isGoalBehind_70 ?_
    refine Aw.iconst (v := 1) ic_1 rfl dX2_isGoalBehind_72 ?_
    refine Aw.iadd rfl dX2_isGoalBehind_73 ?_
    refine Aw.aload_n 0 rfl rfl dX2_isGoalBehind_74 ?_
    refine Aw.getI fl_X2_70 (Nat.le_of_ble_eq_true rfl) rfl hr0 rfl dX2_isGoalBehind_75 ?_
    refine Aw.icmp_ge (q := 81) (t := 111) rfl (by decide) dX2_isGoalBehind_78 (fun hc => ?_) (fun hc => ?_)
    · refine Aw.iconst (v := 1) ic_1 rfl dX2_isGoalBehind_111 ?_
      exact Aw.zret rfl rfl dX2_isGoalBehind_112
    · refine Aw.aload 2 rfl rfl dX2_isGoalBehind_81 ?_
      refine Aw.aload_n 1 rfl rfl dX2_isGoalBehind_83 ?_
      refine Aw.iload 3 rfl rfl dX2_isGoalBehind_84 ?_
      refine Aw.iald (n := ln r3) hr3 rfl rfl dX2_isGoalBehind_86 (fun hb1 => ?_)
      refine Aw.iald (n := ln r4) hr4 rfl rfl dX2_isGoalBehind_87 (fun hb2 => ?_)
      refine Aw.aload 2 rfl rfl dX2_isGoalBehind_88 ?_
      refine Aw.aload_n 1 rfl rfl dX2_isGoalBehind_90 ?_
      refine Aw.iload 3 rfl rfl dX2_isGoalBehind_91 ?_
      refine Aw.iconst (v := 1) ic_1 rfl dX2_isGoalBehind_93 ?_
      refine Aw.iadd rfl dX2_isGoalBehind_94 ?_
      refine Aw.iald (n := ln r3) hr3 rfl rfl dX2_isGoalBehind_95 (fun hb3 => ?_)
      refine Aw.iald (n := ln r4) hr4 rfl rfl dX2_isGoalBehind_96 (fun hb4 => ?_)
      refine Aw.callNi (As := [.int (σ r4 (ix (σ r3 (ix x5)))), .int (σ r4 (ix (σ r3 (ix (x5 + 1)))))]) (rest := []) cn_X2_124 (ct_X5_arePaired l G (σ r4 (ix (σ r3 (ix x5)))) (σ r4 (ix (σ r3 (ix (x5 + 1))))) σ) rfl rfl (Nat.le_of_ble_eq_true rfl) (Nat.le_of_ble_eq_true rfl) (Nat.le_of_ble_eq_true rfl) rfl dX2_isGoalBehind_97 (fun a5 τ6 _ => ?_)
      refine Aw.if_ne (q := 103) (t := 105) rfl (by decide) dX2_isGoalBehind_100 (fun hc => ?_) (fun hc => ?_)
      · refine Aw.iconst (v := 0) ic_0 rfl dX2_isGoalBehind_103 ?_
        exact Aw.zret rfl rfl dX2_isGoalBehind_104
      · refine Aw.iinc (v := x5 + 2) (L' := [(5, .int (x5 + 2)), (0, .ref (Gb G + r0)), (3, .ref (Gb G + r3)), (4, .ref (Gb G + r4))]) 3 rfl (ii_2 _) (Nat.le_of_ble_eq_true rfl) rfl rfl dX2_isGoalBehind_105 ?_
        refine Aw.goto (q := 70) (by decide) dX2_isGoalBehind_108 ?_
        refine Aw.sub (L' := [(0, .ref (Gb G + r0)), (3, .ref (Gb G + r3)), (4, .ref (Gb G + r4)), (5, .int (x5 + 2))]) [1, 2, 3, 0] rfl ?_
        exact ih _ _ _ _ _
set_option maxRecDepth 100000 in
set_option maxHeartbeats 4000000 in
theorem aw_X2_isGoalBehind_60 (l : Launch) (G : Gt) (r0 : Nat) (r3 : Nat) (r4 : Nat) (σ : Sg) : Aw l G MX2_isGoalBehind rI 60 [(0, .ref (Gb G + r0)), (3, .ref (Gb G + r3)), (4, .ref (Gb G + r4))] [] σ (f_X2_isGoalBehind_60 r0 r3 r4 σ) := by
  unfold f_X2_isGoalBehind_60
  refine Aw.gd (fun hr0 => ?_)
  refine Aw.gd (fun hr3 => ?_)
  refine Aw.gd (fun hr4 => ?_)
  refine Aw.aload_n 0 rfl rfl dX2_isGoalBehind_60 ?_
  refine Aw.getI fl_X2_62 (Nat.le_of_ble_eq_true rfl) rfl hr0 rfl dX2_isGoalBehind_61 ?_
  refine Aw.if_eq (q := 67) (t := 111) rfl (by decide) dX2_isGoalBehind_64 (fun hc => ?_) (fun hc => ?_)
  · refine Aw.iconst (v := 1) ic_1 rfl dX2_isGoalBehind_111 ?_
    exact Aw.zret rfl rfl dX2_isGoalBehind_112
  · refine Aw.iconst (v := 0) ic_0 rfl dX2_isGoalBehind_67 ?_
    refine Aw.istore (L' := [(5, .int 0), (0, .ref (Gb G + r0)), (3, .ref (Gb G + r3)), (4, .ref (Gb G + r4))]) (Nat.le_of_ble_eq_true rfl) rfl rfl dX2_isGoalBehind_68 ?_
    refine Aw.sub (L' := [(0, .ref (Gb G + r0)), (3, .ref (Gb G + r3)), (4, .ref (Gb G + r4)), (5, .int 0)]) [1, 2, 3, 0] rfl ?_
    exact aw_X2_isGoalBehind_70 l G FU _ _ _ _ _
set_option maxRecDepth 100000 in
set_option maxHeartbeats 4000000 in
theorem aw_X2_isGoalBehind_26 (l : Launch) (G : Gt) : ∀ (n : Nat) (r0 : Nat) (r3 : Nat) (r4 : Nat) (x5 : Int32) (σ : Sg), Aw l G MX2_isGoalBehind rI 26 [(0, .ref (Gb G + r0)), (3, .ref (Gb G + r3)), (4, .ref (Gb G + r4)), (5, .int x5)] [] σ (f_X2_isGoalBehind_26 n r0 r3 r4 x5 σ) := by
  intro n
  induction n with
  | zero => intro r0 r3 r4 x5 σ; exact Aw.no
  | succ n ih =>
    intro r0 r3 r4 x5 σ
    rw [f_X2_isGoalBehind_26]
    refine Aw.gd (fun hr0 => ?_)
    refine Aw.gd (fun hr3 => ?_)
    refine Aw.gd (fun hr4 => ?_)
    refine Aw.iload 3 rfl rfl dX2_isGoalBehind_26 ?_
    refine Aw.aload_n 0 rfl rfl dX2_isGoalBehind_28 ?_
    refine Aw.getI fl_X2_70 (Nat.le_of_ble_eq_true rfl) rfl hr0 rfl dX2_isGoalBehind_29 ?_
    refine Aw.icmp_ge (q := 35) (t := 60) rfl (by decide) dX2_isGoalBehind_32 (fun hc => ?_) (fun hc => ?_)
    · refine Aw.sub (L' := [(0, .ref (Gb G + r0)), (3, .ref (Gb G + r3)), (4, .ref (Gb G + r4))]) [0, 1, 2] rfl ?_
      exact aw_X2_isGoalBehind_60 l G _ _ _ _
    · refine Aw.aload 2 rfl rfl dX2_isGoalBehind_35 ?_
      refine Aw.aload_n 1 rfl rfl dX2_isGoalBehind_37 ?_
      refine Aw.iload 3 rfl rfl dX2_isGoalBehind_38 ?_
      refine Aw.iald (n := ln r3) hr3 rfl rfl dX2_isGoalBehind_40 (fun hb1 => ?_)
      refine Aw.iald (n := ln r4) hr4 rfl rfl dX2_isGoalBehind_41 (fun hb2 => ?_)
      refine Aw.aload_n 0 rfl rfl dX2_isGoalBehind_42 ?_
      refine Aw.getR fl_X2_29 (Nat.le_of_ble_eq_true rfl) rfl hr0 rfl dX2_isGoalBehind_43 ?_
      refine Aw.iload 3 rfl rfl dX2_isGoalBehind_46 ?_
      refine Aw.iald (n := 8) (ft_2_5 hr0).1 (ft_2_5 hr0).2 rfl dX2_isGoalBehind_48 (fun hb3 => ?_)
      refine Aw.icmp_eq (q := 52) (t := 54) rfl (by decide) dX2_isGoalBehind_49 (fun hc => ?_) (fun hc => ?_)
      · refine Aw.iinc (v := x5 + 1) (L' := [(5, .int (x5 + 1)), (0, .ref (Gb G + r0)), (3, .ref (Gb G + r3)), (4, .ref (Gb G + r4))]) 3 rfl (ii_1 _) (Nat.le_of_ble_eq_true rfl) rfl rfl dX2_isGoalBehind_54 ?_
        refine Aw.goto (q := 26) (by decide) dX2_isGoalBehind_57 ?_
        refine Aw.sub (L' := [(0, .ref (Gb G + r0)), (3, .ref (Gb G + r3)), (4, .ref (Gb G + r4)), (5, .int (x5 + 1))]) [1, 2, 3, 0] rfl ?_
        exact ih _ _ _ _ _
      · refine Aw.iconst (v := 0) ic_0 rfl dX2_isGoalBehind_52 ?_
        exact Aw.zret rfl rfl dX2_isGoalBehind_53
set_option maxRecDepth 100000 in
set_option maxHeartbeats 4000000 in
theorem ct_X2_isGoalBehind (l : Launch) (G : Gt) (r0 : Nat) (x1 : Int32) (x2 : Int32) (σ : Sg) : Ct l G yX2_isGoalBehind MX2_isGoalBehind rI [.ref (Gb G + r0), .int x1, .int x2] σ (f_X2_isGoalBehind r0 x1 x2 σ) := by
  refine Ct.of (by decide +kernel) rfl (Nat.le_of_ble_eq_true rfl) ?_
  show Aw l G MX2_isGoalBehind rI 0 [(0, .ref (Gb G + r0)), (1, .int x1), (2, .int x2)] [] σ _
  unfold f_X2_isGoalBehind
  refine Aw.gd (fun hr0 => ?_)
  refine Aw.aload_n 0 rfl rfl dX2_isGoalBehind_0 ?_
  refine Aw.getR fl_X2_23 (Nat.le_of_ble_eq_true rfl) rfl hr0 rfl dX2_isGoalBehind_1 ?_
  refine Aw.iload_n 2 rfl rfl dX2_isGoalBehind_4 ?_
  refine Aw.aald (n := 6) (t := 10) (ft_2_3 hr0).1 ⟨Nat.le_of_ble_eq_true rfl, Nat.le_of_ble_eq_true rfl⟩ (ft_2_3 hr0).2 rfl dX2_isGoalBehind_5 (fun hb1 => ?_)
  refine Aw.astore_n (L' := [(3, .ref (Gb G + rf (rf r0 3) (ix x2))), (0, .ref (Gb G + r0)), (1, .int x1), (2, .int x2)]) (Nat.le_of_ble_eq_true rfl) rfl rfl dX2_isGoalBehind_6 ?_
  refine Aw.aload_n 1 rfl rfl dX2_isGoalBehind_7 ?_
  refine Aw.getR fl_X2_11 (Nat.le_of_ble_eq_true rfl) rfl hr0 rfl dX2_isGoalBehind_8 ?_
  refine Aw.iload_n 2 rfl rfl dX2_isGoalBehind_11 ?_
  refine Aw.aald (n := 9) (t := 10) (ft_2_0 hr0).1 ⟨Nat.le_of_ble_eq_true rfl, Nat.le_of_ble_eq_true rfl⟩ (ft_2_0 hr0).2 rfl dX2_isGoalBehind_12 (fun hb2 => ?_)
  refine Aw.astore (L' := [(4, .ref (Gb G + rf (rf r0 0) (ix x1))), (3, .ref (Gb G + rf (rf r0 3) (ix x2))), (0, .ref (Gb G + r0)), (1, .int x1), (2, .int x2)]) (Nat.le_of_ble_eq_true rfl) rfl rfl dX2_isGoalBehind_13 ?_
  refine Aw.aload_n 2 rfl rfl dX2_isGoalBehind_15 ?_
  refine Aw.getI fl_X2_62 (Nat.le_of_ble_eq_true rfl) rfl hr0 rfl dX2_isGoalBehind_16 ?_
  refine Aw.iconst (v := 1) ic_1 rfl dX2_isGoalBehind_19 ?_
  refine Aw.icmp_eq (q := 23) (t := 60) rfl (by decide) dX2_isGoalBehind_20 (fun hc => ?_) (fun hc => ?_)
  · refine Aw.sub (L' := [(0, .ref (Gb G + r0)), (3, .ref (Gb G + rf (rf r0 3) (ix x2))), (4, .ref (Gb G + rf (rf r0 0) (ix x1)))]) [2, 1, 0] rfl ?_
    exact aw_X2_isGoalBehind_60 l G _ _ _ _
  · refine Aw.iconst (v := 0) ic_0 rfl dX2_isGoalBehind_23 ?_
    refine Aw.istore (L' := [(5, .int 0), (4, .ref (Gb G + rf (rf r0 0) (ix x1))), (3, .ref (Gb G + rf (rf r0 3) (ix x2))), (0, .ref (Gb G + r0)), (1, .int x1), (2, .int x2)]) (Nat.le_of_ble_eq_true rfl) rfl rfl dX2_isGoalBehind_24 ?_
    refine Aw.sub (L' := [(0, .ref (Gb G + r0)), (3, .ref (Gb G + rf (rf r0 3) (ix x2))), (4, .ref (Gb G + rf (rf r0 0) (ix x1))), (5, .int 0)]) [3, 2, 1, 0] rfl ?_
    exact aw_X2_isGoalBehind_26 l G FU _ _ _ _ _
abbrev MX2_mayCome : Mt := (RX2, cX2_mayCome, 3, (some .boolean), 1)
def f_X2_mayCome_38  (r0 : Nat) (x1 : Int32) (x2 : Int32) (σ : Sg) : Option (Int32 × Sg) := if kd r0 = 2 then (if inb x2 6 then (if inb x1 8 then (if inb x1 8 then (if (σ (rf r0 4) (ix x2)) &&& (σ (rf r0 1) (ix x1)) = σ (rf r0 1) (ix x1) then (if inb x2 6 then (if inb x1 8 then (if (σ (rf r0 4) (ix x2)) &&& (σ (rf r0 2) (ix x1)) = 0 then (some (1, σ)) else (some (0, σ))) else none) else none) else (some (0, σ))) else none) else none) else none) else none
def f_X2_mayCome (r0 : Nat) (x1 : Int32) (x2 : Int32) (σ : Sg) : Option (Int32 × Sg) := if kd r0 = 2 then (if inb x1 8 then (if σ r0 12 ≤ σ (rf r0 7) (ix x1) then (some (0, σ)) else (if σ r0 13 = 0 then (if x2 ≤ 0 then (f_X2_mayCome_38 r0 x1 x2 σ) else (if inb (x2 - 1) 5 then (if σ (rf r0 6) (ix (x2 - 1)) = x1 then (some (0, σ)) else (f_X2_mayCome_38 r0 x1 x2 σ)) else none)) else (f_X2_mayCome_38 r0 x1 x2 σ))) else none) else none
set_option maxRecDepth 100000 in
set_option maxHeartbeats 4000000 in
theorem aw_X2_mayCome_38 (l : Launch) (G : Gt) (r0 : Nat) (x1 : Int32) (x2 : Int32) (σ : Sg) : Aw l G MX2_mayCome rI 38 [(0, .ref (Gb G + r0)), (1, .int x1), (2, .int x2)] [] σ (f_X2_mayCome_38 r0 x1 x2 σ) := by
  unfold f_X2_mayCome_38
  refine Aw.gd (fun hr0 => ?_)
  refine Aw.aload_n 0 rfl rfl dX2_mayCome_38 ?_
  refine Aw.getR fl_X2_26 (Nat.le_of_ble_eq_true rfl) rfl hr0 rfl dX2_mayCome_39 ?_
  refine Aw.iload_n 2 rfl rfl dX2_mayCome_42 ?_
  refine Aw.iald (n := 6) (ft_2_4 hr0).1 (ft_2_4 hr0).2 rfl dX2_mayCome_43 (fun hb1 => ?_)
  refine Aw.aload_n 0 rfl rfl dX2_mayCome_44 ?_
  refine Aw.getR fl_X2_16 (Nat.le_of_ble_eq_true rfl) rfl hr0 rfl dX2_mayCome_45 ?_
  refine Aw.iload_n 1 rfl rfl dX2_mayCome_48 ?_
  refine Aw.iald (n := 8) (ft_2_1 hr0).1 (ft_2_1 hr0).2 rfl dX2_mayCome_49 (fun hb2 => ?_)
  refine Aw.iand rfl dX2_mayCome_50 ?_
  refine Aw.aload_n 0 rfl rfl dX2_mayCome_51 ?_
  refine Aw.getR fl_X2_16 (Nat.le_of_ble_eq_true rfl) rfl hr0 rfl dX2_mayCome_52 ?_
  refine Aw.iload_n 1 rfl rfl dX2_mayCome_55 ?_
  refine Aw.iald (n := 8) (ft_2_1 hr0).1 (ft_2_1 hr0).2 rfl dX2_mayCome_56 (fun hb3 => ?_)
  refine Aw.icmp_ne (q := 60) (t := 80) rfl (by decide) dX2_mayCome_57 (fun hc => ?_) (fun hc => ?_)
  · refine Aw.aload_n 0 rfl rfl dX2_mayCome_60 ?_
    refine Aw.getR fl_X2_26 (Nat.le_of_ble_eq_true rfl) rfl hr0 rfl dX2_mayCome_61 ?_
    refine Aw.iload_n 2 rfl rfl dX2_mayCome_64 ?_
    refine Aw.iald (n := 6) (ft_2_4 hr0).1 (ft_2_4 hr0).2 rfl dX2_mayCome_65 (fun hb4 => ?_)
    refine Aw.aload_n 0 rfl rfl dX2_mayCome_66 ?_
    refine Aw.getR fl_X2_20 (Nat.le_of_ble_eq_true rfl) rfl hr0 rfl dX2_mayCome_67 ?_
    refine Aw.iload_n 1 rfl rfl dX2_mayCome_70 ?_
    refine Aw.iald (n := 8) (ft_2_2 hr0).1 (ft_2_2 hr0).2 rfl dX2_mayCome_71 (fun hb5 => ?_)
    refine Aw.iand rfl dX2_mayCome_72 ?_
    refine Aw.if_ne (q := 76) (t := 80) rfl (by decide) dX2_mayCome_73 (fun hc => ?_) (fun hc => ?_)
    · refine Aw.iconst (v := 1) ic_1 rfl dX2_mayCome_76 ?_
      refine Aw.goto (q := 81) (by decide) dX2_mayCome_77 ?_
      exact Aw.zret rfl rfl dX2_mayCome_81
    · refine Aw.iconst (v := 0) ic_0 rfl dX2_mayCome_80 ?_
      exact Aw.zret rfl rfl dX2_mayCome_81
  · refine Aw.iconst (v := 0) ic_0 rfl dX2_mayCome_80 ?_
    exact Aw.zret rfl rfl dX2_mayCome_81
set_option maxRecDepth 100000 in
set_option maxHeartbeats 4000000 in
theorem ct_X2_mayCome (l : Launch) (G : Gt) (r0 : Nat) (x1 : Int32) (x2 : Int32) (σ : Sg) : Ct l G yX2_mayCome MX2_mayCome rI [.ref (Gb G + r0), .int x1, .int x2] σ (f_X2_mayCome r0 x1 x2 σ) := by
  refine Ct.of (by decide +kernel) rfl (Nat.le_of_ble_eq_true rfl) ?_
  show Aw l G MX2_mayCome rI 0 [(0, .ref (Gb G + r0)), (1, .int x1), (2, .int x2)] [] σ _
  unfold f_X2_mayCome
  refine Aw.gd (fun hr0 => ?_)
  refine Aw.aload_n 0 rfl rfl dX2_mayCome_0 ?_
  refine Aw.getR fl_X2_35 (Nat.le_of_ble_eq_true rfl) rfl hr0 rfl dX2_mayCome_1 ?_
  refine Aw.iload_n 1 rfl rfl dX2_mayCome_4 ?_
  refine Aw.iald (n := 8) (ft_2_7 hr0).1 (ft_2_7 hr0).2 rfl dX2_mayCome_5 (fun hb1 => ?_)
  refine Aw.aload_n 0 rfl rfl dX2_mayCome_6 ?_
  refine Aw.getI fl_X2_42 (Nat.le_of_ble_eq_true rfl) rfl hr0 rfl dX2_mayCome_7 ?_
  refine Aw.icmp_ge (q := 13) (t := 36) rfl (by decide) dX2_mayCome_10 (fun hc => ?_) (fun hc => ?_)
  · refine Aw.iconst (v := 0) ic_0 rfl dX2_mayCome_36 ?_
    exact Aw.zret rfl rfl dX2_mayCome_37
  · refine Aw.aload_n 0 rfl rfl dX2_mayCome_13 ?_
    refine Aw.getI fl_X2_46 (Nat.le_of_ble_eq_true rfl) rfl hr0 rfl dX2_mayCome_14 ?_
    refine Aw.if_ne (q := 20) (t := 38) rfl (by decide) dX2_mayCome_17 (fun hc => ?_) (fun hc => ?_)
    · refine Aw.iload_n 2 rfl rfl dX2_mayCome_20 ?_
      refine Aw.if_le (q := 24) (t := 38) rfl (by decide) dX2_mayCome_21 (fun hc => ?_) (fun hc => ?_)
      · refine Aw.sub (L' := [(0, .ref (Gb G + r0)), (1, .int x1), (2, .int x2)]) [0, 1, 2] rfl ?_
        exact aw_X2_mayCome_38 l G _ _ _ _
      · refine Aw.aload_n 0 rfl rfl dX2_mayCome_24 ?_
        refine Aw.getR fl_X2_32 (Nat.le_of_ble_eq_true rfl) rfl hr0 rfl dX2_mayCome_25 ?_
        refine Aw.iload_n 2 rfl rfl dX2_mayCome_28 ?_
        refine Aw.iconst (v := 1) ic_1 rfl dX2_mayCome_29 ?_
        refine Aw.isub rfl dX2_mayCome_30 ?_
        refine Aw.iald (n := 5) (ft_2_6 hr0).1 (ft_2_6 hr0).2 rfl dX2_mayCome_31 (fun hb2 => ?_)
        refine Aw.iload_n 1 rfl rfl dX2_mayCome_32 ?_
        refine Aw.icmp_ne (q := 36) (t := 38) rfl (by decide) dX2_mayCome_33 (fun hc => ?_) (fun hc => ?_)
        · refine Aw.iconst (v := 0) ic_0 rfl dX2_mayCome_36 ?_
          exact Aw.zret rfl rfl dX2_mayCome_37
        · refine Aw.sub (L' := [(0, .ref (Gb G + r0)), (1, .int x1), (2, .int x2)]) [0, 1, 2] rfl ?_
          exact aw_X2_mayCome_38 l G _ _ _ _
    · refine Aw.sub (L' := [(0, .ref (Gb G + r0)), (1, .int x1), (2, .int x2)]) [0, 1, 2] rfl ?_
      exact aw_X2_mayCome_38 l G _ _ _ _
abbrev MX2_step : Mt := (RX2, cX2_step, 6, none, 2)
def f_X2_step_20  : Nat → Nat → Int32 → Int32 → Nat → Nat → Int32 → Sg → Option (Unit × Sg)
  | 0, _, _, _, _, _, _, _ => none
  | n + 1, r0, x1, x2, r3, r4, x5, σ => if kd r0 = 2 then (if kd r3 = 7 then (if kd r4 = 7 then (if σ r0 8 ≤ x5 then (cb (f_X5_heldSpots r4 (σ r0 8) σ) (fun a1 τ2 => if inb (x2 + 1) 6 then (bn (up τ2 (rf r0 4) (ix (x2 + 1)) a1) (fun τ4 => some ((), τ4))) else none)) else (if inb x1 9 then (if inb x5 (ln r3) then (if inb (σ r3 (ix x5)) 48 then (if inb x5 (ln r4) then (bn (up σ r4 (ix x5) (σ (rf (rf r0 0) (ix x1)) (ix (σ r3 (ix x5))))) (fun τ9 => f_X2_step_20 n r0 x1 x2 r3 r4 (x5 + 1) τ9)) else none) else none) else none) else none)) else none) else none) else none
def f_X2_step (r0 : Nat) (x1 : Int32) (x2 : Int32) (σ : Sg) : Option (Unit × Sg) := if kd r0 = 2 then (if inb x2 6 then (if inb (x2 + 1) 6 then (f_X2_step_20 FU r0 x1 x2 (rf (rf r0 3) (ix x2)) (rf (rf r0 3) (ix (x2 + 1))) 0 σ) else none) else none) else none
theorem cn_X2_85 : CN RX2 85 yX5_heldSpots RX5 MX5_heldSpots 2 := ⟨by decide +kernel, sta_X5_heldSpots, ini_X5, cw_X5_heldSpots, ⟨by decide, by decide, by decide +kernel⟩⟩
set_option maxRecDepth 100000 in
set_option maxHeartbeats 4000000 in
theorem aw_X2_step_20 (l : Launch) (G : Gt) : ∀ (n : Nat) (r0 : Nat) (x1 : Int32) (x2 : Int32) (r3 : Nat) (r4 : Nat) (x5 : Int32) (σ : Sg), Aw l G MX2_step rV 20 [(0, .ref (Gb G + r0)), (1, .int x1), (2, .int x2), (3, .ref (Gb G + r3)), (4, .ref (Gb G + r4)), (5, .int x5)] [] σ (f_X2_step_20 n r0 x1 x2 r3 r4 x5 σ) := by
  intro n
  induction n with
  | zero => intro r0 x1 x2 r3 r4 x5 σ; exact Aw.no
  | succ n ih =>
    intro r0 x1 x2 r3 r4 x5 σ
    rw [f_X2_step_20]
    refine Aw.gd (fun hr0 => ?_)
    refine Aw.gd (fun hr3 => ?_)
    refine Aw.gd (fun hr4 => ?_)
    refine Aw.iload 5 rfl rfl dX2_step_20 ?_
    refine Aw.aload_n 0 rfl rfl dX2_step_22 ?_
    refine Aw.getI fl_X2_70 (Nat.le_of_ble_eq_true rfl) rfl hr0 rfl dX2_step_23 ?_
    refine Aw.icmp_ge (q := 29) (t := 51) rfl (by decide) dX2_step_26 (fun hc => ?_) (fun hc => ?_)
    · refine Aw.aload_n 0 rfl rfl dX2_step_51 ?_
      refine Aw.getR fl_X2_26 (Nat.le_of_ble_eq_true rfl) rfl hr0 rfl dX2_step_52 ?_
      refine Aw.iload_n 2 rfl rfl dX2_step_55 ?_
      refine Aw.iconst (v := 1) ic_1 rfl dX2_step_56 ?_
      refine Aw.iadd rfl dX2_step_57 ?_
      refine Aw.aload 4 rfl rfl dX2_step_58 ?_
      refine Aw.aload_n 0 rfl rfl dX2_step_60 ?_
      refine Aw.getI fl_X2_70 (Nat.le_of_ble_eq_true rfl) rfl hr0 rfl dX2_step_61 ?_
      refine Aw.callNi (As := [.ref (Gb G + r4), .int (σ r0 8)]) (rest := [.int (x2 + 1), .ref (Gb G + rf r0 4)]) cn_X2_85 (ct_X5_heldSpots l G r4 (σ r0 8) σ) rfl rfl (Nat.le_of_ble_eq_true rfl) (Nat.le_of_ble_eq_true rfl) (Nat.le_of_ble_eq_true rfl) rfl dX2_step_64 (fun a1 τ2 _ => ?_)
      refine Aw.iast (n := 6) (ft_2_4 hr0).1 (ft_2_4 hr0).2 rfl dX2_step_67 (fun hb3 => ?_)
      refine Aw.bs (fun τ4 => ?_)
      exact Aw.vret rfl dX2_step_68
    · refine Aw.aload 4 rfl rfl dX2_step_29 ?_
      refine Aw.iload 5 rfl rfl dX2_step_31 ?_
      refine Aw.aload_n 0 rfl rfl dX2_step_33 ?_
      refine Aw.getR fl_X2_11 (Nat.le_of_ble_eq_true rfl) rfl hr0 rfl dX2_step_34 ?_
      refine Aw.iload_n 1 rfl rfl dX2_step_37 ?_
      refine Aw.aald (n := 9) (t := 10) (ft_2_0 hr0).1 ⟨Nat.le_of_ble_eq_true rfl, Nat.le_of_ble_eq_true rfl⟩ (ft_2_0 hr0).2 rfl dX2_step_38 (fun hb5 => ?_)
      refine Aw.aload_n 3 rfl rfl dX2_step_39 ?_
      refine Aw.iload 5 rfl rfl dX2_step_40 ?_
      refine Aw.iald (n := ln r3) hr3 rfl rfl dX2_step_42 (fun hb6 => ?_)
      refine Aw.iald (n := 48) (el_2_0 hr0 (inb_ix hb5)).1 (el_2_0 hr0 (inb_ix hb5)).2 rfl dX2_step_43 (fun hb7 => ?_)
      refine Aw.iast (n := ln r4) hr4 rfl rfl dX2_step_44 (fun hb8 => ?_)
      refine Aw.bs (fun τ9 => ?_)
      refine Aw.iinc (v := x5 + 1) (L' := [(5, .int (x5 + 1)), (0, .ref (Gb G + r0)), (1, .int x1), (2, .int x2), (3, .ref (Gb G + r3)), (4, .ref (Gb G + r4))]) 5 rfl (ii_1 _) (Nat.le_of_ble_eq_true rfl) rfl rfl dX2_step_45 ?_
      refine Aw.goto (q := 20) (by decide) dX2_step_48 ?_
      refine Aw.sub (L' := [(0, .ref (Gb G + r0)), (1, .int x1), (2, .int x2), (3, .ref (Gb G + r3)), (4, .ref (Gb G + r4)), (5, .int (x5 + 1))]) [1, 2, 3, 4, 5, 0] rfl ?_
      exact ih _ _ _ _ _ _ _
set_option maxRecDepth 100000 in
set_option maxHeartbeats 4000000 in
theorem ct_X2_step (l : Launch) (G : Gt) (r0 : Nat) (x1 : Int32) (x2 : Int32) (σ : Sg) : Ct l G yX2_step MX2_step rV [.ref (Gb G + r0), .int x1, .int x2] σ (f_X2_step r0 x1 x2 σ) := by
  refine Ct.of (by decide +kernel) rfl (Nat.le_of_ble_eq_true rfl) ?_
  show Aw l G MX2_step rV 0 [(0, .ref (Gb G + r0)), (1, .int x1), (2, .int x2)] [] σ _
  unfold f_X2_step
  refine Aw.gd (fun hr0 => ?_)
  refine Aw.aload_n 0 rfl rfl dX2_step_0 ?_
  refine Aw.getR fl_X2_23 (Nat.le_of_ble_eq_true rfl) rfl hr0 rfl dX2_step_1 ?_
  refine Aw.iload_n 2 rfl rfl dX2_step_4 ?_
  refine Aw.aald (n := 6) (t := 10) (ft_2_3 hr0).1 ⟨Nat.le_of_ble_eq_true rfl, Nat.le_of_ble_eq_true rfl⟩ (ft_2_3 hr0).2 rfl dX2_step_5 (fun hb1 => ?_)
  refine Aw.astore_n (L' := [(3, .ref (Gb G + rf (rf r0 3) (ix x2))), (0, .ref (Gb G + r0)), (1, .int x1), (2, .int x2)]) (Nat.le_of_ble_eq_true rfl) rfl rfl dX2_step_6 ?_
  refine Aw.aload_n 1 rfl rfl dX2_step_7 ?_
  refine Aw.getR fl_X2_23 (Nat.le_of_ble_eq_true rfl) rfl hr0 rfl dX2_step_8 ?_
  refine Aw.iload_n 3 rfl rfl dX2_step_11 ?_
  refine Aw.iconst (v := 1) ic_1 rfl dX2_step_12 ?_
  refine Aw.iadd rfl dX2_step_13 ?_
  refine Aw.aald (n := 6) (t := 10) (ft_2_3 hr0).1 ⟨Nat.le_of_ble_eq_true rfl, Nat.le_of_ble_eq_true rfl⟩ (ft_2_3 hr0).2 rfl dX2_step_14 (fun hb2 => ?_)
  refine Aw.astore (L' := [(4, .ref (Gb G + rf (rf r0 3) (ix (x2 + 1)))), (3, .ref (Gb G + rf (rf r0 3) (ix x2))), (0, .ref (Gb G + r0)), (1, .int x1), (2, .int x2)]) (Nat.le_of_ble_eq_true rfl) rfl rfl dX2_step_15 ?_
  refine Aw.iconst (v := 0) ic_0 rfl dX2_step_17 ?_
  refine Aw.istore (L' := [(5, .int 0), (4, .ref (Gb G + rf (rf r0 3) (ix (x2 + 1)))), (3, .ref (Gb G + rf (rf r0 3) (ix x2))), (0, .ref (Gb G + r0)), (1, .int x1), (2, .int x2)]) (Nat.le_of_ble_eq_true rfl) rfl rfl dX2_step_18 ?_
  refine Aw.sub (L' := [(0, .ref (Gb G + r0)), (1, .int x1), (2, .int x2), (3, .ref (Gb G + rf (rf r0 3) (ix x2))), (4, .ref (Gb G + rf (rf r0 3) (ix (x2 + 1)))), (5, .int 0)]) [3, 4, 5, 2, 1, 0] rfl ?_
  exact aw_X2_step_20 l G FU _ _ _ _ _ _ _
abbrev MX2_walk (d : Nat) : Mt := (RX2, cX2_walk, 4, (some .int), 3 + d)
def f_X2_walk_113 (self : Nat → Int32 → Sg → Option (Int32 × Sg)) (rc4 : Nat → Int32 → Int32 → Int32 → Sg → Option (Int32 × Sg)) (r0 : Nat) (x1 : Int32) (x2 : Int32) (x3 : Int32) (σ : Sg) : Option (Int32 × Sg) := if kd r0 = 2 then (rc4 r0 x1 x2 (x3 + 1) σ) else none
def f_X2_walk_72 (self : Nat → Int32 → Sg → Option (Int32 × Sg)) (rc4 : Nat → Int32 → Int32 → Int32 → Sg → Option (Int32 × Sg)) (r0 : Nat) (x1 : Int32) (x3 : Int32) (s0 : Int32) (s1 : Int32) (σ : Sg) : Option (Int32 × Sg) := if kd r0 = 2 then (bn (s0 + s1) (fun b1 => f_X2_walk_113 self rc4 r0 x1 b1 x3 σ)) else none
def f_X2_walk_4 (self : Nat → Int32 → Sg → Option (Int32 × Sg))  : Nat → Nat → Int32 → Int32 → Int32 → Sg → Option (Int32 × Sg)
  | 0, _, _, _, _, _ => none
  | n + 1, r0, x1, x2, x3, σ => if kd r0 = 2 then (if σ r0 11 ≤ x1 then (some (x2, σ)) else (if σ r0 9 ≤ x3 then (some (x2, σ)) else (if σ r0 14 ≤ x2 then (some (x2, σ)) else (cb (f_X2_mayCome r0 x3 x1 σ) (fun a1 τ2 => if a1 = 0 then (f_X2_walk_113 self (f_X2_walk_4 self n) r0 x1 x2 x3 τ2) else (if inb x1 5 then (bn (up τ2 (rf r0 6) (ix x1) x3) (fun τ4 => if x1 + 1 = τ4 r0 11 then (cb (f_X2_isGoalBehind r0 x3 x1 τ4) (fun a16 τ17 => if a16 = 0 then (f_X2_walk_72 self (f_X2_walk_4 self n) r0 x1 x3 x2 0 τ17) else (f_X2_walk_72 self (f_X2_walk_4 self n) r0 x1 x3 x2 1 τ17))) else (cb (f_X2_step r0 x3 x1 τ4) (fun _ τ6 => if inb x3 8 then (if inb x3 8 then (bn (up τ6 (rf r0 7) (ix x3) ((τ6 (rf r0 7) (ix x3)) + 1)) (fun τ9 => cb (self r0 (x1 + 1) τ9) (fun a10 τ11 => bn (x2 + a10) (fun b12 => if inb x3 8 then (if inb x3 8 then (bn (up τ11 (rf r0 7) (ix x3) ((τ11 (rf r0 7) (ix x3)) - 1)) (fun τ15 => f_X2_walk_113 self (f_X2_walk_4 self n) r0 x1 b12 x3 τ15)) else none) else none)))) else none) else none)))) else none)))))) else none
def f_X2_walk : Nat → Nat → Int32 → Sg → Option (Int32 × Sg)
  | 0, _, _, _ => none
  | d + 1, r0, x1, σ => if kd r0 = 2 then (f_X2_walk_4 (f_X2_walk d) FU r0 x1 0 0 σ) else none
theorem cv_X2_110 : CV RX2 110 2 yX2_isGoalBehind MX2_isGoalBehind 2 := ⟨_, rfl, rfl, ml_X2_110, ins_X2_isGoalBehind, sel_X2_isGoalBehind, ini_X2, cw_X2_isGoalBehind, ⟨by decide, by decide, by decide +kernel⟩⟩
theorem cs_X2_113 (d : Nat) : CS RX2 113 yX2_walk (MX2_walk d) 2 := ⟨ml_X2_113, sta_X2_walk, ini_X2, cw_X2_walk, ⟨by decide, by decide, by decide +kernel⟩⟩
theorem cv_X2_117 : CV RX2 117 2 yX2_mayCome MX2_mayCome 2 := ⟨_, rfl, rfl, ml_X2_117, ins_X2_mayCome, sel_X2_mayCome, ini_X2, cw_X2_mayCome, ⟨by decide, by decide, by decide +kernel⟩⟩
theorem cv_X2_120 : CV RX2 120 2 yX2_step MX2_step 2 := ⟨_, rfl, rfl, ml_X2_120, ins_X2_step, sel_X2_step, ini_X2, cw_X2_step, ⟨by decide, by decide, by decide +kernel⟩⟩
set_option maxRecDepth 100000 in
set_option maxHeartbeats 4000000 in
theorem aw_X2_walk_113 (l : Launch) (G : Gt) (d : Nat) (self : Nat → Int32 → Sg → Option (Int32 × Sg)) (hself : ∀ (p0 : Nat) (p1 : Int32) (σ : Sg), Ct l G yX2_walk (MX2_walk d) rI [.ref (Gb G + p0), .int p1] σ (self p0 p1 σ)) (rc4 : Nat → Int32 → Int32 → Int32 → Sg → Option (Int32 × Sg)) (hrc4 : ∀ (r0 : Nat) (x1 : Int32) (x2 : Int32) (x3 : Int32) (σ : Sg), Aw l G (MX2_walk (d + 1)) rI 4 [(0, .ref (Gb G + r0)), (1, .int x1), (2, .int x2), (3, .int x3)] [] σ (rc4 r0 x1 x2 x3 σ)) (r0 : Nat) (x1 : Int32) (x2 : Int32) (x3 : Int32) (σ : Sg) : Aw l G (MX2_walk (d + 1)) rI 113 [(0, .ref (Gb G + r0)), (1, .int x1), (2, .int x2), (3, .int x3)] [] σ (f_X2_walk_113 self rc4 r0 x1 x2 x3 σ) := by
  unfold f_X2_walk_113
  refine Aw.gd (fun hr0 => ?_)
  refine Aw.iinc (v := x3 + 1) (L' := [(3, .int (x3 + 1)), (0, .ref (Gb G + r0)), (1, .int x1), (2, .int x2)]) 3 rfl (ii_1 _) (Nat.le_of_ble_eq_true rfl) rfl rfl dX2_walk_113 ?_
  refine Aw.goto (q := 4) (by decide) dX2_walk_116 ?_
  refine Aw.sub (L' := [(0, .ref (Gb G + r0)), (1, .int x1), (2, .int x2), (3, .int (x3 + 1))]) [1, 2, 3, 0] rfl ?_
  exact hrc4 _ _ _ _ _
set_option maxRecDepth 100000 in
set_option maxHeartbeats 4000000 in
theorem aw_X2_walk_72 (l : Launch) (G : Gt) (d : Nat) (self : Nat → Int32 → Sg → Option (Int32 × Sg)) (hself : ∀ (p0 : Nat) (p1 : Int32) (σ : Sg), Ct l G yX2_walk (MX2_walk d) rI [.ref (Gb G + p0), .int p1] σ (self p0 p1 σ)) (rc4 : Nat → Int32 → Int32 → Int32 → Sg → Option (Int32 × Sg)) (hrc4 : ∀ (r0 : Nat) (x1 : Int32) (x2 : Int32) (x3 : Int32) (σ : Sg), Aw l G (MX2_walk (d + 1)) rI 4 [(0, .ref (Gb G + r0)), (1, .int x1), (2, .int x2), (3, .int x3)] [] σ (rc4 r0 x1 x2 x3 σ)) (r0 : Nat) (x1 : Int32) (x3 : Int32) (s0 : Int32) (s1 : Int32) (σ : Sg) : Aw l G (MX2_walk (d + 1)) rI 72 [(0, .ref (Gb G + r0)), (1, .int x1), (3, .int x3)] [.int s1, .int s0] σ (f_X2_walk_72 self rc4 r0 x1 x3 s0 s1 σ) := by
  unfold f_X2_walk_72
  refine Aw.gd (fun hr0 => ?_)
  refine Aw.iadd rfl dX2_walk_72 ?_
  refine Aw.bi (fun b1 => ?_)
  refine Aw.istore_n (L' := [(2, .int b1), (0, .ref (Gb G + r0)), (1, .int x1), (3, .int x3)]) (Nat.le_of_ble_eq_true rfl) rfl rfl dX2_walk_73 ?_
  refine Aw.goto (q := 113) (by decide) dX2_walk_74 ?_
  refine Aw.sub (L' := [(0, .ref (Gb G + r0)), (1, .int x1), (2, .int b1), (3, .int x3)]) [1, 2, 0, 3] rfl ?_
  exact aw_X2_walk_113 l G d self hself _ hrc4 _ _ _ _ _
set_option maxRecDepth 100000 in
set_option maxHeartbeats 4000000 in
theorem aw_X2_walk_4 (l : Launch) (G : Gt) (d : Nat) (self : Nat → Int32 → Sg → Option (Int32 × Sg)) (hself : ∀ (p0 : Nat) (p1 : Int32) (σ : Sg), Ct l G yX2_walk (MX2_walk d) rI [.ref (Gb G + p0), .int p1] σ (self p0 p1 σ)) : ∀ (n : Nat) (r0 : Nat) (x1 : Int32) (x2 : Int32) (x3 : Int32) (σ : Sg), Aw l G (MX2_walk (d + 1)) rI 4 [(0, .ref (Gb G + r0)), (1, .int x1), (2, .int x2), (3, .int x3)] [] σ (f_X2_walk_4 self n r0 x1 x2 x3 σ) := by
  intro n
  induction n with
  | zero => intro r0 x1 x2 x3 σ; exact Aw.no
  | succ n ih =>
    intro r0 x1 x2 x3 σ
    rw [f_X2_walk_4]
    refine Aw.gd (fun hr0 => ?_)
    refine Aw.iload_n 1 rfl rfl dX2_walk_4 ?_
    refine Aw.aload_n 0 rfl rfl dX2_walk_5 ?_
    refine Aw.getI fl_X2_107 (Nat.le_of_ble_eq_true rfl) rfl hr0 rfl dX2_walk_6 ?_
    refine Aw.icmp_ge (q := 12) (t := 119) rfl (by decide) dX2_walk_9 (fun hc => ?_) (fun hc => ?_)
    · refine Aw.iload_n 2 rfl rfl dX2_walk_119 ?_
      exact Aw.iret rfl dX2_walk_120
    · refine Aw.iload_n 3 rfl rfl dX2_walk_12 ?_
      refine Aw.aload_n 0 rfl rfl dX2_walk_13 ?_
      refine Aw.getI fl_X2_74 (Nat.le_of_ble_eq_true rfl) rfl hr0 rfl dX2_walk_14 ?_
      refine Aw.icmp_ge (q := 20) (t := 119) rfl (by decide) dX2_walk_17 (fun hc => ?_) (fun hc => ?_)
      · refine Aw.iload_n 2 rfl rfl dX2_walk_119 ?_
        exact Aw.iret rfl dX2_walk_120
      · refine Aw.iload_n 2 rfl rfl dX2_walk_20 ?_
        refine Aw.aload_n 0 rfl rfl dX2_walk_21 ?_
        refine Aw.getI fl_X2_50 (Nat.le_of_ble_eq_true rfl) rfl hr0 rfl dX2_walk_22 ?_
        refine Aw.icmp_ge (q := 28) (t := 119) rfl (by decide) dX2_walk_25 (fun hc => ?_) (fun hc => ?_)
        · refine Aw.iload_n 2 rfl rfl dX2_walk_119 ?_
          exact Aw.iret rfl dX2_walk_120
        · refine Aw.aload_n 0 rfl rfl dX2_walk_28 ?_
          refine Aw.iload_n 3 rfl rfl dX2_walk_29 ?_
          refine Aw.iload_n 1 rfl rfl dX2_walk_30 ?_
          refine Aw.callVi (As := [.int x3, .int x1]) (rest := []) cv_X2_117 (Nat.le_of_ble_eq_true rfl) hr0 (ct_X2_mayCome l G r0 x3 x1 σ) rfl rfl (Nat.le_of_ble_eq_true rfl) (by show 1 + 1 ≤ 3 + (d + 1); omega) (Nat.le_of_ble_eq_true rfl) rfl dX2_walk_31 (fun a1 τ2 _ => ?_)
          refine Aw.if_ne (q := 37) (t := 40) rfl (by decide) dX2_walk_34 (fun hc => ?_) (fun hc => ?_)
          · refine Aw.goto (q := 113) (by decide) dX2_walk_37 ?_
            refine Aw.sub (L' := [(0, .ref (Gb G + r0)), (1, .int x1), (2, .int x2), (3, .int x3)]) [0, 1, 2, 3] rfl ?_
            exact aw_X2_walk_113 l G d self hself _ ih _ _ _ _ _
          · refine Aw.aload_n 0 rfl rfl dX2_walk_40 ?_
            refine Aw.getR fl_X2_32 (Nat.le_of_ble_eq_true rfl) rfl hr0 rfl dX2_walk_41 ?_
            refine Aw.iload_n 1 rfl rfl dX2_walk_44 ?_
            refine Aw.iload_n 3 rfl rfl dX2_walk_45 ?_
            refine Aw.iast (n := 5) (ft_2_6 hr0).1 (ft_2_6 hr0).2 rfl dX2_walk_46 (fun hb3 => ?_)
            refine Aw.bs (fun τ4 => ?_)
            refine Aw.iload_n 1 rfl rfl dX2_walk_47 ?_
            refine Aw.iconst (v := 1) ic_1 rfl dX2_walk_48 ?_
            refine Aw.iadd rfl dX2_walk_49 ?_
            refine Aw.aload_n 0 rfl rfl dX2_walk_50 ?_
            refine Aw.getI fl_X2_107 (Nat.le_of_ble_eq_true rfl) rfl hr0 rfl dX2_walk_51 ?_
            refine Aw.icmp_ne (q := 57) (t := 77) rfl (by decide) dX2_walk_54 (fun hc => ?_) (fun hc => ?_)
            · refine Aw.iload_n 2 rfl rfl dX2_walk_57 ?_
              refine Aw.aload_n 0 rfl rfl dX2_walk_58 ?_
              refine Aw.iload_n 3 rfl rfl dX2_walk_59 ?_
              refine Aw.iload_n 1 rfl rfl dX2_walk_60 ?_
              refine Aw.callVi (As := [.int x3, .int x1]) (rest := [.int x2]) cv_X2_110 (Nat.le_of_ble_eq_true rfl) hr0 (ct_X2_isGoalBehind l G r0 x3 x1 τ4) rfl rfl (Nat.le_of_ble_eq_true rfl) (by show 2 + 1 ≤ 3 + (d + 1); omega) (Nat.le_of_ble_eq_true rfl) rfl dX2_walk_61 (fun a16 τ17 _ => ?_)
              refine Aw.if_eq (q := 67) (t := 71) rfl (by decide) dX2_walk_64 (fun hc => ?_) (fun hc => ?_)
              · refine Aw.iconst (v := 0) ic_0 rfl dX2_walk_71 ?_
                refine Aw.sub (L' := [(0, .ref (Gb G + r0)), (1, .int x1), (3, .int x3)]) [0, 1, 3] rfl ?_
                exact aw_X2_walk_72 l G d self hself _ ih _ _ _ _ _ _
              · refine Aw.iconst (v := 1) ic_1 rfl dX2_walk_67 ?_
                refine Aw.goto (q := 72) (by decide) dX2_walk_68 ?_
                refine Aw.sub (L' := [(0, .ref (Gb G + r0)), (1, .int x1), (3, .int x3)]) [0, 1, 3] rfl ?_
                exact aw_X2_walk_72 l G d self hself _ ih _ _ _ _ _ _
            · refine Aw.aload_n 0 rfl rfl dX2_walk_77 ?_
              refine Aw.iload_n 3 rfl rfl dX2_walk_78 ?_
              refine Aw.iload_n 1 rfl rfl dX2_walk_79 ?_
              refine Aw.callVv (As := [.int x3, .int x1]) (rest := []) cv_X2_120 (Nat.le_of_ble_eq_true rfl) hr0 (ct_X2_step l G r0 x3 x1 τ4) rfl rfl (Nat.le_of_ble_eq_true rfl) (by show 2 + 1 ≤ 3 + (d + 1); omega) (Nat.le_of_ble_eq_true rfl) rfl dX2_walk_80 (fun a5 τ6 _ => ?_)
              refine Aw.aload_n 0 rfl rfl dX2_walk_83 ?_
              refine Aw.getR fl_X2_35 (Nat.le_of_ble_eq_true rfl) rfl hr0 rfl dX2_walk_84 ?_
              refine Aw.iload_n 3 rfl rfl dX2_walk_87 ?_
              refine Aw.dup2 rfl dX2_walk_88 ?_
              refine Aw.iald (n := 8) (ft_2_7 hr0).1 (ft_2_7 hr0).2 rfl dX2_walk_89 (fun hb7 => ?_)
              refine Aw.iconst (v := 1) ic_1 rfl dX2_walk_90 ?_
              refine Aw.iadd rfl dX2_walk_91 ?_
              refine Aw.iast (n := 8) (ft_2_7 hr0).1 (ft_2_7 hr0).2 rfl dX2_walk_92 (fun hb8 => ?_)
              refine Aw.bs (fun τ9 => ?_)
              refine Aw.iload_n 2 rfl rfl dX2_walk_93 ?_
              refine Aw.aload_n 0 rfl rfl dX2_walk_94 ?_
              refine Aw.iload_n 1 rfl rfl dX2_walk_95 ?_
              refine Aw.iconst (v := 1) ic_1 rfl dX2_walk_96 ?_
              refine Aw.iadd rfl dX2_walk_97 ?_
              refine Aw.callSi (As := [.ref (Gb G + r0), .int (x1 + 1)]) (rest := [.int x2]) (cs_X2_113 d) (hself r0 (x1 + 1) τ9) rfl rfl (Nat.le_of_ble_eq_true rfl) (Nat.le_refl _) (Nat.le_of_ble_eq_true rfl) rfl dX2_walk_98 (fun a10 τ11 _ => ?_)
              refine Aw.iadd rfl dX2_walk_101 ?_
              refine Aw.bi (fun b12 => ?_)
              refine Aw.istore_n (L' := [(2, .int b12), (0, .ref (Gb G + r0)), (1, .int x1), (3, .int x3)]) (Nat.le_of_ble_eq_true rfl) rfl rfl dX2_walk_102 ?_
              refine Aw.aload_n 1 rfl rfl dX2_walk_103 ?_
              refine Aw.getR fl_X2_35 (Nat.le_of_ble_eq_true rfl) rfl hr0 rfl dX2_walk_104 ?_
              refine Aw.iload_n 3 rfl rfl dX2_walk_107 ?_
              refine Aw.dup2 rfl dX2_walk_108 ?_
              refine Aw.iald (n := 8) (ft_2_7 hr0).1 (ft_2_7 hr0).2 rfl dX2_walk_109 (fun hb13 => ?_)
              refine Aw.iconst (v := 1) ic_1 rfl dX2_walk_110 ?_
              refine Aw.isub rfl dX2_walk_111 ?_
              refine Aw.iast (n := 8) (ft_2_7 hr0).1 (ft_2_7 hr0).2 rfl dX2_walk_112 (fun hb14 => ?_)
              refine Aw.bs (fun τ15 => ?_)
              refine Aw.sub (L' := [(0, .ref (Gb G + r0)), (1, .int x1), (2, .int b12), (3, .int x3)]) [1, 2, 0, 3] rfl ?_
              exact aw_X2_walk_113 l G d self hself _ ih _ _ _ _ _
set_option maxRecDepth 100000 in
set_option maxHeartbeats 4000000 in
theorem ct_X2_walk (l : Launch) (G : Gt) : ∀ (d : Nat) (r0 : Nat) (x1 : Int32) (σ : Sg), Ct l G yX2_walk (MX2_walk d) rI [.ref (Gb G + r0), .int x1] σ (f_X2_walk d r0 x1 σ) := by
  intro d
  induction d with
  | zero => intro r0 x1 σ a τ h; cases h
  | succ d ih =>
    intro r0 x1 σ
    refine Ct.of (by decide +kernel) rfl (Nat.le_of_ble_eq_true rfl) ?_
    show Aw l G (MX2_walk (d + 1)) rI 0 [(0, .ref (Gb G + r0)), (1, .int x1)] [] σ _
    rw [f_X2_walk]
    have hself := ih
    refine Aw.gd (fun hr0 => ?_)
    refine Aw.iconst (v := 0) ic_0 rfl dX2_walk_0 ?_
    refine Aw.istore_n (L' := [(2, .int 0), (0, .ref (Gb G + r0)), (1, .int x1)]) (Nat.le_of_ble_eq_true rfl) rfl rfl dX2_walk_1 ?_
    refine Aw.iconst (v := 0) ic_0 rfl dX2_walk_2 ?_
    refine Aw.istore_n (L' := [(3, .int 0), (2, .int 0), (0, .ref (Gb G + r0)), (1, .int x1)]) (Nat.le_of_ble_eq_true rfl) rfl rfl dX2_walk_3 ?_
    refine Aw.sub (L' := [(0, .ref (Gb G + r0)), (1, .int x1), (2, .int 0), (3, .int 0)]) [2, 3, 1, 0] rfl ?_
    exact aw_X2_walk_4 l G d _ ih FU _ _ _ _ _
abbrev MX2_rowsOfLength : Mt := (RX2, cX2_rowsOfLength, 2, (some .int), 11)
def f_X2_rowsOfLength (r0 : Nat) (x1 : Int32) (σ : Sg) : Option (Int32 × Sg) := if kd r0 = 2 then (bn (up σ r0 11 x1) (fun τ1 => if x1 = 0 then (cb (f_X2_isGoalBehind r0 8 0 τ1) (fun a4 τ5 => if a4 = 0 then (some (0, τ5)) else (some (1, τ5)))) else (cb (f_X2_walk 7 r0 0 τ1) (fun a2 τ3 => some (a2, τ3))))) else none
set_option maxRecDepth 100000 in
set_option maxHeartbeats 4000000 in
theorem ct_X2_rowsOfLength (l : Launch) (G : Gt) (r0 : Nat) (x1 : Int32) (σ : Sg) : Ct l G yX2_rowsOfLength MX2_rowsOfLength rI [.ref (Gb G + r0), .int x1] σ (f_X2_rowsOfLength r0 x1 σ) := by
  refine Ct.of (by decide +kernel) rfl (Nat.le_of_ble_eq_true rfl) ?_
  show Aw l G MX2_rowsOfLength rI 0 [(0, .ref (Gb G + r0)), (1, .int x1)] [] σ _
  unfold f_X2_rowsOfLength
  refine Aw.gd (fun hr0 => ?_)
  refine Aw.aload_n 0 rfl rfl dX2_rowsOfLength_0 ?_
  refine Aw.iload_n 1 rfl rfl dX2_rowsOfLength_1 ?_
  refine Aw.putI (v := x1) fl_X2_107 fp_2_11 rfl rfl (Nat.le_of_ble_eq_true rfl) rfl hr0 rfl dX2_rowsOfLength_2 ?_
  refine Aw.bs (fun τ1 => ?_)
  refine Aw.iload_n 1 rfl rfl dX2_rowsOfLength_5 ?_
  refine Aw.if_ne (q := 9) (t := 25) rfl (by decide) dX2_rowsOfLength_6 (fun hc => ?_) (fun hc => ?_)
  · refine Aw.aload_n 0 rfl rfl dX2_rowsOfLength_9 ?_
    refine Aw.bipush (v := 8) ib_8 rfl dX2_rowsOfLength_10 ?_
    refine Aw.iconst (v := 0) ic_0 rfl dX2_rowsOfLength_12 ?_
    refine Aw.callVi (As := [.int 8, .int 0]) (rest := []) cv_X2_110 (Nat.le_of_ble_eq_true rfl) hr0 (ct_X2_isGoalBehind l G r0 8 0 τ1) rfl rfl (Nat.le_of_ble_eq_true rfl) (Nat.le_of_ble_eq_true rfl) (Nat.le_of_ble_eq_true rfl) rfl dX2_rowsOfLength_13 (fun a4 τ5 _ => ?_)
    refine Aw.if_eq (q := 19) (t := 23) rfl (by decide) dX2_rowsOfLength_16 (fun hc => ?_) (fun hc => ?_)
    · refine Aw.iconst (v := 0) ic_0 rfl dX2_rowsOfLength_23 ?_
      exact Aw.iret rfl dX2_rowsOfLength_24
    · refine Aw.iconst (v := 1) ic_1 rfl dX2_rowsOfLength_19 ?_
      refine Aw.goto (q := 24) (by decide) dX2_rowsOfLength_20 ?_
      exact Aw.iret rfl dX2_rowsOfLength_24
  · refine Aw.aload_n 0 rfl rfl dX2_rowsOfLength_25 ?_
    refine Aw.iconst (v := 0) ic_0 rfl dX2_rowsOfLength_26 ?_
    refine Aw.callSi (As := [.ref (Gb G + r0), .int 0]) (rest := []) (cs_X2_113 7) (ct_X2_walk l G 7 r0 0 τ1) rfl rfl (Nat.le_of_ble_eq_true rfl) (Nat.le_of_ble_eq_true rfl) (Nat.le_of_ble_eq_true rfl) rfl dX2_rowsOfLength_27 (fun a2 τ3 _ => ?_)
    exact Aw.iret rfl dX2_rowsOfLength_30
abbrev MX2_start : Mt := (RX2, cX2_start, 5, none, 2)
def f_X2_start_125 (rc82 : Nat → Nat → Int32 → Sg → Option (Unit × Sg)) : Nat → Nat → Nat → Int32 → Int32 → Sg → Option (Unit × Sg)
  | 0, _, _, _, _, _ => none
  | n + 1, r0, r1, x3, x4, σ => if kd r0 = 2 then (if kd r1 = 3 then (if 48 ≤ x4 then (rc82 r0 r1 (x3 + 1) σ) else (if inb x3 9 then (if inb x3 8 then (cb (f_X0_placeBehind (rf (rf r1 4) (ix x3)) x4 σ) (fun a3 τ4 => if inb x4 48 then (bn (up τ4 (rf (rf r0 0) (ix x3)) (ix x4) a3) (fun τ6 => f_X2_start_125 rc82 n r0 r1 x3 (x4 + 1) τ6)) else none)) else none) else none)) else none) else none
def f_X2_start_82  : Nat → Nat → Nat → Int32 → Sg → Option (Unit × Sg)
  | 0, _, _, _, _ => none
  | n + 1, r0, r1, x3, σ => if kd r0 = 2 then (if kd r1 = 3 then (if σ r0 9 ≤ x3 then (some ((), σ)) else (if inb x3 8 then (cb (f_X0_spotsThatWant (rf (rf r1 4) (ix x3)) 1 σ) (fun a2 τ3 => if inb x3 8 then (bn (up τ3 (rf r0 1) (ix x3) a2) (fun τ5 => if inb x3 8 then (cb (f_X0_spotsThatWant (rf (rf r1 4) (ix x3)) 2 τ5) (fun a7 τ8 => if inb x3 8 then (bn (up τ8 (rf r0 2) (ix x3) a7) (fun τ10 => f_X2_start_125 (f_X2_start_82 n) FU r0 r1 x3 0 τ10)) else none)) else none)) else none)) else none)) else none) else none
def f_X2_start (r0 : Nat) (r1 : Nat) (x2 : Int32) (σ : Sg) : Option (Unit × Sg) := if kd r0 = 2 then (if kd r1 = 3 then (bn (up σ r0 10 x2) (fun τ1 => bn (up τ1 r0 8 (τ1 r1 0)) (fun τ2 => bn (up τ2 r0 9 (τ2 r1 3)) (fun τ3 => bn (cpy τ3 (rf r1 2) 0 (rf r0 5) 0 8) (fun τ4 => if inb 0 6 then (bn (cpy τ4 (rf r1 1) 0 (rf (rf r0 3) (ix 0)) 0 8) (fun τ6 => if inb 0 6 then (cb (f_X5_heldSpots (rf (rf r0 3) (ix 0)) (τ6 r0 8) τ6) (fun a8 τ9 => if inb 0 6 then (bn (up τ9 (rf r0 4) (ix 0) a8) (fun τ11 => cb (f_J7_fill_53178 (rf r0 7) 0 τ11) (fun _ τ13 => f_X2_start_82 FU r0 r1 0 τ13))) else none)) else none)) else none))))) else none) else none
theorem cs_X2_89 : CS RX2 89 yJ7_fill_53178 MJ7_fill_53178 2 := ⟨ml_X2_89, sta_J7_fill_53178, ini_J7, cw_J7_fill_53178, ⟨by decide, by decide, by decide +kernel⟩⟩
theorem cv_X2_99 : CV RX2 99 0 yX0_spotsThatWant MX0_spotsThatWant 1 := ⟨_, rfl, rfl, ml_X2_99, ins_X0_spotsThatWant, sel_X0_spotsThatWant, ini_X0, cw_X0_spotsThatWant, ⟨by decide, by decide, by decide +kernel⟩⟩
theorem cv_X2_104 : CV RX2 104 0 yX0_placeBehind MX0_placeBehind 1 := ⟨_, rfl, rfl, ml_X2_104, ins_X0_placeBehind, sel_X0_placeBehind, ini_X0, cw_X0_placeBehind, ⟨by decide, by decide, by decide +kernel⟩⟩
set_option maxRecDepth 100000 in
set_option maxHeartbeats 4000000 in
theorem aw_X2_start_125 (l : Launch) (G : Gt) (rc82 : Nat → Nat → Int32 → Sg → Option (Unit × Sg)) (hrc82 : ∀ (r0 : Nat) (r1 : Nat) (x3 : Int32) (σ : Sg), Aw l G MX2_start rV 82 [(0, .ref (Gb G + r0)), (1, .ref (Gb G + r1)), (3, .int x3)] [] σ (rc82 r0 r1 x3 σ)) : ∀ (n : Nat) (r0 : Nat) (r1 : Nat) (x3 : Int32) (x4 : Int32) (σ : Sg), Aw l G MX2_start rV 125 [(0, .ref (Gb G + r0)), (1, .ref (Gb G + r1)), (3, .int x3), (4, .int x4)] [] σ (f_X2_start_125 rc82 n r0 r1 x3 x4 σ) := by
  intro n
  induction n with
  | zero => intro r0 r1 x3 x4 σ; exact Aw.no
  | succ n ih =>
    intro r0 r1 x3 x4 σ
    rw [f_X2_start_125]
    refine Aw.gd (fun hr0 => ?_)
    refine Aw.gd (fun hr1 => ?_)
    refine Aw.iload 3 rfl rfl dX2_start_125 ?_
    refine Aw.bipush (v := 48) ib_48 rfl dX2_start_127 ?_
    refine Aw.icmp_ge (q := 132) (t := 158) rfl (by decide) dX2_start_129 (fun hc => ?_) (fun hc => ?_)
    · refine Aw.iinc (v := x3 + 1) (L' := [(3, .int (x3 + 1)), (0, .ref (Gb G + r0)), (1, .ref (Gb G + r1)), (4, .int x4)]) 2 rfl (ii_1 _) (Nat.le_of_ble_eq_true rfl) rfl rfl dX2_start_158 ?_
      refine Aw.goto (q := 82) (by decide) dX2_start_161 ?_
      refine Aw.sub (L' := [(0, .ref (Gb G + r0)), (1, .ref (Gb G + r1)), (3, .int (x3 + 1))]) [1, 2, 0] rfl ?_
      exact hrc82 _ _ _ _
    · refine Aw.aload_n 0 rfl rfl dX2_start_132 ?_
      refine Aw.getR fl_X2_11 (Nat.le_of_ble_eq_true rfl) rfl hr0 rfl dX2_start_133 ?_
      refine Aw.iload_n 2 rfl rfl dX2_start_136 ?_
      refine Aw.aald (n := 9) (t := 10) (ft_2_0 hr0).1 ⟨Nat.le_of_ble_eq_true rfl, Nat.le_of_ble_eq_true rfl⟩ (ft_2_0 hr0).2 rfl dX2_start_137 (fun hb1 => ?_)
      refine Aw.iload 3 rfl rfl dX2_start_138 ?_
      refine Aw.aload_n 1 rfl rfl dX2_start_140 ?_
      refine Aw.getR fl_X2_95 (Nat.le_of_ble_eq_true rfl) rfl hr1 rfl dX2_start_141 ?_
      refine Aw.iload_n 2 rfl rfl dX2_start_144 ?_
      refine Aw.aald (n := 8) (t := 8) (ft_3_4 hr1).1 ⟨Nat.le_of_ble_eq_true rfl, Nat.le_of_ble_eq_true rfl⟩ (ft_3_4 hr1).2 rfl dX2_start_145 (fun hb2 => ?_)
      refine Aw.iload 3 rfl rfl dX2_start_146 ?_
      refine Aw.callVi (As := [.int x4]) (rest := [.int x4, .ref (Gb G + rf (rf r0 0) (ix x3))]) cv_X2_104 (Nat.le_of_ble_eq_true rfl) (el_3_4 hr1 (inb_ix hb2)) (ct_X0_placeBehind l G (rf (rf r1 4) (ix x3)) x4 σ) rfl rfl (Nat.le_of_ble_eq_true rfl) (Nat.le_of_ble_eq_true rfl) (Nat.le_of_ble_eq_true rfl) rfl dX2_start_148 (fun a3 τ4 _ => ?_)
      refine Aw.iast (n := 48) (el_2_0 hr0 (inb_ix hb1)).1 (el_2_0 hr0 (inb_ix hb1)).2 rfl dX2_start_151 (fun hb5 => ?_)
      refine Aw.bs (fun τ6 => ?_)
      refine Aw.iinc (v := x4 + 1) (L' := [(4, .int (x4 + 1)), (0, .ref (Gb G + r0)), (1, .ref (Gb G + r1)), (3, .int x3)]) 3 rfl (ii_1 _) (Nat.le_of_ble_eq_true rfl) rfl rfl dX2_start_152 ?_
      refine Aw.goto (q := 125) (by decide) dX2_start_155 ?_
      refine Aw.sub (L' := [(0, .ref (Gb G + r0)), (1, .ref (Gb G + r1)), (3, .int x3), (4, .int (x4 + 1))]) [1, 2, 3, 0] rfl ?_
      exact ih _ _ _ _ _
set_option maxRecDepth 100000 in
set_option maxHeartbeats 4000000 in
theorem aw_X2_start_82 (l : Launch) (G : Gt) : ∀ (n : Nat) (r0 : Nat) (r1 : Nat) (x3 : Int32) (σ : Sg), Aw l G MX2_start rV 82 [(0, .ref (Gb G + r0)), (1, .ref (Gb G + r1)), (3, .int x3)] [] σ (f_X2_start_82 n r0 r1 x3 σ) := by
  intro n
  induction n with
  | zero => intro r0 r1 x3 σ; exact Aw.no
  | succ n ih =>
    intro r0 r1 x3 σ
    rw [f_X2_start_82]
    refine Aw.gd (fun hr0 => ?_)
    refine Aw.gd (fun hr1 => ?_)
    refine Aw.iload_n 2 rfl rfl dX2_start_82 ?_
    refine Aw.aload_n 0 rfl rfl dX2_start_83 ?_
    refine Aw.getI fl_X2_74 (Nat.le_of_ble_eq_true rfl) rfl hr0 rfl dX2_start_84 ?_
    refine Aw.icmp_ge (q := 90) (t := 164) rfl (by decide) dX2_start_87 (fun hc => ?_) (fun hc => ?_)
    · exact Aw.vret rfl dX2_start_164
    · refine Aw.aload_n 0 rfl rfl dX2_start_90 ?_
      refine Aw.getR fl_X2_16 (Nat.le_of_ble_eq_true rfl) rfl hr0 rfl dX2_start_91 ?_
      refine Aw.iload_n 2 rfl rfl dX2_start_94 ?_
      refine Aw.aload_n 1 rfl rfl dX2_start_95 ?_
      refine Aw.getR fl_X2_95 (Nat.le_of_ble_eq_true rfl) rfl hr1 rfl dX2_start_96 ?_
      refine Aw.iload_n 2 rfl rfl dX2_start_99 ?_
      refine Aw.aald (n := 8) (t := 8) (ft_3_4 hr1).1 ⟨Nat.le_of_ble_eq_true rfl, Nat.le_of_ble_eq_true rfl⟩ (ft_3_4 hr1).2 rfl dX2_start_100 (fun hb1 => ?_)
      refine Aw.iconst (v := 1) ic_1 rfl dX2_start_101 ?_
      refine Aw.callVi (As := [.int 1]) (rest := [.int x3, .ref (Gb G + rf r0 1)]) cv_X2_99 (Nat.le_of_ble_eq_true rfl) (el_3_4 hr1 (inb_ix hb1)) (ct_X0_spotsThatWant l G (rf (rf r1 4) (ix x3)) 1 σ) rfl rfl (Nat.le_of_ble_eq_true rfl) (Nat.le_of_ble_eq_true rfl) (Nat.le_of_ble_eq_true rfl) rfl dX2_start_102 (fun a2 τ3 _ => ?_)
      refine Aw.iast (n := 8) (ft_2_1 hr0).1 (ft_2_1 hr0).2 rfl dX2_start_105 (fun hb4 => ?_)
      refine Aw.bs (fun τ5 => ?_)
      refine Aw.aload_n 0 rfl rfl dX2_start_106 ?_
      refine Aw.getR fl_X2_20 (Nat.le_of_ble_eq_true rfl) rfl hr0 rfl dX2_start_107 ?_
      refine Aw.iload_n 2 rfl rfl dX2_start_110 ?_
      refine Aw.aload_n 1 rfl rfl dX2_start_111 ?_
      refine Aw.getR fl_X2_95 (Nat.le_of_ble_eq_true rfl) rfl hr1 rfl dX2_start_112 ?_
      refine Aw.iload_n 2 rfl rfl dX2_start_115 ?_
      refine Aw.aald (n := 8) (t := 8) (ft_3_4 hr1).1 ⟨Nat.le_of_ble_eq_true rfl, Nat.le_of_ble_eq_true rfl⟩ (ft_3_4 hr1).2 rfl dX2_start_116 (fun hb6 => ?_)
      refine Aw.iconst (v := 2) ic_2 rfl dX2_start_117 ?_
      refine Aw.callVi (As := [.int 2]) (rest := [.int x3, .ref (Gb G + rf r0 2)]) cv_X2_99 (Nat.le_of_ble_eq_true rfl) (el_3_4 hr1 (inb_ix hb6)) (ct_X0_spotsThatWant l G (rf (rf r1 4) (ix x3)) 2 τ5) rfl rfl (Nat.le_of_ble_eq_true rfl) (Nat.le_of_ble_eq_true rfl) (Nat.le_of_ble_eq_true rfl) rfl dX2_start_118 (fun a7 τ8 _ => ?_)
      refine Aw.iast (n := 8) (ft_2_2 hr0).1 (ft_2_2 hr0).2 rfl dX2_start_121 (fun hb9 => ?_)
      refine Aw.bs (fun τ10 => ?_)
      refine Aw.iconst (v := 0) ic_0 rfl dX2_start_122 ?_
      refine Aw.istore (L' := [(4, .int 0), (0, .ref (Gb G + r0)), (1, .ref (Gb G + r1)), (3, .int x3)]) (Nat.le_of_ble_eq_true rfl) rfl rfl dX2_start_123 ?_
      refine Aw.sub (L' := [(0, .ref (Gb G + r0)), (1, .ref (Gb G + r1)), (3, .int x3), (4, .int 0)]) [1, 2, 3, 0] rfl ?_
      exact aw_X2_start_125 l G _ ih FU _ _ _ _ _
set_option maxRecDepth 100000 in
set_option maxHeartbeats 4000000 in
theorem ct_X2_start (l : Launch) (G : Gt) (r0 : Nat) (r1 : Nat) (x2 : Int32) (σ : Sg) : Ct l G yX2_start MX2_start rV [.ref (Gb G + r0), .ref (Gb G + r1), .int x2] σ (f_X2_start r0 r1 x2 σ) := by
  refine Ct.of (by decide +kernel) rfl (Nat.le_of_ble_eq_true rfl) ?_
  show Aw l G MX2_start rV 0 [(0, .ref (Gb G + r0)), (1, .ref (Gb G + r1)), (2, .int x2)] [] σ _
  unfold f_X2_start
  refine Aw.gd (fun hr0 => ?_)
  refine Aw.gd (fun hr1 => ?_)
  refine Aw.aload_n 0 rfl rfl dX2_start_0 ?_
  refine Aw.iload_n 2 rfl rfl dX2_start_1 ?_
  refine Aw.putI (v := x2) fl_X2_62 fp_2_10 rfl rfl (Nat.le_of_ble_eq_true rfl) rfl hr0 rfl dX2_start_2 ?_
  refine Aw.bs (fun τ1 => ?_)
  refine Aw.aload_n 0 rfl rfl dX2_start_5 ?_
  refine Aw.aload_n 1 rfl rfl dX2_start_6 ?_
  refine Aw.getI fl_X2_65 (Nat.le_of_ble_eq_true rfl) rfl hr1 rfl dX2_start_7 ?_
  refine Aw.putI (v := τ1 r1 0) fl_X2_70 fp_2_8 rfl rfl (Nat.le_of_ble_eq_true rfl) rfl hr0 rfl dX2_start_10 ?_
  refine Aw.bs (fun τ2 => ?_)
  refine Aw.aload_n 0 rfl rfl dX2_start_13 ?_
  refine Aw.aload_n 1 rfl rfl dX2_start_14 ?_
  refine Aw.getI fl_X2_71 (Nat.le_of_ble_eq_true rfl) rfl hr1 rfl dX2_start_15 ?_
  refine Aw.putI (v := τ2 r1 3) fl_X2_74 fp_2_9 rfl rfl (Nat.le_of_ble_eq_true rfl) rfl hr0 rfl dX2_start_18 ?_
  refine Aw.bs (fun τ3 => ?_)
  refine Aw.aload_n 1 rfl rfl dX2_start_21 ?_
  refine Aw.getR fl_X2_75 (Nat.le_of_ble_eq_true rfl) rfl hr1 rfl dX2_start_22 ?_
  refine Aw.iconst (v := 0) ic_0 rfl dX2_start_25 ?_
  refine Aw.aload_n 0 rfl rfl dX2_start_26 ?_
  refine Aw.getR fl_X2_29 (Nat.le_of_ble_eq_true rfl) rfl hr0 rfl dX2_start_27 ?_
  refine Aw.iconst (v := 0) ic_0 rfl dX2_start_30 ?_
  refine Aw.bipush (v := 8) ib_8 rfl dX2_start_31 ?_
  refine Aw.acopy (n := 8) (n0 := 8) (n1 := 8) ml_X2_76 ac_nat ac_sta ini_J10 (ft_3_2 hr1).1 (ft_2_5 hr0).1 (ft_3_2 hr1).2 (ft_2_5 hr0).2 (by decide) (by decide) (by decide) (Nat.le_of_ble_eq_true rfl) (by decide) rfl dX2_start_33 ?_
  rw [cl_8]
  refine Aw.bs (fun τ4 => ?_)
  refine Aw.aload_n 1 rfl rfl dX2_start_36 ?_
  refine Aw.getR fl_X2_82 (Nat.le_of_ble_eq_true rfl) rfl hr1 rfl dX2_start_37 ?_
  refine Aw.iconst (v := 0) ic_0 rfl dX2_start_40 ?_
  refine Aw.aload_n 0 rfl rfl dX2_start_41 ?_
  refine Aw.getR fl_X2_23 (Nat.le_of_ble_eq_true rfl) rfl hr0 rfl dX2_start_42 ?_
  refine Aw.iconst (v := 0) ic_0 rfl dX2_start_45 ?_
  refine Aw.aald (n := 6) (t := 10) (ft_2_3 hr0).1 ⟨Nat.le_of_ble_eq_true rfl, Nat.le_of_ble_eq_true rfl⟩ (ft_2_3 hr0).2 rfl dX2_start_46 (fun hb5 => ?_)
  refine Aw.iconst (v := 0) ic_0 rfl dX2_start_47 ?_
  refine Aw.bipush (v := 8) ib_8 rfl dX2_start_48 ?_
  refine Aw.acopy (n := 8) (n0 := 8) (n1 := 8) ml_X2_76 ac_nat ac_sta ini_J10 (ft_3_1 hr1).1 (el_2_3 hr0 (inb_ix hb5)).1 (ft_3_1 hr1).2 (el_2_3 hr0 (inb_ix hb5)).2 (by decide) (by decide) (by decide) (Nat.le_of_ble_eq_true rfl) (by decide) rfl dX2_start_50 ?_
  rw [cl_8]
  refine Aw.bs (fun τ6 => ?_)
  refine Aw.aload_n 0 rfl rfl dX2_start_53 ?_
  refine Aw.getR fl_X2_26 (Nat.le_of_ble_eq_true rfl) rfl hr0 rfl dX2_start_54 ?_
  refine Aw.iconst (v := 0) ic_0 rfl dX2_start_57 ?_
  refine Aw.aload_n 0 rfl rfl dX2_start_58 ?_
  refine Aw.getR fl_X2_23 (Nat.le_of_ble_eq_true rfl) rfl hr0 rfl dX2_start_59 ?_
  refine Aw.iconst (v := 0) ic_0 rfl dX2_start_62 ?_
  refine Aw.aald (n := 6) (t := 10) (ft_2_3 hr0).1 ⟨Nat.le_of_ble_eq_true rfl, Nat.le_of_ble_eq_true rfl⟩ (ft_2_3 hr0).2 rfl dX2_start_63 (fun hb7 => ?_)
  refine Aw.aload_n 0 rfl rfl dX2_start_64 ?_
  refine Aw.getI fl_X2_70 (Nat.le_of_ble_eq_true rfl) rfl hr0 rfl dX2_start_65 ?_
  refine Aw.callNi (As := [.ref (Gb G + rf (rf r0 3) (ix 0)), .int (τ6 r0 8)]) (rest := [.int 0, .ref (Gb G + rf r0 4)]) cn_X2_85 (ct_X5_heldSpots l G (rf (rf r0 3) (ix 0)) (τ6 r0 8) τ6) rfl rfl (Nat.le_of_ble_eq_true rfl) (Nat.le_of_ble_eq_true rfl) (Nat.le_of_ble_eq_true rfl) rfl dX2_start_68 (fun a8 τ9 _ => ?_)
  refine Aw.iast (n := 6) (ft_2_4 hr0).1 (ft_2_4 hr0).2 rfl dX2_start_71 (fun hb10 => ?_)
  refine Aw.bs (fun τ11 => ?_)
  refine Aw.aload_n 0 rfl rfl dX2_start_72 ?_
  refine Aw.getR fl_X2_35 (Nat.le_of_ble_eq_true rfl) rfl hr0 rfl dX2_start_73 ?_
  refine Aw.iconst (v := 0) ic_0 rfl dX2_start_76 ?_
  refine Aw.callSv (As := [.ref (Gb G + rf r0 7), .int 0]) (rest := []) cs_X2_89 (ct_J7_fill_53178 l G (rf r0 7) 0 τ11) rfl rfl (Nat.le_of_ble_eq_true rfl) (Nat.le_of_ble_eq_true rfl) (Nat.le_of_ble_eq_true rfl) rfl dX2_start_77 (fun a12 τ13 _ => ?_)
  refine Aw.iconst (v := 0) ic_0 rfl dX2_start_80 ?_
  refine Aw.istore_n (L' := [(3, .int 0), (0, .ref (Gb G + r0)), (1, .ref (Gb G + r1)), (2, .int x2)]) (Nat.le_of_ble_eq_true rfl) rfl rfl dX2_start_81 ?_
  refine Aw.sub (L' := [(0, .ref (Gb G + r0)), (1, .ref (Gb G + r1)), (3, .int 0)]) [1, 2, 0] rfl ?_
  exact aw_X2_start_82 l G FU _ _ _ _
abbrev MX2_shortest : Mt := (RX2, cX2_shortest, 6, (some .int), 12)
def f_X2_shortest_25  : Nat → Nat → Int32 → Int32 → Sg → Option (Int32 × Sg)
  | 0, _, _, _, _ => none
  | n + 1, r0, x3, x5, σ => if kd r0 = 2 then (if x3 < x5 then (some ((-1), σ)) else (cb (f_X2_rowsOfLength r0 x5 σ) (fun a1 τ2 => if a1 ≤ 0 then (f_X2_shortest_25 n r0 x3 (x5 + 1) τ2) else (some (x5, τ2))))) else none
def f_X2_shortest (r0 : Nat) (r1 : Nat) (x2 : Int32) (x3 : Int32) (x4 : Int32) (σ : Sg) : Option (Int32 × Sg) := if kd r0 = 2 then (if kd r1 = 3 then (cb (f_X2_start r0 r1 x2 σ) (fun _ τ2 => bn (up τ2 r0 12 x4) (fun τ3 => bn (up τ3 r0 13 0) (fun τ4 => bn (up τ4 r0 14 1) (fun τ5 => f_X2_shortest_25 FU r0 x3 0 τ5))))) else none) else none
theorem cv_X2_38 : CV RX2 38 2 yX2_start MX2_start 2 := ⟨_, rfl, rfl, ml_X2_38, ins_X2_start, sel_X2_start, ini_X2, cw_X2_start, ⟨by decide, by decide, by decide +kernel⟩⟩
theorem cv_X2_53 : CV RX2 53 2 yX2_rowsOfLength MX2_rowsOfLength 1 := ⟨_, rfl, rfl, ml_X2_53, ins_X2_rowsOfLength, sel_X2_rowsOfLength, ini_X2, cw_X2_rowsOfLength, ⟨by decide, by decide, by decide +kernel⟩⟩
set_option maxRecDepth 100000 in
set_option maxHeartbeats 4000000 in
theorem aw_X2_shortest_25 (l : Launch) (G : Gt) : ∀ (n : Nat) (r0 : Nat) (x3 : Int32) (x5 : Int32) (σ : Sg), Aw l G MX2_shortest rI 25 [(0, .ref (Gb G + r0)), (3, .int x3), (5, .int x5)] [] σ (f_X2_shortest_25 n r0 x3 x5 σ) := by
  intro n
  induction n with
  | zero => intro r0 x3 x5 σ; exact Aw.no
  | succ n ih =>
    intro r0 x3 x5 σ
    rw [f_X2_shortest_25]
    refine Aw.gd (fun hr0 => ?_)
    refine Aw.iload 2 rfl rfl dX2_shortest_25 ?_
    refine Aw.iload_n 1 rfl rfl dX2_shortest_27 ?_
    refine Aw.icmp_gt (q := 31) (t := 49) rfl (by decide) dX2_shortest_28 (fun hc => ?_) (fun hc => ?_)
    · refine Aw.iconst (v := (-1)) ic_m1 rfl dX2_shortest_49 ?_
      exact Aw.iret rfl dX2_shortest_50
    · refine Aw.aload_n 0 rfl rfl dX2_shortest_31 ?_
      refine Aw.iload 2 rfl rfl dX2_shortest_32 ?_
      refine Aw.callVi (As := [.int x5]) (rest := []) cv_X2_53 (Nat.le_of_ble_eq_true rfl) hr0 (ct_X2_rowsOfLength l G r0 x5 σ) rfl rfl (Nat.le_of_ble_eq_true rfl) (Nat.le_of_ble_eq_true rfl) (Nat.le_of_ble_eq_true rfl) rfl dX2_shortest_34 (fun a1 τ2 _ => ?_)
      refine Aw.if_le (q := 40) (t := 43) rfl (by decide) dX2_shortest_37 (fun hc => ?_) (fun hc => ?_)
      · refine Aw.iinc (v := x5 + 1) (L' := [(5, .int (x5 + 1)), (0, .ref (Gb G + r0)), (3, .int x3)]) 2 rfl (ii_1 _) (Nat.le_of_ble_eq_true rfl) rfl rfl dX2_shortest_43 ?_
        refine Aw.goto (q := 25) (by decide) dX2_shortest_46 ?_
        refine Aw.sub (L' := [(0, .ref (Gb G + r0)), (3, .int x3), (5, .int (x5 + 1))]) [1, 2, 0] rfl ?_
        exact ih _ _ _ _
      · refine Aw.iload 2 rfl rfl dX2_shortest_40 ?_
        exact Aw.iret rfl dX2_shortest_42
set_option maxRecDepth 100000 in
set_option maxHeartbeats 4000000 in
theorem ct_X2_shortest (l : Launch) (G : Gt) (r0 : Nat) (r1 : Nat) (x2 : Int32) (x3 : Int32) (x4 : Int32) (σ : Sg) : Ct l G yX2_shortest MX2_shortest rI [.ref (Gb G + r0), .ref (Gb G + r1), .int x2, .int x3, .int x4] σ (f_X2_shortest r0 r1 x2 x3 x4 σ) := by
  refine Ct.of (by decide +kernel) rfl (Nat.le_of_ble_eq_true rfl) ?_
  show Aw l G MX2_shortest rI 0 [(0, .ref (Gb G + r0)), (1, .ref (Gb G + r1)), (2, .int x2), (3, .int x3), (4, .int x4)] [] σ _
  unfold f_X2_shortest
  refine Aw.gd (fun hr0 => ?_)
  refine Aw.gd (fun hr1 => ?_)
  refine Aw.aload_n 0 rfl rfl dX2_shortest_0 ?_
  refine Aw.aload_n 1 rfl rfl dX2_shortest_1 ?_
  refine Aw.iload_n 2 rfl rfl dX2_shortest_2 ?_
  refine Aw.callVv (As := [.ref (Gb G + r1), .int x2]) (rest := []) cv_X2_38 (Nat.le_of_ble_eq_true rfl) hr0 (ct_X2_start l G r0 r1 x2 σ) rfl rfl (Nat.le_of_ble_eq_true rfl) (Nat.le_of_ble_eq_true rfl) (Nat.le_of_ble_eq_true rfl) rfl dX2_shortest_3 (fun a1 τ2 _ => ?_)
  refine Aw.aload_n 0 rfl rfl dX2_shortest_6 ?_
  refine Aw.iload 4 rfl rfl dX2_shortest_7 ?_
  refine Aw.putI (v := x4) fl_X2_42 fp_2_12 rfl rfl (Nat.le_of_ble_eq_true rfl) rfl hr0 rfl dX2_shortest_9 ?_
  refine Aw.bs (fun τ3 => ?_)
  refine Aw.aload_n 0 rfl rfl dX2_shortest_12 ?_
  refine Aw.iconst (v := 0) ic_0 rfl dX2_shortest_13 ?_
  refine Aw.putI (v := 0) fl_X2_46 fp_2_13 rfl rfl (Nat.le_of_ble_eq_true rfl) rfl hr0 rfl dX2_shortest_14 ?_
  refine Aw.bs (fun τ4 => ?_)
  refine Aw.aload_n 0 rfl rfl dX2_shortest_17 ?_
  refine Aw.iconst (v := 1) ic_1 rfl dX2_shortest_18 ?_
  refine Aw.putI (v := 1) fl_X2_50 fp_2_14 rfl rfl (Nat.le_of_ble_eq_true rfl) rfl hr0 rfl dX2_shortest_19 ?_
  refine Aw.bs (fun τ5 => ?_)
  refine Aw.iconst (v := 0) ic_0 rfl dX2_shortest_22 ?_
  refine Aw.istore (L' := [(5, .int 0), (0, .ref (Gb G + r0)), (1, .ref (Gb G + r1)), (2, .int x2), (3, .int x3), (4, .int x4)]) (Nat.le_of_ble_eq_true rfl) rfl rfl dX2_shortest_23 ?_
  refine Aw.sub (L' := [(0, .ref (Gb G + r0)), (3, .int x3), (5, .int 0)]) [1, 4, 0] rfl ?_
  exact aw_X2_shortest_25 l G FU _ _ _ _
abbrev MX2_howMany : Mt := (RX2, cX2_howMany, 4, (some .int), 12)
def f_X2_howMany (r0 : Nat) (r1 : Nat) (x2 : Int32) (x3 : Int32) (σ : Sg) : Option (Int32 × Sg) := if kd r0 = 2 then (if kd r1 = 3 then (cb (f_X2_start r0 r1 x2 σ) (fun _ τ2 => bn (up τ2 r0 12 x3) (fun τ3 => bn (up τ3 r0 13 1) (fun τ4 => bn (up τ4 r0 14 1000000) (fun τ5 => cb (f_X2_rowsOfLength r0 x3 τ5) (fun a6 τ7 => some (a6, τ7))))))) else none) else none
set_option maxRecDepth 100000 in
set_option maxHeartbeats 4000000 in
theorem ct_X2_howMany (l : Launch) (G : Gt) (r0 : Nat) (r1 : Nat) (x2 : Int32) (x3 : Int32) (σ : Sg) : Ct l G yX2_howMany MX2_howMany rI [.ref (Gb G + r0), .ref (Gb G + r1), .int x2, .int x3] σ (f_X2_howMany r0 r1 x2 x3 σ) := by
  refine Ct.of (by decide +kernel) rfl (Nat.le_of_ble_eq_true rfl) ?_
  show Aw l G MX2_howMany rI 0 [(0, .ref (Gb G + r0)), (1, .ref (Gb G + r1)), (2, .int x2), (3, .int x3)] [] σ _
  unfold f_X2_howMany
  refine Aw.gd (fun hr0 => ?_)
  refine Aw.gd (fun hr1 => ?_)
  refine Aw.aload_n 0 rfl rfl dX2_howMany_0 ?_
  refine Aw.aload_n 1 rfl rfl dX2_howMany_1 ?_
  refine Aw.iload_n 2 rfl rfl dX2_howMany_2 ?_
  refine Aw.callVv (As := [.ref (Gb G + r1), .int x2]) (rest := []) cv_X2_38 (Nat.le_of_ble_eq_true rfl) hr0 (ct_X2_start l G r0 r1 x2 σ) rfl rfl (Nat.le_of_ble_eq_true rfl) (Nat.le_of_ble_eq_true rfl) (Nat.le_of_ble_eq_true rfl) rfl dX2_howMany_3 (fun a1 τ2 _ => ?_)
  refine Aw.aload_n 0 rfl rfl dX2_howMany_6 ?_
  refine Aw.iload_n 3 rfl rfl dX2_howMany_7 ?_
  refine Aw.putI (v := x3) fl_X2_42 fp_2_12 rfl rfl (Nat.le_of_ble_eq_true rfl) rfl hr0 rfl dX2_howMany_8 ?_
  refine Aw.bs (fun τ3 => ?_)
  refine Aw.aload_n 0 rfl rfl dX2_howMany_11 ?_
  refine Aw.iconst (v := 1) ic_1 rfl dX2_howMany_12 ?_
  refine Aw.putI (v := 1) fl_X2_46 fp_2_13 rfl rfl (Nat.le_of_ble_eq_true rfl) rfl hr0 rfl dX2_howMany_13 ?_
  refine Aw.bs (fun τ4 => ?_)
  refine Aw.aload_n 0 rfl rfl dX2_howMany_16 ?_
  refine Aw.ldc kc_X2_57 rfl dX2_howMany_17 ?_
  refine Aw.putI (v := 1000000) fl_X2_50 fp_2_14 rfl rfl (Nat.le_of_ble_eq_true rfl) rfl hr0 rfl dX2_howMany_19 ?_
  refine Aw.bs (fun τ5 => ?_)
  refine Aw.aload_n 0 rfl rfl dX2_howMany_22 ?_
  refine Aw.iload_n 3 rfl rfl dX2_howMany_23 ?_
  refine Aw.callVi (As := [.int x3]) (rest := []) cv_X2_53 (Nat.le_of_ble_eq_true rfl) hr0 (ct_X2_rowsOfLength l G r0 x3 τ5) rfl rfl (Nat.le_of_ble_eq_true rfl) (Nat.le_of_ble_eq_true rfl) (Nat.le_of_ble_eq_true rfl) rfl dX2_howMany_24 (fun a6 τ7 _ => ?_)
  exact Aw.iret rfl dX2_howMany_27
abbrev MX2_callOfRow : Mt := (RX2, cX2_callOfRow, 2, (some .int), 2)
def f_X2_callOfRow (r0 : Nat) (x1 : Int32) (σ : Sg) : Option (Int32 × Sg) := if kd r0 = 2 then (cb (f_X5_isBelow x1 5 σ) (fun a1 τ2 => if a1 = 0 then (some ((-1), τ2)) else (if inb x1 5 then (some (τ2 (rf r0 6) (ix x1), τ2)) else none))) else none
theorem cn_X2_58 : CN RX2 58 yX5_isBelow RX5 MX5_isBelow 2 := ⟨by decide +kernel, sta_X5_isBelow, ini_X5, cw_X5_isBelow, ⟨by decide, by decide, by decide +kernel⟩⟩
set_option maxRecDepth 100000 in
set_option maxHeartbeats 4000000 in
theorem ct_X2_callOfRow (l : Launch) (G : Gt) (r0 : Nat) (x1 : Int32) (σ : Sg) : Ct l G yX2_callOfRow MX2_callOfRow rI [.ref (Gb G + r0), .int x1] σ (f_X2_callOfRow r0 x1 σ) := by
  refine Ct.of (by decide +kernel) rfl (Nat.le_of_ble_eq_true rfl) ?_
  show Aw l G MX2_callOfRow rI 0 [(0, .ref (Gb G + r0)), (1, .int x1)] [] σ _
  unfold f_X2_callOfRow
  refine Aw.gd (fun hr0 => ?_)
  refine Aw.iload_n 1 rfl rfl dX2_callOfRow_0 ?_
  refine Aw.iconst (v := 5) ic_5 rfl dX2_callOfRow_1 ?_
  refine Aw.callNi (As := [.int x1, .int 5]) (rest := []) cn_X2_58 (ct_X5_isBelow l G x1 5 σ) rfl rfl (Nat.le_of_ble_eq_true rfl) (Nat.le_of_ble_eq_true rfl) (Nat.le_of_ble_eq_true rfl) rfl dX2_callOfRow_2 (fun a1 τ2 _ => ?_)
  refine Aw.if_eq (q := 8) (t := 17) rfl (by decide) dX2_callOfRow_5 (fun hc => ?_) (fun hc => ?_)
  · refine Aw.iconst (v := (-1)) ic_m1 rfl dX2_callOfRow_17 ?_
    exact Aw.iret rfl dX2_callOfRow_18
  · refine Aw.aload_n 0 rfl rfl dX2_callOfRow_8 ?_
    refine Aw.getR fl_X2_32 (Nat.le_of_ble_eq_true rfl) rfl hr0 rfl dX2_callOfRow_9 ?_
    refine Aw.iload_n 1 rfl rfl dX2_callOfRow_12 ?_
    refine Aw.iald (n := 5) (ft_2_6 hr0).1 (ft_2_6 hr0).2 rfl dX2_callOfRow_13 (fun hb3 => ?_)
    refine Aw.goto (q := 18) (by decide) dX2_callOfRow_14 ?_
    exact Aw.iret rfl dX2_callOfRow_18
