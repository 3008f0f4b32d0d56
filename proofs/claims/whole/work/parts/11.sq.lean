abbrev MX3_copyFrom : Mt := (RX3, cX3_copyFrom, 3, none, 2)
def f_X3_copyFrom_48  : Nat → Nat → Nat → Int32 → Sg → Option (Unit × Sg)
  | 0, _, _, _, _ => none
  | n + 1, r0, r1, x2, σ => if kd r0 = 3 then (if kd r1 = 3 then (if σ r0 3 ≤ x2 then (bn (up σ r0 5 (σ r1 5)) (fun τ1 => bn (cpy τ1 (rf r1 6) 0 (rf r0 6) 0 12) (fun τ2 => bn (up τ2 r0 8 (τ2 r1 8)) (fun τ3 => some ((), τ3))))) else (if inb x2 8 then (if inb x2 8 then (cb (f_X0_copyFrom (rf (rf r0 4) (ix x2)) (rf (rf r1 4) (ix x2)) σ) (fun _ τ7 => f_X3_copyFrom_48 n r0 r1 (x2 + 1) τ7)) else none) else none)) else none) else none
def f_X3_copyFrom (r0 : Nat) (r1 : Nat) (σ : Sg) : Option (Unit × Sg) := if kd r0 = 3 then (if kd r1 = 3 then (bn (up σ r0 0 (σ r1 0)) (fun τ1 => bn (cpy τ1 (rf r1 1) 0 (rf r0 1) 0 8) (fun τ2 => bn (cpy τ2 (rf r1 2) 0 (rf r0 2) 0 8) (fun τ3 => bn (up τ3 r0 3 (τ3 r1 3)) (fun τ4 => f_X3_copyFrom_48 FU r0 r1 0 τ4))))) else none) else none
theorem cv_X3_44 : CV RX3 44 0 yX0_copyFrom MX0_copyFrom 1 := ⟨_, rfl, rfl, ml_X3_44, ins_X0_copyFrom, sel_X0_copyFrom, ini_X0, cw_X0_copyFrom, ⟨by decide, by decide, by decide +kernel⟩⟩
set_option maxRecDepth 100000 in
set_option maxHeartbeats 4000000 in
theorem aw_X3_copyFrom_48 (l : Launch) (G : Gt) : ∀ (n : Nat) (r0 : Nat) (r1 : Nat) (x2 : Int32) (σ : Sg), Aw l G MX3_copyFrom rV 48 [(0, .ref (Gb G + r0)), (1, .ref (Gb G + r1)), (2, .int x2)] [] σ (f_X3_copyFrom_48 n r0 r1 x2 σ) := by
  intro n
  induction n with
  | zero => intro r0 r1 x2 σ; exact Aw.no
  | succ n ih =>
    intro r0 r1 x2 σ
    rw [f_X3_copyFrom_48]
    refine Aw.gd (fun hr0 => ?_)
    refine Aw.gd (fun hr1 => ?_)
    refine Aw.iload_n 2 rfl rfl dX3_copyFrom_48 ?_
    refine Aw.aload_n 0 rfl rfl dX3_copyFrom_49 ?_
    refine Aw.getI fl_X3_41 (Nat.le_of_ble_eq_true rfl) rfl hr0 rfl dX3_copyFrom_50 ?_
    refine Aw.icmp_ge (q := 56) (t := 77) rfl (by decide) dX3_copyFrom_53 (fun hc => ?_) (fun hc => ?_)
    · refine Aw.aload_n 0 rfl rfl dX3_copyFrom_77 ?_
      refine Aw.aload_n 1 rfl rfl dX3_copyFrom_78 ?_
      refine Aw.getI fl_X3_48 (Nat.le_of_ble_eq_true rfl) rfl hr1 rfl dX3_copyFrom_79 ?_
      refine Aw.putI (v := σ r1 5) fl_X3_48 fp_3_5 rfl rfl (Nat.le_of_ble_eq_true rfl) rfl hr0 rfl dX3_copyFrom_82 ?_
      refine Aw.bs (fun τ1 => ?_)
      refine Aw.aload_n 1 rfl rfl dX3_copyFrom_85 ?_
      refine Aw.getR fl_X3_24 (Nat.le_of_ble_eq_true rfl) rfl hr1 rfl dX3_copyFrom_86 ?_
      refine Aw.iconst (v := 0) ic_0 rfl dX3_copyFrom_89 ?_
      refine Aw.aload_n 0 rfl rfl dX3_copyFrom_90 ?_
      refine Aw.getR fl_X3_24 (Nat.le_of_ble_eq_true rfl) rfl hr0 rfl dX3_copyFrom_91 ?_
      refine Aw.iconst (v := 0) ic_0 rfl dX3_copyFrom_94 ?_
      refine Aw.bipush (v := 12) ib_12 rfl dX3_copyFrom_95 ?_
      refine Aw.acopy (n := 12) (n0 := 12) (n1 := 12) ml_X3_35 ac_nat ac_sta ini_J10 (ft_3_6 hr1).1 (ft_3_6 hr0).1 (ft_3_6 hr1).2 (ft_3_6 hr0).2 (by decide) (by decide) (by decide) (Nat.le_of_ble_eq_true rfl) (by decide) rfl dX3_copyFrom_97 ?_
      rw [cl_12]
      refine Aw.bs (fun τ2 => ?_)
      refine Aw.aload_n 0 rfl rfl dX3_copyFrom_100 ?_
      refine Aw.aload_n 1 rfl rfl dX3_copyFrom_101 ?_
      refine Aw.getI fl_X3_51 (Nat.le_of_ble_eq_true rfl) rfl hr1 rfl dX3_copyFrom_102 ?_
      refine Aw.putI (v := τ2 r1 8) fl_X3_51 fp_3_8 rfl rfl (Nat.le_of_ble_eq_true rfl) rfl hr0 rfl dX3_copyFrom_105 ?_
      refine Aw.bs (fun τ3 => ?_)
      exact Aw.vret rfl dX3_copyFrom_108
    · refine Aw.aload_n 0 rfl rfl dX3_copyFrom_56 ?_
      refine Aw.getR fl_X3_20 (Nat.le_of_ble_eq_true rfl) rfl hr0 rfl dX3_copyFrom_57 ?_
      refine Aw.iload_n 2 rfl rfl dX3_copyFrom_60 ?_
      refine Aw.aald (n := 8) (t := 8) (ft_3_4 hr0).1 ⟨Nat.le_of_ble_eq_true rfl, Nat.le_of_ble_eq_true rfl⟩ (ft_3_4 hr0).2 rfl dX3_copyFrom_61 (fun hb4 => ?_)
      refine Aw.aload_n 1 rfl rfl dX3_copyFrom_62 ?_
      refine Aw.getR fl_X3_20 (Nat.le_of_ble_eq_true rfl) rfl hr1 rfl dX3_copyFrom_63 ?_
      refine Aw.iload_n 2 rfl rfl dX3_copyFrom_66 ?_
      refine Aw.aald (n := 8) (t := 8) (ft_3_4 hr1).1 ⟨Nat.le_of_ble_eq_true rfl, Nat.le_of_ble_eq_true rfl⟩ (ft_3_4 hr1).2 rfl dX3_copyFrom_67 (fun hb5 => ?_)
      refine Aw.callVv (As := [.ref (Gb G + rf (rf r1 4) (ix x2))]) (rest := []) cv_X3_44 (Nat.le_of_ble_eq_true rfl) (el_3_4 hr0 (inb_ix hb4)) (ct_X0_copyFrom l G (rf (rf r0 4) (ix x2)) (rf (rf r1 4) (ix x2)) σ) rfl rfl (Nat.le_of_ble_eq_true rfl) (Nat.le_of_ble_eq_true rfl) (Nat.le_of_ble_eq_true rfl) rfl dX3_copyFrom_68 (fun a6 τ7 _ => ?_)
      refine Aw.iinc (v := x2 + 1) (L' := [(2, .int (x2 + 1)), (0, .ref (Gb G + r0)), (1, .ref (Gb G + r1))]) 2 rfl (ii_1 _) (Nat.le_of_ble_eq_true rfl) rfl rfl dX3_copyFrom_71 ?_
      refine Aw.goto (q := 48) (by decide) dX3_copyFrom_74 ?_
      refine Aw.sub (L' := [(0, .ref (Gb G + r0)), (1, .ref (Gb G + r1)), (2, .int (x2 + 1))]) [1, 2, 0] rfl ?_
      exact ih _ _ _ _
set_option maxRecDepth 100000 in
set_option maxHeartbeats 4000000 in
theorem ct_X3_copyFrom (l : Launch) (G : Gt) (r0 : Nat) (r1 : Nat) (σ : Sg) : Ct l G yX3_copyFrom MX3_copyFrom rV [.ref (Gb G + r0), .ref (Gb G + r1)] σ (f_X3_copyFrom r0 r1 σ) := by
  refine Ct.of (by decide +kernel) rfl (Nat.le_of_ble_eq_true rfl) ?_
  show Aw l G MX3_copyFrom rV 0 [(0, .ref (Gb G + r0)), (1, .ref (Gb G + r1))] [] σ _
  unfold f_X3_copyFrom
  refine Aw.gd (fun hr0 => ?_)
  refine Aw.gd (fun hr1 => ?_)
  refine Aw.aload_n 0 rfl rfl dX3_copyFrom_0 ?_
  refine Aw.aload_n 1 rfl rfl dX3_copyFrom_1 ?_
  refine Aw.getI fl_X3_31 (Nat.le_of_ble_eq_true rfl) rfl hr1 rfl dX3_copyFrom_2 ?_
  refine Aw.putI (v := σ r1 0) fl_X3_31 fp_3_0 rfl rfl (Nat.le_of_ble_eq_true rfl) rfl hr0 rfl dX3_copyFrom_5 ?_
  refine Aw.bs (fun τ1 => ?_)
  refine Aw.aload_n 1 rfl rfl dX3_copyFrom_8 ?_
  refine Aw.getR fl_X3_9 (Nat.le_of_ble_eq_true rfl) rfl hr1 rfl dX3_copyFrom_9 ?_
  refine Aw.iconst (v := 0) ic_0 rfl dX3_copyFrom_12 ?_
  refine Aw.aload_n 0 rfl rfl dX3_copyFrom_13 ?_
  refine Aw.getR fl_X3_9 (Nat.le_of_ble_eq_true rfl) rfl hr0 rfl dX3_copyFrom_14 ?_
  refine Aw.iconst (v := 0) ic_0 rfl dX3_copyFrom_17 ?_
  refine Aw.bipush (v := 8) ib_8 rfl dX3_copyFrom_18 ?_
  refine Aw.acopy (n := 8) (n0 := 8) (n1 := 8) ml_X3_35 ac_nat ac_sta ini_J10 (ft_3_1 hr1).1 (ft_3_1 hr0).1 (ft_3_1 hr1).2 (ft_3_1 hr0).2 (by decide) (by decide) (by decide) (Nat.le_of_ble_eq_true rfl) (by decide) rfl dX3_copyFrom_20 ?_
  rw [cl_8]
  refine Aw.bs (fun τ2 => ?_)
  refine Aw.aload_n 1 rfl rfl dX3_copyFrom_23 ?_
  refine Aw.getR fl_X3_15 (Nat.le_of_ble_eq_true rfl) rfl hr1 rfl dX3_copyFrom_24 ?_
  refine Aw.iconst (v := 0) ic_0 rfl dX3_copyFrom_27 ?_
  refine Aw.aload_n 0 rfl rfl dX3_copyFrom_28 ?_
  refine Aw.getR fl_X3_15 (Nat.le_of_ble_eq_true rfl) rfl hr0 rfl dX3_copyFrom_29 ?_
  refine Aw.iconst (v := 0) ic_0 rfl dX3_copyFrom_32 ?_
  refine Aw.bipush (v := 8) ib_8 rfl dX3_copyFrom_33 ?_
  refine Aw.acopy (n := 8) (n0 := 8) (n1 := 8) ml_X3_35 ac_nat ac_sta ini_J10 (ft_3_2 hr1).1 (ft_3_2 hr0).1 (ft_3_2 hr1).2 (ft_3_2 hr0).2 (by decide) (by decide) (by decide) (Nat.le_of_ble_eq_true rfl) (by decide) rfl dX3_copyFrom_35 ?_
  rw [cl_8]
  refine Aw.bs (fun τ3 => ?_)
  refine Aw.aload_n 0 rfl rfl dX3_copyFrom_38 ?_
  refine Aw.aload_n 1 rfl rfl dX3_copyFrom_39 ?_
  refine Aw.getI fl_X3_41 (Nat.le_of_ble_eq_true rfl) rfl hr1 rfl dX3_copyFrom_40 ?_
  refine Aw.putI (v := τ3 r1 3) fl_X3_41 fp_3_3 rfl rfl (Nat.le_of_ble_eq_true rfl) rfl hr0 rfl dX3_copyFrom_43 ?_
  refine Aw.bs (fun τ4 => ?_)
  refine Aw.iconst (v := 0) ic_0 rfl dX3_copyFrom_46 ?_
  refine Aw.istore_n (L' := [(2, .int 0), (0, .ref (Gb G + r0)), (1, .ref (Gb G + r1))]) (Nat.le_of_ble_eq_true rfl) rfl rfl dX3_copyFrom_47 ?_
  refine Aw.sub (L' := [(0, .ref (Gb G + r0)), (1, .ref (Gb G + r1)), (2, .int 0)]) [1, 2, 0] rfl ?_
  exact aw_X3_copyFrom_48 l G FU _ _ _ _
abbrev MX5_arePaired : Mt := (RX5, cX5_arePaired, 2, (some .boolean), 1)
def f_X5_arePaired (x0 : Int32) (x1 : Int32) (σ : Sg) : Option (Int32 × Sg) := if (if 0 ≤ x0 - x1 then x0 - x1 else 0 - (x0 - x1)) = 4 then (if x0 / 16 = x1 / 16 then (some (1, σ)) else (some (0, σ))) else (some (0, σ))
set_option maxRecDepth 100000 in
set_option maxHeartbeats 4000000 in
theorem ct_X5_arePaired (l : Launch) (G : Gt) (x0 : Int32) (x1 : Int32) (σ : Sg) : Ct l G yX5_arePaired MX5_arePaired rI [.int x0, .int x1] σ (f_X5_arePaired x0 x1 σ) := by
  refine Ct.of (by decide +kernel) rfl (Nat.le_of_ble_eq_true rfl) ?_
  show Aw l G MX5_arePaired rI 0 [(0, .int x0), (1, .int x1)] [] σ _
  unfold f_X5_arePaired
  refine Aw.iload_n 0 rfl rfl dX5_arePaired_0 ?_
  refine Aw.iload_n 1 rfl rfl dX5_arePaired_1 ?_
  refine Aw.isub rfl dX5_arePaired_2 ?_
  refine Aw.mabs ml_X5_206 sta_J9_abs_0f7a4 ini_J9 cw_J9_abs_0f7a4 (Nat.le_of_ble_eq_true rfl) (by decide) rfl dX5_arePaired_3 ?_
  refine Aw.iconst (v := 4) ic_4 rfl dX5_arePaired_6 ?_
  refine Aw.icmp_ne (q := 10) (t := 25) rfl (by decide) dX5_arePaired_7 (fun hc => ?_) (fun hc => ?_)
  · refine Aw.iload_n 0 rfl rfl dX5_arePaired_10 ?_
    refine Aw.bipush (v := 16) ib_16 rfl dX5_arePaired_11 ?_
    refine Aw.idiv nz_16 rfl dX5_arePaired_13 ?_
    refine Aw.iload_n 1 rfl rfl dX5_arePaired_14 ?_
    refine Aw.bipush (v := 16) ib_16 rfl dX5_arePaired_15 ?_
    refine Aw.idiv nz_16 rfl dX5_arePaired_17 ?_
    refine Aw.icmp_ne (q := 21) (t := 25) rfl (by decide) dX5_arePaired_18 (fun hc => ?_) (fun hc => ?_)
    · refine Aw.iconst (v := 1) ic_1 rfl dX5_arePaired_21 ?_
      refine Aw.goto (q := 26) (by decide) dX5_arePaired_22 ?_
      exact Aw.zret rfl rfl dX5_arePaired_26
    · refine Aw.iconst (v := 0) ic_0 rfl dX5_arePaired_25 ?_
      exact Aw.zret rfl rfl dX5_arePaired_26
  · refine Aw.iconst (v := 0) ic_0 rfl dX5_arePaired_25 ?_
    exact Aw.zret rfl rfl dX5_arePaired_26
abbrev MX5_heldSpots : Mt := (RX5, cX5_heldSpots, 4, (some .int), 1)
def f_X5_heldSpots_4  : Nat → Nat → Int32 → Int32 → Int32 → Sg → Option (Int32 × Sg)
  | 0, _, _, _, _, _ => none
  | n + 1, r0, x1, x2, x3, σ => if kd r0 = 7 then (if x1 ≤ x3 then (some (x2, σ)) else (if inb x3 (ln r0) then (bn (x2 ||| (1 <<< (((σ r0 (ix x3)) / 4) &&& 31))) (fun b2 => f_X5_heldSpots_4 n r0 x1 b2 (x3 + 1) σ)) else none)) else none
def f_X5_heldSpots (r0 : Nat) (x1 : Int32) (σ : Sg) : Option (Int32 × Sg) := if kd r0 = 7 then (f_X5_heldSpots_4 FU r0 x1 0 0 σ) else none
set_option maxRecDepth 100000 in
set_option maxHeartbeats 4000000 in
theorem aw_X5_heldSpots_4 (l : Launch) (G : Gt) : ∀ (n : Nat) (r0 : Nat) (x1 : Int32) (x2 : Int32) (x3 : Int32) (σ : Sg), Aw l G MX5_heldSpots rI 4 [(0, .ref (Gb G + r0)), (1, .int x1), (2, .int x2), (3, .int x3)] [] σ (f_X5_heldSpots_4 n r0 x1 x2 x3 σ) := by
  intro n
  induction n with
  | zero => intro r0 x1 x2 x3 σ; exact Aw.no
  | succ n ih =>
    intro r0 x1 x2 x3 σ
    rw [f_X5_heldSpots_4]
    refine Aw.gd (fun hr0 => ?_)
    refine Aw.iload_n 3 rfl rfl dX5_heldSpots_4 ?_
    refine Aw.iload_n 1 rfl rfl dX5_heldSpots_5 ?_
    refine Aw.icmp_ge (q := 9) (t := 25) rfl (by decide) dX5_heldSpots_6 (fun hc => ?_) (fun hc => ?_)
    · refine Aw.iload_n 2 rfl rfl dX5_heldSpots_25 ?_
      exact Aw.iret rfl dX5_heldSpots_26
    · refine Aw.iload_n 2 rfl rfl dX5_heldSpots_9 ?_
      refine Aw.iconst (v := 1) ic_1 rfl dX5_heldSpots_10 ?_
      refine Aw.aload_n 0 rfl rfl dX5_heldSpots_11 ?_
      refine Aw.iload_n 3 rfl rfl dX5_heldSpots_12 ?_
      refine Aw.iald (n := ln r0) hr0 rfl rfl dX5_heldSpots_13 (fun hb1 => ?_)
      refine Aw.iconst (v := 4) ic_4 rfl dX5_heldSpots_14 ?_
      refine Aw.idiv nz_4 rfl dX5_heldSpots_15 ?_
      refine Aw.ishl rfl dX5_heldSpots_16 ?_
      refine Aw.ior rfl dX5_heldSpots_17 ?_
      refine Aw.bi (fun b2 => ?_)
      refine Aw.istore_n (L' := [(2, .int b2), (0, .ref (Gb G + r0)), (1, .int x1), (3, .int x3)]) (Nat.le_of_ble_eq_true rfl) rfl rfl dX5_heldSpots_18 ?_
      refine Aw.iinc (v := x3 + 1) (L' := [(3, .int (x3 + 1)), (2, .int b2), (0, .ref (Gb G + r0)), (1, .int x1)]) 3 rfl (ii_1 _) (Nat.le_of_ble_eq_true rfl) rfl rfl dX5_heldSpots_19 ?_
      refine Aw.goto (q := 4) (by decide) dX5_heldSpots_22 ?_
      refine Aw.sub (L' := [(0, .ref (Gb G + r0)), (1, .int x1), (2, .int b2), (3, .int (x3 + 1))]) [2, 3, 1, 0] rfl ?_
      exact ih _ _ _ _ _
set_option maxRecDepth 100000 in
set_option maxHeartbeats 4000000 in
theorem ct_X5_heldSpots (l : Launch) (G : Gt) (r0 : Nat) (x1 : Int32) (σ : Sg) : Ct l G yX5_heldSpots MX5_heldSpots rI [.ref (Gb G + r0), .int x1] σ (f_X5_heldSpots r0 x1 σ) := by
  refine Ct.of (by decide +kernel) rfl (Nat.le_of_ble_eq_true rfl) ?_
  show Aw l G MX5_heldSpots rI 0 [(0, .ref (Gb G + r0)), (1, .int x1)] [] σ _
  unfold f_X5_heldSpots
  refine Aw.gd (fun hr0 => ?_)
  refine Aw.iconst (v := 0) ic_0 rfl dX5_heldSpots_0 ?_
  refine Aw.istore_n (L' := [(2, .int 0), (0, .ref (Gb G + r0)), (1, .int x1)]) (Nat.le_of_ble_eq_true rfl) rfl rfl dX5_heldSpots_1 ?_
  refine Aw.iconst (v := 0) ic_0 rfl dX5_heldSpots_2 ?_
  refine Aw.istore_n (L' := [(3, .int 0), (2, .int 0), (0, .ref (Gb G + r0)), (1, .int x1)]) (Nat.le_of_ble_eq_true rfl) rfl rfl dX5_heldSpots_3 ?_
  refine Aw.sub (L' := [(0, .ref (Gb G + r0)), (1, .int x1), (2, .int 0), (3, .int 0)]) [2, 3, 1, 0] rfl ?_
  exact aw_X5_heldSpots_4 l G FU _ _ _ _ _
abbrev MX5_isBelow : Mt := (RX5, cX5_isBelow, 2, (some .boolean), 1)
def f_X5_isBelow (x0 : Int32) (x1 : Int32) (σ : Sg) : Option (Int32 × Sg) := if x0 < 0 then (some (0, σ)) else (if x1 ≤ x0 then (some (0, σ)) else (some (1, σ)))
set_option maxRecDepth 100000 in
set_option maxHeartbeats 4000000 in
theorem ct_X5_isBelow (l : Launch) (G : Gt) (x0 : Int32) (x1 : Int32) (σ : Sg) : Ct l G yX5_isBelow MX5_isBelow rI [.int x0, .int x1] σ (f_X5_isBelow x0 x1 σ) := by
  refine Ct.of (by decide +kernel) rfl (Nat.le_of_ble_eq_true rfl) ?_
  show Aw l G MX5_isBelow rI 0 [(0, .int x0), (1, .int x1)] [] σ _
  unfold f_X5_isBelow
  refine Aw.iload_n 0 rfl rfl dX5_isBelow_0 ?_
  refine Aw.if_lt (q := 4) (t := 13) rfl (by decide) dX5_isBelow_1 (fun hc => ?_) (fun hc => ?_)
  · refine Aw.iconst (v := 0) ic_0 rfl dX5_isBelow_13 ?_
    exact Aw.zret rfl rfl dX5_isBelow_14
  · refine Aw.iload_n 0 rfl rfl dX5_isBelow_4 ?_
    refine Aw.iload_n 1 rfl rfl dX5_isBelow_5 ?_
    refine Aw.icmp_ge (q := 9) (t := 13) rfl (by decide) dX5_isBelow_6 (fun hc => ?_) (fun hc => ?_)
    · refine Aw.iconst (v := 0) ic_0 rfl dX5_isBelow_13 ?_
      exact Aw.zret rfl rfl dX5_isBelow_14
    · refine Aw.iconst (v := 1) ic_1 rfl dX5_isBelow_9 ?_
      refine Aw.goto (q := 14) (by decide) dX5_isBelow_10 ?_
      exact Aw.zret rfl rfl dX5_isBelow_14
abbrev MX3_isHome : Mt := (RX3, cX3_isHome, 3, (some .boolean), 1)
def f_X3_isHome_2  : Nat → Nat → Int32 → Int32 → Sg → Option (Int32 × Sg)
  | 0, _, _, _, _ => none
  | n + 1, r0, x1, x2, σ => if kd r0 = 3 then (if σ r0 0 ≤ x2 then (some (0, σ)) else (if inb x2 8 then (if (σ (rf r0 2) (ix x2)) / 4 = x1 then (some (1, σ)) else (f_X3_isHome_2 n r0 x1 (x2 + 1) σ)) else none)) else none
def f_X3_isHome (r0 : Nat) (x1 : Int32) (σ : Sg) : Option (Int32 × Sg) := if kd r0 = 3 then (f_X3_isHome_2 FU r0 x1 0 σ) else none
set_option maxRecDepth 100000 in
set_option maxHeartbeats 4000000 in
theorem aw_X3_isHome_2 (l : Launch) (G : Gt) : ∀ (n : Nat) (r0 : Nat) (x1 : Int32) (x2 : Int32) (σ : Sg), Aw l G MX3_isHome rI 2 [(0, .ref (Gb G + r0)), (1, .int x1), (2, .int x2)] [] σ (f_X3_isHome_2 n r0 x1 x2 σ) := by
  intro n
  induction n with
  | zero => intro r0 x1 x2 σ; exact Aw.no
  | succ n ih =>
    intro r0 x1 x2 σ
    rw [f_X3_isHome_2]
    refine Aw.gd (fun hr0 => ?_)
    refine Aw.iload_n 2 rfl rfl dX3_isHome_2 ?_
    refine Aw.aload_n 0 rfl rfl dX3_isHome_3 ?_
    refine Aw.getI fl_X3_31 (Nat.le_of_ble_eq_true rfl) rfl hr0 rfl dX3_isHome_4 ?_
    refine Aw.icmp_ge (q := 10) (t := 30) rfl (by decide) dX3_isHome_7 (fun hc => ?_) (fun hc => ?_)
    · refine Aw.iconst (v := 0) ic_0 rfl dX3_isHome_30 ?_
      exact Aw.zret rfl rfl dX3_isHome_31
    · refine Aw.aload_n 0 rfl rfl dX3_isHome_10 ?_
      refine Aw.getR fl_X3_15 (Nat.le_of_ble_eq_true rfl) rfl hr0 rfl dX3_isHome_11 ?_
      refine Aw.iload_n 2 rfl rfl dX3_isHome_14 ?_
      refine Aw.iald (n := 8) (ft_3_2 hr0).1 (ft_3_2 hr0).2 rfl dX3_isHome_15 (fun hb1 => ?_)
      refine Aw.iconst (v := 4) ic_4 rfl dX3_isHome_16 ?_
      refine Aw.idiv nz_4 rfl dX3_isHome_17 ?_
      refine Aw.iload_n 1 rfl rfl dX3_isHome_18 ?_
      refine Aw.icmp_ne (q := 22) (t := 24) rfl (by decide) dX3_isHome_19 (fun hc => ?_) (fun hc => ?_)
      · refine Aw.iconst (v := 1) ic_1 rfl dX3_isHome_22 ?_
        exact Aw.zret rfl rfl dX3_isHome_23
      · refine Aw.iinc (v := x2 + 1) (L' := [(2, .int (x2 + 1)), (0, .ref (Gb G + r0)), (1, .int x1)]) 2 rfl (ii_1 _) (Nat.le_of_ble_eq_true rfl) rfl rfl dX3_isHome_24 ?_
        refine Aw.goto (q := 2) (by decide) dX3_isHome_27 ?_
        refine Aw.sub (L' := [(0, .ref (Gb G + r0)), (1, .int x1), (2, .int (x2 + 1))]) [1, 2, 0] rfl ?_
        exact ih _ _ _ _
set_option maxRecDepth 100000 in
set_option maxHeartbeats 4000000 in
theorem ct_X3_isHome (l : Launch) (G : Gt) (r0 : Nat) (x1 : Int32) (σ : Sg) : Ct l G yX3_isHome MX3_isHome rI [.ref (Gb G + r0), .int x1] σ (f_X3_isHome r0 x1 σ) := by
  refine Ct.of (by decide +kernel) rfl (Nat.le_of_ble_eq_true rfl) ?_
  show Aw l G MX3_isHome rI 0 [(0, .ref (Gb G + r0)), (1, .int x1)] [] σ _
  unfold f_X3_isHome
  refine Aw.gd (fun hr0 => ?_)
  refine Aw.iconst (v := 0) ic_0 rfl dX3_isHome_0 ?_
  refine Aw.istore_n (L' := [(2, .int 0), (0, .ref (Gb G + r0)), (1, .int x1)]) (Nat.le_of_ble_eq_true rfl) rfl rfl dX3_isHome_1 ?_
  refine Aw.sub (L' := [(0, .ref (Gb G + r0)), (1, .int x1), (2, .int 0)]) [1, 2, 0] rfl ?_
  exact aw_X3_isHome_2 l G FU _ _ _ _
abbrev MX3_whoIsOn : Mt := (RX3, cX3_whoIsOn, 3, (some .int), 1)
def f_X3_whoIsOn_2  : Nat → Nat → Int32 → Int32 → Sg → Option (Int32 × Sg)
  | 0, _, _, _, _ => none
  | n + 1, r0, x1, x2, σ => if kd r0 = 3 then (if σ r0 0 ≤ x2 then (some ((-1), σ)) else (if inb x2 8 then (if (σ (rf r0 1) (ix x2)) / 4 = x1 then (some (x2, σ)) else (f_X3_whoIsOn_2 n r0 x1 (x2 + 1) σ)) else none)) else none
def f_X3_whoIsOn (r0 : Nat) (x1 : Int32) (σ : Sg) : Option (Int32 × Sg) := if kd r0 = 3 then (f_X3_whoIsOn_2 FU r0 x1 0 σ) else none
set_option maxRecDepth 100000 in
set_option maxHeartbeats 4000000 in
theorem aw_X3_whoIsOn_2 (l : Launch) (G : Gt) : ∀ (n : Nat) (r0 : Nat) (x1 : Int32) (x2 : Int32) (σ : Sg), Aw l G MX3_whoIsOn rI 2 [(0, .ref (Gb G + r0)), (1, .int x1), (2, .int x2)] [] σ (f_X3_whoIsOn_2 n r0 x1 x2 σ) := by
  intro n
  induction n with
  | zero => intro r0 x1 x2 σ; exact Aw.no
  | succ n ih =>
    intro r0 x1 x2 σ
    rw [f_X3_whoIsOn_2]
    refine Aw.gd (fun hr0 => ?_)
    refine Aw.iload_n 2 rfl rfl dX3_whoIsOn_2 ?_
    refine Aw.aload_n 0 rfl rfl dX3_whoIsOn_3 ?_
    refine Aw.getI fl_X3_31 (Nat.le_of_ble_eq_true rfl) rfl hr0 rfl dX3_whoIsOn_4 ?_
    refine Aw.icmp_ge (q := 10) (t := 30) rfl (by decide) dX3_whoIsOn_7 (fun hc => ?_) (fun hc => ?_)
    · refine Aw.iconst (v := (-1)) ic_m1 rfl dX3_whoIsOn_30 ?_
      exact Aw.iret rfl dX3_whoIsOn_31
    · refine Aw.aload_n 0 rfl rfl dX3_whoIsOn_10 ?_
      refine Aw.getR fl_X3_9 (Nat.le_of_ble_eq_true rfl) rfl hr0 rfl dX3_whoIsOn_11 ?_
      refine Aw.iload_n 2 rfl rfl dX3_whoIsOn_14 ?_
      refine Aw.iald (n := 8) (ft_3_1 hr0).1 (ft_3_1 hr0).2 rfl dX3_whoIsOn_15 (fun hb1 => ?_)
      refine Aw.iconst (v := 4) ic_4 rfl dX3_whoIsOn_16 ?_
      refine Aw.idiv nz_4 rfl dX3_whoIsOn_17 ?_
      refine Aw.iload_n 1 rfl rfl dX3_whoIsOn_18 ?_
      refine Aw.icmp_ne (q := 22) (t := 24) rfl (by decide) dX3_whoIsOn_19 (fun hc => ?_) (fun hc => ?_)
      · refine Aw.iload_n 2 rfl rfl dX3_whoIsOn_22 ?_
        exact Aw.iret rfl dX3_whoIsOn_23
      · refine Aw.iinc (v := x2 + 1) (L' := [(2, .int (x2 + 1)), (0, .ref (Gb G + r0)), (1, .int x1)]) 2 rfl (ii_1 _) (Nat.le_of_ble_eq_true rfl) rfl rfl dX3_whoIsOn_24 ?_
        refine Aw.goto (q := 2) (by decide) dX3_whoIsOn_27 ?_
        refine Aw.sub (L' := [(0, .ref (Gb G + r0)), (1, .int x1), (2, .int (x2 + 1))]) [1, 2, 0] rfl ?_
        exact ih _ _ _ _
set_option maxRecDepth 100000 in
set_option maxHeartbeats 4000000 in
theorem ct_X3_whoIsOn (l : Launch) (G : Gt) (r0 : Nat) (x1 : Int32) (σ : Sg) : Ct l G yX3_whoIsOn MX3_whoIsOn rI [.ref (Gb G + r0), .int x1] σ (f_X3_whoIsOn r0 x1 σ) := by
  refine Ct.of (by decide +kernel) rfl (Nat.le_of_ble_eq_true rfl) ?_
  show Aw l G MX3_whoIsOn rI 0 [(0, .ref (Gb G + r0)), (1, .int x1)] [] σ _
  unfold f_X3_whoIsOn
  refine Aw.gd (fun hr0 => ?_)
  refine Aw.iconst (v := 0) ic_0 rfl dX3_whoIsOn_0 ?_
  refine Aw.istore_n (L' := [(2, .int 0), (0, .ref (Gb G + r0)), (1, .int x1)]) (Nat.le_of_ble_eq_true rfl) rfl rfl dX3_whoIsOn_1 ?_
  refine Aw.sub (L' := [(0, .ref (Gb G + r0)), (1, .int x1), (2, .int 0)]) [1, 2, 0] rfl ?_
  exact aw_X3_whoIsOn_2 l G FU _ _ _ _
abbrev MX3_addDancer : Mt := (RX3, cX3_addDancer, 3, (some .int), 2)
def f_X3_addDancer (r0 : Nat) (x1 : Int32) (x2 : Int32) (σ : Sg) : Option (Int32 × Sg) := if kd r0 = 3 then (cb (f_X5_isBelow x1 12 σ) (fun a1 τ2 => if a1 = 0 then (some ((-2), τ2)) else (cb (f_X5_isBelow x2 4 τ2) (fun a3 τ4 => if a3 = 0 then (some ((-2), τ4)) else (cb (f_X3_whoIsOn r0 x1 τ4) (fun a5 τ6 => if a5 = (-1) then (cb (f_X3_isHome r0 x1 τ6) (fun a7 τ8 => if a7 = 0 then (if τ8 r0 0 < 8 then (if inb (τ8 r0 0) 8 then (bn (up τ8 (rf r0 1) (ix (τ8 r0 0)) ((x1 * 4) + x2)) (fun τ10 => if inb (τ10 r0 0) 8 then (if inb (τ10 r0 0) 8 then (bn (up τ10 (rf r0 2) (ix (τ10 r0 0)) (τ10 (rf r0 1) (ix (τ10 r0 0)))) (fun τ13 => bn (up τ13 r0 0 ((τ13 r0 0) + 1)) (fun τ14 => some ((τ14 r0 0) - 1, τ14)))) else none) else none)) else none) else (some ((-4), τ8))) else (some ((-2), τ8)))) else (some ((-2), τ6)))))))) else none
theorem cn_X3_54 : CN RX3 54 yX5_isBelow RX5 MX5_isBelow 2 := ⟨by decide +kernel, sta_X5_isBelow, ini_X5, cw_X5_isBelow, ⟨by decide, by decide, by decide +kernel⟩⟩
theorem cv_X3_58 : CV RX3 58 3 yX3_whoIsOn MX3_whoIsOn 1 := ⟨_, rfl, rfl, ml_X3_58, ins_X3_whoIsOn, sel_X3_whoIsOn, ini_X3, cw_X3_whoIsOn, ⟨by decide, by decide, by decide +kernel⟩⟩
theorem cv_X3_62 : CV RX3 62 3 yX3_isHome MX3_isHome 1 := ⟨_, rfl, rfl, ml_X3_62, ins_X3_isHome, sel_X3_isHome, ini_X3, cw_X3_isHome, ⟨by decide, by decide, by decide +kernel⟩⟩
set_option maxRecDepth 100000 in
set_option maxHeartbeats 4000000 in
theorem ct_X3_addDancer (l : Launch) (G : Gt) (r0 : Nat) (x1 : Int32) (x2 : Int32) (σ : Sg) : Ct l G yX3_addDancer MX3_addDancer rI [.ref (Gb G + r0), .int x1, .int x2] σ (f_X3_addDancer r0 x1 x2 σ) := by
  refine Ct.of (by decide +kernel) rfl (Nat.le_of_ble_eq_true rfl) ?_
  show Aw l G MX3_addDancer rI 0 [(0, .ref (Gb G + r0)), (1, .int x1), (2, .int x2)] [] σ _
  unfold f_X3_addDancer
  refine Aw.gd (fun hr0 => ?_)
  refine Aw.iload_n 1 rfl rfl dX3_addDancer_0 ?_
  refine Aw.bipush (v := 12) ib_12 rfl dX3_addDancer_1 ?_
  refine Aw.callNi (As := [.int x1, .int 12]) (rest := []) cn_X3_54 (ct_X5_isBelow l G x1 12 σ) rfl rfl (Nat.le_of_ble_eq_true rfl) (Nat.le_of_ble_eq_true rfl) (Nat.le_of_ble_eq_true rfl) rfl dX3_addDancer_3 (fun a1 τ2 _ => ?_)
  refine Aw.if_eq (q := 9) (t := 34) rfl (by decide) dX3_addDancer_6 (fun hc => ?_) (fun hc => ?_)
  · refine Aw.bipush (v := (-2)) ib_m2 rfl dX3_addDancer_34 ?_
    exact Aw.iret rfl dX3_addDancer_36
  · refine Aw.iload_n 2 rfl rfl dX3_addDancer_9 ?_
    refine Aw.iconst (v := 4) ic_4 rfl dX3_addDancer_10 ?_
    refine Aw.callNi (As := [.int x2, .int 4]) (rest := []) cn_X3_54 (ct_X5_isBelow l G x2 4 τ2) rfl rfl (Nat.le_of_ble_eq_true rfl) (Nat.le_of_ble_eq_true rfl) (Nat.le_of_ble_eq_true rfl) rfl dX3_addDancer_11 (fun a3 τ4 _ => ?_)
    refine Aw.if_eq (q := 17) (t := 34) rfl (by decide) dX3_addDancer_14 (fun hc => ?_) (fun hc => ?_)
    · refine Aw.bipush (v := (-2)) ib_m2 rfl dX3_addDancer_34 ?_
      exact Aw.iret rfl dX3_addDancer_36
    · refine Aw.aload_n 0 rfl rfl dX3_addDancer_17 ?_
      refine Aw.iload_n 1 rfl rfl dX3_addDancer_18 ?_
      refine Aw.callVi (As := [.int x1]) (rest := []) cv_X3_58 (Nat.le_of_ble_eq_true rfl) hr0 (ct_X3_whoIsOn l G r0 x1 τ4) rfl rfl (Nat.le_of_ble_eq_true rfl) (Nat.le_of_ble_eq_true rfl) (Nat.le_of_ble_eq_true rfl) rfl dX3_addDancer_19 (fun a5 τ6 _ => ?_)
      refine Aw.iconst (v := (-1)) ic_m1 rfl dX3_addDancer_22 ?_
      refine Aw.icmp_ne (q := 26) (t := 34) rfl (by decide) dX3_addDancer_23 (fun hc => ?_) (fun hc => ?_)
      · refine Aw.aload_n 0 rfl rfl dX3_addDancer_26 ?_
        refine Aw.iload_n 1 rfl rfl dX3_addDancer_27 ?_
        refine Aw.callVi (As := [.int x1]) (rest := []) cv_X3_62 (Nat.le_of_ble_eq_true rfl) hr0 (ct_X3_isHome l G r0 x1 τ6) rfl rfl (Nat.le_of_ble_eq_true rfl) (Nat.le_of_ble_eq_true rfl) (Nat.le_of_ble_eq_true rfl) rfl dX3_addDancer_28 (fun a7 τ8 _ => ?_)
        refine Aw.if_eq (q := 34) (t := 37) rfl (by decide) dX3_addDancer_31 (fun hc => ?_) (fun hc => ?_)
        · refine Aw.aload_n 0 rfl rfl dX3_addDancer_37 ?_
          refine Aw.getI fl_X3_31 (Nat.le_of_ble_eq_true rfl) rfl hr0 rfl dX3_addDancer_38 ?_
          refine Aw.bipush (v := 8) ib_8 rfl dX3_addDancer_41 ?_
          refine Aw.icmp_lt (q := 46) (t := 49) rfl (by decide) dX3_addDancer_43 (fun hc => ?_) (fun hc => ?_)
          · refine Aw.aload_n 0 rfl rfl dX3_addDancer_49 ?_
            refine Aw.getR fl_X3_9 (Nat.le_of_ble_eq_true rfl) rfl hr0 rfl dX3_addDancer_50 ?_
            refine Aw.aload_n 0 rfl rfl dX3_addDancer_53 ?_
            refine Aw.getI fl_X3_31 (Nat.le_of_ble_eq_true rfl) rfl hr0 rfl dX3_addDancer_54 ?_
            refine Aw.iload_n 1 rfl rfl dX3_addDancer_57 ?_
            refine Aw.iconst (v := 4) ic_4 rfl dX3_addDancer_58 ?_
            refine Aw.imul rfl dX3_addDancer_59 ?_
            refine Aw.iload_n 2 rfl rfl dX3_addDancer_60 ?_
            refine Aw.iadd rfl dX3_addDancer_61 ?_
            refine Aw.iast (n := 8) (ft_3_1 hr0).1 (ft_3_1 hr0).2 rfl dX3_addDancer_62 (fun hb9 => ?_)
            refine Aw.bs (fun τ10 => ?_)
            refine Aw.aload_n 0 rfl rfl dX3_addDancer_63 ?_
            refine Aw.getR fl_X3_15 (Nat.le_of_ble_eq_true rfl) rfl hr0 rfl dX3_addDancer_64 ?_
            refine Aw.aload_n 0 rfl rfl dX3_addDancer_67 ?_
            refine Aw.getI fl_X3_31 (Nat.le_of_ble_eq_true rfl) rfl hr0 rfl dX3_addDancer_68 ?_
            refine Aw.aload_n 0 rfl rfl dX3_addDancer_71 ?_
            refine Aw.getR fl_X3_9 (Nat.le_of_ble_eq_true rfl) rfl hr0 rfl dX3_addDancer_72 ?_
            refine Aw.aload_n 0 rfl rfl dX3_addDancer_75 ?_
            refine Aw.getI fl_X3_31 (Nat.le_of_ble_eq_true rfl) rfl hr0 rfl dX3_addDancer_76 ?_
            refine Aw.iald (n := 8) (ft_3_1 hr0).1 (ft_3_1 hr0).2 rfl dX3_addDancer_79 (fun hb11 => ?_)
            refine Aw.iast (n := 8) (ft_3_2 hr0).1 (ft_3_2 hr0).2 rfl dX3_addDancer_80 (fun hb12 => ?_)
            refine Aw.bs (fun τ13 => ?_)
            refine Aw.aload_n 0 rfl rfl dX3_addDancer_81 ?_
            refine Aw.dupr rfl dX3_addDancer_82 ?_
            refine Aw.getI fl_X3_31 (Nat.le_of_ble_eq_true rfl) rfl hr0 rfl dX3_addDancer_83 ?_
            refine Aw.iconst (v := 1) ic_1 rfl dX3_addDancer_86 ?_
            refine Aw.iadd rfl dX3_addDancer_87 ?_
            refine Aw.putI (v := (τ13 r0 0) + 1) fl_X3_31 fp_3_0 rfl rfl (Nat.le_of_ble_eq_true rfl) rfl hr0 rfl dX3_addDancer_88 ?_
            refine Aw.bs (fun τ14 => ?_)
            refine Aw.aload_n 0 rfl rfl dX3_addDancer_91 ?_
            refine Aw.getI fl_X3_31 (Nat.le_of_ble_eq_true rfl) rfl hr0 rfl dX3_addDancer_92 ?_
            refine Aw.iconst (v := 1) ic_1 rfl dX3_addDancer_95 ?_
            refine Aw.isub rfl dX3_addDancer_96 ?_
            exact Aw.iret rfl dX3_addDancer_97
          · refine Aw.bipush (v := (-4)) ib_m4 rfl dX3_addDancer_46 ?_
            exact Aw.iret rfl dX3_addDancer_48
        · refine Aw.bipush (v := (-2)) ib_m2 rfl dX3_addDancer_34 ?_
          exact Aw.iret rfl dX3_addDancer_36
      · refine Aw.bipush (v := (-2)) ib_m2 rfl dX3_addDancer_34 ?_
        exact Aw.iret rfl dX3_addDancer_36
abbrev MX3_addCall : Mt := (RX3, cX3_addCall, 1, (some .int), 2)
def f_X3_addCall (r0 : Nat) (σ : Sg) : Option (Int32 × Sg) := if kd r0 = 3 then (if σ r0 3 < 8 then (if inb (σ r0 3) 8 then (cb (f_X0_reset (rf (rf r0 4) (ix (σ r0 3))) σ) (fun _ τ3 => bn (up τ3 r0 3 ((τ3 r0 3) + 1)) (fun τ4 => some ((τ4 r0 3) - 1, τ4)))) else none) else (some ((-4), σ))) else none
theorem cv_X3_66 : CV RX3 66 0 yX0_reset MX0_reset 0 := ⟨_, rfl, rfl, ml_X3_66, ins_X0_reset, sel_X0_reset, ini_X0, cw_X0_reset, ⟨by decide, by decide, by decide +kernel⟩⟩
set_option maxRecDepth 100000 in
set_option maxHeartbeats 4000000 in
theorem ct_X3_addCall (l : Launch) (G : Gt) (r0 : Nat) (σ : Sg) : Ct l G yX3_addCall MX3_addCall rI [.ref (Gb G + r0)] σ (f_X3_addCall r0 σ) := by
  refine Ct.of (by decide +kernel) rfl (Nat.le_of_ble_eq_true rfl) ?_
  show Aw l G MX3_addCall rI 0 [(0, .ref (Gb G + r0))] [] σ _
  unfold f_X3_addCall
  refine Aw.gd (fun hr0 => ?_)
  refine Aw.aload_n 0 rfl rfl dX3_addCall_0 ?_
  refine Aw.getI fl_X3_41 (Nat.le_of_ble_eq_true rfl) rfl hr0 rfl dX3_addCall_1 ?_
  refine Aw.bipush (v := 8) ib_8 rfl dX3_addCall_4 ?_
  refine Aw.icmp_lt (q := 9) (t := 12) rfl (by decide) dX3_addCall_6 (fun hc => ?_) (fun hc => ?_)
  · refine Aw.aload_n 0 rfl rfl dX3_addCall_12 ?_
    refine Aw.getR fl_X3_20 (Nat.le_of_ble_eq_true rfl) rfl hr0 rfl dX3_addCall_13 ?_
    refine Aw.aload_n 0 rfl rfl dX3_addCall_16 ?_
    refine Aw.getI fl_X3_41 (Nat.le_of_ble_eq_true rfl) rfl hr0 rfl dX3_addCall_17 ?_
    refine Aw.aald (n := 8) (t := 8) (ft_3_4 hr0).1 ⟨Nat.le_of_ble_eq_true rfl, Nat.le_of_ble_eq_true rfl⟩ (ft_3_4 hr0).2 rfl dX3_addCall_20 (fun hb1 => ?_)
    refine Aw.callVv (As := []) (rest := []) cv_X3_66 (Nat.le_of_ble_eq_true rfl) (el_3_4 hr0 (inb_ix hb1)) (ct_X0_reset l G (rf (rf r0 4) (ix (σ r0 3))) σ) rfl rfl (Nat.le_of_ble_eq_true rfl) (Nat.le_of_ble_eq_true rfl) (Nat.le_of_ble_eq_true rfl) rfl dX3_addCall_21 (fun a2 τ3 _ => ?_)
    refine Aw.aload_n 0 rfl rfl dX3_addCall_24 ?_
    refine Aw.dupr rfl dX3_addCall_25 ?_
    refine Aw.getI fl_X3_41 (Nat.le_of_ble_eq_true rfl) rfl hr0 rfl dX3_addCall_26 ?_
    refine Aw.iconst (v := 1) ic_1 rfl dX3_addCall_29 ?_
    refine Aw.iadd rfl dX3_addCall_30 ?_
    refine Aw.putI (v := (τ3 r0 3) + 1) fl_X3_41 fp_3_3 rfl rfl (Nat.le_of_ble_eq_true rfl) rfl hr0 rfl dX3_addCall_31 ?_
    refine Aw.bs (fun τ4 => ?_)
    refine Aw.aload_n 0 rfl rfl dX3_addCall_34 ?_
    refine Aw.getI fl_X3_41 (Nat.le_of_ble_eq_true rfl) rfl hr0 rfl dX3_addCall_35 ?_
    refine Aw.iconst (v := 1) ic_1 rfl dX3_addCall_38 ?_
    refine Aw.isub rfl dX3_addCall_39 ?_
    exact Aw.iret rfl dX3_addCall_40
  · refine Aw.bipush (v := (-4)) ib_m4 rfl dX3_addCall_9 ?_
    exact Aw.iret rfl dX3_addCall_11
abbrev MX3_addCallThatGoes : Mt := (RX3, cX3_addCallThatGoes, 3, (some .int), 3)
def f_X3_addCallThatGoes (r0 : Nat) (r1 : Nat) (σ : Sg) : Option (Int32 × Sg) := if kd r0 = 3 then (if kd r1 = 7 then (cb (f_X3_addCall r0 σ) (fun a1 τ2 => if a1 < 0 then (some (a1, τ2)) else (if inb a1 8 then (if 12 ≤ ln r1 then (bn (cpy τ2 r1 0 (rf (rf (rf r0 4) (ix a1)) 0) 0 12) (fun τ5 => some (a1, τ5))) else none) else none))) else none) else none
theorem cv_X3_69 : CV RX3 69 3 yX3_addCall MX3_addCall 0 := ⟨_, rfl, rfl, ml_X3_69, ins_X3_addCall, sel_X3_addCall, ini_X3, cw_X3_addCall, ⟨by decide, by decide, by decide +kernel⟩⟩
set_option maxRecDepth 100000 in
set_option maxHeartbeats 4000000 in
theorem ct_X3_addCallThatGoes (l : Launch) (G : Gt) (r0 : Nat) (r1 : Nat) (σ : Sg) : Ct l G yX3_addCallThatGoes MX3_addCallThatGoes rI [.ref (Gb G + r0), .ref (Gb G + r1)] σ (f_X3_addCallThatGoes r0 r1 σ) := by
  refine Ct.of (by decide +kernel) rfl (Nat.le_of_ble_eq_true rfl) ?_
  show Aw l G MX3_addCallThatGoes rI 0 [(0, .ref (Gb G + r0)), (1, .ref (Gb G + r1))] [] σ _
  unfold f_X3_addCallThatGoes
  refine Aw.gd (fun hr0 => ?_)
  refine Aw.gd (fun hr1 => ?_)
  refine Aw.aload_n 0 rfl rfl dX3_addCallThatGoes_0 ?_
  refine Aw.callVi (As := []) (rest := []) cv_X3_69 (Nat.le_of_ble_eq_true rfl) hr0 (ct_X3_addCall l G r0 σ) rfl rfl (Nat.le_of_ble_eq_true rfl) (Nat.le_of_ble_eq_true rfl) (Nat.le_of_ble_eq_true rfl) rfl dX3_addCallThatGoes_1 (fun a1 τ2 _ => ?_)
  refine Aw.istore_n (L' := [(2, .int a1), (0, .ref (Gb G + r0)), (1, .ref (Gb G + r1))]) (Nat.le_of_ble_eq_true rfl) rfl rfl dX3_addCallThatGoes_4 ?_
  refine Aw.iload_n 0 rfl rfl dX3_addCallThatGoes_5 ?_
  refine Aw.if_lt (q := 9) (t := 26) rfl (by decide) dX3_addCallThatGoes_6 (fun hc => ?_) (fun hc => ?_)
  · refine Aw.iload_n 0 rfl rfl dX3_addCallThatGoes_26 ?_
    exact Aw.iret rfl dX3_addCallThatGoes_27
  · refine Aw.aload_n 2 rfl rfl dX3_addCallThatGoes_9 ?_
    refine Aw.iconst (v := 0) ic_0 rfl dX3_addCallThatGoes_10 ?_
    refine Aw.aload_n 1 rfl rfl dX3_addCallThatGoes_11 ?_
    refine Aw.getR fl_X3_20 (Nat.le_of_ble_eq_true rfl) rfl hr0 rfl dX3_addCallThatGoes_12 ?_
    refine Aw.iload_n 0 rfl rfl dX3_addCallThatGoes_15 ?_
    refine Aw.aald (n := 8) (t := 8) (ft_3_4 hr0).1 ⟨Nat.le_of_ble_eq_true rfl, Nat.le_of_ble_eq_true rfl⟩ (ft_3_4 hr0).2 rfl dX3_addCallThatGoes_16 (fun hb3 => ?_)
    refine Aw.getR fl_X3_73 (Nat.le_of_ble_eq_true rfl) rfl (el_3_4 hr0 (inb_ix hb3)) rfl dX3_addCallThatGoes_17 ?_
    refine Aw.iconst (v := 0) ic_0 rfl dX3_addCallThatGoes_20 ?_
    refine Aw.bipush (v := 12) ib_12 rfl dX3_addCallThatGoes_21 ?_
    refine Aw.gd (fun hg4 => ?_)
    refine Aw.acopy (n := 12) (n0 := ln r1) (n1 := 12) ml_X3_35 ac_nat ac_sta ini_J10 hr1 (ft_0_0 (el_3_4 hr0 (inb_ix hb3))).1 rfl (ft_0_0 (el_3_4 hr0 (inb_ix hb3))).2 (by decide) (cl_12 ▸ hg4) (by decide) (Nat.le_of_ble_eq_true rfl) (by decide) rfl dX3_addCallThatGoes_23 ?_
    rw [cl_12]
    refine Aw.bs (fun τ5 => ?_)
    refine Aw.iload_n 0 rfl rfl dX3_addCallThatGoes_26 ?_
    exact Aw.iret rfl dX3_addCallThatGoes_27
abbrev MX3_isSpotOfCall : Mt := (RX3, cX3_isSpotOfCall, 3, (some .boolean), 2)
def f_X3_isSpotOfCall (r0 : Nat) (x1 : Int32) (x2 : Int32) (σ : Sg) : Option (Int32 × Sg) := if kd r0 = 3 then (cb (f_X5_isBelow x1 (σ r0 3) σ) (fun a1 τ2 => if a1 = 0 then (some (0, τ2)) else (cb (f_X5_isBelow x2 12 τ2) (fun a3 τ4 => if a3 = 0 then (some (0, τ4)) else (some (1, τ4)))))) else none
set_option maxRecDepth 100000 in
set_option maxHeartbeats 4000000 in
theorem ct_X3_isSpotOfCall (l : Launch) (G : Gt) (r0 : Nat) (x1 : Int32) (x2 : Int32) (σ : Sg) : Ct l G yX3_isSpotOfCall MX3_isSpotOfCall rI [.ref (Gb G + r0), .int x1, .int x2] σ (f_X3_isSpotOfCall r0 x1 x2 σ) := by
  refine Ct.of (by decide +kernel) rfl (Nat.le_of_ble_eq_true rfl) ?_
  show Aw l G MX3_isSpotOfCall rI 0 [(0, .ref (Gb G + r0)), (1, .int x1), (2, .int x2)] [] σ _
  unfold f_X3_isSpotOfCall
  refine Aw.gd (fun hr0 => ?_)
  refine Aw.iload_n 1 rfl rfl dX3_isSpotOfCall_0 ?_
  refine Aw.aload_n 0 rfl rfl dX3_isSpotOfCall_1 ?_
  refine Aw.getI fl_X3_41 (Nat.le_of_ble_eq_true rfl) rfl hr0 rfl dX3_isSpotOfCall_2 ?_
  refine Aw.callNi (As := [.int x1, .int (σ r0 3)]) (rest := []) cn_X3_54 (ct_X5_isBelow l G x1 (σ r0 3) σ) rfl rfl (Nat.le_of_ble_eq_true rfl) (Nat.le_of_ble_eq_true rfl) (Nat.le_of_ble_eq_true rfl) rfl dX3_isSpotOfCall_5 (fun a1 τ2 _ => ?_)
  refine Aw.if_eq (q := 11) (t := 24) rfl (by decide) dX3_isSpotOfCall_8 (fun hc => ?_) (fun hc => ?_)
  · refine Aw.iconst (v := 0) ic_0 rfl dX3_isSpotOfCall_24 ?_
    exact Aw.zret rfl rfl dX3_isSpotOfCall_25
  · refine Aw.iload_n 2 rfl rfl dX3_isSpotOfCall_11 ?_
    refine Aw.bipush (v := 12) ib_12 rfl dX3_isSpotOfCall_12 ?_
    refine Aw.callNi (As := [.int x2, .int 12]) (rest := []) cn_X3_54 (ct_X5_isBelow l G x2 12 τ2) rfl rfl (Nat.le_of_ble_eq_true rfl) (Nat.le_of_ble_eq_true rfl) (Nat.le_of_ble_eq_true rfl) rfl dX3_isSpotOfCall_14 (fun a3 τ4 _ => ?_)
    refine Aw.if_eq (q := 20) (t := 24) rfl (by decide) dX3_isSpotOfCall_17 (fun hc => ?_) (fun hc => ?_)
    · refine Aw.iconst (v := 0) ic_0 rfl dX3_isSpotOfCall_24 ?_
      exact Aw.zret rfl rfl dX3_isSpotOfCall_25
    · refine Aw.iconst (v := 1) ic_1 rfl dX3_isSpotOfCall_20 ?_
      refine Aw.goto (q := 25) (by decide) dX3_isSpotOfCall_21 ?_
      exact Aw.zret rfl rfl dX3_isSpotOfCall_25
abbrev MX3_exchangeGoals : Mt := (RX3, cX3_exchangeGoals, 6, (some .int), 3)
def f_X3_exchangeGoals (r0 : Nat) (x1 : Int32) (x2 : Int32) (x3 : Int32) (σ : Sg) : Option (Int32 × Sg) := if kd r0 = 3 then (cb (f_X3_isSpotOfCall r0 x1 x2 σ) (fun a1 τ2 => if a1 = 0 then (some ((-2), τ2)) else (cb (f_X5_isBelow x3 12 τ2) (fun a3 τ4 => if a3 = 0 then (some ((-2), τ4)) else (if x2 = x3 then (some ((-2), τ4)) else (if inb x1 8 then (if inb x2 12 then (bn (τ4 (rf (rf (rf r0 4) (ix x1)) 0) (ix x2)) (fun b7 => if inb x3 12 then (if inb x2 12 then (bn (up τ4 (rf (rf (rf r0 4) (ix x1)) 0) (ix x2) (τ4 (rf (rf (rf r0 4) (ix x1)) 0) (ix x3))) (fun τ10 => if inb x3 12 then (bn (up τ10 (rf (rf (rf r0 4) (ix x1)) 0) (ix x3) b7) (fun τ12 => if inb x2 12 then (some (τ12 (rf (rf (rf r0 4) (ix x1)) 0) (ix x2), τ12)) else none)) else none)) else none) else none)) else none) else none)))))) else none
theorem cv_X3_76 : CV RX3 76 3 yX3_isSpotOfCall MX3_isSpotOfCall 2 := ⟨_, rfl, rfl, ml_X3_76, ins_X3_isSpotOfCall, sel_X3_isSpotOfCall, ini_X3, cw_X3_isSpotOfCall, ⟨by decide, by decide, by decide +kernel⟩⟩
set_option maxRecDepth 100000 in
set_option maxHeartbeats 4000000 in
theorem ct_X3_exchangeGoals (l : Launch) (G : Gt) (r0 : Nat) (x1 : Int32) (x2 : Int32) (x3 : Int32) (σ : Sg) : Ct l G yX3_exchangeGoals MX3_exchangeGoals rI [.ref (Gb G + r0), .int x1, .int x2, .int x3] σ (f_X3_exchangeGoals r0 x1 x2 x3 σ) := by
  refine Ct.of (by decide +kernel) rfl (Nat.le_of_ble_eq_true rfl) ?_
  show Aw l G MX3_exchangeGoals rI 0 [(0, .ref (Gb G + r0)), (1, .int x1), (2, .int x2), (3, .int x3)] [] σ _
  unfold f_X3_exchangeGoals
  refine Aw.gd (fun hr0 => ?_)
  refine Aw.aload_n 0 rfl rfl dX3_exchangeGoals_0 ?_
  refine Aw.iload_n 1 rfl rfl dX3_exchangeGoals_1 ?_
  refine Aw.iload_n 2 rfl rfl dX3_exchangeGoals_2 ?_
  refine Aw.callVi (As := [.int x1, .int x2]) (rest := []) cv_X3_76 (Nat.le_of_ble_eq_true rfl) hr0 (ct_X3_isSpotOfCall l G r0 x1 x2 σ) rfl rfl (Nat.le_of_ble_eq_true rfl) (Nat.le_of_ble_eq_true rfl) (Nat.le_of_ble_eq_true rfl) rfl dX3_exchangeGoals_3 (fun a1 τ2 _ => ?_)
  refine Aw.if_eq (q := 9) (t := 23) rfl (by decide) dX3_exchangeGoals_6 (fun hc => ?_) (fun hc => ?_)
  · refine Aw.bipush (v := (-2)) ib_m2 rfl dX3_exchangeGoals_23 ?_
    exact Aw.iret rfl dX3_exchangeGoals_25
  · refine Aw.iload_n 3 rfl rfl dX3_exchangeGoals_9 ?_
    refine Aw.bipush (v := 12) ib_12 rfl dX3_exchangeGoals_10 ?_
    refine Aw.callNi (As := [.int x3, .int 12]) (rest := []) cn_X3_54 (ct_X5_isBelow l G x3 12 τ2) rfl rfl (Nat.le_of_ble_eq_true rfl) (Nat.le_of_ble_eq_true rfl) (Nat.le_of_ble_eq_true rfl) rfl dX3_exchangeGoals_12 (fun a3 τ4 _ => ?_)
    refine Aw.if_eq (q := 18) (t := 23) rfl (by decide) dX3_exchangeGoals_15 (fun hc => ?_) (fun hc => ?_)
    · refine Aw.bipush (v := (-2)) ib_m2 rfl dX3_exchangeGoals_23 ?_
      exact Aw.iret rfl dX3_exchangeGoals_25
    · refine Aw.iload_n 2 rfl rfl dX3_exchangeGoals_18 ?_
      refine Aw.iload_n 3 rfl rfl dX3_exchangeGoals_19 ?_
      refine Aw.icmp_ne (q := 23) (t := 26) rfl (by decide) dX3_exchangeGoals_20 (fun hc => ?_) (fun hc => ?_)
      · refine Aw.bipush (v := (-2)) ib_m2 rfl dX3_exchangeGoals_23 ?_
        exact Aw.iret rfl dX3_exchangeGoals_25
      · refine Aw.aload_n 0 rfl rfl dX3_exchangeGoals_26 ?_
        refine Aw.getR fl_X3_20 (Nat.le_of_ble_eq_true rfl) rfl hr0 rfl dX3_exchangeGoals_27 ?_
        refine Aw.iload_n 1 rfl rfl dX3_exchangeGoals_30 ?_
        refine Aw.aald (n := 8) (t := 8) (ft_3_4 hr0).1 ⟨Nat.le_of_ble_eq_true rfl, Nat.le_of_ble_eq_true rfl⟩ (ft_3_4 hr0).2 rfl dX3_exchangeGoals_31 (fun hb5 => ?_)
        refine Aw.getR fl_X3_73 (Nat.le_of_ble_eq_true rfl) rfl (el_3_4 hr0 (inb_ix hb5)) rfl dX3_exchangeGoals_32 ?_
        refine Aw.astore (L' := [(4, .ref (Gb G + rf (rf (rf r0 4) (ix x1)) 0)), (0, .ref (Gb G + r0)), (1, .int x1), (2, .int x2), (3, .int x3)]) (Nat.le_of_ble_eq_true rfl) rfl rfl dX3_exchangeGoals_35 ?_
        refine Aw.aload 0 rfl rfl dX3_exchangeGoals_37 ?_
        refine Aw.iload_n 3 rfl rfl dX3_exchangeGoals_39 ?_
        refine Aw.iald (n := 12) (ft_0_0 (el_3_4 hr0 (inb_ix hb5))).1 (ft_0_0 (el_3_4 hr0 (inb_ix hb5))).2 rfl dX3_exchangeGoals_40 (fun hb6 => ?_)
        refine Aw.bi (fun b7 => ?_)
        refine Aw.istore (L' := [(5, .int b7), (4, .ref (Gb G + rf (rf (rf r0 4) (ix x1)) 0)), (0, .ref (Gb G + r0)), (1, .int x1), (2, .int x2), (3, .int x3)]) (Nat.le_of_ble_eq_true rfl) rfl rfl dX3_exchangeGoals_41 ?_
        refine Aw.aload 1 rfl rfl dX3_exchangeGoals_43 ?_
        refine Aw.iload_n 4 rfl rfl dX3_exchangeGoals_45 ?_
        refine Aw.aload 1 rfl rfl dX3_exchangeGoals_46 ?_
        refine Aw.iload_n 5 rfl rfl dX3_exchangeGoals_48 ?_
        refine Aw.iald (n := 12) (ft_0_0 (el_3_4 hr0 (inb_ix hb5))).1 (ft_0_0 (el_3_4 hr0 (inb_ix hb5))).2 rfl dX3_exchangeGoals_49 (fun hb8 => ?_)
        refine Aw.iast (n := 12) (ft_0_0 (el_3_4 hr0 (inb_ix hb5))).1 (ft_0_0 (el_3_4 hr0 (inb_ix hb5))).2 rfl dX3_exchangeGoals_50 (fun hb9 => ?_)
        refine Aw.bs (fun τ10 => ?_)
        refine Aw.aload 1 rfl rfl dX3_exchangeGoals_51 ?_
        refine Aw.iload_n 5 rfl rfl dX3_exchangeGoals_53 ?_
        refine Aw.iload 0 rfl rfl dX3_exchangeGoals_54 ?_
        refine Aw.iast (n := 12) (ft_0_0 (el_3_4 hr0 (inb_ix hb5))).1 (ft_0_0 (el_3_4 hr0 (inb_ix hb5))).2 rfl dX3_exchangeGoals_56 (fun hb11 => ?_)
        refine Aw.bs (fun τ12 => ?_)
        refine Aw.aload 1 rfl rfl dX3_exchangeGoals_57 ?_
        refine Aw.iload_n 4 rfl rfl dX3_exchangeGoals_59 ?_
        refine Aw.iald (n := 12) (ft_0_0 (el_3_4 hr0 (inb_ix hb5))).1 (ft_0_0 (el_3_4 hr0 (inb_ix hb5))).2 rfl dX3_exchangeGoals_60 (fun hb13 => ?_)
        exact Aw.iret rfl dX3_exchangeGoals_61
abbrev MX3_setTurn : Mt := (RX3, cX3_setTurn, 5, (some .int), 3)
def f_X3_setTurn (r0 : Nat) (x1 : Int32) (x2 : Int32) (x3 : Int32) (σ : Sg) : Option (Int32 × Sg) := if kd r0 = 3 then (cb (f_X3_isSpotOfCall r0 x1 x2 σ) (fun a1 τ2 => if a1 = 0 then (some ((-2), τ2)) else (cb (f_X5_isBelow x3 4 τ2) (fun a3 τ4 => if a3 = 0 then (some ((-2), τ4)) else (if inb x1 8 then (if inb x2 12 then (bn (τ4 (rf (rf (rf r0 4) (ix x1)) 1) (ix x2)) (fun b7 => if inb x1 8 then (if inb x2 12 then (bn (up τ4 (rf (rf (rf r0 4) (ix x1)) 1) (ix x2) x3) (fun τ10 => some (b7, τ10))) else none) else none)) else none) else none))))) else none
set_option maxRecDepth 100000 in
set_option maxHeartbeats 4000000 in
theorem ct_X3_setTurn (l : Launch) (G : Gt) (r0 : Nat) (x1 : Int32) (x2 : Int32) (x3 : Int32) (σ : Sg) : Ct l G yX3_setTurn MX3_setTurn rI [.ref (Gb G + r0), .int x1, .int x2, .int x3] σ (f_X3_setTurn r0 x1 x2 x3 σ) := by
  refine Ct.of (by decide +kernel) rfl (Nat.le_of_ble_eq_true rfl) ?_
  show Aw l G MX3_setTurn rI 0 [(0, .ref (Gb G + r0)), (1, .int x1), (2, .int x2), (3, .int x3)] [] σ _
  unfold f_X3_setTurn
  refine Aw.gd (fun hr0 => ?_)
  refine Aw.aload_n 0 rfl rfl dX3_setTurn_0 ?_
  refine Aw.iload_n 1 rfl rfl dX3_setTurn_1 ?_
  refine Aw.iload_n 2 rfl rfl dX3_setTurn_2 ?_
  refine Aw.callVi (As := [.int x1, .int x2]) (rest := []) cv_X3_76 (Nat.le_of_ble_eq_true rfl) hr0 (ct_X3_isSpotOfCall l G r0 x1 x2 σ) rfl rfl (Nat.le_of_ble_eq_true rfl) (Nat.le_of_ble_eq_true rfl) (Nat.le_of_ble_eq_true rfl) rfl dX3_setTurn_3 (fun a1 τ2 _ => ?_)
  refine Aw.if_eq (q := 9) (t := 17) rfl (by decide) dX3_setTurn_6 (fun hc => ?_) (fun hc => ?_)
  · refine Aw.bipush (v := (-2)) ib_m2 rfl dX3_setTurn_17 ?_
    exact Aw.iret rfl dX3_setTurn_19
  · refine Aw.iload_n 3 rfl rfl dX3_setTurn_9 ?_
    refine Aw.iconst (v := 4) ic_4 rfl dX3_setTurn_10 ?_
    refine Aw.callNi (As := [.int x3, .int 4]) (rest := []) cn_X3_54 (ct_X5_isBelow l G x3 4 τ2) rfl rfl (Nat.le_of_ble_eq_true rfl) (Nat.le_of_ble_eq_true rfl) (Nat.le_of_ble_eq_true rfl) rfl dX3_setTurn_11 (fun a3 τ4 _ => ?_)
    refine Aw.if_ne (q := 17) (t := 20) rfl (by decide) dX3_setTurn_14 (fun hc => ?_) (fun hc => ?_)
    · refine Aw.bipush (v := (-2)) ib_m2 rfl dX3_setTurn_17 ?_
      exact Aw.iret rfl dX3_setTurn_19
    · refine Aw.aload_n 0 rfl rfl dX3_setTurn_20 ?_
      refine Aw.getR fl_X3_20 (Nat.le_of_ble_eq_true rfl) rfl hr0 rfl dX3_setTurn_21 ?_
      refine Aw.iload_n 1 rfl rfl dX3_setTurn_24 ?_
      refine Aw.aald (n := 8) (t := 8) (ft_3_4 hr0).1 ⟨Nat.le_of_ble_eq_true rfl, Nat.le_of_ble_eq_true rfl⟩ (ft_3_4 hr0).2 rfl dX3_setTurn_25 (fun hb5 => ?_)
      refine Aw.getR fl_X3_79 (Nat.le_of_ble_eq_true rfl) rfl (el_3_4 hr0 (inb_ix hb5)) rfl dX3_setTurn_26 ?_
      refine Aw.iload_n 2 rfl rfl dX3_setTurn_29 ?_
      refine Aw.iald (n := 12) (ft_0_1 (el_3_4 hr0 (inb_ix hb5))).1 (ft_0_1 (el_3_4 hr0 (inb_ix hb5))).2 rfl dX3_setTurn_30 (fun hb6 => ?_)
      refine Aw.bi (fun b7 => ?_)
      refine Aw.istore (L' := [(4, .int b7), (0, .ref (Gb G + r0)), (1, .int x1), (2, .int x2), (3, .int x3)]) (Nat.le_of_ble_eq_true rfl) rfl rfl dX3_setTurn_31 ?_
      refine Aw.aload_n 1 rfl rfl dX3_setTurn_33 ?_
      refine Aw.getR fl_X3_20 (Nat.le_of_ble_eq_true rfl) rfl hr0 rfl dX3_setTurn_34 ?_
      refine Aw.iload_n 2 rfl rfl dX3_setTurn_37 ?_
      refine Aw.aald (n := 8) (t := 8) (ft_3_4 hr0).1 ⟨Nat.le_of_ble_eq_true rfl, Nat.le_of_ble_eq_true rfl⟩ (ft_3_4 hr0).2 rfl dX3_setTurn_38 (fun hb8 => ?_)
      refine Aw.getR fl_X3_79 (Nat.le_of_ble_eq_true rfl) rfl (el_3_4 hr0 (inb_ix hb8)) rfl dX3_setTurn_39 ?_
      refine Aw.iload_n 3 rfl rfl dX3_setTurn_42 ?_
      refine Aw.iload_n 4 rfl rfl dX3_setTurn_43 ?_
      refine Aw.iast (n := 12) (ft_0_1 (el_3_4 hr0 (inb_ix hb8))).1 (ft_0_1 (el_3_4 hr0 (inb_ix hb8))).2 rfl dX3_setTurn_44 (fun hb9 => ?_)
      refine Aw.bs (fun τ10 => ?_)
      refine Aw.iload 0 rfl rfl dX3_setTurn_45 ?_
      exact Aw.iret rfl dX3_setTurn_47
abbrev MX3_setWant : Mt := (RX3, cX3_setWant, 5, (some .int), 3)
def f_X3_setWant (r0 : Nat) (x1 : Int32) (x2 : Int32) (x3 : Int32) (σ : Sg) : Option (Int32 × Sg) := if kd r0 = 3 then (cb (f_X3_isSpotOfCall r0 x1 x2 σ) (fun a1 τ2 => if a1 = 0 then (some ((-2), τ2)) else (cb (f_X5_isBelow x3 3 τ2) (fun a3 τ4 => if a3 = 0 then (some ((-2), τ4)) else (if inb x1 8 then (if inb x2 12 then (bn (τ4 (rf (rf (rf r0 4) (ix x1)) 2) (ix x2)) (fun b7 => if inb x1 8 then (if inb x2 12 then (bn (up τ4 (rf (rf (rf r0 4) (ix x1)) 2) (ix x2) x3) (fun τ10 => some (b7, τ10))) else none) else none)) else none) else none))))) else none
set_option maxRecDepth 100000 in
set_option maxHeartbeats 4000000 in
theorem ct_X3_setWant (l : Launch) (G : Gt) (r0 : Nat) (x1 : Int32) (x2 : Int32) (x3 : Int32) (σ : Sg) : Ct l G yX3_setWant MX3_setWant rI [.ref (Gb G + r0), .int x1, .int x2, .int x3] σ (f_X3_setWant r0 x1 x2 x3 σ) := by
  refine Ct.of (by decide +kernel) rfl (Nat.le_of_ble_eq_true rfl) ?_
  show Aw l G MX3_setWant rI 0 [(0, .ref (Gb G + r0)), (1, .int x1), (2, .int x2), (3, .int x3)] [] σ _
  unfold f_X3_setWant
  refine Aw.gd (fun hr0 => ?_)
  refine Aw.aload_n 0 rfl rfl dX3_setWant_0 ?_
  refine Aw.iload_n 1 rfl rfl dX3_setWant_1 ?_
  refine Aw.iload_n 2 rfl rfl dX3_setWant_2 ?_
  refine Aw.callVi (As := [.int x1, .int x2]) (rest := []) cv_X3_76 (Nat.le_of_ble_eq_true rfl) hr0 (ct_X3_isSpotOfCall l G r0 x1 x2 σ) rfl rfl (Nat.le_of_ble_eq_true rfl) (Nat.le_of_ble_eq_true rfl) (Nat.le_of_ble_eq_true rfl) rfl dX3_setWant_3 (fun a1 τ2 _ => ?_)
  refine Aw.if_eq (q := 9) (t := 17) rfl (by decide) dX3_setWant_6 (fun hc => ?_) (fun hc => ?_)
  · refine Aw.bipush (v := (-2)) ib_m2 rfl dX3_setWant_17 ?_
    exact Aw.iret rfl dX3_setWant_19
  · refine Aw.iload_n 3 rfl rfl dX3_setWant_9 ?_
    refine Aw.iconst (v := 3) ic_3 rfl dX3_setWant_10 ?_
    refine Aw.callNi (As := [.int x3, .int 3]) (rest := []) cn_X3_54 (ct_X5_isBelow l G x3 3 τ2) rfl rfl (Nat.le_of_ble_eq_true rfl) (Nat.le_of_ble_eq_true rfl) (Nat.le_of_ble_eq_true rfl) rfl dX3_setWant_11 (fun a3 τ4 _ => ?_)
    refine Aw.if_ne (q := 17) (t := 20) rfl (by decide) dX3_setWant_14 (fun hc => ?_) (fun hc => ?_)
    · refine Aw.bipush (v := (-2)) ib_m2 rfl dX3_setWant_17 ?_
      exact Aw.iret rfl dX3_setWant_19
    · refine Aw.aload_n 0 rfl rfl dX3_setWant_20 ?_
      refine Aw.getR fl_X3_20 (Nat.le_of_ble_eq_true rfl) rfl hr0 rfl dX3_setWant_21 ?_
      refine Aw.iload_n 1 rfl rfl dX3_setWant_24 ?_
      refine Aw.aald (n := 8) (t := 8) (ft_3_4 hr0).1 ⟨Nat.le_of_ble_eq_true rfl, Nat.le_of_ble_eq_true rfl⟩ (ft_3_4 hr0).2 rfl dX3_setWant_25 (fun hb5 => ?_)
      refine Aw.getR fl_X3_82 (Nat.le_of_ble_eq_true rfl) rfl (el_3_4 hr0 (inb_ix hb5)) rfl dX3_setWant_26 ?_
      refine Aw.iload_n 2 rfl rfl dX3_setWant_29 ?_
      refine Aw.iald (n := 12) (ft_0_2 (el_3_4 hr0 (inb_ix hb5))).1 (ft_0_2 (el_3_4 hr0 (inb_ix hb5))).2 rfl dX3_setWant_30 (fun hb6 => ?_)
      refine Aw.bi (fun b7 => ?_)
      refine Aw.istore (L' := [(4, .int b7), (0, .ref (Gb G + r0)), (1, .int x1), (2, .int x2), (3, .int x3)]) (Nat.le_of_ble_eq_true rfl) rfl rfl dX3_setWant_31 ?_
      refine Aw.aload_n 1 rfl rfl dX3_setWant_33 ?_
      refine Aw.getR fl_X3_20 (Nat.le_of_ble_eq_true rfl) rfl hr0 rfl dX3_setWant_34 ?_
      refine Aw.iload_n 2 rfl rfl dX3_setWant_37 ?_
      refine Aw.aald (n := 8) (t := 8) (ft_3_4 hr0).1 ⟨Nat.le_of_ble_eq_true rfl, Nat.le_of_ble_eq_true rfl⟩ (ft_3_4 hr0).2 rfl dX3_setWant_38 (fun hb8 => ?_)
      refine Aw.getR fl_X3_82 (Nat.le_of_ble_eq_true rfl) rfl (el_3_4 hr0 (inb_ix hb8)) rfl dX3_setWant_39 ?_
      refine Aw.iload_n 3 rfl rfl dX3_setWant_42 ?_
      refine Aw.iload_n 4 rfl rfl dX3_setWant_43 ?_
      refine Aw.iast (n := 12) (ft_0_2 (el_3_4 hr0 (inb_ix hb8))).1 (ft_0_2 (el_3_4 hr0 (inb_ix hb8))).2 rfl dX3_setWant_44 (fun hb9 => ?_)
      refine Aw.bs (fun τ10 => ?_)
      refine Aw.iload 0 rfl rfl dX3_setWant_45 ?_
      exact Aw.iret rfl dX3_setWant_47
abbrev MX3_addJoined : Mt := (RX3, cX3_addJoined, 4, (some .int), 3)
def f_X3_addJoined (r0 : Nat) (x1 : Int32) (x2 : Int32) (σ : Sg) : Option (Int32 × Sg) := if kd r0 = 3 then (cb (f_X5_isBelow x1 (σ r0 3) σ) (fun a1 τ2 => if a1 = 0 then (some ((-2), τ2)) else (cb (f_X5_isBelow x2 (τ2 r0 3) τ2) (fun a3 τ4 => if a3 = 0 then (some ((-2), τ4)) else (if inb x1 8 then (if inb x2 8 then (cb (f_X0_canBeJoinedWith (rf (rf r0 4) (ix x1)) (rf (rf r0 4) (ix x2)) τ4) (fun a7 τ8 => if a7 = 0 then (some ((-3), τ8)) else (cb (f_X3_addCall r0 τ8) (fun a9 τ10 => if a9 < 0 then (some (a9, τ10)) else (if inb a9 8 then (if inb x1 8 then (if inb x2 8 then (cb (f_X0_becomeJoined (rf (rf r0 4) (ix a9)) (rf (rf r0 4) (ix x1)) (rf (rf r0 4) (ix x2)) τ10) (fun _ τ15 => some (a9, τ15))) else none) else none) else none))))) else none) else none))))) else none
theorem cv_X3_85 : CV RX3 85 0 yX0_canBeJoinedWith MX0_canBeJoinedWith 1 := ⟨_, rfl, rfl, ml_X3_85, ins_X0_canBeJoinedWith, sel_X0_canBeJoinedWith, ini_X0, cw_X0_canBeJoinedWith, ⟨by decide, by decide, by decide +kernel⟩⟩
theorem cv_X3_89 : CV RX3 89 0 yX0_becomeJoined MX0_becomeJoined 2 := ⟨_, rfl, rfl, ml_X3_89, ins_X0_becomeJoined, sel_X0_becomeJoined, ini_X0, cw_X0_becomeJoined, ⟨by decide, by decide, by decide +kernel⟩⟩
set_option maxRecDepth 100000 in
set_option maxHeartbeats 4000000 in
theorem ct_X3_addJoined (l : Launch) (G : Gt) (r0 : Nat) (x1 : Int32) (x2 : Int32) (σ : Sg) : Ct l G yX3_addJoined MX3_addJoined rI [.ref (Gb G + r0), .int x1, .int x2] σ (f_X3_addJoined r0 x1 x2 σ) := by
  refine Ct.of (by decide +kernel) rfl (Nat.le_of_ble_eq_true rfl) ?_
  show Aw l G MX3_addJoined rI 0 [(0, .ref (Gb G + r0)), (1, .int x1), (2, .int x2)] [] σ _
  unfold f_X3_addJoined
  refine Aw.gd (fun hr0 => ?_)
  refine Aw.iload_n 1 rfl rfl dX3_addJoined_0 ?_
  refine Aw.aload_n 0 rfl rfl dX3_addJoined_1 ?_
  refine Aw.getI fl_X3_41 (Nat.le_of_ble_eq_true rfl) rfl hr0 rfl dX3_addJoined_2 ?_
  refine Aw.callNi (As := [.int x1, .int (σ r0 3)]) (rest := []) cn_X3_54 (ct_X5_isBelow l G x1 (σ r0 3) σ) rfl rfl (Nat.le_of_ble_eq_true rfl) (Nat.le_of_ble_eq_true rfl) (Nat.le_of_ble_eq_true rfl) rfl dX3_addJoined_5 (fun a1 τ2 _ => ?_)
  refine Aw.if_eq (q := 11) (t := 22) rfl (by decide) dX3_addJoined_8 (fun hc => ?_) (fun hc => ?_)
  · refine Aw.bipush (v := (-2)) ib_m2 rfl dX3_addJoined_22 ?_
    exact Aw.iret rfl dX3_addJoined_24
  · refine Aw.iload_n 2 rfl rfl dX3_addJoined_11 ?_
    refine Aw.aload_n 0 rfl rfl dX3_addJoined_12 ?_
    refine Aw.getI fl_X3_41 (Nat.le_of_ble_eq_true rfl) rfl hr0 rfl dX3_addJoined_13 ?_
    refine Aw.callNi (As := [.int x2, .int (τ2 r0 3)]) (rest := []) cn_X3_54 (ct_X5_isBelow l G x2 (τ2 r0 3) τ2) rfl rfl (Nat.le_of_ble_eq_true rfl) (Nat.le_of_ble_eq_true rfl) (Nat.le_of_ble_eq_true rfl) rfl dX3_addJoined_16 (fun a3 τ4 _ => ?_)
    refine Aw.if_ne (q := 22) (t := 25) rfl (by decide) dX3_addJoined_19 (fun hc => ?_) (fun hc => ?_)
    · refine Aw.bipush (v := (-2)) ib_m2 rfl dX3_addJoined_22 ?_
      exact Aw.iret rfl dX3_addJoined_24
    · refine Aw.aload_n 0 rfl rfl dX3_addJoined_25 ?_
      refine Aw.getR fl_X3_20 (Nat.le_of_ble_eq_true rfl) rfl hr0 rfl dX3_addJoined_26 ?_
      refine Aw.iload_n 1 rfl rfl dX3_addJoined_29 ?_
      refine Aw.aald (n := 8) (t := 8) (ft_3_4 hr0).1 ⟨Nat.le_of_ble_eq_true rfl, Nat.le_of_ble_eq_true rfl⟩ (ft_3_4 hr0).2 rfl dX3_addJoined_30 (fun hb5 => ?_)
      refine Aw.aload_n 0 rfl rfl dX3_addJoined_31 ?_
      refine Aw.getR fl_X3_20 (Nat.le_of_ble_eq_true rfl) rfl hr0 rfl dX3_addJoined_32 ?_
      refine Aw.iload_n 2 rfl rfl dX3_addJoined_35 ?_
      refine Aw.aald (n := 8) (t := 8) (ft_3_4 hr0).1 ⟨Nat.le_of_ble_eq_true rfl, Nat.le_of_ble_eq_true rfl⟩ (ft_3_4 hr0).2 rfl dX3_addJoined_36 (fun hb6 => ?_)
      refine Aw.callVi (As := [.ref (Gb G + rf (rf r0 4) (ix x2))]) (rest := []) cv_X3_85 (Nat.le_of_ble_eq_true rfl) (el_3_4 hr0 (inb_ix hb5)) (ct_X0_canBeJoinedWith l G (rf (rf r0 4) (ix x1)) (rf (rf r0 4) (ix x2)) τ4) rfl rfl (Nat.le_of_ble_eq_true rfl) (Nat.le_of_ble_eq_true rfl) (Nat.le_of_ble_eq_true rfl) rfl dX3_addJoined_37 (fun a7 τ8 _ => ?_)
      refine Aw.if_ne (q := 43) (t := 46) rfl (by decide) dX3_addJoined_40 (fun hc => ?_) (fun hc => ?_)
      · refine Aw.bipush (v := (-3)) ib_m3 rfl dX3_addJoined_43 ?_
        exact Aw.iret rfl dX3_addJoined_45
      · refine Aw.aload_n 0 rfl rfl dX3_addJoined_46 ?_
        refine Aw.callVi (As := []) (rest := []) cv_X3_69 (Nat.le_of_ble_eq_true rfl) hr0 (ct_X3_addCall l G r0 τ8) rfl rfl (Nat.le_of_ble_eq_true rfl) (Nat.le_of_ble_eq_true rfl) (Nat.le_of_ble_eq_true rfl) rfl dX3_addJoined_47 (fun a9 τ10 _ => ?_)
        refine Aw.istore_n (L' := [(3, .int a9), (0, .ref (Gb G + r0)), (1, .int x1), (2, .int x2)]) (Nat.le_of_ble_eq_true rfl) rfl rfl dX3_addJoined_50 ?_
        refine Aw.iload_n 0 rfl rfl dX3_addJoined_51 ?_
        refine Aw.if_lt (q := 55) (t := 76) rfl (by decide) dX3_addJoined_52 (fun hc => ?_) (fun hc => ?_)
        · refine Aw.iload_n 0 rfl rfl dX3_addJoined_76 ?_
          exact Aw.iret rfl dX3_addJoined_77
        · refine Aw.aload_n 1 rfl rfl dX3_addJoined_55 ?_
          refine Aw.getR fl_X3_20 (Nat.le_of_ble_eq_true rfl) rfl hr0 rfl dX3_addJoined_56 ?_
          refine Aw.iload_n 0 rfl rfl dX3_addJoined_59 ?_
          refine Aw.aald (n := 8) (t := 8) (ft_3_4 hr0).1 ⟨Nat.le_of_ble_eq_true rfl, Nat.le_of_ble_eq_true rfl⟩ (ft_3_4 hr0).2 rfl dX3_addJoined_60 (fun hb11 => ?_)
          refine Aw.aload_n 1 rfl rfl dX3_addJoined_61 ?_
          refine Aw.getR fl_X3_20 (Nat.le_of_ble_eq_true rfl) rfl hr0 rfl dX3_addJoined_62 ?_
          refine Aw.iload_n 2 rfl rfl dX3_addJoined_65 ?_
          refine Aw.aald (n := 8) (t := 8) (ft_3_4 hr0).1 ⟨Nat.le_of_ble_eq_true rfl, Nat.le_of_ble_eq_true rfl⟩ (ft_3_4 hr0).2 rfl dX3_addJoined_66 (fun hb12 => ?_)
          refine Aw.aload_n 1 rfl rfl dX3_addJoined_67 ?_
          refine Aw.getR fl_X3_20 (Nat.le_of_ble_eq_true rfl) rfl hr0 rfl dX3_addJoined_68 ?_
          refine Aw.iload_n 3 rfl rfl dX3_addJoined_71 ?_
          refine Aw.aald (n := 8) (t := 8) (ft_3_4 hr0).1 ⟨Nat.le_of_ble_eq_true rfl, Nat.le_of_ble_eq_true rfl⟩ (ft_3_4 hr0).2 rfl dX3_addJoined_72 (fun hb13 => ?_)
          refine Aw.callVv (As := [.ref (Gb G + rf (rf r0 4) (ix x1)), .ref (Gb G + rf (rf r0 4) (ix x2))]) (rest := []) cv_X3_89 (Nat.le_of_ble_eq_true rfl) (el_3_4 hr0 (inb_ix hb11)) (ct_X0_becomeJoined l G (rf (rf r0 4) (ix a9)) (rf (rf r0 4) (ix x1)) (rf (rf r0 4) (ix x2)) τ10) rfl rfl (Nat.le_of_ble_eq_true rfl) (Nat.le_of_ble_eq_true rfl) (Nat.le_of_ble_eq_true rfl) rfl dX3_addJoined_73 (fun a14 τ15 _ => ?_)
          refine Aw.iload_n 0 rfl rfl dX3_addJoined_76 ?_
          exact Aw.iret rfl dX3_addJoined_77
abbrev MX3_addTurnedBack : Mt := (RX3, cX3_addTurnedBack, 3, (some .int), 3)
def f_X3_addTurnedBack (r0 : Nat) (x1 : Int32) (σ : Sg) : Option (Int32 × Sg) := if kd r0 = 3 then (cb (f_X5_isBelow x1 (σ r0 3) σ) (fun a1 τ2 => if a1 = 0 then (some ((-2), τ2)) else (cb (f_X3_addCall r0 τ2) (fun a3 τ4 => if a3 < 0 then (some (a3, τ4)) else (if inb a3 8 then (if inb x1 8 then (cb (f_X0_becomeTurnedBack (rf (rf r0 4) (ix a3)) (rf (rf r0 4) (ix x1)) τ4) (fun _ τ8 => some (a3, τ8))) else none) else none))))) else none
theorem cv_X3_93 : CV RX3 93 0 yX0_becomeTurnedBack MX0_becomeTurnedBack 1 := ⟨_, rfl, rfl, ml_X3_93, ins_X0_becomeTurnedBack, sel_X0_becomeTurnedBack, ini_X0, cw_X0_becomeTurnedBack, ⟨by decide, by decide, by decide +kernel⟩⟩
set_option maxRecDepth 100000 in
set_option maxHeartbeats 4000000 in
theorem ct_X3_addTurnedBack (l : Launch) (G : Gt) (r0 : Nat) (x1 : Int32) (σ : Sg) : Ct l G yX3_addTurnedBack MX3_addTurnedBack rI [.ref (Gb G + r0), .int x1] σ (f_X3_addTurnedBack r0 x1 σ) := by
  refine Ct.of (by decide +kernel) rfl (Nat.le_of_ble_eq_true rfl) ?_
  show Aw l G MX3_addTurnedBack rI 0 [(0, .ref (Gb G + r0)), (1, .int x1)] [] σ _
  unfold f_X3_addTurnedBack
  refine Aw.gd (fun hr0 => ?_)
  refine Aw.iload_n 1 rfl rfl dX3_addTurnedBack_0 ?_
  refine Aw.aload_n 0 rfl rfl dX3_addTurnedBack_1 ?_
  refine Aw.getI fl_X3_41 (Nat.le_of_ble_eq_true rfl) rfl hr0 rfl dX3_addTurnedBack_2 ?_
  refine Aw.callNi (As := [.int x1, .int (σ r0 3)]) (rest := []) cn_X3_54 (ct_X5_isBelow l G x1 (σ r0 3) σ) rfl rfl (Nat.le_of_ble_eq_true rfl) (Nat.le_of_ble_eq_true rfl) (Nat.le_of_ble_eq_true rfl) rfl dX3_addTurnedBack_5 (fun a1 τ2 _ => ?_)
  refine Aw.if_ne (q := 11) (t := 14) rfl (by decide) dX3_addTurnedBack_8 (fun hc => ?_) (fun hc => ?_)
  · refine Aw.bipush (v := (-2)) ib_m2 rfl dX3_addTurnedBack_11 ?_
    exact Aw.iret rfl dX3_addTurnedBack_13
  · refine Aw.aload_n 0 rfl rfl dX3_addTurnedBack_14 ?_
    refine Aw.callVi (As := []) (rest := []) cv_X3_69 (Nat.le_of_ble_eq_true rfl) hr0 (ct_X3_addCall l G r0 τ2) rfl rfl (Nat.le_of_ble_eq_true rfl) (Nat.le_of_ble_eq_true rfl) (Nat.le_of_ble_eq_true rfl) rfl dX3_addTurnedBack_15 (fun a3 τ4 _ => ?_)
    refine Aw.istore_n (L' := [(2, .int a3), (0, .ref (Gb G + r0)), (1, .int x1)]) (Nat.le_of_ble_eq_true rfl) rfl rfl dX3_addTurnedBack_18 ?_
    refine Aw.iload_n 0 rfl rfl dX3_addTurnedBack_19 ?_
    refine Aw.if_lt (q := 23) (t := 38) rfl (by decide) dX3_addTurnedBack_20 (fun hc => ?_) (fun hc => ?_)
    · refine Aw.iload_n 0 rfl rfl dX3_addTurnedBack_38 ?_
      exact Aw.iret rfl dX3_addTurnedBack_39
    · refine Aw.aload_n 1 rfl rfl dX3_addTurnedBack_23 ?_
      refine Aw.getR fl_X3_20 (Nat.le_of_ble_eq_true rfl) rfl hr0 rfl dX3_addTurnedBack_24 ?_
      refine Aw.iload_n 0 rfl rfl dX3_addTurnedBack_27 ?_
      refine Aw.aald (n := 8) (t := 8) (ft_3_4 hr0).1 ⟨Nat.le_of_ble_eq_true rfl, Nat.le_of_ble_eq_true rfl⟩ (ft_3_4 hr0).2 rfl dX3_addTurnedBack_28 (fun hb5 => ?_)
      refine Aw.aload_n 1 rfl rfl dX3_addTurnedBack_29 ?_
      refine Aw.getR fl_X3_20 (Nat.le_of_ble_eq_true rfl) rfl hr0 rfl dX3_addTurnedBack_30 ?_
      refine Aw.iload_n 2 rfl rfl dX3_addTurnedBack_33 ?_
      refine Aw.aald (n := 8) (t := 8) (ft_3_4 hr0).1 ⟨Nat.le_of_ble_eq_true rfl, Nat.le_of_ble_eq_true rfl⟩ (ft_3_4 hr0).2 rfl dX3_addTurnedBack_34 (fun hb6 => ?_)
      refine Aw.callVv (As := [.ref (Gb G + rf (rf r0 4) (ix x1))]) (rest := []) cv_X3_93 (Nat.le_of_ble_eq_true rfl) (el_3_4 hr0 (inb_ix hb5)) (ct_X0_becomeTurnedBack l G (rf (rf r0 4) (ix a3)) (rf (rf r0 4) (ix x1)) τ4) rfl rfl (Nat.le_of_ble_eq_true rfl) (Nat.le_of_ble_eq_true rfl) (Nat.le_of_ble_eq_true rfl) rfl dX3_addTurnedBack_35 (fun a7 τ8 _ => ?_)
      refine Aw.iload_n 0 rfl rfl dX3_addTurnedBack_38 ?_
      exact Aw.iret rfl dX3_addTurnedBack_39
abbrev MX3_move : Mt := (RX3, cX3_move, 6, (some .int), 2)
def f_X3_move_39 (rc5 : Nat → Nat → Nat → Int32 → Int32 → Sg → Option (Int32 × Sg)) (r0 : Nat) (r1 : Nat) (r2 : Nat) (x4 : Int32) (x5 : Int32) (s0 : Int32) (s1 : Int32) (σ : Sg) : Option (Int32 × Sg) := if kd r0 = 3 then (if kd r1 = 7 then (if kd r2 = 0 then (bn (s0 + s1) (fun b1 => if inb x4 (ln r1) then (bn (up σ r1 (ix x4) x5) (fun τ3 => rc5 r0 r1 r2 b1 (x4 + 1) τ3)) else none)) else none) else none) else none
def f_X3_move_5  : Nat → Nat → Nat → Nat → Int32 → Int32 → Sg → Option (Int32 × Sg)
  | 0, _, _, _, _, _, _ => none
  | n + 1, r0, r1, r2, x3, x4, σ => if kd r0 = 3 then (if kd r1 = 7 then (if kd r2 = 0 then (if σ r0 0 ≤ x4 then (some (x3, σ)) else (if inb x4 (ln r1) then (cb (f_X0_placeBehind r2 (σ r1 (ix x4)) σ) (fun a2 τ3 => if inb x4 (ln r1) then (if a2 = τ3 r1 (ix x4) then (f_X3_move_39 (f_X3_move_5 n) r0 r1 r2 x4 a2 x3 0 τ3) else (f_X3_move_39 (f_X3_move_5 n) r0 r1 r2 x4 a2 x3 1 τ3)) else none)) else none)) else none) else none) else none
def f_X3_move (r0 : Nat) (r1 : Nat) (r2 : Nat) (σ : Sg) : Option (Int32 × Sg) := if kd r0 = 3 then (if kd r1 = 7 then (if kd r2 = 0 then (f_X3_move_5 FU r0 r1 r2 0 0 σ) else none) else none) else none
theorem cv_X3_134 : CV RX3 134 0 yX0_placeBehind MX0_placeBehind 1 := ⟨_, rfl, rfl, ml_X3_134, ins_X0_placeBehind, sel_X0_placeBehind, ini_X0, cw_X0_placeBehind, ⟨by decide, by decide, by decide +kernel⟩⟩
set_option maxRecDepth 100000 in
set_option maxHeartbeats 4000000 in
theorem aw_X3_move_39 (l : Launch) (G : Gt) (rc5 : Nat → Nat → Nat → Int32 → Int32 → Sg → Option (Int32 × Sg)) (hrc5 : ∀ (r0 : Nat) (r1 : Nat) (r2 : Nat) (x3 : Int32) (x4 : Int32) (σ : Sg), Aw l G MX3_move rI 5 [(0, .ref (Gb G + r0)), (1, .ref (Gb G + r1)), (2, .ref (Gb G + r2)), (3, .int x3), (4, .int x4)] [] σ (rc5 r0 r1 r2 x3 x4 σ)) (r0 : Nat) (r1 : Nat) (r2 : Nat) (x4 : Int32) (x5 : Int32) (s0 : Int32) (s1 : Int32) (σ : Sg) : Aw l G MX3_move rI 39 [(0, .ref (Gb G + r0)), (1, .ref (Gb G + r1)), (2, .ref (Gb G + r2)), (4, .int x4), (5, .int x5)] [.int s1, .int s0] σ (f_X3_move_39 rc5 r0 r1 r2 x4 x5 s0 s1 σ) := by
  unfold f_X3_move_39
  refine Aw.gd (fun hr0 => ?_)
  refine Aw.gd (fun hr1 => ?_)
  refine Aw.gd (fun hr2 => ?_)
  refine Aw.iadd rfl dX3_move_39 ?_
  refine Aw.bi (fun b1 => ?_)
  refine Aw.istore_n (L' := [(3, .int b1), (0, .ref (Gb G + r0)), (1, .ref (Gb G + r1)), (2, .ref (Gb G + r2)), (4, .int x4), (5, .int x5)]) (Nat.le_of_ble_eq_true rfl) rfl rfl dX3_move_40 ?_
  refine Aw.aload_n 2 rfl rfl dX3_move_41 ?_
  refine Aw.iload 4 rfl rfl dX3_move_42 ?_
  refine Aw.iload 5 rfl rfl dX3_move_44 ?_
  refine Aw.iast (n := ln r1) hr1 rfl rfl dX3_move_46 (fun hb2 => ?_)
  refine Aw.bs (fun τ3 => ?_)
  refine Aw.iinc (v := x4 + 1) (L' := [(4, .int (x4 + 1)), (3, .int b1), (0, .ref (Gb G + r0)), (1, .ref (Gb G + r1)), (2, .ref (Gb G + r2)), (5, .int x5)]) 4 rfl (ii_1 _) (Nat.le_of_ble_eq_true rfl) rfl rfl dX3_move_47 ?_
  refine Aw.goto (q := 5) (by decide) dX3_move_50 ?_
  refine Aw.sub (L' := [(0, .ref (Gb G + r0)), (1, .ref (Gb G + r1)), (2, .ref (Gb G + r2)), (3, .int b1), (4, .int (x4 + 1))]) [2, 3, 4, 1, 0] rfl ?_
  exact hrc5 _ _ _ _ _ _
set_option maxRecDepth 100000 in
set_option maxHeartbeats 4000000 in
theorem aw_X3_move_5 (l : Launch) (G : Gt) : ∀ (n : Nat) (r0 : Nat) (r1 : Nat) (r2 : Nat) (x3 : Int32) (x4 : Int32) (σ : Sg), Aw l G MX3_move rI 5 [(0, .ref (Gb G + r0)), (1, .ref (Gb G + r1)), (2, .ref (Gb G + r2)), (3, .int x3), (4, .int x4)] [] σ (f_X3_move_5 n r0 r1 r2 x3 x4 σ) := by
  intro n
  induction n with
  | zero => intro r0 r1 r2 x3 x4 σ; exact Aw.no
  | succ n ih =>
    intro r0 r1 r2 x3 x4 σ
    rw [f_X3_move_5]
    refine Aw.gd (fun hr0 => ?_)
    refine Aw.gd (fun hr1 => ?_)
    refine Aw.gd (fun hr2 => ?_)
    refine Aw.iload 4 rfl rfl dX3_move_5 ?_
    refine Aw.aload_n 0 rfl rfl dX3_move_7 ?_
    refine Aw.getI fl_X3_31 (Nat.le_of_ble_eq_true rfl) rfl hr0 rfl dX3_move_8 ?_
    refine Aw.icmp_ge (q := 14) (t := 53) rfl (by decide) dX3_move_11 (fun hc => ?_) (fun hc => ?_)
    · refine Aw.iload_n 3 rfl rfl dX3_move_53 ?_
      exact Aw.iret rfl dX3_move_54
    · refine Aw.aload_n 2 rfl rfl dX3_move_14 ?_
      refine Aw.aload_n 1 rfl rfl dX3_move_15 ?_
      refine Aw.iload 4 rfl rfl dX3_move_16 ?_
      refine Aw.iald (n := ln r1) hr1 rfl rfl dX3_move_18 (fun hb1 => ?_)
      refine Aw.callVi (As := [.int (σ r1 (ix x4))]) (rest := []) cv_X3_134 (Nat.le_of_ble_eq_true rfl) hr2 (ct_X0_placeBehind l G r2 (σ r1 (ix x4)) σ) rfl rfl (Nat.le_of_ble_eq_true rfl) (Nat.le_of_ble_eq_true rfl) (Nat.le_of_ble_eq_true rfl) rfl dX3_move_19 (fun a2 τ3 _ => ?_)
      refine Aw.istore (L' := [(5, .int a2), (0, .ref (Gb G + r0)), (1, .ref (Gb G + r1)), (2, .ref (Gb G + r2)), (3, .int x3), (4, .int x4)]) (Nat.le_of_ble_eq_true rfl) rfl rfl dX3_move_22 ?_
      refine Aw.iload_n 4 rfl rfl dX3_move_24 ?_
      refine Aw.iload 0 rfl rfl dX3_move_25 ?_
      refine Aw.aload_n 2 rfl rfl dX3_move_27 ?_
      refine Aw.iload 5 rfl rfl dX3_move_28 ?_
      refine Aw.iald (n := ln r1) hr1 rfl rfl dX3_move_30 (fun hb4 => ?_)
      refine Aw.icmp_eq (q := 34) (t := 38) rfl (by decide) dX3_move_31 (fun hc => ?_) (fun hc => ?_)
      · refine Aw.iconst (v := 0) ic_0 rfl dX3_move_38 ?_
        refine Aw.sub (L' := [(0, .ref (Gb G + r0)), (1, .ref (Gb G + r1)), (2, .ref (Gb G + r2)), (4, .int x4), (5, .int a2)]) [1, 2, 3, 5, 0] rfl ?_
        exact aw_X3_move_39 l G _ ih _ _ _ _ _ _ _ _
      · refine Aw.iconst (v := 1) ic_1 rfl dX3_move_34 ?_
        refine Aw.goto (q := 39) (by decide) dX3_move_35 ?_
        refine Aw.sub (L' := [(0, .ref (Gb G + r0)), (1, .ref (Gb G + r1)), (2, .ref (Gb G + r2)), (4, .int x4), (5, .int a2)]) [1, 2, 3, 5, 0] rfl ?_
        exact aw_X3_move_39 l G _ ih _ _ _ _ _ _ _ _
set_option maxRecDepth 100000 in
set_option maxHeartbeats 4000000 in
theorem ct_X3_move (l : Launch) (G : Gt) (r0 : Nat) (r1 : Nat) (r2 : Nat) (σ : Sg) : Ct l G yX3_move MX3_move rI [.ref (Gb G + r0), .ref (Gb G + r1), .ref (Gb G + r2)] σ (f_X3_move r0 r1 r2 σ) := by
  refine Ct.of (by decide +kernel) rfl (Nat.le_of_ble_eq_true rfl) ?_
  show Aw l G MX3_move rI 0 [(0, .ref (Gb G + r0)), (1, .ref (Gb G + r1)), (2, .ref (Gb G + r2))] [] σ _
  unfold f_X3_move
  refine Aw.gd (fun hr0 => ?_)
  refine Aw.gd (fun hr1 => ?_)
  refine Aw.gd (fun hr2 => ?_)
  refine Aw.iconst (v := 0) ic_0 rfl dX3_move_0 ?_
  refine Aw.istore_n (L' := [(3, .int 0), (0, .ref (Gb G + r0)), (1, .ref (Gb G + r1)), (2, .ref (Gb G + r2))]) (Nat.le_of_ble_eq_true rfl) rfl rfl dX3_move_1 ?_
  refine Aw.iconst (v := 0) ic_0 rfl dX3_move_2 ?_
  refine Aw.istore (L' := [(4, .int 0), (3, .int 0), (0, .ref (Gb G + r0)), (1, .ref (Gb G + r1)), (2, .ref (Gb G + r2))]) (Nat.le_of_ble_eq_true rfl) rfl rfl dX3_move_3 ?_
  refine Aw.sub (L' := [(0, .ref (Gb G + r0)), (1, .ref (Gb G + r1)), (2, .ref (Gb G + r2)), (3, .int 0), (4, .int 0)]) [2, 3, 4, 1, 0] rfl ?_
  exact aw_X3_move_5 l G FU _ _ _ _ _ _
abbrev MX3_give : Mt := (RX3, cX3_give, 2, (some .int), 3)
def f_X3_give (r0 : Nat) (x1 : Int32) (σ : Sg) : Option (Int32 × Sg) := if kd r0 = 3 then (cb (f_X5_isBelow x1 (σ r0 3) σ) (fun a1 τ2 => if a1 = 0 then (some ((-2), τ2)) else (if inb x1 8 then (cb (f_X5_heldSpots (rf r0 1) (τ2 r0 0) τ2) (fun a4 τ5 => cb (f_X0_fitsOn (rf (rf r0 4) (ix x1)) a4 τ5) (fun a6 τ7 => if a6 = 0 then (some ((-3), τ7)) else (bn (up τ7 r0 8 ((τ7 r0 8) + 1)) (fun τ8 => if inb x1 8 then (cb (f_X3_move r0 (rf r0 1) (rf (rf r0 4) (ix x1)) τ8) (fun a10 τ11 => some (a10, τ11))) else none))))) else none))) else none
theorem cn_X3_96 : CN RX3 96 yX5_heldSpots RX5 MX5_heldSpots 2 := ⟨by decide +kernel, sta_X5_heldSpots, ini_X5, cw_X5_heldSpots, ⟨by decide, by decide, by decide +kernel⟩⟩
theorem cv_X3_100 : CV RX3 100 0 yX0_fitsOn MX0_fitsOn 1 := ⟨_, rfl, rfl, ml_X3_100, ins_X0_fitsOn, sel_X0_fitsOn, ini_X0, cw_X0_fitsOn, ⟨by decide, by decide, by decide +kernel⟩⟩
theorem cv_X3_103 : CV RX3 103 3 yX3_move MX3_move 2 := ⟨_, rfl, rfl, ml_X3_103, ins_X3_move, sel_X3_move, ini_X3, cw_X3_move, ⟨by decide, by decide, by decide +kernel⟩⟩
set_option maxRecDepth 100000 in
set_option maxHeartbeats 4000000 in
theorem ct_X3_give (l : Launch) (G : Gt) (r0 : Nat) (x1 : Int32) (σ : Sg) : Ct l G yX3_give MX3_give rI [.ref (Gb G + r0), .int x1] σ (f_X3_give r0 x1 σ) := by
  refine Ct.of (by decide +kernel) rfl (Nat.le_of_ble_eq_true rfl) ?_
  show Aw l G MX3_give rI 0 [(0, .ref (Gb G + r0)), (1, .int x1)] [] σ _
  unfold f_X3_give
  refine Aw.gd (fun hr0 => ?_)
  refine Aw.iload_n 1 rfl rfl dX3_give_0 ?_
  refine Aw.aload_n 0 rfl rfl dX3_give_1 ?_
  refine Aw.getI fl_X3_41 (Nat.le_of_ble_eq_true rfl) rfl hr0 rfl dX3_give_2 ?_
  refine Aw.callNi (As := [.int x1, .int (σ r0 3)]) (rest := []) cn_X3_54 (ct_X5_isBelow l G x1 (σ r0 3) σ) rfl rfl (Nat.le_of_ble_eq_true rfl) (Nat.le_of_ble_eq_true rfl) (Nat.le_of_ble_eq_true rfl) rfl dX3_give_5 (fun a1 τ2 _ => ?_)
  refine Aw.if_ne (q := 11) (t := 14) rfl (by decide) dX3_give_8 (fun hc => ?_) (fun hc => ?_)
  · refine Aw.bipush (v := (-2)) ib_m2 rfl dX3_give_11 ?_
    exact Aw.iret rfl dX3_give_13
  · refine Aw.aload_n 0 rfl rfl dX3_give_14 ?_
    refine Aw.getR fl_X3_20 (Nat.le_of_ble_eq_true rfl) rfl hr0 rfl dX3_give_15 ?_
    refine Aw.iload_n 1 rfl rfl dX3_give_18 ?_
    refine Aw.aald (n := 8) (t := 8) (ft_3_4 hr0).1 ⟨Nat.le_of_ble_eq_true rfl, Nat.le_of_ble_eq_true rfl⟩ (ft_3_4 hr0).2 rfl dX3_give_19 (fun hb3 => ?_)
    refine Aw.aload_n 0 rfl rfl dX3_give_20 ?_
    refine Aw.getR fl_X3_9 (Nat.le_of_ble_eq_true rfl) rfl hr0 rfl dX3_give_21 ?_
    refine Aw.aload_n 0 rfl rfl dX3_give_24 ?_
    refine Aw.getI fl_X3_31 (Nat.le_of_ble_eq_true rfl) rfl hr0 rfl dX3_give_25 ?_
    refine Aw.callNi (As := [.ref (Gb G + rf r0 1), .int (τ2 r0 0)]) (rest := [.ref (Gb G + rf (rf r0 4) (ix x1))]) cn_X3_96 (ct_X5_heldSpots l G (rf r0 1) (τ2 r0 0) τ2) rfl rfl (Nat.le_of_ble_eq_true rfl) (Nat.le_of_ble_eq_true rfl) (Nat.le_of_ble_eq_true rfl) rfl dX3_give_28 (fun a4 τ5 _ => ?_)
    refine Aw.callVi (As := [.int a4]) (rest := []) cv_X3_100 (Nat.le_of_ble_eq_true rfl) (el_3_4 hr0 (inb_ix hb3)) (ct_X0_fitsOn l G (rf (rf r0 4) (ix x1)) a4 τ5) rfl rfl (Nat.le_of_ble_eq_true rfl) (Nat.le_of_ble_eq_true rfl) (Nat.le_of_ble_eq_true rfl) rfl dX3_give_31 (fun a6 τ7 _ => ?_)
    refine Aw.if_ne (q := 37) (t := 40) rfl (by decide) dX3_give_34 (fun hc => ?_) (fun hc => ?_)
    · refine Aw.bipush (v := (-3)) ib_m3 rfl dX3_give_37 ?_
      exact Aw.iret rfl dX3_give_39
    · refine Aw.aload_n 0 rfl rfl dX3_give_40 ?_
      refine Aw.dupr rfl dX3_give_41 ?_
      refine Aw.getI fl_X3_51 (Nat.le_of_ble_eq_true rfl) rfl hr0 rfl dX3_give_42 ?_
      refine Aw.iconst (v := 1) ic_1 rfl dX3_give_45 ?_
      refine Aw.iadd rfl dX3_give_46 ?_
      refine Aw.putI (v := (τ7 r0 8) + 1) fl_X3_51 fp_3_8 rfl rfl (Nat.le_of_ble_eq_true rfl) rfl hr0 rfl dX3_give_47 ?_
      refine Aw.bs (fun τ8 => ?_)
      refine Aw.aload_n 0 rfl rfl dX3_give_50 ?_
      refine Aw.aload_n 0 rfl rfl dX3_give_51 ?_
      refine Aw.getR fl_X3_9 (Nat.le_of_ble_eq_true rfl) rfl hr0 rfl dX3_give_52 ?_
      refine Aw.aload_n 0 rfl rfl dX3_give_55 ?_
      refine Aw.getR fl_X3_20 (Nat.le_of_ble_eq_true rfl) rfl hr0 rfl dX3_give_56 ?_
      refine Aw.iload_n 1 rfl rfl dX3_give_59 ?_
      refine Aw.aald (n := 8) (t := 8) (ft_3_4 hr0).1 ⟨Nat.le_of_ble_eq_true rfl, Nat.le_of_ble_eq_true rfl⟩ (ft_3_4 hr0).2 rfl dX3_give_60 (fun hb9 => ?_)
      refine Aw.callVi (As := [.ref (Gb G + rf r0 1), .ref (Gb G + rf (rf r0 4) (ix x1))]) (rest := []) cv_X3_103 (Nat.le_of_ble_eq_true rfl) hr0 (ct_X3_move l G r0 (rf r0 1) (rf (rf r0 4) (ix x1)) τ8) rfl rfl (Nat.le_of_ble_eq_true rfl) (Nat.le_of_ble_eq_true rfl) (Nat.le_of_ble_eq_true rfl) rfl dX3_give_61 (fun a10 τ11 _ => ?_)
      exact Aw.iret rfl dX3_give_64
abbrev MX3_howManyAreHome : Mt := (RX3, cX3_howManyAreHome, 3, (some .int), 1)
def f_X3_howManyAreHome_33 (rc4 : Nat → Int32 → Int32 → Sg → Option (Int32 × Sg)) (r0 : Nat) (x2 : Int32) (s0 : Int32) (s1 : Int32) (σ : Sg) : Option (Int32 × Sg) := if kd r0 = 3 then (bn (s0 + s1) (fun b1 => rc4 r0 b1 (x2 + 1) σ)) else none
def f_X3_howManyAreHome_4  : Nat → Nat → Int32 → Int32 → Sg → Option (Int32 × Sg)
  | 0, _, _, _, _ => none
  | n + 1, r0, x1, x2, σ => if kd r0 = 3 then (if σ r0 0 ≤ x2 then (some (x1, σ)) else (if inb x2 8 then (if inb x2 8 then (if σ (rf r0 1) (ix x2) = σ (rf r0 2) (ix x2) then (f_X3_howManyAreHome_33 (f_X3_howManyAreHome_4 n) r0 x2 x1 1 σ) else (f_X3_howManyAreHome_33 (f_X3_howManyAreHome_4 n) r0 x2 x1 0 σ)) else none) else none)) else none
def f_X3_howManyAreHome (r0 : Nat) (σ : Sg) : Option (Int32 × Sg) := if kd r0 = 3 then (f_X3_howManyAreHome_4 FU r0 0 0 σ) else none
set_option maxRecDepth 100000 in
set_option maxHeartbeats 4000000 in
theorem aw_X3_howManyAreHome_33 (l : Launch) (G : Gt) (rc4 : Nat → Int32 → Int32 → Sg → Option (Int32 × Sg)) (hrc4 : ∀ (r0 : Nat) (x1 : Int32) (x2 : Int32) (σ : Sg), Aw l G MX3_howManyAreHome rI 4 [(0, .ref (Gb G + r0)), (1, .int x1), (2, .int x2)] [] σ (rc4 r0 x1 x2 σ)) (r0 : Nat) (x2 : Int32) (s0 : Int32) (s1 : Int32) (σ : Sg) : Aw l G MX3_howManyAreHome rI 33 [(0, .ref (Gb G + r0)), (2, .int x2)] [.int s1, .int s0] σ (f_X3_howManyAreHome_33 rc4 r0 x2 s0 s1 σ) := by
  unfold f_X3_howManyAreHome_33
  refine Aw.gd (fun hr0 => ?_)
  refine Aw.iadd rfl dX3_howManyAreHome_33 ?_
  refine Aw.bi (fun b1 => ?_)
  refine Aw.istore_n (L' := [(1, .int b1), (0, .ref (Gb G + r0)), (2, .int x2)]) (Nat.le_of_ble_eq_true rfl) rfl rfl dX3_howManyAreHome_34 ?_
  refine Aw.iinc (v := x2 + 1) (L' := [(2, .int (x2 + 1)), (1, .int b1), (0, .ref (Gb G + r0))]) 2 rfl (ii_1 _) (Nat.le_of_ble_eq_true rfl) rfl rfl dX3_howManyAreHome_35 ?_
  refine Aw.goto (q := 4) (by decide) dX3_howManyAreHome_38 ?_
  refine Aw.sub (L' := [(0, .ref (Gb G + r0)), (1, .int b1), (2, .int (x2 + 1))]) [2, 1, 0] rfl ?_
  exact hrc4 _ _ _ _
set_option maxRecDepth 100000 in
set_option maxHeartbeats 4000000 in
theorem aw_X3_howManyAreHome_4 (l : Launch) (G : Gt) : ∀ (n : Nat) (r0 : Nat) (x1 : Int32) (x2 : Int32) (σ : Sg), Aw l G MX3_howManyAreHome rI 4 [(0, .ref (Gb G + r0)), (1, .int x1), (2, .int x2)] [] σ (f_X3_howManyAreHome_4 n r0 x1 x2 σ) := by
  intro n
  induction n with
  | zero => intro r0 x1 x2 σ; exact Aw.no
  | succ n ih =>
    intro r0 x1 x2 σ
    rw [f_X3_howManyAreHome_4]
    refine Aw.gd (fun hr0 => ?_)
    refine Aw.iload_n 2 rfl rfl dX3_howManyAreHome_4 ?_
    refine Aw.aload_n 0 rfl rfl dX3_howManyAreHome_5 ?_
    refine Aw.getI fl_X3_31 (Nat.le_of_ble_eq_true rfl) rfl hr0 rfl dX3_howManyAreHome_6 ?_
    refine Aw.icmp_ge (q := 12) (t := 41) rfl (by decide) dX3_howManyAreHome_9 (fun hc => ?_) (fun hc => ?_)
    · refine Aw.iload_n 1 rfl rfl dX3_howManyAreHome_41 ?_
      exact Aw.iret rfl dX3_howManyAreHome_42
    · refine Aw.iload_n 1 rfl rfl dX3_howManyAreHome_12 ?_
      refine Aw.aload_n 0 rfl rfl dX3_howManyAreHome_13 ?_
      refine Aw.getR fl_X3_9 (Nat.le_of_ble_eq_true rfl) rfl hr0 rfl dX3_howManyAreHome_14 ?_
      refine Aw.iload_n 2 rfl rfl dX3_howManyAreHome_17 ?_
      refine Aw.iald (n := 8) (ft_3_1 hr0).1 (ft_3_1 hr0).2 rfl dX3_howManyAreHome_18 (fun hb1 => ?_)
      refine Aw.aload_n 0 rfl rfl dX3_howManyAreHome_19 ?_
      refine Aw.getR fl_X3_15 (Nat.le_of_ble_eq_true rfl) rfl hr0 rfl dX3_howManyAreHome_20 ?_
      refine Aw.iload_n 2 rfl rfl dX3_howManyAreHome_23 ?_
      refine Aw.iald (n := 8) (ft_3_2 hr0).1 (ft_3_2 hr0).2 rfl dX3_howManyAreHome_24 (fun hb2 => ?_)
      refine Aw.icmp_ne (q := 28) (t := 32) rfl (by decide) dX3_howManyAreHome_25 (fun hc => ?_) (fun hc => ?_)
      · refine Aw.iconst (v := 1) ic_1 rfl dX3_howManyAreHome_28 ?_
        refine Aw.goto (q := 33) (by decide) dX3_howManyAreHome_29 ?_
        refine Aw.sub (L' := [(0, .ref (Gb G + r0)), (2, .int x2)]) [0, 2] rfl ?_
        exact aw_X3_howManyAreHome_33 l G _ ih _ _ _ _ _
      · refine Aw.iconst (v := 0) ic_0 rfl dX3_howManyAreHome_32 ?_
        refine Aw.sub (L' := [(0, .ref (Gb G + r0)), (2, .int x2)]) [0, 2] rfl ?_
        exact aw_X3_howManyAreHome_33 l G _ ih _ _ _ _ _
set_option maxRecDepth 100000 in
set_option maxHeartbeats 4000000 in
theorem ct_X3_howManyAreHome (l : Launch) (G : Gt) (r0 : Nat) (σ : Sg) : Ct l G yX3_howManyAreHome MX3_howManyAreHome rI [.ref (Gb G + r0)] σ (f_X3_howManyAreHome r0 σ) := by
  refine Ct.of (by decide +kernel) rfl (Nat.le_of_ble_eq_true rfl) ?_
  show Aw l G MX3_howManyAreHome rI 0 [(0, .ref (Gb G + r0))] [] σ _
  unfold f_X3_howManyAreHome
  refine Aw.gd (fun hr0 => ?_)
  refine Aw.iconst (v := 0) ic_0 rfl dX3_howManyAreHome_0 ?_
  refine Aw.istore_n (L' := [(1, .int 0), (0, .ref (Gb G + r0))]) (Nat.le_of_ble_eq_true rfl) rfl rfl dX3_howManyAreHome_1 ?_
  refine Aw.iconst (v := 0) ic_0 rfl dX3_howManyAreHome_2 ?_
  refine Aw.istore_n (L' := [(2, .int 0), (1, .int 0), (0, .ref (Gb G + r0))]) (Nat.le_of_ble_eq_true rfl) rfl rfl dX3_howManyAreHome_3 ?_
  refine Aw.sub (L' := [(0, .ref (Gb G + r0)), (1, .int 0), (2, .int 0)]) [2, 1, 0] rfl ?_
  exact aw_X3_howManyAreHome_4 l G FU _ _ _ _
abbrev MX3_sendHome : Mt := (RX3, cX3_sendHome, 2, (some .int), 2)
def f_X3_sendHome (r0 : Nat) (σ : Sg) : Option (Int32 × Sg) := if kd r0 = 3 then (cb (f_X3_howManyAreHome r0 σ) (fun a1 τ2 => bn ((σ r0 0) - a1) (fun b3 => bn (cpy τ2 (rf r0 2) 0 (rf r0 1) 0 8) (fun τ4 => some (b3, τ4))))) else none
theorem cv_X3_107 : CV RX3 107 3 yX3_howManyAreHome MX3_howManyAreHome 0 := ⟨_, rfl, rfl, ml_X3_107, ins_X3_howManyAreHome, sel_X3_howManyAreHome, ini_X3, cw_X3_howManyAreHome, ⟨by decide, by decide, by decide +kernel⟩⟩
set_option maxRecDepth 100000 in
set_option maxHeartbeats 4000000 in
theorem ct_X3_sendHome (l : Launch) (G : Gt) (r0 : Nat) (σ : Sg) : Ct l G yX3_sendHome MX3_sendHome rI [.ref (Gb G + r0)] σ (f_X3_sendHome r0 σ) := by
  refine Ct.of (by decide +kernel) rfl (Nat.le_of_ble_eq_true rfl) ?_
  show Aw l G MX3_sendHome rI 0 [(0, .ref (Gb G + r0))] [] σ _
  unfold f_X3_sendHome
  refine Aw.gd (fun hr0 => ?_)
  refine Aw.aload_n 0 rfl rfl dX3_sendHome_0 ?_
  refine Aw.getI fl_X3_31 (Nat.le_of_ble_eq_true rfl) rfl hr0 rfl dX3_sendHome_1 ?_
  refine Aw.aload_n 0 rfl rfl dX3_sendHome_4 ?_
  refine Aw.callVi (As := []) (rest := [.int (σ r0 0)]) cv_X3_107 (Nat.le_of_ble_eq_true rfl) hr0 (ct_X3_howManyAreHome l G r0 σ) rfl rfl (Nat.le_of_ble_eq_true rfl) (Nat.le_of_ble_eq_true rfl) (Nat.le_of_ble_eq_true rfl) rfl dX3_sendHome_5 (fun a1 τ2 _ => ?_)
  refine Aw.isub rfl dX3_sendHome_8 ?_
  refine Aw.bi (fun b3 => ?_)
  refine Aw.istore_n (L' := [(1, .int b3), (0, .ref (Gb G + r0))]) (Nat.le_of_ble_eq_true rfl) rfl rfl dX3_sendHome_9 ?_
  refine Aw.aload_n 1 rfl rfl dX3_sendHome_10 ?_
  refine Aw.getR fl_X3_15 (Nat.le_of_ble_eq_true rfl) rfl hr0 rfl dX3_sendHome_11 ?_
  refine Aw.iconst (v := 0) ic_0 rfl dX3_sendHome_14 ?_
  refine Aw.aload_n 1 rfl rfl dX3_sendHome_15 ?_
  refine Aw.getR fl_X3_9 (Nat.le_of_ble_eq_true rfl) rfl hr0 rfl dX3_sendHome_16 ?_
  refine Aw.iconst (v := 0) ic_0 rfl dX3_sendHome_19 ?_
  refine Aw.bipush (v := 8) ib_8 rfl dX3_sendHome_20 ?_
  refine Aw.acopy (n := 8) (n0 := 8) (n1 := 8) ml_X3_35 ac_nat ac_sta ini_J10 (ft_3_2 hr0).1 (ft_3_1 hr0).1 (ft_3_2 hr0).2 (ft_3_1 hr0).2 (by decide) (by decide) (by decide) (Nat.le_of_ble_eq_true rfl) (by decide) rfl dX3_sendHome_22 ?_
  rw [cl_8]
  refine Aw.bs (fun τ4 => ?_)
  refine Aw.iload_n 0 rfl rfl dX3_sendHome_25 ?_
  exact Aw.iret rfl dX3_sendHome_26
abbrev MX3_addToPlan : Mt := (RX3, cX3_addToPlan, 2, (some .int), 2)
def f_X3_addToPlan (r0 : Nat) (x1 : Int32) (σ : Sg) : Option (Int32 × Sg) := if kd r0 = 3 then (cb (f_X5_isBelow x1 (σ r0 3) σ) (fun a1 τ2 => if a1 = 0 then (some ((-2), τ2)) else (if τ2 r0 5 < 12 then (if inb (τ2 r0 5) 12 then (bn (up τ2 (rf r0 6) (ix (τ2 r0 5)) x1) (fun τ4 => bn (up τ4 r0 5 ((τ4 r0 5) + 1)) (fun τ5 => some (τ5 r0 5, τ5)))) else none) else (some ((-4), τ2))))) else none
set_option maxRecDepth 100000 in
set_option maxHeartbeats 4000000 in
theorem ct_X3_addToPlan (l : Launch) (G : Gt) (r0 : Nat) (x1 : Int32) (σ : Sg) : Ct l G yX3_addToPlan MX3_addToPlan rI [.ref (Gb G + r0), .int x1] σ (f_X3_addToPlan r0 x1 σ) := by
  refine Ct.of (by decide +kernel) rfl (Nat.le_of_ble_eq_true rfl) ?_
  show Aw l G MX3_addToPlan rI 0 [(0, .ref (Gb G + r0)), (1, .int x1)] [] σ _
  unfold f_X3_addToPlan
  refine Aw.gd (fun hr0 => ?_)
  refine Aw.iload_n 1 rfl rfl dX3_addToPlan_0 ?_
  refine Aw.aload_n 0 rfl rfl dX3_addToPlan_1 ?_
  refine Aw.getI fl_X3_41 (Nat.le_of_ble_eq_true rfl) rfl hr0 rfl dX3_addToPlan_2 ?_
  refine Aw.callNi (As := [.int x1, .int (σ r0 3)]) (rest := []) cn_X3_54 (ct_X5_isBelow l G x1 (σ r0 3) σ) rfl rfl (Nat.le_of_ble_eq_true rfl) (Nat.le_of_ble_eq_true rfl) (Nat.le_of_ble_eq_true rfl) rfl dX3_addToPlan_5 (fun a1 τ2 _ => ?_)
  refine Aw.if_ne (q := 11) (t := 14) rfl (by decide) dX3_addToPlan_8 (fun hc => ?_) (fun hc => ?_)
  · refine Aw.bipush (v := (-2)) ib_m2 rfl dX3_addToPlan_11 ?_
    exact Aw.iret rfl dX3_addToPlan_13
  · refine Aw.aload_n 0 rfl rfl dX3_addToPlan_14 ?_
    refine Aw.getI fl_X3_48 (Nat.le_of_ble_eq_true rfl) rfl hr0 rfl dX3_addToPlan_15 ?_
    refine Aw.bipush (v := 12) ib_12 rfl dX3_addToPlan_18 ?_
    refine Aw.icmp_lt (q := 23) (t := 26) rfl (by decide) dX3_addToPlan_20 (fun hc => ?_) (fun hc => ?_)
    · refine Aw.aload_n 0 rfl rfl dX3_addToPlan_26 ?_
      refine Aw.getR fl_X3_24 (Nat.le_of_ble_eq_true rfl) rfl hr0 rfl dX3_addToPlan_27 ?_
      refine Aw.aload_n 0 rfl rfl dX3_addToPlan_30 ?_
      refine Aw.getI fl_X3_48 (Nat.le_of_ble_eq_true rfl) rfl hr0 rfl dX3_addToPlan_31 ?_
      refine Aw.iload_n 1 rfl rfl dX3_addToPlan_34 ?_
      refine Aw.iast (n := 12) (ft_3_6 hr0).1 (ft_3_6 hr0).2 rfl dX3_addToPlan_35 (fun hb3 => ?_)
      refine Aw.bs (fun τ4 => ?_)
      refine Aw.aload_n 0 rfl rfl dX3_addToPlan_36 ?_
      refine Aw.dupr rfl dX3_addToPlan_37 ?_
      refine Aw.getI fl_X3_48 (Nat.le_of_ble_eq_true rfl) rfl hr0 rfl dX3_addToPlan_38 ?_
      refine Aw.iconst (v := 1) ic_1 rfl dX3_addToPlan_41 ?_
      refine Aw.iadd rfl dX3_addToPlan_42 ?_
      refine Aw.putI (v := (τ4 r0 5) + 1) fl_X3_48 fp_3_5 rfl rfl (Nat.le_of_ble_eq_true rfl) rfl hr0 rfl dX3_addToPlan_43 ?_
      refine Aw.bs (fun τ5 => ?_)
      refine Aw.aload_n 0 rfl rfl dX3_addToPlan_46 ?_
      refine Aw.getI fl_X3_48 (Nat.le_of_ble_eq_true rfl) rfl hr0 rfl dX3_addToPlan_47 ?_
      exact Aw.iret rfl dX3_addToPlan_50
    · refine Aw.bipush (v := (-4)) ib_m4 rfl dX3_addToPlan_23 ?_
      exact Aw.iret rfl dX3_addToPlan_25
abbrev MX3_emptyPlan : Mt := (RX3, cX3_emptyPlan, 2, (some .int), 1)
def f_X3_emptyPlan (r0 : Nat) (σ : Sg) : Option (Int32 × Sg) := if kd r0 = 3 then (bn (σ r0 5) (fun b1 => bn (up σ r0 5 0) (fun τ2 => some (b1, τ2)))) else none
set_option maxRecDepth 100000 in
set_option maxHeartbeats 4000000 in
theorem ct_X3_emptyPlan (l : Launch) (G : Gt) (r0 : Nat) (σ : Sg) : Ct l G yX3_emptyPlan MX3_emptyPlan rI [.ref (Gb G + r0)] σ (f_X3_emptyPlan r0 σ) := by
  refine Ct.of (by decide +kernel) rfl (Nat.le_of_ble_eq_true rfl) ?_
  show Aw l G MX3_emptyPlan rI 0 [(0, .ref (Gb G + r0))] [] σ _
  unfold f_X3_emptyPlan
  refine Aw.gd (fun hr0 => ?_)
  refine Aw.aload_n 0 rfl rfl dX3_emptyPlan_0 ?_
  refine Aw.getI fl_X3_48 (Nat.le_of_ble_eq_true rfl) rfl hr0 rfl dX3_emptyPlan_1 ?_
  refine Aw.bi (fun b1 => ?_)
  refine Aw.istore_n (L' := [(1, .int b1), (0, .ref (Gb G + r0))]) (Nat.le_of_ble_eq_true rfl) rfl rfl dX3_emptyPlan_4 ?_
  refine Aw.aload_n 1 rfl rfl dX3_emptyPlan_5 ?_
  refine Aw.iconst (v := 0) ic_0 rfl dX3_emptyPlan_6 ?_
  refine Aw.putI (v := 0) fl_X3_48 fp_3_5 rfl rfl (Nat.le_of_ble_eq_true rfl) rfl hr0 rfl dX3_emptyPlan_7 ?_
  refine Aw.bs (fun τ2 => ?_)
  refine Aw.iload_n 0 rfl rfl dX3_emptyPlan_10 ?_
  exact Aw.iret rfl dX3_emptyPlan_11
abbrev MX3_followPlan : Mt := (RX3, cX3_followPlan, 3, (some .int), 3)
def f_X3_followPlan_17  : Nat → Nat → Int32 → Sg → Option (Int32 × Sg)
  | 0, _, _, _ => none
  | n + 1, r0, x1, σ => if kd r0 = 3 then (if σ r0 5 ≤ x1 then (some ((-1), σ)) else (if inb x1 12 then (if inb (σ (rf r0 6) (ix x1)) 8 then (cb (f_X5_heldSpots (rf r0 7) (σ r0 0) σ) (fun a3 τ4 => cb (f_X0_fitsOn (rf (rf r0 4) (ix (σ (rf r0 6) (ix x1)))) a3 τ4) (fun a5 τ6 => if a5 = 0 then (some (x1, τ6)) else (cb (f_X3_move r0 (rf r0 7) (rf (rf r0 4) (ix (σ (rf r0 6) (ix x1)))) τ6) (fun a7 τ8 => f_X3_followPlan_17 n r0 (x1 + 1) τ8))))) else none) else none)) else none
def f_X3_followPlan (r0 : Nat) (σ : Sg) : Option (Int32 × Sg) := if kd r0 = 3 then (bn (cpy σ (rf r0 1) 0 (rf r0 7) 0 8) (fun τ1 => f_X3_followPlan_17 FU r0 0 τ1)) else none
set_option maxRecDepth 100000 in
set_option maxHeartbeats 4000000 in
theorem aw_X3_followPlan_17 (l : Launch) (G : Gt) : ∀ (n : Nat) (r0 : Nat) (x1 : Int32) (σ : Sg), Aw l G MX3_followPlan rI 17 [(0, .ref (Gb G + r0)), (1, .int x1)] [] σ (f_X3_followPlan_17 n r0 x1 σ) := by
  intro n
  induction n with
  | zero => intro r0 x1 σ; exact Aw.no
  | succ n ih =>
    intro r0 x1 σ
    rw [f_X3_followPlan_17]
    refine Aw.gd (fun hr0 => ?_)
    refine Aw.iload_n 1 rfl rfl dX3_followPlan_17 ?_
    refine Aw.aload_n 0 rfl rfl dX3_followPlan_18 ?_
    refine Aw.getI fl_X3_48 (Nat.le_of_ble_eq_true rfl) rfl hr0 rfl dX3_followPlan_19 ?_
    refine Aw.icmp_ge (q := 25) (t := 73) rfl (by decide) dX3_followPlan_22 (fun hc => ?_) (fun hc => ?_)
    · refine Aw.iconst (v := (-1)) ic_m1 rfl dX3_followPlan_73 ?_
      exact Aw.iret rfl dX3_followPlan_74
    · refine Aw.aload_n 0 rfl rfl dX3_followPlan_25 ?_
      refine Aw.getR fl_X3_20 (Nat.le_of_ble_eq_true rfl) rfl hr0 rfl dX3_followPlan_26 ?_
      refine Aw.aload_n 0 rfl rfl dX3_followPlan_29 ?_
      refine Aw.getR fl_X3_24 (Nat.le_of_ble_eq_true rfl) rfl hr0 rfl dX3_followPlan_30 ?_
      refine Aw.iload_n 1 rfl rfl dX3_followPlan_33 ?_
      refine Aw.iald (n := 12) (ft_3_6 hr0).1 (ft_3_6 hr0).2 rfl dX3_followPlan_34 (fun hb1 => ?_)
      refine Aw.aald (n := 8) (t := 8) (ft_3_4 hr0).1 ⟨Nat.le_of_ble_eq_true rfl, Nat.le_of_ble_eq_true rfl⟩ (ft_3_4 hr0).2 rfl dX3_followPlan_35 (fun hb2 => ?_)
      refine Aw.astore_n (L' := [(2, .ref (Gb G + rf (rf r0 4) (ix (σ (rf r0 6) (ix x1))))), (0, .ref (Gb G + r0)), (1, .int x1)]) (Nat.le_of_ble_eq_true rfl) rfl rfl dX3_followPlan_36 ?_
      refine Aw.aload_n 0 rfl rfl dX3_followPlan_37 ?_
      refine Aw.aload_n 1 rfl rfl dX3_followPlan_38 ?_
      refine Aw.getR fl_X3_27 (Nat.le_of_ble_eq_true rfl) rfl hr0 rfl dX3_followPlan_39 ?_
      refine Aw.aload_n 1 rfl rfl dX3_followPlan_42 ?_
      refine Aw.getI fl_X3_31 (Nat.le_of_ble_eq_true rfl) rfl hr0 rfl dX3_followPlan_43 ?_
      refine Aw.callNi (As := [.ref (Gb G + rf r0 7), .int (σ r0 0)]) (rest := [.ref (Gb G + rf (rf r0 4) (ix (σ (rf r0 6) (ix x1))))]) cn_X3_96 (ct_X5_heldSpots l G (rf r0 7) (σ r0 0) σ) rfl rfl (Nat.le_of_ble_eq_true rfl) (Nat.le_of_ble_eq_true rfl) (Nat.le_of_ble_eq_true rfl) rfl dX3_followPlan_46 (fun a3 τ4 _ => ?_)
      refine Aw.callVi (As := [.int a3]) (rest := []) cv_X3_100 (Nat.le_of_ble_eq_true rfl) (el_3_4 hr0 (inb_ix hb2)) (ct_X0_fitsOn l G (rf (rf r0 4) (ix (σ (rf r0 6) (ix x1)))) a3 τ4) rfl rfl (Nat.le_of_ble_eq_true rfl) (Nat.le_of_ble_eq_true rfl) (Nat.le_of_ble_eq_true rfl) rfl dX3_followPlan_49 (fun a5 τ6 _ => ?_)
      refine Aw.if_ne (q := 55) (t := 57) rfl (by decide) dX3_followPlan_52 (fun hc => ?_) (fun hc => ?_)
      · refine Aw.iload_n 2 rfl rfl dX3_followPlan_55 ?_
        exact Aw.iret rfl dX3_followPlan_56
      · refine Aw.aload_n 1 rfl rfl dX3_followPlan_57 ?_
        refine Aw.aload_n 1 rfl rfl dX3_followPlan_58 ?_
        refine Aw.getR fl_X3_27 (Nat.le_of_ble_eq_true rfl) rfl hr0 rfl dX3_followPlan_59 ?_
        refine Aw.aload_n 0 rfl rfl dX3_followPlan_62 ?_
        refine Aw.callVi (As := [.ref (Gb G + rf r0 7), .ref (Gb G + rf (rf r0 4) (ix (σ (rf r0 6) (ix x1))))]) (rest := []) cv_X3_103 (Nat.le_of_ble_eq_true rfl) hr0 (ct_X3_move l G r0 (rf r0 7) (rf (rf r0 4) (ix (σ (rf r0 6) (ix x1)))) τ6) rfl rfl (Nat.le_of_ble_eq_true rfl) (Nat.le_of_ble_eq_true rfl) (Nat.le_of_ble_eq_true rfl) rfl dX3_followPlan_63 (fun a7 τ8 _ => ?_)
        refine Aw.pop rfl dX3_followPlan_66 ?_
        refine Aw.iinc (v := x1 + 1) (L' := [(1, .int (x1 + 1)), (2, .ref (Gb G + rf (rf r0 4) (ix (σ (rf r0 6) (ix x1))))), (0, .ref (Gb G + r0))]) 2 rfl (ii_1 _) (Nat.le_of_ble_eq_true rfl) rfl rfl dX3_followPlan_67 ?_
        refine Aw.goto (q := 17) (by decide) dX3_followPlan_70 ?_
        refine Aw.sub (L' := [(0, .ref (Gb G + r0)), (1, .int (x1 + 1))]) [2, 0] rfl ?_
        exact ih _ _ _
set_option maxRecDepth 100000 in
set_option maxHeartbeats 4000000 in
theorem ct_X3_followPlan (l : Launch) (G : Gt) (r0 : Nat) (σ : Sg) : Ct l G yX3_followPlan MX3_followPlan rI [.ref (Gb G + r0)] σ (f_X3_followPlan r0 σ) := by
  refine Ct.of (by decide +kernel) rfl (Nat.le_of_ble_eq_true rfl) ?_
  show Aw l G MX3_followPlan rI 0 [(0, .ref (Gb G + r0))] [] σ _
  unfold f_X3_followPlan
  refine Aw.gd (fun hr0 => ?_)
  refine Aw.aload_n 0 rfl rfl dX3_followPlan_0 ?_
  refine Aw.getR fl_X3_9 (Nat.le_of_ble_eq_true rfl) rfl hr0 rfl dX3_followPlan_1 ?_
  refine Aw.iconst (v := 0) ic_0 rfl dX3_followPlan_4 ?_
  refine Aw.aload_n 0 rfl rfl dX3_followPlan_5 ?_
  refine Aw.getR fl_X3_27 (Nat.le_of_ble_eq_true rfl) rfl hr0 rfl dX3_followPlan_6 ?_
  refine Aw.iconst (v := 0) ic_0 rfl dX3_followPlan_9 ?_
  refine Aw.bipush (v := 8) ib_8 rfl dX3_followPlan_10 ?_
  refine Aw.acopy (n := 8) (n0 := 8) (n1 := 8) ml_X3_35 ac_nat ac_sta ini_J10 (ft_3_1 hr0).1 (ft_3_7 hr0).1 (ft_3_1 hr0).2 (ft_3_7 hr0).2 (by decide) (by decide) (by decide) (Nat.le_of_ble_eq_true rfl) (by decide) rfl dX3_followPlan_12 ?_
  rw [cl_8]
  refine Aw.bs (fun τ1 => ?_)
  refine Aw.iconst (v := 0) ic_0 rfl dX3_followPlan_15 ?_
  refine Aw.istore_n (L' := [(1, .int 0), (0, .ref (Gb G + r0))]) (Nat.le_of_ble_eq_true rfl) rfl rfl dX3_followPlan_16 ?_
  refine Aw.sub (L' := [(0, .ref (Gb G + r0)), (1, .int 0)]) [1, 0] rfl ?_
  exact aw_X3_followPlan_17 l G FU _ _ _
abbrev MX3_askPlanned : Mt := (RX3, cX3_askPlanned, 3, (some .int), 4)
def f_X3_askPlanned (r0 : Nat) (x1 : Int32) (x2 : Int32) (σ : Sg) : Option (Int32 × Sg) := if kd r0 = 3 then (cb (f_X5_isBelow x1 (σ r0 0) σ) (fun a1 τ2 => if a1 = 0 then (some ((-2), τ2)) else (cb (f_X5_isBelow x2 2 τ2) (fun a3 τ4 => if a3 = 0 then (some ((-2), τ4)) else (cb (f_X3_followPlan r0 τ4) (fun a5 τ6 => if x2 = 0 then (if inb x1 8 then (some ((τ6 (rf r0 7) (ix x1)) / 4, τ6)) else none) else (if inb x1 8 then (some (rem (τ6 (rf r0 7) (ix x1)) 4, τ6)) else none))))))) else none
theorem cv_X3_110 : CV RX3 110 3 yX3_followPlan MX3_followPlan 0 := ⟨_, rfl, rfl, ml_X3_110, ins_X3_followPlan, sel_X3_followPlan, ini_X3, cw_X3_followPlan, ⟨by decide, by decide, by decide +kernel⟩⟩
set_option maxRecDepth 100000 in
set_option maxHeartbeats 4000000 in
theorem ct_X3_askPlanned (l : Launch) (G : Gt) (r0 : Nat) (x1 : Int32) (x2 : Int32) (σ : Sg) : Ct l G yX3_askPlanned MX3_askPlanned rI [.ref (Gb G + r0), .int x1, .int x2] σ (f_X3_askPlanned r0 x1 x2 σ) := by
  refine Ct.of (by decide +kernel) rfl (Nat.le_of_ble_eq_true rfl) ?_
  show Aw l G MX3_askPlanned rI 0 [(0, .ref (Gb G + r0)), (1, .int x1), (2, .int x2)] [] σ _
  unfold f_X3_askPlanned
  refine Aw.gd (fun hr0 => ?_)
  refine Aw.iload_n 1 rfl rfl dX3_askPlanned_0 ?_
  refine Aw.aload_n 0 rfl rfl dX3_askPlanned_1 ?_
  refine Aw.getI fl_X3_31 (Nat.le_of_ble_eq_true rfl) rfl hr0 rfl dX3_askPlanned_2 ?_
  refine Aw.callNi (As := [.int x1, .int (σ r0 0)]) (rest := []) cn_X3_54 (ct_X5_isBelow l G x1 (σ r0 0) σ) rfl rfl (Nat.le_of_ble_eq_true rfl) (Nat.le_of_ble_eq_true rfl) (Nat.le_of_ble_eq_true rfl) rfl dX3_askPlanned_5 (fun a1 τ2 _ => ?_)
  refine Aw.if_eq (q := 11) (t := 19) rfl (by decide) dX3_askPlanned_8 (fun hc => ?_) (fun hc => ?_)
  · refine Aw.bipush (v := (-2)) ib_m2 rfl dX3_askPlanned_19 ?_
    exact Aw.iret rfl dX3_askPlanned_21
  · refine Aw.iload_n 2 rfl rfl dX3_askPlanned_11 ?_
    refine Aw.iconst (v := 2) ic_2 rfl dX3_askPlanned_12 ?_
    refine Aw.callNi (As := [.int x2, .int 2]) (rest := []) cn_X3_54 (ct_X5_isBelow l G x2 2 τ2) rfl rfl (Nat.le_of_ble_eq_true rfl) (Nat.le_of_ble_eq_true rfl) (Nat.le_of_ble_eq_true rfl) rfl dX3_askPlanned_13 (fun a3 τ4 _ => ?_)
    refine Aw.if_ne (q := 19) (t := 22) rfl (by decide) dX3_askPlanned_16 (fun hc => ?_) (fun hc => ?_)
    · refine Aw.bipush (v := (-2)) ib_m2 rfl dX3_askPlanned_19 ?_
      exact Aw.iret rfl dX3_askPlanned_21
    · refine Aw.aload_n 0 rfl rfl dX3_askPlanned_22 ?_
      refine Aw.callVi (As := []) (rest := []) cv_X3_110 (Nat.le_of_ble_eq_true rfl) hr0 (ct_X3_followPlan l G r0 τ4) rfl rfl (Nat.le_of_ble_eq_true rfl) (Nat.le_of_ble_eq_true rfl) (Nat.le_of_ble_eq_true rfl) rfl dX3_askPlanned_23 (fun a5 τ6 _ => ?_)
      refine Aw.pop rfl dX3_askPlanned_26 ?_
      refine Aw.iload_n 2 rfl rfl dX3_askPlanned_27 ?_
      refine Aw.if_ne (q := 31) (t := 42) rfl (by decide) dX3_askPlanned_28 (fun hc => ?_) (fun hc => ?_)
      · refine Aw.aload_n 0 rfl rfl dX3_askPlanned_31 ?_
        refine Aw.getR fl_X3_27 (Nat.le_of_ble_eq_true rfl) rfl hr0 rfl dX3_askPlanned_32 ?_
        refine Aw.iload_n 1 rfl rfl dX3_askPlanned_35 ?_
        refine Aw.iald (n := 8) (ft_3_7 hr0).1 (ft_3_7 hr0).2 rfl dX3_askPlanned_36 (fun hb8 => ?_)
        refine Aw.iconst (v := 4) ic_4 rfl dX3_askPlanned_37 ?_
        refine Aw.idiv nz_4 rfl dX3_askPlanned_38 ?_
        refine Aw.goto (q := 50) (by decide) dX3_askPlanned_39 ?_
        exact Aw.iret rfl dX3_askPlanned_50
      · refine Aw.aload_n 0 rfl rfl dX3_askPlanned_42 ?_
        refine Aw.getR fl_X3_27 (Nat.le_of_ble_eq_true rfl) rfl hr0 rfl dX3_askPlanned_43 ?_
        refine Aw.iload_n 1 rfl rfl dX3_askPlanned_46 ?_
        refine Aw.iald (n := 8) (ft_3_7 hr0).1 (ft_3_7 hr0).2 rfl dX3_askPlanned_47 (fun hb7 => ?_)
        refine Aw.iconst (v := 4) ic_4 rfl dX3_askPlanned_48 ?_
        refine Aw.irem nz_4 rfl dX3_askPlanned_49 ?_
        exact Aw.iret rfl dX3_askPlanned_50
abbrev MX3_partnerOf : Mt := (RX3, cX3_partnerOf, 3, (some .int), 1)
def f_X3_partnerOf (r0 : Nat) (x1 : Int32) (σ : Sg) : Option (Int32 × Sg) := if kd r0 = 3 then (bn (x1 ^^^ 1) (fun b1 => if σ r0 0 ≤ b1 then (some ((-1), σ)) else (some (b1, σ)))) else none
set_option maxRecDepth 100000 in
set_option maxHeartbeats 4000000 in
theorem ct_X3_partnerOf (l : Launch) (G : Gt) (r0 : Nat) (x1 : Int32) (σ : Sg) : Ct l G yX3_partnerOf MX3_partnerOf rI [.ref (Gb G + r0), .int x1] σ (f_X3_partnerOf r0 x1 σ) := by
  refine Ct.of (by decide +kernel) rfl (Nat.le_of_ble_eq_true rfl) ?_
  show Aw l G MX3_partnerOf rI 0 [(0, .ref (Gb G + r0)), (1, .int x1)] [] σ _
  unfold f_X3_partnerOf
  refine Aw.gd (fun hr0 => ?_)
  refine Aw.iload_n 1 rfl rfl dX3_partnerOf_0 ?_
  refine Aw.iconst (v := 1) ic_1 rfl dX3_partnerOf_1 ?_
  refine Aw.ixor rfl dX3_partnerOf_2 ?_
  refine Aw.bi (fun b1 => ?_)
  refine Aw.istore_n (L' := [(2, .int b1), (0, .ref (Gb G + r0)), (1, .int x1)]) (Nat.le_of_ble_eq_true rfl) rfl rfl dX3_partnerOf_3 ?_
  refine Aw.iload_n 0 rfl rfl dX3_partnerOf_4 ?_
  refine Aw.aload_n 1 rfl rfl dX3_partnerOf_5 ?_
  refine Aw.getI fl_X3_31 (Nat.le_of_ble_eq_true rfl) rfl hr0 rfl dX3_partnerOf_6 ?_
  refine Aw.icmp_ge (q := 12) (t := 16) rfl (by decide) dX3_partnerOf_9 (fun hc => ?_) (fun hc => ?_)
  · refine Aw.iconst (v := (-1)) ic_m1 rfl dX3_partnerOf_16 ?_
    exact Aw.iret rfl dX3_partnerOf_17
  · refine Aw.iload_n 0 rfl rfl dX3_partnerOf_12 ?_
    refine Aw.goto (q := 17) (by decide) dX3_partnerOf_13 ?_
    exact Aw.iret rfl dX3_partnerOf_17
abbrev MX3_isPaired : Mt := (RX3, cX3_isPaired, 3, (some .boolean), 2)
def f_X3_isPaired (r0 : Nat) (x1 : Int32) (σ : Sg) : Option (Int32 × Sg) := if kd r0 = 3 then (cb (f_X3_partnerOf r0 x1 σ) (fun a1 τ2 => if a1 = (-1) then (some (0, τ2)) else (if inb x1 8 then (if inb a1 8 then (cb (f_X5_arePaired (τ2 (rf r0 1) (ix x1)) (τ2 (rf r0 1) (ix a1)) τ2) (fun a5 τ6 => if a5 = 0 then (some (0, τ6)) else (some (1, τ6)))) else none) else none))) else none
theorem cv_X3_113 : CV RX3 113 3 yX3_partnerOf MX3_partnerOf 1 := ⟨_, rfl, rfl, ml_X3_113, ins_X3_partnerOf, sel_X3_partnerOf, ini_X3, cw_X3_partnerOf, ⟨by decide, by decide, by decide +kernel⟩⟩
theorem cn_X3_137 : CN RX3 137 yX5_arePaired RX5 MX5_arePaired 2 := ⟨by decide +kernel, sta_X5_arePaired, ini_X5, cw_X5_arePaired, ⟨by decide, by decide, by decide +kernel⟩⟩
set_option maxRecDepth 100000 in
set_option maxHeartbeats 4000000 in
theorem ct_X3_isPaired (l : Launch) (G : Gt) (r0 : Nat) (x1 : Int32) (σ : Sg) : Ct l G yX3_isPaired MX3_isPaired rI [.ref (Gb G + r0), .int x1] σ (f_X3_isPaired r0 x1 σ) := by
  refine Ct.of (by decide +kernel) rfl (Nat.le_of_ble_eq_true rfl) ?_
  show Aw l G MX3_isPaired rI 0 [(0, .ref (Gb G + r0)), (1, .int x1)] [] σ _
  unfold f_X3_isPaired
  refine Aw.gd (fun hr0 => ?_)
  refine Aw.aload_n 0 rfl rfl dX3_isPaired_0 ?_
  refine Aw.iload_n 1 rfl rfl dX3_isPaired_1 ?_
  refine Aw.callVi (As := [.int x1]) (rest := []) cv_X3_113 (Nat.le_of_ble_eq_true rfl) hr0 (ct_X3_partnerOf l G r0 x1 σ) rfl rfl (Nat.le_of_ble_eq_true rfl) (Nat.le_of_ble_eq_true rfl) (Nat.le_of_ble_eq_true rfl) rfl dX3_isPaired_2 (fun a1 τ2 _ => ?_)
  refine Aw.istore_n (L' := [(2, .int a1), (0, .ref (Gb G + r0)), (1, .int x1)]) (Nat.le_of_ble_eq_true rfl) rfl rfl dX3_isPaired_5 ?_
  refine Aw.iload_n 0 rfl rfl dX3_isPaired_6 ?_
  refine Aw.iconst (v := (-1)) ic_m1 rfl dX3_isPaired_7 ?_
  refine Aw.icmp_eq (q := 11) (t := 33) rfl (by decide) dX3_isPaired_8 (fun hc => ?_) (fun hc => ?_)
  · refine Aw.iconst (v := 0) ic_0 rfl dX3_isPaired_33 ?_
    exact Aw.zret rfl rfl dX3_isPaired_34
  · refine Aw.aload_n 1 rfl rfl dX3_isPaired_11 ?_
    refine Aw.getR fl_X3_9 (Nat.le_of_ble_eq_true rfl) rfl hr0 rfl dX3_isPaired_12 ?_
    refine Aw.iload_n 2 rfl rfl dX3_isPaired_15 ?_
    refine Aw.iald (n := 8) (ft_3_1 hr0).1 (ft_3_1 hr0).2 rfl dX3_isPaired_16 (fun hb3 => ?_)
    refine Aw.aload_n 1 rfl rfl dX3_isPaired_17 ?_
    refine Aw.getR fl_X3_9 (Nat.le_of_ble_eq_true rfl) rfl hr0 rfl dX3_isPaired_18 ?_
    refine Aw.iload_n 0 rfl rfl dX3_isPaired_21 ?_
    refine Aw.iald (n := 8) (ft_3_1 hr0).1 (ft_3_1 hr0).2 rfl dX3_isPaired_22 (fun hb4 => ?_)
    refine Aw.callNi (As := [.int (τ2 (rf r0 1) (ix x1)), .int (τ2 (rf r0 1) (ix a1))]) (rest := []) cn_X3_137 (ct_X5_arePaired l G (τ2 (rf r0 1) (ix x1)) (τ2 (rf r0 1) (ix a1)) τ2) rfl rfl (Nat.le_of_ble_eq_true rfl) (Nat.le_of_ble_eq_true rfl) (Nat.le_of_ble_eq_true rfl) rfl dX3_isPaired_23 (fun a5 τ6 _ => ?_)
    refine Aw.if_eq (q := 29) (t := 33) rfl (by decide) dX3_isPaired_26 (fun hc => ?_) (fun hc => ?_)
    · refine Aw.iconst (v := 0) ic_0 rfl dX3_isPaired_33 ?_
      exact Aw.zret rfl rfl dX3_isPaired_34
    · refine Aw.iconst (v := 1) ic_1 rfl dX3_isPaired_29 ?_
      refine Aw.goto (q := 34) (by decide) dX3_isPaired_30 ?_
      exact Aw.zret rfl rfl dX3_isPaired_34
abbrev MX3_askDancer : Mt := (RX3, cX3_askDancer, 3, (some .int), 3)
def f_X3_askDancer (r0 : Nat) (x1 : Int32) (x2 : Int32) (σ : Sg) : Option (Int32 × Sg) := if kd r0 = 3 then (cb (f_X5_isBelow x1 (σ r0 0) σ) (fun a1 τ2 => if a1 = 0 then (some ((-2), τ2)) else (if x2 = 0 then (if inb x1 8 then (some ((τ2 (rf r0 1) (ix x1)) / 4, τ2)) else none) else if x2 = 1 then (if inb x1 8 then (some (rem (τ2 (rf r0 1) (ix x1)) 4, τ2)) else none) else if x2 = 2 then (if inb x1 8 then (some ((τ2 (rf r0 2) (ix x1)) / 4, τ2)) else none) else if x2 = 3 then (if inb x1 8 then (some (rem (τ2 (rf r0 2) (ix x1)) 4, τ2)) else none) else if x2 = 4 then (if inb x1 8 then (if inb x1 8 then (if τ2 (rf r0 1) (ix x1) = τ2 (rf r0 2) (ix x1) then (some (1, τ2)) else (some (0, τ2))) else none) else none) else if x2 = 5 then (cb (f_X3_partnerOf r0 x1 τ2) (fun a9 τ10 => some (a9, τ10))) else if x2 = 6 then (cb (f_X3_isPaired r0 x1 τ2) (fun a11 τ12 => if a11 = 0 then (some (0, τ12)) else (some (1, τ12)))) else (some ((-2), τ2))))) else none
theorem cv_X3_116 : CV RX3 116 3 yX3_isPaired MX3_isPaired 1 := ⟨_, rfl, rfl, ml_X3_116, ins_X3_isPaired, sel_X3_isPaired, ini_X3, cw_X3_isPaired, ⟨by decide, by decide, by decide +kernel⟩⟩
set_option maxRecDepth 100000 in
set_option maxHeartbeats 4000000 in
theorem ct_X3_askDancer (l : Launch) (G : Gt) (r0 : Nat) (x1 : Int32) (x2 : Int32) (σ : Sg) : Ct l G yX3_askDancer MX3_askDancer rI [.ref (Gb G + r0), .int x1, .int x2] σ (f_X3_askDancer r0 x1 x2 σ) := by
  refine Ct.of (by decide +kernel) rfl (Nat.le_of_ble_eq_true rfl) ?_
  show Aw l G MX3_askDancer rI 0 [(0, .ref (Gb G + r0)), (1, .int x1), (2, .int x2)] [] σ _
  unfold f_X3_askDancer
  refine Aw.gd (fun hr0 => ?_)
  refine Aw.iload_n 1 rfl rfl dX3_askDancer_0 ?_
  refine Aw.aload_n 0 rfl rfl dX3_askDancer_1 ?_
  refine Aw.getI fl_X3_31 (Nat.le_of_ble_eq_true rfl) rfl hr0 rfl dX3_askDancer_2 ?_
  refine Aw.callNi (As := [.int x1, .int (σ r0 0)]) (rest := []) cn_X3_54 (ct_X5_isBelow l G x1 (σ r0 0) σ) rfl rfl (Nat.le_of_ble_eq_true rfl) (Nat.le_of_ble_eq_true rfl) (Nat.le_of_ble_eq_true rfl) rfl dX3_askDancer_5 (fun a1 τ2 _ => ?_)
  refine Aw.if_ne (q := 11) (t := 14) rfl (by decide) dX3_askDancer_8 (fun hc => ?_) (fun hc => ?_)
  · refine Aw.bipush (v := (-2)) ib_m2 rfl dX3_askDancer_11 ?_
    exact Aw.iret rfl dX3_askDancer_13
  · refine Aw.iload_n 2 rfl rfl dX3_askDancer_14 ?_
    refine Aw.br (fun hc0 => ?_) (fun hc0 => ?_)
    · refine Aw.tsIn (off := 41) (t := 56) dX3_askDancer_15 0 hc0 (by decide) (by decide) (by decide +kernel) (by decide) ?_
      refine Aw.aload_n 0 rfl rfl dX3_askDancer_56 ?_
      refine Aw.getR fl_X3_9 (Nat.le_of_ble_eq_true rfl) rfl hr0 rfl dX3_askDancer_57 ?_
      refine Aw.iload_n 1 rfl rfl dX3_askDancer_60 ?_
      refine Aw.iald (n := 8) (ft_3_1 hr0).1 (ft_3_1 hr0).2 rfl dX3_askDancer_61 (fun hb3 => ?_)
      refine Aw.iconst (v := 4) ic_4 rfl dX3_askDancer_62 ?_
      refine Aw.idiv nz_4 rfl dX3_askDancer_63 ?_
      exact Aw.iret rfl dX3_askDancer_64
    refine Aw.br (fun hc1 => ?_) (fun hc1 => ?_)
    · refine Aw.tsIn (off := 50) (t := 65) dX3_askDancer_15 1 hc1 (by decide) (by decide) (by decide +kernel) (by decide) ?_
      refine Aw.aload_n 0 rfl rfl dX3_askDancer_65 ?_
      refine Aw.getR fl_X3_9 (Nat.le_of_ble_eq_true rfl) rfl hr0 rfl dX3_askDancer_66 ?_
      refine Aw.iload_n 1 rfl rfl dX3_askDancer_69 ?_
      refine Aw.iald (n := 8) (ft_3_1 hr0).1 (ft_3_1 hr0).2 rfl dX3_askDancer_70 (fun hb4 => ?_)
      refine Aw.iconst (v := 4) ic_4 rfl dX3_askDancer_71 ?_
      refine Aw.irem nz_4 rfl dX3_askDancer_72 ?_
      exact Aw.iret rfl dX3_askDancer_73
    refine Aw.br (fun hc2 => ?_) (fun hc2 => ?_)
    · refine Aw.tsIn (off := 59) (t := 74) dX3_askDancer_15 2 hc2 (by decide) (by decide) (by decide +kernel) (by decide) ?_
      refine Aw.aload_n 0 rfl rfl dX3_askDancer_74 ?_
      refine Aw.getR fl_X3_15 (Nat.le_of_ble_eq_true rfl) rfl hr0 rfl dX3_askDancer_75 ?_
      refine Aw.iload_n 1 rfl rfl dX3_askDancer_78 ?_
      refine Aw.iald (n := 8) (ft_3_2 hr0).1 (ft_3_2 hr0).2 rfl dX3_askDancer_79 (fun hb5 => ?_)
      refine Aw.iconst (v := 4) ic_4 rfl dX3_askDancer_80 ?_
      refine Aw.idiv nz_4 rfl dX3_askDancer_81 ?_
      exact Aw.iret rfl dX3_askDancer_82
    refine Aw.br (fun hc3 => ?_) (fun hc3 => ?_)
    · refine Aw.tsIn (off := 68) (t := 83) dX3_askDancer_15 3 hc3 (by decide) (by decide) (by decide +kernel) (by decide) ?_
      refine Aw.aload_n 0 rfl rfl dX3_askDancer_83 ?_
      refine Aw.getR fl_X3_15 (Nat.le_of_ble_eq_true rfl) rfl hr0 rfl dX3_askDancer_84 ?_
      refine Aw.iload_n 1 rfl rfl dX3_askDancer_87 ?_
      refine Aw.iald (n := 8) (ft_3_2 hr0).1 (ft_3_2 hr0).2 rfl dX3_askDancer_88 (fun hb6 => ?_)
      refine Aw.iconst (v := 4) ic_4 rfl dX3_askDancer_89 ?_
      refine Aw.irem nz_4 rfl dX3_askDancer_90 ?_
      exact Aw.iret rfl dX3_askDancer_91
    refine Aw.br (fun hc4 => ?_) (fun hc4 => ?_)
    · refine Aw.tsIn (off := 77) (t := 92) dX3_askDancer_15 4 hc4 (by decide) (by decide) (by decide +kernel) (by decide) ?_
      refine Aw.aload_n 0 rfl rfl dX3_askDancer_92 ?_
      refine Aw.getR fl_X3_9 (Nat.le_of_ble_eq_true rfl) rfl hr0 rfl dX3_askDancer_93 ?_
      refine Aw.iload_n 1 rfl rfl dX3_askDancer_96 ?_
      refine Aw.iald (n := 8) (ft_3_1 hr0).1 (ft_3_1 hr0).2 rfl dX3_askDancer_97 (fun hb7 => ?_)
      refine Aw.aload_n 0 rfl rfl dX3_askDancer_98 ?_
      refine Aw.getR fl_X3_15 (Nat.le_of_ble_eq_true rfl) rfl hr0 rfl dX3_askDancer_99 ?_
      refine Aw.iload_n 1 rfl rfl dX3_askDancer_102 ?_
      refine Aw.iald (n := 8) (ft_3_2 hr0).1 (ft_3_2 hr0).2 rfl dX3_askDancer_103 (fun hb8 => ?_)
      refine Aw.icmp_ne (q := 107) (t := 111) rfl (by decide) dX3_askDancer_104 (fun hc => ?_) (fun hc => ?_)
      · refine Aw.iconst (v := 1) ic_1 rfl dX3_askDancer_107 ?_
        refine Aw.goto (q := 112) (by decide) dX3_askDancer_108 ?_
        exact Aw.iret rfl dX3_askDancer_112
      · refine Aw.iconst (v := 0) ic_0 rfl dX3_askDancer_111 ?_
        exact Aw.iret rfl dX3_askDancer_112
    refine Aw.br (fun hc5 => ?_) (fun hc5 => ?_)
    · refine Aw.tsIn (off := 98) (t := 113) dX3_askDancer_15 5 hc5 (by decide) (by decide) (by decide +kernel) (by decide) ?_
      refine Aw.aload_n 0 rfl rfl dX3_askDancer_113 ?_
      refine Aw.iload_n 1 rfl rfl dX3_askDancer_114 ?_
      refine Aw.callVi (As := [.int x1]) (rest := []) cv_X3_113 (Nat.le_of_ble_eq_true rfl) hr0 (ct_X3_partnerOf l G r0 x1 τ2) rfl rfl (Nat.le_of_ble_eq_true rfl) (Nat.le_of_ble_eq_true rfl) (Nat.le_of_ble_eq_true rfl) rfl dX3_askDancer_115 (fun a9 τ10 _ => ?_)
      exact Aw.iret rfl dX3_askDancer_118
    refine Aw.br (fun hc6 => ?_) (fun hc6 => ?_)
    · refine Aw.tsIn (off := 104) (t := 119) dX3_askDancer_15 6 hc6 (by decide) (by decide) (by decide +kernel) (by decide) ?_
      refine Aw.aload_n 0 rfl rfl dX3_askDancer_119 ?_
      refine Aw.iload_n 1 rfl rfl dX3_askDancer_120 ?_
      refine Aw.callVi (As := [.int x1]) (rest := []) cv_X3_116 (Nat.le_of_ble_eq_true rfl) hr0 (ct_X3_isPaired l G r0 x1 τ2) rfl rfl (Nat.le_of_ble_eq_true rfl) (Nat.le_of_ble_eq_true rfl) (Nat.le_of_ble_eq_true rfl) rfl dX3_askDancer_121 (fun a11 τ12 _ => ?_)
      refine Aw.if_eq (q := 127) (t := 131) rfl (by decide) dX3_askDancer_124 (fun hc => ?_) (fun hc => ?_)
      · refine Aw.iconst (v := 0) ic_0 rfl dX3_askDancer_131 ?_
        exact Aw.iret rfl dX3_askDancer_132
      · refine Aw.iconst (v := 1) ic_1 rfl dX3_askDancer_127 ?_
        refine Aw.goto (q := 132) (by decide) dX3_askDancer_128 ?_
        exact Aw.iret rfl dX3_askDancer_132
    refine Aw.tsOut (t := 133) dX3_askDancer_15 (ts_out (fun k h1 h2 => ?_)) (by decide) ?_
    · rcases (show k = 0 ∨ k = 1 ∨ k = 2 ∨ k = 3 ∨ k = 4 ∨ k = 5 ∨ k = 6 by omega) with rfl | rfl | rfl | rfl | rfl | rfl | rfl
      · exact ts_ne (v := 0) (by decide) hc0
      · exact ts_ne (v := 1) (by decide) hc1
      · exact ts_ne (v := 2) (by decide) hc2
      · exact ts_ne (v := 3) (by decide) hc3
      · exact ts_ne (v := 4) (by decide) hc4
      · exact ts_ne (v := 5) (by decide) hc5
      · exact ts_ne (v := 6) (by decide) hc6
    refine Aw.bipush (v := (-2)) ib_m2 rfl dX3_askDancer_133 ?_
    exact Aw.iret rfl dX3_askDancer_135
abbrev MX3_askSpotOfCall : Mt := (RX3, cX3_askSpotOfCall, 4, (some .int), 3)
def f_X3_askSpotOfCall (r0 : Nat) (x1 : Int32) (x2 : Int32) (x3 : Int32) (σ : Sg) : Option (Int32 × Sg) := if kd r0 = 3 then (cb (f_X3_isSpotOfCall r0 x1 x2 σ) (fun a1 τ2 => if a1 = 0 then (some ((-2), τ2)) else (if x3 = 0 then (if inb x1 8 then (if inb x2 12 then (some (τ2 (rf (rf (rf r0 4) (ix x1)) 0) (ix x2), τ2)) else none) else none) else if x3 = 1 then (if inb x1 8 then (if inb x2 12 then (some (τ2 (rf (rf (rf r0 4) (ix x1)) 1) (ix x2), τ2)) else none) else none) else if x3 = 2 then (if inb x1 8 then (if inb x2 12 then (some (τ2 (rf (rf (rf r0 4) (ix x1)) 2) (ix x2), τ2)) else none) else none) else (some ((-2), τ2))))) else none
set_option maxRecDepth 100000 in
set_option maxHeartbeats 4000000 in
theorem ct_X3_askSpotOfCall (l : Launch) (G : Gt) (r0 : Nat) (x1 : Int32) (x2 : Int32) (x3 : Int32) (σ : Sg) : Ct l G yX3_askSpotOfCall MX3_askSpotOfCall rI [.ref (Gb G + r0), .int x1, .int x2, .int x3] σ (f_X3_askSpotOfCall r0 x1 x2 x3 σ) := by
  refine Ct.of (by decide +kernel) rfl (Nat.le_of_ble_eq_true rfl) ?_
  show Aw l G MX3_askSpotOfCall rI 0 [(0, .ref (Gb G + r0)), (1, .int x1), (2, .int x2), (3, .int x3)] [] σ _
  unfold f_X3_askSpotOfCall
  refine Aw.gd (fun hr0 => ?_)
  refine Aw.aload_n 0 rfl rfl dX3_askSpotOfCall_0 ?_
  refine Aw.iload_n 1 rfl rfl dX3_askSpotOfCall_1 ?_
  refine Aw.iload_n 2 rfl rfl dX3_askSpotOfCall_2 ?_
  refine Aw.callVi (As := [.int x1, .int x2]) (rest := []) cv_X3_76 (Nat.le_of_ble_eq_true rfl) hr0 (ct_X3_isSpotOfCall l G r0 x1 x2 σ) rfl rfl (Nat.le_of_ble_eq_true rfl) (Nat.le_of_ble_eq_true rfl) (Nat.le_of_ble_eq_true rfl) rfl dX3_askSpotOfCall_3 (fun a1 τ2 _ => ?_)
  refine Aw.if_ne (q := 9) (t := 12) rfl (by decide) dX3_askSpotOfCall_6 (fun hc => ?_) (fun hc => ?_)
  · refine Aw.bipush (v := (-2)) ib_m2 rfl dX3_askSpotOfCall_9 ?_
    exact Aw.iret rfl dX3_askSpotOfCall_11
  · refine Aw.iload_n 3 rfl rfl dX3_askSpotOfCall_12 ?_
    refine Aw.br (fun hc0 => ?_) (fun hc0 => ?_)
    · refine Aw.tsIn (off := 27) (t := 40) dX3_askSpotOfCall_13 0 hc0 (by decide) (by decide) (by decide +kernel) (by decide) ?_
      refine Aw.aload_n 0 rfl rfl dX3_askSpotOfCall_40 ?_
      refine Aw.getR fl_X3_20 (Nat.le_of_ble_eq_true rfl) rfl hr0 rfl dX3_askSpotOfCall_41 ?_
      refine Aw.iload_n 1 rfl rfl dX3_askSpotOfCall_44 ?_
      refine Aw.aald (n := 8) (t := 8) (ft_3_4 hr0).1 ⟨Nat.le_of_ble_eq_true rfl, Nat.le_of_ble_eq_true rfl⟩ (ft_3_4 hr0).2 rfl dX3_askSpotOfCall_45 (fun hb3 => ?_)
      refine Aw.getR fl_X3_73 (Nat.le_of_ble_eq_true rfl) rfl (el_3_4 hr0 (inb_ix hb3)) rfl dX3_askSpotOfCall_46 ?_
      refine Aw.iload_n 2 rfl rfl dX3_askSpotOfCall_49 ?_
      refine Aw.iald (n := 12) (ft_0_0 (el_3_4 hr0 (inb_ix hb3))).1 (ft_0_0 (el_3_4 hr0 (inb_ix hb3))).2 rfl dX3_askSpotOfCall_50 (fun hb4 => ?_)
      exact Aw.iret rfl dX3_askSpotOfCall_51
    refine Aw.br (fun hc1 => ?_) (fun hc1 => ?_)
    · refine Aw.tsIn (off := 39) (t := 52) dX3_askSpotOfCall_13 1 hc1 (by decide) (by decide) (by decide +kernel) (by decide) ?_
      refine Aw.aload_n 0 rfl rfl dX3_askSpotOfCall_52 ?_
      refine Aw.getR fl_X3_20 (Nat.le_of_ble_eq_true rfl) rfl hr0 rfl dX3_askSpotOfCall_53 ?_
      refine Aw.iload_n 1 rfl rfl dX3_askSpotOfCall_56 ?_
      refine Aw.aald (n := 8) (t := 8) (ft_3_4 hr0).1 ⟨Nat.le_of_ble_eq_true rfl, Nat.le_of_ble_eq_true rfl⟩ (ft_3_4 hr0).2 rfl dX3_askSpotOfCall_57 (fun hb5 => ?_)
      refine Aw.getR fl_X3_79 (Nat.le_of_ble_eq_true rfl) rfl (el_3_4 hr0 (inb_ix hb5)) rfl dX3_askSpotOfCall_58 ?_
      refine Aw.iload_n 2 rfl rfl dX3_askSpotOfCall_61 ?_
      refine Aw.iald (n := 12) (ft_0_1 (el_3_4 hr0 (inb_ix hb5))).1 (ft_0_1 (el_3_4 hr0 (inb_ix hb5))).2 rfl dX3_askSpotOfCall_62 (fun hb6 => ?_)
      exact Aw.iret rfl dX3_askSpotOfCall_63
    refine Aw.br (fun hc2 => ?_) (fun hc2 => ?_)
    · refine Aw.tsIn (off := 51) (t := 64) dX3_askSpotOfCall_13 2 hc2 (by decide) (by decide) (by decide +kernel) (by decide) ?_
      refine Aw.aload_n 0 rfl rfl dX3_askSpotOfCall_64 ?_
      refine Aw.getR fl_X3_20 (Nat.le_of_ble_eq_true rfl) rfl hr0 rfl dX3_askSpotOfCall_65 ?_
      refine Aw.iload_n 1 rfl rfl dX3_askSpotOfCall_68 ?_
      refine Aw.aald (n := 8) (t := 8) (ft_3_4 hr0).1 ⟨Nat.le_of_ble_eq_true rfl, Nat.le_of_ble_eq_true rfl⟩ (ft_3_4 hr0).2 rfl dX3_askSpotOfCall_69 (fun hb7 => ?_)
      refine Aw.getR fl_X3_82 (Nat.le_of_ble_eq_true rfl) rfl (el_3_4 hr0 (inb_ix hb7)) rfl dX3_askSpotOfCall_70 ?_
      refine Aw.iload_n 2 rfl rfl dX3_askSpotOfCall_73 ?_
      refine Aw.iald (n := 12) (ft_0_2 (el_3_4 hr0 (inb_ix hb7))).1 (ft_0_2 (el_3_4 hr0 (inb_ix hb7))).2 rfl dX3_askSpotOfCall_74 (fun hb8 => ?_)
      exact Aw.iret rfl dX3_askSpotOfCall_75
    refine Aw.tsOut (t := 76) dX3_askSpotOfCall_13 (ts_out (fun k h1 h2 => ?_)) (by decide) ?_
    · rcases (show k = 0 ∨ k = 1 ∨ k = 2 by omega) with rfl | rfl | rfl
      · exact ts_ne (v := 0) (by decide) hc0
      · exact ts_ne (v := 1) (by decide) hc1
      · exact ts_ne (v := 2) (by decide) hc2
    refine Aw.bipush (v := (-2)) ib_m2 rfl dX3_askSpotOfCall_76 ?_
    exact Aw.iret rfl dX3_askSpotOfCall_78
abbrev MX3_askCall : Mt := (RX3, cX3_askCall, 3, (some .int), 3)
def f_X3_askCall (r0 : Nat) (x1 : Int32) (x2 : Int32) (σ : Sg) : Option (Int32 × Sg) := if kd r0 = 3 then (cb (f_X5_isBelow x1 (σ r0 3) σ) (fun a1 τ2 => if a1 = 0 then (some ((-2), τ2)) else (if x2 = 0 then (if inb x1 8 then (cb (f_X5_heldSpots (rf r0 1) (τ2 r0 0) τ2) (fun a4 τ5 => cb (f_X0_fitsOn (rf (rf r0 4) (ix x1)) a4 τ5) (fun a6 τ7 => if a6 = 0 then (some (0, τ7)) else (some (1, τ7))))) else none) else if x2 = 1 then (if inb x1 8 then (cb (f_X0_spotsThatMove (rf (rf r0 4) (ix x1)) τ2) (fun a9 τ10 => some (a9, τ10))) else none) else if x2 = 2 then (if inb x1 8 then (cb (f_X0_round (rf (rf r0 4) (ix x1)) τ2) (fun a12 τ13 => some (a12, τ13))) else none) else if x2 = 3 then (if inb x1 8 then (cb (f_X0_spotsWithWant (rf (rf r0 4) (ix x1)) τ2) (fun a15 τ16 => some (a15, τ16))) else none) else (some ((-2), τ2))))) else none
theorem cv_X3_119 : CV RX3 119 0 yX0_spotsThatMove MX0_spotsThatMove 0 := ⟨_, rfl, rfl, ml_X3_119, ins_X0_spotsThatMove, sel_X0_spotsThatMove, ini_X0, cw_X0_spotsThatMove, ⟨by decide, by decide, by decide +kernel⟩⟩
theorem cv_X3_122 : CV RX3 122 0 yX0_round MX0_round 0 := ⟨_, rfl, rfl, ml_X3_122, ins_X0_round, sel_X0_round, ini_X0, cw_X0_round, ⟨by decide, by decide, by decide +kernel⟩⟩
theorem cv_X3_125 : CV RX3 125 0 yX0_spotsWithWant MX0_spotsWithWant 0 := ⟨_, rfl, rfl, ml_X3_125, ins_X0_spotsWithWant, sel_X0_spotsWithWant, ini_X0, cw_X0_spotsWithWant, ⟨by decide, by decide, by decide +kernel⟩⟩
set_option maxRecDepth 100000 in
set_option maxHeartbeats 4000000 in
theorem ct_X3_askCall (l : Launch) (G : Gt) (r0 : Nat) (x1 : Int32) (x2 : Int32) (σ : Sg) : Ct l G yX3_askCall MX3_askCall rI [.ref (Gb G + r0), .int x1, .int x2] σ (f_X3_askCall r0 x1 x2 σ) := by
  refine Ct.of (by decide +kernel) rfl (Nat.le_of_ble_eq_true rfl) ?_
  show Aw l G MX3_askCall rI 0 [(0, .ref (Gb G + r0)), (1, .int x1), (2, .int x2)] [] σ _
  unfold f_X3_askCall
  refine Aw.gd (fun hr0 => ?_)
  refine Aw.iload_n 1 rfl rfl dX3_askCall_0 ?_
  refine Aw.aload_n 0 rfl rfl dX3_askCall_1 ?_
  refine Aw.getI fl_X3_41 (Nat.le_of_ble_eq_true rfl) rfl hr0 rfl dX3_askCall_2 ?_
  refine Aw.callNi (As := [.int x1, .int (σ r0 3)]) (rest := []) cn_X3_54 (ct_X5_isBelow l G x1 (σ r0 3) σ) rfl rfl (Nat.le_of_ble_eq_true rfl) (Nat.le_of_ble_eq_true rfl) (Nat.le_of_ble_eq_true rfl) rfl dX3_askCall_5 (fun a1 τ2 _ => ?_)
  refine Aw.if_ne (q := 11) (t := 14) rfl (by decide) dX3_askCall_8 (fun hc => ?_) (fun hc => ?_)
  · refine Aw.bipush (v := (-2)) ib_m2 rfl dX3_askCall_11 ?_
    exact Aw.iret rfl dX3_askCall_13
  · refine Aw.iload_n 2 rfl rfl dX3_askCall_14 ?_
    refine Aw.br (fun hc0 => ?_) (fun hc0 => ?_)
    · refine Aw.tsIn (off := 29) (t := 44) dX3_askCall_15 0 hc0 (by decide) (by decide) (by decide +kernel) (by decide) ?_
      refine Aw.aload_n 0 rfl rfl dX3_askCall_44 ?_
      refine Aw.getR fl_X3_20 (Nat.le_of_ble_eq_true rfl) rfl hr0 rfl dX3_askCall_45 ?_
      refine Aw.iload_n 1 rfl rfl dX3_askCall_48 ?_
      refine Aw.aald (n := 8) (t := 8) (ft_3_4 hr0).1 ⟨Nat.le_of_ble_eq_true rfl, Nat.le_of_ble_eq_true rfl⟩ (ft_3_4 hr0).2 rfl dX3_askCall_49 (fun hb3 => ?_)
      refine Aw.aload_n 0 rfl rfl dX3_askCall_50 ?_
      refine Aw.getR fl_X3_9 (Nat.le_of_ble_eq_true rfl) rfl hr0 rfl dX3_askCall_51 ?_
      refine Aw.aload_n 0 rfl rfl dX3_askCall_54 ?_
      refine Aw.getI fl_X3_31 (Nat.le_of_ble_eq_true rfl) rfl hr0 rfl dX3_askCall_55 ?_
      refine Aw.callNi (As := [.ref (Gb G + rf r0 1), .int (τ2 r0 0)]) (rest := [.ref (Gb G + rf (rf r0 4) (ix x1))]) cn_X3_96 (ct_X5_heldSpots l G (rf r0 1) (τ2 r0 0) τ2) rfl rfl (Nat.le_of_ble_eq_true rfl) (Nat.le_of_ble_eq_true rfl) (Nat.le_of_ble_eq_true rfl) rfl dX3_askCall_58 (fun a4 τ5 _ => ?_)
      refine Aw.callVi (As := [.int a4]) (rest := []) cv_X3_100 (Nat.le_of_ble_eq_true rfl) (el_3_4 hr0 (inb_ix hb3)) (ct_X0_fitsOn l G (rf (rf r0 4) (ix x1)) a4 τ5) rfl rfl (Nat.le_of_ble_eq_true rfl) (Nat.le_of_ble_eq_true rfl) (Nat.le_of_ble_eq_true rfl) rfl dX3_askCall_61 (fun a6 τ7 _ => ?_)
      refine Aw.if_eq (q := 67) (t := 71) rfl (by decide) dX3_askCall_64 (fun hc => ?_) (fun hc => ?_)
      · refine Aw.iconst (v := 0) ic_0 rfl dX3_askCall_71 ?_
        exact Aw.iret rfl dX3_askCall_72
      · refine Aw.iconst (v := 1) ic_1 rfl dX3_askCall_67 ?_
        refine Aw.goto (q := 72) (by decide) dX3_askCall_68 ?_
        exact Aw.iret rfl dX3_askCall_72
    refine Aw.br (fun hc1 => ?_) (fun hc1 => ?_)
    · refine Aw.tsIn (off := 58) (t := 73) dX3_askCall_15 1 hc1 (by decide) (by decide) (by decide +kernel) (by decide) ?_
      refine Aw.aload_n 0 rfl rfl dX3_askCall_73 ?_
      refine Aw.getR fl_X3_20 (Nat.le_of_ble_eq_true rfl) rfl hr0 rfl dX3_askCall_74 ?_
      refine Aw.iload_n 1 rfl rfl dX3_askCall_77 ?_
      refine Aw.aald (n := 8) (t := 8) (ft_3_4 hr0).1 ⟨Nat.le_of_ble_eq_true rfl, Nat.le_of_ble_eq_true rfl⟩ (ft_3_4 hr0).2 rfl dX3_askCall_78 (fun hb8 => ?_)
      refine Aw.callVi (As := []) (rest := []) cv_X3_119 (Nat.le_of_ble_eq_true rfl) (el_3_4 hr0 (inb_ix hb8)) (ct_X0_spotsThatMove l G (rf (rf r0 4) (ix x1)) τ2) rfl rfl (Nat.le_of_ble_eq_true rfl) (Nat.le_of_ble_eq_true rfl) (Nat.le_of_ble_eq_true rfl) rfl dX3_askCall_79 (fun a9 τ10 _ => ?_)
      exact Aw.iret rfl dX3_askCall_82
    refine Aw.br (fun hc2 => ?_) (fun hc2 => ?_)
    · refine Aw.tsIn (off := 68) (t := 83) dX3_askCall_15 2 hc2 (by decide) (by decide) (by decide +kernel) (by decide) ?_
      refine Aw.aload_n 0 rfl rfl dX3_askCall_83 ?_
      refine Aw.getR fl_X3_20 (Nat.le_of_ble_eq_true rfl) rfl hr0 rfl dX3_askCall_84 ?_
      refine Aw.iload_n 1 rfl rfl dX3_askCall_87 ?_
      refine Aw.aald (n := 8) (t := 8) (ft_3_4 hr0).1 ⟨Nat.le_of_ble_eq_true rfl, Nat.le_of_ble_eq_true rfl⟩ (ft_3_4 hr0).2 rfl dX3_askCall_88 (fun hb11 => ?_)
      refine Aw.callVi (As := []) (rest := []) cv_X3_122 (Nat.le_of_ble_eq_true rfl) (el_3_4 hr0 (inb_ix hb11)) (ct_X0_round l G (rf (rf r0 4) (ix x1)) τ2) rfl rfl (Nat.le_of_ble_eq_true rfl) (Nat.le_of_ble_eq_true rfl) (Nat.le_of_ble_eq_true rfl) rfl dX3_askCall_89 (fun a12 τ13 _ => ?_)
      exact Aw.iret rfl dX3_askCall_92
    refine Aw.br (fun hc3 => ?_) (fun hc3 => ?_)
    · refine Aw.tsIn (off := 78) (t := 93) dX3_askCall_15 3 hc3 (by decide) (by decide) (by decide +kernel) (by decide) ?_
      refine Aw.aload_n 0 rfl rfl dX3_askCall_93 ?_
      refine Aw.getR fl_X3_20 (Nat.le_of_ble_eq_true rfl) rfl hr0 rfl dX3_askCall_94 ?_
      refine Aw.iload_n 1 rfl rfl dX3_askCall_97 ?_
      refine Aw.aald (n := 8) (t := 8) (ft_3_4 hr0).1 ⟨Nat.le_of_ble_eq_true rfl, Nat.le_of_ble_eq_true rfl⟩ (ft_3_4 hr0).2 rfl dX3_askCall_98 (fun hb14 => ?_)
      refine Aw.callVi (As := []) (rest := []) cv_X3_125 (Nat.le_of_ble_eq_true rfl) (el_3_4 hr0 (inb_ix hb14)) (ct_X0_spotsWithWant l G (rf (rf r0 4) (ix x1)) τ2) rfl rfl (Nat.le_of_ble_eq_true rfl) (Nat.le_of_ble_eq_true rfl) (Nat.le_of_ble_eq_true rfl) rfl dX3_askCall_99 (fun a15 τ16 _ => ?_)
      exact Aw.iret rfl dX3_askCall_102
    refine Aw.tsOut (t := 103) dX3_askCall_15 (ts_out (fun k h1 h2 => ?_)) (by decide) ?_
    · rcases (show k = 0 ∨ k = 1 ∨ k = 2 ∨ k = 3 by omega) with rfl | rfl | rfl | rfl
      · exact ts_ne (v := 0) (by decide) hc0
      · exact ts_ne (v := 1) (by decide) hc1
      · exact ts_ne (v := 2) (by decide) hc2
      · exact ts_ne (v := 3) (by decide) hc3
    refine Aw.bipush (v := (-2)) ib_m2 rfl dX3_askCall_103 ?_
    exact Aw.iret rfl dX3_askCall_105
abbrev MX3_callsThatFit : Mt := (RX3, cX3_callsThatFit, 4, (some .int), 3)
def f_X3_callsThatFit_43 (rc16 : Nat → Int32 → Int32 → Int32 → Sg → Option (Int32 × Sg)) (r0 : Nat) (x1 : Int32) (x2 : Int32) (x3 : Int32) (σ : Sg) : Option (Int32 × Sg) := if kd r0 = 3 then (rc16 r0 x1 x2 (x3 + 1) σ) else none
def f_X3_callsThatFit_16  : Nat → Nat → Int32 → Int32 → Int32 → Sg → Option (Int32 × Sg)
  | 0, _, _, _, _, _ => none
  | n + 1, r0, x1, x2, x3, σ => if kd r0 = 3 then (if σ r0 3 ≤ x3 then (some (x2, σ)) else (if inb x3 8 then (cb (f_X0_fitsOn (rf (rf r0 4) (ix x3)) x1 σ) (fun a2 τ3 => if a2 = 0 then (f_X3_callsThatFit_43 (f_X3_callsThatFit_16 n) r0 x1 x2 x3 τ3) else (bn (x2 ||| (1 <<< (x3 &&& 31))) (fun b4 => f_X3_callsThatFit_43 (f_X3_callsThatFit_16 n) r0 x1 b4 x3 τ3)))) else none)) else none
def f_X3_callsThatFit (r0 : Nat) (σ : Sg) : Option (Int32 × Sg) := if kd r0 = 3 then (cb (f_X5_heldSpots (rf r0 1) (σ r0 0) σ) (fun a1 τ2 => f_X3_callsThatFit_16 FU r0 a1 0 0 τ2)) else none
set_option maxRecDepth 100000 in
set_option maxHeartbeats 4000000 in
theorem aw_X3_callsThatFit_43 (l : Launch) (G : Gt) (rc16 : Nat → Int32 → Int32 → Int32 → Sg → Option (Int32 × Sg)) (hrc16 : ∀ (r0 : Nat) (x1 : Int32) (x2 : Int32) (x3 : Int32) (σ : Sg), Aw l G MX3_callsThatFit rI 16 [(0, .ref (Gb G + r0)), (1, .int x1), (2, .int x2), (3, .int x3)] [] σ (rc16 r0 x1 x2 x3 σ)) (r0 : Nat) (x1 : Int32) (x2 : Int32) (x3 : Int32) (σ : Sg) : Aw l G MX3_callsThatFit rI 43 [(0, .ref (Gb G + r0)), (1, .int x1), (2, .int x2), (3, .int x3)] [] σ (f_X3_callsThatFit_43 rc16 r0 x1 x2 x3 σ) := by
  unfold f_X3_callsThatFit_43
  refine Aw.gd (fun hr0 => ?_)
  refine Aw.iinc (v := x3 + 1) (L' := [(3, .int (x3 + 1)), (0, .ref (Gb G + r0)), (1, .int x1), (2, .int x2)]) 3 rfl (ii_1 _) (Nat.le_of_ble_eq_true rfl) rfl rfl dX3_callsThatFit_43 ?_
  refine Aw.goto (q := 16) (by decide) dX3_callsThatFit_46 ?_
  refine Aw.sub (L' := [(0, .ref (Gb G + r0)), (1, .int x1), (2, .int x2), (3, .int (x3 + 1))]) [1, 2, 3, 0] rfl ?_
  exact hrc16 _ _ _ _ _
set_option maxRecDepth 100000 in
set_option maxHeartbeats 4000000 in
theorem aw_X3_callsThatFit_16 (l : Launch) (G : Gt) : ∀ (n : Nat) (r0 : Nat) (x1 : Int32) (x2 : Int32) (x3 : Int32) (σ : Sg), Aw l G MX3_callsThatFit rI 16 [(0, .ref (Gb G + r0)), (1, .int x1), (2, .int x2), (3, .int x3)] [] σ (f_X3_callsThatFit_16 n r0 x1 x2 x3 σ) := by
  intro n
  induction n with
  | zero => intro r0 x1 x2 x3 σ; exact Aw.no
  | succ n ih =>
    intro r0 x1 x2 x3 σ
    rw [f_X3_callsThatFit_16]
    refine Aw.gd (fun hr0 => ?_)
    refine Aw.iload_n 3 rfl rfl dX3_callsThatFit_16 ?_
    refine Aw.aload_n 0 rfl rfl dX3_callsThatFit_17 ?_
    refine Aw.getI fl_X3_41 (Nat.le_of_ble_eq_true rfl) rfl hr0 rfl dX3_callsThatFit_18 ?_
    refine Aw.icmp_ge (q := 24) (t := 49) rfl (by decide) dX3_callsThatFit_21 (fun hc => ?_) (fun hc => ?_)
    · refine Aw.iload_n 2 rfl rfl dX3_callsThatFit_49 ?_
      exact Aw.iret rfl dX3_callsThatFit_50
    · refine Aw.aload_n 0 rfl rfl dX3_callsThatFit_24 ?_
      refine Aw.getR fl_X3_20 (Nat.le_of_ble_eq_true rfl) rfl hr0 rfl dX3_callsThatFit_25 ?_
      refine Aw.iload_n 3 rfl rfl dX3_callsThatFit_28 ?_
      refine Aw.aald (n := 8) (t := 8) (ft_3_4 hr0).1 ⟨Nat.le_of_ble_eq_true rfl, Nat.le_of_ble_eq_true rfl⟩ (ft_3_4 hr0).2 rfl dX3_callsThatFit_29 (fun hb1 => ?_)
      refine Aw.iload_n 1 rfl rfl dX3_callsThatFit_30 ?_
      refine Aw.callVi (As := [.int x1]) (rest := []) cv_X3_100 (Nat.le_of_ble_eq_true rfl) (el_3_4 hr0 (inb_ix hb1)) (ct_X0_fitsOn l G (rf (rf r0 4) (ix x3)) x1 σ) rfl rfl (Nat.le_of_ble_eq_true rfl) (Nat.le_of_ble_eq_true rfl) (Nat.le_of_ble_eq_true rfl) rfl dX3_callsThatFit_31 (fun a2 τ3 _ => ?_)
      refine Aw.if_eq (q := 37) (t := 43) rfl (by decide) dX3_callsThatFit_34 (fun hc => ?_) (fun hc => ?_)
      · refine Aw.sub (L' := [(0, .ref (Gb G + r0)), (1, .int x1), (2, .int x2), (3, .int x3)]) [0, 1, 2, 3] rfl ?_
        exact aw_X3_callsThatFit_43 l G _ ih _ _ _ _ _
      · refine Aw.iload_n 2 rfl rfl dX3_callsThatFit_37 ?_
        refine Aw.iconst (v := 1) ic_1 rfl dX3_callsThatFit_38 ?_
        refine Aw.iload_n 3 rfl rfl dX3_callsThatFit_39 ?_
        refine Aw.ishl rfl dX3_callsThatFit_40 ?_
        refine Aw.ior rfl dX3_callsThatFit_41 ?_
        refine Aw.bi (fun b4 => ?_)
        refine Aw.istore_n (L' := [(2, .int b4), (0, .ref (Gb G + r0)), (1, .int x1), (3, .int x3)]) (Nat.le_of_ble_eq_true rfl) rfl rfl dX3_callsThatFit_42 ?_
        refine Aw.sub (L' := [(0, .ref (Gb G + r0)), (1, .int x1), (2, .int b4), (3, .int x3)]) [1, 2, 0, 3] rfl ?_
        exact aw_X3_callsThatFit_43 l G _ ih _ _ _ _ _
set_option maxRecDepth 100000 in
set_option maxHeartbeats 4000000 in
theorem ct_X3_callsThatFit (l : Launch) (G : Gt) (r0 : Nat) (σ : Sg) : Ct l G yX3_callsThatFit MX3_callsThatFit rI [.ref (Gb G + r0)] σ (f_X3_callsThatFit r0 σ) := by
  refine Ct.of (by decide +kernel) rfl (Nat.le_of_ble_eq_true rfl) ?_
  show Aw l G MX3_callsThatFit rI 0 [(0, .ref (Gb G + r0))] [] σ _
  unfold f_X3_callsThatFit
  refine Aw.gd (fun hr0 => ?_)
  refine Aw.aload_n 0 rfl rfl dX3_callsThatFit_0 ?_
  refine Aw.getR fl_X3_9 (Nat.le_of_ble_eq_true rfl) rfl hr0 rfl dX3_callsThatFit_1 ?_
  refine Aw.aload_n 0 rfl rfl dX3_callsThatFit_4 ?_
  refine Aw.getI fl_X3_31 (Nat.le_of_ble_eq_true rfl) rfl hr0 rfl dX3_callsThatFit_5 ?_
  refine Aw.callNi (As := [.ref (Gb G + rf r0 1), .int (σ r0 0)]) (rest := []) cn_X3_96 (ct_X5_heldSpots l G (rf r0 1) (σ r0 0) σ) rfl rfl (Nat.le_of_ble_eq_true rfl) (Nat.le_of_ble_eq_true rfl) (Nat.le_of_ble_eq_true rfl) rfl dX3_callsThatFit_8 (fun a1 τ2 _ => ?_)
  refine Aw.istore_n (L' := [(1, .int a1), (0, .ref (Gb G + r0))]) (Nat.le_of_ble_eq_true rfl) rfl rfl dX3_callsThatFit_11 ?_
  refine Aw.iconst (v := 0) ic_0 rfl dX3_callsThatFit_12 ?_
  refine Aw.istore_n (L' := [(2, .int 0), (1, .int a1), (0, .ref (Gb G + r0))]) (Nat.le_of_ble_eq_true rfl) rfl rfl dX3_callsThatFit_13 ?_
  refine Aw.iconst (v := 0) ic_0 rfl dX3_callsThatFit_14 ?_
  refine Aw.istore_n (L' := [(3, .int 0), (2, .int 0), (1, .int a1), (0, .ref (Gb G + r0))]) (Nat.le_of_ble_eq_true rfl) rfl rfl dX3_callsThatFit_15 ?_
  refine Aw.sub (L' := [(0, .ref (Gb G + r0)), (1, .int a1), (2, .int 0), (3, .int 0)]) [3, 2, 1, 0] rfl ?_
  exact aw_X3_callsThatFit_16 l G FU _ _ _ _ _
abbrev MX3_howManyPartnersArePaired : Mt := (RX3, cX3_howManyPartnersArePaired, 3, (some .int), 3)
def f_X3_howManyPartnersArePaired_26 (rc4 : Nat → Int32 → Int32 → Sg → Option (Int32 × Sg)) (r0 : Nat) (x2 : Int32) (s0 : Int32) (s1 : Int32) (σ : Sg) : Option (Int32 × Sg) := if kd r0 = 3 then (bn (s0 + s1) (fun b1 => rc4 r0 b1 (x2 + 2) σ)) else none
def f_X3_howManyPartnersArePaired_4  : Nat → Nat → Int32 → Int32 → Sg → Option (Int32 × Sg)
  | 0, _, _, _, _ => none
  | n + 1, r0, x1, x2, σ => if kd r0 = 3 then (if σ r0 0 ≤ x2 then (some (x1, σ)) else (cb (f_X3_isPaired r0 x2 σ) (fun a1 τ2 => if a1 = 0 then (f_X3_howManyPartnersArePaired_26 (f_X3_howManyPartnersArePaired_4 n) r0 x2 x1 0 τ2) else (f_X3_howManyPartnersArePaired_26 (f_X3_howManyPartnersArePaired_4 n) r0 x2 x1 1 τ2)))) else none
def f_X3_howManyPartnersArePaired (r0 : Nat) (σ : Sg) : Option (Int32 × Sg) := if kd r0 = 3 then (f_X3_howManyPartnersArePaired_4 FU r0 0 0 σ) else none
set_option maxRecDepth 100000 in
set_option maxHeartbeats 4000000 in
theorem aw_X3_howManyPartnersArePaired_26 (l : Launch) (G : Gt) (rc4 : Nat → Int32 → Int32 → Sg → Option (Int32 × Sg)) (hrc4 : ∀ (r0 : Nat) (x1 : Int32) (x2 : Int32) (σ : Sg), Aw l G MX3_howManyPartnersArePaired rI 4 [(0, .ref (Gb G + r0)), (1, .int x1), (2, .int x2)] [] σ (rc4 r0 x1 x2 σ)) (r0 : Nat) (x2 : Int32) (s0 : Int32) (s1 : Int32) (σ : Sg) : Aw l G MX3_howManyPartnersArePaired rI 26 [(0, .ref (Gb G + r0)), (2, .int x2)] [.int s1, .int s0] σ (f_X3_howManyPartnersArePaired_26 rc4 r0 x2 s0 s1 σ) := by
  unfold f_X3_howManyPartnersArePaired_26
  refine Aw.gd (fun hr0 => ?_)
  refine Aw.iadd rfl dX3_howManyPartnersArePaired_26 ?_
  refine Aw.bi (fun b1 => ?_)
  refine Aw.istore_n (L' := [(1, .int b1), (0, .ref (Gb G + r0)), (2, .int x2)]) (Nat.le_of_ble_eq_true rfl) rfl rfl dX3_howManyPartnersArePaired_27 ?_
  refine Aw.iinc (v := x2 + 2) (L' := [(2, .int (x2 + 2)), (1, .int b1), (0, .ref (Gb G + r0))]) 2 rfl (ii_2 _) (Nat.le_of_ble_eq_true rfl) rfl rfl dX3_howManyPartnersArePaired_28 ?_
  refine Aw.goto (q := 4) (by decide) dX3_howManyPartnersArePaired_31 ?_
  refine Aw.sub (L' := [(0, .ref (Gb G + r0)), (1, .int b1), (2, .int (x2 + 2))]) [2, 1, 0] rfl ?_
  exact hrc4 _ _ _ _
set_option maxRecDepth 100000 in
set_option maxHeartbeats 4000000 in
theorem aw_X3_howManyPartnersArePaired_4 (l : Launch) (G : Gt) : ∀ (n : Nat) (r0 : Nat) (x1 : Int32) (x2 : Int32) (σ : Sg), Aw l G MX3_howManyPartnersArePaired rI 4 [(0, .ref (Gb G + r0)), (1, .int x1), (2, .int x2)] [] σ (f_X3_howManyPartnersArePaired_4 n r0 x1 x2 σ) := by
  intro n
  induction n with
  | zero => intro r0 x1 x2 σ; exact Aw.no
  | succ n ih =>
    intro r0 x1 x2 σ
    rw [f_X3_howManyPartnersArePaired_4]
    refine Aw.gd (fun hr0 => ?_)
    refine Aw.iload_n 2 rfl rfl dX3_howManyPartnersArePaired_4 ?_
    refine Aw.aload_n 0 rfl rfl dX3_howManyPartnersArePaired_5 ?_
    refine Aw.getI fl_X3_31 (Nat.le_of_ble_eq_true rfl) rfl hr0 rfl dX3_howManyPartnersArePaired_6 ?_
    refine Aw.icmp_ge (q := 12) (t := 34) rfl (by decide) dX3_howManyPartnersArePaired_9 (fun hc => ?_) (fun hc => ?_)
    · refine Aw.iload_n 1 rfl rfl dX3_howManyPartnersArePaired_34 ?_
      exact Aw.iret rfl dX3_howManyPartnersArePaired_35
    · refine Aw.iload_n 1 rfl rfl dX3_howManyPartnersArePaired_12 ?_
      refine Aw.aload_n 0 rfl rfl dX3_howManyPartnersArePaired_13 ?_
      refine Aw.iload_n 2 rfl rfl dX3_howManyPartnersArePaired_14 ?_
      refine Aw.callVi (As := [.int x2]) (rest := [.int x1]) cv_X3_116 (Nat.le_of_ble_eq_true rfl) hr0 (ct_X3_isPaired l G r0 x2 σ) rfl rfl (Nat.le_of_ble_eq_true rfl) (Nat.le_of_ble_eq_true rfl) (Nat.le_of_ble_eq_true rfl) rfl dX3_howManyPartnersArePaired_15 (fun a1 τ2 _ => ?_)
      refine Aw.if_eq (q := 21) (t := 25) rfl (by decide) dX3_howManyPartnersArePaired_18 (fun hc => ?_) (fun hc => ?_)
      · refine Aw.iconst (v := 0) ic_0 rfl dX3_howManyPartnersArePaired_25 ?_
        refine Aw.sub (L' := [(0, .ref (Gb G + r0)), (2, .int x2)]) [0, 2] rfl ?_
        exact aw_X3_howManyPartnersArePaired_26 l G _ ih _ _ _ _ _
      · refine Aw.iconst (v := 1) ic_1 rfl dX3_howManyPartnersArePaired_21 ?_
        refine Aw.goto (q := 26) (by decide) dX3_howManyPartnersArePaired_22 ?_
        refine Aw.sub (L' := [(0, .ref (Gb G + r0)), (2, .int x2)]) [0, 2] rfl ?_
        exact aw_X3_howManyPartnersArePaired_26 l G _ ih _ _ _ _ _
set_option maxRecDepth 100000 in
set_option maxHeartbeats 4000000 in
theorem ct_X3_howManyPartnersArePaired (l : Launch) (G : Gt) (r0 : Nat) (σ : Sg) : Ct l G yX3_howManyPartnersArePaired MX3_howManyPartnersArePaired rI [.ref (Gb G + r0)] σ (f_X3_howManyPartnersArePaired r0 σ) := by
  refine Ct.of (by decide +kernel) rfl (Nat.le_of_ble_eq_true rfl) ?_
  show Aw l G MX3_howManyPartnersArePaired rI 0 [(0, .ref (Gb G + r0))] [] σ _
  unfold f_X3_howManyPartnersArePaired
  refine Aw.gd (fun hr0 => ?_)
  refine Aw.iconst (v := 0) ic_0 rfl dX3_howManyPartnersArePaired_0 ?_
  refine Aw.istore_n (L' := [(1, .int 0), (0, .ref (Gb G + r0))]) (Nat.le_of_ble_eq_true rfl) rfl rfl dX3_howManyPartnersArePaired_1 ?_
  refine Aw.iconst (v := 0) ic_0 rfl dX3_howManyPartnersArePaired_2 ?_
  refine Aw.istore_n (L' := [(2, .int 0), (1, .int 0), (0, .ref (Gb G + r0))]) (Nat.le_of_ble_eq_true rfl) rfl rfl dX3_howManyPartnersArePaired_3 ?_
  refine Aw.sub (L' := [(0, .ref (Gb G + r0)), (1, .int 0), (2, .int 0)]) [2, 1, 0] rfl ?_
  exact aw_X3_howManyPartnersArePaired_4 l G FU _ _ _ _
abbrev MX3_askCount : Mt := (RX3, cX3_askCount, 2, (some .int), 4)
def f_X3_askCount (r0 : Nat) (x1 : Int32) (σ : Sg) : Option (Int32 × Sg) := if kd r0 = 3 then (if x1 = 0 then (some (σ r0 0, σ)) else if x1 = 1 then (some (σ r0 3, σ)) else if x1 = 2 then (cb (f_X3_howManyAreHome r0 σ) (fun a1 τ2 => some (a1, τ2))) else if x1 = 3 then (cb (f_X3_howManyPartnersArePaired r0 σ) (fun a3 τ4 => some (a3, τ4))) else if x1 = 4 then (cb (f_X3_callsThatFit r0 σ) (fun a5 τ6 => some (a5, τ6))) else if x1 = 5 then (some (σ r0 5, σ)) else if x1 = 6 then (some (σ r0 8, σ)) else (some ((-2), σ))) else none
theorem cv_X3_128 : CV RX3 128 3 yX3_howManyPartnersArePaired MX3_howManyPartnersArePaired 0 := ⟨_, rfl, rfl, ml_X3_128, ins_X3_howManyPartnersArePaired, sel_X3_howManyPartnersArePaired, ini_X3, cw_X3_howManyPartnersArePaired, ⟨by decide, by decide, by decide +kernel⟩⟩
theorem cv_X3_131 : CV RX3 131 3 yX3_callsThatFit MX3_callsThatFit 0 := ⟨_, rfl, rfl, ml_X3_131, ins_X3_callsThatFit, sel_X3_callsThatFit, ini_X3, cw_X3_callsThatFit, ⟨by decide, by decide, by decide +kernel⟩⟩
set_option maxRecDepth 100000 in
set_option maxHeartbeats 4000000 in
theorem ct_X3_askCount (l : Launch) (G : Gt) (r0 : Nat) (x1 : Int32) (σ : Sg) : Ct l G yX3_askCount MX3_askCount rI [.ref (Gb G + r0), .int x1] σ (f_X3_askCount r0 x1 σ) := by
  refine Ct.of (by decide +kernel) rfl (Nat.le_of_ble_eq_true rfl) ?_
  show Aw l G MX3_askCount rI 0 [(0, .ref (Gb G + r0)), (1, .int x1)] [] σ _
  unfold f_X3_askCount
  refine Aw.gd (fun hr0 => ?_)
  refine Aw.iload_n 1 rfl rfl dX3_askCount_0 ?_
  refine Aw.br (fun hc0 => ?_) (fun hc0 => ?_)
  · refine Aw.tsIn (off := 43) (t := 44) dX3_askCount_1 0 hc0 (by decide) (by decide) (by decide +kernel) (by decide) ?_
    refine Aw.aload_n 0 rfl rfl dX3_askCount_44 ?_
    refine Aw.getI fl_X3_31 (Nat.le_of_ble_eq_true rfl) rfl hr0 rfl dX3_askCount_45 ?_
    exact Aw.iret rfl dX3_askCount_48
  refine Aw.br (fun hc1 => ?_) (fun hc1 => ?_)
  · refine Aw.tsIn (off := 48) (t := 49) dX3_askCount_1 1 hc1 (by decide) (by decide) (by decide +kernel) (by decide) ?_
    refine Aw.aload_n 0 rfl rfl dX3_askCount_49 ?_
    refine Aw.getI fl_X3_41 (Nat.le_of_ble_eq_true rfl) rfl hr0 rfl dX3_askCount_50 ?_
    exact Aw.iret rfl dX3_askCount_53
  refine Aw.br (fun hc2 => ?_) (fun hc2 => ?_)
  · refine Aw.tsIn (off := 53) (t := 54) dX3_askCount_1 2 hc2 (by decide) (by decide) (by decide +kernel) (by decide) ?_
    refine Aw.aload_n 0 rfl rfl dX3_askCount_54 ?_
    refine Aw.callVi (As := []) (rest := []) cv_X3_107 (Nat.le_of_ble_eq_true rfl) hr0 (ct_X3_howManyAreHome l G r0 σ) rfl rfl (Nat.le_of_ble_eq_true rfl) (Nat.le_of_ble_eq_true rfl) (Nat.le_of_ble_eq_true rfl) rfl dX3_askCount_55 (fun a1 τ2 _ => ?_)
    exact Aw.iret rfl dX3_askCount_58
  refine Aw.br (fun hc3 => ?_) (fun hc3 => ?_)
  · refine Aw.tsIn (off := 58) (t := 59) dX3_askCount_1 3 hc3 (by decide) (by decide) (by decide +kernel) (by decide) ?_
    refine Aw.aload_n 0 rfl rfl dX3_askCount_59 ?_
    refine Aw.callVi (As := []) (rest := []) cv_X3_128 (Nat.le_of_ble_eq_true rfl) hr0 (ct_X3_howManyPartnersArePaired l G r0 σ) rfl rfl (Nat.le_of_ble_eq_true rfl) (Nat.le_of_ble_eq_true rfl) (Nat.le_of_ble_eq_true rfl) rfl dX3_askCount_60 (fun a3 τ4 _ => ?_)
    exact Aw.iret rfl dX3_askCount_63
  refine Aw.br (fun hc4 => ?_) (fun hc4 => ?_)
  · refine Aw.tsIn (off := 63) (t := 64) dX3_askCount_1 4 hc4 (by decide) (by decide) (by decide +kernel) (by decide) ?_
    refine Aw.aload_n 0 rfl rfl dX3_askCount_64 ?_
    refine Aw.callVi (As := []) (rest := []) cv_X3_131 (Nat.le_of_ble_eq_true rfl) hr0 (ct_X3_callsThatFit l G r0 σ) rfl rfl (Nat.le_of_ble_eq_true rfl) (Nat.le_of_ble_eq_true rfl) (Nat.le_of_ble_eq_true rfl) rfl dX3_askCount_65 (fun a5 τ6 _ => ?_)
    exact Aw.iret rfl dX3_askCount_68
  refine Aw.br (fun hc5 => ?_) (fun hc5 => ?_)
  · refine Aw.tsIn (off := 68) (t := 69) dX3_askCount_1 5 hc5 (by decide) (by decide) (by decide +kernel) (by decide) ?_
    refine Aw.aload_n 0 rfl rfl dX3_askCount_69 ?_
    refine Aw.getI fl_X3_48 (Nat.le_of_ble_eq_true rfl) rfl hr0 rfl dX3_askCount_70 ?_
    exact Aw.iret rfl dX3_askCount_73
  refine Aw.br (fun hc6 => ?_) (fun hc6 => ?_)
  · refine Aw.tsIn (off := 73) (t := 74) dX3_askCount_1 6 hc6 (by decide) (by decide) (by decide +kernel) (by decide) ?_
    refine Aw.aload_n 0 rfl rfl dX3_askCount_74 ?_
    refine Aw.getI fl_X3_51 (Nat.le_of_ble_eq_true rfl) rfl hr0 rfl dX3_askCount_75 ?_
    exact Aw.iret rfl dX3_askCount_78
  refine Aw.tsOut (t := 79) dX3_askCount_1 (ts_out (fun k h1 h2 => ?_)) (by decide) ?_
  · rcases (show k = 0 ∨ k = 1 ∨ k = 2 ∨ k = 3 ∨ k = 4 ∨ k = 5 ∨ k = 6 by omega) with rfl | rfl | rfl | rfl | rfl | rfl | rfl
    · exact ts_ne (v := 0) (by decide) hc0
    · exact ts_ne (v := 1) (by decide) hc1
    · exact ts_ne (v := 2) (by decide) hc2
    · exact ts_ne (v := 3) (by decide) hc3
    · exact ts_ne (v := 4) (by decide) hc4
    · exact ts_ne (v := 5) (by decide) hc5
    · exact ts_ne (v := 6) (by decide) hc6
  refine Aw.bipush (v := (-2)) ib_m2 rfl dX3_askCount_79 ?_
  exact Aw.iret rfl dX3_askCount_81
abbrev MX5_isSearch : Mt := (RX5, cX5_isSearch, 3, (some .boolean), 2)
def f_X5_isSearch (x0 : Int32) (x1 : Int32) (x2 : Int32) (σ : Sg) : Option (Int32 × Sg) := cb (f_X5_isBelow x0 3 σ) (fun a1 τ2 => if a1 = 0 then (some (0, τ2)) else (cb (f_X5_isBelow x1 6 τ2) (fun a3 τ4 => if a3 = 0 then (some (0, τ4)) else (if x2 < 1 then (some (0, τ4)) else (if 5 < x2 then (some (0, τ4)) else (some (1, τ4)))))))
theorem cs_X5_85 : CS RX5 85 yX5_isBelow MX5_isBelow 2 := ⟨ml_X5_85, sta_X5_isBelow, ini_X5, cw_X5_isBelow, ⟨by decide, by decide, by decide +kernel⟩⟩
set_option maxRecDepth 100000 in
set_option maxHeartbeats 4000000 in
theorem ct_X5_isSearch (l : Launch) (G : Gt) (x0 : Int32) (x1 : Int32) (x2 : Int32) (σ : Sg) : Ct l G yX5_isSearch MX5_isSearch rI [.int x0, .int x1, .int x2] σ (f_X5_isSearch x0 x1 x2 σ) := by
  refine Ct.of (by decide +kernel) rfl (Nat.le_of_ble_eq_true rfl) ?_
  show Aw l G MX5_isSearch rI 0 [(0, .int x0), (1, .int x1), (2, .int x2)] [] σ _
  unfold f_X5_isSearch
  refine Aw.iload_n 0 rfl rfl dX5_isSearch_0 ?_
  refine Aw.iconst (v := 3) ic_3 rfl dX5_isSearch_1 ?_
  refine Aw.callSi (As := [.int x0, .int 3]) (rest := []) cs_X5_85 (ct_X5_isBelow l G x0 3 σ) rfl rfl (Nat.le_of_ble_eq_true rfl) (Nat.le_of_ble_eq_true rfl) (Nat.le_of_ble_eq_true rfl) rfl dX5_isSearch_2 (fun a1 τ2 _ => ?_)
  refine Aw.if_eq (q := 8) (t := 31) rfl (by decide) dX5_isSearch_5 (fun hc => ?_) (fun hc => ?_)
  · refine Aw.iconst (v := 0) ic_0 rfl dX5_isSearch_31 ?_
    exact Aw.zret rfl rfl dX5_isSearch_32
  · refine Aw.iload_n 1 rfl rfl dX5_isSearch_8 ?_
    refine Aw.bipush (v := 6) ib_6 rfl dX5_isSearch_9 ?_
    refine Aw.callSi (As := [.int x1, .int 6]) (rest := []) cs_X5_85 (ct_X5_isBelow l G x1 6 τ2) rfl rfl (Nat.le_of_ble_eq_true rfl) (Nat.le_of_ble_eq_true rfl) (Nat.le_of_ble_eq_true rfl) rfl dX5_isSearch_11 (fun a3 τ4 _ => ?_)
    refine Aw.if_eq (q := 17) (t := 31) rfl (by decide) dX5_isSearch_14 (fun hc => ?_) (fun hc => ?_)
    · refine Aw.iconst (v := 0) ic_0 rfl dX5_isSearch_31 ?_
      exact Aw.zret rfl rfl dX5_isSearch_32
    · refine Aw.iload_n 2 rfl rfl dX5_isSearch_17 ?_
      refine Aw.iconst (v := 1) ic_1 rfl dX5_isSearch_18 ?_
      refine Aw.icmp_lt (q := 22) (t := 31) rfl (by decide) dX5_isSearch_19 (fun hc => ?_) (fun hc => ?_)
      · refine Aw.iconst (v := 0) ic_0 rfl dX5_isSearch_31 ?_
        exact Aw.zret rfl rfl dX5_isSearch_32
      · refine Aw.iload_n 2 rfl rfl dX5_isSearch_22 ?_
        refine Aw.iconst (v := 5) ic_5 rfl dX5_isSearch_23 ?_
        refine Aw.icmp_gt (q := 27) (t := 31) rfl (by decide) dX5_isSearch_24 (fun hc => ?_) (fun hc => ?_)
        · refine Aw.iconst (v := 0) ic_0 rfl dX5_isSearch_31 ?_
          exact Aw.zret rfl rfl dX5_isSearch_32
        · refine Aw.iconst (v := 1) ic_1 rfl dX5_isSearch_27 ?_
          refine Aw.goto (q := 32) (by decide) dX5_isSearch_28 ?_
          exact Aw.zret rfl rfl dX5_isSearch_32
