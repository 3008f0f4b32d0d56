abbrev MX1_prepare : Mt := (RX1, cX1_prepare, 2, none, 3)
def f_X1_prepare (r0 : Nat) (r1 : Nat) (σ : Sg) : Option (Unit × Sg) := if kd r0 = 1 then (if kd r1 = 3 then (if inb (σ r0 1) 6 then (cb (f_X3_copyFrom (rf (rf r0 0) (ix (σ r0 1))) r1 σ) (fun _ τ3 => some ((), τ3))) else none) else none) else none
theorem cv_X1_22 : CV RX1 22 3 yX3_copyFrom MX3_copyFrom 1 := ⟨_, rfl, rfl, ml_X1_22, ins_X3_copyFrom, sel_X3_copyFrom, ini_X3, cw_X3_copyFrom, ⟨by decide, by decide, by decide +kernel⟩⟩
set_option maxRecDepth 100000 in
set_option maxHeartbeats 4000000 in
theorem ct_X1_prepare (l : Launch) (G : Gt) (r0 : Nat) (r1 : Nat) (σ : Sg) : Ct l G yX1_prepare MX1_prepare rV [.ref (Gb G + r0), .ref (Gb G + r1)] σ (f_X1_prepare r0 r1 σ) := by
  refine Ct.of (by decide +kernel) rfl (Nat.le_of_ble_eq_true rfl) ?_
  show Aw l G MX1_prepare rV 0 [(0, .ref (Gb G + r0)), (1, .ref (Gb G + r1))] [] σ _
  unfold f_X1_prepare
  refine Aw.gd (fun hr0 => ?_)
  refine Aw.gd (fun hr1 => ?_)
  refine Aw.aload_n 0 rfl rfl dX1_prepare_0 ?_
  refine Aw.getR fl_X1_13 (Nat.le_of_ble_eq_true rfl) rfl hr0 rfl dX1_prepare_1 ?_
  refine Aw.aload_n 0 rfl rfl dX1_prepare_4 ?_
  refine Aw.getI fl_X1_18 (Nat.le_of_ble_eq_true rfl) rfl hr0 rfl dX1_prepare_5 ?_
  refine Aw.aald (n := 6) (t := 9) (ft_1_0 hr0).1 ⟨Nat.le_of_ble_eq_true rfl, Nat.le_of_ble_eq_true rfl⟩ (ft_1_0 hr0).2 rfl dX1_prepare_8 (fun hb1 => ?_)
  refine Aw.aload_n 1 rfl rfl dX1_prepare_9 ?_
  refine Aw.callVv (As := [.ref (Gb G + r1)]) (rest := []) cv_X1_22 (Nat.le_of_ble_eq_true rfl) (el_1_0 hr0 (inb_ix hb1)) (ct_X3_copyFrom l G (rf (rf r0 0) (ix (σ r0 1))) r1 σ) rfl rfl (Nat.le_of_ble_eq_true rfl) (Nat.le_of_ble_eq_true rfl) (Nat.le_of_ble_eq_true rfl) rfl dX1_prepare_10 (fun a2 τ3 _ => ?_)
  exact Aw.vret rfl dX1_prepare_13
abbrev MX1_undo : Mt := (RX1, cX1_undo, 2, none, 3)
def f_X1_undo (r0 : Nat) (r1 : Nat) (σ : Sg) : Option (Unit × Sg) := if kd r0 = 1 then (if kd r1 = 3 then (if inb (σ r0 1) 6 then (cb (f_X3_copyFrom r1 (rf (rf r0 0) (ix (σ r0 1))) σ) (fun _ τ3 => some ((), τ3))) else none) else none) else none
set_option maxRecDepth 100000 in
set_option maxHeartbeats 4000000 in
theorem ct_X1_undo (l : Launch) (G : Gt) (r0 : Nat) (r1 : Nat) (σ : Sg) : Ct l G yX1_undo MX1_undo rV [.ref (Gb G + r0), .ref (Gb G + r1)] σ (f_X1_undo r0 r1 σ) := by
  refine Ct.of (by decide +kernel) rfl (Nat.le_of_ble_eq_true rfl) ?_
  show Aw l G MX1_undo rV 0 [(0, .ref (Gb G + r0)), (1, .ref (Gb G + r1))] [] σ _
  unfold f_X1_undo
  refine Aw.gd (fun hr0 => ?_)
  refine Aw.gd (fun hr1 => ?_)
  refine Aw.aload_n 1 rfl rfl dX1_undo_0 ?_
  refine Aw.aload_n 0 rfl rfl dX1_undo_1 ?_
  refine Aw.getR fl_X1_13 (Nat.le_of_ble_eq_true rfl) rfl hr0 rfl dX1_undo_2 ?_
  refine Aw.aload_n 0 rfl rfl dX1_undo_5 ?_
  refine Aw.getI fl_X1_18 (Nat.le_of_ble_eq_true rfl) rfl hr0 rfl dX1_undo_6 ?_
  refine Aw.aald (n := 6) (t := 9) (ft_1_0 hr0).1 ⟨Nat.le_of_ble_eq_true rfl, Nat.le_of_ble_eq_true rfl⟩ (ft_1_0 hr0).2 rfl dX1_undo_9 (fun hb1 => ?_)
  refine Aw.callVv (As := [.ref (Gb G + rf (rf r0 0) (ix (σ r0 1)))]) (rest := []) cv_X1_22 (Nat.le_of_ble_eq_true rfl) hr1 (ct_X3_copyFrom l G r1 (rf (rf r0 0) (ix (σ r0 1))) σ) rfl rfl (Nat.le_of_ble_eq_true rfl) (Nat.le_of_ble_eq_true rfl) (Nat.le_of_ble_eq_true rfl) rfl dX1_undo_10 (fun a2 τ3 _ => ?_)
  exact Aw.vret rfl dX1_undo_13
abbrev MX1_confirm : Mt := (RX1, cX1_confirm, 1, none, 1)
def f_X1_confirm (r0 : Nat) (σ : Sg) : Option (Unit × Sg) := if kd r0 = 1 then (bn (up σ r0 1 (rem ((σ r0 1) + 1) 6)) (fun τ1 => bn (up τ1 r0 2 ((if 5 < (τ1 r0 2) + 1 then 5 else (τ1 r0 2) + 1))) (fun τ2 => some ((), τ2)))) else none
set_option maxRecDepth 100000 in
set_option maxHeartbeats 4000000 in
theorem ct_X1_confirm (l : Launch) (G : Gt) (r0 : Nat) (σ : Sg) : Ct l G yX1_confirm MX1_confirm rV [.ref (Gb G + r0)] σ (f_X1_confirm r0 σ) := by
  refine Ct.of (by decide +kernel) rfl (Nat.le_of_ble_eq_true rfl) ?_
  show Aw l G MX1_confirm rV 0 [(0, .ref (Gb G + r0))] [] σ _
  unfold f_X1_confirm
  refine Aw.gd (fun hr0 => ?_)
  refine Aw.aload_n 0 rfl rfl dX1_confirm_0 ?_
  refine Aw.aload_n 0 rfl rfl dX1_confirm_1 ?_
  refine Aw.getI fl_X1_18 (Nat.le_of_ble_eq_true rfl) rfl hr0 rfl dX1_confirm_2 ?_
  refine Aw.iconst (v := 1) ic_1 rfl dX1_confirm_5 ?_
  refine Aw.iadd rfl dX1_confirm_6 ?_
  refine Aw.bipush (v := 6) ib_6 rfl dX1_confirm_7 ?_
  refine Aw.irem nz_6 rfl dX1_confirm_9 ?_
  refine Aw.putI (v := rem ((σ r0 1) + 1) 6) fl_X1_18 fp_1_1 rfl rfl (Nat.le_of_ble_eq_true rfl) rfl hr0 rfl dX1_confirm_10 ?_
  refine Aw.bs (fun τ1 => ?_)
  refine Aw.aload_n 0 rfl rfl dX1_confirm_13 ?_
  refine Aw.aload_n 0 rfl rfl dX1_confirm_14 ?_
  refine Aw.getI fl_X1_26 (Nat.le_of_ble_eq_true rfl) rfl hr0 rfl dX1_confirm_15 ?_
  refine Aw.iconst (v := 1) ic_1 rfl dX1_confirm_18 ?_
  refine Aw.iadd rfl dX1_confirm_19 ?_
  refine Aw.iconst (v := 5) ic_5 rfl dX1_confirm_20 ?_
  refine Aw.mmin ml_X1_29 sta_J9_min_7cf53 ini_J9 cw_J9_min_7cf53 (Nat.le_of_ble_eq_true rfl) (by decide) rfl dX1_confirm_21 ?_
  refine Aw.putI (v := (if 5 < (τ1 r0 2) + 1 then 5 else (τ1 r0 2) + 1)) fl_X1_26 fp_1_2 rfl rfl (Nat.le_of_ble_eq_true rfl) rfl hr0 rfl dX1_confirm_24 ?_
  refine Aw.bs (fun τ2 => ?_)
  exact Aw.vret rfl dX1_confirm_27
abbrev MX1_takeBack : Mt := (RX1, cX1_takeBack, 2, (some .int), 3)
def f_X1_takeBack (r0 : Nat) (r1 : Nat) (σ : Sg) : Option (Int32 × Sg) := if kd r0 = 1 then (if kd r1 = 3 then (if σ r0 2 = 0 then (some ((-3), σ)) else (bn (up σ r0 1 (rem (((σ r0 1) + 6) - 1) 6)) (fun τ1 => bn (up τ1 r0 2 ((τ1 r0 2) - 1)) (fun τ2 => if inb (τ2 r0 1) 6 then (cb (f_X3_copyFrom r1 (rf (rf r0 0) (ix (τ2 r0 1))) τ2) (fun _ τ5 => some (τ5 r0 2, τ5))) else none)))) else none) else none
set_option maxRecDepth 100000 in
set_option maxHeartbeats 4000000 in
theorem ct_X1_takeBack (l : Launch) (G : Gt) (r0 : Nat) (r1 : Nat) (σ : Sg) : Ct l G yX1_takeBack MX1_takeBack rI [.ref (Gb G + r0), .ref (Gb G + r1)] σ (f_X1_takeBack r0 r1 σ) := by
  refine Ct.of (by decide +kernel) rfl (Nat.le_of_ble_eq_true rfl) ?_
  show Aw l G MX1_takeBack rI 0 [(0, .ref (Gb G + r0)), (1, .ref (Gb G + r1))] [] σ _
  unfold f_X1_takeBack
  refine Aw.gd (fun hr0 => ?_)
  refine Aw.gd (fun hr1 => ?_)
  refine Aw.aload_n 0 rfl rfl dX1_takeBack_0 ?_
  refine Aw.getI fl_X1_26 (Nat.le_of_ble_eq_true rfl) rfl hr0 rfl dX1_takeBack_1 ?_
  refine Aw.if_ne (q := 7) (t := 10) rfl (by decide) dX1_takeBack_4 (fun hc => ?_) (fun hc => ?_)
  · refine Aw.bipush (v := (-3)) ib_m3 rfl dX1_takeBack_7 ?_
    exact Aw.iret rfl dX1_takeBack_9
  · refine Aw.aload_n 0 rfl rfl dX1_takeBack_10 ?_
    refine Aw.aload_n 0 rfl rfl dX1_takeBack_11 ?_
    refine Aw.getI fl_X1_18 (Nat.le_of_ble_eq_true rfl) rfl hr0 rfl dX1_takeBack_12 ?_
    refine Aw.bipush (v := 6) ib_6 rfl dX1_takeBack_15 ?_
    refine Aw.iadd rfl dX1_takeBack_17 ?_
    refine Aw.iconst (v := 1) ic_1 rfl dX1_takeBack_18 ?_
    refine Aw.isub rfl dX1_takeBack_19 ?_
    refine Aw.bipush (v := 6) ib_6 rfl dX1_takeBack_20 ?_
    refine Aw.irem nz_6 rfl dX1_takeBack_22 ?_
    refine Aw.putI (v := rem (((σ r0 1) + 6) - 1) 6) fl_X1_18 fp_1_1 rfl rfl (Nat.le_of_ble_eq_true rfl) rfl hr0 rfl dX1_takeBack_23 ?_
    refine Aw.bs (fun τ1 => ?_)
    refine Aw.aload_n 0 rfl rfl dX1_takeBack_26 ?_
    refine Aw.dupr rfl dX1_takeBack_27 ?_
    refine Aw.getI fl_X1_26 (Nat.le_of_ble_eq_true rfl) rfl hr0 rfl dX1_takeBack_28 ?_
    refine Aw.iconst (v := 1) ic_1 rfl dX1_takeBack_31 ?_
    refine Aw.isub rfl dX1_takeBack_32 ?_
    refine Aw.putI (v := (τ1 r0 2) - 1) fl_X1_26 fp_1_2 rfl rfl (Nat.le_of_ble_eq_true rfl) rfl hr0 rfl dX1_takeBack_33 ?_
    refine Aw.bs (fun τ2 => ?_)
    refine Aw.aload_n 1 rfl rfl dX1_takeBack_36 ?_
    refine Aw.aload_n 0 rfl rfl dX1_takeBack_37 ?_
    refine Aw.getR fl_X1_13 (Nat.le_of_ble_eq_true rfl) rfl hr0 rfl dX1_takeBack_38 ?_
    refine Aw.aload_n 0 rfl rfl dX1_takeBack_41 ?_
    refine Aw.getI fl_X1_18 (Nat.le_of_ble_eq_true rfl) rfl hr0 rfl dX1_takeBack_42 ?_
    refine Aw.aald (n := 6) (t := 9) (ft_1_0 hr0).1 ⟨Nat.le_of_ble_eq_true rfl, Nat.le_of_ble_eq_true rfl⟩ (ft_1_0 hr0).2 rfl dX1_takeBack_45 (fun hb3 => ?_)
    refine Aw.callVv (As := [.ref (Gb G + rf (rf r0 0) (ix (τ2 r0 1)))]) (rest := []) cv_X1_22 (Nat.le_of_ble_eq_true rfl) hr1 (ct_X3_copyFrom l G r1 (rf (rf r0 0) (ix (τ2 r0 1))) τ2) rfl rfl (Nat.le_of_ble_eq_true rfl) (Nat.le_of_ble_eq_true rfl) (Nat.le_of_ble_eq_true rfl) rfl dX1_takeBack_46 (fun a4 τ5 _ => ?_)
    refine Aw.aload_n 0 rfl rfl dX1_takeBack_49 ?_
    refine Aw.getI fl_X1_26 (Nat.le_of_ble_eq_true rfl) rfl hr0 rfl dX1_takeBack_50 ?_
    exact Aw.iret rfl dX1_takeBack_53
