abbrev MX5_noted : Mt := (RX5, cX5_noted, 2, (some .int), 1)
def f_X5_noted (r0 : Nat) (x1 : Int32) (σ : Sg) : Option (Int32 × Sg) := if kd r0 = 5 then (if (-2) < x1 then (some (x1, σ)) else (if x1 < (-4) then (some (x1, σ)) else (if inb (((-2)) - x1) 3 then (if inb (((-2)) - x1) 3 then (bn (up σ (rf r0 4) (ix (((-2)) - x1)) ((σ (rf r0 4) (ix (((-2)) - x1))) + 1)) (fun τ3 => some (x1, τ3))) else none) else none))) else none
set_option maxRecDepth 100000 in
set_option maxHeartbeats 4000000 in
theorem ct_X5_noted (l : Launch) (G : Gt) (r0 : Nat) (x1 : Int32) (σ : Sg) : Ct l G yX5_noted MX5_noted rI [.ref (Gb G + r0), .int x1] σ (f_X5_noted r0 x1 σ) := by
  refine Ct.of (by decide +kernel) rfl (Nat.le_of_ble_eq_true rfl) ?_
  show Aw l G MX5_noted rI 0 [(0, .ref (Gb G + r0)), (1, .int x1)] [] σ _
  unfold f_X5_noted
  refine Aw.gd (fun hr0 => ?_)
  refine Aw.iload_n 1 rfl rfl dX5_noted_0 ?_
  refine Aw.bipush (v := (-2)) ib_m2 rfl dX5_noted_1 ?_
  refine Aw.icmp_gt (q := 6) (t := 25) rfl (by decide) dX5_noted_3 (fun hc => ?_) (fun hc => ?_)
  · refine Aw.iload_n 1 rfl rfl dX5_noted_25 ?_
    exact Aw.iret rfl dX5_noted_26
  · refine Aw.iload_n 1 rfl rfl dX5_noted_6 ?_
    refine Aw.bipush (v := (-4)) ib_m4 rfl dX5_noted_7 ?_
    refine Aw.icmp_lt (q := 12) (t := 25) rfl (by decide) dX5_noted_9 (fun hc => ?_) (fun hc => ?_)
    · refine Aw.iload_n 1 rfl rfl dX5_noted_25 ?_
      exact Aw.iret rfl dX5_noted_26
    · refine Aw.aload_n 0 rfl rfl dX5_noted_12 ?_
      refine Aw.getR fl_X5_37 (Nat.le_of_ble_eq_true rfl) rfl hr0 rfl dX5_noted_13 ?_
      refine Aw.bipush (v := (-2)) ib_m2 rfl dX5_noted_16 ?_
      refine Aw.iload_n 1 rfl rfl dX5_noted_18 ?_
      refine Aw.isub rfl dX5_noted_19 ?_
      refine Aw.dup2 rfl dX5_noted_20 ?_
      refine Aw.iald (n := 3) (ft_5_4 hr0).1 (ft_5_4 hr0).2 rfl dX5_noted_21 (fun hb1 => ?_)
      refine Aw.iconst (v := 1) ic_1 rfl dX5_noted_22 ?_
      refine Aw.iadd rfl dX5_noted_23 ?_
      refine Aw.iast (n := 3) (ft_5_4 hr0).1 (ft_5_4 hr0).2 rfl dX5_noted_24 (fun hb2 => ?_)
      refine Aw.bs (fun τ3 => ?_)
      refine Aw.iload_n 1 rfl rfl dX5_noted_25 ?_
      exact Aw.iret rfl dX5_noted_26
abbrev MX5_settled : Mt := (RX5, cX5_settled, 2, (some .int), 2)
def f_X5_settled_11  (r0 : Nat) (x1 : Int32) (σ : Sg) : Option (Int32 × Sg) := if kd r0 = 5 then (cb (f_X5_noted r0 x1 σ) (fun a1 τ2 => some (a1, τ2))) else none
def f_X5_settled (r0 : Nat) (x1 : Int32) (σ : Sg) : Option (Int32 × Sg) := if kd r0 = 5 then (if x1 < 0 then (f_X5_settled_11 r0 x1 σ) else (cb (f_X1_confirm (rf r0 1) σ) (fun _ τ2 => f_X5_settled_11 r0 x1 τ2))) else none
theorem cv_X5_82 : CV RX5 82 5 yX5_noted MX5_noted 1 := ⟨_, rfl, rfl, ml_X5_82, ins_X5_noted, sel_X5_noted, ini_X5, cw_X5_noted, ⟨by decide, by decide, by decide +kernel⟩⟩
theorem cv_X5_153 : CV RX5 153 1 yX1_confirm MX1_confirm 0 := ⟨_, rfl, rfl, ml_X5_153, ins_X1_confirm, sel_X1_confirm, ini_X1, cw_X1_confirm, ⟨by decide, by decide, by decide +kernel⟩⟩
set_option maxRecDepth 100000 in
set_option maxHeartbeats 4000000 in
theorem aw_X5_settled_11 (l : Launch) (G : Gt) (r0 : Nat) (x1 : Int32) (σ : Sg) : Aw l G MX5_settled rI 11 [(0, .ref (Gb G + r0)), (1, .int x1)] [] σ (f_X5_settled_11 r0 x1 σ) := by
  unfold f_X5_settled_11
  refine Aw.gd (fun hr0 => ?_)
  refine Aw.aload_n 0 rfl rfl dX5_settled_11 ?_
  refine Aw.iload_n 1 rfl rfl dX5_settled_12 ?_
  refine Aw.callVi (As := [.int x1]) (rest := []) cv_X5_82 (Nat.le_of_ble_eq_true rfl) hr0 (ct_X5_noted l G r0 x1 σ) rfl rfl (Nat.le_of_ble_eq_true rfl) (Nat.le_of_ble_eq_true rfl) (Nat.le_of_ble_eq_true rfl) rfl dX5_settled_13 (fun a1 τ2 _ => ?_)
  exact Aw.iret rfl dX5_settled_16
set_option maxRecDepth 100000 in
set_option maxHeartbeats 4000000 in
theorem ct_X5_settled (l : Launch) (G : Gt) (r0 : Nat) (x1 : Int32) (σ : Sg) : Ct l G yX5_settled MX5_settled rI [.ref (Gb G + r0), .int x1] σ (f_X5_settled r0 x1 σ) := by
  refine Ct.of (by decide +kernel) rfl (Nat.le_of_ble_eq_true rfl) ?_
  show Aw l G MX5_settled rI 0 [(0, .ref (Gb G + r0)), (1, .int x1)] [] σ _
  unfold f_X5_settled
  refine Aw.gd (fun hr0 => ?_)
  refine Aw.iload_n 1 rfl rfl dX5_settled_0 ?_
  refine Aw.if_lt (q := 4) (t := 11) rfl (by decide) dX5_settled_1 (fun hc => ?_) (fun hc => ?_)
  · refine Aw.sub (L' := [(0, .ref (Gb G + r0)), (1, .int x1)]) [0, 1] rfl ?_
    exact aw_X5_settled_11 l G _ _ _
  · refine Aw.aload_n 0 rfl rfl dX5_settled_4 ?_
    refine Aw.getR fl_X5_19 (Nat.le_of_ble_eq_true rfl) rfl hr0 rfl dX5_settled_5 ?_
    refine Aw.callVv (As := []) (rest := []) cv_X5_153 (Nat.le_of_ble_eq_true rfl) (ft_5_1 hr0) (ct_X1_confirm l G (rf r0 1) σ) rfl rfl (Nat.le_of_ble_eq_true rfl) (Nat.le_of_ble_eq_true rfl) (Nat.le_of_ble_eq_true rfl) rfl dX5_settled_8 (fun a1 τ2 _ => ?_)
    refine Aw.sub (L' := [(0, .ref (Gb G + r0)), (1, .int x1)]) [0, 1] rfl ?_
    exact aw_X5_settled_11 l G _ _ _
abbrev MX5_dancer : Mt := (RX5, cX5_dancer, 3, (some .int), 4)
def f_X5_dancer (r0 : Nat) (x1 : Int32) (x2 : Int32) (σ : Sg) : Option (Int32 × Sg) := if kd r0 = 5 then (cb (f_X1_prepare (rf r0 1) (rf r0 0) σ) (fun _ τ2 => cb (f_X3_addDancer (rf r0 0) x1 x2 τ2) (fun a3 τ4 => cb (f_X5_settled r0 a3 τ4) (fun a5 τ6 => some (a5, τ6))))) else none
theorem cv_X5_41 : CV RX5 41 1 yX1_prepare MX1_prepare 1 := ⟨_, rfl, rfl, ml_X5_41, ins_X1_prepare, sel_X1_prepare, ini_X1, cw_X1_prepare, ⟨by decide, by decide, by decide +kernel⟩⟩
theorem cv_X5_45 : CV RX5 45 3 yX3_addDancer MX3_addDancer 2 := ⟨_, rfl, rfl, ml_X5_45, ins_X3_addDancer, sel_X3_addDancer, ini_X3, cw_X3_addDancer, ⟨by decide, by decide, by decide +kernel⟩⟩
theorem cv_X5_49 : CV RX5 49 5 yX5_settled MX5_settled 1 := ⟨_, rfl, rfl, ml_X5_49, ins_X5_settled, sel_X5_settled, ini_X5, cw_X5_settled, ⟨by decide, by decide, by decide +kernel⟩⟩
set_option maxRecDepth 100000 in
set_option maxHeartbeats 4000000 in
theorem ct_X5_dancer (l : Launch) (G : Gt) (r0 : Nat) (x1 : Int32) (x2 : Int32) (σ : Sg) : Ct l G yX5_dancer MX5_dancer rI [.ref (Gb G + r0), .int x1, .int x2] σ (f_X5_dancer r0 x1 x2 σ) := by
  refine Ct.of (by decide +kernel) rfl (Nat.le_of_ble_eq_true rfl) ?_
  show Aw l G MX5_dancer rI 0 [(0, .ref (Gb G + r0)), (1, .int x1), (2, .int x2)] [] σ _
  unfold f_X5_dancer
  refine Aw.gd (fun hr0 => ?_)
  refine Aw.aload_n 0 rfl rfl dX5_dancer_0 ?_
  refine Aw.getR fl_X5_19 (Nat.le_of_ble_eq_true rfl) rfl hr0 rfl dX5_dancer_1 ?_
  refine Aw.aload_n 0 rfl rfl dX5_dancer_4 ?_
  refine Aw.getR fl_X5_12 (Nat.le_of_ble_eq_true rfl) rfl hr0 rfl dX5_dancer_5 ?_
  refine Aw.callVv (As := [.ref (Gb G + rf r0 0)]) (rest := []) cv_X5_41 (Nat.le_of_ble_eq_true rfl) (ft_5_1 hr0) (ct_X1_prepare l G (rf r0 1) (rf r0 0) σ) rfl rfl (Nat.le_of_ble_eq_true rfl) (Nat.le_of_ble_eq_true rfl) (Nat.le_of_ble_eq_true rfl) rfl dX5_dancer_8 (fun a1 τ2 _ => ?_)
  refine Aw.aload_n 0 rfl rfl dX5_dancer_11 ?_
  refine Aw.aload_n 0 rfl rfl dX5_dancer_12 ?_
  refine Aw.getR fl_X5_12 (Nat.le_of_ble_eq_true rfl) rfl hr0 rfl dX5_dancer_13 ?_
  refine Aw.iload_n 1 rfl rfl dX5_dancer_16 ?_
  refine Aw.iload_n 2 rfl rfl dX5_dancer_17 ?_
  refine Aw.callVi (As := [.int x1, .int x2]) (rest := [.ref (Gb G + r0)]) cv_X5_45 (Nat.le_of_ble_eq_true rfl) (ft_5_0 hr0) (ct_X3_addDancer l G (rf r0 0) x1 x2 τ2) rfl rfl (Nat.le_of_ble_eq_true rfl) (Nat.le_of_ble_eq_true rfl) (Nat.le_of_ble_eq_true rfl) rfl dX5_dancer_18 (fun a3 τ4 _ => ?_)
  refine Aw.callVi (As := [.int a3]) (rest := []) cv_X5_49 (Nat.le_of_ble_eq_true rfl) hr0 (ct_X5_settled l G r0 a3 τ4) rfl rfl (Nat.le_of_ble_eq_true rfl) (Nat.le_of_ble_eq_true rfl) (Nat.le_of_ble_eq_true rfl) rfl dX5_dancer_21 (fun a5 τ6 _ => ?_)
  exact Aw.iret rfl dX5_dancer_24
abbrev MX5_call : Mt := (RX5, cX5_call, 1, (some .int), 4)
def f_X5_call (r0 : Nat) (σ : Sg) : Option (Int32 × Sg) := if kd r0 = 5 then (cb (f_X1_prepare (rf r0 1) (rf r0 0) σ) (fun _ τ2 => cb (f_X3_addCall (rf r0 0) τ2) (fun a3 τ4 => cb (f_X5_settled r0 a3 τ4) (fun a5 τ6 => some (a5, τ6))))) else none
theorem cv_X5_53 : CV RX5 53 3 yX3_addCall MX3_addCall 0 := ⟨_, rfl, rfl, ml_X5_53, ins_X3_addCall, sel_X3_addCall, ini_X3, cw_X3_addCall, ⟨by decide, by decide, by decide +kernel⟩⟩
set_option maxRecDepth 100000 in
set_option maxHeartbeats 4000000 in
theorem ct_X5_call (l : Launch) (G : Gt) (r0 : Nat) (σ : Sg) : Ct l G yX5_call MX5_call rI [.ref (Gb G + r0)] σ (f_X5_call r0 σ) := by
  refine Ct.of (by decide +kernel) rfl (Nat.le_of_ble_eq_true rfl) ?_
  show Aw l G MX5_call rI 0 [(0, .ref (Gb G + r0))] [] σ _
  unfold f_X5_call
  refine Aw.gd (fun hr0 => ?_)
  refine Aw.aload_n 0 rfl rfl dX5_call_0 ?_
  refine Aw.getR fl_X5_19 (Nat.le_of_ble_eq_true rfl) rfl hr0 rfl dX5_call_1 ?_
  refine Aw.aload_n 0 rfl rfl dX5_call_4 ?_
  refine Aw.getR fl_X5_12 (Nat.le_of_ble_eq_true rfl) rfl hr0 rfl dX5_call_5 ?_
  refine Aw.callVv (As := [.ref (Gb G + rf r0 0)]) (rest := []) cv_X5_41 (Nat.le_of_ble_eq_true rfl) (ft_5_1 hr0) (ct_X1_prepare l G (rf r0 1) (rf r0 0) σ) rfl rfl (Nat.le_of_ble_eq_true rfl) (Nat.le_of_ble_eq_true rfl) (Nat.le_of_ble_eq_true rfl) rfl dX5_call_8 (fun a1 τ2 _ => ?_)
  refine Aw.aload_n 0 rfl rfl dX5_call_11 ?_
  refine Aw.aload_n 0 rfl rfl dX5_call_12 ?_
  refine Aw.getR fl_X5_12 (Nat.le_of_ble_eq_true rfl) rfl hr0 rfl dX5_call_13 ?_
  refine Aw.callVi (As := []) (rest := [.ref (Gb G + r0)]) cv_X5_53 (Nat.le_of_ble_eq_true rfl) (ft_5_0 hr0) (ct_X3_addCall l G (rf r0 0) τ2) rfl rfl (Nat.le_of_ble_eq_true rfl) (Nat.le_of_ble_eq_true rfl) (Nat.le_of_ble_eq_true rfl) rfl dX5_call_16 (fun a3 τ4 _ => ?_)
  refine Aw.callVi (As := [.int a3]) (rest := []) cv_X5_49 (Nat.le_of_ble_eq_true rfl) hr0 (ct_X5_settled l G r0 a3 τ4) rfl rfl (Nat.le_of_ble_eq_true rfl) (Nat.le_of_ble_eq_true rfl) (Nat.le_of_ble_eq_true rfl) rfl dX5_call_19 (fun a5 τ6 _ => ?_)
  exact Aw.iret rfl dX5_call_22
abbrev MX5_exchanges : Mt := (RX5, cX5_exchanges, 4, (some .int), 4)
def f_X5_exchanges (r0 : Nat) (x1 : Int32) (x2 : Int32) (x3 : Int32) (σ : Sg) : Option (Int32 × Sg) := if kd r0 = 5 then (cb (f_X1_prepare (rf r0 1) (rf r0 0) σ) (fun _ τ2 => cb (f_X3_exchangeGoals (rf r0 0) x1 x2 x3 τ2) (fun a3 τ4 => cb (f_X5_settled r0 a3 τ4) (fun a5 τ6 => some (a5, τ6))))) else none
theorem cv_X5_57 : CV RX5 57 3 yX3_exchangeGoals MX3_exchangeGoals 3 := ⟨_, rfl, rfl, ml_X5_57, ins_X3_exchangeGoals, sel_X3_exchangeGoals, ini_X3, cw_X3_exchangeGoals, ⟨by decide, by decide, by decide +kernel⟩⟩
set_option maxRecDepth 100000 in
set_option maxHeartbeats 4000000 in
theorem ct_X5_exchanges (l : Launch) (G : Gt) (r0 : Nat) (x1 : Int32) (x2 : Int32) (x3 : Int32) (σ : Sg) : Ct l G yX5_exchanges MX5_exchanges rI [.ref (Gb G + r0), .int x1, .int x2, .int x3] σ (f_X5_exchanges r0 x1 x2 x3 σ) := by
  refine Ct.of (by decide +kernel) rfl (Nat.le_of_ble_eq_true rfl) ?_
  show Aw l G MX5_exchanges rI 0 [(0, .ref (Gb G + r0)), (1, .int x1), (2, .int x2), (3, .int x3)] [] σ _
  unfold f_X5_exchanges
  refine Aw.gd (fun hr0 => ?_)
  refine Aw.aload_n 0 rfl rfl dX5_exchanges_0 ?_
  refine Aw.getR fl_X5_19 (Nat.le_of_ble_eq_true rfl) rfl hr0 rfl dX5_exchanges_1 ?_
  refine Aw.aload_n 0 rfl rfl dX5_exchanges_4 ?_
  refine Aw.getR fl_X5_12 (Nat.le_of_ble_eq_true rfl) rfl hr0 rfl dX5_exchanges_5 ?_
  refine Aw.callVv (As := [.ref (Gb G + rf r0 0)]) (rest := []) cv_X5_41 (Nat.le_of_ble_eq_true rfl) (ft_5_1 hr0) (ct_X1_prepare l G (rf r0 1) (rf r0 0) σ) rfl rfl (Nat.le_of_ble_eq_true rfl) (Nat.le_of_ble_eq_true rfl) (Nat.le_of_ble_eq_true rfl) rfl dX5_exchanges_8 (fun a1 τ2 _ => ?_)
  refine Aw.aload_n 0 rfl rfl dX5_exchanges_11 ?_
  refine Aw.aload_n 0 rfl rfl dX5_exchanges_12 ?_
  refine Aw.getR fl_X5_12 (Nat.le_of_ble_eq_true rfl) rfl hr0 rfl dX5_exchanges_13 ?_
  refine Aw.iload_n 1 rfl rfl dX5_exchanges_16 ?_
  refine Aw.iload_n 2 rfl rfl dX5_exchanges_17 ?_
  refine Aw.iload_n 3 rfl rfl dX5_exchanges_18 ?_
  refine Aw.callVi (As := [.int x1, .int x2, .int x3]) (rest := [.ref (Gb G + r0)]) cv_X5_57 (Nat.le_of_ble_eq_true rfl) (ft_5_0 hr0) (ct_X3_exchangeGoals l G (rf r0 0) x1 x2 x3 τ2) rfl rfl (Nat.le_of_ble_eq_true rfl) (Nat.le_of_ble_eq_true rfl) (Nat.le_of_ble_eq_true rfl) rfl dX5_exchanges_19 (fun a3 τ4 _ => ?_)
  refine Aw.callVi (As := [.int a3]) (rest := []) cv_X5_49 (Nat.le_of_ble_eq_true rfl) hr0 (ct_X5_settled l G r0 a3 τ4) rfl rfl (Nat.le_of_ble_eq_true rfl) (Nat.le_of_ble_eq_true rfl) (Nat.le_of_ble_eq_true rfl) rfl dX5_exchanges_22 (fun a5 τ6 _ => ?_)
  exact Aw.iret rfl dX5_exchanges_25
abbrev MX5_turns : Mt := (RX5, cX5_turns, 4, (some .int), 4)
def f_X5_turns (r0 : Nat) (x1 : Int32) (x2 : Int32) (x3 : Int32) (σ : Sg) : Option (Int32 × Sg) := if kd r0 = 5 then (cb (f_X1_prepare (rf r0 1) (rf r0 0) σ) (fun _ τ2 => cb (f_X3_setTurn (rf r0 0) x1 x2 x3 τ2) (fun a3 τ4 => cb (f_X5_settled r0 a3 τ4) (fun a5 τ6 => some (a5, τ6))))) else none
theorem cv_X5_61 : CV RX5 61 3 yX3_setTurn MX3_setTurn 3 := ⟨_, rfl, rfl, ml_X5_61, ins_X3_setTurn, sel_X3_setTurn, ini_X3, cw_X3_setTurn, ⟨by decide, by decide, by decide +kernel⟩⟩
set_option maxRecDepth 100000 in
set_option maxHeartbeats 4000000 in
theorem ct_X5_turns (l : Launch) (G : Gt) (r0 : Nat) (x1 : Int32) (x2 : Int32) (x3 : Int32) (σ : Sg) : Ct l G yX5_turns MX5_turns rI [.ref (Gb G + r0), .int x1, .int x2, .int x3] σ (f_X5_turns r0 x1 x2 x3 σ) := by
  refine Ct.of (by decide +kernel) rfl (Nat.le_of_ble_eq_true rfl) ?_
  show Aw l G MX5_turns rI 0 [(0, .ref (Gb G + r0)), (1, .int x1), (2, .int x2), (3, .int x3)] [] σ _
  unfold f_X5_turns
  refine Aw.gd (fun hr0 => ?_)
  refine Aw.aload_n 0 rfl rfl dX5_turns_0 ?_
  refine Aw.getR fl_X5_19 (Nat.le_of_ble_eq_true rfl) rfl hr0 rfl dX5_turns_1 ?_
  refine Aw.aload_n 0 rfl rfl dX5_turns_4 ?_
  refine Aw.getR fl_X5_12 (Nat.le_of_ble_eq_true rfl) rfl hr0 rfl dX5_turns_5 ?_
  refine Aw.callVv (As := [.ref (Gb G + rf r0 0)]) (rest := []) cv_X5_41 (Nat.le_of_ble_eq_true rfl) (ft_5_1 hr0) (ct_X1_prepare l G (rf r0 1) (rf r0 0) σ) rfl rfl (Nat.le_of_ble_eq_true rfl) (Nat.le_of_ble_eq_true rfl) (Nat.le_of_ble_eq_true rfl) rfl dX5_turns_8 (fun a1 τ2 _ => ?_)
  refine Aw.aload_n 0 rfl rfl dX5_turns_11 ?_
  refine Aw.aload_n 0 rfl rfl dX5_turns_12 ?_
  refine Aw.getR fl_X5_12 (Nat.le_of_ble_eq_true rfl) rfl hr0 rfl dX5_turns_13 ?_
  refine Aw.iload_n 1 rfl rfl dX5_turns_16 ?_
  refine Aw.iload_n 2 rfl rfl dX5_turns_17 ?_
  refine Aw.iload_n 3 rfl rfl dX5_turns_18 ?_
  refine Aw.callVi (As := [.int x1, .int x2, .int x3]) (rest := [.ref (Gb G + r0)]) cv_X5_61 (Nat.le_of_ble_eq_true rfl) (ft_5_0 hr0) (ct_X3_setTurn l G (rf r0 0) x1 x2 x3 τ2) rfl rfl (Nat.le_of_ble_eq_true rfl) (Nat.le_of_ble_eq_true rfl) (Nat.le_of_ble_eq_true rfl) rfl dX5_turns_19 (fun a3 τ4 _ => ?_)
  refine Aw.callVi (As := [.int a3]) (rest := []) cv_X5_49 (Nat.le_of_ble_eq_true rfl) hr0 (ct_X5_settled l G r0 a3 τ4) rfl rfl (Nat.le_of_ble_eq_true rfl) (Nat.le_of_ble_eq_true rfl) (Nat.le_of_ble_eq_true rfl) rfl dX5_turns_22 (fun a5 τ6 _ => ?_)
  exact Aw.iret rfl dX5_turns_25
abbrev MX5_wants : Mt := (RX5, cX5_wants, 4, (some .int), 4)
def f_X5_wants (r0 : Nat) (x1 : Int32) (x2 : Int32) (x3 : Int32) (σ : Sg) : Option (Int32 × Sg) := if kd r0 = 5 then (cb (f_X1_prepare (rf r0 1) (rf r0 0) σ) (fun _ τ2 => cb (f_X3_setWant (rf r0 0) x1 x2 x3 τ2) (fun a3 τ4 => cb (f_X5_settled r0 a3 τ4) (fun a5 τ6 => some (a5, τ6))))) else none
theorem cv_X5_64 : CV RX5 64 3 yX3_setWant MX3_setWant 3 := ⟨_, rfl, rfl, ml_X5_64, ins_X3_setWant, sel_X3_setWant, ini_X3, cw_X3_setWant, ⟨by decide, by decide, by decide +kernel⟩⟩
set_option maxRecDepth 100000 in
set_option maxHeartbeats 4000000 in
theorem ct_X5_wants (l : Launch) (G : Gt) (r0 : Nat) (x1 : Int32) (x2 : Int32) (x3 : Int32) (σ : Sg) : Ct l G yX5_wants MX5_wants rI [.ref (Gb G + r0), .int x1, .int x2, .int x3] σ (f_X5_wants r0 x1 x2 x3 σ) := by
  refine Ct.of (by decide +kernel) rfl (Nat.le_of_ble_eq_true rfl) ?_
  show Aw l G MX5_wants rI 0 [(0, .ref (Gb G + r0)), (1, .int x1), (2, .int x2), (3, .int x3)] [] σ _
  unfold f_X5_wants
  refine Aw.gd (fun hr0 => ?_)
  refine Aw.aload_n 0 rfl rfl dX5_wants_0 ?_
  refine Aw.getR fl_X5_19 (Nat.le_of_ble_eq_true rfl) rfl hr0 rfl dX5_wants_1 ?_
  refine Aw.aload_n 0 rfl rfl dX5_wants_4 ?_
  refine Aw.getR fl_X5_12 (Nat.le_of_ble_eq_true rfl) rfl hr0 rfl dX5_wants_5 ?_
  refine Aw.callVv (As := [.ref (Gb G + rf r0 0)]) (rest := []) cv_X5_41 (Nat.le_of_ble_eq_true rfl) (ft_5_1 hr0) (ct_X1_prepare l G (rf r0 1) (rf r0 0) σ) rfl rfl (Nat.le_of_ble_eq_true rfl) (Nat.le_of_ble_eq_true rfl) (Nat.le_of_ble_eq_true rfl) rfl dX5_wants_8 (fun a1 τ2 _ => ?_)
  refine Aw.aload_n 0 rfl rfl dX5_wants_11 ?_
  refine Aw.aload_n 0 rfl rfl dX5_wants_12 ?_
  refine Aw.getR fl_X5_12 (Nat.le_of_ble_eq_true rfl) rfl hr0 rfl dX5_wants_13 ?_
  refine Aw.iload_n 1 rfl rfl dX5_wants_16 ?_
  refine Aw.iload_n 2 rfl rfl dX5_wants_17 ?_
  refine Aw.iload_n 3 rfl rfl dX5_wants_18 ?_
  refine Aw.callVi (As := [.int x1, .int x2, .int x3]) (rest := [.ref (Gb G + r0)]) cv_X5_64 (Nat.le_of_ble_eq_true rfl) (ft_5_0 hr0) (ct_X3_setWant l G (rf r0 0) x1 x2 x3 τ2) rfl rfl (Nat.le_of_ble_eq_true rfl) (Nat.le_of_ble_eq_true rfl) (Nat.le_of_ble_eq_true rfl) rfl dX5_wants_19 (fun a3 τ4 _ => ?_)
  refine Aw.callVi (As := [.int a3]) (rest := []) cv_X5_49 (Nat.le_of_ble_eq_true rfl) hr0 (ct_X5_settled l G r0 a3 τ4) rfl rfl (Nat.le_of_ble_eq_true rfl) (Nat.le_of_ble_eq_true rfl) (Nat.le_of_ble_eq_true rfl) rfl dX5_wants_22 (fun a5 τ6 _ => ?_)
  exact Aw.iret rfl dX5_wants_25
abbrev MX5_joins : Mt := (RX5, cX5_joins, 3, (some .int), 4)
def f_X5_joins (r0 : Nat) (x1 : Int32) (x2 : Int32) (σ : Sg) : Option (Int32 × Sg) := if kd r0 = 5 then (cb (f_X1_prepare (rf r0 1) (rf r0 0) σ) (fun _ τ2 => cb (f_X3_addJoined (rf r0 0) x1 x2 τ2) (fun a3 τ4 => cb (f_X5_settled r0 a3 τ4) (fun a5 τ6 => some (a5, τ6))))) else none
theorem cv_X5_67 : CV RX5 67 3 yX3_addJoined MX3_addJoined 2 := ⟨_, rfl, rfl, ml_X5_67, ins_X3_addJoined, sel_X3_addJoined, ini_X3, cw_X3_addJoined, ⟨by decide, by decide, by decide +kernel⟩⟩
set_option maxRecDepth 100000 in
set_option maxHeartbeats 4000000 in
theorem ct_X5_joins (l : Launch) (G : Gt) (r0 : Nat) (x1 : Int32) (x2 : Int32) (σ : Sg) : Ct l G yX5_joins MX5_joins rI [.ref (Gb G + r0), .int x1, .int x2] σ (f_X5_joins r0 x1 x2 σ) := by
  refine Ct.of (by decide +kernel) rfl (Nat.le_of_ble_eq_true rfl) ?_
  show Aw l G MX5_joins rI 0 [(0, .ref (Gb G + r0)), (1, .int x1), (2, .int x2)] [] σ _
  unfold f_X5_joins
  refine Aw.gd (fun hr0 => ?_)
  refine Aw.aload_n 0 rfl rfl dX5_joins_0 ?_
  refine Aw.getR fl_X5_19 (Nat.le_of_ble_eq_true rfl) rfl hr0 rfl dX5_joins_1 ?_
  refine Aw.aload_n 0 rfl rfl dX5_joins_4 ?_
  refine Aw.getR fl_X5_12 (Nat.le_of_ble_eq_true rfl) rfl hr0 rfl dX5_joins_5 ?_
  refine Aw.callVv (As := [.ref (Gb G + rf r0 0)]) (rest := []) cv_X5_41 (Nat.le_of_ble_eq_true rfl) (ft_5_1 hr0) (ct_X1_prepare l G (rf r0 1) (rf r0 0) σ) rfl rfl (Nat.le_of_ble_eq_true rfl) (Nat.le_of_ble_eq_true rfl) (Nat.le_of_ble_eq_true rfl) rfl dX5_joins_8 (fun a1 τ2 _ => ?_)
  refine Aw.aload_n 0 rfl rfl dX5_joins_11 ?_
  refine Aw.aload_n 0 rfl rfl dX5_joins_12 ?_
  refine Aw.getR fl_X5_12 (Nat.le_of_ble_eq_true rfl) rfl hr0 rfl dX5_joins_13 ?_
  refine Aw.iload_n 1 rfl rfl dX5_joins_16 ?_
  refine Aw.iload_n 2 rfl rfl dX5_joins_17 ?_
  refine Aw.callVi (As := [.int x1, .int x2]) (rest := [.ref (Gb G + r0)]) cv_X5_67 (Nat.le_of_ble_eq_true rfl) (ft_5_0 hr0) (ct_X3_addJoined l G (rf r0 0) x1 x2 τ2) rfl rfl (Nat.le_of_ble_eq_true rfl) (Nat.le_of_ble_eq_true rfl) (Nat.le_of_ble_eq_true rfl) rfl dX5_joins_18 (fun a3 τ4 _ => ?_)
  refine Aw.callVi (As := [.int a3]) (rest := []) cv_X5_49 (Nat.le_of_ble_eq_true rfl) hr0 (ct_X5_settled l G r0 a3 τ4) rfl rfl (Nat.le_of_ble_eq_true rfl) (Nat.le_of_ble_eq_true rfl) (Nat.le_of_ble_eq_true rfl) rfl dX5_joins_21 (fun a5 τ6 _ => ?_)
  exact Aw.iret rfl dX5_joins_24
abbrev MX5_backwards : Mt := (RX5, cX5_backwards, 2, (some .int), 4)
def f_X5_backwards (r0 : Nat) (x1 : Int32) (σ : Sg) : Option (Int32 × Sg) := if kd r0 = 5 then (cb (f_X1_prepare (rf r0 1) (rf r0 0) σ) (fun _ τ2 => cb (f_X3_addTurnedBack (rf r0 0) x1 τ2) (fun a3 τ4 => cb (f_X5_settled r0 a3 τ4) (fun a5 τ6 => some (a5, τ6))))) else none
theorem cv_X5_70 : CV RX5 70 3 yX3_addTurnedBack MX3_addTurnedBack 1 := ⟨_, rfl, rfl, ml_X5_70, ins_X3_addTurnedBack, sel_X3_addTurnedBack, ini_X3, cw_X3_addTurnedBack, ⟨by decide, by decide, by decide +kernel⟩⟩
set_option maxRecDepth 100000 in
set_option maxHeartbeats 4000000 in
theorem ct_X5_backwards (l : Launch) (G : Gt) (r0 : Nat) (x1 : Int32) (σ : Sg) : Ct l G yX5_backwards MX5_backwards rI [.ref (Gb G + r0), .int x1] σ (f_X5_backwards r0 x1 σ) := by
  refine Ct.of (by decide +kernel) rfl (Nat.le_of_ble_eq_true rfl) ?_
  show Aw l G MX5_backwards rI 0 [(0, .ref (Gb G + r0)), (1, .int x1)] [] σ _
  unfold f_X5_backwards
  refine Aw.gd (fun hr0 => ?_)
  refine Aw.aload_n 0 rfl rfl dX5_backwards_0 ?_
  refine Aw.getR fl_X5_19 (Nat.le_of_ble_eq_true rfl) rfl hr0 rfl dX5_backwards_1 ?_
  refine Aw.aload_n 0 rfl rfl dX5_backwards_4 ?_
  refine Aw.getR fl_X5_12 (Nat.le_of_ble_eq_true rfl) rfl hr0 rfl dX5_backwards_5 ?_
  refine Aw.callVv (As := [.ref (Gb G + rf r0 0)]) (rest := []) cv_X5_41 (Nat.le_of_ble_eq_true rfl) (ft_5_1 hr0) (ct_X1_prepare l G (rf r0 1) (rf r0 0) σ) rfl rfl (Nat.le_of_ble_eq_true rfl) (Nat.le_of_ble_eq_true rfl) (Nat.le_of_ble_eq_true rfl) rfl dX5_backwards_8 (fun a1 τ2 _ => ?_)
  refine Aw.aload_n 0 rfl rfl dX5_backwards_11 ?_
  refine Aw.aload_n 0 rfl rfl dX5_backwards_12 ?_
  refine Aw.getR fl_X5_12 (Nat.le_of_ble_eq_true rfl) rfl hr0 rfl dX5_backwards_13 ?_
  refine Aw.iload_n 1 rfl rfl dX5_backwards_16 ?_
  refine Aw.callVi (As := [.int x1]) (rest := [.ref (Gb G + r0)]) cv_X5_70 (Nat.le_of_ble_eq_true rfl) (ft_5_0 hr0) (ct_X3_addTurnedBack l G (rf r0 0) x1 τ2) rfl rfl (Nat.le_of_ble_eq_true rfl) (Nat.le_of_ble_eq_true rfl) (Nat.le_of_ble_eq_true rfl) rfl dX5_backwards_17 (fun a3 τ4 _ => ?_)
  refine Aw.callVi (As := [.int a3]) (rest := []) cv_X5_49 (Nat.le_of_ble_eq_true rfl) hr0 (ct_X5_settled l G r0 a3 τ4) rfl rfl (Nat.le_of_ble_eq_true rfl) (Nat.le_of_ble_eq_true rfl) (Nat.le_of_ble_eq_true rfl) rfl dX5_backwards_20 (fun a5 τ6 _ => ?_)
  exact Aw.iret rfl dX5_backwards_23
abbrev MX5_gives : Mt := (RX5, cX5_gives, 2, (some .int), 4)
def f_X5_gives (r0 : Nat) (x1 : Int32) (σ : Sg) : Option (Int32 × Sg) := if kd r0 = 5 then (cb (f_X1_prepare (rf r0 1) (rf r0 0) σ) (fun _ τ2 => cb (f_X3_give (rf r0 0) x1 τ2) (fun a3 τ4 => cb (f_X5_settled r0 a3 τ4) (fun a5 τ6 => some (a5, τ6))))) else none
theorem cv_X5_73 : CV RX5 73 3 yX3_give MX3_give 1 := ⟨_, rfl, rfl, ml_X5_73, ins_X3_give, sel_X3_give, ini_X3, cw_X3_give, ⟨by decide, by decide, by decide +kernel⟩⟩
set_option maxRecDepth 100000 in
set_option maxHeartbeats 4000000 in
theorem ct_X5_gives (l : Launch) (G : Gt) (r0 : Nat) (x1 : Int32) (σ : Sg) : Ct l G yX5_gives MX5_gives rI [.ref (Gb G + r0), .int x1] σ (f_X5_gives r0 x1 σ) := by
  refine Ct.of (by decide +kernel) rfl (Nat.le_of_ble_eq_true rfl) ?_
  show Aw l G MX5_gives rI 0 [(0, .ref (Gb G + r0)), (1, .int x1)] [] σ _
  unfold f_X5_gives
  refine Aw.gd (fun hr0 => ?_)
  refine Aw.aload_n 0 rfl rfl dX5_gives_0 ?_
  refine Aw.getR fl_X5_19 (Nat.le_of_ble_eq_true rfl) rfl hr0 rfl dX5_gives_1 ?_
  refine Aw.aload_n 0 rfl rfl dX5_gives_4 ?_
  refine Aw.getR fl_X5_12 (Nat.le_of_ble_eq_true rfl) rfl hr0 rfl dX5_gives_5 ?_
  refine Aw.callVv (As := [.ref (Gb G + rf r0 0)]) (rest := []) cv_X5_41 (Nat.le_of_ble_eq_true rfl) (ft_5_1 hr0) (ct_X1_prepare l G (rf r0 1) (rf r0 0) σ) rfl rfl (Nat.le_of_ble_eq_true rfl) (Nat.le_of_ble_eq_true rfl) (Nat.le_of_ble_eq_true rfl) rfl dX5_gives_8 (fun a1 τ2 _ => ?_)
  refine Aw.aload_n 0 rfl rfl dX5_gives_11 ?_
  refine Aw.aload_n 0 rfl rfl dX5_gives_12 ?_
  refine Aw.getR fl_X5_12 (Nat.le_of_ble_eq_true rfl) rfl hr0 rfl dX5_gives_13 ?_
  refine Aw.iload_n 1 rfl rfl dX5_gives_16 ?_
  refine Aw.callVi (As := [.int x1]) (rest := [.ref (Gb G + r0)]) cv_X5_73 (Nat.le_of_ble_eq_true rfl) (ft_5_0 hr0) (ct_X3_give l G (rf r0 0) x1 τ2) rfl rfl (Nat.le_of_ble_eq_true rfl) (Nat.le_of_ble_eq_true rfl) (Nat.le_of_ble_eq_true rfl) rfl dX5_gives_17 (fun a3 τ4 _ => ?_)
  refine Aw.callVi (As := [.int a3]) (rest := []) cv_X5_49 (Nat.le_of_ble_eq_true rfl) hr0 (ct_X5_settled l G r0 a3 τ4) rfl rfl (Nat.le_of_ble_eq_true rfl) (Nat.le_of_ble_eq_true rfl) (Nat.le_of_ble_eq_true rfl) rfl dX5_gives_20 (fun a5 τ6 _ => ?_)
  exact Aw.iret rfl dX5_gives_23
abbrev MX5_home : Mt := (RX5, cX5_home, 1, (some .int), 4)
def f_X5_home (r0 : Nat) (σ : Sg) : Option (Int32 × Sg) := if kd r0 = 5 then (cb (f_X1_prepare (rf r0 1) (rf r0 0) σ) (fun _ τ2 => cb (f_X3_sendHome (rf r0 0) τ2) (fun a3 τ4 => cb (f_X5_settled r0 a3 τ4) (fun a5 τ6 => some (a5, τ6))))) else none
theorem cv_X5_76 : CV RX5 76 3 yX3_sendHome MX3_sendHome 0 := ⟨_, rfl, rfl, ml_X5_76, ins_X3_sendHome, sel_X3_sendHome, ini_X3, cw_X3_sendHome, ⟨by decide, by decide, by decide +kernel⟩⟩
set_option maxRecDepth 100000 in
set_option maxHeartbeats 4000000 in
theorem ct_X5_home (l : Launch) (G : Gt) (r0 : Nat) (σ : Sg) : Ct l G yX5_home MX5_home rI [.ref (Gb G + r0)] σ (f_X5_home r0 σ) := by
  refine Ct.of (by decide +kernel) rfl (Nat.le_of_ble_eq_true rfl) ?_
  show Aw l G MX5_home rI 0 [(0, .ref (Gb G + r0))] [] σ _
  unfold f_X5_home
  refine Aw.gd (fun hr0 => ?_)
  refine Aw.aload_n 0 rfl rfl dX5_home_0 ?_
  refine Aw.getR fl_X5_19 (Nat.le_of_ble_eq_true rfl) rfl hr0 rfl dX5_home_1 ?_
  refine Aw.aload_n 0 rfl rfl dX5_home_4 ?_
  refine Aw.getR fl_X5_12 (Nat.le_of_ble_eq_true rfl) rfl hr0 rfl dX5_home_5 ?_
  refine Aw.callVv (As := [.ref (Gb G + rf r0 0)]) (rest := []) cv_X5_41 (Nat.le_of_ble_eq_true rfl) (ft_5_1 hr0) (ct_X1_prepare l G (rf r0 1) (rf r0 0) σ) rfl rfl (Nat.le_of_ble_eq_true rfl) (Nat.le_of_ble_eq_true rfl) (Nat.le_of_ble_eq_true rfl) rfl dX5_home_8 (fun a1 τ2 _ => ?_)
  refine Aw.aload_n 0 rfl rfl dX5_home_11 ?_
  refine Aw.aload_n 0 rfl rfl dX5_home_12 ?_
  refine Aw.getR fl_X5_12 (Nat.le_of_ble_eq_true rfl) rfl hr0 rfl dX5_home_13 ?_
  refine Aw.callVi (As := []) (rest := [.ref (Gb G + r0)]) cv_X5_76 (Nat.le_of_ble_eq_true rfl) (ft_5_0 hr0) (ct_X3_sendHome l G (rf r0 0) τ2) rfl rfl (Nat.le_of_ble_eq_true rfl) (Nat.le_of_ble_eq_true rfl) (Nat.le_of_ble_eq_true rfl) rfl dX5_home_16 (fun a3 τ4 _ => ?_)
  refine Aw.callVi (As := [.int a3]) (rest := []) cv_X5_49 (Nat.le_of_ble_eq_true rfl) hr0 (ct_X5_settled l G r0 a3 τ4) rfl rfl (Nat.le_of_ble_eq_true rfl) (Nat.le_of_ble_eq_true rfl) (Nat.le_of_ble_eq_true rfl) rfl dX5_home_19 (fun a5 τ6 _ => ?_)
  exact Aw.iret rfl dX5_home_22
abbrev MX5_of : Mt := (RX5, cX5_of, 3, (some .int), 4)
def f_X5_of (r0 : Nat) (x1 : Int32) (x2 : Int32) (σ : Sg) : Option (Int32 × Sg) := if kd r0 = 5 then (cb (f_X3_askDancer (rf r0 0) x1 x2 σ) (fun a1 τ2 => cb (f_X5_noted r0 a1 τ2) (fun a3 τ4 => some (a3, τ4)))) else none
theorem cv_X5_79 : CV RX5 79 3 yX3_askDancer MX3_askDancer 2 := ⟨_, rfl, rfl, ml_X5_79, ins_X3_askDancer, sel_X3_askDancer, ini_X3, cw_X3_askDancer, ⟨by decide, by decide, by decide +kernel⟩⟩
set_option maxRecDepth 100000 in
set_option maxHeartbeats 4000000 in
theorem ct_X5_of (l : Launch) (G : Gt) (r0 : Nat) (x1 : Int32) (x2 : Int32) (σ : Sg) : Ct l G yX5_of MX5_of rI [.ref (Gb G + r0), .int x1, .int x2] σ (f_X5_of r0 x1 x2 σ) := by
  refine Ct.of (by decide +kernel) rfl (Nat.le_of_ble_eq_true rfl) ?_
  show Aw l G MX5_of rI 0 [(0, .ref (Gb G + r0)), (1, .int x1), (2, .int x2)] [] σ _
  unfold f_X5_of
  refine Aw.gd (fun hr0 => ?_)
  refine Aw.aload_n 0 rfl rfl dX5_of_0 ?_
  refine Aw.aload_n 0 rfl rfl dX5_of_1 ?_
  refine Aw.getR fl_X5_12 (Nat.le_of_ble_eq_true rfl) rfl hr0 rfl dX5_of_2 ?_
  refine Aw.iload_n 1 rfl rfl dX5_of_5 ?_
  refine Aw.iload_n 2 rfl rfl dX5_of_6 ?_
  refine Aw.callVi (As := [.int x1, .int x2]) (rest := [.ref (Gb G + r0)]) cv_X5_79 (Nat.le_of_ble_eq_true rfl) (ft_5_0 hr0) (ct_X3_askDancer l G (rf r0 0) x1 x2 σ) rfl rfl (Nat.le_of_ble_eq_true rfl) (Nat.le_of_ble_eq_true rfl) (Nat.le_of_ble_eq_true rfl) rfl dX5_of_7 (fun a1 τ2 _ => ?_)
  refine Aw.callVi (As := [.int a1]) (rest := []) cv_X5_82 (Nat.le_of_ble_eq_true rfl) hr0 (ct_X5_noted l G r0 a1 τ2) rfl rfl (Nat.le_of_ble_eq_true rfl) (Nat.le_of_ble_eq_true rfl) (Nat.le_of_ble_eq_true rfl) rfl dX5_of_10 (fun a3 τ4 _ => ?_)
  exact Aw.iret rfl dX5_of_13
abbrev MX5_on : Mt := (RX5, cX5_on, 2, (some .int), 2)
def f_X5_on_23  (sr0 : Nat) (s1 : Int32) (σ : Sg) : Option (Int32 × Sg) := if kd sr0 = 5 then (cb (f_X5_noted sr0 s1 σ) (fun a1 τ2 => some (a1, τ2))) else none
def f_X5_on (r0 : Nat) (x1 : Int32) (σ : Sg) : Option (Int32 × Sg) := if kd r0 = 5 then (cb (f_X5_isBelow x1 12 σ) (fun a1 τ2 => if a1 = 0 then (f_X5_on_23 r0 ((-2)) τ2) else (cb (f_X3_whoIsOn (rf r0 0) x1 τ2) (fun a3 τ4 => f_X5_on_23 r0 a3 τ4)))) else none
theorem cv_X5_89 : CV RX5 89 3 yX3_whoIsOn MX3_whoIsOn 1 := ⟨_, rfl, rfl, ml_X5_89, ins_X3_whoIsOn, sel_X3_whoIsOn, ini_X3, cw_X3_whoIsOn, ⟨by decide, by decide, by decide +kernel⟩⟩
set_option maxRecDepth 100000 in
set_option maxHeartbeats 4000000 in
theorem aw_X5_on_23 (l : Launch) (G : Gt) (sr0 : Nat) (s1 : Int32) (σ : Sg) : Aw l G MX5_on rI 23 [] [.int s1, .ref (Gb G + sr0)] σ (f_X5_on_23 sr0 s1 σ) := by
  unfold f_X5_on_23
  refine Aw.gd (fun hsr0 => ?_)
  refine Aw.callVi (As := [.int s1]) (rest := []) cv_X5_82 (Nat.le_of_ble_eq_true rfl) hsr0 (ct_X5_noted l G sr0 s1 σ) rfl rfl (Nat.le_of_ble_eq_true rfl) (Nat.le_of_ble_eq_true rfl) (Nat.le_of_ble_eq_true rfl) rfl dX5_on_23 (fun a1 τ2 _ => ?_)
  exact Aw.iret rfl dX5_on_26
set_option maxRecDepth 100000 in
set_option maxHeartbeats 4000000 in
theorem ct_X5_on (l : Launch) (G : Gt) (r0 : Nat) (x1 : Int32) (σ : Sg) : Ct l G yX5_on MX5_on rI [.ref (Gb G + r0), .int x1] σ (f_X5_on r0 x1 σ) := by
  refine Ct.of (by decide +kernel) rfl (Nat.le_of_ble_eq_true rfl) ?_
  show Aw l G MX5_on rI 0 [(0, .ref (Gb G + r0)), (1, .int x1)] [] σ _
  unfold f_X5_on
  refine Aw.gd (fun hr0 => ?_)
  refine Aw.aload_n 0 rfl rfl dX5_on_0 ?_
  refine Aw.iload_n 1 rfl rfl dX5_on_1 ?_
  refine Aw.bipush (v := 12) ib_12 rfl dX5_on_2 ?_
  refine Aw.callSi (As := [.int x1, .int 12]) (rest := [.ref (Gb G + r0)]) cs_X5_85 (ct_X5_isBelow l G x1 12 σ) rfl rfl (Nat.le_of_ble_eq_true rfl) (Nat.le_of_ble_eq_true rfl) (Nat.le_of_ble_eq_true rfl) rfl dX5_on_4 (fun a1 τ2 _ => ?_)
  refine Aw.if_eq (q := 10) (t := 21) rfl (by decide) dX5_on_7 (fun hc => ?_) (fun hc => ?_)
  · refine Aw.bipush (v := (-2)) ib_m2 rfl dX5_on_21 ?_
    refine Aw.sub (L' := []) [] rfl ?_
    exact aw_X5_on_23 l G _ _ _
  · refine Aw.aload_n 0 rfl rfl dX5_on_10 ?_
    refine Aw.getR fl_X5_12 (Nat.le_of_ble_eq_true rfl) rfl hr0 rfl dX5_on_11 ?_
    refine Aw.iload_n 1 rfl rfl dX5_on_14 ?_
    refine Aw.callVi (As := [.int x1]) (rest := [.ref (Gb G + r0)]) cv_X5_89 (Nat.le_of_ble_eq_true rfl) (ft_5_0 hr0) (ct_X3_whoIsOn l G (rf r0 0) x1 τ2) rfl rfl (Nat.le_of_ble_eq_true rfl) (Nat.le_of_ble_eq_true rfl) (Nat.le_of_ble_eq_true rfl) rfl dX5_on_15 (fun a3 τ4 _ => ?_)
    refine Aw.goto (q := 23) (by decide) dX5_on_18 ?_
    refine Aw.sub (L' := []) [] rfl ?_
    exact aw_X5_on_23 l G _ _ _
abbrev MX5_at : Mt := (RX5, cX5_at, 4, (some .int), 4)
def f_X5_at (r0 : Nat) (x1 : Int32) (x2 : Int32) (x3 : Int32) (σ : Sg) : Option (Int32 × Sg) := if kd r0 = 5 then (cb (f_X3_askSpotOfCall (rf r0 0) x1 x2 x3 σ) (fun a1 τ2 => cb (f_X5_noted r0 a1 τ2) (fun a3 τ4 => some (a3, τ4)))) else none
theorem cv_X5_92 : CV RX5 92 3 yX3_askSpotOfCall MX3_askSpotOfCall 3 := ⟨_, rfl, rfl, ml_X5_92, ins_X3_askSpotOfCall, sel_X3_askSpotOfCall, ini_X3, cw_X3_askSpotOfCall, ⟨by decide, by decide, by decide +kernel⟩⟩
set_option maxRecDepth 100000 in
set_option maxHeartbeats 4000000 in
theorem ct_X5_at (l : Launch) (G : Gt) (r0 : Nat) (x1 : Int32) (x2 : Int32) (x3 : Int32) (σ : Sg) : Ct l G yX5_at MX5_at rI [.ref (Gb G + r0), .int x1, .int x2, .int x3] σ (f_X5_at r0 x1 x2 x3 σ) := by
  refine Ct.of (by decide +kernel) rfl (Nat.le_of_ble_eq_true rfl) ?_
  show Aw l G MX5_at rI 0 [(0, .ref (Gb G + r0)), (1, .int x1), (2, .int x2), (3, .int x3)] [] σ _
  unfold f_X5_at
  refine Aw.gd (fun hr0 => ?_)
  refine Aw.aload_n 0 rfl rfl dX5_at_0 ?_
  refine Aw.aload_n 0 rfl rfl dX5_at_1 ?_
  refine Aw.getR fl_X5_12 (Nat.le_of_ble_eq_true rfl) rfl hr0 rfl dX5_at_2 ?_
  refine Aw.iload_n 1 rfl rfl dX5_at_5 ?_
  refine Aw.iload_n 2 rfl rfl dX5_at_6 ?_
  refine Aw.iload_n 3 rfl rfl dX5_at_7 ?_
  refine Aw.callVi (As := [.int x1, .int x2, .int x3]) (rest := [.ref (Gb G + r0)]) cv_X5_92 (Nat.le_of_ble_eq_true rfl) (ft_5_0 hr0) (ct_X3_askSpotOfCall l G (rf r0 0) x1 x2 x3 σ) rfl rfl (Nat.le_of_ble_eq_true rfl) (Nat.le_of_ble_eq_true rfl) (Nat.le_of_ble_eq_true rfl) rfl dX5_at_8 (fun a1 τ2 _ => ?_)
  refine Aw.callVi (As := [.int a1]) (rest := []) cv_X5_82 (Nat.le_of_ble_eq_true rfl) hr0 (ct_X5_noted l G r0 a1 τ2) rfl rfl (Nat.le_of_ble_eq_true rfl) (Nat.le_of_ble_eq_true rfl) (Nat.le_of_ble_eq_true rfl) rfl dX5_at_11 (fun a3 τ4 _ => ?_)
  exact Aw.iret rfl dX5_at_14
abbrev MX5_tells : Mt := (RX5, cX5_tells, 3, (some .int), 4)
def f_X5_tells (r0 : Nat) (x1 : Int32) (x2 : Int32) (σ : Sg) : Option (Int32 × Sg) := if kd r0 = 5 then (cb (f_X3_askCall (rf r0 0) x1 x2 σ) (fun a1 τ2 => cb (f_X5_noted r0 a1 τ2) (fun a3 τ4 => some (a3, τ4)))) else none
theorem cv_X5_95 : CV RX5 95 3 yX3_askCall MX3_askCall 2 := ⟨_, rfl, rfl, ml_X5_95, ins_X3_askCall, sel_X3_askCall, ini_X3, cw_X3_askCall, ⟨by decide, by decide, by decide +kernel⟩⟩
set_option maxRecDepth 100000 in
set_option maxHeartbeats 4000000 in
theorem ct_X5_tells (l : Launch) (G : Gt) (r0 : Nat) (x1 : Int32) (x2 : Int32) (σ : Sg) : Ct l G yX5_tells MX5_tells rI [.ref (Gb G + r0), .int x1, .int x2] σ (f_X5_tells r0 x1 x2 σ) := by
  refine Ct.of (by decide +kernel) rfl (Nat.le_of_ble_eq_true rfl) ?_
  show Aw l G MX5_tells rI 0 [(0, .ref (Gb G + r0)), (1, .int x1), (2, .int x2)] [] σ _
  unfold f_X5_tells
  refine Aw.gd (fun hr0 => ?_)
  refine Aw.aload_n 0 rfl rfl dX5_tells_0 ?_
  refine Aw.aload_n 0 rfl rfl dX5_tells_1 ?_
  refine Aw.getR fl_X5_12 (Nat.le_of_ble_eq_true rfl) rfl hr0 rfl dX5_tells_2 ?_
  refine Aw.iload_n 1 rfl rfl dX5_tells_5 ?_
  refine Aw.iload_n 2 rfl rfl dX5_tells_6 ?_
  refine Aw.callVi (As := [.int x1, .int x2]) (rest := [.ref (Gb G + r0)]) cv_X5_95 (Nat.le_of_ble_eq_true rfl) (ft_5_0 hr0) (ct_X3_askCall l G (rf r0 0) x1 x2 σ) rfl rfl (Nat.le_of_ble_eq_true rfl) (Nat.le_of_ble_eq_true rfl) (Nat.le_of_ble_eq_true rfl) rfl dX5_tells_7 (fun a1 τ2 _ => ?_)
  refine Aw.callVi (As := [.int a1]) (rest := []) cv_X5_82 (Nat.le_of_ble_eq_true rfl) hr0 (ct_X5_noted l G r0 a1 τ2) rfl rfl (Nat.le_of_ble_eq_true rfl) (Nat.le_of_ble_eq_true rfl) (Nat.le_of_ble_eq_true rfl) rfl dX5_tells_10 (fun a3 τ4 _ => ?_)
  exact Aw.iret rfl dX5_tells_13
abbrev MX5_finds : Mt := (RX5, cX5_finds, 4, (some .int), 13)
def f_X5_finds_29  (sr0 : Nat) (s1 : Int32) (σ : Sg) : Option (Int32 × Sg) := if kd sr0 = 5 then (cb (f_X5_noted sr0 s1 σ) (fun a1 τ2 => some (a1, τ2))) else none
def f_X5_finds (r0 : Nat) (x1 : Int32) (x2 : Int32) (x3 : Int32) (σ : Sg) : Option (Int32 × Sg) := if kd r0 = 5 then (cb (f_X5_isSearch x1 x2 x3 σ) (fun a1 τ2 => if a1 = 0 then (f_X5_finds_29 r0 ((-2)) τ2) else (cb (f_X2_shortest (rf r0 3) (rf r0 0) x1 x2 x3 τ2) (fun a3 τ4 => f_X5_finds_29 r0 a3 τ4)))) else none
theorem cs_X5_98 : CS RX5 98 yX5_isSearch MX5_isSearch 3 := ⟨ml_X5_98, sta_X5_isSearch, ini_X5, cw_X5_isSearch, ⟨by decide, by decide, by decide +kernel⟩⟩
theorem cv_X5_102 : CV RX5 102 2 yX2_shortest MX2_shortest 4 := ⟨_, rfl, rfl, ml_X5_102, ins_X2_shortest, sel_X2_shortest, ini_X2, cw_X2_shortest, ⟨by decide, by decide, by decide +kernel⟩⟩
set_option maxRecDepth 100000 in
set_option maxHeartbeats 4000000 in
theorem aw_X5_finds_29 (l : Launch) (G : Gt) (sr0 : Nat) (s1 : Int32) (σ : Sg) : Aw l G MX5_finds rI 29 [] [.int s1, .ref (Gb G + sr0)] σ (f_X5_finds_29 sr0 s1 σ) := by
  unfold f_X5_finds_29
  refine Aw.gd (fun hsr0 => ?_)
  refine Aw.callVi (As := [.int s1]) (rest := []) cv_X5_82 (Nat.le_of_ble_eq_true rfl) hsr0 (ct_X5_noted l G sr0 s1 σ) rfl rfl (Nat.le_of_ble_eq_true rfl) (Nat.le_of_ble_eq_true rfl) (Nat.le_of_ble_eq_true rfl) rfl dX5_finds_29 (fun a1 τ2 _ => ?_)
  exact Aw.iret rfl dX5_finds_32
set_option maxRecDepth 100000 in
set_option maxHeartbeats 4000000 in
theorem ct_X5_finds (l : Launch) (G : Gt) (r0 : Nat) (x1 : Int32) (x2 : Int32) (x3 : Int32) (σ : Sg) : Ct l G yX5_finds MX5_finds rI [.ref (Gb G + r0), .int x1, .int x2, .int x3] σ (f_X5_finds r0 x1 x2 x3 σ) := by
  refine Ct.of (by decide +kernel) rfl (Nat.le_of_ble_eq_true rfl) ?_
  show Aw l G MX5_finds rI 0 [(0, .ref (Gb G + r0)), (1, .int x1), (2, .int x2), (3, .int x3)] [] σ _
  unfold f_X5_finds
  refine Aw.gd (fun hr0 => ?_)
  refine Aw.aload_n 0 rfl rfl dX5_finds_0 ?_
  refine Aw.iload_n 1 rfl rfl dX5_finds_1 ?_
  refine Aw.iload_n 2 rfl rfl dX5_finds_2 ?_
  refine Aw.iload_n 3 rfl rfl dX5_finds_3 ?_
  refine Aw.callSi (As := [.int x1, .int x2, .int x3]) (rest := [.ref (Gb G + r0)]) cs_X5_98 (ct_X5_isSearch l G x1 x2 x3 σ) rfl rfl (Nat.le_of_ble_eq_true rfl) (Nat.le_of_ble_eq_true rfl) (Nat.le_of_ble_eq_true rfl) rfl dX5_finds_4 (fun a1 τ2 _ => ?_)
  refine Aw.if_eq (q := 10) (t := 27) rfl (by decide) dX5_finds_7 (fun hc => ?_) (fun hc => ?_)
  · refine Aw.bipush (v := (-2)) ib_m2 rfl dX5_finds_27 ?_
    refine Aw.sub (L' := []) [] rfl ?_
    exact aw_X5_finds_29 l G _ _ _
  · refine Aw.aload_n 0 rfl rfl dX5_finds_10 ?_
    refine Aw.getR fl_X5_33 (Nat.le_of_ble_eq_true rfl) rfl hr0 rfl dX5_finds_11 ?_
    refine Aw.aload_n 0 rfl rfl dX5_finds_14 ?_
    refine Aw.getR fl_X5_12 (Nat.le_of_ble_eq_true rfl) rfl hr0 rfl dX5_finds_15 ?_
    refine Aw.iload_n 1 rfl rfl dX5_finds_18 ?_
    refine Aw.iload_n 2 rfl rfl dX5_finds_19 ?_
    refine Aw.iload_n 3 rfl rfl dX5_finds_20 ?_
    refine Aw.callVi (As := [.ref (Gb G + rf r0 0), .int x1, .int x2, .int x3]) (rest := [.ref (Gb G + r0)]) cv_X5_102 (Nat.le_of_ble_eq_true rfl) (ft_5_3 hr0) (ct_X2_shortest l G (rf r0 3) (rf r0 0) x1 x2 x3 τ2) rfl rfl (Nat.le_of_ble_eq_true rfl) (Nat.le_of_ble_eq_true rfl) (Nat.le_of_ble_eq_true rfl) rfl dX5_finds_21 (fun a3 τ4 _ => ?_)
    refine Aw.goto (q := 29) (by decide) dX5_finds_24 ?_
    refine Aw.sub (L' := []) [] rfl ?_
    exact aw_X5_finds_29 l G _ _ _
abbrev MX5_found : Mt := (RX5, cX5_found, 5, (some .int), 13)
def f_X5_found_14  (r0 : Nat) (σ : Sg) : Option (Int32 × Sg) := if kd r0 = 5 then (cb (f_X5_noted r0 ((-2)) σ) (fun a1 τ2 => some (a1, τ2))) else none
def f_X5_found (r0 : Nat) (x1 : Int32) (x2 : Int32) (x3 : Int32) (x4 : Int32) (σ : Sg) : Option (Int32 × Sg) := if kd r0 = 5 then (cb (f_X5_isSearch x1 x2 x3 σ) (fun a1 τ2 => if a1 = 0 then (f_X5_found_14 r0 τ2) else (if 0 ≤ x4 then (cb (f_X2_shortest (rf r0 3) (rf r0 0) x1 x2 x3 τ2) (fun a3 τ4 => if a3 ≤ x4 then (some ((-1), τ4)) else (cb (f_X2_callOfRow (rf r0 3) x4 τ4) (fun a5 τ6 => some (a5, τ6))))) else (f_X5_found_14 r0 τ2)))) else none
theorem cv_X5_106 : CV RX5 106 2 yX2_callOfRow MX2_callOfRow 1 := ⟨_, rfl, rfl, ml_X5_106, ins_X2_callOfRow, sel_X2_callOfRow, ini_X2, cw_X2_callOfRow, ⟨by decide, by decide, by decide +kernel⟩⟩
set_option maxRecDepth 100000 in
set_option maxHeartbeats 4000000 in
theorem aw_X5_found_14 (l : Launch) (G : Gt) (r0 : Nat) (σ : Sg) : Aw l G MX5_found rI 14 [(0, .ref (Gb G + r0))] [] σ (f_X5_found_14 r0 σ) := by
  unfold f_X5_found_14
  refine Aw.gd (fun hr0 => ?_)
  refine Aw.aload_n 0 rfl rfl dX5_found_14 ?_
  refine Aw.bipush (v := (-2)) ib_m2 rfl dX5_found_15 ?_
  refine Aw.callVi (As := [.int ((-2))]) (rest := []) cv_X5_82 (Nat.le_of_ble_eq_true rfl) hr0 (ct_X5_noted l G r0 ((-2)) σ) rfl rfl (Nat.le_of_ble_eq_true rfl) (Nat.le_of_ble_eq_true rfl) (Nat.le_of_ble_eq_true rfl) rfl dX5_found_17 (fun a1 τ2 _ => ?_)
  exact Aw.iret rfl dX5_found_20
set_option maxRecDepth 100000 in
set_option maxHeartbeats 4000000 in
theorem ct_X5_found (l : Launch) (G : Gt) (r0 : Nat) (x1 : Int32) (x2 : Int32) (x3 : Int32) (x4 : Int32) (σ : Sg) : Ct l G yX5_found MX5_found rI [.ref (Gb G + r0), .int x1, .int x2, .int x3, .int x4] σ (f_X5_found r0 x1 x2 x3 x4 σ) := by
  refine Ct.of (by decide +kernel) rfl (Nat.le_of_ble_eq_true rfl) ?_
  show Aw l G MX5_found rI 0 [(0, .ref (Gb G + r0)), (1, .int x1), (2, .int x2), (3, .int x3), (4, .int x4)] [] σ _
  unfold f_X5_found
  refine Aw.gd (fun hr0 => ?_)
  refine Aw.iload_n 1 rfl rfl dX5_found_0 ?_
  refine Aw.iload_n 2 rfl rfl dX5_found_1 ?_
  refine Aw.iload_n 3 rfl rfl dX5_found_2 ?_
  refine Aw.callSi (As := [.int x1, .int x2, .int x3]) (rest := []) cs_X5_98 (ct_X5_isSearch l G x1 x2 x3 σ) rfl rfl (Nat.le_of_ble_eq_true rfl) (Nat.le_of_ble_eq_true rfl) (Nat.le_of_ble_eq_true rfl) rfl dX5_found_3 (fun a1 τ2 _ => ?_)
  refine Aw.if_eq (q := 9) (t := 14) rfl (by decide) dX5_found_6 (fun hc => ?_) (fun hc => ?_)
  · refine Aw.sub (L' := [(0, .ref (Gb G + r0))]) [0] rfl ?_
    exact aw_X5_found_14 l G _ _
  · refine Aw.iload 4 rfl rfl dX5_found_9 ?_
    refine Aw.if_ge (q := 14) (t := 21) rfl (by decide) dX5_found_11 (fun hc => ?_) (fun hc => ?_)
    · refine Aw.iload 4 rfl rfl dX5_found_21 ?_
      refine Aw.aload_n 0 rfl rfl dX5_found_23 ?_
      refine Aw.getR fl_X5_33 (Nat.le_of_ble_eq_true rfl) rfl hr0 rfl dX5_found_24 ?_
      refine Aw.aload_n 0 rfl rfl dX5_found_27 ?_
      refine Aw.getR fl_X5_12 (Nat.le_of_ble_eq_true rfl) rfl hr0 rfl dX5_found_28 ?_
      refine Aw.iload_n 1 rfl rfl dX5_found_31 ?_
      refine Aw.iload_n 2 rfl rfl dX5_found_32 ?_
      refine Aw.iload_n 3 rfl rfl dX5_found_33 ?_
      refine Aw.callVi (As := [.ref (Gb G + rf r0 0), .int x1, .int x2, .int x3]) (rest := [.int x4]) cv_X5_102 (Nat.le_of_ble_eq_true rfl) (ft_5_3 hr0) (ct_X2_shortest l G (rf r0 3) (rf r0 0) x1 x2 x3 τ2) rfl rfl (Nat.le_of_ble_eq_true rfl) (Nat.le_of_ble_eq_true rfl) (Nat.le_of_ble_eq_true rfl) rfl dX5_found_34 (fun a3 τ4 _ => ?_)
      refine Aw.icmp_ge (q := 40) (t := 52) rfl (by decide) dX5_found_37 (fun hc => ?_) (fun hc => ?_)
      · refine Aw.iconst (v := (-1)) ic_m1 rfl dX5_found_52 ?_
        exact Aw.iret rfl dX5_found_53
      · refine Aw.aload_n 0 rfl rfl dX5_found_40 ?_
        refine Aw.getR fl_X5_33 (Nat.le_of_ble_eq_true rfl) rfl hr0 rfl dX5_found_41 ?_
        refine Aw.iload 4 rfl rfl dX5_found_44 ?_
        refine Aw.callVi (As := [.int x4]) (rest := []) cv_X5_106 (Nat.le_of_ble_eq_true rfl) (ft_5_3 hr0) (ct_X2_callOfRow l G (rf r0 3) x4 τ4) rfl rfl (Nat.le_of_ble_eq_true rfl) (Nat.le_of_ble_eq_true rfl) (Nat.le_of_ble_eq_true rfl) rfl dX5_found_46 (fun a5 τ6 _ => ?_)
        refine Aw.goto (q := 53) (by decide) dX5_found_49 ?_
        exact Aw.iret rfl dX5_found_53
    · refine Aw.sub (L' := [(0, .ref (Gb G + r0))]) [0] rfl ?_
      exact aw_X5_found_14 l G _ _
abbrev MX5_rows : Mt := (RX5, cX5_rows, 4, (some .int), 13)
def f_X5_rows_45  (sr0 : Nat) (s1 : Int32) (σ : Sg) : Option (Int32 × Sg) := if kd sr0 = 5 then (cb (f_X5_noted sr0 s1 σ) (fun a1 τ2 => some (a1, τ2))) else none
def f_X5_rows_21  (r0 : Nat) (x1 : Int32) (x2 : Int32) (s0 : Int32) (σ : Sg) : Option (Int32 × Sg) := if kd r0 = 5 then (if s0 = 0 then (f_X5_rows_45 r0 ((-2)) σ) else (cb (f_X2_howMany (rf r0 3) (rf r0 0) x1 x2 σ) (fun a1 τ2 => f_X5_rows_45 r0 a1 τ2))) else none
def f_X5_rows_20  (r0 : Nat) (x1 : Int32) (x2 : Int32) (σ : Sg) : Option (Int32 × Sg) := if kd r0 = 5 then (f_X5_rows_21 r0 x1 x2 0 σ) else none
def f_X5_rows (r0 : Nat) (x1 : Int32) (x2 : Int32) (σ : Sg) : Option (Int32 × Sg) := if kd r0 = 5 then (cb (f_X5_isBelow x1 3 σ) (fun a1 τ2 => if a1 = 0 then (f_X5_rows_20 r0 x1 x2 τ2) else (cb (f_X5_isBelow x2 5 τ2) (fun a3 τ4 => if a3 = 0 then (f_X5_rows_20 r0 x1 x2 τ4) else (f_X5_rows_21 r0 x1 x2 1 τ4))))) else none
theorem cv_X5_109 : CV RX5 109 2 yX2_howMany MX2_howMany 3 := ⟨_, rfl, rfl, ml_X5_109, ins_X2_howMany, sel_X2_howMany, ini_X2, cw_X2_howMany, ⟨by decide, by decide, by decide +kernel⟩⟩
set_option maxRecDepth 100000 in
set_option maxHeartbeats 4000000 in
theorem aw_X5_rows_45 (l : Launch) (G : Gt) (sr0 : Nat) (s1 : Int32) (σ : Sg) : Aw l G MX5_rows rI 45 [] [.int s1, .ref (Gb G + sr0)] σ (f_X5_rows_45 sr0 s1 σ) := by
  unfold f_X5_rows_45
  refine Aw.gd (fun hsr0 => ?_)
  refine Aw.callVi (As := [.int s1]) (rest := []) cv_X5_82 (Nat.le_of_ble_eq_true rfl) hsr0 (ct_X5_noted l G sr0 s1 σ) rfl rfl (Nat.le_of_ble_eq_true rfl) (Nat.le_of_ble_eq_true rfl) (Nat.le_of_ble_eq_true rfl) rfl dX5_rows_45 (fun a1 τ2 _ => ?_)
  exact Aw.iret rfl dX5_rows_48
set_option maxRecDepth 100000 in
set_option maxHeartbeats 4000000 in
theorem aw_X5_rows_21 (l : Launch) (G : Gt) (r0 : Nat) (x1 : Int32) (x2 : Int32) (s0 : Int32) (σ : Sg) : Aw l G MX5_rows rI 21 [(0, .ref (Gb G + r0)), (1, .int x1), (2, .int x2)] [.int s0] σ (f_X5_rows_21 r0 x1 x2 s0 σ) := by
  unfold f_X5_rows_21
  refine Aw.gd (fun hr0 => ?_)
  refine Aw.istore_n (L' := [(3, .int s0), (0, .ref (Gb G + r0)), (1, .int x1), (2, .int x2)]) (Nat.le_of_ble_eq_true rfl) rfl rfl dX5_rows_21 ?_
  refine Aw.aload_n 1 rfl rfl dX5_rows_22 ?_
  refine Aw.iload_n 0 rfl rfl dX5_rows_23 ?_
  refine Aw.if_eq (q := 27) (t := 43) rfl (by decide) dX5_rows_24 (fun hc => ?_) (fun hc => ?_)
  · refine Aw.bipush (v := (-2)) ib_m2 rfl dX5_rows_43 ?_
    refine Aw.sub (L' := []) [] rfl ?_
    exact aw_X5_rows_45 l G _ _ _
  · refine Aw.aload_n 1 rfl rfl dX5_rows_27 ?_
    refine Aw.getR fl_X5_33 (Nat.le_of_ble_eq_true rfl) rfl hr0 rfl dX5_rows_28 ?_
    refine Aw.aload_n 1 rfl rfl dX5_rows_31 ?_
    refine Aw.getR fl_X5_12 (Nat.le_of_ble_eq_true rfl) rfl hr0 rfl dX5_rows_32 ?_
    refine Aw.iload_n 2 rfl rfl dX5_rows_35 ?_
    refine Aw.iload_n 3 rfl rfl dX5_rows_36 ?_
    refine Aw.callVi (As := [.ref (Gb G + rf r0 0), .int x1, .int x2]) (rest := [.ref (Gb G + r0)]) cv_X5_109 (Nat.le_of_ble_eq_true rfl) (ft_5_3 hr0) (ct_X2_howMany l G (rf r0 3) (rf r0 0) x1 x2 σ) rfl rfl (Nat.le_of_ble_eq_true rfl) (Nat.le_of_ble_eq_true rfl) (Nat.le_of_ble_eq_true rfl) rfl dX5_rows_37 (fun a1 τ2 _ => ?_)
    refine Aw.goto (q := 45) (by decide) dX5_rows_40 ?_
    refine Aw.sub (L' := []) [] rfl ?_
    exact aw_X5_rows_45 l G _ _ _
set_option maxRecDepth 100000 in
set_option maxHeartbeats 4000000 in
theorem aw_X5_rows_20 (l : Launch) (G : Gt) (r0 : Nat) (x1 : Int32) (x2 : Int32) (σ : Sg) : Aw l G MX5_rows rI 20 [(0, .ref (Gb G + r0)), (1, .int x1), (2, .int x2)] [] σ (f_X5_rows_20 r0 x1 x2 σ) := by
  unfold f_X5_rows_20
  refine Aw.gd (fun hr0 => ?_)
  refine Aw.iconst (v := 0) ic_0 rfl dX5_rows_20 ?_
  refine Aw.sub (L' := [(0, .ref (Gb G + r0)), (1, .int x1), (2, .int x2)]) [0, 1, 2] rfl ?_
  exact aw_X5_rows_21 l G _ _ _ _ _
set_option maxRecDepth 100000 in
set_option maxHeartbeats 4000000 in
theorem ct_X5_rows (l : Launch) (G : Gt) (r0 : Nat) (x1 : Int32) (x2 : Int32) (σ : Sg) : Ct l G yX5_rows MX5_rows rI [.ref (Gb G + r0), .int x1, .int x2] σ (f_X5_rows r0 x1 x2 σ) := by
  refine Ct.of (by decide +kernel) rfl (Nat.le_of_ble_eq_true rfl) ?_
  show Aw l G MX5_rows rI 0 [(0, .ref (Gb G + r0)), (1, .int x1), (2, .int x2)] [] σ _
  unfold f_X5_rows
  refine Aw.gd (fun hr0 => ?_)
  refine Aw.iload_n 1 rfl rfl dX5_rows_0 ?_
  refine Aw.iconst (v := 3) ic_3 rfl dX5_rows_1 ?_
  refine Aw.callSi (As := [.int x1, .int 3]) (rest := []) cs_X5_85 (ct_X5_isBelow l G x1 3 σ) rfl rfl (Nat.le_of_ble_eq_true rfl) (Nat.le_of_ble_eq_true rfl) (Nat.le_of_ble_eq_true rfl) rfl dX5_rows_2 (fun a1 τ2 _ => ?_)
  refine Aw.if_eq (q := 8) (t := 20) rfl (by decide) dX5_rows_5 (fun hc => ?_) (fun hc => ?_)
  · refine Aw.sub (L' := [(0, .ref (Gb G + r0)), (1, .int x1), (2, .int x2)]) [0, 1, 2] rfl ?_
    exact aw_X5_rows_20 l G _ _ _ _
  · refine Aw.iload_n 2 rfl rfl dX5_rows_8 ?_
    refine Aw.iconst (v := 5) ic_5 rfl dX5_rows_9 ?_
    refine Aw.callSi (As := [.int x2, .int 5]) (rest := []) cs_X5_85 (ct_X5_isBelow l G x2 5 τ2) rfl rfl (Nat.le_of_ble_eq_true rfl) (Nat.le_of_ble_eq_true rfl) (Nat.le_of_ble_eq_true rfl) rfl dX5_rows_10 (fun a3 τ4 _ => ?_)
    refine Aw.if_eq (q := 16) (t := 20) rfl (by decide) dX5_rows_13 (fun hc => ?_) (fun hc => ?_)
    · refine Aw.sub (L' := [(0, .ref (Gb G + r0)), (1, .int x1), (2, .int x2)]) [0, 1, 2] rfl ?_
      exact aw_X5_rows_20 l G _ _ _ _
    · refine Aw.iconst (v := 1) ic_1 rfl dX5_rows_16 ?_
      refine Aw.goto (q := 21) (by decide) dX5_rows_17 ?_
      refine Aw.sub (L' := [(0, .ref (Gb G + r0)), (1, .int x1), (2, .int x2)]) [0, 1, 2] rfl ?_
      exact aw_X5_rows_21 l G _ _ _ _ _
abbrev MX5_plans : Mt := (RX5, cX5_plans, 2, (some .int), 4)
def f_X5_plans (r0 : Nat) (x1 : Int32) (σ : Sg) : Option (Int32 × Sg) := if kd r0 = 5 then (cb (f_X1_prepare (rf r0 1) (rf r0 0) σ) (fun _ τ2 => cb (f_X3_addToPlan (rf r0 0) x1 τ2) (fun a3 τ4 => cb (f_X5_settled r0 a3 τ4) (fun a5 τ6 => some (a5, τ6))))) else none
theorem cv_X5_113 : CV RX5 113 3 yX3_addToPlan MX3_addToPlan 1 := ⟨_, rfl, rfl, ml_X5_113, ins_X3_addToPlan, sel_X3_addToPlan, ini_X3, cw_X3_addToPlan, ⟨by decide, by decide, by decide +kernel⟩⟩
set_option maxRecDepth 100000 in
set_option maxHeartbeats 4000000 in
theorem ct_X5_plans (l : Launch) (G : Gt) (r0 : Nat) (x1 : Int32) (σ : Sg) : Ct l G yX5_plans MX5_plans rI [.ref (Gb G + r0), .int x1] σ (f_X5_plans r0 x1 σ) := by
  refine Ct.of (by decide +kernel) rfl (Nat.le_of_ble_eq_true rfl) ?_
  show Aw l G MX5_plans rI 0 [(0, .ref (Gb G + r0)), (1, .int x1)] [] σ _
  unfold f_X5_plans
  refine Aw.gd (fun hr0 => ?_)
  refine Aw.aload_n 0 rfl rfl dX5_plans_0 ?_
  refine Aw.getR fl_X5_19 (Nat.le_of_ble_eq_true rfl) rfl hr0 rfl dX5_plans_1 ?_
  refine Aw.aload_n 0 rfl rfl dX5_plans_4 ?_
  refine Aw.getR fl_X5_12 (Nat.le_of_ble_eq_true rfl) rfl hr0 rfl dX5_plans_5 ?_
  refine Aw.callVv (As := [.ref (Gb G + rf r0 0)]) (rest := []) cv_X5_41 (Nat.le_of_ble_eq_true rfl) (ft_5_1 hr0) (ct_X1_prepare l G (rf r0 1) (rf r0 0) σ) rfl rfl (Nat.le_of_ble_eq_true rfl) (Nat.le_of_ble_eq_true rfl) (Nat.le_of_ble_eq_true rfl) rfl dX5_plans_8 (fun a1 τ2 _ => ?_)
  refine Aw.aload_n 0 rfl rfl dX5_plans_11 ?_
  refine Aw.aload_n 0 rfl rfl dX5_plans_12 ?_
  refine Aw.getR fl_X5_12 (Nat.le_of_ble_eq_true rfl) rfl hr0 rfl dX5_plans_13 ?_
  refine Aw.iload_n 1 rfl rfl dX5_plans_16 ?_
  refine Aw.callVi (As := [.int x1]) (rest := [.ref (Gb G + r0)]) cv_X5_113 (Nat.le_of_ble_eq_true rfl) (ft_5_0 hr0) (ct_X3_addToPlan l G (rf r0 0) x1 τ2) rfl rfl (Nat.le_of_ble_eq_true rfl) (Nat.le_of_ble_eq_true rfl) (Nat.le_of_ble_eq_true rfl) rfl dX5_plans_17 (fun a3 τ4 _ => ?_)
  refine Aw.callVi (As := [.int a3]) (rest := []) cv_X5_49 (Nat.le_of_ble_eq_true rfl) hr0 (ct_X5_settled l G r0 a3 τ4) rfl rfl (Nat.le_of_ble_eq_true rfl) (Nat.le_of_ble_eq_true rfl) (Nat.le_of_ble_eq_true rfl) rfl dX5_plans_20 (fun a5 τ6 _ => ?_)
  exact Aw.iret rfl dX5_plans_23
abbrev MX5_scraps : Mt := (RX5, cX5_scraps, 1, (some .int), 4)
def f_X5_scraps (r0 : Nat) (σ : Sg) : Option (Int32 × Sg) := if kd r0 = 5 then (cb (f_X1_prepare (rf r0 1) (rf r0 0) σ) (fun _ τ2 => cb (f_X3_emptyPlan (rf r0 0) τ2) (fun a3 τ4 => cb (f_X5_settled r0 a3 τ4) (fun a5 τ6 => some (a5, τ6))))) else none
theorem cv_X5_116 : CV RX5 116 3 yX3_emptyPlan MX3_emptyPlan 0 := ⟨_, rfl, rfl, ml_X5_116, ins_X3_emptyPlan, sel_X3_emptyPlan, ini_X3, cw_X3_emptyPlan, ⟨by decide, by decide, by decide +kernel⟩⟩
set_option maxRecDepth 100000 in
set_option maxHeartbeats 4000000 in
theorem ct_X5_scraps (l : Launch) (G : Gt) (r0 : Nat) (σ : Sg) : Ct l G yX5_scraps MX5_scraps rI [.ref (Gb G + r0)] σ (f_X5_scraps r0 σ) := by
  refine Ct.of (by decide +kernel) rfl (Nat.le_of_ble_eq_true rfl) ?_
  show Aw l G MX5_scraps rI 0 [(0, .ref (Gb G + r0))] [] σ _
  unfold f_X5_scraps
  refine Aw.gd (fun hr0 => ?_)
  refine Aw.aload_n 0 rfl rfl dX5_scraps_0 ?_
  refine Aw.getR fl_X5_19 (Nat.le_of_ble_eq_true rfl) rfl hr0 rfl dX5_scraps_1 ?_
  refine Aw.aload_n 0 rfl rfl dX5_scraps_4 ?_
  refine Aw.getR fl_X5_12 (Nat.le_of_ble_eq_true rfl) rfl hr0 rfl dX5_scraps_5 ?_
  refine Aw.callVv (As := [.ref (Gb G + rf r0 0)]) (rest := []) cv_X5_41 (Nat.le_of_ble_eq_true rfl) (ft_5_1 hr0) (ct_X1_prepare l G (rf r0 1) (rf r0 0) σ) rfl rfl (Nat.le_of_ble_eq_true rfl) (Nat.le_of_ble_eq_true rfl) (Nat.le_of_ble_eq_true rfl) rfl dX5_scraps_8 (fun a1 τ2 _ => ?_)
  refine Aw.aload_n 0 rfl rfl dX5_scraps_11 ?_
  refine Aw.aload_n 0 rfl rfl dX5_scraps_12 ?_
  refine Aw.getR fl_X5_12 (Nat.le_of_ble_eq_true rfl) rfl hr0 rfl dX5_scraps_13 ?_
  refine Aw.callVi (As := []) (rest := [.ref (Gb G + r0)]) cv_X5_116 (Nat.le_of_ble_eq_true rfl) (ft_5_0 hr0) (ct_X3_emptyPlan l G (rf r0 0) τ2) rfl rfl (Nat.le_of_ble_eq_true rfl) (Nat.le_of_ble_eq_true rfl) (Nat.le_of_ble_eq_true rfl) rfl dX5_scraps_16 (fun a3 τ4 _ => ?_)
  refine Aw.callVi (As := [.int a3]) (rest := []) cv_X5_49 (Nat.le_of_ble_eq_true rfl) hr0 (ct_X5_settled l G r0 a3 τ4) rfl rfl (Nat.le_of_ble_eq_true rfl) (Nat.le_of_ble_eq_true rfl) (Nat.le_of_ble_eq_true rfl) rfl dX5_scraps_19 (fun a5 τ6 _ => ?_)
  exact Aw.iret rfl dX5_scraps_22
abbrev MX5_judges : Mt := (RX5, cX5_judges, 1, (some .int), 4)
def f_X5_judges (r0 : Nat) (σ : Sg) : Option (Int32 × Sg) := if kd r0 = 5 then (cb (f_X3_followPlan (rf r0 0) σ) (fun a1 τ2 => some (a1, τ2))) else none
theorem cv_X5_119 : CV RX5 119 3 yX3_followPlan MX3_followPlan 0 := ⟨_, rfl, rfl, ml_X5_119, ins_X3_followPlan, sel_X3_followPlan, ini_X3, cw_X3_followPlan, ⟨by decide, by decide, by decide +kernel⟩⟩
set_option maxRecDepth 100000 in
set_option maxHeartbeats 4000000 in
theorem ct_X5_judges (l : Launch) (G : Gt) (r0 : Nat) (σ : Sg) : Ct l G yX5_judges MX5_judges rI [.ref (Gb G + r0)] σ (f_X5_judges r0 σ) := by
  refine Ct.of (by decide +kernel) rfl (Nat.le_of_ble_eq_true rfl) ?_
  show Aw l G MX5_judges rI 0 [(0, .ref (Gb G + r0))] [] σ _
  unfold f_X5_judges
  refine Aw.gd (fun hr0 => ?_)
  refine Aw.aload_n 0 rfl rfl dX5_judges_0 ?_
  refine Aw.getR fl_X5_12 (Nat.le_of_ble_eq_true rfl) rfl hr0 rfl dX5_judges_1 ?_
  refine Aw.callVi (As := []) (rest := []) cv_X5_119 (Nat.le_of_ble_eq_true rfl) (ft_5_0 hr0) (ct_X3_followPlan l G (rf r0 0) σ) rfl rfl (Nat.le_of_ble_eq_true rfl) (Nat.le_of_ble_eq_true rfl) (Nat.le_of_ble_eq_true rfl) rfl dX5_judges_4 (fun a1 τ2 _ => ?_)
  exact Aw.iret rfl dX5_judges_7
abbrev MX5_planned : Mt := (RX5, cX5_planned, 3, (some .int), 5)
def f_X5_planned (r0 : Nat) (x1 : Int32) (x2 : Int32) (σ : Sg) : Option (Int32 × Sg) := if kd r0 = 5 then (cb (f_X3_askPlanned (rf r0 0) x1 x2 σ) (fun a1 τ2 => cb (f_X5_noted r0 a1 τ2) (fun a3 τ4 => some (a3, τ4)))) else none
theorem cv_X5_122 : CV RX5 122 3 yX3_askPlanned MX3_askPlanned 2 := ⟨_, rfl, rfl, ml_X5_122, ins_X3_askPlanned, sel_X3_askPlanned, ini_X3, cw_X3_askPlanned, ⟨by decide, by decide, by decide +kernel⟩⟩
set_option maxRecDepth 100000 in
set_option maxHeartbeats 4000000 in
theorem ct_X5_planned (l : Launch) (G : Gt) (r0 : Nat) (x1 : Int32) (x2 : Int32) (σ : Sg) : Ct l G yX5_planned MX5_planned rI [.ref (Gb G + r0), .int x1, .int x2] σ (f_X5_planned r0 x1 x2 σ) := by
  refine Ct.of (by decide +kernel) rfl (Nat.le_of_ble_eq_true rfl) ?_
  show Aw l G MX5_planned rI 0 [(0, .ref (Gb G + r0)), (1, .int x1), (2, .int x2)] [] σ _
  unfold f_X5_planned
  refine Aw.gd (fun hr0 => ?_)
  refine Aw.aload_n 0 rfl rfl dX5_planned_0 ?_
  refine Aw.aload_n 0 rfl rfl dX5_planned_1 ?_
  refine Aw.getR fl_X5_12 (Nat.le_of_ble_eq_true rfl) rfl hr0 rfl dX5_planned_2 ?_
  refine Aw.iload_n 1 rfl rfl dX5_planned_5 ?_
  refine Aw.iload_n 2 rfl rfl dX5_planned_6 ?_
  refine Aw.callVi (As := [.int x1, .int x2]) (rest := [.ref (Gb G + r0)]) cv_X5_122 (Nat.le_of_ble_eq_true rfl) (ft_5_0 hr0) (ct_X3_askPlanned l G (rf r0 0) x1 x2 σ) rfl rfl (Nat.le_of_ble_eq_true rfl) (Nat.le_of_ble_eq_true rfl) (Nat.le_of_ble_eq_true rfl) rfl dX5_planned_7 (fun a1 τ2 _ => ?_)
  refine Aw.callVi (As := [.int a1]) (rest := []) cv_X5_82 (Nat.le_of_ble_eq_true rfl) hr0 (ct_X5_noted l G r0 a1 τ2) rfl rfl (Nat.le_of_ble_eq_true rfl) (Nat.le_of_ble_eq_true rfl) (Nat.le_of_ble_eq_true rfl) rfl dX5_planned_10 (fun a3 τ4 _ => ?_)
  exact Aw.iret rfl dX5_planned_13
abbrev MX5_count : Mt := (RX5, cX5_count, 2, (some .int), 5)
def f_X5_count (r0 : Nat) (x1 : Int32) (σ : Sg) : Option (Int32 × Sg) := if kd r0 = 5 then (cb (f_X3_askCount (rf r0 0) x1 σ) (fun a1 τ2 => cb (f_X5_noted r0 a1 τ2) (fun a3 τ4 => some (a3, τ4)))) else none
theorem cv_X5_125 : CV RX5 125 3 yX3_askCount MX3_askCount 1 := ⟨_, rfl, rfl, ml_X5_125, ins_X3_askCount, sel_X3_askCount, ini_X3, cw_X3_askCount, ⟨by decide, by decide, by decide +kernel⟩⟩
set_option maxRecDepth 100000 in
set_option maxHeartbeats 4000000 in
theorem ct_X5_count (l : Launch) (G : Gt) (r0 : Nat) (x1 : Int32) (σ : Sg) : Ct l G yX5_count MX5_count rI [.ref (Gb G + r0), .int x1] σ (f_X5_count r0 x1 σ) := by
  refine Ct.of (by decide +kernel) rfl (Nat.le_of_ble_eq_true rfl) ?_
  show Aw l G MX5_count rI 0 [(0, .ref (Gb G + r0)), (1, .int x1)] [] σ _
  unfold f_X5_count
  refine Aw.gd (fun hr0 => ?_)
  refine Aw.aload_n 0 rfl rfl dX5_count_0 ?_
  refine Aw.aload_n 0 rfl rfl dX5_count_1 ?_
  refine Aw.getR fl_X5_12 (Nat.le_of_ble_eq_true rfl) rfl hr0 rfl dX5_count_2 ?_
  refine Aw.iload_n 1 rfl rfl dX5_count_5 ?_
  refine Aw.callVi (As := [.int x1]) (rest := [.ref (Gb G + r0)]) cv_X5_125 (Nat.le_of_ble_eq_true rfl) (ft_5_0 hr0) (ct_X3_askCount l G (rf r0 0) x1 σ) rfl rfl (Nat.le_of_ble_eq_true rfl) (Nat.le_of_ble_eq_true rfl) (Nat.le_of_ble_eq_true rfl) rfl dX5_count_6 (fun a1 τ2 _ => ?_)
  refine Aw.callVi (As := [.int a1]) (rest := []) cv_X5_82 (Nat.le_of_ble_eq_true rfl) hr0 (ct_X5_noted l G r0 a1 τ2) rfl rfl (Nat.le_of_ble_eq_true rfl) (Nat.le_of_ble_eq_true rfl) (Nat.le_of_ble_eq_true rfl) rfl dX5_count_9 (fun a3 τ4 _ => ?_)
  exact Aw.iret rfl dX5_count_12
abbrev MX5_type : Mt := (RX5, cX5_type, 2, (some .int), 3)
def f_X5_type (r0 : Nat) (x1 : Int32) (σ : Sg) : Option (Int32 × Sg) := if kd r0 = 5 then (cb (f_X4_append (rf r0 2) x1 σ) (fun a1 τ2 => cb (f_X5_noted r0 a1 τ2) (fun a3 τ4 => some (a3, τ4)))) else none
theorem cv_X5_128 : CV RX5 128 4 yX4_append MX4_append 1 := ⟨_, rfl, rfl, ml_X5_128, ins_X4_append, sel_X4_append, ini_X4, cw_X4_append, ⟨by decide, by decide, by decide +kernel⟩⟩
set_option maxRecDepth 100000 in
set_option maxHeartbeats 4000000 in
theorem ct_X5_type (l : Launch) (G : Gt) (r0 : Nat) (x1 : Int32) (σ : Sg) : Ct l G yX5_type MX5_type rI [.ref (Gb G + r0), .int x1] σ (f_X5_type r0 x1 σ) := by
  refine Ct.of (by decide +kernel) rfl (Nat.le_of_ble_eq_true rfl) ?_
  show Aw l G MX5_type rI 0 [(0, .ref (Gb G + r0)), (1, .int x1)] [] σ _
  unfold f_X5_type
  refine Aw.gd (fun hr0 => ?_)
  refine Aw.aload_n 0 rfl rfl dX5_type_0 ?_
  refine Aw.aload_n 0 rfl rfl dX5_type_1 ?_
  refine Aw.getR fl_X5_26 (Nat.le_of_ble_eq_true rfl) rfl hr0 rfl dX5_type_2 ?_
  refine Aw.iload_n 1 rfl rfl dX5_type_5 ?_
  refine Aw.callVi (As := [.int x1]) (rest := [.ref (Gb G + r0)]) cv_X5_128 (Nat.le_of_ble_eq_true rfl) (ft_5_2 hr0) (ct_X4_append l G (rf r0 2) x1 σ) rfl rfl (Nat.le_of_ble_eq_true rfl) (Nat.le_of_ble_eq_true rfl) (Nat.le_of_ble_eq_true rfl) rfl dX5_type_6 (fun a1 τ2 _ => ?_)
  refine Aw.callVi (As := [.int a1]) (rest := []) cv_X5_82 (Nat.le_of_ble_eq_true rfl) hr0 (ct_X5_noted l G r0 a1 τ2) rfl rfl (Nat.le_of_ble_eq_true rfl) (Nat.le_of_ble_eq_true rfl) (Nat.le_of_ble_eq_true rfl) rfl dX5_type_9 (fun a3 τ4 _ => ?_)
  exact Aw.iret rfl dX5_type_12
abbrev MX5_clear : Mt := (RX5, cX5_clear, 1, (some .int), 2)
def f_X5_clear (r0 : Nat) (σ : Sg) : Option (Int32 × Sg) := if kd r0 = 5 then (cb (f_X4_empty (rf r0 2) σ) (fun a1 τ2 => some (a1, τ2))) else none
theorem cv_X5_131 : CV RX5 131 4 yX4_empty MX4_empty 0 := ⟨_, rfl, rfl, ml_X5_131, ins_X4_empty, sel_X4_empty, ini_X4, cw_X4_empty, ⟨by decide, by decide, by decide +kernel⟩⟩
set_option maxRecDepth 100000 in
set_option maxHeartbeats 4000000 in
theorem ct_X5_clear (l : Launch) (G : Gt) (r0 : Nat) (σ : Sg) : Ct l G yX5_clear MX5_clear rI [.ref (Gb G + r0)] σ (f_X5_clear r0 σ) := by
  refine Ct.of (by decide +kernel) rfl (Nat.le_of_ble_eq_true rfl) ?_
  show Aw l G MX5_clear rI 0 [(0, .ref (Gb G + r0))] [] σ _
  unfold f_X5_clear
  refine Aw.gd (fun hr0 => ?_)
  refine Aw.aload_n 0 rfl rfl dX5_clear_0 ?_
  refine Aw.getR fl_X5_26 (Nat.le_of_ble_eq_true rfl) rfl hr0 rfl dX5_clear_1 ?_
  refine Aw.callVi (As := []) (rest := []) cv_X5_131 (Nat.le_of_ble_eq_true rfl) (ft_5_2 hr0) (ct_X4_empty l G (rf r0 2) σ) rfl rfl (Nat.le_of_ble_eq_true rfl) (Nat.le_of_ble_eq_true rfl) (Nat.le_of_ble_eq_true rfl) rfl dX5_clear_4 (fun a1 τ2 _ => ?_)
  exact Aw.iret rfl dX5_clear_7
abbrev MX5_doOrder : Mt := (RX5, cX5_doOrder, 2, (some .int), 4)
def f_X5_doOrder (r0 : Nat) (σ : Sg) : Option (Int32 × Sg) := if kd r0 = 5 then (if σ (rf r0 2) 4 = 100 then (if inb 0 3 then (if inb 1 3 then (cb (f_X3_addDancer (rf r0 0) (σ (rf (rf r0 2) 5) (ix 0)) (σ (rf (rf r0 2) 5) (ix 1)) σ) (fun a3 τ4 => some (a3, τ4))) else none) else none) else if σ (rf r0 2) 4 = 101 then (some ((-2), σ)) else if σ (rf r0 2) 4 = 102 then (some ((-2), σ)) else if σ (rf r0 2) 4 = 103 then (if inb 0 3 then (cb (f_X3_give (rf r0 0) (σ (rf (rf r0 2) 5) (ix 0)) σ) (fun a6 τ7 => some (a6, τ7))) else none) else if σ (rf r0 2) 4 = 104 then (some ((-2), σ)) else if σ (rf r0 2) 4 = 105 then (some ((-2), σ)) else if σ (rf r0 2) 4 = 106 then (some ((-2), σ)) else if σ (rf r0 2) 4 = 107 then (cb (f_X3_addCallThatGoes (rf r0 0) (rf (rf r0 2) 6) σ) (fun a8 τ9 => some (a8, τ9))) else if σ (rf r0 2) 4 = 108 then (some ((-2), σ)) else if σ (rf r0 2) 4 = 109 then (some ((-2), σ)) else if σ (rf r0 2) 4 = 110 then (some ((-2), σ)) else if σ (rf r0 2) 4 = 111 then (some ((-2), σ)) else if σ (rf r0 2) 4 = 112 then (if inb 0 3 then (cb (f_X3_addToPlan (rf r0 0) (σ (rf (rf r0 2) 5) (ix 0)) σ) (fun a11 τ12 => some (a11, τ12))) else none) else if σ (rf r0 2) 4 = 113 then (some ((-2), σ)) else if σ (rf r0 2) 4 = 114 then (some ((-2), σ)) else if σ (rf r0 2) 4 = 115 then (some ((-2), σ)) else if σ (rf r0 2) 4 = 116 then (some ((-2), σ)) else if σ (rf r0 2) 4 = 117 then (if inb 0 3 then (if inb 1 3 then (if inb 2 3 then (cb (f_X3_setTurn (rf r0 0) (σ (rf (rf r0 2) 5) (ix 0)) (σ (rf (rf r0 2) 5) (ix 1)) (σ (rf (rf r0 2) 5) (ix 2)) σ) (fun a16 τ17 => some (a16, τ17))) else none) else none) else none) else if σ (rf r0 2) 4 = 118 then (some ((-2), σ)) else if σ (rf r0 2) 4 = 119 then (if inb 0 3 then (if inb 1 3 then (if inb 2 3 then (cb (f_X3_setWant (rf r0 0) (σ (rf (rf r0 2) 5) (ix 0)) (σ (rf (rf r0 2) 5) (ix 1)) (σ (rf (rf r0 2) 5) (ix 2)) σ) (fun a21 τ22 => some (a21, τ22))) else none) else none) else none) else (some ((-2), σ))) else none
theorem cv_X5_202 : CV RX5 202 3 yX3_addCallThatGoes MX3_addCallThatGoes 1 := ⟨_, rfl, rfl, ml_X5_202, ins_X3_addCallThatGoes, sel_X3_addCallThatGoes, ini_X3, cw_X3_addCallThatGoes, ⟨by decide, by decide, by decide +kernel⟩⟩
set_option maxRecDepth 100000 in
set_option maxHeartbeats 4000000 in
theorem ct_X5_doOrder (l : Launch) (G : Gt) (r0 : Nat) (σ : Sg) : Ct l G yX5_doOrder MX5_doOrder rI [.ref (Gb G + r0)] σ (f_X5_doOrder r0 σ) := by
  refine Ct.of (by decide +kernel) rfl (Nat.le_of_ble_eq_true rfl) ?_
  show Aw l G MX5_doOrder rI 0 [(0, .ref (Gb G + r0))] [] σ _
  unfold f_X5_doOrder
  refine Aw.gd (fun hr0 => ?_)
  refine Aw.aload_n 0 rfl rfl dX5_doOrder_0 ?_
  refine Aw.getR fl_X5_26 (Nat.le_of_ble_eq_true rfl) rfl hr0 rfl dX5_doOrder_1 ?_
  refine Aw.getR fl_X5_193 (Nat.le_of_ble_eq_true rfl) rfl (ft_5_2 hr0) rfl dX5_doOrder_4 ?_
  refine Aw.astore_n (L' := [(1, .ref (Gb G + rf (rf r0 2) 5)), (0, .ref (Gb G + r0))]) (Nat.le_of_ble_eq_true rfl) rfl rfl dX5_doOrder_7 ?_
  refine Aw.aload_n 1 rfl rfl dX5_doOrder_8 ?_
  refine Aw.getR fl_X5_26 (Nat.le_of_ble_eq_true rfl) rfl hr0 rfl dX5_doOrder_9 ?_
  refine Aw.getI fl_X5_196 (Nat.le_of_ble_eq_true rfl) rfl (ft_5_2 hr0) rfl dX5_doOrder_12 ?_
  refine Aw.br (fun hc100 => ?_) (fun hc100 => ?_)
  · refine Aw.tsIn (off := 142) (t := 157) dX5_doOrder_15 100 hc100 (by decide) (by decide) (by decide +kernel) (by decide) ?_
    refine Aw.aload_n 1 rfl rfl dX5_doOrder_157 ?_
    refine Aw.getR fl_X5_12 (Nat.le_of_ble_eq_true rfl) rfl hr0 rfl dX5_doOrder_158 ?_
    refine Aw.aload_n 0 rfl rfl dX5_doOrder_161 ?_
    refine Aw.iconst (v := 0) ic_0 rfl dX5_doOrder_162 ?_
    refine Aw.iald (n := 3) (ft_4_5 (ft_5_2 hr0)).1 (ft_4_5 (ft_5_2 hr0)).2 rfl dX5_doOrder_163 (fun hb1 => ?_)
    refine Aw.aload_n 0 rfl rfl dX5_doOrder_164 ?_
    refine Aw.iconst (v := 1) ic_1 rfl dX5_doOrder_165 ?_
    refine Aw.iald (n := 3) (ft_4_5 (ft_5_2 hr0)).1 (ft_4_5 (ft_5_2 hr0)).2 rfl dX5_doOrder_166 (fun hb2 => ?_)
    refine Aw.callVi (As := [.int (σ (rf (rf r0 2) 5) (ix 0)), .int (σ (rf (rf r0 2) 5) (ix 1))]) (rest := []) cv_X5_45 (Nat.le_of_ble_eq_true rfl) (ft_5_0 hr0) (ct_X3_addDancer l G (rf r0 0) (σ (rf (rf r0 2) 5) (ix 0)) (σ (rf (rf r0 2) 5) (ix 1)) σ) rfl rfl (Nat.le_of_ble_eq_true rfl) (Nat.le_of_ble_eq_true rfl) (Nat.le_of_ble_eq_true rfl) rfl dX5_doOrder_167 (fun a3 τ4 _ => ?_)
    exact Aw.iret rfl dX5_doOrder_170
  refine Aw.br (fun hc101 => ?_) (fun hc101 => ?_)
  · refine Aw.tsIn (off := 178) (t := 193) dX5_doOrder_15 101 hc101 (by decide) (by decide) (by decide +kernel) (by decide) ?_
    refine Aw.bipush (v := (-2)) ib_m2 rfl dX5_doOrder_193 ?_
    exact Aw.iret rfl dX5_doOrder_195
  refine Aw.br (fun hc102 => ?_) (fun hc102 => ?_)
  · refine Aw.tsIn (off := 178) (t := 193) dX5_doOrder_15 102 hc102 (by decide) (by decide) (by decide +kernel) (by decide) ?_
    refine Aw.bipush (v := (-2)) ib_m2 rfl dX5_doOrder_193 ?_
    exact Aw.iret rfl dX5_doOrder_195
  refine Aw.br (fun hc103 => ?_) (fun hc103 => ?_)
  · refine Aw.tsIn (off := 156) (t := 171) dX5_doOrder_15 103 hc103 (by decide) (by decide) (by decide +kernel) (by decide) ?_
    refine Aw.aload_n 1 rfl rfl dX5_doOrder_171 ?_
    refine Aw.getR fl_X5_12 (Nat.le_of_ble_eq_true rfl) rfl hr0 rfl dX5_doOrder_172 ?_
    refine Aw.aload_n 0 rfl rfl dX5_doOrder_175 ?_
    refine Aw.iconst (v := 0) ic_0 rfl dX5_doOrder_176 ?_
    refine Aw.iald (n := 3) (ft_4_5 (ft_5_2 hr0)).1 (ft_4_5 (ft_5_2 hr0)).2 rfl dX5_doOrder_177 (fun hb5 => ?_)
    refine Aw.callVi (As := [.int (σ (rf (rf r0 2) 5) (ix 0))]) (rest := []) cv_X5_73 (Nat.le_of_ble_eq_true rfl) (ft_5_0 hr0) (ct_X3_give l G (rf r0 0) (σ (rf (rf r0 2) 5) (ix 0)) σ) rfl rfl (Nat.le_of_ble_eq_true rfl) (Nat.le_of_ble_eq_true rfl) (Nat.le_of_ble_eq_true rfl) rfl dX5_doOrder_178 (fun a6 τ7 _ => ?_)
    exact Aw.iret rfl dX5_doOrder_181
  refine Aw.br (fun hc104 => ?_) (fun hc104 => ?_)
  · refine Aw.tsIn (off := 178) (t := 193) dX5_doOrder_15 104 hc104 (by decide) (by decide) (by decide +kernel) (by decide) ?_
    refine Aw.bipush (v := (-2)) ib_m2 rfl dX5_doOrder_193 ?_
    exact Aw.iret rfl dX5_doOrder_195
  refine Aw.br (fun hc105 => ?_) (fun hc105 => ?_)
  · refine Aw.tsIn (off := 178) (t := 193) dX5_doOrder_15 105 hc105 (by decide) (by decide) (by decide +kernel) (by decide) ?_
    refine Aw.bipush (v := (-2)) ib_m2 rfl dX5_doOrder_193 ?_
    exact Aw.iret rfl dX5_doOrder_195
  refine Aw.br (fun hc106 => ?_) (fun hc106 => ?_)
  · refine Aw.tsIn (off := 178) (t := 193) dX5_doOrder_15 106 hc106 (by decide) (by decide) (by decide +kernel) (by decide) ?_
    refine Aw.bipush (v := (-2)) ib_m2 rfl dX5_doOrder_193 ?_
    exact Aw.iret rfl dX5_doOrder_195
  refine Aw.br (fun hc107 => ?_) (fun hc107 => ?_)
  · refine Aw.tsIn (off := 93) (t := 108) dX5_doOrder_15 107 hc107 (by decide) (by decide) (by decide +kernel) (by decide) ?_
    refine Aw.aload_n 1 rfl rfl dX5_doOrder_108 ?_
    refine Aw.getR fl_X5_12 (Nat.le_of_ble_eq_true rfl) rfl hr0 rfl dX5_doOrder_109 ?_
    refine Aw.aload_n 1 rfl rfl dX5_doOrder_112 ?_
    refine Aw.getR fl_X5_26 (Nat.le_of_ble_eq_true rfl) rfl hr0 rfl dX5_doOrder_113 ?_
    refine Aw.getR fl_X5_199 (Nat.le_of_ble_eq_true rfl) rfl (ft_5_2 hr0) rfl dX5_doOrder_116 ?_
    refine Aw.callVi (As := [.ref (Gb G + rf (rf r0 2) 6)]) (rest := []) cv_X5_202 (Nat.le_of_ble_eq_true rfl) (ft_5_0 hr0) (ct_X3_addCallThatGoes l G (rf r0 0) (rf (rf r0 2) 6) σ) rfl rfl (Nat.le_of_ble_eq_true rfl) (Nat.le_of_ble_eq_true rfl) (Nat.le_of_ble_eq_true rfl) rfl dX5_doOrder_119 (fun a8 τ9 _ => ?_)
    exact Aw.iret rfl dX5_doOrder_122
  refine Aw.br (fun hc108 => ?_) (fun hc108 => ?_)
  · refine Aw.tsIn (off := 178) (t := 193) dX5_doOrder_15 108 hc108 (by decide) (by decide) (by decide +kernel) (by decide) ?_
    refine Aw.bipush (v := (-2)) ib_m2 rfl dX5_doOrder_193 ?_
    exact Aw.iret rfl dX5_doOrder_195
  refine Aw.br (fun hc109 => ?_) (fun hc109 => ?_)
  · refine Aw.tsIn (off := 178) (t := 193) dX5_doOrder_15 109 hc109 (by decide) (by decide) (by decide +kernel) (by decide) ?_
    refine Aw.bipush (v := (-2)) ib_m2 rfl dX5_doOrder_193 ?_
    exact Aw.iret rfl dX5_doOrder_195
  refine Aw.br (fun hc110 => ?_) (fun hc110 => ?_)
  · refine Aw.tsIn (off := 178) (t := 193) dX5_doOrder_15 110 hc110 (by decide) (by decide) (by decide +kernel) (by decide) ?_
    refine Aw.bipush (v := (-2)) ib_m2 rfl dX5_doOrder_193 ?_
    exact Aw.iret rfl dX5_doOrder_195
  refine Aw.br (fun hc111 => ?_) (fun hc111 => ?_)
  · refine Aw.tsIn (off := 178) (t := 193) dX5_doOrder_15 111 hc111 (by decide) (by decide) (by decide +kernel) (by decide) ?_
    refine Aw.bipush (v := (-2)) ib_m2 rfl dX5_doOrder_193 ?_
    exact Aw.iret rfl dX5_doOrder_195
  refine Aw.br (fun hc112 => ?_) (fun hc112 => ?_)
  · refine Aw.tsIn (off := 167) (t := 182) dX5_doOrder_15 112 hc112 (by decide) (by decide) (by decide +kernel) (by decide) ?_
    refine Aw.aload_n 1 rfl rfl dX5_doOrder_182 ?_
    refine Aw.getR fl_X5_12 (Nat.le_of_ble_eq_true rfl) rfl hr0 rfl dX5_doOrder_183 ?_
    refine Aw.aload_n 0 rfl rfl dX5_doOrder_186 ?_
    refine Aw.iconst (v := 0) ic_0 rfl dX5_doOrder_187 ?_
    refine Aw.iald (n := 3) (ft_4_5 (ft_5_2 hr0)).1 (ft_4_5 (ft_5_2 hr0)).2 rfl dX5_doOrder_188 (fun hb10 => ?_)
    refine Aw.callVi (As := [.int (σ (rf (rf r0 2) 5) (ix 0))]) (rest := []) cv_X5_113 (Nat.le_of_ble_eq_true rfl) (ft_5_0 hr0) (ct_X3_addToPlan l G (rf r0 0) (σ (rf (rf r0 2) 5) (ix 0)) σ) rfl rfl (Nat.le_of_ble_eq_true rfl) (Nat.le_of_ble_eq_true rfl) (Nat.le_of_ble_eq_true rfl) rfl dX5_doOrder_189 (fun a11 τ12 _ => ?_)
    exact Aw.iret rfl dX5_doOrder_192
  refine Aw.br (fun hc113 => ?_) (fun hc113 => ?_)
  · refine Aw.tsIn (off := 178) (t := 193) dX5_doOrder_15 113 hc113 (by decide) (by decide) (by decide +kernel) (by decide) ?_
    refine Aw.bipush (v := (-2)) ib_m2 rfl dX5_doOrder_193 ?_
    exact Aw.iret rfl dX5_doOrder_195
  refine Aw.br (fun hc114 => ?_) (fun hc114 => ?_)
  · refine Aw.tsIn (off := 178) (t := 193) dX5_doOrder_15 114 hc114 (by decide) (by decide) (by decide +kernel) (by decide) ?_
    refine Aw.bipush (v := (-2)) ib_m2 rfl dX5_doOrder_193 ?_
    exact Aw.iret rfl dX5_doOrder_195
  refine Aw.br (fun hc115 => ?_) (fun hc115 => ?_)
  · refine Aw.tsIn (off := 178) (t := 193) dX5_doOrder_15 115 hc115 (by decide) (by decide) (by decide +kernel) (by decide) ?_
    refine Aw.bipush (v := (-2)) ib_m2 rfl dX5_doOrder_193 ?_
    exact Aw.iret rfl dX5_doOrder_195
  refine Aw.br (fun hc116 => ?_) (fun hc116 => ?_)
  · refine Aw.tsIn (off := 178) (t := 193) dX5_doOrder_15 116 hc116 (by decide) (by decide) (by decide +kernel) (by decide) ?_
    refine Aw.bipush (v := (-2)) ib_m2 rfl dX5_doOrder_193 ?_
    exact Aw.iret rfl dX5_doOrder_195
  refine Aw.br (fun hc117 => ?_) (fun hc117 => ?_)
  · refine Aw.tsIn (off := 108) (t := 123) dX5_doOrder_15 117 hc117 (by decide) (by decide) (by decide +kernel) (by decide) ?_
    refine Aw.aload_n 1 rfl rfl dX5_doOrder_123 ?_
    refine Aw.getR fl_X5_12 (Nat.le_of_ble_eq_true rfl) rfl hr0 rfl dX5_doOrder_124 ?_
    refine Aw.aload_n 0 rfl rfl dX5_doOrder_127 ?_
    refine Aw.iconst (v := 0) ic_0 rfl dX5_doOrder_128 ?_
    refine Aw.iald (n := 3) (ft_4_5 (ft_5_2 hr0)).1 (ft_4_5 (ft_5_2 hr0)).2 rfl dX5_doOrder_129 (fun hb13 => ?_)
    refine Aw.aload_n 0 rfl rfl dX5_doOrder_130 ?_
    refine Aw.iconst (v := 1) ic_1 rfl dX5_doOrder_131 ?_
    refine Aw.iald (n := 3) (ft_4_5 (ft_5_2 hr0)).1 (ft_4_5 (ft_5_2 hr0)).2 rfl dX5_doOrder_132 (fun hb14 => ?_)
    refine Aw.aload_n 0 rfl rfl dX5_doOrder_133 ?_
    refine Aw.iconst (v := 2) ic_2 rfl dX5_doOrder_134 ?_
    refine Aw.iald (n := 3) (ft_4_5 (ft_5_2 hr0)).1 (ft_4_5 (ft_5_2 hr0)).2 rfl dX5_doOrder_135 (fun hb15 => ?_)
    refine Aw.callVi (As := [.int (σ (rf (rf r0 2) 5) (ix 0)), .int (σ (rf (rf r0 2) 5) (ix 1)), .int (σ (rf (rf r0 2) 5) (ix 2))]) (rest := []) cv_X5_61 (Nat.le_of_ble_eq_true rfl) (ft_5_0 hr0) (ct_X3_setTurn l G (rf r0 0) (σ (rf (rf r0 2) 5) (ix 0)) (σ (rf (rf r0 2) 5) (ix 1)) (σ (rf (rf r0 2) 5) (ix 2)) σ) rfl rfl (Nat.le_of_ble_eq_true rfl) (Nat.le_of_ble_eq_true rfl) (Nat.le_of_ble_eq_true rfl) rfl dX5_doOrder_136 (fun a16 τ17 _ => ?_)
    exact Aw.iret rfl dX5_doOrder_139
  refine Aw.br (fun hc118 => ?_) (fun hc118 => ?_)
  · refine Aw.tsIn (off := 178) (t := 193) dX5_doOrder_15 118 hc118 (by decide) (by decide) (by decide +kernel) (by decide) ?_
    refine Aw.bipush (v := (-2)) ib_m2 rfl dX5_doOrder_193 ?_
    exact Aw.iret rfl dX5_doOrder_195
  refine Aw.br (fun hc119 => ?_) (fun hc119 => ?_)
  · refine Aw.tsIn (off := 125) (t := 140) dX5_doOrder_15 119 hc119 (by decide) (by decide) (by decide +kernel) (by decide) ?_
    refine Aw.aload_n 1 rfl rfl dX5_doOrder_140 ?_
    refine Aw.getR fl_X5_12 (Nat.le_of_ble_eq_true rfl) rfl hr0 rfl dX5_doOrder_141 ?_
    refine Aw.aload_n 0 rfl rfl dX5_doOrder_144 ?_
    refine Aw.iconst (v := 0) ic_0 rfl dX5_doOrder_145 ?_
    refine Aw.iald (n := 3) (ft_4_5 (ft_5_2 hr0)).1 (ft_4_5 (ft_5_2 hr0)).2 rfl dX5_doOrder_146 (fun hb18 => ?_)
    refine Aw.aload_n 0 rfl rfl dX5_doOrder_147 ?_
    refine Aw.iconst (v := 1) ic_1 rfl dX5_doOrder_148 ?_
    refine Aw.iald (n := 3) (ft_4_5 (ft_5_2 hr0)).1 (ft_4_5 (ft_5_2 hr0)).2 rfl dX5_doOrder_149 (fun hb19 => ?_)
    refine Aw.aload_n 0 rfl rfl dX5_doOrder_150 ?_
    refine Aw.iconst (v := 2) ic_2 rfl dX5_doOrder_151 ?_
    refine Aw.iald (n := 3) (ft_4_5 (ft_5_2 hr0)).1 (ft_4_5 (ft_5_2 hr0)).2 rfl dX5_doOrder_152 (fun hb20 => ?_)
    refine Aw.callVi (As := [.int (σ (rf (rf r0 2) 5) (ix 0)), .int (σ (rf (rf r0 2) 5) (ix 1)), .int (σ (rf (rf r0 2) 5) (ix 2))]) (rest := []) cv_X5_64 (Nat.le_of_ble_eq_true rfl) (ft_5_0 hr0) (ct_X3_setWant l G (rf r0 0) (σ (rf (rf r0 2) 5) (ix 0)) (σ (rf (rf r0 2) 5) (ix 1)) (σ (rf (rf r0 2) 5) (ix 2)) σ) rfl rfl (Nat.le_of_ble_eq_true rfl) (Nat.le_of_ble_eq_true rfl) (Nat.le_of_ble_eq_true rfl) rfl dX5_doOrder_153 (fun a21 τ22 _ => ?_)
    exact Aw.iret rfl dX5_doOrder_156
  refine Aw.tsOut (t := 193) dX5_doOrder_15 (ts_out (fun k h1 h2 => ?_)) (by decide) ?_
  · rcases (show k = 100 ∨ k = 101 ∨ k = 102 ∨ k = 103 ∨ k = 104 ∨ k = 105 ∨ k = 106 ∨ k = 107 ∨ k = 108 ∨ k = 109 ∨ k = 110 ∨ k = 111 ∨ k = 112 ∨ k = 113 ∨ k = 114 ∨ k = 115 ∨ k = 116 ∨ k = 117 ∨ k = 118 ∨ k = 119 by omega) with rfl | rfl | rfl | rfl | rfl | rfl | rfl | rfl | rfl | rfl | rfl | rfl | rfl | rfl | rfl | rfl | rfl | rfl | rfl | rfl
    · exact ts_ne (v := 100) (by decide) hc100
    · exact ts_ne (v := 101) (by decide) hc101
    · exact ts_ne (v := 102) (by decide) hc102
    · exact ts_ne (v := 103) (by decide) hc103
    · exact ts_ne (v := 104) (by decide) hc104
    · exact ts_ne (v := 105) (by decide) hc105
    · exact ts_ne (v := 106) (by decide) hc106
    · exact ts_ne (v := 107) (by decide) hc107
    · exact ts_ne (v := 108) (by decide) hc108
    · exact ts_ne (v := 109) (by decide) hc109
    · exact ts_ne (v := 110) (by decide) hc110
    · exact ts_ne (v := 111) (by decide) hc111
    · exact ts_ne (v := 112) (by decide) hc112
    · exact ts_ne (v := 113) (by decide) hc113
    · exact ts_ne (v := 114) (by decide) hc114
    · exact ts_ne (v := 115) (by decide) hc115
    · exact ts_ne (v := 116) (by decide) hc116
    · exact ts_ne (v := 117) (by decide) hc117
    · exact ts_ne (v := 118) (by decide) hc118
    · exact ts_ne (v := 119) (by decide) hc119
  refine Aw.bipush (v := (-2)) ib_m2 rfl dX5_doOrder_193 ?_
  exact Aw.iret rfl dX5_doOrder_195
abbrev MX5_does : Mt := (RX5, cX5_does, 3, (some .int), 7)
def f_X5_does_71  (r0 : Nat) (x2 : Int32) (σ : Sg) : Option (Int32 × Sg) := if kd r0 = 5 then (cb (f_X1_undo (rf r0 1) (rf r0 0) σ) (fun _ τ2 => some (((-1000)) - x2, τ2))) else none
def f_X5_does_94  (r0 : Nat) (x2 : Int32) (σ : Sg) : Option (Int32 × Sg) := if kd r0 = 5 then (cb (f_X1_confirm (rf r0 1) σ) (fun _ τ2 => some (x2, τ2))) else none
def f_X5_does_38  : Nat → Nat → Int32 → Sg → Option (Int32 × Sg)
  | 0, _, _, _ => none
  | n + 1, r0, x2, σ => if kd r0 = 5 then (if 120 ≤ x2 then (f_X5_does_94 r0 x2 σ) else (cb (f_X4_hasMore (rf r0 2) σ) (fun a1 τ2 => if a1 = 0 then (f_X5_does_94 r0 x2 τ2) else (cb (f_X4_readOrder (rf r0 2) τ2) (fun a3 τ4 => if a3 = 0 then (f_X5_does_71 r0 x2 τ4) else (cb (f_X5_doOrder r0 τ4) (fun a5 τ6 => if 0 ≤ a5 then (f_X5_does_38 n r0 (x2 + 1) τ6) else (f_X5_does_71 r0 x2 τ6)))))))) else none
def f_X5_does (r0 : Nat) (σ : Sg) : Option (Int32 × Sg) := if kd r0 = 5 then (cb (f_X4_firstFault (rf r0 2) σ) (fun a1 τ2 => if a1 = (-1) then (cb (f_X1_prepare (rf r0 1) (rf r0 0) τ2) (fun _ τ4 => cb (f_X4_restart (rf r0 2) τ4) (fun _ τ6 => f_X5_does_38 FU r0 0 τ6))) else (some (((-10)) - a1, τ2)))) else none
theorem cv_X5_134 : CV RX5 134 4 yX4_firstFault MX4_firstFault 0 := ⟨_, rfl, rfl, ml_X5_134, ins_X4_firstFault, sel_X4_firstFault, ini_X4, cw_X4_firstFault, ⟨by decide, by decide, by decide +kernel⟩⟩
theorem cv_X5_137 : CV RX5 137 4 yX4_restart MX4_restart 0 := ⟨_, rfl, rfl, ml_X5_137, ins_X4_restart, sel_X4_restart, ini_X4, cw_X4_restart, ⟨by decide, by decide, by decide +kernel⟩⟩
theorem cv_X5_140 : CV RX5 140 4 yX4_hasMore MX4_hasMore 0 := ⟨_, rfl, rfl, ml_X5_140, ins_X4_hasMore, sel_X4_hasMore, ini_X4, cw_X4_hasMore, ⟨by decide, by decide, by decide +kernel⟩⟩
theorem cv_X5_144 : CV RX5 144 4 yX4_readOrder MX4_readOrder 0 := ⟨_, rfl, rfl, ml_X5_144, ins_X4_readOrder, sel_X4_readOrder, ini_X4, cw_X4_readOrder, ⟨by decide, by decide, by decide +kernel⟩⟩
theorem cv_X5_147 : CV RX5 147 5 yX5_doOrder MX5_doOrder 0 := ⟨_, rfl, rfl, ml_X5_147, ins_X5_doOrder, sel_X5_doOrder, ini_X5, cw_X5_doOrder, ⟨by decide, by decide, by decide +kernel⟩⟩
theorem cv_X5_150 : CV RX5 150 1 yX1_undo MX1_undo 1 := ⟨_, rfl, rfl, ml_X5_150, ins_X1_undo, sel_X1_undo, ini_X1, cw_X1_undo, ⟨by decide, by decide, by decide +kernel⟩⟩
set_option maxRecDepth 100000 in
set_option maxHeartbeats 4000000 in
theorem aw_X5_does_71 (l : Launch) (G : Gt) (r0 : Nat) (x2 : Int32) (σ : Sg) : Aw l G MX5_does rI 71 [(0, .ref (Gb G + r0)), (2, .int x2)] [] σ (f_X5_does_71 r0 x2 σ) := by
  unfold f_X5_does_71
  refine Aw.gd (fun hr0 => ?_)
  refine Aw.aload_n 0 rfl rfl dX5_does_71 ?_
  refine Aw.getR fl_X5_19 (Nat.le_of_ble_eq_true rfl) rfl hr0 rfl dX5_does_72 ?_
  refine Aw.aload_n 0 rfl rfl dX5_does_75 ?_
  refine Aw.getR fl_X5_12 (Nat.le_of_ble_eq_true rfl) rfl hr0 rfl dX5_does_76 ?_
  refine Aw.callVv (As := [.ref (Gb G + rf r0 0)]) (rest := []) cv_X5_150 (Nat.le_of_ble_eq_true rfl) (ft_5_1 hr0) (ct_X1_undo l G (rf r0 1) (rf r0 0) σ) rfl rfl (Nat.le_of_ble_eq_true rfl) (Nat.le_of_ble_eq_true rfl) (Nat.le_of_ble_eq_true rfl) rfl dX5_does_79 (fun a1 τ2 _ => ?_)
  refine Aw.sipush (v := (-1000)) is_m1000 rfl dX5_does_82 ?_
  refine Aw.iload_n 1 rfl rfl dX5_does_85 ?_
  refine Aw.isub rfl dX5_does_86 ?_
  exact Aw.iret rfl dX5_does_87
set_option maxRecDepth 100000 in
set_option maxHeartbeats 4000000 in
theorem aw_X5_does_94 (l : Launch) (G : Gt) (r0 : Nat) (x2 : Int32) (σ : Sg) : Aw l G MX5_does rI 94 [(0, .ref (Gb G + r0)), (2, .int x2)] [] σ (f_X5_does_94 r0 x2 σ) := by
  unfold f_X5_does_94
  refine Aw.gd (fun hr0 => ?_)
  refine Aw.aload_n 0 rfl rfl dX5_does_94 ?_
  refine Aw.getR fl_X5_19 (Nat.le_of_ble_eq_true rfl) rfl hr0 rfl dX5_does_95 ?_
  refine Aw.callVv (As := []) (rest := []) cv_X5_153 (Nat.le_of_ble_eq_true rfl) (ft_5_1 hr0) (ct_X1_confirm l G (rf r0 1) σ) rfl rfl (Nat.le_of_ble_eq_true rfl) (Nat.le_of_ble_eq_true rfl) (Nat.le_of_ble_eq_true rfl) rfl dX5_does_98 (fun a1 τ2 _ => ?_)
  refine Aw.iload_n 1 rfl rfl dX5_does_101 ?_
  exact Aw.iret rfl dX5_does_102
set_option maxRecDepth 100000 in
set_option maxHeartbeats 4000000 in
theorem aw_X5_does_38 (l : Launch) (G : Gt) : ∀ (n : Nat) (r0 : Nat) (x2 : Int32) (σ : Sg), Aw l G MX5_does rI 38 [(0, .ref (Gb G + r0)), (2, .int x2)] [] σ (f_X5_does_38 n r0 x2 σ) := by
  intro n
  induction n with
  | zero => intro r0 x2 σ; exact Aw.no
  | succ n ih =>
    intro r0 x2 σ
    rw [f_X5_does_38]
    refine Aw.gd (fun hr0 => ?_)
    refine Aw.iload_n 1 rfl rfl dX5_does_38 ?_
    refine Aw.bipush (v := 120) ib_120 rfl dX5_does_39 ?_
    refine Aw.icmp_ge (q := 44) (t := 94) rfl (by decide) dX5_does_41 (fun hc => ?_) (fun hc => ?_)
    · refine Aw.sub (L' := [(0, .ref (Gb G + r0)), (2, .int x2)]) [0, 1] rfl ?_
      exact aw_X5_does_94 l G _ _ _
    · refine Aw.aload_n 0 rfl rfl dX5_does_44 ?_
      refine Aw.getR fl_X5_26 (Nat.le_of_ble_eq_true rfl) rfl hr0 rfl dX5_does_45 ?_
      refine Aw.callVi (As := []) (rest := []) cv_X5_140 (Nat.le_of_ble_eq_true rfl) (ft_5_2 hr0) (ct_X4_hasMore l G (rf r0 2) σ) rfl rfl (Nat.le_of_ble_eq_true rfl) (Nat.le_of_ble_eq_true rfl) (Nat.le_of_ble_eq_true rfl) rfl dX5_does_48 (fun a1 τ2 _ => ?_)
      refine Aw.if_eq (q := 54) (t := 94) rfl (by decide) dX5_does_51 (fun hc => ?_) (fun hc => ?_)
      · refine Aw.sub (L' := [(0, .ref (Gb G + r0)), (2, .int x2)]) [0, 1] rfl ?_
        exact aw_X5_does_94 l G _ _ _
      · refine Aw.aload_n 0 rfl rfl dX5_does_54 ?_
        refine Aw.getR fl_X5_26 (Nat.le_of_ble_eq_true rfl) rfl hr0 rfl dX5_does_55 ?_
        refine Aw.callVi (As := []) (rest := []) cv_X5_144 (Nat.le_of_ble_eq_true rfl) (ft_5_2 hr0) (ct_X4_readOrder l G (rf r0 2) τ2) rfl rfl (Nat.le_of_ble_eq_true rfl) (Nat.le_of_ble_eq_true rfl) (Nat.le_of_ble_eq_true rfl) rfl dX5_does_58 (fun a3 τ4 _ => ?_)
        refine Aw.if_eq (q := 64) (t := 71) rfl (by decide) dX5_does_61 (fun hc => ?_) (fun hc => ?_)
        · refine Aw.sub (L' := [(0, .ref (Gb G + r0)), (2, .int x2)]) [0, 1] rfl ?_
          exact aw_X5_does_71 l G _ _ _
        · refine Aw.aload_n 0 rfl rfl dX5_does_64 ?_
          refine Aw.callVi (As := []) (rest := []) cv_X5_147 (Nat.le_of_ble_eq_true rfl) hr0 (ct_X5_doOrder l G r0 τ4) rfl rfl (Nat.le_of_ble_eq_true rfl) (Nat.le_of_ble_eq_true rfl) (Nat.le_of_ble_eq_true rfl) rfl dX5_does_65 (fun a5 τ6 _ => ?_)
          refine Aw.if_ge (q := 71) (t := 88) rfl (by decide) dX5_does_68 (fun hc => ?_) (fun hc => ?_)
          · refine Aw.iinc (v := x2 + 1) (L' := [(2, .int (x2 + 1)), (0, .ref (Gb G + r0))]) 1 rfl (ii_1 _) (Nat.le_of_ble_eq_true rfl) rfl rfl dX5_does_88 ?_
            refine Aw.goto (q := 38) (by decide) dX5_does_91 ?_
            refine Aw.sub (L' := [(0, .ref (Gb G + r0)), (2, .int (x2 + 1))]) [1, 0] rfl ?_
            exact ih _ _ _
          · refine Aw.sub (L' := [(0, .ref (Gb G + r0)), (2, .int x2)]) [0, 1] rfl ?_
            exact aw_X5_does_71 l G _ _ _
set_option maxRecDepth 100000 in
set_option maxHeartbeats 4000000 in
theorem ct_X5_does (l : Launch) (G : Gt) (r0 : Nat) (σ : Sg) : Ct l G yX5_does MX5_does rI [.ref (Gb G + r0)] σ (f_X5_does r0 σ) := by
  refine Ct.of (by decide +kernel) rfl (Nat.le_of_ble_eq_true rfl) ?_
  show Aw l G MX5_does rI 0 [(0, .ref (Gb G + r0))] [] σ _
  unfold f_X5_does
  refine Aw.gd (fun hr0 => ?_)
  refine Aw.aload_n 0 rfl rfl dX5_does_0 ?_
  refine Aw.getR fl_X5_26 (Nat.le_of_ble_eq_true rfl) rfl hr0 rfl dX5_does_1 ?_
  refine Aw.callVi (As := []) (rest := []) cv_X5_134 (Nat.le_of_ble_eq_true rfl) (ft_5_2 hr0) (ct_X4_firstFault l G (rf r0 2) σ) rfl rfl (Nat.le_of_ble_eq_true rfl) (Nat.le_of_ble_eq_true rfl) (Nat.le_of_ble_eq_true rfl) rfl dX5_does_4 (fun a1 τ2 _ => ?_)
  refine Aw.istore_n (L' := [(1, .int a1), (0, .ref (Gb G + r0))]) (Nat.le_of_ble_eq_true rfl) rfl rfl dX5_does_7 ?_
  refine Aw.iload_n 0 rfl rfl dX5_does_8 ?_
  refine Aw.iconst (v := (-1)) ic_m1 rfl dX5_does_9 ?_
  refine Aw.icmp_eq (q := 13) (t := 18) rfl (by decide) dX5_does_10 (fun hc => ?_) (fun hc => ?_)
  · refine Aw.aload_n 1 rfl rfl dX5_does_18 ?_
    refine Aw.getR fl_X5_19 (Nat.le_of_ble_eq_true rfl) rfl hr0 rfl dX5_does_19 ?_
    refine Aw.aload_n 1 rfl rfl dX5_does_22 ?_
    refine Aw.getR fl_X5_12 (Nat.le_of_ble_eq_true rfl) rfl hr0 rfl dX5_does_23 ?_
    refine Aw.callVv (As := [.ref (Gb G + rf r0 0)]) (rest := []) cv_X5_41 (Nat.le_of_ble_eq_true rfl) (ft_5_1 hr0) (ct_X1_prepare l G (rf r0 1) (rf r0 0) τ2) rfl rfl (Nat.le_of_ble_eq_true rfl) (Nat.le_of_ble_eq_true rfl) (Nat.le_of_ble_eq_true rfl) rfl dX5_does_26 (fun a3 τ4 _ => ?_)
    refine Aw.aload_n 1 rfl rfl dX5_does_29 ?_
    refine Aw.getR fl_X5_26 (Nat.le_of_ble_eq_true rfl) rfl hr0 rfl dX5_does_30 ?_
    refine Aw.callVv (As := []) (rest := []) cv_X5_137 (Nat.le_of_ble_eq_true rfl) (ft_5_2 hr0) (ct_X4_restart l G (rf r0 2) τ4) rfl rfl (Nat.le_of_ble_eq_true rfl) (Nat.le_of_ble_eq_true rfl) (Nat.le_of_ble_eq_true rfl) rfl dX5_does_33 (fun a5 τ6 _ => ?_)
    refine Aw.iconst (v := 0) ic_0 rfl dX5_does_36 ?_
    refine Aw.istore_n (L' := [(2, .int 0), (1, .int a1), (0, .ref (Gb G + r0))]) (Nat.le_of_ble_eq_true rfl) rfl rfl dX5_does_37 ?_
    refine Aw.sub (L' := [(0, .ref (Gb G + r0)), (2, .int 0)]) [2, 0] rfl ?_
    exact aw_X5_does_38 l G FU _ _ _
  · refine Aw.bipush (v := (-10)) ib_m10 rfl dX5_does_13 ?_
    refine Aw.iload_n 0 rfl rfl dX5_does_15 ?_
    refine Aw.isub rfl dX5_does_16 ?_
    exact Aw.iret rfl dX5_does_17
abbrev MX5_back : Mt := (RX5, cX5_back, 1, (some .int), 4)
def f_X5_back (r0 : Nat) (σ : Sg) : Option (Int32 × Sg) := if kd r0 = 5 then (cb (f_X1_takeBack (rf r0 1) (rf r0 0) σ) (fun a1 τ2 => cb (f_X5_noted r0 a1 τ2) (fun a3 τ4 => some (a3, τ4)))) else none
theorem cv_X5_156 : CV RX5 156 1 yX1_takeBack MX1_takeBack 1 := ⟨_, rfl, rfl, ml_X5_156, ins_X1_takeBack, sel_X1_takeBack, ini_X1, cw_X1_takeBack, ⟨by decide, by decide, by decide +kernel⟩⟩
set_option maxRecDepth 100000 in
set_option maxHeartbeats 4000000 in
theorem ct_X5_back (l : Launch) (G : Gt) (r0 : Nat) (σ : Sg) : Ct l G yX5_back MX5_back rI [.ref (Gb G + r0)] σ (f_X5_back r0 σ) := by
  refine Ct.of (by decide +kernel) rfl (Nat.le_of_ble_eq_true rfl) ?_
  show Aw l G MX5_back rI 0 [(0, .ref (Gb G + r0))] [] σ _
  unfold f_X5_back
  refine Aw.gd (fun hr0 => ?_)
  refine Aw.aload_n 0 rfl rfl dX5_back_0 ?_
  refine Aw.aload_n 0 rfl rfl dX5_back_1 ?_
  refine Aw.getR fl_X5_19 (Nat.le_of_ble_eq_true rfl) rfl hr0 rfl dX5_back_2 ?_
  refine Aw.aload_n 0 rfl rfl dX5_back_5 ?_
  refine Aw.getR fl_X5_12 (Nat.le_of_ble_eq_true rfl) rfl hr0 rfl dX5_back_6 ?_
  refine Aw.callVi (As := [.ref (Gb G + rf r0 0)]) (rest := [.ref (Gb G + r0)]) cv_X5_156 (Nat.le_of_ble_eq_true rfl) (ft_5_1 hr0) (ct_X1_takeBack l G (rf r0 1) (rf r0 0) σ) rfl rfl (Nat.le_of_ble_eq_true rfl) (Nat.le_of_ble_eq_true rfl) (Nat.le_of_ble_eq_true rfl) rfl dX5_back_9 (fun a1 τ2 _ => ?_)
  refine Aw.callVi (As := [.int a1]) (rest := []) cv_X5_82 (Nat.le_of_ble_eq_true rfl) hr0 (ct_X5_noted l G r0 a1 τ2) rfl rfl (Nat.le_of_ble_eq_true rfl) (Nat.le_of_ble_eq_true rfl) (Nat.le_of_ble_eq_true rfl) rfl dX5_back_12 (fun a3 τ4 _ => ?_)
  exact Aw.iret rfl dX5_back_15
abbrev MX5_told : Mt := (RX5, cX5_told, 2, (some .int), 2)
def f_X5_told_36  (r0 : Nat) (x1 : Int32) (σ : Sg) : Option (Int32 × Sg) := if kd r0 = 5 then (if inb x1 3 then (some (σ (rf r0 4) (ix x1), σ)) else none) else none
def f_X5_told (r0 : Nat) (x1 : Int32) (σ : Sg) : Option (Int32 × Sg) := if kd r0 = 5 then (if x1 = 0 then (f_X5_told_36 r0 x1 σ) else if x1 = 1 then (f_X5_told_36 r0 x1 σ) else if x1 = 2 then (f_X5_told_36 r0 x1 σ) else if x1 = 3 then (some (σ (rf r0 2) 1, σ)) else if x1 = 4 then (some (σ (rf r0 1) 2, σ)) else (cb (f_X5_noted r0 ((-2)) σ) (fun a1 τ2 => some (a1, τ2)))) else none
set_option maxRecDepth 100000 in
set_option maxHeartbeats 4000000 in
theorem aw_X5_told_36 (l : Launch) (G : Gt) (r0 : Nat) (x1 : Int32) (σ : Sg) : Aw l G MX5_told rI 36 [(0, .ref (Gb G + r0)), (1, .int x1)] [] σ (f_X5_told_36 r0 x1 σ) := by
  unfold f_X5_told_36
  refine Aw.gd (fun hr0 => ?_)
  refine Aw.aload_n 0 rfl rfl dX5_told_36 ?_
  refine Aw.getR fl_X5_37 (Nat.le_of_ble_eq_true rfl) rfl hr0 rfl dX5_told_37 ?_
  refine Aw.iload_n 1 rfl rfl dX5_told_40 ?_
  refine Aw.iald (n := 3) (ft_5_4 hr0).1 (ft_5_4 hr0).2 rfl dX5_told_41 (fun hb1 => ?_)
  exact Aw.iret rfl dX5_told_42
set_option maxRecDepth 100000 in
set_option maxHeartbeats 4000000 in
theorem ct_X5_told (l : Launch) (G : Gt) (r0 : Nat) (x1 : Int32) (σ : Sg) : Ct l G yX5_told MX5_told rI [.ref (Gb G + r0), .int x1] σ (f_X5_told r0 x1 σ) := by
  refine Ct.of (by decide +kernel) rfl (Nat.le_of_ble_eq_true rfl) ?_
  show Aw l G MX5_told rI 0 [(0, .ref (Gb G + r0)), (1, .int x1)] [] σ _
  unfold f_X5_told
  refine Aw.gd (fun hr0 => ?_)
  refine Aw.iload_n 1 rfl rfl dX5_told_0 ?_
  refine Aw.br (fun hc0 => ?_) (fun hc0 => ?_)
  · refine Aw.tsIn (off := 35) (t := 36) dX5_told_1 0 hc0 (by decide) (by decide) (by decide +kernel) (by decide) ?_
    refine Aw.sub (L' := [(0, .ref (Gb G + r0)), (1, .int x1)]) [0, 1] rfl ?_
    exact aw_X5_told_36 l G _ _ _
  refine Aw.br (fun hc1 => ?_) (fun hc1 => ?_)
  · refine Aw.tsIn (off := 35) (t := 36) dX5_told_1 1 hc1 (by decide) (by decide) (by decide +kernel) (by decide) ?_
    refine Aw.sub (L' := [(0, .ref (Gb G + r0)), (1, .int x1)]) [0, 1] rfl ?_
    exact aw_X5_told_36 l G _ _ _
  refine Aw.br (fun hc2 => ?_) (fun hc2 => ?_)
  · refine Aw.tsIn (off := 35) (t := 36) dX5_told_1 2 hc2 (by decide) (by decide) (by decide +kernel) (by decide) ?_
    refine Aw.sub (L' := [(0, .ref (Gb G + r0)), (1, .int x1)]) [0, 1] rfl ?_
    exact aw_X5_told_36 l G _ _ _
  refine Aw.br (fun hc3 => ?_) (fun hc3 => ?_)
  · refine Aw.tsIn (off := 42) (t := 43) dX5_told_1 3 hc3 (by decide) (by decide) (by decide +kernel) (by decide) ?_
    refine Aw.aload_n 0 rfl rfl dX5_told_43 ?_
    refine Aw.getR fl_X5_26 (Nat.le_of_ble_eq_true rfl) rfl hr0 rfl dX5_told_44 ?_
    refine Aw.getI fl_X5_160 (Nat.le_of_ble_eq_true rfl) rfl (ft_5_2 hr0) rfl dX5_told_47 ?_
    exact Aw.iret rfl dX5_told_50
  refine Aw.br (fun hc4 => ?_) (fun hc4 => ?_)
  · refine Aw.tsIn (off := 50) (t := 51) dX5_told_1 4 hc4 (by decide) (by decide) (by decide +kernel) (by decide) ?_
    refine Aw.aload_n 0 rfl rfl dX5_told_51 ?_
    refine Aw.getR fl_X5_19 (Nat.le_of_ble_eq_true rfl) rfl hr0 rfl dX5_told_52 ?_
    refine Aw.getI fl_X5_164 (Nat.le_of_ble_eq_true rfl) rfl (ft_5_1 hr0) rfl dX5_told_55 ?_
    exact Aw.iret rfl dX5_told_58
  refine Aw.tsOut (t := 59) dX5_told_1 (ts_out (fun k h1 h2 => ?_)) (by decide) ?_
  · rcases (show k = 0 ∨ k = 1 ∨ k = 2 ∨ k = 3 ∨ k = 4 by omega) with rfl | rfl | rfl | rfl | rfl
    · exact ts_ne (v := 0) (by decide) hc0
    · exact ts_ne (v := 1) (by decide) hc1
    · exact ts_ne (v := 2) (by decide) hc2
    · exact ts_ne (v := 3) (by decide) hc3
    · exact ts_ne (v := 4) (by decide) hc4
  refine Aw.aload_n 0 rfl rfl dX5_told_59 ?_
  refine Aw.bipush (v := (-2)) ib_m2 rfl dX5_told_60 ?_
  refine Aw.callVi (As := [.int ((-2))]) (rest := []) cv_X5_82 (Nat.le_of_ble_eq_true rfl) hr0 (ct_X5_noted l G r0 ((-2)) σ) rfl rfl (Nat.le_of_ble_eq_true rfl) (Nat.le_of_ble_eq_true rfl) (Nat.le_of_ble_eq_true rfl) rfl dX5_told_62 (fun a1 τ2 _ => ?_)
  exact Aw.iret rfl dX5_told_65
abbrev MX5_mixed : Mt := (RX5, cX5_mixed, 3, (some .long), 1)
def f_X5_mixed (y0 : Int64) (x2 : Int32) (σ : Sg) : Option (Int64 × Sg) := some ((31 * y0) + (x2.toInt64), σ)
set_option maxRecDepth 100000 in
set_option maxHeartbeats 4000000 in
theorem ct_X5_mixed (l : Launch) (G : Gt) (y0 : Int64) (x2 : Int32) (σ : Sg) : Ct l G yX5_mixed MX5_mixed rL [.long y0, .int x2] σ (f_X5_mixed y0 x2 σ) := by
  refine Ct.of (by decide +kernel) rfl (Nat.le_of_ble_eq_true rfl) ?_
  show Aw l G MX5_mixed rL 0 [(0, .long y0), (2, .int x2)] [] σ _
  unfold f_X5_mixed
  refine Aw.ldc2 kl_X5_191 rfl dX5_mixed_0 ?_
  refine Aw.lload_n 0 rfl rfl dX5_mixed_3 ?_
  refine Aw.lmul rfl dX5_mixed_4 ?_
  refine Aw.iload_n 1 rfl rfl dX5_mixed_5 ?_
  refine Aw.i2l rfl dX5_mixed_6 ?_
  refine Aw.ladd rfl dX5_mixed_7 ?_
  exact Aw.lret rfl dX5_mixed_8
abbrev MX5_mixedWithCall : Mt := (RX5, cX5_mixedWithCall, 8, (some .long), 4)
def f_X5_mixedWithCall_16 (rc6 : Nat → Int32 → Int64 → Int32 → Sg → Option (Int64 × Sg)) : Nat → Nat → Int32 → Int64 → Int32 → Int32 → Sg → Option (Int64 × Sg)
  | 0, _, _, _, _, _, _ => none
  | n + 1, r0, x3, y4, x6, x7, σ => if kd r0 = 5 then (if 3 ≤ x7 then (rc6 r0 x3 y4 (x6 + 1) σ) else (cb (f_X3_askSpotOfCall (rf r0 0) x3 x6 x7 σ) (fun a1 τ2 => cb (f_X5_mixed y4 a1 τ2) (fun a3 τ4 => f_X5_mixedWithCall_16 rc6 n r0 x3 a3 x6 (x7 + 1) τ4)))) else none
def f_X5_mixedWithCall_56  : Nat → Nat → Int32 → Int64 → Int32 → Sg → Option (Int64 × Sg)
  | 0, _, _, _, _, _ => none
  | n + 1, r0, x3, y4, x6, σ => if kd r0 = 5 then (if 4 ≤ x6 then (some (y4, σ)) else (cb (f_X3_askCall (rf r0 0) x3 x6 σ) (fun a1 τ2 => cb (f_X5_mixed y4 a1 τ2) (fun a3 τ4 => f_X5_mixedWithCall_56 n r0 x3 a3 (x6 + 1) τ4)))) else none
def f_X5_mixedWithCall_6  : Nat → Nat → Int32 → Int64 → Int32 → Sg → Option (Int64 × Sg)
  | 0, _, _, _, _, _ => none
  | n + 1, r0, x3, y4, x6, σ => if kd r0 = 5 then (if 12 ≤ x6 then (f_X5_mixedWithCall_56 FU r0 x3 y4 0 σ) else (f_X5_mixedWithCall_16 (f_X5_mixedWithCall_6 n) FU r0 x3 y4 x6 0 σ)) else none
def f_X5_mixedWithCall (r0 : Nat) (y1 : Int64) (x3 : Int32) (σ : Sg) : Option (Int64 × Sg) := if kd r0 = 5 then (f_X5_mixedWithCall_6 FU r0 x3 y1 0 σ) else none
theorem cs_X5_172 : CS RX5 172 yX5_mixed MX5_mixed 2 := ⟨ml_X5_172, sta_X5_mixed, ini_X5, cw_X5_mixed, ⟨by decide, by decide, by decide +kernel⟩⟩
set_option maxRecDepth 100000 in
set_option maxHeartbeats 4000000 in
theorem aw_X5_mixedWithCall_16 (l : Launch) (G : Gt) (rc6 : Nat → Int32 → Int64 → Int32 → Sg → Option (Int64 × Sg)) (hrc6 : ∀ (r0 : Nat) (x3 : Int32) (y4 : Int64) (x6 : Int32) (σ : Sg), Aw l G MX5_mixedWithCall rL 6 [(0, .ref (Gb G + r0)), (3, .int x3), (4, .long y4), (6, .int x6)] [] σ (rc6 r0 x3 y4 x6 σ)) : ∀ (n : Nat) (r0 : Nat) (x3 : Int32) (y4 : Int64) (x6 : Int32) (x7 : Int32) (σ : Sg), Aw l G MX5_mixedWithCall rL 16 [(0, .ref (Gb G + r0)), (3, .int x3), (4, .long y4), (6, .int x6), (7, .int x7)] [] σ (f_X5_mixedWithCall_16 rc6 n r0 x3 y4 x6 x7 σ) := by
  intro n
  induction n with
  | zero => intro r0 x3 y4 x6 x7 σ; exact Aw.no
  | succ n ih =>
    intro r0 x3 y4 x6 x7 σ
    rw [f_X5_mixedWithCall_16]
    refine Aw.gd (fun hr0 => ?_)
    refine Aw.iload 4 rfl rfl dX5_mixedWithCall_16 ?_
    refine Aw.iconst (v := 3) ic_3 rfl dX5_mixedWithCall_18 ?_
    refine Aw.icmp_ge (q := 22) (t := 47) rfl (by decide) dX5_mixedWithCall_19 (fun hc => ?_) (fun hc => ?_)
    · refine Aw.iinc (v := x6 + 1) (L' := [(6, .int (x6 + 1)), (0, .ref (Gb G + r0)), (3, .int x3), (4, .long y4), (7, .int x7)]) 3 rfl (ii_1 _) (Nat.le_of_ble_eq_true rfl) rfl rfl dX5_mixedWithCall_47 ?_
      refine Aw.goto (q := 6) (by decide) dX5_mixedWithCall_50 ?_
      refine Aw.sub (L' := [(0, .ref (Gb G + r0)), (3, .int x3), (4, .long y4), (6, .int (x6 + 1))]) [1, 2, 3, 0] rfl ?_
      exact hrc6 _ _ _ _ _
    · refine Aw.lload 2 rfl rfl dX5_mixedWithCall_22 ?_
      refine Aw.aload_n 0 rfl rfl dX5_mixedWithCall_24 ?_
      refine Aw.getR fl_X5_12 (Nat.le_of_ble_eq_true rfl) rfl hr0 rfl dX5_mixedWithCall_25 ?_
      refine Aw.iload_n 1 rfl rfl dX5_mixedWithCall_28 ?_
      refine Aw.iload 3 rfl rfl dX5_mixedWithCall_29 ?_
      refine Aw.iload 4 rfl rfl dX5_mixedWithCall_31 ?_
      refine Aw.callVi (As := [.int x3, .int x6, .int x7]) (rest := [.long y4]) cv_X5_92 (Nat.le_of_ble_eq_true rfl) (ft_5_0 hr0) (ct_X3_askSpotOfCall l G (rf r0 0) x3 x6 x7 σ) rfl rfl (Nat.le_of_ble_eq_true rfl) (Nat.le_of_ble_eq_true rfl) (Nat.le_of_ble_eq_true rfl) rfl dX5_mixedWithCall_33 (fun a1 τ2 _ => ?_)
      refine Aw.callSl (As := [.long y4, .int a1]) (rest := []) cs_X5_172 (ct_X5_mixed l G y4 a1 τ2) rfl rfl (Nat.le_of_ble_eq_true rfl) (Nat.le_of_ble_eq_true rfl) (Nat.le_of_ble_eq_true rfl) rfl dX5_mixedWithCall_36 (fun a3 τ4 _ => ?_)
      refine Aw.lstore (L' := [(4, .long a3), (0, .ref (Gb G + r0)), (3, .int x3), (6, .int x6), (7, .int x7)]) (Nat.le_of_ble_eq_true rfl) rfl rfl dX5_mixedWithCall_39 ?_
      refine Aw.iinc (v := x7 + 1) (L' := [(7, .int (x7 + 1)), (4, .long a3), (0, .ref (Gb G + r0)), (3, .int x3), (6, .int x6)]) 4 rfl (ii_1 _) (Nat.le_of_ble_eq_true rfl) rfl rfl dX5_mixedWithCall_41 ?_
      refine Aw.goto (q := 16) (by decide) dX5_mixedWithCall_44 ?_
      refine Aw.sub (L' := [(0, .ref (Gb G + r0)), (3, .int x3), (4, .long a3), (6, .int x6), (7, .int (x7 + 1))]) [2, 3, 1, 4, 0] rfl ?_
      exact ih _ _ _ _ _ _
set_option maxRecDepth 100000 in
set_option maxHeartbeats 4000000 in
theorem aw_X5_mixedWithCall_56 (l : Launch) (G : Gt) : ∀ (n : Nat) (r0 : Nat) (x3 : Int32) (y4 : Int64) (x6 : Int32) (σ : Sg), Aw l G MX5_mixedWithCall rL 56 [(0, .ref (Gb G + r0)), (3, .int x3), (4, .long y4), (6, .int x6)] [] σ (f_X5_mixedWithCall_56 n r0 x3 y4 x6 σ) := by
  intro n
  induction n with
  | zero => intro r0 x3 y4 x6 σ; exact Aw.no
  | succ n ih =>
    intro r0 x3 y4 x6 σ
    rw [f_X5_mixedWithCall_56]
    refine Aw.gd (fun hr0 => ?_)
    refine Aw.iload 3 rfl rfl dX5_mixedWithCall_56 ?_
    refine Aw.iconst (v := 4) ic_4 rfl dX5_mixedWithCall_58 ?_
    refine Aw.icmp_ge (q := 62) (t := 85) rfl (by decide) dX5_mixedWithCall_59 (fun hc => ?_) (fun hc => ?_)
    · refine Aw.lload 2 rfl rfl dX5_mixedWithCall_85 ?_
      exact Aw.lret rfl dX5_mixedWithCall_87
    · refine Aw.lload 2 rfl rfl dX5_mixedWithCall_62 ?_
      refine Aw.aload_n 0 rfl rfl dX5_mixedWithCall_64 ?_
      refine Aw.getR fl_X5_12 (Nat.le_of_ble_eq_true rfl) rfl hr0 rfl dX5_mixedWithCall_65 ?_
      refine Aw.iload_n 1 rfl rfl dX5_mixedWithCall_68 ?_
      refine Aw.iload 3 rfl rfl dX5_mixedWithCall_69 ?_
      refine Aw.callVi (As := [.int x3, .int x6]) (rest := [.long y4]) cv_X5_95 (Nat.le_of_ble_eq_true rfl) (ft_5_0 hr0) (ct_X3_askCall l G (rf r0 0) x3 x6 σ) rfl rfl (Nat.le_of_ble_eq_true rfl) (Nat.le_of_ble_eq_true rfl) (Nat.le_of_ble_eq_true rfl) rfl dX5_mixedWithCall_71 (fun a1 τ2 _ => ?_)
      refine Aw.callSl (As := [.long y4, .int a1]) (rest := []) cs_X5_172 (ct_X5_mixed l G y4 a1 τ2) rfl rfl (Nat.le_of_ble_eq_true rfl) (Nat.le_of_ble_eq_true rfl) (Nat.le_of_ble_eq_true rfl) rfl dX5_mixedWithCall_74 (fun a3 τ4 _ => ?_)
      refine Aw.lstore (L' := [(4, .long a3), (0, .ref (Gb G + r0)), (3, .int x3), (6, .int x6)]) (Nat.le_of_ble_eq_true rfl) rfl rfl dX5_mixedWithCall_77 ?_
      refine Aw.iinc (v := x6 + 1) (L' := [(6, .int (x6 + 1)), (4, .long a3), (0, .ref (Gb G + r0)), (3, .int x3)]) 3 rfl (ii_1 _) (Nat.le_of_ble_eq_true rfl) rfl rfl dX5_mixedWithCall_79 ?_
      refine Aw.goto (q := 56) (by decide) dX5_mixedWithCall_82 ?_
      refine Aw.sub (L' := [(0, .ref (Gb G + r0)), (3, .int x3), (4, .long a3), (6, .int (x6 + 1))]) [2, 3, 1, 0] rfl ?_
      exact ih _ _ _ _ _
set_option maxRecDepth 100000 in
set_option maxHeartbeats 4000000 in
theorem aw_X5_mixedWithCall_6 (l : Launch) (G : Gt) : ∀ (n : Nat) (r0 : Nat) (x3 : Int32) (y4 : Int64) (x6 : Int32) (σ : Sg), Aw l G MX5_mixedWithCall rL 6 [(0, .ref (Gb G + r0)), (3, .int x3), (4, .long y4), (6, .int x6)] [] σ (f_X5_mixedWithCall_6 n r0 x3 y4 x6 σ) := by
  intro n
  induction n with
  | zero => intro r0 x3 y4 x6 σ; exact Aw.no
  | succ n ih =>
    intro r0 x3 y4 x6 σ
    rw [f_X5_mixedWithCall_6]
    refine Aw.gd (fun hr0 => ?_)
    refine Aw.iload 3 rfl rfl dX5_mixedWithCall_6 ?_
    refine Aw.bipush (v := 12) ib_12 rfl dX5_mixedWithCall_8 ?_
    refine Aw.icmp_ge (q := 13) (t := 53) rfl (by decide) dX5_mixedWithCall_10 (fun hc => ?_) (fun hc => ?_)
    · refine Aw.iconst (v := 0) ic_0 rfl dX5_mixedWithCall_53 ?_
      refine Aw.istore (L' := [(6, .int 0), (0, .ref (Gb G + r0)), (3, .int x3), (4, .long y4)]) (Nat.le_of_ble_eq_true rfl) rfl rfl dX5_mixedWithCall_54 ?_
      refine Aw.sub (L' := [(0, .ref (Gb G + r0)), (3, .int x3), (4, .long y4), (6, .int 0)]) [1, 2, 3, 0] rfl ?_
      exact aw_X5_mixedWithCall_56 l G FU _ _ _ _ _
    · refine Aw.iconst (v := 0) ic_0 rfl dX5_mixedWithCall_13 ?_
      refine Aw.istore (L' := [(7, .int 0), (0, .ref (Gb G + r0)), (3, .int x3), (4, .long y4), (6, .int x6)]) (Nat.le_of_ble_eq_true rfl) rfl rfl dX5_mixedWithCall_14 ?_
      refine Aw.sub (L' := [(0, .ref (Gb G + r0)), (3, .int x3), (4, .long y4), (6, .int x6), (7, .int 0)]) [1, 2, 3, 4, 0] rfl ?_
      exact aw_X5_mixedWithCall_16 l G _ ih FU _ _ _ _ _ _
set_option maxRecDepth 100000 in
set_option maxHeartbeats 4000000 in
theorem ct_X5_mixedWithCall (l : Launch) (G : Gt) (r0 : Nat) (y1 : Int64) (x3 : Int32) (σ : Sg) : Ct l G yX5_mixedWithCall MX5_mixedWithCall rL [.ref (Gb G + r0), .long y1, .int x3] σ (f_X5_mixedWithCall r0 y1 x3 σ) := by
  refine Ct.of (by decide +kernel) rfl (Nat.le_of_ble_eq_true rfl) ?_
  show Aw l G MX5_mixedWithCall rL 0 [(0, .ref (Gb G + r0)), (1, .long y1), (3, .int x3)] [] σ _
  unfold f_X5_mixedWithCall
  refine Aw.gd (fun hr0 => ?_)
  refine Aw.lload_n 1 rfl rfl dX5_mixedWithCall_0 ?_
  refine Aw.lstore (L' := [(4, .long y1), (0, .ref (Gb G + r0)), (1, .long y1), (3, .int x3)]) (Nat.le_of_ble_eq_true rfl) rfl rfl dX5_mixedWithCall_1 ?_
  refine Aw.iconst (v := 0) ic_0 rfl dX5_mixedWithCall_3 ?_
  refine Aw.istore (L' := [(6, .int 0), (4, .long y1), (0, .ref (Gb G + r0)), (1, .long y1), (3, .int x3)]) (Nat.le_of_ble_eq_true rfl) rfl rfl dX5_mixedWithCall_4 ?_
  refine Aw.sub (L' := [(0, .ref (Gb G + r0)), (3, .int x3), (4, .long y1), (6, .int 0)]) [2, 4, 1, 0] rfl ?_
  exact aw_X5_mixedWithCall_6 l G FU _ _ _ _ _
abbrev MX5_digest : Mt := (RX5, cX5_digest, 5, (some .long), 5)
def f_X5_digest_70 (rc56 : Nat → Int64 → Int32 → Sg → Option (Int64 × Sg)) : Nat → Nat → Int64 → Int32 → Int32 → Sg → Option (Int64 × Sg)
  | 0, _, _, _, _, _ => none
  | n + 1, r0, y1, x3, x4, σ => if kd r0 = 5 then (if 7 ≤ x4 then (rc56 r0 y1 (x3 + 1) σ) else (cb (f_X3_askDancer (rf r0 0) x3 x4 σ) (fun a1 τ2 => cb (f_X5_mixed y1 a1 τ2) (fun a3 τ4 => f_X5_digest_70 rc56 n r0 a3 x3 (x4 + 1) τ4)))) else none
def f_X5_digest_132  : Nat → Nat → Int64 → Int32 → Sg → Option (Int64 × Sg)
  | 0, _, _, _, _ => none
  | n + 1, r0, y1, x3, σ => if kd r0 = 5 then (if σ (rf r0 0) 5 ≤ x3 then (some (y1, σ)) else (if inb x3 12 then (cb (f_X5_mixed y1 (σ (rf (rf r0 0) 6) (ix x3)) σ) (fun a2 τ3 => f_X5_digest_132 n r0 a2 (x3 + 1) τ3)) else none)) else none
def f_X5_digest_106  : Nat → Nat → Int64 → Int32 → Sg → Option (Int64 × Sg)
  | 0, _, _, _, _ => none
  | n + 1, r0, y1, x3, σ => if kd r0 = 5 then (if σ (rf r0 0) 3 ≤ x3 then (f_X5_digest_132 FU r0 y1 0 σ) else (cb (f_X5_mixedWithCall r0 y1 x3 σ) (fun a1 τ2 => f_X5_digest_106 n r0 a1 (x3 + 1) τ2))) else none
def f_X5_digest_56  : Nat → Nat → Int64 → Int32 → Sg → Option (Int64 × Sg)
  | 0, _, _, _, _ => none
  | n + 1, r0, y1, x3, σ => if kd r0 = 5 then (if σ (rf r0 0) 0 ≤ x3 then (f_X5_digest_106 FU r0 y1 0 σ) else (f_X5_digest_70 (f_X5_digest_56 n) FU r0 y1 x3 0 σ)) else none
def f_X5_digest_29  : Nat → Nat → Int64 → Int32 → Sg → Option (Int64 × Sg)
  | 0, _, _, _, _ => none
  | n + 1, r0, y1, x3, σ => if kd r0 = 5 then (if 7 ≤ x3 then (f_X5_digest_56 FU r0 y1 0 σ) else (cb (f_X3_askCount (rf r0 0) x3 σ) (fun a1 τ2 => cb (f_X5_mixed y1 a1 τ2) (fun a3 τ4 => f_X5_digest_29 n r0 a3 (x3 + 1) τ4)))) else none
def f_X5_digest_6  : Nat → Nat → Int64 → Int32 → Sg → Option (Int64 × Sg)
  | 0, _, _, _, _ => none
  | n + 1, r0, y1, x3, σ => if kd r0 = 5 then (if 5 ≤ x3 then (f_X5_digest_29 FU r0 y1 0 σ) else (cb (f_X5_told r0 x3 σ) (fun a1 τ2 => cb (f_X5_mixed y1 a1 τ2) (fun a3 τ4 => f_X5_digest_6 n r0 a3 (x3 + 1) τ4)))) else none
def f_X5_digest (r0 : Nat) (σ : Sg) : Option (Int64 × Sg) := if kd r0 = 5 then (f_X5_digest_6 FU r0 2633 0 σ) else none
theorem cv_X5_169 : CV RX5 169 5 yX5_told MX5_told 1 := ⟨_, rfl, rfl, ml_X5_169, ins_X5_told, sel_X5_told, ini_X5, cw_X5_told, ⟨by decide, by decide, by decide +kernel⟩⟩
theorem cv_X5_182 : CV RX5 182 5 yX5_mixedWithCall MX5_mixedWithCall 2 := ⟨_, rfl, rfl, ml_X5_182, ins_X5_mixedWithCall, sel_X5_mixedWithCall, ini_X5, cw_X5_mixedWithCall, ⟨by decide, by decide, by decide +kernel⟩⟩
set_option maxRecDepth 100000 in
set_option maxHeartbeats 4000000 in
theorem aw_X5_digest_70 (l : Launch) (G : Gt) (rc56 : Nat → Int64 → Int32 → Sg → Option (Int64 × Sg)) (hrc56 : ∀ (r0 : Nat) (y1 : Int64) (x3 : Int32) (σ : Sg), Aw l G MX5_digest rL 56 [(0, .ref (Gb G + r0)), (1, .long y1), (3, .int x3)] [] σ (rc56 r0 y1 x3 σ)) : ∀ (n : Nat) (r0 : Nat) (y1 : Int64) (x3 : Int32) (x4 : Int32) (σ : Sg), Aw l G MX5_digest rL 70 [(0, .ref (Gb G + r0)), (1, .long y1), (3, .int x3), (4, .int x4)] [] σ (f_X5_digest_70 rc56 n r0 y1 x3 x4 σ) := by
  intro n
  induction n with
  | zero => intro r0 y1 x3 x4 σ; exact Aw.no
  | succ n ih =>
    intro r0 y1 x3 x4 σ
    rw [f_X5_digest_70]
    refine Aw.gd (fun hr0 => ?_)
    refine Aw.iload 3 rfl rfl dX5_digest_70 ?_
    refine Aw.bipush (v := 7) ib_7 rfl dX5_digest_72 ?_
    refine Aw.icmp_ge (q := 77) (t := 98) rfl (by decide) dX5_digest_74 (fun hc => ?_) (fun hc => ?_)
    · refine Aw.iinc (v := x3 + 1) (L' := [(3, .int (x3 + 1)), (0, .ref (Gb G + r0)), (1, .long y1), (4, .int x4)]) 2 rfl (ii_1 _) (Nat.le_of_ble_eq_true rfl) rfl rfl dX5_digest_98 ?_
      refine Aw.goto (q := 56) (by decide) dX5_digest_101 ?_
      refine Aw.sub (L' := [(0, .ref (Gb G + r0)), (1, .long y1), (3, .int (x3 + 1))]) [1, 2, 0] rfl ?_
      exact hrc56 _ _ _ _
    · refine Aw.lload_n 1 rfl rfl dX5_digest_77 ?_
      refine Aw.aload_n 0 rfl rfl dX5_digest_78 ?_
      refine Aw.getR fl_X5_12 (Nat.le_of_ble_eq_true rfl) rfl hr0 rfl dX5_digest_79 ?_
      refine Aw.iload_n 2 rfl rfl dX5_digest_82 ?_
      refine Aw.iload 3 rfl rfl dX5_digest_83 ?_
      refine Aw.callVi (As := [.int x3, .int x4]) (rest := [.long y1]) cv_X5_79 (Nat.le_of_ble_eq_true rfl) (ft_5_0 hr0) (ct_X3_askDancer l G (rf r0 0) x3 x4 σ) rfl rfl (Nat.le_of_ble_eq_true rfl) (Nat.le_of_ble_eq_true rfl) (Nat.le_of_ble_eq_true rfl) rfl dX5_digest_85 (fun a1 τ2 _ => ?_)
      refine Aw.callSl (As := [.long y1, .int a1]) (rest := []) cs_X5_172 (ct_X5_mixed l G y1 a1 τ2) rfl rfl (Nat.le_of_ble_eq_true rfl) (Nat.le_of_ble_eq_true rfl) (Nat.le_of_ble_eq_true rfl) rfl dX5_digest_88 (fun a3 τ4 _ => ?_)
      refine Aw.lstore_n (L' := [(1, .long a3), (0, .ref (Gb G + r0)), (3, .int x3), (4, .int x4)]) (Nat.le_of_ble_eq_true rfl) rfl rfl dX5_digest_91 ?_
      refine Aw.iinc (v := x4 + 1) (L' := [(4, .int (x4 + 1)), (1, .long a3), (0, .ref (Gb G + r0)), (3, .int x3)]) 3 rfl (ii_1 _) (Nat.le_of_ble_eq_true rfl) rfl rfl dX5_digest_92 ?_
      refine Aw.goto (q := 70) (by decide) dX5_digest_95 ?_
      refine Aw.sub (L' := [(0, .ref (Gb G + r0)), (1, .long a3), (3, .int x3), (4, .int (x4 + 1))]) [2, 1, 3, 0] rfl ?_
      exact ih _ _ _ _ _
set_option maxRecDepth 100000 in
set_option maxHeartbeats 4000000 in
theorem aw_X5_digest_132 (l : Launch) (G : Gt) : ∀ (n : Nat) (r0 : Nat) (y1 : Int64) (x3 : Int32) (σ : Sg), Aw l G MX5_digest rL 132 [(0, .ref (Gb G + r0)), (1, .long y1), (3, .int x3)] [] σ (f_X5_digest_132 n r0 y1 x3 σ) := by
  intro n
  induction n with
  | zero => intro r0 y1 x3 σ; exact Aw.no
  | succ n ih =>
    intro r0 y1 x3 σ
    rw [f_X5_digest_132]
    refine Aw.gd (fun hr0 => ?_)
    refine Aw.iload_n 2 rfl rfl dX5_digest_132 ?_
    refine Aw.aload_n 0 rfl rfl dX5_digest_133 ?_
    refine Aw.getR fl_X5_12 (Nat.le_of_ble_eq_true rfl) rfl hr0 rfl dX5_digest_134 ?_
    refine Aw.getI fl_X5_185 (Nat.le_of_ble_eq_true rfl) rfl (ft_5_0 hr0) rfl dX5_digest_137 ?_
    refine Aw.icmp_ge (q := 143) (t := 163) rfl (by decide) dX5_digest_140 (fun hc => ?_) (fun hc => ?_)
    · refine Aw.lload_n 1 rfl rfl dX5_digest_163 ?_
      exact Aw.lret rfl dX5_digest_164
    · refine Aw.lload_n 1 rfl rfl dX5_digest_143 ?_
      refine Aw.aload_n 0 rfl rfl dX5_digest_144 ?_
      refine Aw.getR fl_X5_12 (Nat.le_of_ble_eq_true rfl) rfl hr0 rfl dX5_digest_145 ?_
      refine Aw.getR fl_X5_188 (Nat.le_of_ble_eq_true rfl) rfl (ft_5_0 hr0) rfl dX5_digest_148 ?_
      refine Aw.iload_n 2 rfl rfl dX5_digest_151 ?_
      refine Aw.iald (n := 12) (ft_3_6 (ft_5_0 hr0)).1 (ft_3_6 (ft_5_0 hr0)).2 rfl dX5_digest_152 (fun hb1 => ?_)
      refine Aw.callSl (As := [.long y1, .int (σ (rf (rf r0 0) 6) (ix x3))]) (rest := []) cs_X5_172 (ct_X5_mixed l G y1 (σ (rf (rf r0 0) 6) (ix x3)) σ) rfl rfl (Nat.le_of_ble_eq_true rfl) (Nat.le_of_ble_eq_true rfl) (Nat.le_of_ble_eq_true rfl) rfl dX5_digest_153 (fun a2 τ3 _ => ?_)
      refine Aw.lstore_n (L' := [(1, .long a2), (0, .ref (Gb G + r0)), (3, .int x3)]) (Nat.le_of_ble_eq_true rfl) rfl rfl dX5_digest_156 ?_
      refine Aw.iinc (v := x3 + 1) (L' := [(3, .int (x3 + 1)), (1, .long a2), (0, .ref (Gb G + r0))]) 2 rfl (ii_1 _) (Nat.le_of_ble_eq_true rfl) rfl rfl dX5_digest_157 ?_
      refine Aw.goto (q := 132) (by decide) dX5_digest_160 ?_
      refine Aw.sub (L' := [(0, .ref (Gb G + r0)), (1, .long a2), (3, .int (x3 + 1))]) [2, 1, 0] rfl ?_
      exact ih _ _ _ _
set_option maxRecDepth 100000 in
set_option maxHeartbeats 4000000 in
theorem aw_X5_digest_106 (l : Launch) (G : Gt) : ∀ (n : Nat) (r0 : Nat) (y1 : Int64) (x3 : Int32) (σ : Sg), Aw l G MX5_digest rL 106 [(0, .ref (Gb G + r0)), (1, .long y1), (3, .int x3)] [] σ (f_X5_digest_106 n r0 y1 x3 σ) := by
  intro n
  induction n with
  | zero => intro r0 y1 x3 σ; exact Aw.no
  | succ n ih =>
    intro r0 y1 x3 σ
    rw [f_X5_digest_106]
    refine Aw.gd (fun hr0 => ?_)
    refine Aw.iload_n 2 rfl rfl dX5_digest_106 ?_
    refine Aw.aload_n 0 rfl rfl dX5_digest_107 ?_
    refine Aw.getR fl_X5_12 (Nat.le_of_ble_eq_true rfl) rfl hr0 rfl dX5_digest_108 ?_
    refine Aw.getI fl_X5_179 (Nat.le_of_ble_eq_true rfl) rfl (ft_5_0 hr0) rfl dX5_digest_111 ?_
    refine Aw.icmp_ge (q := 117) (t := 130) rfl (by decide) dX5_digest_114 (fun hc => ?_) (fun hc => ?_)
    · refine Aw.iconst (v := 0) ic_0 rfl dX5_digest_130 ?_
      refine Aw.istore_n (L' := [(3, .int 0), (0, .ref (Gb G + r0)), (1, .long y1)]) (Nat.le_of_ble_eq_true rfl) rfl rfl dX5_digest_131 ?_
      refine Aw.sub (L' := [(0, .ref (Gb G + r0)), (1, .long y1), (3, .int 0)]) [1, 2, 0] rfl ?_
      exact aw_X5_digest_132 l G FU _ _ _ _
    · refine Aw.aload_n 0 rfl rfl dX5_digest_117 ?_
      refine Aw.lload_n 1 rfl rfl dX5_digest_118 ?_
      refine Aw.iload_n 2 rfl rfl dX5_digest_119 ?_
      refine Aw.callVl (As := [.long y1, .int x3]) (rest := []) cv_X5_182 (Nat.le_of_ble_eq_true rfl) hr0 (ct_X5_mixedWithCall l G r0 y1 x3 σ) rfl rfl (Nat.le_of_ble_eq_true rfl) (Nat.le_of_ble_eq_true rfl) (Nat.le_of_ble_eq_true rfl) rfl dX5_digest_120 (fun a1 τ2 _ => ?_)
      refine Aw.lstore_n (L' := [(1, .long a1), (0, .ref (Gb G + r0)), (3, .int x3)]) (Nat.le_of_ble_eq_true rfl) rfl rfl dX5_digest_123 ?_
      refine Aw.iinc (v := x3 + 1) (L' := [(3, .int (x3 + 1)), (1, .long a1), (0, .ref (Gb G + r0))]) 2 rfl (ii_1 _) (Nat.le_of_ble_eq_true rfl) rfl rfl dX5_digest_124 ?_
      refine Aw.goto (q := 106) (by decide) dX5_digest_127 ?_
      refine Aw.sub (L' := [(0, .ref (Gb G + r0)), (1, .long a1), (3, .int (x3 + 1))]) [2, 1, 0] rfl ?_
      exact ih _ _ _ _
set_option maxRecDepth 100000 in
set_option maxHeartbeats 4000000 in
theorem aw_X5_digest_56 (l : Launch) (G : Gt) : ∀ (n : Nat) (r0 : Nat) (y1 : Int64) (x3 : Int32) (σ : Sg), Aw l G MX5_digest rL 56 [(0, .ref (Gb G + r0)), (1, .long y1), (3, .int x3)] [] σ (f_X5_digest_56 n r0 y1 x3 σ) := by
  intro n
  induction n with
  | zero => intro r0 y1 x3 σ; exact Aw.no
  | succ n ih =>
    intro r0 y1 x3 σ
    rw [f_X5_digest_56]
    refine Aw.gd (fun hr0 => ?_)
    refine Aw.iload_n 2 rfl rfl dX5_digest_56 ?_
    refine Aw.aload_n 0 rfl rfl dX5_digest_57 ?_
    refine Aw.getR fl_X5_12 (Nat.le_of_ble_eq_true rfl) rfl hr0 rfl dX5_digest_58 ?_
    refine Aw.getI fl_X5_176 (Nat.le_of_ble_eq_true rfl) rfl (ft_5_0 hr0) rfl dX5_digest_61 ?_
    refine Aw.icmp_ge (q := 67) (t := 104) rfl (by decide) dX5_digest_64 (fun hc => ?_) (fun hc => ?_)
    · refine Aw.iconst (v := 0) ic_0 rfl dX5_digest_104 ?_
      refine Aw.istore_n (L' := [(3, .int 0), (0, .ref (Gb G + r0)), (1, .long y1)]) (Nat.le_of_ble_eq_true rfl) rfl rfl dX5_digest_105 ?_
      refine Aw.sub (L' := [(0, .ref (Gb G + r0)), (1, .long y1), (3, .int 0)]) [1, 2, 0] rfl ?_
      exact aw_X5_digest_106 l G FU _ _ _ _
    · refine Aw.iconst (v := 0) ic_0 rfl dX5_digest_67 ?_
      refine Aw.istore (L' := [(4, .int 0), (0, .ref (Gb G + r0)), (1, .long y1), (3, .int x3)]) (Nat.le_of_ble_eq_true rfl) rfl rfl dX5_digest_68 ?_
      refine Aw.sub (L' := [(0, .ref (Gb G + r0)), (1, .long y1), (3, .int x3), (4, .int 0)]) [1, 2, 3, 0] rfl ?_
      exact aw_X5_digest_70 l G _ ih FU _ _ _ _ _
set_option maxRecDepth 100000 in
set_option maxHeartbeats 4000000 in
theorem aw_X5_digest_29 (l : Launch) (G : Gt) : ∀ (n : Nat) (r0 : Nat) (y1 : Int64) (x3 : Int32) (σ : Sg), Aw l G MX5_digest rL 29 [(0, .ref (Gb G + r0)), (1, .long y1), (3, .int x3)] [] σ (f_X5_digest_29 n r0 y1 x3 σ) := by
  intro n
  induction n with
  | zero => intro r0 y1 x3 σ; exact Aw.no
  | succ n ih =>
    intro r0 y1 x3 σ
    rw [f_X5_digest_29]
    refine Aw.gd (fun hr0 => ?_)
    refine Aw.iload_n 2 rfl rfl dX5_digest_29 ?_
    refine Aw.bipush (v := 7) ib_7 rfl dX5_digest_30 ?_
    refine Aw.icmp_ge (q := 35) (t := 54) rfl (by decide) dX5_digest_32 (fun hc => ?_) (fun hc => ?_)
    · refine Aw.iconst (v := 0) ic_0 rfl dX5_digest_54 ?_
      refine Aw.istore_n (L' := [(3, .int 0), (0, .ref (Gb G + r0)), (1, .long y1)]) (Nat.le_of_ble_eq_true rfl) rfl rfl dX5_digest_55 ?_
      refine Aw.sub (L' := [(0, .ref (Gb G + r0)), (1, .long y1), (3, .int 0)]) [1, 2, 0] rfl ?_
      exact aw_X5_digest_56 l G FU _ _ _ _
    · refine Aw.lload_n 1 rfl rfl dX5_digest_35 ?_
      refine Aw.aload_n 0 rfl rfl dX5_digest_36 ?_
      refine Aw.getR fl_X5_12 (Nat.le_of_ble_eq_true rfl) rfl hr0 rfl dX5_digest_37 ?_
      refine Aw.iload_n 2 rfl rfl dX5_digest_40 ?_
      refine Aw.callVi (As := [.int x3]) (rest := [.long y1]) cv_X5_125 (Nat.le_of_ble_eq_true rfl) (ft_5_0 hr0) (ct_X3_askCount l G (rf r0 0) x3 σ) rfl rfl (Nat.le_of_ble_eq_true rfl) (Nat.le_of_ble_eq_true rfl) (Nat.le_of_ble_eq_true rfl) rfl dX5_digest_41 (fun a1 τ2 _ => ?_)
      refine Aw.callSl (As := [.long y1, .int a1]) (rest := []) cs_X5_172 (ct_X5_mixed l G y1 a1 τ2) rfl rfl (Nat.le_of_ble_eq_true rfl) (Nat.le_of_ble_eq_true rfl) (Nat.le_of_ble_eq_true rfl) rfl dX5_digest_44 (fun a3 τ4 _ => ?_)
      refine Aw.lstore_n (L' := [(1, .long a3), (0, .ref (Gb G + r0)), (3, .int x3)]) (Nat.le_of_ble_eq_true rfl) rfl rfl dX5_digest_47 ?_
      refine Aw.iinc (v := x3 + 1) (L' := [(3, .int (x3 + 1)), (1, .long a3), (0, .ref (Gb G + r0))]) 2 rfl (ii_1 _) (Nat.le_of_ble_eq_true rfl) rfl rfl dX5_digest_48 ?_
      refine Aw.goto (q := 29) (by decide) dX5_digest_51 ?_
      refine Aw.sub (L' := [(0, .ref (Gb G + r0)), (1, .long a3), (3, .int (x3 + 1))]) [2, 1, 0] rfl ?_
      exact ih _ _ _ _
set_option maxRecDepth 100000 in
set_option maxHeartbeats 4000000 in
theorem aw_X5_digest_6 (l : Launch) (G : Gt) : ∀ (n : Nat) (r0 : Nat) (y1 : Int64) (x3 : Int32) (σ : Sg), Aw l G MX5_digest rL 6 [(0, .ref (Gb G + r0)), (1, .long y1), (3, .int x3)] [] σ (f_X5_digest_6 n r0 y1 x3 σ) := by
  intro n
  induction n with
  | zero => intro r0 y1 x3 σ; exact Aw.no
  | succ n ih =>
    intro r0 y1 x3 σ
    rw [f_X5_digest_6]
    refine Aw.gd (fun hr0 => ?_)
    refine Aw.iload_n 2 rfl rfl dX5_digest_6 ?_
    refine Aw.iconst (v := 5) ic_5 rfl dX5_digest_7 ?_
    refine Aw.icmp_ge (q := 11) (t := 27) rfl (by decide) dX5_digest_8 (fun hc => ?_) (fun hc => ?_)
    · refine Aw.iconst (v := 0) ic_0 rfl dX5_digest_27 ?_
      refine Aw.istore_n (L' := [(3, .int 0), (0, .ref (Gb G + r0)), (1, .long y1)]) (Nat.le_of_ble_eq_true rfl) rfl rfl dX5_digest_28 ?_
      refine Aw.sub (L' := [(0, .ref (Gb G + r0)), (1, .long y1), (3, .int 0)]) [1, 2, 0] rfl ?_
      exact aw_X5_digest_29 l G FU _ _ _ _
    · refine Aw.lload_n 1 rfl rfl dX5_digest_11 ?_
      refine Aw.aload_n 0 rfl rfl dX5_digest_12 ?_
      refine Aw.iload_n 2 rfl rfl dX5_digest_13 ?_
      refine Aw.callVi (As := [.int x3]) (rest := [.long y1]) cv_X5_169 (Nat.le_of_ble_eq_true rfl) hr0 (ct_X5_told l G r0 x3 σ) rfl rfl (Nat.le_of_ble_eq_true rfl) (Nat.le_of_ble_eq_true rfl) (Nat.le_of_ble_eq_true rfl) rfl dX5_digest_14 (fun a1 τ2 _ => ?_)
      refine Aw.callSl (As := [.long y1, .int a1]) (rest := []) cs_X5_172 (ct_X5_mixed l G y1 a1 τ2) rfl rfl (Nat.le_of_ble_eq_true rfl) (Nat.le_of_ble_eq_true rfl) (Nat.le_of_ble_eq_true rfl) rfl dX5_digest_17 (fun a3 τ4 _ => ?_)
      refine Aw.lstore_n (L' := [(1, .long a3), (0, .ref (Gb G + r0)), (3, .int x3)]) (Nat.le_of_ble_eq_true rfl) rfl rfl dX5_digest_20 ?_
      refine Aw.iinc (v := x3 + 1) (L' := [(3, .int (x3 + 1)), (1, .long a3), (0, .ref (Gb G + r0))]) 2 rfl (ii_1 _) (Nat.le_of_ble_eq_true rfl) rfl rfl dX5_digest_21 ?_
      refine Aw.goto (q := 6) (by decide) dX5_digest_24 ?_
      refine Aw.sub (L' := [(0, .ref (Gb G + r0)), (1, .long a3), (3, .int (x3 + 1))]) [2, 1, 0] rfl ?_
      exact ih _ _ _ _
set_option maxRecDepth 100000 in
set_option maxHeartbeats 4000000 in
theorem ct_X5_digest (l : Launch) (G : Gt) (r0 : Nat) (σ : Sg) : Ct l G yX5_digest MX5_digest rL [.ref (Gb G + r0)] σ (f_X5_digest r0 σ) := by
  refine Ct.of (by decide +kernel) rfl (Nat.le_of_ble_eq_true rfl) ?_
  show Aw l G MX5_digest rL 0 [(0, .ref (Gb G + r0))] [] σ _
  unfold f_X5_digest
  refine Aw.gd (fun hr0 => ?_)
  refine Aw.ldc2 kl_X5_167 rfl dX5_digest_0 ?_
  refine Aw.lstore_n (L' := [(1, .long 2633), (0, .ref (Gb G + r0))]) (Nat.le_of_ble_eq_true rfl) rfl rfl dX5_digest_3 ?_
  refine Aw.iconst (v := 0) ic_0 rfl dX5_digest_4 ?_
  refine Aw.istore_n (L' := [(3, .int 0), (1, .long 2633), (0, .ref (Gb G + r0))]) (Nat.le_of_ble_eq_true rfl) rfl rfl dX5_digest_5 ?_
  refine Aw.sub (L' := [(0, .ref (Gb G + r0)), (1, .long 2633), (3, .int 0)]) [2, 1, 0] rfl ?_
  exact aw_X5_digest_6 l G FU _ _ _ _
