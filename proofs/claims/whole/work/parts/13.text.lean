abbrev MX4_append : Mt := (RX4, cX4_append, 2, (some .int), 2)
def f_X4_append (r0 : Nat) (x1 : Int32) (σ : Sg) : Option (Int32 × Sg) := if kd r0 = 4 then (cb (f_X5_isBelow x1 128 σ) (fun a1 τ2 => if a1 = 0 then (some ((-2), τ2)) else (if τ2 r0 1 < 120 then (if inb (τ2 r0 1) 120 then (bn (up τ2 (rf r0 0) (ix (τ2 r0 1)) x1) (fun τ4 => bn (up τ4 r0 1 ((τ4 r0 1) + 1)) (fun τ5 => some (τ5 r0 1, τ5)))) else none) else (some ((-4), τ2))))) else none
theorem cn_X4_21 : CN RX4 21 yX5_isBelow RX5 MX5_isBelow 2 := ⟨by decide +kernel, sta_X5_isBelow, ini_X5, cw_X5_isBelow, ⟨by decide, by decide, by decide +kernel⟩⟩
set_option maxRecDepth 100000 in
set_option maxHeartbeats 4000000 in
theorem ct_X4_append (l : Launch) (G : Gt) (r0 : Nat) (x1 : Int32) (σ : Sg) : Ct l G yX4_append MX4_append rI [.ref (Gb G + r0), .int x1] σ (f_X4_append r0 x1 σ) := by
  refine Ct.of (by decide +kernel) rfl (Nat.le_of_ble_eq_true rfl) ?_
  show Aw l G MX4_append rI 0 [(0, .ref (Gb G + r0)), (1, .int x1)] [] σ _
  unfold f_X4_append
  refine Aw.gd (fun hr0 => ?_)
  refine Aw.iload_n 1 rfl rfl dX4_append_0 ?_
  refine Aw.sipush (v := 128) is_128 rfl dX4_append_1 ?_
  refine Aw.callNi (As := [.int x1, .int 128]) (rest := []) cn_X4_21 (ct_X5_isBelow l G x1 128 σ) rfl rfl (Nat.le_of_ble_eq_true rfl) (Nat.le_of_ble_eq_true rfl) (Nat.le_of_ble_eq_true rfl) rfl dX4_append_4 (fun a1 τ2 _ => ?_)
  refine Aw.if_ne (q := 10) (t := 13) rfl (by decide) dX4_append_7 (fun hc => ?_) (fun hc => ?_)
  · refine Aw.bipush (v := (-2)) ib_m2 rfl dX4_append_10 ?_
    exact Aw.iret rfl dX4_append_12
  · refine Aw.aload_n 0 rfl rfl dX4_append_13 ?_
    refine Aw.getI fl_X4_25 (Nat.le_of_ble_eq_true rfl) rfl hr0 rfl dX4_append_14 ?_
    refine Aw.bipush (v := 120) ib_120 rfl dX4_append_17 ?_
    refine Aw.icmp_lt (q := 22) (t := 25) rfl (by decide) dX4_append_19 (fun hc => ?_) (fun hc => ?_)
    · refine Aw.aload_n 0 rfl rfl dX4_append_25 ?_
      refine Aw.getR fl_X4_9 (Nat.le_of_ble_eq_true rfl) rfl hr0 rfl dX4_append_26 ?_
      refine Aw.aload_n 0 rfl rfl dX4_append_29 ?_
      refine Aw.getI fl_X4_25 (Nat.le_of_ble_eq_true rfl) rfl hr0 rfl dX4_append_30 ?_
      refine Aw.iload_n 1 rfl rfl dX4_append_33 ?_
      refine Aw.iast (n := 120) (ft_4_0 hr0).1 (ft_4_0 hr0).2 rfl dX4_append_34 (fun hb3 => ?_)
      refine Aw.bs (fun τ4 => ?_)
      refine Aw.aload_n 0 rfl rfl dX4_append_35 ?_
      refine Aw.dupr rfl dX4_append_36 ?_
      refine Aw.getI fl_X4_25 (Nat.le_of_ble_eq_true rfl) rfl hr0 rfl dX4_append_37 ?_
      refine Aw.iconst (v := 1) ic_1 rfl dX4_append_40 ?_
      refine Aw.iadd rfl dX4_append_41 ?_
      refine Aw.putI (v := (τ4 r0 1) + 1) fl_X4_25 fp_4_1 rfl rfl (Nat.le_of_ble_eq_true rfl) rfl hr0 rfl dX4_append_42 ?_
      refine Aw.bs (fun τ5 => ?_)
      refine Aw.aload_n 0 rfl rfl dX4_append_45 ?_
      refine Aw.getI fl_X4_25 (Nat.le_of_ble_eq_true rfl) rfl hr0 rfl dX4_append_46 ?_
      exact Aw.iret rfl dX4_append_49
    · refine Aw.bipush (v := (-4)) ib_m4 rfl dX4_append_22 ?_
      exact Aw.iret rfl dX4_append_24
abbrev MX4_empty : Mt := (RX4, cX4_empty, 2, (some .int), 1)
def f_X4_empty (r0 : Nat) (σ : Sg) : Option (Int32 × Sg) := if kd r0 = 4 then (bn (σ r0 1) (fun b1 => bn (up σ r0 1 0) (fun τ2 => some (b1, τ2)))) else none
set_option maxRecDepth 100000 in
set_option maxHeartbeats 4000000 in
theorem ct_X4_empty (l : Launch) (G : Gt) (r0 : Nat) (σ : Sg) : Ct l G yX4_empty MX4_empty rI [.ref (Gb G + r0)] σ (f_X4_empty r0 σ) := by
  refine Ct.of (by decide +kernel) rfl (Nat.le_of_ble_eq_true rfl) ?_
  show Aw l G MX4_empty rI 0 [(0, .ref (Gb G + r0))] [] σ _
  unfold f_X4_empty
  refine Aw.gd (fun hr0 => ?_)
  refine Aw.aload_n 0 rfl rfl dX4_empty_0 ?_
  refine Aw.getI fl_X4_25 (Nat.le_of_ble_eq_true rfl) rfl hr0 rfl dX4_empty_1 ?_
  refine Aw.bi (fun b1 => ?_)
  refine Aw.istore_n (L' := [(1, .int b1), (0, .ref (Gb G + r0))]) (Nat.le_of_ble_eq_true rfl) rfl rfl dX4_empty_4 ?_
  refine Aw.aload_n 1 rfl rfl dX4_empty_5 ?_
  refine Aw.iconst (v := 0) ic_0 rfl dX4_empty_6 ?_
  refine Aw.putI (v := 0) fl_X4_25 fp_4_1 rfl rfl (Nat.le_of_ble_eq_true rfl) rfl hr0 rfl dX4_empty_7 ?_
  refine Aw.bs (fun τ2 => ?_)
  refine Aw.iload_n 0 rfl rfl dX4_empty_10 ?_
  exact Aw.iret rfl dX4_empty_11
abbrev MX4_restart : Mt := (RX4, cX4_restart, 1, none, 1)
def f_X4_restart (r0 : Nat) (σ : Sg) : Option (Unit × Sg) := if kd r0 = 4 then (bn (up σ r0 2 0) (fun τ1 => bn (up τ1 r0 3 ((-1))) (fun τ2 => some ((), τ2)))) else none
set_option maxRecDepth 100000 in
set_option maxHeartbeats 4000000 in
theorem ct_X4_restart (l : Launch) (G : Gt) (r0 : Nat) (σ : Sg) : Ct l G yX4_restart MX4_restart rV [.ref (Gb G + r0)] σ (f_X4_restart r0 σ) := by
  refine Ct.of (by decide +kernel) rfl (Nat.le_of_ble_eq_true rfl) ?_
  show Aw l G MX4_restart rV 0 [(0, .ref (Gb G + r0))] [] σ _
  unfold f_X4_restart
  refine Aw.gd (fun hr0 => ?_)
  refine Aw.aload_n 0 rfl rfl dX4_restart_0 ?_
  refine Aw.iconst (v := 0) ic_0 rfl dX4_restart_1 ?_
  refine Aw.putI (v := 0) fl_X4_29 fp_4_2 rfl rfl (Nat.le_of_ble_eq_true rfl) rfl hr0 rfl dX4_restart_2 ?_
  refine Aw.bs (fun τ1 => ?_)
  refine Aw.aload_n 0 rfl rfl dX4_restart_5 ?_
  refine Aw.iconst (v := (-1)) ic_m1 rfl dX4_restart_6 ?_
  refine Aw.putI (v := (-1)) fl_X4_32 fp_4_3 rfl rfl (Nat.le_of_ble_eq_true rfl) rfl hr0 rfl dX4_restart_7 ?_
  refine Aw.bs (fun τ2 => ?_)
  exact Aw.vret rfl dX4_restart_10
abbrev MX4_skipBlanks : Mt := (RX4, cX4_skipBlanks, 1, none, 1)
def f_X4_skipBlanks_0  : Nat → Nat → Sg → Option (Unit × Sg)
  | 0, _, _ => none
  | n + 1, r0, σ => if kd r0 = 4 then (if σ r0 1 ≤ σ r0 2 then (some ((), σ)) else (if inb (σ r0 2) 120 then (if σ (rf r0 0) (ix (σ r0 2)) = 32 then (bn (up σ r0 2 ((σ r0 2) + 1)) (fun τ2 => f_X4_skipBlanks_0 n r0 τ2)) else (some ((), σ))) else none)) else none
def f_X4_skipBlanks (r0 : Nat) (σ : Sg) : Option (Unit × Sg) := if kd r0 = 4 then (f_X4_skipBlanks_0 FU r0 σ) else none
set_option maxRecDepth 100000 in
set_option maxHeartbeats 4000000 in
theorem aw_X4_skipBlanks_0 (l : Launch) (G : Gt) : ∀ (n : Nat) (r0 : Nat) (σ : Sg), Aw l G MX4_skipBlanks rV 0 [(0, .ref (Gb G + r0))] [] σ (f_X4_skipBlanks_0 n r0 σ) := by
  intro n
  induction n with
  | zero => intro r0 σ; exact Aw.no
  | succ n ih =>
    intro r0 σ
    rw [f_X4_skipBlanks_0]
    refine Aw.gd (fun hr0 => ?_)
    refine Aw.aload_n 0 rfl rfl dX4_skipBlanks_0 ?_
    refine Aw.getI fl_X4_29 (Nat.le_of_ble_eq_true rfl) rfl hr0 rfl dX4_skipBlanks_1 ?_
    refine Aw.aload_n 0 rfl rfl dX4_skipBlanks_4 ?_
    refine Aw.getI fl_X4_25 (Nat.le_of_ble_eq_true rfl) rfl hr0 rfl dX4_skipBlanks_5 ?_
    refine Aw.icmp_ge (q := 11) (t := 38) rfl (by decide) dX4_skipBlanks_8 (fun hc => ?_) (fun hc => ?_)
    · exact Aw.vret rfl dX4_skipBlanks_38
    · refine Aw.aload_n 0 rfl rfl dX4_skipBlanks_11 ?_
      refine Aw.getR fl_X4_9 (Nat.le_of_ble_eq_true rfl) rfl hr0 rfl dX4_skipBlanks_12 ?_
      refine Aw.aload_n 0 rfl rfl dX4_skipBlanks_15 ?_
      refine Aw.getI fl_X4_29 (Nat.le_of_ble_eq_true rfl) rfl hr0 rfl dX4_skipBlanks_16 ?_
      refine Aw.iald (n := 120) (ft_4_0 hr0).1 (ft_4_0 hr0).2 rfl dX4_skipBlanks_19 (fun hb1 => ?_)
      refine Aw.bipush (v := 32) ib_32 rfl dX4_skipBlanks_20 ?_
      refine Aw.icmp_ne (q := 25) (t := 38) rfl (by decide) dX4_skipBlanks_22 (fun hc => ?_) (fun hc => ?_)
      · refine Aw.aload_n 0 rfl rfl dX4_skipBlanks_25 ?_
        refine Aw.dupr rfl dX4_skipBlanks_26 ?_
        refine Aw.getI fl_X4_29 (Nat.le_of_ble_eq_true rfl) rfl hr0 rfl dX4_skipBlanks_27 ?_
        refine Aw.iconst (v := 1) ic_1 rfl dX4_skipBlanks_30 ?_
        refine Aw.iadd rfl dX4_skipBlanks_31 ?_
        refine Aw.putI (v := (σ r0 2) + 1) fl_X4_29 fp_4_2 rfl rfl (Nat.le_of_ble_eq_true rfl) rfl hr0 rfl dX4_skipBlanks_32 ?_
        refine Aw.bs (fun τ2 => ?_)
        refine Aw.goto (q := 0) (by decide) dX4_skipBlanks_35 ?_
        refine Aw.sub (L' := [(0, .ref (Gb G + r0))]) [0] rfl ?_
        exact ih _ _
      · exact Aw.vret rfl dX4_skipBlanks_38
set_option maxRecDepth 100000 in
set_option maxHeartbeats 4000000 in
theorem ct_X4_skipBlanks (l : Launch) (G : Gt) (r0 : Nat) (σ : Sg) : Ct l G yX4_skipBlanks MX4_skipBlanks rV [.ref (Gb G + r0)] σ (f_X4_skipBlanks r0 σ) := by
  refine Ct.of (by decide +kernel) rfl (Nat.le_of_ble_eq_true rfl) ?_
  show Aw l G MX4_skipBlanks rV 0 [(0, .ref (Gb G + r0))] [] σ _
  unfold f_X4_skipBlanks
  refine Aw.gd (fun hr0 => ?_)
  refine Aw.sub (L' := [(0, .ref (Gb G + r0))]) [0] rfl ?_
  exact aw_X4_skipBlanks_0 l G FU _ _
abbrev MX4_nextSign : Mt := (RX4, cX4_nextSign, 1, (some .int), 2)
def f_X4_nextSign (r0 : Nat) (σ : Sg) : Option (Int32 × Sg) := if kd r0 = 4 then (cb (f_X4_skipBlanks r0 σ) (fun _ τ2 => if τ2 r0 1 ≤ τ2 r0 2 then (some ((-1), τ2)) else (if inb (τ2 r0 2) 120 then (some (τ2 (rf r0 0) (ix (τ2 r0 2)), τ2)) else none))) else none
theorem cv_X4_78 : CV RX4 78 4 yX4_skipBlanks MX4_skipBlanks 0 := ⟨_, rfl, rfl, ml_X4_78, ins_X4_skipBlanks, sel_X4_skipBlanks, ini_X4, cw_X4_skipBlanks, ⟨by decide, by decide, by decide +kernel⟩⟩
set_option maxRecDepth 100000 in
set_option maxHeartbeats 4000000 in
theorem ct_X4_nextSign (l : Launch) (G : Gt) (r0 : Nat) (σ : Sg) : Ct l G yX4_nextSign MX4_nextSign rI [.ref (Gb G + r0)] σ (f_X4_nextSign r0 σ) := by
  refine Ct.of (by decide +kernel) rfl (Nat.le_of_ble_eq_true rfl) ?_
  show Aw l G MX4_nextSign rI 0 [(0, .ref (Gb G + r0))] [] σ _
  unfold f_X4_nextSign
  refine Aw.gd (fun hr0 => ?_)
  refine Aw.aload_n 0 rfl rfl dX4_nextSign_0 ?_
  refine Aw.callVv (As := []) (rest := []) cv_X4_78 (Nat.le_of_ble_eq_true rfl) hr0 (ct_X4_skipBlanks l G r0 σ) rfl rfl (Nat.le_of_ble_eq_true rfl) (Nat.le_of_ble_eq_true rfl) (Nat.le_of_ble_eq_true rfl) rfl dX4_nextSign_1 (fun a1 τ2 _ => ?_)
  refine Aw.aload_n 0 rfl rfl dX4_nextSign_4 ?_
  refine Aw.getI fl_X4_29 (Nat.le_of_ble_eq_true rfl) rfl hr0 rfl dX4_nextSign_5 ?_
  refine Aw.aload_n 0 rfl rfl dX4_nextSign_8 ?_
  refine Aw.getI fl_X4_25 (Nat.le_of_ble_eq_true rfl) rfl hr0 rfl dX4_nextSign_9 ?_
  refine Aw.icmp_ge (q := 15) (t := 27) rfl (by decide) dX4_nextSign_12 (fun hc => ?_) (fun hc => ?_)
  · refine Aw.iconst (v := (-1)) ic_m1 rfl dX4_nextSign_27 ?_
    exact Aw.iret rfl dX4_nextSign_28
  · refine Aw.aload_n 0 rfl rfl dX4_nextSign_15 ?_
    refine Aw.getR fl_X4_9 (Nat.le_of_ble_eq_true rfl) rfl hr0 rfl dX4_nextSign_16 ?_
    refine Aw.aload_n 0 rfl rfl dX4_nextSign_19 ?_
    refine Aw.getI fl_X4_29 (Nat.le_of_ble_eq_true rfl) rfl hr0 rfl dX4_nextSign_20 ?_
    refine Aw.iald (n := 120) (ft_4_0 hr0).1 (ft_4_0 hr0).2 rfl dX4_nextSign_23 (fun hb3 => ?_)
    refine Aw.goto (q := 28) (by decide) dX4_nextSign_24 ?_
    exact Aw.iret rfl dX4_nextSign_28
abbrev MX4_hasMore : Mt := (RX4, cX4_hasMore, 1, (some .boolean), 3)
def f_X4_hasMore (r0 : Nat) (σ : Sg) : Option (Int32 × Sg) := if kd r0 = 4 then (cb (f_X4_nextSign r0 σ) (fun a1 τ2 => if a1 = (-1) then (some (0, τ2)) else (some (1, τ2)))) else none
theorem cv_X4_35 : CV RX4 35 4 yX4_nextSign MX4_nextSign 0 := ⟨_, rfl, rfl, ml_X4_35, ins_X4_nextSign, sel_X4_nextSign, ini_X4, cw_X4_nextSign, ⟨by decide, by decide, by decide +kernel⟩⟩
set_option maxRecDepth 100000 in
set_option maxHeartbeats 4000000 in
theorem ct_X4_hasMore (l : Launch) (G : Gt) (r0 : Nat) (σ : Sg) : Ct l G yX4_hasMore MX4_hasMore rI [.ref (Gb G + r0)] σ (f_X4_hasMore r0 σ) := by
  refine Ct.of (by decide +kernel) rfl (Nat.le_of_ble_eq_true rfl) ?_
  show Aw l G MX4_hasMore rI 0 [(0, .ref (Gb G + r0))] [] σ _
  unfold f_X4_hasMore
  refine Aw.gd (fun hr0 => ?_)
  refine Aw.aload_n 0 rfl rfl dX4_hasMore_0 ?_
  refine Aw.callVi (As := []) (rest := []) cv_X4_35 (Nat.le_of_ble_eq_true rfl) hr0 (ct_X4_nextSign l G r0 σ) rfl rfl (Nat.le_of_ble_eq_true rfl) (Nat.le_of_ble_eq_true rfl) (Nat.le_of_ble_eq_true rfl) rfl dX4_hasMore_1 (fun a1 τ2 _ => ?_)
  refine Aw.iconst (v := (-1)) ic_m1 rfl dX4_hasMore_4 ?_
  refine Aw.icmp_eq (q := 8) (t := 12) rfl (by decide) dX4_hasMore_5 (fun hc => ?_) (fun hc => ?_)
  · refine Aw.iconst (v := 0) ic_0 rfl dX4_hasMore_12 ?_
    exact Aw.zret rfl rfl dX4_hasMore_13
  · refine Aw.iconst (v := 1) ic_1 rfl dX4_hasMore_8 ?_
    refine Aw.goto (q := 13) (by decide) dX4_hasMore_9 ?_
    exact Aw.zret rfl rfl dX4_hasMore_13
abbrev MX4_fails : Mt := (RX4, cX4_fails, 2, (some .boolean), 1)
def f_X4_fails (r0 : Nat) (x1 : Int32) (σ : Sg) : Option (Int32 × Sg) := if kd r0 = 4 then (bn (up σ r0 3 x1) (fun τ1 => some (0, τ1))) else none
set_option maxRecDepth 100000 in
set_option maxHeartbeats 4000000 in
theorem ct_X4_fails (l : Launch) (G : Gt) (r0 : Nat) (x1 : Int32) (σ : Sg) : Ct l G yX4_fails MX4_fails rI [.ref (Gb G + r0), .int x1] σ (f_X4_fails r0 x1 σ) := by
  refine Ct.of (by decide +kernel) rfl (Nat.le_of_ble_eq_true rfl) ?_
  show Aw l G MX4_fails rI 0 [(0, .ref (Gb G + r0)), (1, .int x1)] [] σ _
  unfold f_X4_fails
  refine Aw.gd (fun hr0 => ?_)
  refine Aw.aload_n 0 rfl rfl dX4_fails_0 ?_
  refine Aw.iload_n 1 rfl rfl dX4_fails_1 ?_
  refine Aw.putI (v := x1) fl_X4_32 fp_4_3 rfl rfl (Nat.le_of_ble_eq_true rfl) rfl hr0 rfl dX4_fails_2 ?_
  refine Aw.bs (fun τ1 => ?_)
  refine Aw.iconst (v := 0) ic_0 rfl dX4_fails_5 ?_
  exact Aw.zret rfl rfl dX4_fails_6
abbrev MX4_numbersBehind : Mt := (RX4, cX4_numbersBehind, 1, (some .int), 1)
def f_X4_numbersBehind (x0 : Int32) (σ : Sg) : Option (Int32 × Sg) := if x0 = 100 then (some (2, σ)) else if x0 = 101 then (some ((-1), σ)) else if x0 = 102 then (some ((-1), σ)) else if x0 = 103 then (some (1, σ)) else if x0 = 104 then (some ((-1), σ)) else if x0 = 105 then (some ((-1), σ)) else if x0 = 106 then (some ((-1), σ)) else if x0 = 107 then (some (0, σ)) else if x0 = 108 then (some ((-1), σ)) else if x0 = 109 then (some ((-1), σ)) else if x0 = 110 then (some ((-1), σ)) else if x0 = 111 then (some ((-1), σ)) else if x0 = 112 then (some (1, σ)) else if x0 = 113 then (some ((-1), σ)) else if x0 = 114 then (some ((-1), σ)) else if x0 = 115 then (some ((-1), σ)) else if x0 = 116 then (some ((-1), σ)) else if x0 = 117 then (some (3, σ)) else if x0 = 118 then (some ((-1), σ)) else if x0 = 119 then (some (3, σ)) else (some ((-1), σ))
set_option maxRecDepth 100000 in
set_option maxHeartbeats 4000000 in
theorem ct_X4_numbersBehind (l : Launch) (G : Gt) (x0 : Int32) (σ : Sg) : Ct l G yX4_numbersBehind MX4_numbersBehind rI [.int x0] σ (f_X4_numbersBehind x0 σ) := by
  refine Ct.of (by decide +kernel) rfl (Nat.le_of_ble_eq_true rfl) ?_
  show Aw l G MX4_numbersBehind rI 0 [(0, .int x0)] [] σ _
  unfold f_X4_numbersBehind
  refine Aw.iload_n 0 rfl rfl dX4_numbersBehind_0 ?_
  refine Aw.br (fun hc100 => ?_) (fun hc100 => ?_)
  · refine Aw.tsIn (off := 99) (t := 100) dX4_numbersBehind_1 100 hc100 (by decide) (by decide) (by decide +kernel) (by decide) ?_
    refine Aw.iconst (v := 2) ic_2 rfl dX4_numbersBehind_100 ?_
    exact Aw.iret rfl dX4_numbersBehind_101
  refine Aw.br (fun hc101 => ?_) (fun hc101 => ?_)
  · refine Aw.tsIn (off := 103) (t := 104) dX4_numbersBehind_1 101 hc101 (by decide) (by decide) (by decide +kernel) (by decide) ?_
    refine Aw.iconst (v := (-1)) ic_m1 rfl dX4_numbersBehind_104 ?_
    exact Aw.iret rfl dX4_numbersBehind_105
  refine Aw.br (fun hc102 => ?_) (fun hc102 => ?_)
  · refine Aw.tsIn (off := 103) (t := 104) dX4_numbersBehind_1 102 hc102 (by decide) (by decide) (by decide +kernel) (by decide) ?_
    refine Aw.iconst (v := (-1)) ic_m1 rfl dX4_numbersBehind_104 ?_
    exact Aw.iret rfl dX4_numbersBehind_105
  refine Aw.br (fun hc103 => ?_) (fun hc103 => ?_)
  · refine Aw.tsIn (off := 97) (t := 98) dX4_numbersBehind_1 103 hc103 (by decide) (by decide) (by decide +kernel) (by decide) ?_
    refine Aw.iconst (v := 1) ic_1 rfl dX4_numbersBehind_98 ?_
    exact Aw.iret rfl dX4_numbersBehind_99
  refine Aw.br (fun hc104 => ?_) (fun hc104 => ?_)
  · refine Aw.tsIn (off := 103) (t := 104) dX4_numbersBehind_1 104 hc104 (by decide) (by decide) (by decide +kernel) (by decide) ?_
    refine Aw.iconst (v := (-1)) ic_m1 rfl dX4_numbersBehind_104 ?_
    exact Aw.iret rfl dX4_numbersBehind_105
  refine Aw.br (fun hc105 => ?_) (fun hc105 => ?_)
  · refine Aw.tsIn (off := 103) (t := 104) dX4_numbersBehind_1 105 hc105 (by decide) (by decide) (by decide +kernel) (by decide) ?_
    refine Aw.iconst (v := (-1)) ic_m1 rfl dX4_numbersBehind_104 ?_
    exact Aw.iret rfl dX4_numbersBehind_105
  refine Aw.br (fun hc106 => ?_) (fun hc106 => ?_)
  · refine Aw.tsIn (off := 103) (t := 104) dX4_numbersBehind_1 106 hc106 (by decide) (by decide) (by decide +kernel) (by decide) ?_
    refine Aw.iconst (v := (-1)) ic_m1 rfl dX4_numbersBehind_104 ?_
    exact Aw.iret rfl dX4_numbersBehind_105
  refine Aw.br (fun hc107 => ?_) (fun hc107 => ?_)
  · refine Aw.tsIn (off := 95) (t := 96) dX4_numbersBehind_1 107 hc107 (by decide) (by decide) (by decide +kernel) (by decide) ?_
    refine Aw.iconst (v := 0) ic_0 rfl dX4_numbersBehind_96 ?_
    exact Aw.iret rfl dX4_numbersBehind_97
  refine Aw.br (fun hc108 => ?_) (fun hc108 => ?_)
  · refine Aw.tsIn (off := 103) (t := 104) dX4_numbersBehind_1 108 hc108 (by decide) (by decide) (by decide +kernel) (by decide) ?_
    refine Aw.iconst (v := (-1)) ic_m1 rfl dX4_numbersBehind_104 ?_
    exact Aw.iret rfl dX4_numbersBehind_105
  refine Aw.br (fun hc109 => ?_) (fun hc109 => ?_)
  · refine Aw.tsIn (off := 103) (t := 104) dX4_numbersBehind_1 109 hc109 (by decide) (by decide) (by decide +kernel) (by decide) ?_
    refine Aw.iconst (v := (-1)) ic_m1 rfl dX4_numbersBehind_104 ?_
    exact Aw.iret rfl dX4_numbersBehind_105
  refine Aw.br (fun hc110 => ?_) (fun hc110 => ?_)
  · refine Aw.tsIn (off := 103) (t := 104) dX4_numbersBehind_1 110 hc110 (by decide) (by decide) (by decide +kernel) (by decide) ?_
    refine Aw.iconst (v := (-1)) ic_m1 rfl dX4_numbersBehind_104 ?_
    exact Aw.iret rfl dX4_numbersBehind_105
  refine Aw.br (fun hc111 => ?_) (fun hc111 => ?_)
  · refine Aw.tsIn (off := 103) (t := 104) dX4_numbersBehind_1 111 hc111 (by decide) (by decide) (by decide +kernel) (by decide) ?_
    refine Aw.iconst (v := (-1)) ic_m1 rfl dX4_numbersBehind_104 ?_
    exact Aw.iret rfl dX4_numbersBehind_105
  refine Aw.br (fun hc112 => ?_) (fun hc112 => ?_)
  · refine Aw.tsIn (off := 97) (t := 98) dX4_numbersBehind_1 112 hc112 (by decide) (by decide) (by decide +kernel) (by decide) ?_
    refine Aw.iconst (v := 1) ic_1 rfl dX4_numbersBehind_98 ?_
    exact Aw.iret rfl dX4_numbersBehind_99
  refine Aw.br (fun hc113 => ?_) (fun hc113 => ?_)
  · refine Aw.tsIn (off := 103) (t := 104) dX4_numbersBehind_1 113 hc113 (by decide) (by decide) (by decide +kernel) (by decide) ?_
    refine Aw.iconst (v := (-1)) ic_m1 rfl dX4_numbersBehind_104 ?_
    exact Aw.iret rfl dX4_numbersBehind_105
  refine Aw.br (fun hc114 => ?_) (fun hc114 => ?_)
  · refine Aw.tsIn (off := 103) (t := 104) dX4_numbersBehind_1 114 hc114 (by decide) (by decide) (by decide +kernel) (by decide) ?_
    refine Aw.iconst (v := (-1)) ic_m1 rfl dX4_numbersBehind_104 ?_
    exact Aw.iret rfl dX4_numbersBehind_105
  refine Aw.br (fun hc115 => ?_) (fun hc115 => ?_)
  · refine Aw.tsIn (off := 103) (t := 104) dX4_numbersBehind_1 115 hc115 (by decide) (by decide) (by decide +kernel) (by decide) ?_
    refine Aw.iconst (v := (-1)) ic_m1 rfl dX4_numbersBehind_104 ?_
    exact Aw.iret rfl dX4_numbersBehind_105
  refine Aw.br (fun hc116 => ?_) (fun hc116 => ?_)
  · refine Aw.tsIn (off := 103) (t := 104) dX4_numbersBehind_1 116 hc116 (by decide) (by decide) (by decide +kernel) (by decide) ?_
    refine Aw.iconst (v := (-1)) ic_m1 rfl dX4_numbersBehind_104 ?_
    exact Aw.iret rfl dX4_numbersBehind_105
  refine Aw.br (fun hc117 => ?_) (fun hc117 => ?_)
  · refine Aw.tsIn (off := 101) (t := 102) dX4_numbersBehind_1 117 hc117 (by decide) (by decide) (by decide +kernel) (by decide) ?_
    refine Aw.iconst (v := 3) ic_3 rfl dX4_numbersBehind_102 ?_
    exact Aw.iret rfl dX4_numbersBehind_103
  refine Aw.br (fun hc118 => ?_) (fun hc118 => ?_)
  · refine Aw.tsIn (off := 103) (t := 104) dX4_numbersBehind_1 118 hc118 (by decide) (by decide) (by decide +kernel) (by decide) ?_
    refine Aw.iconst (v := (-1)) ic_m1 rfl dX4_numbersBehind_104 ?_
    exact Aw.iret rfl dX4_numbersBehind_105
  refine Aw.br (fun hc119 => ?_) (fun hc119 => ?_)
  · refine Aw.tsIn (off := 101) (t := 102) dX4_numbersBehind_1 119 hc119 (by decide) (by decide) (by decide +kernel) (by decide) ?_
    refine Aw.iconst (v := 3) ic_3 rfl dX4_numbersBehind_102 ?_
    exact Aw.iret rfl dX4_numbersBehind_103
  refine Aw.tsOut (t := 104) dX4_numbersBehind_1 (ts_out (fun k h1 h2 => ?_)) (by decide) ?_
  · rcases (show k = 100 ∨ k = 101 ∨ k = 102 ∨ k = 103 ∨ k = 104 ∨ k = 105 ∨ k = 106 ∨ k = 107 ∨ k = 108 ∨ k = 109 ∨ k = 110 ∨ k = 111 ∨ k = 112 ∨ k = 113 ∨ k = 114 ∨ k = 115 ∨ k = 116 ∨ k = 117 ∨ k = 118 ∨ k = 119 by omega) with rfl | rfl | rfl | rfl | rfl | rfl | rfl | rfl | rfl | rfl | rfl | rfl | rfl | rfl | rfl | rfl | rfl | rfl | rfl | rfl
    · exact ts_ne (v := 100) (by decide) hc100
    · exact ts_ne (v := 101) (by decide) hc101
    · exact ts_ne (v := 102) (by decide) hc102
    · exact ts_ne (v := 103) (by decide) hc103
    · exact ts_ne (v := 104) (by decide) hc104
    · exact ts_ne (v := 105) (by decide) hc105
    · exact ts_ne (v := 106) (by decide) hc106
    · exact ts_ne (v := 107) (by decide) hc107
    · exact ts_ne (v := 108) (by decide) hc108
    · exact ts_ne (v := 109) (by decide) hc109
    · exact ts_ne (v := 110) (by decide) hc110
    · exact ts_ne (v := 111) (by decide) hc111
    · exact ts_ne (v := 112) (by decide) hc112
    · exact ts_ne (v := 113) (by decide) hc113
    · exact ts_ne (v := 114) (by decide) hc114
    · exact ts_ne (v := 115) (by decide) hc115
    · exact ts_ne (v := 116) (by decide) hc116
    · exact ts_ne (v := 117) (by decide) hc117
    · exact ts_ne (v := 118) (by decide) hc118
    · exact ts_ne (v := 119) (by decide) hc119
  refine Aw.iconst (v := (-1)) ic_m1 rfl dX4_numbersBehind_104 ?_
  exact Aw.iret rfl dX4_numbersBehind_105
abbrev MX4_isFigure : Mt := (RX4, cX4_isFigure, 1, (some .boolean), 1)
def f_X4_isFigure (r0 : Nat) (σ : Sg) : Option (Int32 × Sg) := if kd r0 = 4 then (if σ r0 1 ≤ σ r0 2 then (some (0, σ)) else (if inb (σ r0 2) 120 then (if σ (rf r0 0) (ix (σ r0 2)) < 48 then (some (0, σ)) else (if inb (σ r0 2) 120 then (if 57 < σ (rf r0 0) (ix (σ r0 2)) then (some (0, σ)) else (some (1, σ))) else none)) else none)) else none
set_option maxRecDepth 100000 in
set_option maxHeartbeats 4000000 in
theorem ct_X4_isFigure (l : Launch) (G : Gt) (r0 : Nat) (σ : Sg) : Ct l G yX4_isFigure MX4_isFigure rI [.ref (Gb G + r0)] σ (f_X4_isFigure r0 σ) := by
  refine Ct.of (by decide +kernel) rfl (Nat.le_of_ble_eq_true rfl) ?_
  show Aw l G MX4_isFigure rI 0 [(0, .ref (Gb G + r0))] [] σ _
  unfold f_X4_isFigure
  refine Aw.gd (fun hr0 => ?_)
  refine Aw.aload_n 0 rfl rfl dX4_isFigure_0 ?_
  refine Aw.getI fl_X4_29 (Nat.le_of_ble_eq_true rfl) rfl hr0 rfl dX4_isFigure_1 ?_
  refine Aw.aload_n 0 rfl rfl dX4_isFigure_4 ?_
  refine Aw.getI fl_X4_25 (Nat.le_of_ble_eq_true rfl) rfl hr0 rfl dX4_isFigure_5 ?_
  refine Aw.icmp_ge (q := 11) (t := 43) rfl (by decide) dX4_isFigure_8 (fun hc => ?_) (fun hc => ?_)
  · refine Aw.iconst (v := 0) ic_0 rfl dX4_isFigure_43 ?_
    exact Aw.zret rfl rfl dX4_isFigure_44
  · refine Aw.aload_n 0 rfl rfl dX4_isFigure_11 ?_
    refine Aw.getR fl_X4_9 (Nat.le_of_ble_eq_true rfl) rfl hr0 rfl dX4_isFigure_12 ?_
    refine Aw.aload_n 0 rfl rfl dX4_isFigure_15 ?_
    refine Aw.getI fl_X4_29 (Nat.le_of_ble_eq_true rfl) rfl hr0 rfl dX4_isFigure_16 ?_
    refine Aw.iald (n := 120) (ft_4_0 hr0).1 (ft_4_0 hr0).2 rfl dX4_isFigure_19 (fun hb1 => ?_)
    refine Aw.bipush (v := 48) ib_48 rfl dX4_isFigure_20 ?_
    refine Aw.icmp_lt (q := 25) (t := 43) rfl (by decide) dX4_isFigure_22 (fun hc => ?_) (fun hc => ?_)
    · refine Aw.iconst (v := 0) ic_0 rfl dX4_isFigure_43 ?_
      exact Aw.zret rfl rfl dX4_isFigure_44
    · refine Aw.aload_n 0 rfl rfl dX4_isFigure_25 ?_
      refine Aw.getR fl_X4_9 (Nat.le_of_ble_eq_true rfl) rfl hr0 rfl dX4_isFigure_26 ?_
      refine Aw.aload_n 0 rfl rfl dX4_isFigure_29 ?_
      refine Aw.getI fl_X4_29 (Nat.le_of_ble_eq_true rfl) rfl hr0 rfl dX4_isFigure_30 ?_
      refine Aw.iald (n := 120) (ft_4_0 hr0).1 (ft_4_0 hr0).2 rfl dX4_isFigure_33 (fun hb2 => ?_)
      refine Aw.bipush (v := 57) ib_57 rfl dX4_isFigure_34 ?_
      refine Aw.icmp_gt (q := 39) (t := 43) rfl (by decide) dX4_isFigure_36 (fun hc => ?_) (fun hc => ?_)
      · refine Aw.iconst (v := 0) ic_0 rfl dX4_isFigure_43 ?_
        exact Aw.zret rfl rfl dX4_isFigure_44
      · refine Aw.iconst (v := 1) ic_1 rfl dX4_isFigure_39 ?_
        refine Aw.goto (q := 44) (by decide) dX4_isFigure_40 ?_
        exact Aw.zret rfl rfl dX4_isFigure_44
abbrev MX4_readNumber : Mt := (RX4, cX4_readNumber, 3, (some .int), 2)
def f_X4_readNumber_65  (r0 : Nat) (σ : Sg) : Option (Int32 × Sg) := if kd r0 = 4 then (cb (f_X4_fails r0 (σ r0 2) σ) (fun a1 τ2 => some ((-1), τ2))) else none
def f_X4_readNumber_54  (r0 : Nat) (x1 : Int32) (x2 : Int32) (σ : Sg) : Option (Int32 × Sg) := if kd r0 = 4 then (if x2 = 0 then (f_X4_readNumber_65 r0 σ) else (cb (f_X4_isFigure r0 σ) (fun a1 τ2 => if a1 = 0 then (some (x1, τ2)) else (f_X4_readNumber_65 r0 τ2)))) else none
def f_X4_readNumber_8  : Nat → Nat → Int32 → Int32 → Sg → Option (Int32 × Sg)
  | 0, _, _, _, _ => none
  | n + 1, r0, x1, x2, σ => if kd r0 = 4 then (if 2 ≤ x2 then (f_X4_readNumber_54 r0 x1 x2 σ) else (cb (f_X4_isFigure r0 σ) (fun a1 τ2 => if a1 = 0 then (f_X4_readNumber_54 r0 x1 x2 τ2) else (if inb (τ2 r0 2) 120 then (bn (((x1 * 10) + (τ2 (rf r0 0) (ix (τ2 r0 2)))) - 48) (fun b4 => bn (up τ2 r0 2 ((τ2 r0 2) + 1)) (fun τ5 => f_X4_readNumber_8 n r0 b4 (x2 + 1) τ5))) else none)))) else none
def f_X4_readNumber (r0 : Nat) (σ : Sg) : Option (Int32 × Sg) := if kd r0 = 4 then (cb (f_X4_skipBlanks r0 σ) (fun _ τ2 => f_X4_readNumber_8 FU r0 0 0 τ2)) else none
theorem cv_X4_56 : CV RX4 56 4 yX4_fails MX4_fails 1 := ⟨_, rfl, rfl, ml_X4_56, ins_X4_fails, sel_X4_fails, ini_X4, cw_X4_fails, ⟨by decide, by decide, by decide +kernel⟩⟩
theorem cv_X4_81 : CV RX4 81 4 yX4_isFigure MX4_isFigure 0 := ⟨_, rfl, rfl, ml_X4_81, ins_X4_isFigure, sel_X4_isFigure, ini_X4, cw_X4_isFigure, ⟨by decide, by decide, by decide +kernel⟩⟩
set_option maxRecDepth 100000 in
set_option maxHeartbeats 4000000 in
theorem aw_X4_readNumber_65 (l : Launch) (G : Gt) (r0 : Nat) (σ : Sg) : Aw l G MX4_readNumber rI 65 [(0, .ref (Gb G + r0))] [] σ (f_X4_readNumber_65 r0 σ) := by
  unfold f_X4_readNumber_65
  refine Aw.gd (fun hr0 => ?_)
  refine Aw.aload_n 0 rfl rfl dX4_readNumber_65 ?_
  refine Aw.aload_n 0 rfl rfl dX4_readNumber_66 ?_
  refine Aw.getI fl_X4_29 (Nat.le_of_ble_eq_true rfl) rfl hr0 rfl dX4_readNumber_67 ?_
  refine Aw.callVi (As := [.int (σ r0 2)]) (rest := []) cv_X4_56 (Nat.le_of_ble_eq_true rfl) hr0 (ct_X4_fails l G r0 (σ r0 2) σ) rfl rfl (Nat.le_of_ble_eq_true rfl) (Nat.le_of_ble_eq_true rfl) (Nat.le_of_ble_eq_true rfl) rfl dX4_readNumber_70 (fun a1 τ2 _ => ?_)
  refine Aw.pop rfl dX4_readNumber_73 ?_
  refine Aw.iconst (v := (-1)) ic_m1 rfl dX4_readNumber_74 ?_
  exact Aw.iret rfl dX4_readNumber_75
set_option maxRecDepth 100000 in
set_option maxHeartbeats 4000000 in
theorem aw_X4_readNumber_54 (l : Launch) (G : Gt) (r0 : Nat) (x1 : Int32) (x2 : Int32) (σ : Sg) : Aw l G MX4_readNumber rI 54 [(0, .ref (Gb G + r0)), (1, .int x1), (2, .int x2)] [] σ (f_X4_readNumber_54 r0 x1 x2 σ) := by
  unfold f_X4_readNumber_54
  refine Aw.gd (fun hr0 => ?_)
  refine Aw.iload_n 2 rfl rfl dX4_readNumber_54 ?_
  refine Aw.if_eq (q := 58) (t := 65) rfl (by decide) dX4_readNumber_55 (fun hc => ?_) (fun hc => ?_)
  · refine Aw.sub (L' := [(0, .ref (Gb G + r0))]) [0] rfl ?_
    exact aw_X4_readNumber_65 l G _ _
  · refine Aw.aload_n 0 rfl rfl dX4_readNumber_58 ?_
    refine Aw.callVi (As := []) (rest := []) cv_X4_81 (Nat.le_of_ble_eq_true rfl) hr0 (ct_X4_isFigure l G r0 σ) rfl rfl (Nat.le_of_ble_eq_true rfl) (Nat.le_of_ble_eq_true rfl) (Nat.le_of_ble_eq_true rfl) rfl dX4_readNumber_59 (fun a1 τ2 _ => ?_)
    refine Aw.if_eq (q := 65) (t := 76) rfl (by decide) dX4_readNumber_62 (fun hc => ?_) (fun hc => ?_)
    · refine Aw.iload_n 1 rfl rfl dX4_readNumber_76 ?_
      exact Aw.iret rfl dX4_readNumber_77
    · refine Aw.sub (L' := [(0, .ref (Gb G + r0))]) [0] rfl ?_
      exact aw_X4_readNumber_65 l G _ _
set_option maxRecDepth 100000 in
set_option maxHeartbeats 4000000 in
theorem aw_X4_readNumber_8 (l : Launch) (G : Gt) : ∀ (n : Nat) (r0 : Nat) (x1 : Int32) (x2 : Int32) (σ : Sg), Aw l G MX4_readNumber rI 8 [(0, .ref (Gb G + r0)), (1, .int x1), (2, .int x2)] [] σ (f_X4_readNumber_8 n r0 x1 x2 σ) := by
  intro n
  induction n with
  | zero => intro r0 x1 x2 σ; exact Aw.no
  | succ n ih =>
    intro r0 x1 x2 σ
    rw [f_X4_readNumber_8]
    refine Aw.gd (fun hr0 => ?_)
    refine Aw.iload_n 2 rfl rfl dX4_readNumber_8 ?_
    refine Aw.iconst (v := 2) ic_2 rfl dX4_readNumber_9 ?_
    refine Aw.icmp_ge (q := 13) (t := 54) rfl (by decide) dX4_readNumber_10 (fun hc => ?_) (fun hc => ?_)
    · refine Aw.sub (L' := [(0, .ref (Gb G + r0)), (1, .int x1), (2, .int x2)]) [0, 1, 2] rfl ?_
      exact aw_X4_readNumber_54 l G _ _ _ _
    · refine Aw.aload_n 0 rfl rfl dX4_readNumber_13 ?_
      refine Aw.callVi (As := []) (rest := []) cv_X4_81 (Nat.le_of_ble_eq_true rfl) hr0 (ct_X4_isFigure l G r0 σ) rfl rfl (Nat.le_of_ble_eq_true rfl) (Nat.le_of_ble_eq_true rfl) (Nat.le_of_ble_eq_true rfl) rfl dX4_readNumber_14 (fun a1 τ2 _ => ?_)
      refine Aw.if_eq (q := 20) (t := 54) rfl (by decide) dX4_readNumber_17 (fun hc => ?_) (fun hc => ?_)
      · refine Aw.sub (L' := [(0, .ref (Gb G + r0)), (1, .int x1), (2, .int x2)]) [0, 1, 2] rfl ?_
        exact aw_X4_readNumber_54 l G _ _ _ _
      · refine Aw.iload_n 1 rfl rfl dX4_readNumber_20 ?_
        refine Aw.bipush (v := 10) ib_10 rfl dX4_readNumber_21 ?_
        refine Aw.imul rfl dX4_readNumber_23 ?_
        refine Aw.aload_n 0 rfl rfl dX4_readNumber_24 ?_
        refine Aw.getR fl_X4_9 (Nat.le_of_ble_eq_true rfl) rfl hr0 rfl dX4_readNumber_25 ?_
        refine Aw.aload_n 0 rfl rfl dX4_readNumber_28 ?_
        refine Aw.getI fl_X4_29 (Nat.le_of_ble_eq_true rfl) rfl hr0 rfl dX4_readNumber_29 ?_
        refine Aw.iald (n := 120) (ft_4_0 hr0).1 (ft_4_0 hr0).2 rfl dX4_readNumber_32 (fun hb3 => ?_)
        refine Aw.iadd rfl dX4_readNumber_33 ?_
        refine Aw.bipush (v := 48) ib_48 rfl dX4_readNumber_34 ?_
        refine Aw.isub rfl dX4_readNumber_36 ?_
        refine Aw.bi (fun b4 => ?_)
        refine Aw.istore_n (L' := [(1, .int b4), (0, .ref (Gb G + r0)), (2, .int x2)]) (Nat.le_of_ble_eq_true rfl) rfl rfl dX4_readNumber_37 ?_
        refine Aw.aload_n 1 rfl rfl dX4_readNumber_38 ?_
        refine Aw.dupr rfl dX4_readNumber_39 ?_
        refine Aw.getI fl_X4_29 (Nat.le_of_ble_eq_true rfl) rfl hr0 rfl dX4_readNumber_40 ?_
        refine Aw.iconst (v := 1) ic_1 rfl dX4_readNumber_43 ?_
        refine Aw.iadd rfl dX4_readNumber_44 ?_
        refine Aw.putI (v := (τ2 r0 2) + 1) fl_X4_29 fp_4_2 rfl rfl (Nat.le_of_ble_eq_true rfl) rfl hr0 rfl dX4_readNumber_45 ?_
        refine Aw.bs (fun τ5 => ?_)
        refine Aw.iinc (v := x2 + 1) (L' := [(2, .int (x2 + 1)), (1, .int b4), (0, .ref (Gb G + r0))]) 2 rfl (ii_1 _) (Nat.le_of_ble_eq_true rfl) rfl rfl dX4_readNumber_48 ?_
        refine Aw.goto (q := 8) (by decide) dX4_readNumber_51 ?_
        refine Aw.sub (L' := [(0, .ref (Gb G + r0)), (1, .int b4), (2, .int (x2 + 1))]) [2, 1, 0] rfl ?_
        exact ih _ _ _ _
set_option maxRecDepth 100000 in
set_option maxHeartbeats 4000000 in
theorem ct_X4_readNumber (l : Launch) (G : Gt) (r0 : Nat) (σ : Sg) : Ct l G yX4_readNumber MX4_readNumber rI [.ref (Gb G + r0)] σ (f_X4_readNumber r0 σ) := by
  refine Ct.of (by decide +kernel) rfl (Nat.le_of_ble_eq_true rfl) ?_
  show Aw l G MX4_readNumber rI 0 [(0, .ref (Gb G + r0))] [] σ _
  unfold f_X4_readNumber
  refine Aw.gd (fun hr0 => ?_)
  refine Aw.aload_n 0 rfl rfl dX4_readNumber_0 ?_
  refine Aw.callVv (As := []) (rest := []) cv_X4_78 (Nat.le_of_ble_eq_true rfl) hr0 (ct_X4_skipBlanks l G r0 σ) rfl rfl (Nat.le_of_ble_eq_true rfl) (Nat.le_of_ble_eq_true rfl) (Nat.le_of_ble_eq_true rfl) rfl dX4_readNumber_1 (fun a1 τ2 _ => ?_)
  refine Aw.iconst (v := 0) ic_0 rfl dX4_readNumber_4 ?_
  refine Aw.istore_n (L' := [(1, .int 0), (0, .ref (Gb G + r0))]) (Nat.le_of_ble_eq_true rfl) rfl rfl dX4_readNumber_5 ?_
  refine Aw.iconst (v := 0) ic_0 rfl dX4_readNumber_6 ?_
  refine Aw.istore_n (L' := [(2, .int 0), (1, .int 0), (0, .ref (Gb G + r0))]) (Nat.le_of_ble_eq_true rfl) rfl rfl dX4_readNumber_7 ?_
  refine Aw.sub (L' := [(0, .ref (Gb G + r0)), (1, .int 0), (2, .int 0)]) [2, 1, 0] rfl ?_
  exact aw_X4_readNumber_8 l G FU _ _ _ _
abbrev MX4_takesSpot : Mt := (RX4, cX4_takesSpot, 3, (some .boolean), 2)
def f_X4_takesSpot_24  (r0 : Nat) (x2 : Int32) (σ : Sg) : Option (Int32 × Sg) := if kd r0 = 4 then (cb (f_X4_fails r0 x2 σ) (fun a1 τ2 => if a1 = 0 ∨ a1 = 1 then some (a1, τ2) else none)) else none
def f_X4_takesSpot (r0 : Nat) (x1 : Int32) (x2 : Int32) (σ : Sg) : Option (Int32 × Sg) := if kd r0 = 4 then (if x1 = (-1) then (some (0, σ)) else (if 12 ≤ x1 then (f_X4_takesSpot_24 r0 x2 σ) else (if ((σ r0 7) >>> (x1 &&& 31)) &&& 1 = 0 then (bn (up σ r0 7 ((σ r0 7) ||| (1 <<< (x1 &&& 31)))) (fun τ1 => some (1, τ1))) else (f_X4_takesSpot_24 r0 x2 σ)))) else none
set_option maxRecDepth 100000 in
set_option maxHeartbeats 4000000 in
theorem aw_X4_takesSpot_24 (l : Launch) (G : Gt) (r0 : Nat) (x2 : Int32) (σ : Sg) : Aw l G MX4_takesSpot rI 24 [(0, .ref (Gb G + r0)), (2, .int x2)] [] σ (f_X4_takesSpot_24 r0 x2 σ) := by
  unfold f_X4_takesSpot_24
  refine Aw.gd (fun hr0 => ?_)
  refine Aw.aload_n 0 rfl rfl dX4_takesSpot_24 ?_
  refine Aw.iload_n 1 rfl rfl dX4_takesSpot_25 ?_
  refine Aw.callVi (As := [.int x2]) (rest := []) cv_X4_56 (Nat.le_of_ble_eq_true rfl) hr0 (ct_X4_fails l G r0 x2 σ) rfl rfl (Nat.le_of_ble_eq_true rfl) (Nat.le_of_ble_eq_true rfl) (Nat.le_of_ble_eq_true rfl) rfl dX4_takesSpot_26 (fun a1 τ2 _ => ?_)
  exact Aw.zretG rfl dX4_takesSpot_29
set_option maxRecDepth 100000 in
set_option maxHeartbeats 4000000 in
theorem ct_X4_takesSpot (l : Launch) (G : Gt) (r0 : Nat) (x1 : Int32) (x2 : Int32) (σ : Sg) : Ct l G yX4_takesSpot MX4_takesSpot rI [.ref (Gb G + r0), .int x1, .int x2] σ (f_X4_takesSpot r0 x1 x2 σ) := by
  refine Ct.of (by decide +kernel) rfl (Nat.le_of_ble_eq_true rfl) ?_
  show Aw l G MX4_takesSpot rI 0 [(0, .ref (Gb G + r0)), (1, .int x1), (2, .int x2)] [] σ _
  unfold f_X4_takesSpot
  refine Aw.gd (fun hr0 => ?_)
  refine Aw.iload_n 1 rfl rfl dX4_takesSpot_0 ?_
  refine Aw.iconst (v := (-1)) ic_m1 rfl dX4_takesSpot_1 ?_
  refine Aw.icmp_ne (q := 5) (t := 7) rfl (by decide) dX4_takesSpot_2 (fun hc => ?_) (fun hc => ?_)
  · refine Aw.iconst (v := 0) ic_0 rfl dX4_takesSpot_5 ?_
    exact Aw.zret rfl rfl dX4_takesSpot_6
  · refine Aw.iload_n 1 rfl rfl dX4_takesSpot_7 ?_
    refine Aw.bipush (v := 12) ib_12 rfl dX4_takesSpot_8 ?_
    refine Aw.icmp_ge (q := 13) (t := 24) rfl (by decide) dX4_takesSpot_10 (fun hc => ?_) (fun hc => ?_)
    · refine Aw.sub (L' := [(0, .ref (Gb G + r0)), (2, .int x2)]) [0, 2] rfl ?_
      exact aw_X4_takesSpot_24 l G _ _ _
    · refine Aw.aload_n 0 rfl rfl dX4_takesSpot_13 ?_
      refine Aw.getI fl_X4_69 (Nat.le_of_ble_eq_true rfl) rfl hr0 rfl dX4_takesSpot_14 ?_
      refine Aw.iload_n 1 rfl rfl dX4_takesSpot_17 ?_
      refine Aw.ishr rfl dX4_takesSpot_18 ?_
      refine Aw.iconst (v := 1) ic_1 rfl dX4_takesSpot_19 ?_
      refine Aw.iand rfl dX4_takesSpot_20 ?_
      refine Aw.if_eq (q := 24) (t := 30) rfl (by decide) dX4_takesSpot_21 (fun hc => ?_) (fun hc => ?_)
      · refine Aw.aload_n 0 rfl rfl dX4_takesSpot_30 ?_
        refine Aw.dupr rfl dX4_takesSpot_31 ?_
        refine Aw.getI fl_X4_69 (Nat.le_of_ble_eq_true rfl) rfl hr0 rfl dX4_takesSpot_32 ?_
        refine Aw.iconst (v := 1) ic_1 rfl dX4_takesSpot_35 ?_
        refine Aw.iload_n 1 rfl rfl dX4_takesSpot_36 ?_
        refine Aw.ishl rfl dX4_takesSpot_37 ?_
        refine Aw.ior rfl dX4_takesSpot_38 ?_
        refine Aw.putI (v := (σ r0 7) ||| (1 <<< (x1 &&& 31))) fl_X4_69 fp_4_7 rfl rfl (Nat.le_of_ble_eq_true rfl) rfl hr0 rfl dX4_takesSpot_39 ?_
        refine Aw.bs (fun τ1 => ?_)
        refine Aw.iconst (v := 1) ic_1 rfl dX4_takesSpot_42 ?_
        exact Aw.zret rfl rfl dX4_takesSpot_43
      · refine Aw.sub (L' := [(0, .ref (Gb G + r0)), (2, .int x2)]) [0, 2] rfl ?_
        exact aw_X4_takesSpot_24 l G _ _ _
abbrev MX4_readCycle : Mt := (RX4, cX4_readCycle, 6, (some .boolean), 3)
def f_X4_readCycle_88 (rc6 : Nat → Int32 → Int32 → Int32 → Sg → Option (Int32 × Sg)) (r0 : Nat) (x1 : Int32) (x3 : Int32) (x5 : Int32) (σ : Sg) : Option (Int32 × Sg) := if kd r0 = 4 then (rc6 r0 x1 x5 (x3 + 1) σ) else none
def f_X4_readCycle_45 (rc6 : Nat → Int32 → Int32 → Int32 → Sg → Option (Int32 × Sg)) (r0 : Nat) (x1 : Int32) (x2 : Int32) (x3 : Int32) (σ : Sg) : Option (Int32 × Sg) := if kd r0 = 4 then (bn (σ r0 2) (fun b1 => cb (f_X4_readNumber r0 σ) (fun a2 τ3 => cb (f_X4_takesSpot r0 a2 b1 τ3) (fun a4 τ5 => if a4 = 0 then (some (0, τ5)) else (if x3 = 0 then (f_X4_readCycle_88 rc6 r0 a2 x3 a2 τ5) else (if inb x2 12 then (bn (up τ5 (rf r0 6) (ix x2) a2) (fun τ7 => f_X4_readCycle_88 rc6 r0 x1 x3 a2 τ7)) else none)))))) else none
def f_X4_readCycle_6  : Nat → Nat → Int32 → Int32 → Int32 → Sg → Option (Int32 × Sg)
  | 0, _, _, _, _, _ => none
  | n + 1, r0, x1, x2, x3, σ => if kd r0 = 4 then (if 12 < x3 then (some (0, σ)) else (cb (f_X4_nextSign r0 σ) (fun a1 τ2 => if a1 = 41 then (if x3 < 2 then (f_X4_readCycle_45 (f_X4_readCycle_6 n) r0 x1 x2 x3 τ2) else (bn (up τ2 r0 2 ((τ2 r0 2) + 1)) (fun τ3 => if inb x2 12 then (bn (up τ3 (rf r0 6) (ix x2) x1) (fun τ5 => some (1, τ5))) else none))) else (f_X4_readCycle_45 (f_X4_readCycle_6 n) r0 x1 x2 x3 τ2)))) else none
def f_X4_readCycle (r0 : Nat) (σ : Sg) : Option (Int32 × Sg) := if kd r0 = 4 then (f_X4_readCycle_6 FU r0 ((-1)) ((-1)) 0 σ) else none
theorem cv_X4_66 : CV RX4 66 4 yX4_readNumber MX4_readNumber 0 := ⟨_, rfl, rfl, ml_X4_66, ins_X4_readNumber, sel_X4_readNumber, ini_X4, cw_X4_readNumber, ⟨by decide, by decide, by decide +kernel⟩⟩
theorem cv_X4_75 : CV RX4 75 4 yX4_takesSpot MX4_takesSpot 2 := ⟨_, rfl, rfl, ml_X4_75, ins_X4_takesSpot, sel_X4_takesSpot, ini_X4, cw_X4_takesSpot, ⟨by decide, by decide, by decide +kernel⟩⟩
set_option maxRecDepth 100000 in
set_option maxHeartbeats 4000000 in
theorem aw_X4_readCycle_88 (l : Launch) (G : Gt) (rc6 : Nat → Int32 → Int32 → Int32 → Sg → Option (Int32 × Sg)) (hrc6 : ∀ (r0 : Nat) (x1 : Int32) (x2 : Int32) (x3 : Int32) (σ : Sg), Aw l G MX4_readCycle rI 6 [(0, .ref (Gb G + r0)), (1, .int x1), (2, .int x2), (3, .int x3)] [] σ (rc6 r0 x1 x2 x3 σ)) (r0 : Nat) (x1 : Int32) (x3 : Int32) (x5 : Int32) (σ : Sg) : Aw l G MX4_readCycle rI 88 [(0, .ref (Gb G + r0)), (1, .int x1), (3, .int x3), (5, .int x5)] [] σ (f_X4_readCycle_88 rc6 r0 x1 x3 x5 σ) := by
  unfold f_X4_readCycle_88
  refine Aw.gd (fun hr0 => ?_)
  refine Aw.iload 3 rfl rfl dX4_readCycle_88 ?_
  refine Aw.istore_n (L' := [(2, .int x5), (0, .ref (Gb G + r0)), (1, .int x1), (3, .int x3), (5, .int x5)]) (Nat.le_of_ble_eq_true rfl) rfl rfl dX4_readCycle_90 ?_
  refine Aw.iinc (v := x3 + 1) (L' := [(3, .int (x3 + 1)), (2, .int x5), (0, .ref (Gb G + r0)), (1, .int x1), (5, .int x5)]) 3 rfl (ii_1 _) (Nat.le_of_ble_eq_true rfl) rfl rfl dX4_readCycle_91 ?_
  refine Aw.goto (q := 6) (by decide) dX4_readCycle_94 ?_
  refine Aw.sub (L' := [(0, .ref (Gb G + r0)), (1, .int x1), (2, .int x5), (3, .int (x3 + 1))]) [2, 3, 1, 0] rfl ?_
  exact hrc6 _ _ _ _ _
set_option maxRecDepth 100000 in
set_option maxHeartbeats 4000000 in
theorem aw_X4_readCycle_45 (l : Launch) (G : Gt) (rc6 : Nat → Int32 → Int32 → Int32 → Sg → Option (Int32 × Sg)) (hrc6 : ∀ (r0 : Nat) (x1 : Int32) (x2 : Int32) (x3 : Int32) (σ : Sg), Aw l G MX4_readCycle rI 6 [(0, .ref (Gb G + r0)), (1, .int x1), (2, .int x2), (3, .int x3)] [] σ (rc6 r0 x1 x2 x3 σ)) (r0 : Nat) (x1 : Int32) (x2 : Int32) (x3 : Int32) (σ : Sg) : Aw l G MX4_readCycle rI 45 [(0, .ref (Gb G + r0)), (1, .int x1), (2, .int x2), (3, .int x3)] [] σ (f_X4_readCycle_45 rc6 r0 x1 x2 x3 σ) := by
  unfold f_X4_readCycle_45
  refine Aw.gd (fun hr0 => ?_)
  refine Aw.aload_n 0 rfl rfl dX4_readCycle_45 ?_
  refine Aw.getI fl_X4_29 (Nat.le_of_ble_eq_true rfl) rfl hr0 rfl dX4_readCycle_46 ?_
  refine Aw.bi (fun b1 => ?_)
  refine Aw.istore (L' := [(4, .int b1), (0, .ref (Gb G + r0)), (1, .int x1), (2, .int x2), (3, .int x3)]) (Nat.le_of_ble_eq_true rfl) rfl rfl dX4_readCycle_49 ?_
  refine Aw.aload_n 1 rfl rfl dX4_readCycle_51 ?_
  refine Aw.callVi (As := []) (rest := []) cv_X4_66 (Nat.le_of_ble_eq_true rfl) hr0 (ct_X4_readNumber l G r0 σ) rfl rfl (Nat.le_of_ble_eq_true rfl) (Nat.le_of_ble_eq_true rfl) (Nat.le_of_ble_eq_true rfl) rfl dX4_readCycle_52 (fun a2 τ3 _ => ?_)
  refine Aw.istore (L' := [(5, .int a2), (4, .int b1), (0, .ref (Gb G + r0)), (1, .int x1), (2, .int x2), (3, .int x3)]) (Nat.le_of_ble_eq_true rfl) rfl rfl dX4_readCycle_55 ?_
  refine Aw.aload_n 2 rfl rfl dX4_readCycle_57 ?_
  refine Aw.iload 0 rfl rfl dX4_readCycle_58 ?_
  refine Aw.iload 1 rfl rfl dX4_readCycle_60 ?_
  refine Aw.callVi (As := [.int a2, .int b1]) (rest := []) cv_X4_75 (Nat.le_of_ble_eq_true rfl) hr0 (ct_X4_takesSpot l G r0 a2 b1 τ3) rfl rfl (Nat.le_of_ble_eq_true rfl) (Nat.le_of_ble_eq_true rfl) (Nat.le_of_ble_eq_true rfl) rfl dX4_readCycle_62 (fun a4 τ5 _ => ?_)
  refine Aw.if_ne (q := 68) (t := 70) rfl (by decide) dX4_readCycle_65 (fun hc => ?_) (fun hc => ?_)
  · refine Aw.iconst (v := 0) ic_0 rfl dX4_readCycle_68 ?_
    exact Aw.zret rfl rfl dX4_readCycle_69
  · refine Aw.iload_n 5 rfl rfl dX4_readCycle_70 ?_
    refine Aw.if_ne (q := 74) (t := 80) rfl (by decide) dX4_readCycle_71 (fun hc => ?_) (fun hc => ?_)
    · refine Aw.iload 0 rfl rfl dX4_readCycle_74 ?_
      refine Aw.istore_n (L' := [(1, .int a2), (5, .int a2), (4, .int b1), (0, .ref (Gb G + r0)), (2, .int x2), (3, .int x3)]) (Nat.le_of_ble_eq_true rfl) rfl rfl dX4_readCycle_76 ?_
      refine Aw.goto (q := 88) (by decide) dX4_readCycle_77 ?_
      refine Aw.sub (L' := [(0, .ref (Gb G + r0)), (1, .int a2), (3, .int x3), (5, .int a2)]) [3, 0, 5, 1] rfl ?_
      exact aw_X4_readCycle_88 l G _ hrc6 _ _ _ _ _
    · refine Aw.aload_n 2 rfl rfl dX4_readCycle_80 ?_
      refine Aw.getR fl_X4_18 (Nat.le_of_ble_eq_true rfl) rfl hr0 rfl dX4_readCycle_81 ?_
      refine Aw.iload_n 4 rfl rfl dX4_readCycle_84 ?_
      refine Aw.iload 0 rfl rfl dX4_readCycle_85 ?_
      refine Aw.iast (n := 12) (ft_4_6 hr0).1 (ft_4_6 hr0).2 rfl dX4_readCycle_87 (fun hb6 => ?_)
      refine Aw.bs (fun τ7 => ?_)
      refine Aw.sub (L' := [(0, .ref (Gb G + r0)), (1, .int x1), (3, .int x3), (5, .int a2)]) [2, 3, 5, 0] rfl ?_
      exact aw_X4_readCycle_88 l G _ hrc6 _ _ _ _ _
set_option maxRecDepth 100000 in
set_option maxHeartbeats 4000000 in
theorem aw_X4_readCycle_6 (l : Launch) (G : Gt) : ∀ (n : Nat) (r0 : Nat) (x1 : Int32) (x2 : Int32) (x3 : Int32) (σ : Sg), Aw l G MX4_readCycle rI 6 [(0, .ref (Gb G + r0)), (1, .int x1), (2, .int x2), (3, .int x3)] [] σ (f_X4_readCycle_6 n r0 x1 x2 x3 σ) := by
  intro n
  induction n with
  | zero => intro r0 x1 x2 x3 σ; exact Aw.no
  | succ n ih =>
    intro r0 x1 x2 x3 σ
    rw [f_X4_readCycle_6]
    refine Aw.gd (fun hr0 => ?_)
    refine Aw.iload_n 3 rfl rfl dX4_readCycle_6 ?_
    refine Aw.bipush (v := 12) ib_12 rfl dX4_readCycle_7 ?_
    refine Aw.icmp_gt (q := 12) (t := 97) rfl (by decide) dX4_readCycle_9 (fun hc => ?_) (fun hc => ?_)
    · refine Aw.iconst (v := 0) ic_0 rfl dX4_readCycle_97 ?_
      exact Aw.zret rfl rfl dX4_readCycle_98
    · refine Aw.aload_n 0 rfl rfl dX4_readCycle_12 ?_
      refine Aw.callVi (As := []) (rest := []) cv_X4_35 (Nat.le_of_ble_eq_true rfl) hr0 (ct_X4_nextSign l G r0 σ) rfl rfl (Nat.le_of_ble_eq_true rfl) (Nat.le_of_ble_eq_true rfl) (Nat.le_of_ble_eq_true rfl) rfl dX4_readCycle_13 (fun a1 τ2 _ => ?_)
      refine Aw.bipush (v := 41) ib_41 rfl dX4_readCycle_16 ?_
      refine Aw.icmp_ne (q := 21) (t := 45) rfl (by decide) dX4_readCycle_18 (fun hc => ?_) (fun hc => ?_)
      · refine Aw.iload_n 3 rfl rfl dX4_readCycle_21 ?_
        refine Aw.iconst (v := 2) ic_2 rfl dX4_readCycle_22 ?_
        refine Aw.icmp_lt (q := 26) (t := 45) rfl (by decide) dX4_readCycle_23 (fun hc => ?_) (fun hc => ?_)
        · refine Aw.sub (L' := [(0, .ref (Gb G + r0)), (1, .int x1), (2, .int x2), (3, .int x3)]) [0, 1, 2, 3] rfl ?_
          exact aw_X4_readCycle_45 l G _ ih _ _ _ _ _
        · refine Aw.aload_n 0 rfl rfl dX4_readCycle_26 ?_
          refine Aw.dupr rfl dX4_readCycle_27 ?_
          refine Aw.getI fl_X4_29 (Nat.le_of_ble_eq_true rfl) rfl hr0 rfl dX4_readCycle_28 ?_
          refine Aw.iconst (v := 1) ic_1 rfl dX4_readCycle_31 ?_
          refine Aw.iadd rfl dX4_readCycle_32 ?_
          refine Aw.putI (v := (τ2 r0 2) + 1) fl_X4_29 fp_4_2 rfl rfl (Nat.le_of_ble_eq_true rfl) rfl hr0 rfl dX4_readCycle_33 ?_
          refine Aw.bs (fun τ3 => ?_)
          refine Aw.aload_n 0 rfl rfl dX4_readCycle_36 ?_
          refine Aw.getR fl_X4_18 (Nat.le_of_ble_eq_true rfl) rfl hr0 rfl dX4_readCycle_37 ?_
          refine Aw.iload_n 2 rfl rfl dX4_readCycle_40 ?_
          refine Aw.iload_n 1 rfl rfl dX4_readCycle_41 ?_
          refine Aw.iast (n := 12) (ft_4_6 hr0).1 (ft_4_6 hr0).2 rfl dX4_readCycle_42 (fun hb4 => ?_)
          refine Aw.bs (fun τ5 => ?_)
          refine Aw.iconst (v := 1) ic_1 rfl dX4_readCycle_43 ?_
          exact Aw.zret rfl rfl dX4_readCycle_44
      · refine Aw.sub (L' := [(0, .ref (Gb G + r0)), (1, .int x1), (2, .int x2), (3, .int x3)]) [0, 1, 2, 3] rfl ?_
        exact aw_X4_readCycle_45 l G _ ih _ _ _ _ _
set_option maxRecDepth 100000 in
set_option maxHeartbeats 4000000 in
theorem ct_X4_readCycle (l : Launch) (G : Gt) (r0 : Nat) (σ : Sg) : Ct l G yX4_readCycle MX4_readCycle rI [.ref (Gb G + r0)] σ (f_X4_readCycle r0 σ) := by
  refine Ct.of (by decide +kernel) rfl (Nat.le_of_ble_eq_true rfl) ?_
  show Aw l G MX4_readCycle rI 0 [(0, .ref (Gb G + r0))] [] σ _
  unfold f_X4_readCycle
  refine Aw.gd (fun hr0 => ?_)
  refine Aw.iconst (v := (-1)) ic_m1 rfl dX4_readCycle_0 ?_
  refine Aw.istore_n (L' := [(1, .int ((-1))), (0, .ref (Gb G + r0))]) (Nat.le_of_ble_eq_true rfl) rfl rfl dX4_readCycle_1 ?_
  refine Aw.iconst (v := (-1)) ic_m1 rfl dX4_readCycle_2 ?_
  refine Aw.istore_n (L' := [(2, .int ((-1))), (1, .int ((-1))), (0, .ref (Gb G + r0))]) (Nat.le_of_ble_eq_true rfl) rfl rfl dX4_readCycle_3 ?_
  refine Aw.iconst (v := 0) ic_0 rfl dX4_readCycle_4 ?_
  refine Aw.istore_n (L' := [(3, .int 0), (2, .int ((-1))), (1, .int ((-1))), (0, .ref (Gb G + r0))]) (Nat.le_of_ble_eq_true rfl) rfl rfl dX4_readCycle_5 ?_
  refine Aw.sub (L' := [(0, .ref (Gb G + r0)), (1, .int ((-1))), (2, .int ((-1))), (3, .int 0)]) [3, 2, 1, 0] rfl ?_
  exact aw_X4_readCycle_6 l G FU _ _ _ _ _
abbrev MX4_readCycles : Mt := (RX4, cX4_readCycles, 3, (some .boolean), 4)
def f_X4_readCycles_30  : Nat → Nat → Int32 → Int32 → Sg → Option (Int32 × Sg)
  | 0, _, _, _, _ => none
  | n + 1, r0, x1, x2, σ => if kd r0 = 4 then (if 12 ≤ x2 then (if x1 = 0 ∨ x1 = 1 then some (x1, σ) else none) else (if x1 = 0 then (if x1 = 0 ∨ x1 = 1 then some (x1, σ) else none) else (cb (f_X4_nextSign r0 σ) (fun a1 τ2 => if a1 = 40 then (bn (up τ2 r0 2 ((τ2 r0 2) + 1)) (fun τ3 => cb (f_X4_readCycle r0 τ3) (fun a4 τ5 => f_X4_readCycles_30 n r0 a4 (x2 + 1) τ5))) else (if x1 = 0 ∨ x1 = 1 then some (x1, τ2) else none))))) else none
def f_X4_readCycles_2  : Nat → Nat → Int32 → Sg → Option (Int32 × Sg)
  | 0, _, _, _ => none
  | n + 1, r0, x1, σ => if kd r0 = 4 then (if 12 ≤ x1 then (bn (up σ r0 7 0) (fun τ1 => f_X4_readCycles_30 FU r0 1 0 τ1)) else (if inb x1 12 then (bn (up σ (rf r0 6) (ix x1) x1) (fun τ3 => f_X4_readCycles_2 n r0 (x1 + 1) τ3)) else none)) else none
def f_X4_readCycles (r0 : Nat) (σ : Sg) : Option (Int32 × Sg) := if kd r0 = 4 then (f_X4_readCycles_2 FU r0 0 σ) else none
theorem cv_X4_72 : CV RX4 72 4 yX4_readCycle MX4_readCycle 0 := ⟨_, rfl, rfl, ml_X4_72, ins_X4_readCycle, sel_X4_readCycle, ini_X4, cw_X4_readCycle, ⟨by decide, by decide, by decide +kernel⟩⟩
set_option maxRecDepth 100000 in
set_option maxHeartbeats 4000000 in
theorem aw_X4_readCycles_30 (l : Launch) (G : Gt) : ∀ (n : Nat) (r0 : Nat) (x1 : Int32) (x2 : Int32) (σ : Sg), Aw l G MX4_readCycles rI 30 [(0, .ref (Gb G + r0)), (1, .int x1), (2, .int x2)] [] σ (f_X4_readCycles_30 n r0 x1 x2 σ) := by
  intro n
  induction n with
  | zero => intro r0 x1 x2 σ; exact Aw.no
  | succ n ih =>
    intro r0 x1 x2 σ
    rw [f_X4_readCycles_30]
    refine Aw.gd (fun hr0 => ?_)
    refine Aw.iload_n 2 rfl rfl dX4_readCycles_30 ?_
    refine Aw.bipush (v := 12) ib_12 rfl dX4_readCycles_31 ?_
    refine Aw.icmp_ge (q := 36) (t := 70) rfl (by decide) dX4_readCycles_33 (fun hc => ?_) (fun hc => ?_)
    · refine Aw.iload_n 1 rfl rfl dX4_readCycles_70 ?_
      exact Aw.zretG rfl dX4_readCycles_71
    · refine Aw.iload_n 1 rfl rfl dX4_readCycles_36 ?_
      refine Aw.if_eq (q := 40) (t := 70) rfl (by decide) dX4_readCycles_37 (fun hc => ?_) (fun hc => ?_)
      · refine Aw.iload_n 1 rfl rfl dX4_readCycles_70 ?_
        exact Aw.zretG rfl dX4_readCycles_71
      · refine Aw.aload_n 0 rfl rfl dX4_readCycles_40 ?_
        refine Aw.callVi (As := []) (rest := []) cv_X4_35 (Nat.le_of_ble_eq_true rfl) hr0 (ct_X4_nextSign l G r0 σ) rfl rfl (Nat.le_of_ble_eq_true rfl) (Nat.le_of_ble_eq_true rfl) (Nat.le_of_ble_eq_true rfl) rfl dX4_readCycles_41 (fun a1 τ2 _ => ?_)
        refine Aw.bipush (v := 40) ib_40 rfl dX4_readCycles_44 ?_
        refine Aw.icmp_ne (q := 49) (t := 70) rfl (by decide) dX4_readCycles_46 (fun hc => ?_) (fun hc => ?_)
        · refine Aw.aload_n 0 rfl rfl dX4_readCycles_49 ?_
          refine Aw.dupr rfl dX4_readCycles_50 ?_
          refine Aw.getI fl_X4_29 (Nat.le_of_ble_eq_true rfl) rfl hr0 rfl dX4_readCycles_51 ?_
          refine Aw.iconst (v := 1) ic_1 rfl dX4_readCycles_54 ?_
          refine Aw.iadd rfl dX4_readCycles_55 ?_
          refine Aw.putI (v := (τ2 r0 2) + 1) fl_X4_29 fp_4_2 rfl rfl (Nat.le_of_ble_eq_true rfl) rfl hr0 rfl dX4_readCycles_56 ?_
          refine Aw.bs (fun τ3 => ?_)
          refine Aw.aload_n 0 rfl rfl dX4_readCycles_59 ?_
          refine Aw.callVi (As := []) (rest := []) cv_X4_72 (Nat.le_of_ble_eq_true rfl) hr0 (ct_X4_readCycle l G r0 τ3) rfl rfl (Nat.le_of_ble_eq_true rfl) (Nat.le_of_ble_eq_true rfl) (Nat.le_of_ble_eq_true rfl) rfl dX4_readCycles_60 (fun a4 τ5 _ => ?_)
          refine Aw.istore_n (L' := [(1, .int a4), (0, .ref (Gb G + r0)), (2, .int x2)]) (Nat.le_of_ble_eq_true rfl) rfl rfl dX4_readCycles_63 ?_
          refine Aw.iinc (v := x2 + 1) (L' := [(2, .int (x2 + 1)), (1, .int a4), (0, .ref (Gb G + r0))]) 2 rfl (ii_1 _) (Nat.le_of_ble_eq_true rfl) rfl rfl dX4_readCycles_64 ?_
          refine Aw.goto (q := 30) (by decide) dX4_readCycles_67 ?_
          refine Aw.sub (L' := [(0, .ref (Gb G + r0)), (1, .int a4), (2, .int (x2 + 1))]) [2, 1, 0] rfl ?_
          exact ih _ _ _ _
        · refine Aw.iload_n 1 rfl rfl dX4_readCycles_70 ?_
          exact Aw.zretG rfl dX4_readCycles_71
set_option maxRecDepth 100000 in
set_option maxHeartbeats 4000000 in
theorem aw_X4_readCycles_2 (l : Launch) (G : Gt) : ∀ (n : Nat) (r0 : Nat) (x1 : Int32) (σ : Sg), Aw l G MX4_readCycles rI 2 [(0, .ref (Gb G + r0)), (1, .int x1)] [] σ (f_X4_readCycles_2 n r0 x1 σ) := by
  intro n
  induction n with
  | zero => intro r0 x1 σ; exact Aw.no
  | succ n ih =>
    intro r0 x1 σ
    rw [f_X4_readCycles_2]
    refine Aw.gd (fun hr0 => ?_)
    refine Aw.iload_n 1 rfl rfl dX4_readCycles_2 ?_
    refine Aw.bipush (v := 12) ib_12 rfl dX4_readCycles_3 ?_
    refine Aw.icmp_ge (q := 8) (t := 21) rfl (by decide) dX4_readCycles_5 (fun hc => ?_) (fun hc => ?_)
    · refine Aw.aload_n 0 rfl rfl dX4_readCycles_21 ?_
      refine Aw.iconst (v := 0) ic_0 rfl dX4_readCycles_22 ?_
      refine Aw.putI (v := 0) fl_X4_69 fp_4_7 rfl rfl (Nat.le_of_ble_eq_true rfl) rfl hr0 rfl dX4_readCycles_23 ?_
      refine Aw.bs (fun τ1 => ?_)
      refine Aw.iconst (v := 1) ic_1 rfl dX4_readCycles_26 ?_
      refine Aw.istore_n (L' := [(1, .int 1), (0, .ref (Gb G + r0))]) (Nat.le_of_ble_eq_true rfl) rfl rfl dX4_readCycles_27 ?_
      refine Aw.iconst (v := 0) ic_0 rfl dX4_readCycles_28 ?_
      refine Aw.istore_n (L' := [(2, .int 0), (1, .int 1), (0, .ref (Gb G + r0))]) (Nat.le_of_ble_eq_true rfl) rfl rfl dX4_readCycles_29 ?_
      refine Aw.sub (L' := [(0, .ref (Gb G + r0)), (1, .int 1), (2, .int 0)]) [2, 1, 0] rfl ?_
      exact aw_X4_readCycles_30 l G FU _ _ _ _
    · refine Aw.aload_n 0 rfl rfl dX4_readCycles_8 ?_
      refine Aw.getR fl_X4_18 (Nat.le_of_ble_eq_true rfl) rfl hr0 rfl dX4_readCycles_9 ?_
      refine Aw.iload_n 1 rfl rfl dX4_readCycles_12 ?_
      refine Aw.iload_n 1 rfl rfl dX4_readCycles_13 ?_
      refine Aw.iast (n := 12) (ft_4_6 hr0).1 (ft_4_6 hr0).2 rfl dX4_readCycles_14 (fun hb2 => ?_)
      refine Aw.bs (fun τ3 => ?_)
      refine Aw.iinc (v := x1 + 1) (L' := [(1, .int (x1 + 1)), (0, .ref (Gb G + r0))]) 1 rfl (ii_1 _) (Nat.le_of_ble_eq_true rfl) rfl rfl dX4_readCycles_15 ?_
      refine Aw.goto (q := 2) (by decide) dX4_readCycles_18 ?_
      refine Aw.sub (L' := [(0, .ref (Gb G + r0)), (1, .int (x1 + 1))]) [1, 0] rfl ?_
      exact ih _ _ _
set_option maxRecDepth 100000 in
set_option maxHeartbeats 4000000 in
theorem ct_X4_readCycles (l : Launch) (G : Gt) (r0 : Nat) (σ : Sg) : Ct l G yX4_readCycles MX4_readCycles rI [.ref (Gb G + r0)] σ (f_X4_readCycles r0 σ) := by
  refine Ct.of (by decide +kernel) rfl (Nat.le_of_ble_eq_true rfl) ?_
  show Aw l G MX4_readCycles rI 0 [(0, .ref (Gb G + r0))] [] σ _
  unfold f_X4_readCycles
  refine Aw.gd (fun hr0 => ?_)
  refine Aw.iconst (v := 0) ic_0 rfl dX4_readCycles_0 ?_
  refine Aw.istore_n (L' := [(1, .int 0), (0, .ref (Gb G + r0))]) (Nat.le_of_ble_eq_true rfl) rfl rfl dX4_readCycles_1 ?_
  refine Aw.sub (L' := [(0, .ref (Gb G + r0)), (1, .int 0)]) [1, 0] rfl ?_
  exact aw_X4_readCycles_2 l G FU _ _ _
abbrev MX4_readNumbers : Mt := (RX4, cX4_readNumbers, 3, (some .boolean), 3)
def f_X4_readNumbers_2  : Nat → Nat → Int32 → Int32 → Sg → Option (Int32 × Sg)
  | 0, _, _, _, _ => none
  | n + 1, r0, x1, x2, σ => if kd r0 = 4 then (if x1 ≤ x2 then (some (1, σ)) else (cb (f_X4_readNumber r0 σ) (fun a1 τ2 => if inb x2 3 then (bn (up τ2 (rf r0 5) (ix x2) a1) (fun τ4 => if inb x2 3 then (if τ4 (rf r0 5) (ix x2) = (-1) then (some (0, τ4)) else (f_X4_readNumbers_2 n r0 x1 (x2 + 1) τ4)) else none)) else none))) else none
def f_X4_readNumbers (r0 : Nat) (x1 : Int32) (σ : Sg) : Option (Int32 × Sg) := if kd r0 = 4 then (f_X4_readNumbers_2 FU r0 x1 0 σ) else none
set_option maxRecDepth 100000 in
set_option maxHeartbeats 4000000 in
theorem aw_X4_readNumbers_2 (l : Launch) (G : Gt) : ∀ (n : Nat) (r0 : Nat) (x1 : Int32) (x2 : Int32) (σ : Sg), Aw l G MX4_readNumbers rI 2 [(0, .ref (Gb G + r0)), (1, .int x1), (2, .int x2)] [] σ (f_X4_readNumbers_2 n r0 x1 x2 σ) := by
  intro n
  induction n with
  | zero => intro r0 x1 x2 σ; exact Aw.no
  | succ n ih =>
    intro r0 x1 x2 σ
    rw [f_X4_readNumbers_2]
    refine Aw.gd (fun hr0 => ?_)
    refine Aw.iload_n 2 rfl rfl dX4_readNumbers_2 ?_
    refine Aw.iload_n 1 rfl rfl dX4_readNumbers_3 ?_
    refine Aw.icmp_ge (q := 7) (t := 35) rfl (by decide) dX4_readNumbers_4 (fun hc => ?_) (fun hc => ?_)
    · refine Aw.iconst (v := 1) ic_1 rfl dX4_readNumbers_35 ?_
      exact Aw.zret rfl rfl dX4_readNumbers_36
    · refine Aw.aload_n 0 rfl rfl dX4_readNumbers_7 ?_
      refine Aw.getR fl_X4_15 (Nat.le_of_ble_eq_true rfl) rfl hr0 rfl dX4_readNumbers_8 ?_
      refine Aw.iload_n 2 rfl rfl dX4_readNumbers_11 ?_
      refine Aw.aload_n 0 rfl rfl dX4_readNumbers_12 ?_
      refine Aw.callVi (As := []) (rest := [.int x2, .ref (Gb G + rf r0 5)]) cv_X4_66 (Nat.le_of_ble_eq_true rfl) hr0 (ct_X4_readNumber l G r0 σ) rfl rfl (Nat.le_of_ble_eq_true rfl) (Nat.le_of_ble_eq_true rfl) (Nat.le_of_ble_eq_true rfl) rfl dX4_readNumbers_13 (fun a1 τ2 _ => ?_)
      refine Aw.iast (n := 3) (ft_4_5 hr0).1 (ft_4_5 hr0).2 rfl dX4_readNumbers_16 (fun hb3 => ?_)
      refine Aw.bs (fun τ4 => ?_)
      refine Aw.aload_n 0 rfl rfl dX4_readNumbers_17 ?_
      refine Aw.getR fl_X4_15 (Nat.le_of_ble_eq_true rfl) rfl hr0 rfl dX4_readNumbers_18 ?_
      refine Aw.iload_n 2 rfl rfl dX4_readNumbers_21 ?_
      refine Aw.iald (n := 3) (ft_4_5 hr0).1 (ft_4_5 hr0).2 rfl dX4_readNumbers_22 (fun hb5 => ?_)
      refine Aw.iconst (v := (-1)) ic_m1 rfl dX4_readNumbers_23 ?_
      refine Aw.icmp_ne (q := 27) (t := 29) rfl (by decide) dX4_readNumbers_24 (fun hc => ?_) (fun hc => ?_)
      · refine Aw.iconst (v := 0) ic_0 rfl dX4_readNumbers_27 ?_
        exact Aw.zret rfl rfl dX4_readNumbers_28
      · refine Aw.iinc (v := x2 + 1) (L' := [(2, .int (x2 + 1)), (0, .ref (Gb G + r0)), (1, .int x1)]) 2 rfl (ii_1 _) (Nat.le_of_ble_eq_true rfl) rfl rfl dX4_readNumbers_29 ?_
        refine Aw.goto (q := 2) (by decide) dX4_readNumbers_32 ?_
        refine Aw.sub (L' := [(0, .ref (Gb G + r0)), (1, .int x1), (2, .int (x2 + 1))]) [1, 2, 0] rfl ?_
        exact ih _ _ _ _
set_option maxRecDepth 100000 in
set_option maxHeartbeats 4000000 in
theorem ct_X4_readNumbers (l : Launch) (G : Gt) (r0 : Nat) (x1 : Int32) (σ : Sg) : Ct l G yX4_readNumbers MX4_readNumbers rI [.ref (Gb G + r0), .int x1] σ (f_X4_readNumbers r0 x1 σ) := by
  refine Ct.of (by decide +kernel) rfl (Nat.le_of_ble_eq_true rfl) ?_
  show Aw l G MX4_readNumbers rI 0 [(0, .ref (Gb G + r0)), (1, .int x1)] [] σ _
  unfold f_X4_readNumbers
  refine Aw.gd (fun hr0 => ?_)
  refine Aw.iconst (v := 0) ic_0 rfl dX4_readNumbers_0 ?_
  refine Aw.istore_n (L' := [(2, .int 0), (0, .ref (Gb G + r0)), (1, .int x1)]) (Nat.le_of_ble_eq_true rfl) rfl rfl dX4_readNumbers_1 ?_
  refine Aw.sub (L' := [(0, .ref (Gb G + r0)), (1, .int x1), (2, .int 0)]) [1, 2, 0] rfl ?_
  exact aw_X4_readNumbers_2 l G FU _ _ _ _
abbrev MX4_readOrder : Mt := (RX4, cX4_readOrder, 3, (some .boolean), 5)
def f_X4_readOrder_61  (r0 : Nat) (s0 : Int32) (σ : Sg) : Option (Int32 × Sg) := if kd r0 = 4 then (if s0 = 0 then (some (0, σ)) else (cb (f_X4_nextSign r0 σ) (fun a1 τ2 => if a1 = 59 then (bn (up τ2 r0 2 ((τ2 r0 2) + 1)) (fun τ3 => some (1, τ3))) else (cb (f_X4_fails r0 (τ2 r0 2) τ2) (fun a4 τ5 => if a4 = 0 ∨ a4 = 1 then some (a4, τ5) else none))))) else none
def f_X4_readOrder (r0 : Nat) (σ : Sg) : Option (Int32 × Sg) := if kd r0 = 4 then (cb (f_X4_nextSign r0 σ) (fun a1 τ2 => bn (up τ2 r0 4 a1) (fun τ3 => cb (f_X4_numbersBehind (τ3 r0 4) τ3) (fun a4 τ5 => if a4 = (-1) then (cb (f_X4_fails r0 (τ5 r0 2) τ5) (fun a11 τ12 => if a11 = 0 ∨ a11 = 1 then some (a11, τ12) else none)) else (bn (up τ5 r0 2 ((τ5 r0 2) + 1)) (fun τ6 => if τ6 r0 4 = 107 then (cb (f_X4_readCycles r0 τ6) (fun a9 τ10 => f_X4_readOrder_61 r0 a9 τ10)) else (cb (f_X4_readNumbers r0 a4 τ6) (fun a7 τ8 => f_X4_readOrder_61 r0 a7 τ8)))))))) else none
theorem cs_X4_52 : CS RX4 52 yX4_numbersBehind MX4_numbersBehind 1 := ⟨ml_X4_52, sta_X4_numbersBehind, ini_X4, cw_X4_numbersBehind, ⟨by decide, by decide, by decide +kernel⟩⟩
theorem cv_X4_60 : CV RX4 60 4 yX4_readCycles MX4_readCycles 0 := ⟨_, rfl, rfl, ml_X4_60, ins_X4_readCycles, sel_X4_readCycles, ini_X4, cw_X4_readCycles, ⟨by decide, by decide, by decide +kernel⟩⟩
theorem cv_X4_63 : CV RX4 63 4 yX4_readNumbers MX4_readNumbers 1 := ⟨_, rfl, rfl, ml_X4_63, ins_X4_readNumbers, sel_X4_readNumbers, ini_X4, cw_X4_readNumbers, ⟨by decide, by decide, by decide +kernel⟩⟩
set_option maxRecDepth 100000 in
set_option maxHeartbeats 4000000 in
theorem aw_X4_readOrder_61 (l : Launch) (G : Gt) (r0 : Nat) (s0 : Int32) (σ : Sg) : Aw l G MX4_readOrder rI 61 [(0, .ref (Gb G + r0))] [.int s0] σ (f_X4_readOrder_61 r0 s0 σ) := by
  unfold f_X4_readOrder_61
  refine Aw.gd (fun hr0 => ?_)
  refine Aw.istore_n (L' := [(2, .int s0), (0, .ref (Gb G + r0))]) (Nat.le_of_ble_eq_true rfl) rfl rfl dX4_readOrder_61 ?_
  refine Aw.iload_n 0 rfl rfl dX4_readOrder_62 ?_
  refine Aw.if_ne (q := 66) (t := 68) rfl (by decide) dX4_readOrder_63 (fun hc => ?_) (fun hc => ?_)
  · refine Aw.iconst (v := 0) ic_0 rfl dX4_readOrder_66 ?_
    exact Aw.zret rfl rfl dX4_readOrder_67
  · refine Aw.aload_n 1 rfl rfl dX4_readOrder_68 ?_
    refine Aw.callVi (As := []) (rest := []) cv_X4_35 (Nat.le_of_ble_eq_true rfl) hr0 (ct_X4_nextSign l G r0 σ) rfl rfl (Nat.le_of_ble_eq_true rfl) (Nat.le_of_ble_eq_true rfl) (Nat.le_of_ble_eq_true rfl) rfl dX4_readOrder_69 (fun a1 τ2 _ => ?_)
    refine Aw.bipush (v := 59) ib_59 rfl dX4_readOrder_72 ?_
    refine Aw.icmp_eq (q := 77) (t := 86) rfl (by decide) dX4_readOrder_74 (fun hc => ?_) (fun hc => ?_)
    · refine Aw.aload_n 1 rfl rfl dX4_readOrder_86 ?_
      refine Aw.dupr rfl dX4_readOrder_87 ?_
      refine Aw.getI fl_X4_29 (Nat.le_of_ble_eq_true rfl) rfl hr0 rfl dX4_readOrder_88 ?_
      refine Aw.iconst (v := 1) ic_1 rfl dX4_readOrder_91 ?_
      refine Aw.iadd rfl dX4_readOrder_92 ?_
      refine Aw.putI (v := (τ2 r0 2) + 1) fl_X4_29 fp_4_2 rfl rfl (Nat.le_of_ble_eq_true rfl) rfl hr0 rfl dX4_readOrder_93 ?_
      refine Aw.bs (fun τ3 => ?_)
      refine Aw.iconst (v := 1) ic_1 rfl dX4_readOrder_96 ?_
      exact Aw.zret rfl rfl dX4_readOrder_97
    · refine Aw.aload_n 1 rfl rfl dX4_readOrder_77 ?_
      refine Aw.aload_n 1 rfl rfl dX4_readOrder_78 ?_
      refine Aw.getI fl_X4_29 (Nat.le_of_ble_eq_true rfl) rfl hr0 rfl dX4_readOrder_79 ?_
      refine Aw.callVi (As := [.int (τ2 r0 2)]) (rest := []) cv_X4_56 (Nat.le_of_ble_eq_true rfl) hr0 (ct_X4_fails l G r0 (τ2 r0 2) τ2) rfl rfl (Nat.le_of_ble_eq_true rfl) (Nat.le_of_ble_eq_true rfl) (Nat.le_of_ble_eq_true rfl) rfl dX4_readOrder_82 (fun a4 τ5 _ => ?_)
      exact Aw.zretG rfl dX4_readOrder_85
set_option maxRecDepth 100000 in
set_option maxHeartbeats 4000000 in
theorem ct_X4_readOrder (l : Launch) (G : Gt) (r0 : Nat) (σ : Sg) : Ct l G yX4_readOrder MX4_readOrder rI [.ref (Gb G + r0)] σ (f_X4_readOrder r0 σ) := by
  refine Ct.of (by decide +kernel) rfl (Nat.le_of_ble_eq_true rfl) ?_
  show Aw l G MX4_readOrder rI 0 [(0, .ref (Gb G + r0))] [] σ _
  unfold f_X4_readOrder
  refine Aw.gd (fun hr0 => ?_)
  refine Aw.aload_n 0 rfl rfl dX4_readOrder_0 ?_
  refine Aw.aload_n 0 rfl rfl dX4_readOrder_1 ?_
  refine Aw.callVi (As := []) (rest := [.ref (Gb G + r0)]) cv_X4_35 (Nat.le_of_ble_eq_true rfl) hr0 (ct_X4_nextSign l G r0 σ) rfl rfl (Nat.le_of_ble_eq_true rfl) (Nat.le_of_ble_eq_true rfl) (Nat.le_of_ble_eq_true rfl) rfl dX4_readOrder_2 (fun a1 τ2 _ => ?_)
  refine Aw.putI (v := a1) fl_X4_49 fp_4_4 rfl rfl (Nat.le_of_ble_eq_true rfl) rfl hr0 rfl dX4_readOrder_5 ?_
  refine Aw.bs (fun τ3 => ?_)
  refine Aw.aload_n 0 rfl rfl dX4_readOrder_8 ?_
  refine Aw.getI fl_X4_49 (Nat.le_of_ble_eq_true rfl) rfl hr0 rfl dX4_readOrder_9 ?_
  refine Aw.callSi (As := [.int (τ3 r0 4)]) (rest := []) cs_X4_52 (ct_X4_numbersBehind l G (τ3 r0 4) τ3) rfl rfl (Nat.le_of_ble_eq_true rfl) (Nat.le_of_ble_eq_true rfl) (Nat.le_of_ble_eq_true rfl) rfl dX4_readOrder_12 (fun a4 τ5 _ => ?_)
  refine Aw.istore_n (L' := [(1, .int a4), (0, .ref (Gb G + r0))]) (Nat.le_of_ble_eq_true rfl) rfl rfl dX4_readOrder_15 ?_
  refine Aw.iload_n 0 rfl rfl dX4_readOrder_16 ?_
  refine Aw.iconst (v := (-1)) ic_m1 rfl dX4_readOrder_17 ?_
  refine Aw.icmp_ne (q := 21) (t := 30) rfl (by decide) dX4_readOrder_18 (fun hc => ?_) (fun hc => ?_)
  · refine Aw.aload_n 1 rfl rfl dX4_readOrder_21 ?_
    refine Aw.aload_n 1 rfl rfl dX4_readOrder_22 ?_
    refine Aw.getI fl_X4_29 (Nat.le_of_ble_eq_true rfl) rfl hr0 rfl dX4_readOrder_23 ?_
    refine Aw.callVi (As := [.int (τ5 r0 2)]) (rest := []) cv_X4_56 (Nat.le_of_ble_eq_true rfl) hr0 (ct_X4_fails l G r0 (τ5 r0 2) τ5) rfl rfl (Nat.le_of_ble_eq_true rfl) (Nat.le_of_ble_eq_true rfl) (Nat.le_of_ble_eq_true rfl) rfl dX4_readOrder_26 (fun a11 τ12 _ => ?_)
    exact Aw.zretG rfl dX4_readOrder_29
  · refine Aw.aload_n 1 rfl rfl dX4_readOrder_30 ?_
    refine Aw.dupr rfl dX4_readOrder_31 ?_
    refine Aw.getI fl_X4_29 (Nat.le_of_ble_eq_true rfl) rfl hr0 rfl dX4_readOrder_32 ?_
    refine Aw.iconst (v := 1) ic_1 rfl dX4_readOrder_35 ?_
    refine Aw.iadd rfl dX4_readOrder_36 ?_
    refine Aw.putI (v := (τ5 r0 2) + 1) fl_X4_29 fp_4_2 rfl rfl (Nat.le_of_ble_eq_true rfl) rfl hr0 rfl dX4_readOrder_37 ?_
    refine Aw.bs (fun τ6 => ?_)
    refine Aw.aload_n 1 rfl rfl dX4_readOrder_40 ?_
    refine Aw.getI fl_X4_49 (Nat.le_of_ble_eq_true rfl) rfl hr0 rfl dX4_readOrder_41 ?_
    refine Aw.bipush (v := 107) ib_107 rfl dX4_readOrder_44 ?_
    refine Aw.icmp_ne (q := 49) (t := 56) rfl (by decide) dX4_readOrder_46 (fun hc => ?_) (fun hc => ?_)
    · refine Aw.aload_n 1 rfl rfl dX4_readOrder_49 ?_
      refine Aw.callVi (As := []) (rest := []) cv_X4_60 (Nat.le_of_ble_eq_true rfl) hr0 (ct_X4_readCycles l G r0 τ6) rfl rfl (Nat.le_of_ble_eq_true rfl) (Nat.le_of_ble_eq_true rfl) (Nat.le_of_ble_eq_true rfl) rfl dX4_readOrder_50 (fun a9 τ10 _ => ?_)
      refine Aw.goto (q := 61) (by decide) dX4_readOrder_53 ?_
      refine Aw.sub (L' := [(0, .ref (Gb G + r0))]) [1] rfl ?_
      exact aw_X4_readOrder_61 l G _ _ _
    · refine Aw.aload_n 1 rfl rfl dX4_readOrder_56 ?_
      refine Aw.iload_n 0 rfl rfl dX4_readOrder_57 ?_
      refine Aw.callVi (As := [.int a4]) (rest := []) cv_X4_63 (Nat.le_of_ble_eq_true rfl) hr0 (ct_X4_readNumbers l G r0 a4 τ6) rfl rfl (Nat.le_of_ble_eq_true rfl) (Nat.le_of_ble_eq_true rfl) (Nat.le_of_ble_eq_true rfl) rfl dX4_readOrder_58 (fun a7 τ8 _ => ?_)
      refine Aw.sub (L' := [(0, .ref (Gb G + r0))]) [1] rfl ?_
      exact aw_X4_readOrder_61 l G _ _ _
abbrev MX4_firstFault : Mt := (RX4, cX4_firstFault, 3, (some .int), 6)
def f_X4_firstFault_11  : Nat → Nat → Int32 → Int32 → Sg → Option (Int32 × Sg)
  | 0, _, _, _, _ => none
  | n + 1, r0, x1, x2, σ => if kd r0 = 4 then (if 120 ≤ x2 then (some (σ r0 3, σ)) else (if x1 = 0 then (some (σ r0 3, σ)) else (cb (f_X4_hasMore r0 σ) (fun a1 τ2 => if a1 = 0 then (some (τ2 r0 3, τ2)) else (cb (f_X4_readOrder r0 τ2) (fun a3 τ4 => f_X4_firstFault_11 n r0 a3 (x2 + 1) τ4)))))) else none
def f_X4_firstFault (r0 : Nat) (σ : Sg) : Option (Int32 × Sg) := if kd r0 = 4 then (cb (f_X4_restart r0 σ) (fun _ τ2 => cb (f_X4_readOrder r0 τ2) (fun a3 τ4 => f_X4_firstFault_11 FU r0 a3 1 τ4))) else none
theorem cv_X4_39 : CV RX4 39 4 yX4_restart MX4_restart 0 := ⟨_, rfl, rfl, ml_X4_39, ins_X4_restart, sel_X4_restart, ini_X4, cw_X4_restart, ⟨by decide, by decide, by decide +kernel⟩⟩
theorem cv_X4_42 : CV RX4 42 4 yX4_readOrder MX4_readOrder 0 := ⟨_, rfl, rfl, ml_X4_42, ins_X4_readOrder, sel_X4_readOrder, ini_X4, cw_X4_readOrder, ⟨by decide, by decide, by decide +kernel⟩⟩
theorem cv_X4_46 : CV RX4 46 4 yX4_hasMore MX4_hasMore 0 := ⟨_, rfl, rfl, ml_X4_46, ins_X4_hasMore, sel_X4_hasMore, ini_X4, cw_X4_hasMore, ⟨by decide, by decide, by decide +kernel⟩⟩
set_option maxRecDepth 100000 in
set_option maxHeartbeats 4000000 in
theorem aw_X4_firstFault_11 (l : Launch) (G : Gt) : ∀ (n : Nat) (r0 : Nat) (x1 : Int32) (x2 : Int32) (σ : Sg), Aw l G MX4_firstFault rI 11 [(0, .ref (Gb G + r0)), (1, .int x1), (2, .int x2)] [] σ (f_X4_firstFault_11 n r0 x1 x2 σ) := by
  intro n
  induction n with
  | zero => intro r0 x1 x2 σ; exact Aw.no
  | succ n ih =>
    intro r0 x1 x2 σ
    rw [f_X4_firstFault_11]
    refine Aw.gd (fun hr0 => ?_)
    refine Aw.iload_n 2 rfl rfl dX4_firstFault_11 ?_
    refine Aw.bipush (v := 120) ib_120 rfl dX4_firstFault_12 ?_
    refine Aw.icmp_ge (q := 17) (t := 39) rfl (by decide) dX4_firstFault_14 (fun hc => ?_) (fun hc => ?_)
    · refine Aw.aload_n 0 rfl rfl dX4_firstFault_39 ?_
      refine Aw.getI fl_X4_32 (Nat.le_of_ble_eq_true rfl) rfl hr0 rfl dX4_firstFault_40 ?_
      exact Aw.iret rfl dX4_firstFault_43
    · refine Aw.iload_n 1 rfl rfl dX4_firstFault_17 ?_
      refine Aw.if_eq (q := 21) (t := 39) rfl (by decide) dX4_firstFault_18 (fun hc => ?_) (fun hc => ?_)
      · refine Aw.aload_n 0 rfl rfl dX4_firstFault_39 ?_
        refine Aw.getI fl_X4_32 (Nat.le_of_ble_eq_true rfl) rfl hr0 rfl dX4_firstFault_40 ?_
        exact Aw.iret rfl dX4_firstFault_43
      · refine Aw.aload_n 0 rfl rfl dX4_firstFault_21 ?_
        refine Aw.callVi (As := []) (rest := []) cv_X4_46 (Nat.le_of_ble_eq_true rfl) hr0 (ct_X4_hasMore l G r0 σ) rfl rfl (Nat.le_of_ble_eq_true rfl) (Nat.le_of_ble_eq_true rfl) (Nat.le_of_ble_eq_true rfl) rfl dX4_firstFault_22 (fun a1 τ2 _ => ?_)
        refine Aw.if_eq (q := 28) (t := 39) rfl (by decide) dX4_firstFault_25 (fun hc => ?_) (fun hc => ?_)
        · refine Aw.aload_n 0 rfl rfl dX4_firstFault_39 ?_
          refine Aw.getI fl_X4_32 (Nat.le_of_ble_eq_true rfl) rfl hr0 rfl dX4_firstFault_40 ?_
          exact Aw.iret rfl dX4_firstFault_43
        · refine Aw.aload_n 0 rfl rfl dX4_firstFault_28 ?_
          refine Aw.callVi (As := []) (rest := []) cv_X4_42 (Nat.le_of_ble_eq_true rfl) hr0 (ct_X4_readOrder l G r0 τ2) rfl rfl (Nat.le_of_ble_eq_true rfl) (Nat.le_of_ble_eq_true rfl) (Nat.le_of_ble_eq_true rfl) rfl dX4_firstFault_29 (fun a3 τ4 _ => ?_)
          refine Aw.istore_n (L' := [(1, .int a3), (0, .ref (Gb G + r0)), (2, .int x2)]) (Nat.le_of_ble_eq_true rfl) rfl rfl dX4_firstFault_32 ?_
          refine Aw.iinc (v := x2 + 1) (L' := [(2, .int (x2 + 1)), (1, .int a3), (0, .ref (Gb G + r0))]) 2 rfl (ii_1 _) (Nat.le_of_ble_eq_true rfl) rfl rfl dX4_firstFault_33 ?_
          refine Aw.goto (q := 11) (by decide) dX4_firstFault_36 ?_
          refine Aw.sub (L' := [(0, .ref (Gb G + r0)), (1, .int a3), (2, .int (x2 + 1))]) [2, 1, 0] rfl ?_
          exact ih _ _ _ _
set_option maxRecDepth 100000 in
set_option maxHeartbeats 4000000 in
theorem ct_X4_firstFault (l : Launch) (G : Gt) (r0 : Nat) (σ : Sg) : Ct l G yX4_firstFault MX4_firstFault rI [.ref (Gb G + r0)] σ (f_X4_firstFault r0 σ) := by
  refine Ct.of (by decide +kernel) rfl (Nat.le_of_ble_eq_true rfl) ?_
  show Aw l G MX4_firstFault rI 0 [(0, .ref (Gb G + r0))] [] σ _
  unfold f_X4_firstFault
  refine Aw.gd (fun hr0 => ?_)
  refine Aw.aload_n 0 rfl rfl dX4_firstFault_0 ?_
  refine Aw.callVv (As := []) (rest := []) cv_X4_39 (Nat.le_of_ble_eq_true rfl) hr0 (ct_X4_restart l G r0 σ) rfl rfl (Nat.le_of_ble_eq_true rfl) (Nat.le_of_ble_eq_true rfl) (Nat.le_of_ble_eq_true rfl) rfl dX4_firstFault_1 (fun a1 τ2 _ => ?_)
  refine Aw.aload_n 0 rfl rfl dX4_firstFault_4 ?_
  refine Aw.callVi (As := []) (rest := []) cv_X4_42 (Nat.le_of_ble_eq_true rfl) hr0 (ct_X4_readOrder l G r0 τ2) rfl rfl (Nat.le_of_ble_eq_true rfl) (Nat.le_of_ble_eq_true rfl) (Nat.le_of_ble_eq_true rfl) rfl dX4_firstFault_5 (fun a3 τ4 _ => ?_)
  refine Aw.istore_n (L' := [(1, .int a3), (0, .ref (Gb G + r0))]) (Nat.le_of_ble_eq_true rfl) rfl rfl dX4_firstFault_8 ?_
  refine Aw.iconst (v := 1) ic_1 rfl dX4_firstFault_9 ?_
  refine Aw.istore_n (L' := [(2, .int 1), (1, .int a3), (0, .ref (Gb G + r0))]) (Nat.le_of_ble_eq_true rfl) rfl rfl dX4_firstFault_10 ?_
  refine Aw.sub (L' := [(0, .ref (Gb G + r0)), (1, .int a3), (2, .int 1)]) [2, 1, 0] rfl ?_
  exact aw_X4_firstFault_11 l G FU _ _ _ _
