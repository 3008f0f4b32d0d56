abbrev MX0_reset : Mt := (RX0, cX0_reset, 2, none, 1)
def f_X0_reset_2  : Nat → Nat → Int32 → Sg → Option (Unit × Sg)
  | 0, _, _, _ => none
  | n + 1, r0, x1, σ => if kd r0 = 0 then (if 12 ≤ x1 then (some ((), σ)) else (if inb x1 12 then (bn (up σ (rf r0 0) (ix x1) x1) (fun τ2 => if inb x1 12 then (bn (up τ2 (rf r0 1) (ix x1) 0) (fun τ4 => if inb x1 12 then (bn (up τ4 (rf r0 2) (ix x1) 0) (fun τ6 => f_X0_reset_2 n r0 (x1 + 1) τ6)) else none)) else none)) else none)) else none
def f_X0_reset (r0 : Nat) (σ : Sg) : Option (Unit × Sg) := if kd r0 = 0 then (f_X0_reset_2 FU r0 0 σ) else none
set_option maxRecDepth 100000 in
set_option maxHeartbeats 4000000 in
theorem aw_X0_reset_2 (l : Launch) (G : Gt) : ∀ (n : Nat) (r0 : Nat) (x1 : Int32) (σ : Sg), Aw l G MX0_reset rV 2 [(0, .ref (Gb G + r0)), (1, .int x1)] [] σ (f_X0_reset_2 n r0 x1 σ) := by
  intro n
  induction n with
  | zero => intro r0 x1 σ; exact Aw.no
  | succ n ih =>
    intro r0 x1 σ
    rw [f_X0_reset_2]
    refine Aw.gd (fun hr0 => ?_)
    refine Aw.iload_n 1 rfl rfl dX0_reset_2 ?_
    refine Aw.bipush (v := 12) ib_12 rfl dX0_reset_3 ?_
    refine Aw.icmp_ge (q := 8) (t := 35) rfl (by decide) dX0_reset_5 (fun hc => ?_) (fun hc => ?_)
    · exact Aw.vret rfl dX0_reset_35
    · refine Aw.aload_n 0 rfl rfl dX0_reset_8 ?_
      refine Aw.getR fl_X0_9 (Nat.le_of_ble_eq_true rfl) rfl hr0 rfl dX0_reset_9 ?_
      refine Aw.iload_n 1 rfl rfl dX0_reset_12 ?_
      refine Aw.iload_n 1 rfl rfl dX0_reset_13 ?_
      refine Aw.iast (n := 12) (ft_0_0 hr0).1 (ft_0_0 hr0).2 rfl dX0_reset_14 (fun hb1 => ?_)
      refine Aw.bs (fun τ2 => ?_)
      refine Aw.aload_n 0 rfl rfl dX0_reset_15 ?_
      refine Aw.getR fl_X0_15 (Nat.le_of_ble_eq_true rfl) rfl hr0 rfl dX0_reset_16 ?_
      refine Aw.iload_n 1 rfl rfl dX0_reset_19 ?_
      refine Aw.iconst (v := 0) ic_0 rfl dX0_reset_20 ?_
      refine Aw.iast (n := 12) (ft_0_1 hr0).1 (ft_0_1 hr0).2 rfl dX0_reset_21 (fun hb3 => ?_)
      refine Aw.bs (fun τ4 => ?_)
      refine Aw.aload_n 0 rfl rfl dX0_reset_22 ?_
      refine Aw.getR fl_X0_18 (Nat.le_of_ble_eq_true rfl) rfl hr0 rfl dX0_reset_23 ?_
      refine Aw.iload_n 1 rfl rfl dX0_reset_26 ?_
      refine Aw.iconst (v := 0) ic_0 rfl dX0_reset_27 ?_
      refine Aw.iast (n := 12) (ft_0_2 hr0).1 (ft_0_2 hr0).2 rfl dX0_reset_28 (fun hb5 => ?_)
      refine Aw.bs (fun τ6 => ?_)
      refine Aw.iinc (v := x1 + 1) (L' := [(1, .int (x1 + 1)), (0, .ref (Gb G + r0))]) 1 rfl (ii_1 _) (Nat.le_of_ble_eq_true rfl) rfl rfl dX0_reset_29 ?_
      refine Aw.goto (q := 2) (by decide) dX0_reset_32 ?_
      refine Aw.sub (L' := [(0, .ref (Gb G + r0)), (1, .int (x1 + 1))]) [1, 0] rfl ?_
      exact ih _ _ _
set_option maxRecDepth 100000 in
set_option maxHeartbeats 4000000 in
theorem ct_X0_reset (l : Launch) (G : Gt) (r0 : Nat) (σ : Sg) : Ct l G yX0_reset MX0_reset rV [.ref (Gb G + r0)] σ (f_X0_reset r0 σ) := by
  refine Ct.of (by decide +kernel) rfl (Nat.le_of_ble_eq_true rfl) ?_
  show Aw l G MX0_reset rV 0 [(0, .ref (Gb G + r0))] [] σ _
  unfold f_X0_reset
  refine Aw.gd (fun hr0 => ?_)
  refine Aw.iconst (v := 0) ic_0 rfl dX0_reset_0 ?_
  refine Aw.istore_n (L' := [(1, .int 0), (0, .ref (Gb G + r0))]) (Nat.le_of_ble_eq_true rfl) rfl rfl dX0_reset_1 ?_
  refine Aw.sub (L' := [(0, .ref (Gb G + r0)), (1, .int 0)]) [1, 0] rfl ?_
  exact aw_X0_reset_2 l G FU _ _ _
abbrev MX0_copyFrom : Mt := (RX0, cX0_copyFrom, 2, none, 1)
def f_X0_copyFrom (r0 : Nat) (r1 : Nat) (σ : Sg) : Option (Unit × Sg) := if kd r0 = 0 then (if kd r1 = 0 then (bn (cpy σ (rf r1 0) 0 (rf r0 0) 0 12) (fun τ1 => bn (cpy τ1 (rf r1 1) 0 (rf r0 1) 0 12) (fun τ2 => bn (cpy τ2 (rf r1 2) 0 (rf r0 2) 0 12) (fun τ3 => some ((), τ3))))) else none) else none
set_option maxRecDepth 100000 in
set_option maxHeartbeats 4000000 in
theorem ct_X0_copyFrom (l : Launch) (G : Gt) (r0 : Nat) (r1 : Nat) (σ : Sg) : Ct l G yX0_copyFrom MX0_copyFrom rV [.ref (Gb G + r0), .ref (Gb G + r1)] σ (f_X0_copyFrom r0 r1 σ) := by
  refine Ct.of (by decide +kernel) rfl (Nat.le_of_ble_eq_true rfl) ?_
  show Aw l G MX0_copyFrom rV 0 [(0, .ref (Gb G + r0)), (1, .ref (Gb G + r1))] [] σ _
  unfold f_X0_copyFrom
  refine Aw.gd (fun hr0 => ?_)
  refine Aw.gd (fun hr1 => ?_)
  refine Aw.aload_n 1 rfl rfl dX0_copyFrom_0 ?_
  refine Aw.getR fl_X0_9 (Nat.le_of_ble_eq_true rfl) rfl hr1 rfl dX0_copyFrom_1 ?_
  refine Aw.iconst (v := 0) ic_0 rfl dX0_copyFrom_4 ?_
  refine Aw.aload_n 0 rfl rfl dX0_copyFrom_5 ?_
  refine Aw.getR fl_X0_9 (Nat.le_of_ble_eq_true rfl) rfl hr0 rfl dX0_copyFrom_6 ?_
  refine Aw.iconst (v := 0) ic_0 rfl dX0_copyFrom_9 ?_
  refine Aw.bipush (v := 12) ib_12 rfl dX0_copyFrom_10 ?_
  refine Aw.acopy (n := 12) (n0 := 12) (n1 := 12) ml_X0_21 ac_nat ac_sta ini_J10 (ft_0_0 hr1).1 (ft_0_0 hr0).1 (ft_0_0 hr1).2 (ft_0_0 hr0).2 (by decide) (by decide) (by decide) (Nat.le_of_ble_eq_true rfl) (by decide) rfl dX0_copyFrom_12 ?_
  rw [cl_12]
  refine Aw.bs (fun τ1 => ?_)
  refine Aw.aload_n 1 rfl rfl dX0_copyFrom_15 ?_
  refine Aw.getR fl_X0_15 (Nat.le_of_ble_eq_true rfl) rfl hr1 rfl dX0_copyFrom_16 ?_
  refine Aw.iconst (v := 0) ic_0 rfl dX0_copyFrom_19 ?_
  refine Aw.aload_n 0 rfl rfl dX0_copyFrom_20 ?_
  refine Aw.getR fl_X0_15 (Nat.le_of_ble_eq_true rfl) rfl hr0 rfl dX0_copyFrom_21 ?_
  refine Aw.iconst (v := 0) ic_0 rfl dX0_copyFrom_24 ?_
  refine Aw.bipush (v := 12) ib_12 rfl dX0_copyFrom_25 ?_
  refine Aw.acopy (n := 12) (n0 := 12) (n1 := 12) ml_X0_21 ac_nat ac_sta ini_J10 (ft_0_1 hr1).1 (ft_0_1 hr0).1 (ft_0_1 hr1).2 (ft_0_1 hr0).2 (by decide) (by decide) (by decide) (Nat.le_of_ble_eq_true rfl) (by decide) rfl dX0_copyFrom_27 ?_
  rw [cl_12]
  refine Aw.bs (fun τ2 => ?_)
  refine Aw.aload_n 1 rfl rfl dX0_copyFrom_30 ?_
  refine Aw.getR fl_X0_18 (Nat.le_of_ble_eq_true rfl) rfl hr1 rfl dX0_copyFrom_31 ?_
  refine Aw.iconst (v := 0) ic_0 rfl dX0_copyFrom_34 ?_
  refine Aw.aload_n 0 rfl rfl dX0_copyFrom_35 ?_
  refine Aw.getR fl_X0_18 (Nat.le_of_ble_eq_true rfl) rfl hr0 rfl dX0_copyFrom_36 ?_
  refine Aw.iconst (v := 0) ic_0 rfl dX0_copyFrom_39 ?_
  refine Aw.bipush (v := 12) ib_12 rfl dX0_copyFrom_40 ?_
  refine Aw.acopy (n := 12) (n0 := 12) (n1 := 12) ml_X0_21 ac_nat ac_sta ini_J10 (ft_0_2 hr1).1 (ft_0_2 hr0).1 (ft_0_2 hr1).2 (ft_0_2 hr0).2 (by decide) (by decide) (by decide) (Nat.le_of_ble_eq_true rfl) (by decide) rfl dX0_copyFrom_42 ?_
  rw [cl_12]
  refine Aw.bs (fun τ3 => ?_)
  exact Aw.vret rfl dX0_copyFrom_45
abbrev MX0_canBeJoinedWith : Mt := (RX0, cX0_canBeJoinedWith, 4, (some .boolean), 1)
def f_X0_canBeJoinedWith_45 (rc2 : Nat → Nat → Int32 → Sg → Option (Int32 × Sg)) (r0 : Nat) (r1 : Nat) (x2 : Int32) (σ : Sg) : Option (Int32 × Sg) := if kd r0 = 0 then (if kd r1 = 0 then (rc2 r0 r1 (x2 + 1) σ) else none) else none
def f_X0_canBeJoinedWith_2  : Nat → Nat → Nat → Int32 → Sg → Option (Int32 × Sg)
  | 0, _, _, _, _ => none
  | n + 1, r0, r1, x2, σ => if kd r0 = 0 then (if kd r1 = 0 then (if 12 ≤ x2 then (some (1, σ)) else (if inb x2 12 then (if inb (σ (rf r0 0) (ix x2)) 12 then (bn (σ (rf r1 2) (ix (σ (rf r0 0) (ix x2)))) (fun b3 => if inb x2 12 then (if σ (rf r0 2) (ix x2) = 0 then (f_X0_canBeJoinedWith_45 (f_X0_canBeJoinedWith_2 n) r0 r1 x2 σ) else (if b3 = 0 then (f_X0_canBeJoinedWith_45 (f_X0_canBeJoinedWith_2 n) r0 r1 x2 σ) else (if inb x2 12 then (if σ (rf r0 2) (ix x2) = b3 then (f_X0_canBeJoinedWith_45 (f_X0_canBeJoinedWith_2 n) r0 r1 x2 σ) else (some (0, σ))) else none))) else none)) else none) else none)) else none) else none
def f_X0_canBeJoinedWith (r0 : Nat) (r1 : Nat) (σ : Sg) : Option (Int32 × Sg) := if kd r0 = 0 then (if kd r1 = 0 then (f_X0_canBeJoinedWith_2 FU r0 r1 0 σ) else none) else none
set_option maxRecDepth 100000 in
set_option maxHeartbeats 4000000 in
theorem aw_X0_canBeJoinedWith_45 (l : Launch) (G : Gt) (rc2 : Nat → Nat → Int32 → Sg → Option (Int32 × Sg)) (hrc2 : ∀ (r0 : Nat) (r1 : Nat) (x2 : Int32) (σ : Sg), Aw l G MX0_canBeJoinedWith rI 2 [(0, .ref (Gb G + r0)), (1, .ref (Gb G + r1)), (2, .int x2)] [] σ (rc2 r0 r1 x2 σ)) (r0 : Nat) (r1 : Nat) (x2 : Int32) (σ : Sg) : Aw l G MX0_canBeJoinedWith rI 45 [(0, .ref (Gb G + r0)), (1, .ref (Gb G + r1)), (2, .int x2)] [] σ (f_X0_canBeJoinedWith_45 rc2 r0 r1 x2 σ) := by
  unfold f_X0_canBeJoinedWith_45
  refine Aw.gd (fun hr0 => ?_)
  refine Aw.gd (fun hr1 => ?_)
  refine Aw.iinc (v := x2 + 1) (L' := [(2, .int (x2 + 1)), (0, .ref (Gb G + r0)), (1, .ref (Gb G + r1))]) 2 rfl (ii_1 _) (Nat.le_of_ble_eq_true rfl) rfl rfl dX0_canBeJoinedWith_45 ?_
  refine Aw.goto (q := 2) (by decide) dX0_canBeJoinedWith_48 ?_
  refine Aw.sub (L' := [(0, .ref (Gb G + r0)), (1, .ref (Gb G + r1)), (2, .int (x2 + 1))]) [1, 2, 0] rfl ?_
  exact hrc2 _ _ _ _
set_option maxRecDepth 100000 in
set_option maxHeartbeats 4000000 in
theorem aw_X0_canBeJoinedWith_2 (l : Launch) (G : Gt) : ∀ (n : Nat) (r0 : Nat) (r1 : Nat) (x2 : Int32) (σ : Sg), Aw l G MX0_canBeJoinedWith rI 2 [(0, .ref (Gb G + r0)), (1, .ref (Gb G + r1)), (2, .int x2)] [] σ (f_X0_canBeJoinedWith_2 n r0 r1 x2 σ) := by
  intro n
  induction n with
  | zero => intro r0 r1 x2 σ; exact Aw.no
  | succ n ih =>
    intro r0 r1 x2 σ
    rw [f_X0_canBeJoinedWith_2]
    refine Aw.gd (fun hr0 => ?_)
    refine Aw.gd (fun hr1 => ?_)
    refine Aw.iload_n 2 rfl rfl dX0_canBeJoinedWith_2 ?_
    refine Aw.bipush (v := 12) ib_12 rfl dX0_canBeJoinedWith_3 ?_
    refine Aw.icmp_ge (q := 8) (t := 51) rfl (by decide) dX0_canBeJoinedWith_5 (fun hc => ?_) (fun hc => ?_)
    · refine Aw.iconst (v := 1) ic_1 rfl dX0_canBeJoinedWith_51 ?_
      exact Aw.zret rfl rfl dX0_canBeJoinedWith_52
    · refine Aw.aload_n 1 rfl rfl dX0_canBeJoinedWith_8 ?_
      refine Aw.getR fl_X0_18 (Nat.le_of_ble_eq_true rfl) rfl hr1 rfl dX0_canBeJoinedWith_9 ?_
      refine Aw.aload_n 0 rfl rfl dX0_canBeJoinedWith_12 ?_
      refine Aw.getR fl_X0_9 (Nat.le_of_ble_eq_true rfl) rfl hr0 rfl dX0_canBeJoinedWith_13 ?_
      refine Aw.iload_n 2 rfl rfl dX0_canBeJoinedWith_16 ?_
      refine Aw.iald (n := 12) (ft_0_0 hr0).1 (ft_0_0 hr0).2 rfl dX0_canBeJoinedWith_17 (fun hb1 => ?_)
      refine Aw.iald (n := 12) (ft_0_2 hr1).1 (ft_0_2 hr1).2 rfl dX0_canBeJoinedWith_18 (fun hb2 => ?_)
      refine Aw.bi (fun b3 => ?_)
      refine Aw.istore_n (L' := [(3, .int b3), (0, .ref (Gb G + r0)), (1, .ref (Gb G + r1)), (2, .int x2)]) (Nat.le_of_ble_eq_true rfl) rfl rfl dX0_canBeJoinedWith_19 ?_
      refine Aw.aload_n 1 rfl rfl dX0_canBeJoinedWith_20 ?_
      refine Aw.getR fl_X0_18 (Nat.le_of_ble_eq_true rfl) rfl hr0 rfl dX0_canBeJoinedWith_21 ?_
      refine Aw.iload_n 3 rfl rfl dX0_canBeJoinedWith_24 ?_
      refine Aw.iald (n := 12) (ft_0_2 hr0).1 (ft_0_2 hr0).2 rfl dX0_canBeJoinedWith_25 (fun hb4 => ?_)
      refine Aw.if_eq (q := 29) (t := 45) rfl (by decide) dX0_canBeJoinedWith_26 (fun hc => ?_) (fun hc => ?_)
      · refine Aw.sub (L' := [(0, .ref (Gb G + r0)), (1, .ref (Gb G + r1)), (2, .int x2)]) [1, 2, 3] rfl ?_
        exact aw_X0_canBeJoinedWith_45 l G _ ih _ _ _ _
      · refine Aw.iload_n 0 rfl rfl dX0_canBeJoinedWith_29 ?_
        refine Aw.if_eq (q := 33) (t := 45) rfl (by decide) dX0_canBeJoinedWith_30 (fun hc => ?_) (fun hc => ?_)
        · refine Aw.sub (L' := [(0, .ref (Gb G + r0)), (1, .ref (Gb G + r1)), (2, .int x2)]) [1, 2, 3] rfl ?_
          exact aw_X0_canBeJoinedWith_45 l G _ ih _ _ _ _
        · refine Aw.aload_n 1 rfl rfl dX0_canBeJoinedWith_33 ?_
          refine Aw.getR fl_X0_18 (Nat.le_of_ble_eq_true rfl) rfl hr0 rfl dX0_canBeJoinedWith_34 ?_
          refine Aw.iload_n 3 rfl rfl dX0_canBeJoinedWith_37 ?_
          refine Aw.iald (n := 12) (ft_0_2 hr0).1 (ft_0_2 hr0).2 rfl dX0_canBeJoinedWith_38 (fun hb5 => ?_)
          refine Aw.iload_n 0 rfl rfl dX0_canBeJoinedWith_39 ?_
          refine Aw.icmp_eq (q := 43) (t := 45) rfl (by decide) dX0_canBeJoinedWith_40 (fun hc => ?_) (fun hc => ?_)
          · refine Aw.sub (L' := [(0, .ref (Gb G + r0)), (1, .ref (Gb G + r1)), (2, .int x2)]) [1, 2, 3] rfl ?_
            exact aw_X0_canBeJoinedWith_45 l G _ ih _ _ _ _
          · refine Aw.iconst (v := 0) ic_0 rfl dX0_canBeJoinedWith_43 ?_
            exact Aw.zret rfl rfl dX0_canBeJoinedWith_44
set_option maxRecDepth 100000 in
set_option maxHeartbeats 4000000 in
theorem ct_X0_canBeJoinedWith (l : Launch) (G : Gt) (r0 : Nat) (r1 : Nat) (σ : Sg) : Ct l G yX0_canBeJoinedWith MX0_canBeJoinedWith rI [.ref (Gb G + r0), .ref (Gb G + r1)] σ (f_X0_canBeJoinedWith r0 r1 σ) := by
  refine Ct.of (by decide +kernel) rfl (Nat.le_of_ble_eq_true rfl) ?_
  show Aw l G MX0_canBeJoinedWith rI 0 [(0, .ref (Gb G + r0)), (1, .ref (Gb G + r1))] [] σ _
  unfold f_X0_canBeJoinedWith
  refine Aw.gd (fun hr0 => ?_)
  refine Aw.gd (fun hr1 => ?_)
  refine Aw.iconst (v := 0) ic_0 rfl dX0_canBeJoinedWith_0 ?_
  refine Aw.istore_n (L' := [(2, .int 0), (0, .ref (Gb G + r0)), (1, .ref (Gb G + r1))]) (Nat.le_of_ble_eq_true rfl) rfl rfl dX0_canBeJoinedWith_1 ?_
  refine Aw.sub (L' := [(0, .ref (Gb G + r0)), (1, .ref (Gb G + r1)), (2, .int 0)]) [1, 2, 0] rfl ?_
  exact aw_X0_canBeJoinedWith_2 l G FU _ _ _ _
abbrev MX0_becomeJoined : Mt := (RX0, cX0_becomeJoined, 5, none, 1)
def f_X0_becomeJoined_81 (rc2 : Nat → Nat → Nat → Int32 → Sg → Option (Unit × Sg)) (r0 : Nat) (r1 : Nat) (r2 : Nat) (x3 : Int32) (sr0 : Nat) (s1 : Int32) (s2 : Int32) (σ : Sg) : Option (Unit × Sg) := if kd r0 = 0 then (if kd r1 = 0 then (if kd r2 = 0 then (if kd sr0 = 7 then (if inb s1 (ln sr0) then (bn (up σ sr0 (ix s1) s2) (fun τ2 => rc2 r0 r1 r2 (x3 + 1) τ2)) else none) else none) else none) else none) else none
def f_X0_becomeJoined_2  : Nat → Nat → Nat → Nat → Int32 → Sg → Option (Unit × Sg)
  | 0, _, _, _, _, _ => none
  | n + 1, r0, r1, r2, x3, σ => if kd r0 = 0 then (if kd r1 = 0 then (if kd r2 = 0 then (if 12 ≤ x3 then (some ((), σ)) else (if inb x3 12 then (bn (σ (rf r1 0) (ix x3)) (fun b2 => if inb b2 12 then (if inb x3 12 then (bn (up σ (rf r0 0) (ix x3) (σ (rf r2 0) (ix b2))) (fun τ5 => if inb x3 12 then (if inb b2 12 then (if inb x3 12 then (bn (up τ5 (rf r0 1) (ix x3) (rem ((τ5 (rf r1 1) (ix x3)) + (τ5 (rf r2 1) (ix b2))) 4)) (fun τ9 => if inb x3 12 then (if τ9 (rf r1 2) (ix x3) = 0 then (if inb b2 12 then (f_X0_becomeJoined_81 (f_X0_becomeJoined_2 n) r0 r1 r2 x3 (rf r0 2) x3 (τ9 (rf r2 2) (ix b2)) τ9) else none) else (if inb x3 12 then (f_X0_becomeJoined_81 (f_X0_becomeJoined_2 n) r0 r1 r2 x3 (rf r0 2) x3 (τ9 (rf r1 2) (ix x3)) τ9) else none)) else none)) else none) else none) else none)) else none) else none)) else none)) else none) else none) else none
def f_X0_becomeJoined (r0 : Nat) (r1 : Nat) (r2 : Nat) (σ : Sg) : Option (Unit × Sg) := if kd r0 = 0 then (if kd r1 = 0 then (if kd r2 = 0 then (f_X0_becomeJoined_2 FU r0 r1 r2 0 σ) else none) else none) else none
set_option maxRecDepth 100000 in
set_option maxHeartbeats 4000000 in
theorem aw_X0_becomeJoined_81 (l : Launch) (G : Gt) (rc2 : Nat → Nat → Nat → Int32 → Sg → Option (Unit × Sg)) (hrc2 : ∀ (r0 : Nat) (r1 : Nat) (r2 : Nat) (x3 : Int32) (σ : Sg), Aw l G MX0_becomeJoined rV 2 [(0, .ref (Gb G + r0)), (1, .ref (Gb G + r1)), (2, .ref (Gb G + r2)), (3, .int x3)] [] σ (rc2 r0 r1 r2 x3 σ)) (r0 : Nat) (r1 : Nat) (r2 : Nat) (x3 : Int32) (sr0 : Nat) (s1 : Int32) (s2 : Int32) (σ : Sg) : Aw l G MX0_becomeJoined rV 81 [(0, .ref (Gb G + r0)), (1, .ref (Gb G + r1)), (2, .ref (Gb G + r2)), (3, .int x3)] [.int s2, .int s1, .ref (Gb G + sr0)] σ (f_X0_becomeJoined_81 rc2 r0 r1 r2 x3 sr0 s1 s2 σ) := by
  unfold f_X0_becomeJoined_81
  refine Aw.gd (fun hr0 => ?_)
  refine Aw.gd (fun hr1 => ?_)
  refine Aw.gd (fun hr2 => ?_)
  refine Aw.gd (fun hsr0 => ?_)
  refine Aw.iast (n := ln sr0) hsr0 rfl rfl dX0_becomeJoined_81 (fun hb1 => ?_)
  refine Aw.bs (fun τ2 => ?_)
  refine Aw.iinc (v := x3 + 1) (L' := [(3, .int (x3 + 1)), (0, .ref (Gb G + r0)), (1, .ref (Gb G + r1)), (2, .ref (Gb G + r2))]) 3 rfl (ii_1 _) (Nat.le_of_ble_eq_true rfl) rfl rfl dX0_becomeJoined_82 ?_
  refine Aw.goto (q := 2) (by decide) dX0_becomeJoined_85 ?_
  refine Aw.sub (L' := [(0, .ref (Gb G + r0)), (1, .ref (Gb G + r1)), (2, .ref (Gb G + r2)), (3, .int (x3 + 1))]) [1, 2, 3, 0] rfl ?_
  exact hrc2 _ _ _ _ _
set_option maxRecDepth 100000 in
set_option maxHeartbeats 4000000 in
theorem aw_X0_becomeJoined_2 (l : Launch) (G : Gt) : ∀ (n : Nat) (r0 : Nat) (r1 : Nat) (r2 : Nat) (x3 : Int32) (σ : Sg), Aw l G MX0_becomeJoined rV 2 [(0, .ref (Gb G + r0)), (1, .ref (Gb G + r1)), (2, .ref (Gb G + r2)), (3, .int x3)] [] σ (f_X0_becomeJoined_2 n r0 r1 r2 x3 σ) := by
  intro n
  induction n with
  | zero => intro r0 r1 r2 x3 σ; exact Aw.no
  | succ n ih =>
    intro r0 r1 r2 x3 σ
    rw [f_X0_becomeJoined_2]
    refine Aw.gd (fun hr0 => ?_)
    refine Aw.gd (fun hr1 => ?_)
    refine Aw.gd (fun hr2 => ?_)
    refine Aw.iload_n 3 rfl rfl dX0_becomeJoined_2 ?_
    refine Aw.bipush (v := 12) ib_12 rfl dX0_becomeJoined_3 ?_
    refine Aw.icmp_ge (q := 8) (t := 88) rfl (by decide) dX0_becomeJoined_5 (fun hc => ?_) (fun hc => ?_)
    · exact Aw.vret rfl dX0_becomeJoined_88
    · refine Aw.aload_n 1 rfl rfl dX0_becomeJoined_8 ?_
      refine Aw.getR fl_X0_9 (Nat.le_of_ble_eq_true rfl) rfl hr1 rfl dX0_becomeJoined_9 ?_
      refine Aw.iload_n 3 rfl rfl dX0_becomeJoined_12 ?_
      refine Aw.iald (n := 12) (ft_0_0 hr1).1 (ft_0_0 hr1).2 rfl dX0_becomeJoined_13 (fun hb1 => ?_)
      refine Aw.bi (fun b2 => ?_)
      refine Aw.istore (L' := [(4, .int b2), (0, .ref (Gb G + r0)), (1, .ref (Gb G + r1)), (2, .ref (Gb G + r2)), (3, .int x3)]) (Nat.le_of_ble_eq_true rfl) rfl rfl dX0_becomeJoined_14 ?_
      refine Aw.aload_n 1 rfl rfl dX0_becomeJoined_16 ?_
      refine Aw.getR fl_X0_9 (Nat.le_of_ble_eq_true rfl) rfl hr0 rfl dX0_becomeJoined_17 ?_
      refine Aw.iload_n 4 rfl rfl dX0_becomeJoined_20 ?_
      refine Aw.aload_n 3 rfl rfl dX0_becomeJoined_21 ?_
      refine Aw.getR fl_X0_9 (Nat.le_of_ble_eq_true rfl) rfl hr2 rfl dX0_becomeJoined_22 ?_
      refine Aw.iload 0 rfl rfl dX0_becomeJoined_25 ?_
      refine Aw.iald (n := 12) (ft_0_0 hr2).1 (ft_0_0 hr2).2 rfl dX0_becomeJoined_27 (fun hb3 => ?_)
      refine Aw.iast (n := 12) (ft_0_0 hr0).1 (ft_0_0 hr0).2 rfl dX0_becomeJoined_28 (fun hb4 => ?_)
      refine Aw.bs (fun τ5 => ?_)
      refine Aw.aload_n 1 rfl rfl dX0_becomeJoined_29 ?_
      refine Aw.getR fl_X0_15 (Nat.le_of_ble_eq_true rfl) rfl hr0 rfl dX0_becomeJoined_30 ?_
      refine Aw.iload_n 4 rfl rfl dX0_becomeJoined_33 ?_
      refine Aw.aload_n 2 rfl rfl dX0_becomeJoined_34 ?_
      refine Aw.getR fl_X0_15 (Nat.le_of_ble_eq_true rfl) rfl hr1 rfl dX0_becomeJoined_35 ?_
      refine Aw.iload_n 4 rfl rfl dX0_becomeJoined_38 ?_
      refine Aw.iald (n := 12) (ft_0_1 hr1).1 (ft_0_1 hr1).2 rfl dX0_becomeJoined_39 (fun hb6 => ?_)
      refine Aw.aload_n 3 rfl rfl dX0_becomeJoined_40 ?_
      refine Aw.getR fl_X0_15 (Nat.le_of_ble_eq_true rfl) rfl hr2 rfl dX0_becomeJoined_41 ?_
      refine Aw.iload 0 rfl rfl dX0_becomeJoined_44 ?_
      refine Aw.iald (n := 12) (ft_0_1 hr2).1 (ft_0_1 hr2).2 rfl dX0_becomeJoined_46 (fun hb7 => ?_)
      refine Aw.iadd rfl dX0_becomeJoined_47 ?_
      refine Aw.iconst (v := 4) ic_4 rfl dX0_becomeJoined_48 ?_
      refine Aw.irem nz_4 rfl dX0_becomeJoined_49 ?_
      refine Aw.iast (n := 12) (ft_0_1 hr0).1 (ft_0_1 hr0).2 rfl dX0_becomeJoined_50 (fun hb8 => ?_)
      refine Aw.bs (fun τ9 => ?_)
      refine Aw.aload_n 1 rfl rfl dX0_becomeJoined_51 ?_
      refine Aw.getR fl_X0_18 (Nat.le_of_ble_eq_true rfl) rfl hr0 rfl dX0_becomeJoined_52 ?_
      refine Aw.iload_n 4 rfl rfl dX0_becomeJoined_55 ?_
      refine Aw.aload_n 2 rfl rfl dX0_becomeJoined_56 ?_
      refine Aw.getR fl_X0_18 (Nat.le_of_ble_eq_true rfl) rfl hr1 rfl dX0_becomeJoined_57 ?_
      refine Aw.iload_n 4 rfl rfl dX0_becomeJoined_60 ?_
      refine Aw.iald (n := 12) (ft_0_2 hr1).1 (ft_0_2 hr1).2 rfl dX0_becomeJoined_61 (fun hb10 => ?_)
      refine Aw.if_eq (q := 65) (t := 74) rfl (by decide) dX0_becomeJoined_62 (fun hc => ?_) (fun hc => ?_)
      · refine Aw.aload_n 3 rfl rfl dX0_becomeJoined_74 ?_
        refine Aw.getR fl_X0_18 (Nat.le_of_ble_eq_true rfl) rfl hr2 rfl dX0_becomeJoined_75 ?_
        refine Aw.iload 0 rfl rfl dX0_becomeJoined_78 ?_
        refine Aw.iald (n := 12) (ft_0_2 hr2).1 (ft_0_2 hr2).2 rfl dX0_becomeJoined_80 (fun hb11 => ?_)
        refine Aw.sub (L' := [(0, .ref (Gb G + r0)), (1, .ref (Gb G + r1)), (2, .ref (Gb G + r2)), (3, .int x3)]) [1, 2, 3, 4] rfl ?_
        exact aw_X0_becomeJoined_81 l G _ ih _ _ _ _ _ _ _ _
      · refine Aw.aload_n 2 rfl rfl dX0_becomeJoined_65 ?_
        refine Aw.getR fl_X0_18 (Nat.le_of_ble_eq_true rfl) rfl hr1 rfl dX0_becomeJoined_66 ?_
        refine Aw.iload_n 4 rfl rfl dX0_becomeJoined_69 ?_
        refine Aw.iald (n := 12) (ft_0_2 hr1).1 (ft_0_2 hr1).2 rfl dX0_becomeJoined_70 (fun hb12 => ?_)
        refine Aw.goto (q := 81) (by decide) dX0_becomeJoined_71 ?_
        refine Aw.sub (L' := [(0, .ref (Gb G + r0)), (1, .ref (Gb G + r1)), (2, .ref (Gb G + r2)), (3, .int x3)]) [1, 2, 3, 4] rfl ?_
        exact aw_X0_becomeJoined_81 l G _ ih _ _ _ _ _ _ _ _
set_option maxRecDepth 100000 in
set_option maxHeartbeats 4000000 in
theorem ct_X0_becomeJoined (l : Launch) (G : Gt) (r0 : Nat) (r1 : Nat) (r2 : Nat) (σ : Sg) : Ct l G yX0_becomeJoined MX0_becomeJoined rV [.ref (Gb G + r0), .ref (Gb G + r1), .ref (Gb G + r2)] σ (f_X0_becomeJoined r0 r1 r2 σ) := by
  refine Ct.of (by decide +kernel) rfl (Nat.le_of_ble_eq_true rfl) ?_
  show Aw l G MX0_becomeJoined rV 0 [(0, .ref (Gb G + r0)), (1, .ref (Gb G + r1)), (2, .ref (Gb G + r2))] [] σ _
  unfold f_X0_becomeJoined
  refine Aw.gd (fun hr0 => ?_)
  refine Aw.gd (fun hr1 => ?_)
  refine Aw.gd (fun hr2 => ?_)
  refine Aw.iconst (v := 0) ic_0 rfl dX0_becomeJoined_0 ?_
  refine Aw.istore_n (L' := [(3, .int 0), (0, .ref (Gb G + r0)), (1, .ref (Gb G + r1)), (2, .ref (Gb G + r2))]) (Nat.le_of_ble_eq_true rfl) rfl rfl dX0_becomeJoined_1 ?_
  refine Aw.sub (L' := [(0, .ref (Gb G + r0)), (1, .ref (Gb G + r1)), (2, .ref (Gb G + r2)), (3, .int 0)]) [1, 2, 3, 0] rfl ?_
  exact aw_X0_becomeJoined_2 l G FU _ _ _ _ _
abbrev MX0_becomeTurnedBack : Mt := (RX0, cX0_becomeTurnedBack, 4, none, 1)
def f_X0_becomeTurnedBack_2  : Nat → Nat → Nat → Int32 → Sg → Option (Unit × Sg)
  | 0, _, _, _, _ => none
  | n + 1, r0, r1, x2, σ => if kd r0 = 0 then (if kd r1 = 0 then (if 12 ≤ x2 then (some ((), σ)) else (if inb x2 12 then (bn (σ (rf r1 0) (ix x2)) (fun b2 => if inb b2 12 then (bn (up σ (rf r0 0) (ix b2) x2) (fun τ4 => if inb x2 12 then (if inb b2 12 then (bn (up τ4 (rf r0 1) (ix b2) (rem (4 - (τ4 (rf r1 1) (ix x2))) 4)) (fun τ7 => if inb x2 12 then (if inb b2 12 then (bn (up τ7 (rf r0 2) (ix b2) (τ7 (rf r1 2) (ix x2))) (fun τ10 => f_X0_becomeTurnedBack_2 n r0 r1 (x2 + 1) τ10)) else none) else none)) else none) else none)) else none)) else none)) else none) else none
def f_X0_becomeTurnedBack (r0 : Nat) (r1 : Nat) (σ : Sg) : Option (Unit × Sg) := if kd r0 = 0 then (if kd r1 = 0 then (f_X0_becomeTurnedBack_2 FU r0 r1 0 σ) else none) else none
set_option maxRecDepth 100000 in
set_option maxHeartbeats 4000000 in
theorem aw_X0_becomeTurnedBack_2 (l : Launch) (G : Gt) : ∀ (n : Nat) (r0 : Nat) (r1 : Nat) (x2 : Int32) (σ : Sg), Aw l G MX0_becomeTurnedBack rV 2 [(0, .ref (Gb G + r0)), (1, .ref (Gb G + r1)), (2, .int x2)] [] σ (f_X0_becomeTurnedBack_2 n r0 r1 x2 σ) := by
  intro n
  induction n with
  | zero => intro r0 r1 x2 σ; exact Aw.no
  | succ n ih =>
    intro r0 r1 x2 σ
    rw [f_X0_becomeTurnedBack_2]
    refine Aw.gd (fun hr0 => ?_)
    refine Aw.gd (fun hr1 => ?_)
    refine Aw.iload_n 2 rfl rfl dX0_becomeTurnedBack_2 ?_
    refine Aw.bipush (v := 12) ib_12 rfl dX0_becomeTurnedBack_3 ?_
    refine Aw.icmp_ge (q := 8) (t := 56) rfl (by decide) dX0_becomeTurnedBack_5 (fun hc => ?_) (fun hc => ?_)
    · exact Aw.vret rfl dX0_becomeTurnedBack_56
    · refine Aw.aload_n 1 rfl rfl dX0_becomeTurnedBack_8 ?_
      refine Aw.getR fl_X0_9 (Nat.le_of_ble_eq_true rfl) rfl hr1 rfl dX0_becomeTurnedBack_9 ?_
      refine Aw.iload_n 2 rfl rfl dX0_becomeTurnedBack_12 ?_
      refine Aw.iald (n := 12) (ft_0_0 hr1).1 (ft_0_0 hr1).2 rfl dX0_becomeTurnedBack_13 (fun hb1 => ?_)
      refine Aw.bi (fun b2 => ?_)
      refine Aw.istore_n (L' := [(3, .int b2), (0, .ref (Gb G + r0)), (1, .ref (Gb G + r1)), (2, .int x2)]) (Nat.le_of_ble_eq_true rfl) rfl rfl dX0_becomeTurnedBack_14 ?_
      refine Aw.aload_n 1 rfl rfl dX0_becomeTurnedBack_15 ?_
      refine Aw.getR fl_X0_9 (Nat.le_of_ble_eq_true rfl) rfl hr0 rfl dX0_becomeTurnedBack_16 ?_
      refine Aw.iload_n 0 rfl rfl dX0_becomeTurnedBack_19 ?_
      refine Aw.iload_n 3 rfl rfl dX0_becomeTurnedBack_20 ?_
      refine Aw.iast (n := 12) (ft_0_0 hr0).1 (ft_0_0 hr0).2 rfl dX0_becomeTurnedBack_21 (fun hb3 => ?_)
      refine Aw.bs (fun τ4 => ?_)
      refine Aw.aload_n 1 rfl rfl dX0_becomeTurnedBack_22 ?_
      refine Aw.getR fl_X0_15 (Nat.le_of_ble_eq_true rfl) rfl hr0 rfl dX0_becomeTurnedBack_23 ?_
      refine Aw.iload_n 0 rfl rfl dX0_becomeTurnedBack_26 ?_
      refine Aw.iconst (v := 4) ic_4 rfl dX0_becomeTurnedBack_27 ?_
      refine Aw.aload_n 2 rfl rfl dX0_becomeTurnedBack_28 ?_
      refine Aw.getR fl_X0_15 (Nat.le_of_ble_eq_true rfl) rfl hr1 rfl dX0_becomeTurnedBack_29 ?_
      refine Aw.iload_n 3 rfl rfl dX0_becomeTurnedBack_32 ?_
      refine Aw.iald (n := 12) (ft_0_1 hr1).1 (ft_0_1 hr1).2 rfl dX0_becomeTurnedBack_33 (fun hb5 => ?_)
      refine Aw.isub rfl dX0_becomeTurnedBack_34 ?_
      refine Aw.iconst (v := 4) ic_4 rfl dX0_becomeTurnedBack_35 ?_
      refine Aw.irem nz_4 rfl dX0_becomeTurnedBack_36 ?_
      refine Aw.iast (n := 12) (ft_0_1 hr0).1 (ft_0_1 hr0).2 rfl dX0_becomeTurnedBack_37 (fun hb6 => ?_)
      refine Aw.bs (fun τ7 => ?_)
      refine Aw.aload_n 1 rfl rfl dX0_becomeTurnedBack_38 ?_
      refine Aw.getR fl_X0_18 (Nat.le_of_ble_eq_true rfl) rfl hr0 rfl dX0_becomeTurnedBack_39 ?_
      refine Aw.iload_n 0 rfl rfl dX0_becomeTurnedBack_42 ?_
      refine Aw.aload_n 2 rfl rfl dX0_becomeTurnedBack_43 ?_
      refine Aw.getR fl_X0_18 (Nat.le_of_ble_eq_true rfl) rfl hr1 rfl dX0_becomeTurnedBack_44 ?_
      refine Aw.iload_n 3 rfl rfl dX0_becomeTurnedBack_47 ?_
      refine Aw.iald (n := 12) (ft_0_2 hr1).1 (ft_0_2 hr1).2 rfl dX0_becomeTurnedBack_48 (fun hb8 => ?_)
      refine Aw.iast (n := 12) (ft_0_2 hr0).1 (ft_0_2 hr0).2 rfl dX0_becomeTurnedBack_49 (fun hb9 => ?_)
      refine Aw.bs (fun τ10 => ?_)
      refine Aw.iinc (v := x2 + 1) (L' := [(2, .int (x2 + 1)), (3, .int b2), (0, .ref (Gb G + r0)), (1, .ref (Gb G + r1))]) 3 rfl (ii_1 _) (Nat.le_of_ble_eq_true rfl) rfl rfl dX0_becomeTurnedBack_50 ?_
      refine Aw.goto (q := 2) (by decide) dX0_becomeTurnedBack_53 ?_
      refine Aw.sub (L' := [(0, .ref (Gb G + r0)), (1, .ref (Gb G + r1)), (2, .int (x2 + 1))]) [2, 3, 0] rfl ?_
      exact ih _ _ _ _
set_option maxRecDepth 100000 in
set_option maxHeartbeats 4000000 in
theorem ct_X0_becomeTurnedBack (l : Launch) (G : Gt) (r0 : Nat) (r1 : Nat) (σ : Sg) : Ct l G yX0_becomeTurnedBack MX0_becomeTurnedBack rV [.ref (Gb G + r0), .ref (Gb G + r1)] σ (f_X0_becomeTurnedBack r0 r1 σ) := by
  refine Ct.of (by decide +kernel) rfl (Nat.le_of_ble_eq_true rfl) ?_
  show Aw l G MX0_becomeTurnedBack rV 0 [(0, .ref (Gb G + r0)), (1, .ref (Gb G + r1))] [] σ _
  unfold f_X0_becomeTurnedBack
  refine Aw.gd (fun hr0 => ?_)
  refine Aw.gd (fun hr1 => ?_)
  refine Aw.iconst (v := 0) ic_0 rfl dX0_becomeTurnedBack_0 ?_
  refine Aw.istore_n (L' := [(2, .int 0), (0, .ref (Gb G + r0)), (1, .ref (Gb G + r1))]) (Nat.le_of_ble_eq_true rfl) rfl rfl dX0_becomeTurnedBack_1 ?_
  refine Aw.sub (L' := [(0, .ref (Gb G + r0)), (1, .ref (Gb G + r1)), (2, .int 0)]) [1, 2, 0] rfl ?_
  exact aw_X0_becomeTurnedBack_2 l G FU _ _ _ _
abbrev MX0_placeBehind : Mt := (RX0, cX0_placeBehind, 3, (some .int), 1)
def f_X0_placeBehind (r0 : Nat) (x1 : Int32) (σ : Sg) : Option (Int32 × Sg) := if kd r0 = 0 then (bn (x1 / 4) (fun b1 => if inb b1 12 then (if inb b1 12 then (some (((σ (rf r0 0) (ix b1)) * 4) + (rem (x1 + (σ (rf r0 1) (ix b1))) 4), σ)) else none) else none)) else none
set_option maxRecDepth 100000 in
set_option maxHeartbeats 4000000 in
theorem ct_X0_placeBehind (l : Launch) (G : Gt) (r0 : Nat) (x1 : Int32) (σ : Sg) : Ct l G yX0_placeBehind MX0_placeBehind rI [.ref (Gb G + r0), .int x1] σ (f_X0_placeBehind r0 x1 σ) := by
  refine Ct.of (by decide +kernel) rfl (Nat.le_of_ble_eq_true rfl) ?_
  show Aw l G MX0_placeBehind rI 0 [(0, .ref (Gb G + r0)), (1, .int x1)] [] σ _
  unfold f_X0_placeBehind
  refine Aw.gd (fun hr0 => ?_)
  refine Aw.iload_n 1 rfl rfl dX0_placeBehind_0 ?_
  refine Aw.iconst (v := 4) ic_4 rfl dX0_placeBehind_1 ?_
  refine Aw.idiv nz_4 rfl dX0_placeBehind_2 ?_
  refine Aw.bi (fun b1 => ?_)
  refine Aw.istore_n (L' := [(2, .int b1), (0, .ref (Gb G + r0)), (1, .int x1)]) (Nat.le_of_ble_eq_true rfl) rfl rfl dX0_placeBehind_3 ?_
  refine Aw.aload_n 1 rfl rfl dX0_placeBehind_4 ?_
  refine Aw.getR fl_X0_9 (Nat.le_of_ble_eq_true rfl) rfl hr0 rfl dX0_placeBehind_5 ?_
  refine Aw.iload_n 0 rfl rfl dX0_placeBehind_8 ?_
  refine Aw.iald (n := 12) (ft_0_0 hr0).1 (ft_0_0 hr0).2 rfl dX0_placeBehind_9 (fun hb2 => ?_)
  refine Aw.iconst (v := 4) ic_4 rfl dX0_placeBehind_10 ?_
  refine Aw.imul rfl dX0_placeBehind_11 ?_
  refine Aw.iload_n 2 rfl rfl dX0_placeBehind_12 ?_
  refine Aw.aload_n 1 rfl rfl dX0_placeBehind_13 ?_
  refine Aw.getR fl_X0_15 (Nat.le_of_ble_eq_true rfl) rfl hr0 rfl dX0_placeBehind_14 ?_
  refine Aw.iload_n 0 rfl rfl dX0_placeBehind_17 ?_
  refine Aw.iald (n := 12) (ft_0_1 hr0).1 (ft_0_1 hr0).2 rfl dX0_placeBehind_18 (fun hb3 => ?_)
  refine Aw.iadd rfl dX0_placeBehind_19 ?_
  refine Aw.iconst (v := 4) ic_4 rfl dX0_placeBehind_20 ?_
  refine Aw.irem nz_4 rfl dX0_placeBehind_21 ?_
  refine Aw.iadd rfl dX0_placeBehind_22 ?_
  exact Aw.iret rfl dX0_placeBehind_23
abbrev MX0_spotsThatWant : Mt := (RX0, cX0_spotsThatWant, 4, (some .int), 1)
def f_X0_spotsThatWant_26 (rc4 : Nat → Int32 → Int32 → Int32 → Sg → Option (Int32 × Sg)) (r0 : Nat) (x1 : Int32) (x2 : Int32) (x3 : Int32) (σ : Sg) : Option (Int32 × Sg) := if kd r0 = 0 then (rc4 r0 x1 x2 (x3 + 1) σ) else none
def f_X0_spotsThatWant_4  : Nat → Nat → Int32 → Int32 → Int32 → Sg → Option (Int32 × Sg)
  | 0, _, _, _, _, _ => none
  | n + 1, r0, x1, x2, x3, σ => if kd r0 = 0 then (if 12 ≤ x3 then (some (x2, σ)) else (if inb x3 12 then (if σ (rf r0 2) (ix x3) = x1 then (bn (x2 ||| (1 <<< (x3 &&& 31))) (fun b2 => f_X0_spotsThatWant_26 (f_X0_spotsThatWant_4 n) r0 x1 b2 x3 σ)) else (f_X0_spotsThatWant_26 (f_X0_spotsThatWant_4 n) r0 x1 x2 x3 σ)) else none)) else none
def f_X0_spotsThatWant (r0 : Nat) (x1 : Int32) (σ : Sg) : Option (Int32 × Sg) := if kd r0 = 0 then (f_X0_spotsThatWant_4 FU r0 x1 0 0 σ) else none
set_option maxRecDepth 100000 in
set_option maxHeartbeats 4000000 in
theorem aw_X0_spotsThatWant_26 (l : Launch) (G : Gt) (rc4 : Nat → Int32 → Int32 → Int32 → Sg → Option (Int32 × Sg)) (hrc4 : ∀ (r0 : Nat) (x1 : Int32) (x2 : Int32) (x3 : Int32) (σ : Sg), Aw l G MX0_spotsThatWant rI 4 [(0, .ref (Gb G + r0)), (1, .int x1), (2, .int x2), (3, .int x3)] [] σ (rc4 r0 x1 x2 x3 σ)) (r0 : Nat) (x1 : Int32) (x2 : Int32) (x3 : Int32) (σ : Sg) : Aw l G MX0_spotsThatWant rI 26 [(0, .ref (Gb G + r0)), (1, .int x1), (2, .int x2), (3, .int x3)] [] σ (f_X0_spotsThatWant_26 rc4 r0 x1 x2 x3 σ) := by
  unfold f_X0_spotsThatWant_26
  refine Aw.gd (fun hr0 => ?_)
  refine Aw.iinc (v := x3 + 1) (L' := [(3, .int (x3 + 1)), (0, .ref (Gb G + r0)), (1, .int x1), (2, .int x2)]) 3 rfl (ii_1 _) (Nat.le_of_ble_eq_true rfl) rfl rfl dX0_spotsThatWant_26 ?_
  refine Aw.goto (q := 4) (by decide) dX0_spotsThatWant_29 ?_
  refine Aw.sub (L' := [(0, .ref (Gb G + r0)), (1, .int x1), (2, .int x2), (3, .int (x3 + 1))]) [1, 2, 3, 0] rfl ?_
  exact hrc4 _ _ _ _ _
set_option maxRecDepth 100000 in
set_option maxHeartbeats 4000000 in
theorem aw_X0_spotsThatWant_4 (l : Launch) (G : Gt) : ∀ (n : Nat) (r0 : Nat) (x1 : Int32) (x2 : Int32) (x3 : Int32) (σ : Sg), Aw l G MX0_spotsThatWant rI 4 [(0, .ref (Gb G + r0)), (1, .int x1), (2, .int x2), (3, .int x3)] [] σ (f_X0_spotsThatWant_4 n r0 x1 x2 x3 σ) := by
  intro n
  induction n with
  | zero => intro r0 x1 x2 x3 σ; exact Aw.no
  | succ n ih =>
    intro r0 x1 x2 x3 σ
    rw [f_X0_spotsThatWant_4]
    refine Aw.gd (fun hr0 => ?_)
    refine Aw.iload_n 3 rfl rfl dX0_spotsThatWant_4 ?_
    refine Aw.bipush (v := 12) ib_12 rfl dX0_spotsThatWant_5 ?_
    refine Aw.icmp_ge (q := 10) (t := 32) rfl (by decide) dX0_spotsThatWant_7 (fun hc => ?_) (fun hc => ?_)
    · refine Aw.iload_n 2 rfl rfl dX0_spotsThatWant_32 ?_
      exact Aw.iret rfl dX0_spotsThatWant_33
    · refine Aw.aload_n 0 rfl rfl dX0_spotsThatWant_10 ?_
      refine Aw.getR fl_X0_18 (Nat.le_of_ble_eq_true rfl) rfl hr0 rfl dX0_spotsThatWant_11 ?_
      refine Aw.iload_n 3 rfl rfl dX0_spotsThatWant_14 ?_
      refine Aw.iald (n := 12) (ft_0_2 hr0).1 (ft_0_2 hr0).2 rfl dX0_spotsThatWant_15 (fun hb1 => ?_)
      refine Aw.iload_n 1 rfl rfl dX0_spotsThatWant_16 ?_
      refine Aw.icmp_ne (q := 20) (t := 26) rfl (by decide) dX0_spotsThatWant_17 (fun hc => ?_) (fun hc => ?_)
      · refine Aw.iload_n 2 rfl rfl dX0_spotsThatWant_20 ?_
        refine Aw.iconst (v := 1) ic_1 rfl dX0_spotsThatWant_21 ?_
        refine Aw.iload_n 3 rfl rfl dX0_spotsThatWant_22 ?_
        refine Aw.ishl rfl dX0_spotsThatWant_23 ?_
        refine Aw.ior rfl dX0_spotsThatWant_24 ?_
        refine Aw.bi (fun b2 => ?_)
        refine Aw.istore_n (L' := [(2, .int b2), (0, .ref (Gb G + r0)), (1, .int x1), (3, .int x3)]) (Nat.le_of_ble_eq_true rfl) rfl rfl dX0_spotsThatWant_25 ?_
        refine Aw.sub (L' := [(0, .ref (Gb G + r0)), (1, .int x1), (2, .int b2), (3, .int x3)]) [1, 2, 0, 3] rfl ?_
        exact aw_X0_spotsThatWant_26 l G _ ih _ _ _ _ _
      · refine Aw.sub (L' := [(0, .ref (Gb G + r0)), (1, .int x1), (2, .int x2), (3, .int x3)]) [0, 1, 2, 3] rfl ?_
        exact aw_X0_spotsThatWant_26 l G _ ih _ _ _ _ _
set_option maxRecDepth 100000 in
set_option maxHeartbeats 4000000 in
theorem ct_X0_spotsThatWant (l : Launch) (G : Gt) (r0 : Nat) (x1 : Int32) (σ : Sg) : Ct l G yX0_spotsThatWant MX0_spotsThatWant rI [.ref (Gb G + r0), .int x1] σ (f_X0_spotsThatWant r0 x1 σ) := by
  refine Ct.of (by decide +kernel) rfl (Nat.le_of_ble_eq_true rfl) ?_
  show Aw l G MX0_spotsThatWant rI 0 [(0, .ref (Gb G + r0)), (1, .int x1)] [] σ _
  unfold f_X0_spotsThatWant
  refine Aw.gd (fun hr0 => ?_)
  refine Aw.iconst (v := 0) ic_0 rfl dX0_spotsThatWant_0 ?_
  refine Aw.istore_n (L' := [(2, .int 0), (0, .ref (Gb G + r0)), (1, .int x1)]) (Nat.le_of_ble_eq_true rfl) rfl rfl dX0_spotsThatWant_1 ?_
  refine Aw.iconst (v := 0) ic_0 rfl dX0_spotsThatWant_2 ?_
  refine Aw.istore_n (L' := [(3, .int 0), (2, .int 0), (0, .ref (Gb G + r0)), (1, .int x1)]) (Nat.le_of_ble_eq_true rfl) rfl rfl dX0_spotsThatWant_3 ?_
  refine Aw.sub (L' := [(0, .ref (Gb G + r0)), (1, .int x1), (2, .int 0), (3, .int 0)]) [2, 3, 1, 0] rfl ?_
  exact aw_X0_spotsThatWant_4 l G FU _ _ _ _ _
abbrev MX0_fitsOn : Mt := (RX0, cX0_fitsOn, 3, (some .boolean), 2)
def f_X0_fitsOn (r0 : Nat) (x1 : Int32) (σ : Sg) : Option (Int32 × Sg) := if kd r0 = 0 then (cb (f_X0_spotsThatWant r0 1 σ) (fun a1 τ2 => if x1 &&& a1 = a1 then (cb (f_X0_spotsThatWant r0 2 τ2) (fun a3 τ4 => if x1 &&& a3 = 0 then (some (1, τ4)) else (some (0, τ4)))) else (some (0, τ2)))) else none
theorem cv_X0_27 : CV RX0 27 0 yX0_spotsThatWant MX0_spotsThatWant 1 := ⟨_, rfl, rfl, ml_X0_27, ins_X0_spotsThatWant, sel_X0_spotsThatWant, ini_X0, cw_X0_spotsThatWant, ⟨by decide, by decide, by decide +kernel⟩⟩
set_option maxRecDepth 100000 in
set_option maxHeartbeats 4000000 in
theorem ct_X0_fitsOn (l : Launch) (G : Gt) (r0 : Nat) (x1 : Int32) (σ : Sg) : Ct l G yX0_fitsOn MX0_fitsOn rI [.ref (Gb G + r0), .int x1] σ (f_X0_fitsOn r0 x1 σ) := by
  refine Ct.of (by decide +kernel) rfl (Nat.le_of_ble_eq_true rfl) ?_
  show Aw l G MX0_fitsOn rI 0 [(0, .ref (Gb G + r0)), (1, .int x1)] [] σ _
  unfold f_X0_fitsOn
  refine Aw.gd (fun hr0 => ?_)
  refine Aw.aload_n 0 rfl rfl dX0_fitsOn_0 ?_
  refine Aw.iconst (v := 1) ic_1 rfl dX0_fitsOn_1 ?_
  refine Aw.callVi (As := [.int 1]) (rest := []) cv_X0_27 (Nat.le_of_ble_eq_true rfl) hr0 (ct_X0_spotsThatWant l G r0 1 σ) rfl rfl (Nat.le_of_ble_eq_true rfl) (Nat.le_of_ble_eq_true rfl) (Nat.le_of_ble_eq_true rfl) rfl dX0_fitsOn_2 (fun a1 τ2 _ => ?_)
  refine Aw.istore_n (L' := [(2, .int a1), (0, .ref (Gb G + r0)), (1, .int x1)]) (Nat.le_of_ble_eq_true rfl) rfl rfl dX0_fitsOn_5 ?_
  refine Aw.iload_n 2 rfl rfl dX0_fitsOn_6 ?_
  refine Aw.iload_n 0 rfl rfl dX0_fitsOn_7 ?_
  refine Aw.iand rfl dX0_fitsOn_8 ?_
  refine Aw.iload_n 0 rfl rfl dX0_fitsOn_9 ?_
  refine Aw.icmp_ne (q := 13) (t := 27) rfl (by decide) dX0_fitsOn_10 (fun hc => ?_) (fun hc => ?_)
  · refine Aw.iload_n 2 rfl rfl dX0_fitsOn_13 ?_
    refine Aw.aload_n 1 rfl rfl dX0_fitsOn_14 ?_
    refine Aw.iconst (v := 2) ic_2 rfl dX0_fitsOn_15 ?_
    refine Aw.callVi (As := [.int 2]) (rest := [.int x1]) cv_X0_27 (Nat.le_of_ble_eq_true rfl) hr0 (ct_X0_spotsThatWant l G r0 2 τ2) rfl rfl (Nat.le_of_ble_eq_true rfl) (Nat.le_of_ble_eq_true rfl) (Nat.le_of_ble_eq_true rfl) rfl dX0_fitsOn_16 (fun a3 τ4 _ => ?_)
    refine Aw.iand rfl dX0_fitsOn_19 ?_
    refine Aw.if_ne (q := 23) (t := 27) rfl (by decide) dX0_fitsOn_20 (fun hc => ?_) (fun hc => ?_)
    · refine Aw.iconst (v := 1) ic_1 rfl dX0_fitsOn_23 ?_
      refine Aw.goto (q := 28) (by decide) dX0_fitsOn_24 ?_
      exact Aw.zret rfl rfl dX0_fitsOn_28
    · refine Aw.iconst (v := 0) ic_0 rfl dX0_fitsOn_27 ?_
      exact Aw.zret rfl rfl dX0_fitsOn_28
  · refine Aw.iconst (v := 0) ic_0 rfl dX0_fitsOn_27 ?_
    exact Aw.zret rfl rfl dX0_fitsOn_28
abbrev MX0_spotsThatMove : Mt := (RX0, cX0_spotsThatMove, 3, (some .int), 1)
def f_X0_spotsThatMove_26 (rc4 : Nat → Int32 → Int32 → Sg → Option (Int32 × Sg)) (r0 : Nat) (x2 : Int32) (s0 : Int32) (s1 : Int32) (σ : Sg) : Option (Int32 × Sg) := if kd r0 = 0 then (bn (s0 + s1) (fun b1 => rc4 r0 b1 (x2 + 1) σ)) else none
def f_X0_spotsThatMove_4  : Nat → Nat → Int32 → Int32 → Sg → Option (Int32 × Sg)
  | 0, _, _, _, _ => none
  | n + 1, r0, x1, x2, σ => if kd r0 = 0 then (if 12 ≤ x2 then (some (x1, σ)) else (if inb x2 12 then (if σ (rf r0 0) (ix x2) = x2 then (f_X0_spotsThatMove_26 (f_X0_spotsThatMove_4 n) r0 x2 x1 0 σ) else (f_X0_spotsThatMove_26 (f_X0_spotsThatMove_4 n) r0 x2 x1 1 σ)) else none)) else none
def f_X0_spotsThatMove (r0 : Nat) (σ : Sg) : Option (Int32 × Sg) := if kd r0 = 0 then (f_X0_spotsThatMove_4 FU r0 0 0 σ) else none
set_option maxRecDepth 100000 in
set_option maxHeartbeats 4000000 in
theorem aw_X0_spotsThatMove_26 (l : Launch) (G : Gt) (rc4 : Nat → Int32 → Int32 → Sg → Option (Int32 × Sg)) (hrc4 : ∀ (r0 : Nat) (x1 : Int32) (x2 : Int32) (σ : Sg), Aw l G MX0_spotsThatMove rI 4 [(0, .ref (Gb G + r0)), (1, .int x1), (2, .int x2)] [] σ (rc4 r0 x1 x2 σ)) (r0 : Nat) (x2 : Int32) (s0 : Int32) (s1 : Int32) (σ : Sg) : Aw l G MX0_spotsThatMove rI 26 [(0, .ref (Gb G + r0)), (2, .int x2)] [.int s1, .int s0] σ (f_X0_spotsThatMove_26 rc4 r0 x2 s0 s1 σ) := by
  unfold f_X0_spotsThatMove_26
  refine Aw.gd (fun hr0 => ?_)
  refine Aw.iadd rfl dX0_spotsThatMove_26 ?_
  refine Aw.bi (fun b1 => ?_)
  refine Aw.istore_n (L' := [(1, .int b1), (0, .ref (Gb G + r0)), (2, .int x2)]) (Nat.le_of_ble_eq_true rfl) rfl rfl dX0_spotsThatMove_27 ?_
  refine Aw.iinc (v := x2 + 1) (L' := [(2, .int (x2 + 1)), (1, .int b1), (0, .ref (Gb G + r0))]) 2 rfl (ii_1 _) (Nat.le_of_ble_eq_true rfl) rfl rfl dX0_spotsThatMove_28 ?_
  refine Aw.goto (q := 4) (by decide) dX0_spotsThatMove_31 ?_
  refine Aw.sub (L' := [(0, .ref (Gb G + r0)), (1, .int b1), (2, .int (x2 + 1))]) [2, 1, 0] rfl ?_
  exact hrc4 _ _ _ _
set_option maxRecDepth 100000 in
set_option maxHeartbeats 4000000 in
theorem aw_X0_spotsThatMove_4 (l : Launch) (G : Gt) : ∀ (n : Nat) (r0 : Nat) (x1 : Int32) (x2 : Int32) (σ : Sg), Aw l G MX0_spotsThatMove rI 4 [(0, .ref (Gb G + r0)), (1, .int x1), (2, .int x2)] [] σ (f_X0_spotsThatMove_4 n r0 x1 x2 σ) := by
  intro n
  induction n with
  | zero => intro r0 x1 x2 σ; exact Aw.no
  | succ n ih =>
    intro r0 x1 x2 σ
    rw [f_X0_spotsThatMove_4]
    refine Aw.gd (fun hr0 => ?_)
    refine Aw.iload_n 2 rfl rfl dX0_spotsThatMove_4 ?_
    refine Aw.bipush (v := 12) ib_12 rfl dX0_spotsThatMove_5 ?_
    refine Aw.icmp_ge (q := 10) (t := 34) rfl (by decide) dX0_spotsThatMove_7 (fun hc => ?_) (fun hc => ?_)
    · refine Aw.iload_n 1 rfl rfl dX0_spotsThatMove_34 ?_
      exact Aw.iret rfl dX0_spotsThatMove_35
    · refine Aw.iload_n 1 rfl rfl dX0_spotsThatMove_10 ?_
      refine Aw.aload_n 0 rfl rfl dX0_spotsThatMove_11 ?_
      refine Aw.getR fl_X0_9 (Nat.le_of_ble_eq_true rfl) rfl hr0 rfl dX0_spotsThatMove_12 ?_
      refine Aw.iload_n 2 rfl rfl dX0_spotsThatMove_15 ?_
      refine Aw.iald (n := 12) (ft_0_0 hr0).1 (ft_0_0 hr0).2 rfl dX0_spotsThatMove_16 (fun hb1 => ?_)
      refine Aw.iload_n 2 rfl rfl dX0_spotsThatMove_17 ?_
      refine Aw.icmp_eq (q := 21) (t := 25) rfl (by decide) dX0_spotsThatMove_18 (fun hc => ?_) (fun hc => ?_)
      · refine Aw.iconst (v := 0) ic_0 rfl dX0_spotsThatMove_25 ?_
        refine Aw.sub (L' := [(0, .ref (Gb G + r0)), (2, .int x2)]) [0, 2] rfl ?_
        exact aw_X0_spotsThatMove_26 l G _ ih _ _ _ _ _
      · refine Aw.iconst (v := 1) ic_1 rfl dX0_spotsThatMove_21 ?_
        refine Aw.goto (q := 26) (by decide) dX0_spotsThatMove_22 ?_
        refine Aw.sub (L' := [(0, .ref (Gb G + r0)), (2, .int x2)]) [0, 2] rfl ?_
        exact aw_X0_spotsThatMove_26 l G _ ih _ _ _ _ _
set_option maxRecDepth 100000 in
set_option maxHeartbeats 4000000 in
theorem ct_X0_spotsThatMove (l : Launch) (G : Gt) (r0 : Nat) (σ : Sg) : Ct l G yX0_spotsThatMove MX0_spotsThatMove rI [.ref (Gb G + r0)] σ (f_X0_spotsThatMove r0 σ) := by
  refine Ct.of (by decide +kernel) rfl (Nat.le_of_ble_eq_true rfl) ?_
  show Aw l G MX0_spotsThatMove rI 0 [(0, .ref (Gb G + r0))] [] σ _
  unfold f_X0_spotsThatMove
  refine Aw.gd (fun hr0 => ?_)
  refine Aw.iconst (v := 0) ic_0 rfl dX0_spotsThatMove_0 ?_
  refine Aw.istore_n (L' := [(1, .int 0), (0, .ref (Gb G + r0))]) (Nat.le_of_ble_eq_true rfl) rfl rfl dX0_spotsThatMove_1 ?_
  refine Aw.iconst (v := 0) ic_0 rfl dX0_spotsThatMove_2 ?_
  refine Aw.istore_n (L' := [(2, .int 0), (1, .int 0), (0, .ref (Gb G + r0))]) (Nat.le_of_ble_eq_true rfl) rfl rfl dX0_spotsThatMove_3 ?_
  refine Aw.sub (L' := [(0, .ref (Gb G + r0)), (1, .int 0), (2, .int 0)]) [2, 1, 0] rfl ?_
  exact aw_X0_spotsThatMove_4 l G FU _ _ _ _
abbrev MJ6_bitCount_0f7a4 : Mt := (RJ6, cJ6_bitCount_0f7a4, 1, (some .int), 1)
def f_J6_bitCount_0f7a4 (x0 : Int32) (σ : Sg) : Option (Int32 × Sg) := bn (x0 - (((x0.toUInt32 >>> (Int32.toUInt32 1 &&& Int32.toUInt32 31)).toInt32) &&& 1431655765)) (fun b1 => bn ((b1 &&& 858993459) + (((b1.toUInt32 >>> (Int32.toUInt32 2 &&& Int32.toUInt32 31)).toInt32) &&& 858993459)) (fun b2 => bn ((b2 + ((b2.toUInt32 >>> (Int32.toUInt32 4 &&& Int32.toUInt32 31)).toInt32)) &&& 252645135) (fun b3 => bn (b3 + ((b3.toUInt32 >>> (Int32.toUInt32 8 &&& Int32.toUInt32 31)).toInt32)) (fun b4 => bn (b4 + ((b4.toUInt32 >>> (Int32.toUInt32 16 &&& Int32.toUInt32 31)).toInt32)) (fun b5 => some (b5 &&& 63, σ))))))
set_option maxRecDepth 100000 in
set_option maxHeartbeats 4000000 in
theorem ct_J6_bitCount_0f7a4 (l : Launch) (G : Gt) (x0 : Int32) (σ : Sg) : Ct l G yJ6_bitCount_0f7a4 MJ6_bitCount_0f7a4 rI [.int x0] σ (f_J6_bitCount_0f7a4 x0 σ) := by
  refine Ct.of (by decide +kernel) rfl (Nat.le_of_ble_eq_true rfl) ?_
  show Aw l G MJ6_bitCount_0f7a4 rI 0 [(0, .int x0)] [] σ _
  unfold f_J6_bitCount_0f7a4
  refine Aw.iload_n 0 rfl rfl dJ6_bitCount_0f7a4_0 ?_
  refine Aw.iload_n 0 rfl rfl dJ6_bitCount_0f7a4_1 ?_
  refine Aw.iconst (v := 1) ic_1 rfl dJ6_bitCount_0f7a4_2 ?_
  refine Aw.iushr rfl dJ6_bitCount_0f7a4_3 ?_
  refine Aw.ldcw kc_J6_265 rfl dJ6_bitCount_0f7a4_4 ?_
  refine Aw.iand rfl dJ6_bitCount_0f7a4_7 ?_
  refine Aw.isub rfl dJ6_bitCount_0f7a4_8 ?_
  refine Aw.bi (fun b1 => ?_)
  refine Aw.istore_n (L' := [(0, .int b1)]) (Nat.le_of_ble_eq_true rfl) rfl rfl dJ6_bitCount_0f7a4_9 ?_
  refine Aw.iload_n 0 rfl rfl dJ6_bitCount_0f7a4_10 ?_
  refine Aw.ldcw kc_J6_266 rfl dJ6_bitCount_0f7a4_11 ?_
  refine Aw.iand rfl dJ6_bitCount_0f7a4_14 ?_
  refine Aw.iload_n 0 rfl rfl dJ6_bitCount_0f7a4_15 ?_
  refine Aw.iconst (v := 2) ic_2 rfl dJ6_bitCount_0f7a4_16 ?_
  refine Aw.iushr rfl dJ6_bitCount_0f7a4_17 ?_
  refine Aw.ldcw kc_J6_266 rfl dJ6_bitCount_0f7a4_18 ?_
  refine Aw.iand rfl dJ6_bitCount_0f7a4_21 ?_
  refine Aw.iadd rfl dJ6_bitCount_0f7a4_22 ?_
  refine Aw.bi (fun b2 => ?_)
  refine Aw.istore_n (L' := [(0, .int b2)]) (Nat.le_of_ble_eq_true rfl) rfl rfl dJ6_bitCount_0f7a4_23 ?_
  refine Aw.iload_n 0 rfl rfl dJ6_bitCount_0f7a4_24 ?_
  refine Aw.iload_n 0 rfl rfl dJ6_bitCount_0f7a4_25 ?_
  refine Aw.iconst (v := 4) ic_4 rfl dJ6_bitCount_0f7a4_26 ?_
  refine Aw.iushr rfl dJ6_bitCount_0f7a4_27 ?_
  refine Aw.iadd rfl dJ6_bitCount_0f7a4_28 ?_
  refine Aw.ldcw kc_J6_267 rfl dJ6_bitCount_0f7a4_29 ?_
  refine Aw.iand rfl dJ6_bitCount_0f7a4_32 ?_
  refine Aw.bi (fun b3 => ?_)
  refine Aw.istore_n (L' := [(0, .int b3)]) (Nat.le_of_ble_eq_true rfl) rfl rfl dJ6_bitCount_0f7a4_33 ?_
  refine Aw.iload_n 0 rfl rfl dJ6_bitCount_0f7a4_34 ?_
  refine Aw.iload_n 0 rfl rfl dJ6_bitCount_0f7a4_35 ?_
  refine Aw.bipush (v := 8) ib_8 rfl dJ6_bitCount_0f7a4_36 ?_
  refine Aw.iushr rfl dJ6_bitCount_0f7a4_38 ?_
  refine Aw.iadd rfl dJ6_bitCount_0f7a4_39 ?_
  refine Aw.bi (fun b4 => ?_)
  refine Aw.istore_n (L' := [(0, .int b4)]) (Nat.le_of_ble_eq_true rfl) rfl rfl dJ6_bitCount_0f7a4_40 ?_
  refine Aw.iload_n 0 rfl rfl dJ6_bitCount_0f7a4_41 ?_
  refine Aw.iload_n 0 rfl rfl dJ6_bitCount_0f7a4_42 ?_
  refine Aw.bipush (v := 16) ib_16 rfl dJ6_bitCount_0f7a4_43 ?_
  refine Aw.iushr rfl dJ6_bitCount_0f7a4_45 ?_
  refine Aw.iadd rfl dJ6_bitCount_0f7a4_46 ?_
  refine Aw.bi (fun b5 => ?_)
  refine Aw.istore_n (L' := [(0, .int b5)]) (Nat.le_of_ble_eq_true rfl) rfl rfl dJ6_bitCount_0f7a4_47 ?_
  refine Aw.iload_n 0 rfl rfl dJ6_bitCount_0f7a4_48 ?_
  refine Aw.bipush (v := 63) ib_63 rfl dJ6_bitCount_0f7a4_49 ?_
  refine Aw.iand rfl dJ6_bitCount_0f7a4_51 ?_
  exact Aw.iret rfl dJ6_bitCount_0f7a4_52
abbrev MX0_spotsWithWant : Mt := (RX0, cX0_spotsWithWant, 1, (some .int), 2)
def f_X0_spotsWithWant (r0 : Nat) (σ : Sg) : Option (Int32 × Sg) := if kd r0 = 0 then (cb (f_X0_spotsThatWant r0 0 σ) (fun a1 τ2 => cb (f_J6_bitCount_0f7a4 a1 τ2) (fun a3 τ4 => some (12 - a3, τ4)))) else none
theorem cs_X0_31 : CS RX0 31 yJ6_bitCount_0f7a4 MJ6_bitCount_0f7a4 1 := ⟨ml_X0_31, sta_J6_bitCount_0f7a4, ini_J6, cw_J6_bitCount_0f7a4, ⟨by decide, by decide, by decide +kernel⟩⟩
set_option maxRecDepth 100000 in
set_option maxHeartbeats 4000000 in
theorem ct_X0_spotsWithWant (l : Launch) (G : Gt) (r0 : Nat) (σ : Sg) : Ct l G yX0_spotsWithWant MX0_spotsWithWant rI [.ref (Gb G + r0)] σ (f_X0_spotsWithWant r0 σ) := by
  refine Ct.of (by decide +kernel) rfl (Nat.le_of_ble_eq_true rfl) ?_
  show Aw l G MX0_spotsWithWant rI 0 [(0, .ref (Gb G + r0))] [] σ _
  unfold f_X0_spotsWithWant
  refine Aw.gd (fun hr0 => ?_)
  refine Aw.bipush (v := 12) ib_12 rfl dX0_spotsWithWant_0 ?_
  refine Aw.aload_n 0 rfl rfl dX0_spotsWithWant_2 ?_
  refine Aw.iconst (v := 0) ic_0 rfl dX0_spotsWithWant_3 ?_
  refine Aw.callVi (As := [.int 0]) (rest := [.int 12]) cv_X0_27 (Nat.le_of_ble_eq_true rfl) hr0 (ct_X0_spotsThatWant l G r0 0 σ) rfl rfl (Nat.le_of_ble_eq_true rfl) (Nat.le_of_ble_eq_true rfl) (Nat.le_of_ble_eq_true rfl) rfl dX0_spotsWithWant_4 (fun a1 τ2 _ => ?_)
  refine Aw.callSi (As := [.int a1]) (rest := [.int 12]) cs_X0_31 (ct_J6_bitCount_0f7a4 l G a1 τ2) rfl rfl (Nat.le_of_ble_eq_true rfl) (Nat.le_of_ble_eq_true rfl) (Nat.le_of_ble_eq_true rfl) rfl dX0_spotsWithWant_7 (fun a3 τ4 _ => ?_)
  refine Aw.isub rfl dX0_spotsWithWant_10 ?_
  exact Aw.iret rfl dX0_spotsWithWant_11
abbrev MX0_leastCommonMultiple : Mt := (RX0, cX0_leastCommonMultiple, 3, (some .int), 1)
def f_X0_leastCommonMultiple_2  : Nat → Int32 → Int32 → Int32 → Sg → Option (Int32 × Sg)
  | 0, _, _, _, _ => none
  | n + 1, x0, x1, x2, σ => if x1 ≤ x2 then (some (x0 * x1, σ)) else (if ¬ x1 = 0 then (if rem (x0 * x2) x1 = 0 then (some (x0 * x2, σ)) else (f_X0_leastCommonMultiple_2 n x0 x1 (x2 + 1) σ)) else none)
def f_X0_leastCommonMultiple (x0 : Int32) (x1 : Int32) (σ : Sg) : Option (Int32 × Sg) := f_X0_leastCommonMultiple_2 FU x0 x1 1 σ
set_option maxRecDepth 100000 in
set_option maxHeartbeats 4000000 in
theorem aw_X0_leastCommonMultiple_2 (l : Launch) (G : Gt) : ∀ (n : Nat) (x0 : Int32) (x1 : Int32) (x2 : Int32) (σ : Sg), Aw l G MX0_leastCommonMultiple rI 2 [(0, .int x0), (1, .int x1), (2, .int x2)] [] σ (f_X0_leastCommonMultiple_2 n x0 x1 x2 σ) := by
  intro n
  induction n with
  | zero => intro x0 x1 x2 σ; exact Aw.no
  | succ n ih =>
    intro x0 x1 x2 σ
    rw [f_X0_leastCommonMultiple_2]
    refine Aw.iload_n 2 rfl rfl dX0_leastCommonMultiple_2 ?_
    refine Aw.iload_n 1 rfl rfl dX0_leastCommonMultiple_3 ?_
    refine Aw.icmp_ge (q := 7) (t := 25) rfl (by decide) dX0_leastCommonMultiple_4 (fun hc => ?_) (fun hc => ?_)
    · refine Aw.iload_n 0 rfl rfl dX0_leastCommonMultiple_25 ?_
      refine Aw.iload_n 1 rfl rfl dX0_leastCommonMultiple_26 ?_
      refine Aw.imul rfl dX0_leastCommonMultiple_27 ?_
      exact Aw.iret rfl dX0_leastCommonMultiple_28
    · refine Aw.iload_n 0 rfl rfl dX0_leastCommonMultiple_7 ?_
      refine Aw.iload_n 2 rfl rfl dX0_leastCommonMultiple_8 ?_
      refine Aw.imul rfl dX0_leastCommonMultiple_9 ?_
      refine Aw.iload_n 1 rfl rfl dX0_leastCommonMultiple_10 ?_
      refine Aw.gd (fun hz1 => ?_)
      refine Aw.irem hz1 rfl dX0_leastCommonMultiple_11 ?_
      refine Aw.if_ne (q := 15) (t := 19) rfl (by decide) dX0_leastCommonMultiple_12 (fun hc => ?_) (fun hc => ?_)
      · refine Aw.iload_n 0 rfl rfl dX0_leastCommonMultiple_15 ?_
        refine Aw.iload_n 2 rfl rfl dX0_leastCommonMultiple_16 ?_
        refine Aw.imul rfl dX0_leastCommonMultiple_17 ?_
        exact Aw.iret rfl dX0_leastCommonMultiple_18
      · refine Aw.iinc (v := x2 + 1) (L' := [(2, .int (x2 + 1)), (0, .int x0), (1, .int x1)]) 2 rfl (ii_1 _) (Nat.le_of_ble_eq_true rfl) rfl rfl dX0_leastCommonMultiple_19 ?_
        refine Aw.goto (q := 2) (by decide) dX0_leastCommonMultiple_22 ?_
        refine Aw.sub (L' := [(0, .int x0), (1, .int x1), (2, .int (x2 + 1))]) [1, 2, 0] rfl ?_
        exact ih _ _ _ _
set_option maxRecDepth 100000 in
set_option maxHeartbeats 4000000 in
theorem ct_X0_leastCommonMultiple (l : Launch) (G : Gt) (x0 : Int32) (x1 : Int32) (σ : Sg) : Ct l G yX0_leastCommonMultiple MX0_leastCommonMultiple rI [.int x0, .int x1] σ (f_X0_leastCommonMultiple x0 x1 σ) := by
  refine Ct.of (by decide +kernel) rfl (Nat.le_of_ble_eq_true rfl) ?_
  show Aw l G MX0_leastCommonMultiple rI 0 [(0, .int x0), (1, .int x1)] [] σ _
  unfold f_X0_leastCommonMultiple
  refine Aw.iconst (v := 1) ic_1 rfl dX0_leastCommonMultiple_0 ?_
  refine Aw.istore_n (L' := [(2, .int 1), (0, .int x0), (1, .int x1)]) (Nat.le_of_ble_eq_true rfl) rfl rfl dX0_leastCommonMultiple_1 ?_
  refine Aw.sub (L' := [(0, .int x0), (1, .int x1), (2, .int 1)]) [1, 2, 0] rfl ?_
  exact aw_X0_leastCommonMultiple_2 l G FU _ _ _ _
abbrev MX0_timesToFaceAhead : Mt := (RX0, cX0_timesToFaceAhead, 2, (some .int), 1)
def f_X0_timesToFaceAhead (x0 : Int32) (σ : Sg) : Option (Int32 × Sg) := bn (rem x0 4) (fun b1 => if b1 = 0 then (some (1, σ)) else (if b1 = 2 then (some (2, σ)) else (some (4, σ))))
set_option maxRecDepth 100000 in
set_option maxHeartbeats 4000000 in
theorem ct_X0_timesToFaceAhead (l : Launch) (G : Gt) (x0 : Int32) (σ : Sg) : Ct l G yX0_timesToFaceAhead MX0_timesToFaceAhead rI [.int x0] σ (f_X0_timesToFaceAhead x0 σ) := by
  refine Ct.of (by decide +kernel) rfl (Nat.le_of_ble_eq_true rfl) ?_
  show Aw l G MX0_timesToFaceAhead rI 0 [(0, .int x0)] [] σ _
  unfold f_X0_timesToFaceAhead
  refine Aw.iload_n 0 rfl rfl dX0_timesToFaceAhead_0 ?_
  refine Aw.iconst (v := 4) ic_4 rfl dX0_timesToFaceAhead_1 ?_
  refine Aw.irem nz_4 rfl dX0_timesToFaceAhead_2 ?_
  refine Aw.bi (fun b1 => ?_)
  refine Aw.istore_n (L' := [(1, .int b1), (0, .int x0)]) (Nat.le_of_ble_eq_true rfl) rfl rfl dX0_timesToFaceAhead_3 ?_
  refine Aw.iload_n 0 rfl rfl dX0_timesToFaceAhead_4 ?_
  refine Aw.if_ne (q := 8) (t := 12) rfl (by decide) dX0_timesToFaceAhead_5 (fun hc => ?_) (fun hc => ?_)
  · refine Aw.iconst (v := 1) ic_1 rfl dX0_timesToFaceAhead_8 ?_
    refine Aw.goto (q := 22) (by decide) dX0_timesToFaceAhead_9 ?_
    exact Aw.iret rfl dX0_timesToFaceAhead_22
  · refine Aw.iload_n 0 rfl rfl dX0_timesToFaceAhead_12 ?_
    refine Aw.iconst (v := 2) ic_2 rfl dX0_timesToFaceAhead_13 ?_
    refine Aw.icmp_ne (q := 17) (t := 21) rfl (by decide) dX0_timesToFaceAhead_14 (fun hc => ?_) (fun hc => ?_)
    · refine Aw.iconst (v := 2) ic_2 rfl dX0_timesToFaceAhead_17 ?_
      refine Aw.goto (q := 22) (by decide) dX0_timesToFaceAhead_18 ?_
      exact Aw.iret rfl dX0_timesToFaceAhead_22
    · refine Aw.iconst (v := 4) ic_4 rfl dX0_timesToFaceAhead_21 ?_
      exact Aw.iret rfl dX0_timesToFaceAhead_22
abbrev MX0_round : Mt := (RX0, cX0_round, 7, (some .int), 2)
def f_X0_round_95 (rc6 : Nat → Int32 → Int32 → Int32 → Sg → Option (Int32 × Sg)) (r0 : Nat) (x1 : Int32) (x2 : Int32) (x3 : Int32) (σ : Sg) : Option (Int32 × Sg) := if kd r0 = 0 then (rc6 r0 x1 x2 (x3 + 1) σ) else none
def f_X0_round_82 (rc6 : Nat → Int32 → Int32 → Int32 → Sg → Option (Int32 × Sg)) (r0 : Nat) (x1 : Int32) (x2 : Int32) (x3 : Int32) (x4 : Int32) (x5 : Int32) (σ : Sg) : Option (Int32 × Sg) := if kd r0 = 0 then (cb (f_X0_timesToFaceAhead x5 σ) (fun a1 τ2 => cb (f_X0_leastCommonMultiple x1 (x4 * a1) τ2) (fun a3 τ4 => f_X0_round_95 rc6 r0 a3 x2 x3 τ4))) else none
def f_X0_round_32 (rc6 : Nat → Int32 → Int32 → Int32 → Sg → Option (Int32 × Sg)) : Nat → Nat → Int32 → Int32 → Int32 → Int32 → Int32 → Int32 → Sg → Option (Int32 × Sg)
  | 0, _, _, _, _, _, _, _, _ => none
  | n + 1, r0, x1, x2, x3, x4, x5, x6, σ => if kd r0 = 0 then (if 12 ≤ x4 then (f_X0_round_82 rc6 r0 x1 x2 x3 x4 x5 σ) else (if (x2 >>> (x6 &&& 31)) &&& 1 = 0 then (bn (x2 ||| (1 <<< (x6 &&& 31))) (fun b1 => if inb x6 12 then (bn (x5 + (σ (rf r0 1) (ix x6))) (fun b3 => if inb x6 12 then (bn (σ (rf r0 0) (ix x6)) (fun b5 => f_X0_round_32 rc6 n r0 x1 b1 x3 (x4 + 1) b3 b5 σ)) else none)) else none)) else (f_X0_round_82 rc6 r0 x1 x2 x3 x4 x5 σ))) else none
def f_X0_round_6  : Nat → Nat → Int32 → Int32 → Int32 → Sg → Option (Int32 × Sg)
  | 0, _, _, _, _, _ => none
  | n + 1, r0, x1, x2, x3, σ => if kd r0 = 0 then (if 12 ≤ x3 then (some (x1, σ)) else (if (x2 >>> (x3 &&& 31)) &&& 1 = 0 then (f_X0_round_32 (f_X0_round_6 n) FU r0 x1 x2 x3 0 0 x3 σ) else (f_X0_round_95 (f_X0_round_6 n) r0 x1 x2 x3 σ))) else none
def f_X0_round (r0 : Nat) (σ : Sg) : Option (Int32 × Sg) := if kd r0 = 0 then (f_X0_round_6 FU r0 1 0 0 σ) else none
theorem cs_X0_36 : CS RX0 36 yX0_timesToFaceAhead MX0_timesToFaceAhead 1 := ⟨ml_X0_36, sta_X0_timesToFaceAhead, ini_X0, cw_X0_timesToFaceAhead, ⟨by decide, by decide, by decide +kernel⟩⟩
theorem cs_X0_39 : CS RX0 39 yX0_leastCommonMultiple MX0_leastCommonMultiple 2 := ⟨ml_X0_39, sta_X0_leastCommonMultiple, ini_X0, cw_X0_leastCommonMultiple, ⟨by decide, by decide, by decide +kernel⟩⟩
set_option maxRecDepth 100000 in
set_option maxHeartbeats 4000000 in
theorem aw_X0_round_95 (l : Launch) (G : Gt) (rc6 : Nat → Int32 → Int32 → Int32 → Sg → Option (Int32 × Sg)) (hrc6 : ∀ (r0 : Nat) (x1 : Int32) (x2 : Int32) (x3 : Int32) (σ : Sg), Aw l G MX0_round rI 6 [(0, .ref (Gb G + r0)), (1, .int x1), (2, .int x2), (3, .int x3)] [] σ (rc6 r0 x1 x2 x3 σ)) (r0 : Nat) (x1 : Int32) (x2 : Int32) (x3 : Int32) (σ : Sg) : Aw l G MX0_round rI 95 [(0, .ref (Gb G + r0)), (1, .int x1), (2, .int x2), (3, .int x3)] [] σ (f_X0_round_95 rc6 r0 x1 x2 x3 σ) := by
  unfold f_X0_round_95
  refine Aw.gd (fun hr0 => ?_)
  refine Aw.iinc (v := x3 + 1) (L' := [(3, .int (x3 + 1)), (0, .ref (Gb G + r0)), (1, .int x1), (2, .int x2)]) 3 rfl (ii_1 _) (Nat.le_of_ble_eq_true rfl) rfl rfl dX0_round_95 ?_
  refine Aw.goto (q := 6) (by decide) dX0_round_98 ?_
  refine Aw.sub (L' := [(0, .ref (Gb G + r0)), (1, .int x1), (2, .int x2), (3, .int (x3 + 1))]) [1, 2, 3, 0] rfl ?_
  exact hrc6 _ _ _ _ _
set_option maxRecDepth 100000 in
set_option maxHeartbeats 4000000 in
theorem aw_X0_round_82 (l : Launch) (G : Gt) (rc6 : Nat → Int32 → Int32 → Int32 → Sg → Option (Int32 × Sg)) (hrc6 : ∀ (r0 : Nat) (x1 : Int32) (x2 : Int32) (x3 : Int32) (σ : Sg), Aw l G MX0_round rI 6 [(0, .ref (Gb G + r0)), (1, .int x1), (2, .int x2), (3, .int x3)] [] σ (rc6 r0 x1 x2 x3 σ)) (r0 : Nat) (x1 : Int32) (x2 : Int32) (x3 : Int32) (x4 : Int32) (x5 : Int32) (σ : Sg) : Aw l G MX0_round rI 82 [(0, .ref (Gb G + r0)), (1, .int x1), (2, .int x2), (3, .int x3), (4, .int x4), (5, .int x5)] [] σ (f_X0_round_82 rc6 r0 x1 x2 x3 x4 x5 σ) := by
  unfold f_X0_round_82
  refine Aw.gd (fun hr0 => ?_)
  refine Aw.iload_n 1 rfl rfl dX0_round_82 ?_
  refine Aw.iload 4 rfl rfl dX0_round_83 ?_
  refine Aw.iload 5 rfl rfl dX0_round_85 ?_
  refine Aw.callSi (As := [.int x5]) (rest := [.int x4, .int x1]) cs_X0_36 (ct_X0_timesToFaceAhead l G x5 σ) rfl rfl (Nat.le_of_ble_eq_true rfl) (Nat.le_of_ble_eq_true rfl) (Nat.le_of_ble_eq_true rfl) rfl dX0_round_87 (fun a1 τ2 _ => ?_)
  refine Aw.imul rfl dX0_round_90 ?_
  refine Aw.callSi (As := [.int x1, .int (x4 * a1)]) (rest := []) cs_X0_39 (ct_X0_leastCommonMultiple l G x1 (x4 * a1) τ2) rfl rfl (Nat.le_of_ble_eq_true rfl) (Nat.le_of_ble_eq_true rfl) (Nat.le_of_ble_eq_true rfl) rfl dX0_round_91 (fun a3 τ4 _ => ?_)
  refine Aw.istore_n (L' := [(1, .int a3), (0, .ref (Gb G + r0)), (2, .int x2), (3, .int x3), (4, .int x4), (5, .int x5)]) (Nat.le_of_ble_eq_true rfl) rfl rfl dX0_round_94 ?_
  refine Aw.sub (L' := [(0, .ref (Gb G + r0)), (1, .int a3), (2, .int x2), (3, .int x3)]) [1, 0, 2, 3] rfl ?_
  exact aw_X0_round_95 l G _ hrc6 _ _ _ _ _
set_option maxRecDepth 100000 in
set_option maxHeartbeats 4000000 in
theorem aw_X0_round_32 (l : Launch) (G : Gt) (rc6 : Nat → Int32 → Int32 → Int32 → Sg → Option (Int32 × Sg)) (hrc6 : ∀ (r0 : Nat) (x1 : Int32) (x2 : Int32) (x3 : Int32) (σ : Sg), Aw l G MX0_round rI 6 [(0, .ref (Gb G + r0)), (1, .int x1), (2, .int x2), (3, .int x3)] [] σ (rc6 r0 x1 x2 x3 σ)) : ∀ (n : Nat) (r0 : Nat) (x1 : Int32) (x2 : Int32) (x3 : Int32) (x4 : Int32) (x5 : Int32) (x6 : Int32) (σ : Sg), Aw l G MX0_round rI 32 [(0, .ref (Gb G + r0)), (1, .int x1), (2, .int x2), (3, .int x3), (4, .int x4), (5, .int x5), (6, .int x6)] [] σ (f_X0_round_32 rc6 n r0 x1 x2 x3 x4 x5 x6 σ) := by
  intro n
  induction n with
  | zero => intro r0 x1 x2 x3 x4 x5 x6 σ; exact Aw.no
  | succ n ih =>
    intro r0 x1 x2 x3 x4 x5 x6 σ
    rw [f_X0_round_32]
    refine Aw.gd (fun hr0 => ?_)
    refine Aw.iload 4 rfl rfl dX0_round_32 ?_
    refine Aw.bipush (v := 12) ib_12 rfl dX0_round_34 ?_
    refine Aw.icmp_ge (q := 39) (t := 82) rfl (by decide) dX0_round_36 (fun hc => ?_) (fun hc => ?_)
    · refine Aw.sub (L' := [(0, .ref (Gb G + r0)), (1, .int x1), (2, .int x2), (3, .int x3), (4, .int x4), (5, .int x5)]) [0, 1, 2, 3, 4, 5] rfl ?_
      exact aw_X0_round_82 l G _ hrc6 _ _ _ _ _ _ _
    · refine Aw.iload_n 2 rfl rfl dX0_round_39 ?_
      refine Aw.iload 6 rfl rfl dX0_round_40 ?_
      refine Aw.ishr rfl dX0_round_42 ?_
      refine Aw.iconst (v := 1) ic_1 rfl dX0_round_43 ?_
      refine Aw.iand rfl dX0_round_44 ?_
      refine Aw.if_ne (q := 48) (t := 82) rfl (by decide) dX0_round_45 (fun hc => ?_) (fun hc => ?_)
      · refine Aw.iload_n 2 rfl rfl dX0_round_48 ?_
        refine Aw.iconst (v := 1) ic_1 rfl dX0_round_49 ?_
        refine Aw.iload 6 rfl rfl dX0_round_50 ?_
        refine Aw.ishl rfl dX0_round_52 ?_
        refine Aw.ior rfl dX0_round_53 ?_
        refine Aw.bi (fun b1 => ?_)
        refine Aw.istore_n (L' := [(2, .int b1), (0, .ref (Gb G + r0)), (1, .int x1), (3, .int x3), (4, .int x4), (5, .int x5), (6, .int x6)]) (Nat.le_of_ble_eq_true rfl) rfl rfl dX0_round_54 ?_
        refine Aw.iload 5 rfl rfl dX0_round_55 ?_
        refine Aw.aload_n 1 rfl rfl dX0_round_57 ?_
        refine Aw.getR fl_X0_15 (Nat.le_of_ble_eq_true rfl) rfl hr0 rfl dX0_round_58 ?_
        refine Aw.iload 6 rfl rfl dX0_round_61 ?_
        refine Aw.iald (n := 12) (ft_0_1 hr0).1 (ft_0_1 hr0).2 rfl dX0_round_63 (fun hb2 => ?_)
        refine Aw.iadd rfl dX0_round_64 ?_
        refine Aw.bi (fun b3 => ?_)
        refine Aw.istore (L' := [(5, .int b3), (2, .int b1), (0, .ref (Gb G + r0)), (1, .int x1), (3, .int x3), (4, .int x4), (6, .int x6)]) (Nat.le_of_ble_eq_true rfl) rfl rfl dX0_round_65 ?_
        refine Aw.aload_n 2 rfl rfl dX0_round_67 ?_
        refine Aw.getR fl_X0_9 (Nat.le_of_ble_eq_true rfl) rfl hr0 rfl dX0_round_68 ?_
        refine Aw.iload 6 rfl rfl dX0_round_71 ?_
        refine Aw.iald (n := 12) (ft_0_0 hr0).1 (ft_0_0 hr0).2 rfl dX0_round_73 (fun hb4 => ?_)
        refine Aw.bi (fun b5 => ?_)
        refine Aw.istore (L' := [(6, .int b5), (5, .int b3), (2, .int b1), (0, .ref (Gb G + r0)), (1, .int x1), (3, .int x3), (4, .int x4)]) (Nat.le_of_ble_eq_true rfl) rfl rfl dX0_round_74 ?_
        refine Aw.iinc (v := x4 + 1) (L' := [(4, .int (x4 + 1)), (6, .int b5), (5, .int b3), (2, .int b1), (0, .ref (Gb G + r0)), (1, .int x1), (3, .int x3)]) 6 rfl (ii_1 _) (Nat.le_of_ble_eq_true rfl) rfl rfl dX0_round_76 ?_
        refine Aw.goto (q := 32) (by decide) dX0_round_79 ?_
        refine Aw.sub (L' := [(0, .ref (Gb G + r0)), (1, .int x1), (2, .int b1), (3, .int x3), (4, .int (x4 + 1)), (5, .int b3), (6, .int b5)]) [4, 5, 3, 6, 0, 2, 1] rfl ?_
        exact ih _ _ _ _ _ _ _ _
      · refine Aw.sub (L' := [(0, .ref (Gb G + r0)), (1, .int x1), (2, .int x2), (3, .int x3), (4, .int x4), (5, .int x5)]) [0, 1, 2, 3, 4, 5] rfl ?_
        exact aw_X0_round_82 l G _ hrc6 _ _ _ _ _ _ _
set_option maxRecDepth 100000 in
set_option maxHeartbeats 4000000 in
theorem aw_X0_round_6 (l : Launch) (G : Gt) : ∀ (n : Nat) (r0 : Nat) (x1 : Int32) (x2 : Int32) (x3 : Int32) (σ : Sg), Aw l G MX0_round rI 6 [(0, .ref (Gb G + r0)), (1, .int x1), (2, .int x2), (3, .int x3)] [] σ (f_X0_round_6 n r0 x1 x2 x3 σ) := by
  intro n
  induction n with
  | zero => intro r0 x1 x2 x3 σ; exact Aw.no
  | succ n ih =>
    intro r0 x1 x2 x3 σ
    rw [f_X0_round_6]
    refine Aw.gd (fun hr0 => ?_)
    refine Aw.iload_n 3 rfl rfl dX0_round_6 ?_
    refine Aw.bipush (v := 12) ib_12 rfl dX0_round_7 ?_
    refine Aw.icmp_ge (q := 12) (t := 101) rfl (by decide) dX0_round_9 (fun hc => ?_) (fun hc => ?_)
    · refine Aw.iload_n 1 rfl rfl dX0_round_101 ?_
      exact Aw.iret rfl dX0_round_102
    · refine Aw.iload_n 2 rfl rfl dX0_round_12 ?_
      refine Aw.iload_n 3 rfl rfl dX0_round_13 ?_
      refine Aw.ishr rfl dX0_round_14 ?_
      refine Aw.iconst (v := 1) ic_1 rfl dX0_round_15 ?_
      refine Aw.iand rfl dX0_round_16 ?_
      refine Aw.if_eq (q := 20) (t := 23) rfl (by decide) dX0_round_17 (fun hc => ?_) (fun hc => ?_)
      · refine Aw.iconst (v := 0) ic_0 rfl dX0_round_23 ?_
        refine Aw.istore (L' := [(4, .int 0), (0, .ref (Gb G + r0)), (1, .int x1), (2, .int x2), (3, .int x3)]) (Nat.le_of_ble_eq_true rfl) rfl rfl dX0_round_24 ?_
        refine Aw.iconst (v := 0) ic_0 rfl dX0_round_26 ?_
        refine Aw.istore (L' := [(5, .int 0), (4, .int 0), (0, .ref (Gb G + r0)), (1, .int x1), (2, .int x2), (3, .int x3)]) (Nat.le_of_ble_eq_true rfl) rfl rfl dX0_round_27 ?_
        refine Aw.iload_n 5 rfl rfl dX0_round_29 ?_
        refine Aw.istore (L' := [(6, .int x3), (5, .int 0), (4, .int 0), (0, .ref (Gb G + r0)), (1, .int x1), (2, .int x2), (3, .int x3)]) (Nat.le_of_ble_eq_true rfl) rfl rfl dX0_round_30 ?_
        refine Aw.sub (L' := [(0, .ref (Gb G + r0)), (1, .int x1), (2, .int x2), (3, .int x3), (4, .int 0), (5, .int 0), (6, .int x3)]) [3, 4, 5, 6, 2, 1, 0] rfl ?_
        exact aw_X0_round_32 l G _ ih FU _ _ _ _ _ _ _ _
      · refine Aw.goto (q := 95) (by decide) dX0_round_20 ?_
        refine Aw.sub (L' := [(0, .ref (Gb G + r0)), (1, .int x1), (2, .int x2), (3, .int x3)]) [0, 1, 2, 3] rfl ?_
        exact aw_X0_round_95 l G _ ih _ _ _ _ _
set_option maxRecDepth 100000 in
set_option maxHeartbeats 4000000 in
theorem ct_X0_round (l : Launch) (G : Gt) (r0 : Nat) (σ : Sg) : Ct l G yX0_round MX0_round rI [.ref (Gb G + r0)] σ (f_X0_round r0 σ) := by
  refine Ct.of (by decide +kernel) rfl (Nat.le_of_ble_eq_true rfl) ?_
  show Aw l G MX0_round rI 0 [(0, .ref (Gb G + r0))] [] σ _
  unfold f_X0_round
  refine Aw.gd (fun hr0 => ?_)
  refine Aw.iconst (v := 1) ic_1 rfl dX0_round_0 ?_
  refine Aw.istore_n (L' := [(1, .int 1), (0, .ref (Gb G + r0))]) (Nat.le_of_ble_eq_true rfl) rfl rfl dX0_round_1 ?_
  refine Aw.iconst (v := 0) ic_0 rfl dX0_round_2 ?_
  refine Aw.istore_n (L' := [(2, .int 0), (1, .int 1), (0, .ref (Gb G + r0))]) (Nat.le_of_ble_eq_true rfl) rfl rfl dX0_round_3 ?_
  refine Aw.iconst (v := 0) ic_0 rfl dX0_round_4 ?_
  refine Aw.istore_n (L' := [(3, .int 0), (2, .int 0), (1, .int 1), (0, .ref (Gb G + r0))]) (Nat.le_of_ble_eq_true rfl) rfl rfl dX0_round_5 ?_
  refine Aw.sub (L' := [(0, .ref (Gb G + r0)), (1, .int 1), (2, .int 0), (3, .int 0)]) [3, 2, 1, 0] rfl ?_
  exact aw_X0_round_6 l G FU _ _ _ _ _
abbrev MJ7_fill_53178 : Mt := (RJ7, cJ7_fill_53178, 4, none, 1)
def f_J7_fill_53178_5  : Nat → Nat → Int32 → Int32 → Int32 → Sg → Option (Unit × Sg)
  | 0, _, _, _, _, _ => none
  | n + 1, r0, x1, x2, x3, σ => if kd r0 = 7 then (if x3 ≤ x2 then (some ((), σ)) else (if inb x2 (ln r0) then (bn (up σ r0 (ix x2) x1) (fun τ2 => f_J7_fill_53178_5 n r0 x1 (x2 + 1) x3 τ2)) else none)) else none
def f_J7_fill_53178 (r0 : Nat) (x1 : Int32) (σ : Sg) : Option (Unit × Sg) := if kd r0 = 7 then (bn (nI (ln r0)) (fun b1 => f_J7_fill_53178_5 FU r0 x1 0 b1 σ)) else none
set_option maxRecDepth 100000 in
set_option maxHeartbeats 4000000 in
theorem aw_J7_fill_53178_5 (l : Launch) (G : Gt) : ∀ (n : Nat) (r0 : Nat) (x1 : Int32) (x2 : Int32) (x3 : Int32) (σ : Sg), Aw l G MJ7_fill_53178 rV 5 [(0, .ref (Gb G + r0)), (1, .int x1), (2, .int x2), (3, .int x3)] [] σ (f_J7_fill_53178_5 n r0 x1 x2 x3 σ) := by
  intro n
  induction n with
  | zero => intro r0 x1 x2 x3 σ; exact Aw.no
  | succ n ih =>
    intro r0 x1 x2 x3 σ
    rw [f_J7_fill_53178_5]
    refine Aw.gd (fun hr0 => ?_)
    refine Aw.iload_n 2 rfl rfl dJ7_fill_53178_5 ?_
    refine Aw.iload_n 3 rfl rfl dJ7_fill_53178_6 ?_
    refine Aw.icmp_ge (q := 10) (t := 20) rfl (by decide) dJ7_fill_53178_7 (fun hc => ?_) (fun hc => ?_)
    · exact Aw.vret rfl dJ7_fill_53178_20
    · refine Aw.aload_n 0 rfl rfl dJ7_fill_53178_10 ?_
      refine Aw.iload_n 2 rfl rfl dJ7_fill_53178_11 ?_
      refine Aw.iload_n 1 rfl rfl dJ7_fill_53178_12 ?_
      refine Aw.iast (n := ln r0) hr0 rfl rfl dJ7_fill_53178_13 (fun hb1 => ?_)
      refine Aw.bs (fun τ2 => ?_)
      refine Aw.iinc (v := x2 + 1) (L' := [(2, .int (x2 + 1)), (0, .ref (Gb G + r0)), (1, .int x1), (3, .int x3)]) 2 rfl (ii_1 _) (Nat.le_of_ble_eq_true rfl) rfl rfl dJ7_fill_53178_14 ?_
      refine Aw.goto (q := 5) (by decide) dJ7_fill_53178_17 ?_
      refine Aw.sub (L' := [(0, .ref (Gb G + r0)), (1, .int x1), (2, .int (x2 + 1)), (3, .int x3)]) [1, 2, 0, 3] rfl ?_
      exact ih _ _ _ _ _
set_option maxRecDepth 100000 in
set_option maxHeartbeats 4000000 in
theorem ct_J7_fill_53178 (l : Launch) (G : Gt) (r0 : Nat) (x1 : Int32) (σ : Sg) : Ct l G yJ7_fill_53178 MJ7_fill_53178 rV [.ref (Gb G + r0), .int x1] σ (f_J7_fill_53178 r0 x1 σ) := by
  refine Ct.of (by decide +kernel) rfl (Nat.le_of_ble_eq_true rfl) ?_
  show Aw l G MJ7_fill_53178 rV 0 [(0, .ref (Gb G + r0)), (1, .int x1)] [] σ _
  unfold f_J7_fill_53178
  refine Aw.gd (fun hr0 => ?_)
  refine Aw.iconst (v := 0) ic_0 rfl dJ7_fill_53178_0 ?_
  refine Aw.istore_n (L' := [(2, .int 0), (0, .ref (Gb G + r0)), (1, .int x1)]) (Nat.le_of_ble_eq_true rfl) rfl rfl dJ7_fill_53178_1 ?_
  refine Aw.aload_n 1 rfl rfl dJ7_fill_53178_2 ?_
  refine Aw.alen hr0 rfl dJ7_fill_53178_3 ?_
  refine Aw.bi (fun b1 => ?_)
  refine Aw.istore_n (L' := [(3, .int b1), (2, .int 0), (0, .ref (Gb G + r0)), (1, .int x1)]) (Nat.le_of_ble_eq_true rfl) rfl rfl dJ7_fill_53178_4 ?_
  refine Aw.sub (L' := [(0, .ref (Gb G + r0)), (1, .int x1), (2, .int 0), (3, .int b1)]) [2, 3, 1, 0] rfl ?_
  exact aw_J7_fill_53178_5 l G FU _ _ _ _ _
