abbrev MX6_isIn : Mt := (RX6, cX6_isIn, 3, (some .boolean), 1)
def f_X6_isIn (x0 : Int32) (x1 : Int32) (x2 : Int32) (σ : Sg) : Option (Int32 × Sg) := if x0 < x1 then (some (0, σ)) else (if x2 < x0 then (some (0, σ)) else (some (1, σ)))
set_option maxRecDepth 100000 in
set_option maxHeartbeats 4000000 in
theorem ct_X6_isIn (l : Launch) (G : Gt) (x0 : Int32) (x1 : Int32) (x2 : Int32) (σ : Sg) : Ct l G yX6_isIn MX6_isIn rI [.int x0, .int x1, .int x2] σ (f_X6_isIn x0 x1 x2 σ) := by
  refine Ct.of (by decide +kernel) rfl (Nat.le_of_ble_eq_true rfl) ?_
  show Aw l G MX6_isIn rI 0 [(0, .int x0), (1, .int x1), (2, .int x2)] [] σ _
  unfold f_X6_isIn
  refine Aw.iload_n 0 rfl rfl dX6_isIn_0 ?_
  refine Aw.iload_n 1 rfl rfl dX6_isIn_1 ?_
  refine Aw.icmp_lt (q := 5) (t := 14) rfl (by decide) dX6_isIn_2 (fun hc => ?_) (fun hc => ?_)
  · refine Aw.iconst (v := 0) ic_0 rfl dX6_isIn_14 ?_
    exact Aw.zret rfl rfl dX6_isIn_15
  · refine Aw.iload_n 0 rfl rfl dX6_isIn_5 ?_
    refine Aw.iload_n 2 rfl rfl dX6_isIn_6 ?_
    refine Aw.icmp_gt (q := 10) (t := 14) rfl (by decide) dX6_isIn_7 (fun hc => ?_) (fun hc => ?_)
    · refine Aw.iconst (v := 0) ic_0 rfl dX6_isIn_14 ?_
      exact Aw.zret rfl rfl dX6_isIn_15
    · refine Aw.iconst (v := 1) ic_1 rfl dX6_isIn_10 ?_
      refine Aw.goto (q := 15) (by decide) dX6_isIn_11 ?_
      exact Aw.zret rfl rfl dX6_isIn_15
abbrev MX6_refused : Mt := (RX6, cX6_refused, 2, (some .int), 1)
def f_X6_refused (r0 : Nat) (x1 : Int32) (σ : Sg) : Option (Int32 × Sg) := if kd r0 = 6 then (if inb (((-2)) - x1) 3 then (if inb (((-2)) - x1) 3 then (bn (up σ (rf r0 4) (ix (((-2)) - x1)) ((σ (rf r0 4) (ix (((-2)) - x1))) + 1)) (fun τ3 => some (x1, τ3))) else none) else none) else none
set_option maxRecDepth 100000 in
set_option maxHeartbeats 4000000 in
theorem ct_X6_refused (l : Launch) (G : Gt) (r0 : Nat) (x1 : Int32) (σ : Sg) : Ct l G yX6_refused MX6_refused rI [.ref (Gb G + r0), .int x1] σ (f_X6_refused r0 x1 σ) := by
  refine Ct.of (by decide +kernel) rfl (Nat.le_of_ble_eq_true rfl) ?_
  show Aw l G MX6_refused rI 0 [(0, .ref (Gb G + r0)), (1, .int x1)] [] σ _
  unfold f_X6_refused
  refine Aw.gd (fun hr0 => ?_)
  refine Aw.aload_n 0 rfl rfl dX6_refused_0 ?_
  refine Aw.getR fl_X6_19 (Nat.le_of_ble_eq_true rfl) rfl hr0 rfl dX6_refused_1 ?_
  refine Aw.bipush (v := (-2)) ib_m2 rfl dX6_refused_4 ?_
  refine Aw.iload_n 1 rfl rfl dX6_refused_6 ?_
  refine Aw.isub rfl dX6_refused_7 ?_
  refine Aw.dup2 rfl dX6_refused_8 ?_
  refine Aw.iald (n := 3) (ft_6_4 hr0).1 (ft_6_4 hr0).2 rfl dX6_refused_9 (fun hb1 => ?_)
  refine Aw.iconst (v := 1) ic_1 rfl dX6_refused_10 ?_
  refine Aw.iadd rfl dX6_refused_11 ?_
  refine Aw.iast (n := 3) (ft_6_4 hr0).1 (ft_6_4 hr0).2 rfl dX6_refused_12 (fun hb2 => ?_)
  refine Aw.bs (fun τ3 => ?_)
  refine Aw.iload_n 1 rfl rfl dX6_refused_13 ?_
  exact Aw.iret rfl dX6_refused_14
abbrev MX6_counted : Mt := (RX6, cX6_counted, 2, (some .int), 2)
def f_X6_counted (r0 : Nat) (x1 : Int32) (σ : Sg) : Option (Int32 × Sg) := if kd r0 = 6 then (if (-1) ≤ x1 then (some (x1, σ)) else (if x1 ≤ (-5) then (some (x1, σ)) else (cb (f_X6_refused r0 x1 σ) (fun a1 τ2 => some (a1, τ2))))) else none
theorem cv_X6_38 : CV RX6 38 6 yX6_refused MX6_refused 1 := ⟨_, rfl, rfl, ml_X6_38, ins_X6_refused, sel_X6_refused, ini_X6, cw_X6_refused, ⟨by decide, by decide, by decide +kernel⟩⟩
set_option maxRecDepth 100000 in
set_option maxHeartbeats 4000000 in
theorem ct_X6_counted (l : Launch) (G : Gt) (r0 : Nat) (x1 : Int32) (σ : Sg) : Ct l G yX6_counted MX6_counted rI [.ref (Gb G + r0), .int x1] σ (f_X6_counted r0 x1 σ) := by
  refine Ct.of (by decide +kernel) rfl (Nat.le_of_ble_eq_true rfl) ?_
  show Aw l G MX6_counted rI 0 [(0, .ref (Gb G + r0)), (1, .int x1)] [] σ _
  unfold f_X6_counted
  refine Aw.gd (fun hr0 => ?_)
  refine Aw.iload_n 1 rfl rfl dX6_counted_0 ?_
  refine Aw.iconst (v := (-1)) ic_m1 rfl dX6_counted_1 ?_
  refine Aw.icmp_ge (q := 5) (t := 19) rfl (by decide) dX6_counted_2 (fun hc => ?_) (fun hc => ?_)
  · refine Aw.iload_n 1 rfl rfl dX6_counted_19 ?_
    exact Aw.iret rfl dX6_counted_20
  · refine Aw.iload_n 1 rfl rfl dX6_counted_5 ?_
    refine Aw.bipush (v := (-5)) ib_m5 rfl dX6_counted_6 ?_
    refine Aw.icmp_le (q := 11) (t := 19) rfl (by decide) dX6_counted_8 (fun hc => ?_) (fun hc => ?_)
    · refine Aw.iload_n 1 rfl rfl dX6_counted_19 ?_
      exact Aw.iret rfl dX6_counted_20
    · refine Aw.aload_n 0 rfl rfl dX6_counted_11 ?_
      refine Aw.iload_n 1 rfl rfl dX6_counted_12 ?_
      refine Aw.callVi (As := [.int x1]) (rest := []) cv_X6_38 (Nat.le_of_ble_eq_true rfl) hr0 (ct_X6_refused l G r0 x1 σ) rfl rfl (Nat.le_of_ble_eq_true rfl) (Nat.le_of_ble_eq_true rfl) (Nat.le_of_ble_eq_true rfl) rfl dX6_counted_13 (fun a1 τ2 _ => ?_)
      refine Aw.goto (q := 20) (by decide) dX6_counted_16 ?_
      exact Aw.iret rfl dX6_counted_20
abbrev MX6_keeps : Mt := (RX6, cX6_keeps, 2, none, 1)
def f_X6_keeps_51  : Nat → Nat → Int32 → Sg → Option (Unit × Sg)
  | 0, _, _, _ => none
  | n + 1, r0, x1, σ => if kd r0 = 6 then (if 336 ≤ x1 then (bn (up σ r0 2 ((σ r0 2) + 1)) (fun τ1 => some ((), τ1))) else (if inb x1 336 then (if inb ((336 * (σ r0 2)) + x1) 1680 then (bn (up σ (rf r0 1) (ix ((336 * (σ r0 2)) + x1)) (σ (rf r0 0) (ix x1))) (fun τ4 => f_X6_keeps_51 n r0 (x1 + 1) τ4)) else none) else none)) else none
def f_X6_keeps_49  (r0 : Nat) (σ : Sg) : Option (Unit × Sg) := if kd r0 = 6 then (f_X6_keeps_51 FU r0 0 σ) else none
def f_X6_keeps_10  : Nat → Nat → Int32 → Sg → Option (Unit × Sg)
  | 0, _, _, _ => none
  | n + 1, r0, x1, σ => if kd r0 = 6 then (if 1344 ≤ x1 then (bn (up σ r0 2 ((σ r0 2) - 1)) (fun τ1 => f_X6_keeps_49 r0 τ1)) else (if inb (x1 + 336) 1680 then (if inb x1 1680 then (bn (up σ (rf r0 1) (ix x1) (σ (rf r0 1) (ix (x1 + 336)))) (fun τ4 => f_X6_keeps_10 n r0 (x1 + 1) τ4)) else none) else none)) else none
def f_X6_keeps (r0 : Nat) (σ : Sg) : Option (Unit × Sg) := if kd r0 = 6 then (if σ r0 2 = 5 then (f_X6_keeps_10 FU r0 0 σ) else (f_X6_keeps_49 r0 σ)) else none
set_option maxRecDepth 100000 in
set_option maxHeartbeats 4000000 in
theorem aw_X6_keeps_51 (l : Launch) (G : Gt) : ∀ (n : Nat) (r0 : Nat) (x1 : Int32) (σ : Sg), Aw l G MX6_keeps rV 51 [(0, .ref (Gb G + r0)), (1, .int x1)] [] σ (f_X6_keeps_51 n r0 x1 σ) := by
  intro n
  induction n with
  | zero => intro r0 x1 σ; exact Aw.no
  | succ n ih =>
    intro r0 x1 σ
    rw [f_X6_keeps_51]
    refine Aw.gd (fun hr0 => ?_)
    refine Aw.iload_n 1 rfl rfl dX6_keeps_51 ?_
    refine Aw.sipush (v := 336) is_336 rfl dX6_keeps_52 ?_
    refine Aw.icmp_ge (q := 58) (t := 85) rfl (by decide) dX6_keeps_55 (fun hc => ?_) (fun hc => ?_)
    · refine Aw.aload_n 0 rfl rfl dX6_keeps_85 ?_
      refine Aw.dupr rfl dX6_keeps_86 ?_
      refine Aw.getI fl_X6_42 (Nat.le_of_ble_eq_true rfl) rfl hr0 rfl dX6_keeps_87 ?_
      refine Aw.iconst (v := 1) ic_1 rfl dX6_keeps_90 ?_
      refine Aw.iadd rfl dX6_keeps_91 ?_
      refine Aw.putI (v := (σ r0 2) + 1) fl_X6_42 fp_6_2 rfl rfl (Nat.le_of_ble_eq_true rfl) rfl hr0 rfl dX6_keeps_92 ?_
      refine Aw.bs (fun τ1 => ?_)
      exact Aw.vret rfl dX6_keeps_95
    · refine Aw.aload_n 0 rfl rfl dX6_keeps_58 ?_
      refine Aw.getR fl_X6_13 (Nat.le_of_ble_eq_true rfl) rfl hr0 rfl dX6_keeps_59 ?_
      refine Aw.sipush (v := 336) is_336 rfl dX6_keeps_62 ?_
      refine Aw.aload_n 0 rfl rfl dX6_keeps_65 ?_
      refine Aw.getI fl_X6_42 (Nat.le_of_ble_eq_true rfl) rfl hr0 rfl dX6_keeps_66 ?_
      refine Aw.imul rfl dX6_keeps_69 ?_
      refine Aw.iload_n 1 rfl rfl dX6_keeps_70 ?_
      refine Aw.iadd rfl dX6_keeps_71 ?_
      refine Aw.aload_n 0 rfl rfl dX6_keeps_72 ?_
      refine Aw.getR fl_X6_7 (Nat.le_of_ble_eq_true rfl) rfl hr0 rfl dX6_keeps_73 ?_
      refine Aw.iload_n 1 rfl rfl dX6_keeps_76 ?_
      refine Aw.iald (n := 336) (ft_6_0 hr0).1 (ft_6_0 hr0).2 rfl dX6_keeps_77 (fun hb2 => ?_)
      refine Aw.iast (n := 1680) (ft_6_1 hr0).1 (ft_6_1 hr0).2 rfl dX6_keeps_78 (fun hb3 => ?_)
      refine Aw.bs (fun τ4 => ?_)
      refine Aw.iinc (v := x1 + 1) (L' := [(1, .int (x1 + 1)), (0, .ref (Gb G + r0))]) 1 rfl (ii_1 _) (Nat.le_of_ble_eq_true rfl) rfl rfl dX6_keeps_79 ?_
      refine Aw.goto (q := 51) (by decide) dX6_keeps_82 ?_
      refine Aw.sub (L' := [(0, .ref (Gb G + r0)), (1, .int (x1 + 1))]) [1, 0] rfl ?_
      exact ih _ _ _
set_option maxRecDepth 100000 in
set_option maxHeartbeats 4000000 in
theorem aw_X6_keeps_49 (l : Launch) (G : Gt) (r0 : Nat) (σ : Sg) : Aw l G MX6_keeps rV 49 [(0, .ref (Gb G + r0))] [] σ (f_X6_keeps_49 r0 σ) := by
  unfold f_X6_keeps_49
  refine Aw.gd (fun hr0 => ?_)
  refine Aw.iconst (v := 0) ic_0 rfl dX6_keeps_49 ?_
  refine Aw.istore_n (L' := [(1, .int 0), (0, .ref (Gb G + r0))]) (Nat.le_of_ble_eq_true rfl) rfl rfl dX6_keeps_50 ?_
  refine Aw.sub (L' := [(0, .ref (Gb G + r0)), (1, .int 0)]) [1, 0] rfl ?_
  exact aw_X6_keeps_51 l G FU _ _ _
set_option maxRecDepth 100000 in
set_option maxHeartbeats 4000000 in
theorem aw_X6_keeps_10 (l : Launch) (G : Gt) : ∀ (n : Nat) (r0 : Nat) (x1 : Int32) (σ : Sg), Aw l G MX6_keeps rV 10 [(0, .ref (Gb G + r0)), (1, .int x1)] [] σ (f_X6_keeps_10 n r0 x1 σ) := by
  intro n
  induction n with
  | zero => intro r0 x1 σ; exact Aw.no
  | succ n ih =>
    intro r0 x1 σ
    rw [f_X6_keeps_10]
    refine Aw.gd (fun hr0 => ?_)
    refine Aw.iload_n 1 rfl rfl dX6_keeps_10 ?_
    refine Aw.sipush (v := 1344) is_1344 rfl dX6_keeps_11 ?_
    refine Aw.icmp_ge (q := 17) (t := 39) rfl (by decide) dX6_keeps_14 (fun hc => ?_) (fun hc => ?_)
    · refine Aw.aload_n 0 rfl rfl dX6_keeps_39 ?_
      refine Aw.dupr rfl dX6_keeps_40 ?_
      refine Aw.getI fl_X6_42 (Nat.le_of_ble_eq_true rfl) rfl hr0 rfl dX6_keeps_41 ?_
      refine Aw.iconst (v := 1) ic_1 rfl dX6_keeps_44 ?_
      refine Aw.isub rfl dX6_keeps_45 ?_
      refine Aw.putI (v := (σ r0 2) - 1) fl_X6_42 fp_6_2 rfl rfl (Nat.le_of_ble_eq_true rfl) rfl hr0 rfl dX6_keeps_46 ?_
      refine Aw.bs (fun τ1 => ?_)
      refine Aw.sub (L' := [(0, .ref (Gb G + r0))]) [0] rfl ?_
      exact aw_X6_keeps_49 l G _ _
    · refine Aw.aload_n 0 rfl rfl dX6_keeps_17 ?_
      refine Aw.getR fl_X6_13 (Nat.le_of_ble_eq_true rfl) rfl hr0 rfl dX6_keeps_18 ?_
      refine Aw.iload_n 1 rfl rfl dX6_keeps_21 ?_
      refine Aw.aload_n 0 rfl rfl dX6_keeps_22 ?_
      refine Aw.getR fl_X6_13 (Nat.le_of_ble_eq_true rfl) rfl hr0 rfl dX6_keeps_23 ?_
      refine Aw.iload_n 1 rfl rfl dX6_keeps_26 ?_
      refine Aw.sipush (v := 336) is_336 rfl dX6_keeps_27 ?_
      refine Aw.iadd rfl dX6_keeps_30 ?_
      refine Aw.iald (n := 1680) (ft_6_1 hr0).1 (ft_6_1 hr0).2 rfl dX6_keeps_31 (fun hb2 => ?_)
      refine Aw.iast (n := 1680) (ft_6_1 hr0).1 (ft_6_1 hr0).2 rfl dX6_keeps_32 (fun hb3 => ?_)
      refine Aw.bs (fun τ4 => ?_)
      refine Aw.iinc (v := x1 + 1) (L' := [(1, .int (x1 + 1)), (0, .ref (Gb G + r0))]) 1 rfl (ii_1 _) (Nat.le_of_ble_eq_true rfl) rfl rfl dX6_keeps_33 ?_
      refine Aw.goto (q := 10) (by decide) dX6_keeps_36 ?_
      refine Aw.sub (L' := [(0, .ref (Gb G + r0)), (1, .int (x1 + 1))]) [1, 0] rfl ?_
      exact ih _ _ _
set_option maxRecDepth 100000 in
set_option maxHeartbeats 4000000 in
theorem ct_X6_keeps (l : Launch) (G : Gt) (r0 : Nat) (σ : Sg) : Ct l G yX6_keeps MX6_keeps rV [.ref (Gb G + r0)] σ (f_X6_keeps r0 σ) := by
  refine Ct.of (by decide +kernel) rfl (Nat.le_of_ble_eq_true rfl) ?_
  show Aw l G MX6_keeps rV 0 [(0, .ref (Gb G + r0))] [] σ _
  unfold f_X6_keeps
  refine Aw.gd (fun hr0 => ?_)
  refine Aw.aload_n 0 rfl rfl dX6_keeps_0 ?_
  refine Aw.getI fl_X6_42 (Nat.le_of_ble_eq_true rfl) rfl hr0 rfl dX6_keeps_1 ?_
  refine Aw.iconst (v := 5) ic_5 rfl dX6_keeps_4 ?_
  refine Aw.icmp_ne (q := 8) (t := 49) rfl (by decide) dX6_keeps_5 (fun hc => ?_) (fun hc => ?_)
  · refine Aw.iconst (v := 0) ic_0 rfl dX6_keeps_8 ?_
    refine Aw.istore_n (L' := [(1, .int 0), (0, .ref (Gb G + r0))]) (Nat.le_of_ble_eq_true rfl) rfl rfl dX6_keeps_9 ?_
    refine Aw.sub (L' := [(0, .ref (Gb G + r0)), (1, .int 0)]) [1, 0] rfl ?_
    exact aw_X6_keeps_10 l G FU _ _ _
  · refine Aw.sub (L' := [(0, .ref (Gb G + r0))]) [0] rfl ?_
    exact aw_X6_keeps_49 l G _ _
abbrev MX6_done : Mt := (RX6, cX6_done, 4, (some .int), 2)
def f_X6_done_58  : Nat → Nat → Int32 → Int32 → Sg → Option (Int32 × Sg)
  | 0, _, _, _, _ => none
  | n + 1, r0, x1, x2, σ => if kd r0 = 6 then (if 336 ≤ x2 then (some (x1, σ)) else (if inb x2 336 then (if inb x2 336 then (bn (up σ (rf r0 0) (ix x2) (σ (rf r0 3) (ix x2))) (fun τ3 => f_X6_done_58 n r0 x1 (x2 + 1) τ3)) else none) else none)) else none
def f_X6_done_13  : Nat → Nat → Int32 → Int32 → Sg → Option (Int32 × Sg)
  | 0, _, _, _, _ => none
  | n + 1, r0, x1, x2, σ => if kd r0 = 6 then (if 336 ≤ x2 then (cb (f_X6_keeps r0 σ) (fun _ τ2 => f_X6_done_58 FU r0 x1 0 τ2)) else (if inb x2 336 then (bn (σ (rf r0 0) (ix x2)) (fun b4 => if inb x2 336 then (if inb x2 336 then (bn (up σ (rf r0 0) (ix x2) (σ (rf r0 3) (ix x2))) (fun τ7 => if inb x2 336 then (bn (up τ7 (rf r0 3) (ix x2) b4) (fun τ9 => f_X6_done_13 n r0 x1 (x2 + 1) τ9)) else none)) else none) else none)) else none)) else none
def f_X6_done (r0 : Nat) (x1 : Int32) (σ : Sg) : Option (Int32 × Sg) := if kd r0 = 6 then (if (-1) ≤ x1 then (f_X6_done_13 FU r0 x1 0 σ) else (cb (f_X6_refused r0 x1 σ) (fun a1 τ2 => some (a1, τ2)))) else none
theorem cv_X6_45 : CV RX6 45 6 yX6_keeps MX6_keeps 0 := ⟨_, rfl, rfl, ml_X6_45, ins_X6_keeps, sel_X6_keeps, ini_X6, cw_X6_keeps, ⟨by decide, by decide, by decide +kernel⟩⟩
set_option maxRecDepth 100000 in
set_option maxHeartbeats 4000000 in
theorem aw_X6_done_58 (l : Launch) (G : Gt) : ∀ (n : Nat) (r0 : Nat) (x1 : Int32) (x2 : Int32) (σ : Sg), Aw l G MX6_done rI 58 [(0, .ref (Gb G + r0)), (1, .int x1), (2, .int x2)] [] σ (f_X6_done_58 n r0 x1 x2 σ) := by
  intro n
  induction n with
  | zero => intro r0 x1 x2 σ; exact Aw.no
  | succ n ih =>
    intro r0 x1 x2 σ
    rw [f_X6_done_58]
    refine Aw.gd (fun hr0 => ?_)
    refine Aw.iload_n 2 rfl rfl dX6_done_58 ?_
    refine Aw.sipush (v := 336) is_336 rfl dX6_done_59 ?_
    refine Aw.icmp_ge (q := 65) (t := 83) rfl (by decide) dX6_done_62 (fun hc => ?_) (fun hc => ?_)
    · refine Aw.iload_n 1 rfl rfl dX6_done_83 ?_
      exact Aw.iret rfl dX6_done_84
    · refine Aw.aload_n 0 rfl rfl dX6_done_65 ?_
      refine Aw.getR fl_X6_7 (Nat.le_of_ble_eq_true rfl) rfl hr0 rfl dX6_done_66 ?_
      refine Aw.iload_n 2 rfl rfl dX6_done_69 ?_
      refine Aw.aload_n 0 rfl rfl dX6_done_70 ?_
      refine Aw.getR fl_X6_16 (Nat.le_of_ble_eq_true rfl) rfl hr0 rfl dX6_done_71 ?_
      refine Aw.iload_n 2 rfl rfl dX6_done_74 ?_
      refine Aw.iald (n := 336) (ft_6_3 hr0).1 (ft_6_3 hr0).2 rfl dX6_done_75 (fun hb1 => ?_)
      refine Aw.iast (n := 336) (ft_6_0 hr0).1 (ft_6_0 hr0).2 rfl dX6_done_76 (fun hb2 => ?_)
      refine Aw.bs (fun τ3 => ?_)
      refine Aw.iinc (v := x2 + 1) (L' := [(2, .int (x2 + 1)), (0, .ref (Gb G + r0)), (1, .int x1)]) 2 rfl (ii_1 _) (Nat.le_of_ble_eq_true rfl) rfl rfl dX6_done_77 ?_
      refine Aw.goto (q := 58) (by decide) dX6_done_80 ?_
      refine Aw.sub (L' := [(0, .ref (Gb G + r0)), (1, .int x1), (2, .int (x2 + 1))]) [1, 2, 0] rfl ?_
      exact ih _ _ _ _
set_option maxRecDepth 100000 in
set_option maxHeartbeats 4000000 in
theorem aw_X6_done_13 (l : Launch) (G : Gt) : ∀ (n : Nat) (r0 : Nat) (x1 : Int32) (x2 : Int32) (σ : Sg), Aw l G MX6_done rI 13 [(0, .ref (Gb G + r0)), (1, .int x1), (2, .int x2)] [] σ (f_X6_done_13 n r0 x1 x2 σ) := by
  intro n
  induction n with
  | zero => intro r0 x1 x2 σ; exact Aw.no
  | succ n ih =>
    intro r0 x1 x2 σ
    rw [f_X6_done_13]
    refine Aw.gd (fun hr0 => ?_)
    refine Aw.iload_n 2 rfl rfl dX6_done_13 ?_
    refine Aw.sipush (v := 336) is_336 rfl dX6_done_14 ?_
    refine Aw.icmp_ge (q := 20) (t := 52) rfl (by decide) dX6_done_17 (fun hc => ?_) (fun hc => ?_)
    · refine Aw.aload_n 0 rfl rfl dX6_done_52 ?_
      refine Aw.callVv (As := []) (rest := []) cv_X6_45 (Nat.le_of_ble_eq_true rfl) hr0 (ct_X6_keeps l G r0 σ) rfl rfl (Nat.le_of_ble_eq_true rfl) (Nat.le_of_ble_eq_true rfl) (Nat.le_of_ble_eq_true rfl) rfl dX6_done_53 (fun a1 τ2 _ => ?_)
      refine Aw.iconst (v := 0) ic_0 rfl dX6_done_56 ?_
      refine Aw.istore_n (L' := [(2, .int 0), (0, .ref (Gb G + r0)), (1, .int x1)]) (Nat.le_of_ble_eq_true rfl) rfl rfl dX6_done_57 ?_
      refine Aw.sub (L' := [(0, .ref (Gb G + r0)), (1, .int x1), (2, .int 0)]) [1, 2, 0] rfl ?_
      exact aw_X6_done_58 l G FU _ _ _ _
    · refine Aw.aload_n 0 rfl rfl dX6_done_20 ?_
      refine Aw.getR fl_X6_7 (Nat.le_of_ble_eq_true rfl) rfl hr0 rfl dX6_done_21 ?_
      refine Aw.iload_n 2 rfl rfl dX6_done_24 ?_
      refine Aw.iald (n := 336) (ft_6_0 hr0).1 (ft_6_0 hr0).2 rfl dX6_done_25 (fun hb3 => ?_)
      refine Aw.bi (fun b4 => ?_)
      refine Aw.istore_n (L' := [(3, .int b4), (0, .ref (Gb G + r0)), (1, .int x1), (2, .int x2)]) (Nat.le_of_ble_eq_true rfl) rfl rfl dX6_done_26 ?_
      refine Aw.aload_n 1 rfl rfl dX6_done_27 ?_
      refine Aw.getR fl_X6_7 (Nat.le_of_ble_eq_true rfl) rfl hr0 rfl dX6_done_28 ?_
      refine Aw.iload_n 3 rfl rfl dX6_done_31 ?_
      refine Aw.aload_n 1 rfl rfl dX6_done_32 ?_
      refine Aw.getR fl_X6_16 (Nat.le_of_ble_eq_true rfl) rfl hr0 rfl dX6_done_33 ?_
      refine Aw.iload_n 3 rfl rfl dX6_done_36 ?_
      refine Aw.iald (n := 336) (ft_6_3 hr0).1 (ft_6_3 hr0).2 rfl dX6_done_37 (fun hb5 => ?_)
      refine Aw.iast (n := 336) (ft_6_0 hr0).1 (ft_6_0 hr0).2 rfl dX6_done_38 (fun hb6 => ?_)
      refine Aw.bs (fun τ7 => ?_)
      refine Aw.aload_n 1 rfl rfl dX6_done_39 ?_
      refine Aw.getR fl_X6_16 (Nat.le_of_ble_eq_true rfl) rfl hr0 rfl dX6_done_40 ?_
      refine Aw.iload_n 3 rfl rfl dX6_done_43 ?_
      refine Aw.iload_n 0 rfl rfl dX6_done_44 ?_
      refine Aw.iast (n := 336) (ft_6_3 hr0).1 (ft_6_3 hr0).2 rfl dX6_done_45 (fun hb8 => ?_)
      refine Aw.bs (fun τ9 => ?_)
      refine Aw.iinc (v := x2 + 1) (L' := [(2, .int (x2 + 1)), (3, .int b4), (0, .ref (Gb G + r0)), (1, .int x1)]) 3 rfl (ii_1 _) (Nat.le_of_ble_eq_true rfl) rfl rfl dX6_done_46 ?_
      refine Aw.goto (q := 13) (by decide) dX6_done_49 ?_
      refine Aw.sub (L' := [(0, .ref (Gb G + r0)), (1, .int x1), (2, .int (x2 + 1))]) [2, 3, 0] rfl ?_
      exact ih _ _ _ _
set_option maxRecDepth 100000 in
set_option maxHeartbeats 4000000 in
theorem ct_X6_done (l : Launch) (G : Gt) (r0 : Nat) (x1 : Int32) (σ : Sg) : Ct l G yX6_done MX6_done rI [.ref (Gb G + r0), .int x1] σ (f_X6_done r0 x1 σ) := by
  refine Ct.of (by decide +kernel) rfl (Nat.le_of_ble_eq_true rfl) ?_
  show Aw l G MX6_done rI 0 [(0, .ref (Gb G + r0)), (1, .int x1)] [] σ _
  unfold f_X6_done
  refine Aw.gd (fun hr0 => ?_)
  refine Aw.iload_n 1 rfl rfl dX6_done_0 ?_
  refine Aw.iconst (v := (-1)) ic_m1 rfl dX6_done_1 ?_
  refine Aw.icmp_ge (q := 5) (t := 11) rfl (by decide) dX6_done_2 (fun hc => ?_) (fun hc => ?_)
  · refine Aw.iconst (v := 0) ic_0 rfl dX6_done_11 ?_
    refine Aw.istore_n (L' := [(2, .int 0), (0, .ref (Gb G + r0)), (1, .int x1)]) (Nat.le_of_ble_eq_true rfl) rfl rfl dX6_done_12 ?_
    refine Aw.sub (L' := [(0, .ref (Gb G + r0)), (1, .int x1), (2, .int 0)]) [1, 2, 0] rfl ?_
    exact aw_X6_done_13 l G FU _ _ _ _
  · refine Aw.aload_n 0 rfl rfl dX6_done_5 ?_
    refine Aw.iload_n 1 rfl rfl dX6_done_6 ?_
    refine Aw.callVi (As := [.int x1]) (rest := []) cv_X6_38 (Nat.le_of_ble_eq_true rfl) hr0 (ct_X6_refused l G r0 x1 σ) rfl rfl (Nat.le_of_ble_eq_true rfl) (Nat.le_of_ble_eq_true rfl) (Nat.le_of_ble_eq_true rfl) rfl dX6_done_7 (fun a1 τ2 _ => ?_)
    exact Aw.iret rfl dX6_done_10
abbrev MX6_notes : Mt := (RX6, cX6_notes, 2, none, 1)
def f_X6_notes_2  : Nat → Nat → Int32 → Sg → Option (Unit × Sg)
  | 0, _, _, _ => none
  | n + 1, r0, x1, σ => if kd r0 = 6 then (if 336 ≤ x1 then (some ((), σ)) else (if inb x1 336 then (if inb x1 336 then (bn (up σ (rf r0 3) (ix x1) (σ (rf r0 0) (ix x1))) (fun τ3 => f_X6_notes_2 n r0 (x1 + 1) τ3)) else none) else none)) else none
def f_X6_notes (r0 : Nat) (σ : Sg) : Option (Unit × Sg) := if kd r0 = 6 then (f_X6_notes_2 FU r0 0 σ) else none
set_option maxRecDepth 100000 in
set_option maxHeartbeats 4000000 in
theorem aw_X6_notes_2 (l : Launch) (G : Gt) : ∀ (n : Nat) (r0 : Nat) (x1 : Int32) (σ : Sg), Aw l G MX6_notes rV 2 [(0, .ref (Gb G + r0)), (1, .int x1)] [] σ (f_X6_notes_2 n r0 x1 σ) := by
  intro n
  induction n with
  | zero => intro r0 x1 σ; exact Aw.no
  | succ n ih =>
    intro r0 x1 σ
    rw [f_X6_notes_2]
    refine Aw.gd (fun hr0 => ?_)
    refine Aw.iload_n 1 rfl rfl dX6_notes_2 ?_
    refine Aw.sipush (v := 336) is_336 rfl dX6_notes_3 ?_
    refine Aw.icmp_ge (q := 9) (t := 27) rfl (by decide) dX6_notes_6 (fun hc => ?_) (fun hc => ?_)
    · exact Aw.vret rfl dX6_notes_27
    · refine Aw.aload_n 0 rfl rfl dX6_notes_9 ?_
      refine Aw.getR fl_X6_16 (Nat.le_of_ble_eq_true rfl) rfl hr0 rfl dX6_notes_10 ?_
      refine Aw.iload_n 1 rfl rfl dX6_notes_13 ?_
      refine Aw.aload_n 0 rfl rfl dX6_notes_14 ?_
      refine Aw.getR fl_X6_7 (Nat.le_of_ble_eq_true rfl) rfl hr0 rfl dX6_notes_15 ?_
      refine Aw.iload_n 1 rfl rfl dX6_notes_18 ?_
      refine Aw.iald (n := 336) (ft_6_0 hr0).1 (ft_6_0 hr0).2 rfl dX6_notes_19 (fun hb1 => ?_)
      refine Aw.iast (n := 336) (ft_6_3 hr0).1 (ft_6_3 hr0).2 rfl dX6_notes_20 (fun hb2 => ?_)
      refine Aw.bs (fun τ3 => ?_)
      refine Aw.iinc (v := x1 + 1) (L' := [(1, .int (x1 + 1)), (0, .ref (Gb G + r0))]) 1 rfl (ii_1 _) (Nat.le_of_ble_eq_true rfl) rfl rfl dX6_notes_21 ?_
      refine Aw.goto (q := 2) (by decide) dX6_notes_24 ?_
      refine Aw.sub (L' := [(0, .ref (Gb G + r0)), (1, .int (x1 + 1))]) [1, 0] rfl ?_
      exact ih _ _ _
set_option maxRecDepth 100000 in
set_option maxHeartbeats 4000000 in
theorem ct_X6_notes (l : Launch) (G : Gt) (r0 : Nat) (σ : Sg) : Ct l G yX6_notes MX6_notes rV [.ref (Gb G + r0)] σ (f_X6_notes r0 σ) := by
  refine Ct.of (by decide +kernel) rfl (Nat.le_of_ble_eq_true rfl) ?_
  show Aw l G MX6_notes rV 0 [(0, .ref (Gb G + r0))] [] σ _
  unfold f_X6_notes
  refine Aw.gd (fun hr0 => ?_)
  refine Aw.iconst (v := 0) ic_0 rfl dX6_notes_0 ?_
  refine Aw.istore_n (L' := [(1, .int 0), (0, .ref (Gb G + r0))]) (Nat.le_of_ble_eq_true rfl) rfl rfl dX6_notes_1 ?_
  refine Aw.sub (L' := [(0, .ref (Gb G + r0)), (1, .int 0)]) [1, 0] rfl ?_
  exact aw_X6_notes_2 l G FU _ _ _
abbrev MX6_place : Mt := (RX6, cX6_place, 4, (some .int), 1)
def f_X6_place (r0 : Nat) (x1 : Int32) (x2 : Int32) (x3 : Int32) (σ : Sg) : Option (Int32 × Sg) := if kd r0 = 6 then (some (((36 + (36 * x1)) + (12 * x3)) + x2, σ)) else none
set_option maxRecDepth 100000 in
set_option maxHeartbeats 4000000 in
theorem ct_X6_place (l : Launch) (G : Gt) (r0 : Nat) (x1 : Int32) (x2 : Int32) (x3 : Int32) (σ : Sg) : Ct l G yX6_place MX6_place rI [.ref (Gb G + r0), .int x1, .int x2, .int x3] σ (f_X6_place r0 x1 x2 x3 σ) := by
  refine Ct.of (by decide +kernel) rfl (Nat.le_of_ble_eq_true rfl) ?_
  show Aw l G MX6_place rI 0 [(0, .ref (Gb G + r0)), (1, .int x1), (2, .int x2), (3, .int x3)] [] σ _
  unfold f_X6_place
  refine Aw.gd (fun hr0 => ?_)
  refine Aw.bipush (v := 36) ib_36 rfl dX6_place_0 ?_
  refine Aw.bipush (v := 36) ib_36 rfl dX6_place_2 ?_
  refine Aw.iload_n 1 rfl rfl dX6_place_4 ?_
  refine Aw.imul rfl dX6_place_5 ?_
  refine Aw.iadd rfl dX6_place_6 ?_
  refine Aw.bipush (v := 12) ib_12 rfl dX6_place_7 ?_
  refine Aw.iload_n 3 rfl rfl dX6_place_9 ?_
  refine Aw.imul rfl dX6_place_10 ?_
  refine Aw.iadd rfl dX6_place_11 ?_
  refine Aw.iload_n 2 rfl rfl dX6_place_12 ?_
  refine Aw.iadd rfl dX6_place_13 ?_
  exact Aw.iret rfl dX6_place_14
abbrev MX6_isDancer : Mt := (RX6, cX6_isDancer, 2, (some .boolean), 2)
def f_X6_isDancer (r0 : Nat) (x1 : Int32) (σ : Sg) : Option (Int32 × Sg) := if kd r0 = 6 then (if inb 0 336 then (cb (f_X6_isIn x1 0 ((σ (rf r0 0) (ix 0)) - 1) σ) (fun a2 τ3 => if a2 = 0 ∨ a2 = 1 then some (a2, τ3) else none)) else none) else none
theorem cs_X6_48 : CS RX6 48 yX6_isIn MX6_isIn 3 := ⟨ml_X6_48, sta_X6_isIn, ini_X6, cw_X6_isIn, ⟨by decide, by decide, by decide +kernel⟩⟩
set_option maxRecDepth 100000 in
set_option maxHeartbeats 4000000 in
theorem ct_X6_isDancer (l : Launch) (G : Gt) (r0 : Nat) (x1 : Int32) (σ : Sg) : Ct l G yX6_isDancer MX6_isDancer rI [.ref (Gb G + r0), .int x1] σ (f_X6_isDancer r0 x1 σ) := by
  refine Ct.of (by decide +kernel) rfl (Nat.le_of_ble_eq_true rfl) ?_
  show Aw l G MX6_isDancer rI 0 [(0, .ref (Gb G + r0)), (1, .int x1)] [] σ _
  unfold f_X6_isDancer
  refine Aw.gd (fun hr0 => ?_)
  refine Aw.iload_n 1 rfl rfl dX6_isDancer_0 ?_
  refine Aw.iconst (v := 0) ic_0 rfl dX6_isDancer_1 ?_
  refine Aw.aload_n 0 rfl rfl dX6_isDancer_2 ?_
  refine Aw.getR fl_X6_7 (Nat.le_of_ble_eq_true rfl) rfl hr0 rfl dX6_isDancer_3 ?_
  refine Aw.iconst (v := 0) ic_0 rfl dX6_isDancer_6 ?_
  refine Aw.iald (n := 336) (ft_6_0 hr0).1 (ft_6_0 hr0).2 rfl dX6_isDancer_7 (fun hb1 => ?_)
  refine Aw.iconst (v := 1) ic_1 rfl dX6_isDancer_8 ?_
  refine Aw.isub rfl dX6_isDancer_9 ?_
  refine Aw.callSi (As := [.int x1, .int 0, .int ((σ (rf r0 0) (ix 0)) - 1)]) (rest := []) cs_X6_48 (ct_X6_isIn l G x1 0 ((σ (rf r0 0) (ix 0)) - 1) σ) rfl rfl (Nat.le_of_ble_eq_true rfl) (Nat.le_of_ble_eq_true rfl) (Nat.le_of_ble_eq_true rfl) rfl dX6_isDancer_10 (fun a2 τ3 _ => ?_)
  exact Aw.zretG rfl dX6_isDancer_13
abbrev MX6_isCall : Mt := (RX6, cX6_isCall, 2, (some .boolean), 2)
def f_X6_isCall (r0 : Nat) (x1 : Int32) (σ : Sg) : Option (Int32 × Sg) := if kd r0 = 6 then (if inb 1 336 then (cb (f_X6_isIn x1 0 ((σ (rf r0 0) (ix 1)) - 1) σ) (fun a2 τ3 => if a2 = 0 ∨ a2 = 1 then some (a2, τ3) else none)) else none) else none
set_option maxRecDepth 100000 in
set_option maxHeartbeats 4000000 in
theorem ct_X6_isCall (l : Launch) (G : Gt) (r0 : Nat) (x1 : Int32) (σ : Sg) : Ct l G yX6_isCall MX6_isCall rI [.ref (Gb G + r0), .int x1] σ (f_X6_isCall r0 x1 σ) := by
  refine Ct.of (by decide +kernel) rfl (Nat.le_of_ble_eq_true rfl) ?_
  show Aw l G MX6_isCall rI 0 [(0, .ref (Gb G + r0)), (1, .int x1)] [] σ _
  unfold f_X6_isCall
  refine Aw.gd (fun hr0 => ?_)
  refine Aw.iload_n 1 rfl rfl dX6_isCall_0 ?_
  refine Aw.iconst (v := 0) ic_0 rfl dX6_isCall_1 ?_
  refine Aw.aload_n 0 rfl rfl dX6_isCall_2 ?_
  refine Aw.getR fl_X6_7 (Nat.le_of_ble_eq_true rfl) rfl hr0 rfl dX6_isCall_3 ?_
  refine Aw.iconst (v := 1) ic_1 rfl dX6_isCall_6 ?_
  refine Aw.iald (n := 336) (ft_6_0 hr0).1 (ft_6_0 hr0).2 rfl dX6_isCall_7 (fun hb1 => ?_)
  refine Aw.iconst (v := 1) ic_1 rfl dX6_isCall_8 ?_
  refine Aw.isub rfl dX6_isCall_9 ?_
  refine Aw.callSi (As := [.int x1, .int 0, .int ((σ (rf r0 0) (ix 1)) - 1)]) (rest := []) cs_X6_48 (ct_X6_isIn l G x1 0 ((σ (rf r0 0) (ix 1)) - 1) σ) rfl rfl (Nat.le_of_ble_eq_true rfl) (Nat.le_of_ble_eq_true rfl) (Nat.le_of_ble_eq_true rfl) rfl dX6_isCall_10 (fun a2 τ3 _ => ?_)
  exact Aw.zretG rfl dX6_isCall_13
abbrev MX6_isSpot : Mt := (RX6, cX6_isSpot, 1, (some .boolean), 2)
def f_X6_isSpot (x0 : Int32) (σ : Sg) : Option (Int32 × Sg) := cb (f_X6_isIn x0 0 11 σ) (fun a1 τ2 => if a1 = 0 ∨ a1 = 1 then some (a1, τ2) else none)
set_option maxRecDepth 100000 in
set_option maxHeartbeats 4000000 in
theorem ct_X6_isSpot (l : Launch) (G : Gt) (x0 : Int32) (σ : Sg) : Ct l G yX6_isSpot MX6_isSpot rI [.int x0] σ (f_X6_isSpot x0 σ) := by
  refine Ct.of (by decide +kernel) rfl (Nat.le_of_ble_eq_true rfl) ?_
  show Aw l G MX6_isSpot rI 0 [(0, .int x0)] [] σ _
  unfold f_X6_isSpot
  refine Aw.iload_n 0 rfl rfl dX6_isSpot_0 ?_
  refine Aw.iconst (v := 0) ic_0 rfl dX6_isSpot_1 ?_
  refine Aw.bipush (v := 11) ib_11 rfl dX6_isSpot_2 ?_
  refine Aw.callSi (As := [.int x0, .int 0, .int 11]) (rest := []) cs_X6_48 (ct_X6_isIn l G x0 0 11 σ) rfl rfl (Nat.le_of_ble_eq_true rfl) (Nat.le_of_ble_eq_true rfl) (Nat.le_of_ble_eq_true rfl) rfl dX6_isSpot_4 (fun a1 τ2 _ => ?_)
  exact Aw.zretG rfl dX6_isSpot_7
abbrev MX6_who : Mt := (RX6, cX6_who, 3, (some .int), 1)
def f_X6_who_2  : Nat → Nat → Int32 → Int32 → Sg → Option (Int32 × Sg)
  | 0, _, _, _, _ => none
  | n + 1, r0, x1, x2, σ => if kd r0 = 6 then (if inb 0 336 then (if σ (rf r0 0) (ix 0) ≤ x2 then (some ((-1), σ)) else (if inb (4 + (4 * x2)) 336 then (if σ (rf r0 0) (ix (4 + (4 * x2))) = x1 then (some (x2, σ)) else (f_X6_who_2 n r0 x1 (x2 + 1) σ)) else none)) else none) else none
def f_X6_who (r0 : Nat) (x1 : Int32) (σ : Sg) : Option (Int32 × Sg) := if kd r0 = 6 then (f_X6_who_2 FU r0 x1 0 σ) else none
set_option maxRecDepth 100000 in
set_option maxHeartbeats 4000000 in
theorem aw_X6_who_2 (l : Launch) (G : Gt) : ∀ (n : Nat) (r0 : Nat) (x1 : Int32) (x2 : Int32) (σ : Sg), Aw l G MX6_who rI 2 [(0, .ref (Gb G + r0)), (1, .int x1), (2, .int x2)] [] σ (f_X6_who_2 n r0 x1 x2 σ) := by
  intro n
  induction n with
  | zero => intro r0 x1 x2 σ; exact Aw.no
  | succ n ih =>
    intro r0 x1 x2 σ
    rw [f_X6_who_2]
    refine Aw.gd (fun hr0 => ?_)
    refine Aw.iload_n 2 rfl rfl dX6_who_2 ?_
    refine Aw.aload_n 0 rfl rfl dX6_who_3 ?_
    refine Aw.getR fl_X6_7 (Nat.le_of_ble_eq_true rfl) rfl hr0 rfl dX6_who_4 ?_
    refine Aw.iconst (v := 0) ic_0 rfl dX6_who_7 ?_
    refine Aw.iald (n := 336) (ft_6_0 hr0).1 (ft_6_0 hr0).2 rfl dX6_who_8 (fun hb1 => ?_)
    refine Aw.icmp_ge (q := 12) (t := 34) rfl (by decide) dX6_who_9 (fun hc => ?_) (fun hc => ?_)
    · refine Aw.iconst (v := (-1)) ic_m1 rfl dX6_who_34 ?_
      exact Aw.iret rfl dX6_who_35
    · refine Aw.aload_n 0 rfl rfl dX6_who_12 ?_
      refine Aw.getR fl_X6_7 (Nat.le_of_ble_eq_true rfl) rfl hr0 rfl dX6_who_13 ?_
      refine Aw.iconst (v := 4) ic_4 rfl dX6_who_16 ?_
      refine Aw.iconst (v := 4) ic_4 rfl dX6_who_17 ?_
      refine Aw.iload_n 2 rfl rfl dX6_who_18 ?_
      refine Aw.imul rfl dX6_who_19 ?_
      refine Aw.iadd rfl dX6_who_20 ?_
      refine Aw.iald (n := 336) (ft_6_0 hr0).1 (ft_6_0 hr0).2 rfl dX6_who_21 (fun hb2 => ?_)
      refine Aw.iload_n 1 rfl rfl dX6_who_22 ?_
      refine Aw.icmp_ne (q := 26) (t := 28) rfl (by decide) dX6_who_23 (fun hc => ?_) (fun hc => ?_)
      · refine Aw.iload_n 2 rfl rfl dX6_who_26 ?_
        exact Aw.iret rfl dX6_who_27
      · refine Aw.iinc (v := x2 + 1) (L' := [(2, .int (x2 + 1)), (0, .ref (Gb G + r0)), (1, .int x1)]) 2 rfl (ii_1 _) (Nat.le_of_ble_eq_true rfl) rfl rfl dX6_who_28 ?_
        refine Aw.goto (q := 2) (by decide) dX6_who_31 ?_
        refine Aw.sub (L' := [(0, .ref (Gb G + r0)), (1, .int x1), (2, .int (x2 + 1))]) [1, 2, 0] rfl ?_
        exact ih _ _ _ _
set_option maxRecDepth 100000 in
set_option maxHeartbeats 4000000 in
theorem ct_X6_who (l : Launch) (G : Gt) (r0 : Nat) (x1 : Int32) (σ : Sg) : Ct l G yX6_who MX6_who rI [.ref (Gb G + r0), .int x1] σ (f_X6_who r0 x1 σ) := by
  refine Ct.of (by decide +kernel) rfl (Nat.le_of_ble_eq_true rfl) ?_
  show Aw l G MX6_who rI 0 [(0, .ref (Gb G + r0)), (1, .int x1)] [] σ _
  unfold f_X6_who
  refine Aw.gd (fun hr0 => ?_)
  refine Aw.iconst (v := 0) ic_0 rfl dX6_who_0 ?_
  refine Aw.istore_n (L' := [(2, .int 0), (0, .ref (Gb G + r0)), (1, .int x1)]) (Nat.le_of_ble_eq_true rfl) rfl rfl dX6_who_1 ?_
  refine Aw.sub (L' := [(0, .ref (Gb G + r0)), (1, .int x1), (2, .int 0)]) [1, 2, 0] rfl ?_
  exact aw_X6_who_2 l G FU _ _ _ _
abbrev MX6_comes : Mt := (RX6, cX6_comes, 5, (some .int), 3)
def f_X6_comes_56 (rc5 : Nat → Int32 → Int32 → Int32 → Int32 → Sg → Option (Int32 × Sg)) (r0 : Nat) (x1 : Int32) (x2 : Int32) (x4 : Int32) (s0 : Int32) (σ : Sg) : Option (Int32 × Sg) := if kd r0 = 6 then (rc5 r0 x1 x2 s0 (x4 + 1) σ) else none
def f_X6_comes_51 (rc5 : Nat → Int32 → Int32 → Int32 → Int32 → Sg → Option (Int32 × Sg)) (r0 : Nat) (x1 : Int32) (x2 : Int32) (x4 : Int32) (σ : Sg) : Option (Int32 × Sg) := if kd r0 = 6 then (f_X6_comes_56 rc5 r0 x1 x2 x4 1 σ) else none
def f_X6_comes_5  : Nat → Nat → Int32 → Int32 → Int32 → Int32 → Sg → Option (Int32 × Sg)
  | 0, _, _, _, _, _, _ => none
  | n + 1, r0, x1, x2, x3, x4, σ => if kd r0 = 6 then (if inb 0 336 then (if σ (rf r0 0) (ix 0) ≤ x4 then (cb (f_X6_isSpot x1 σ) (fun a2 τ3 => if a2 = 0 then (some ((-2), τ3)) else (cb (f_X6_isIn x2 0 3 τ3) (fun a4 τ5 => if a4 = 0 then (some ((-2), τ5)) else (if x3 = 0 then (if inb 0 336 then (if τ5 (rf r0 0) (ix 0) = 8 then (some ((-4), τ5)) else (if inb 0 336 then (bn (4 + (4 * (τ5 (rf r0 0) (ix 0)))) (fun b8 => if inb b8 336 then (bn (up τ5 (rf r0 0) (ix b8) x1) (fun τ10 => if inb (b8 + 1) 336 then (bn (up τ10 (rf r0 0) (ix (b8 + 1)) x2) (fun τ12 => if inb (b8 + 2) 336 then (bn (up τ12 (rf r0 0) (ix (b8 + 2)) x1) (fun τ14 => if inb (b8 + 3) 336 then (bn (up τ14 (rf r0 0) (ix (b8 + 3)) x2) (fun τ16 => if inb 0 336 then (if inb 0 336 then (bn (up τ16 (rf r0 0) (ix 0) ((τ16 (rf r0 0) (ix 0)) + 1)) (fun τ19 => if inb 0 336 then (some ((τ19 (rf r0 0) (ix 0)) - 1, τ19)) else none)) else none) else none)) else none)) else none)) else none)) else none)) else none)) else none) else (some ((-2), τ5))))))) else (if x3 = 0 then (if inb (4 + (4 * x4)) 336 then (if σ (rf r0 0) (ix (4 + (4 * x4))) = x1 then (f_X6_comes_51 (f_X6_comes_5 n) r0 x1 x2 x4 σ) else (if inb (6 + (4 * x4)) 336 then (if σ (rf r0 0) (ix (6 + (4 * x4))) = x1 then (f_X6_comes_51 (f_X6_comes_5 n) r0 x1 x2 x4 σ) else (f_X6_comes_56 (f_X6_comes_5 n) r0 x1 x2 x4 0 σ)) else none)) else none) else (f_X6_comes_51 (f_X6_comes_5 n) r0 x1 x2 x4 σ))) else none) else none
def f_X6_comes (r0 : Nat) (x1 : Int32) (x2 : Int32) (σ : Sg) : Option (Int32 × Sg) := if kd r0 = 6 then (f_X6_comes_5 FU r0 x1 x2 0 0 σ) else none
theorem cs_X6_52 : CS RX6 52 yX6_isSpot MX6_isSpot 1 := ⟨ml_X6_52, sta_X6_isSpot, ini_X6, cw_X6_isSpot, ⟨by decide, by decide, by decide +kernel⟩⟩
set_option maxRecDepth 100000 in
set_option maxHeartbeats 4000000 in
theorem aw_X6_comes_56 (l : Launch) (G : Gt) (rc5 : Nat → Int32 → Int32 → Int32 → Int32 → Sg → Option (Int32 × Sg)) (hrc5 : ∀ (r0 : Nat) (x1 : Int32) (x2 : Int32) (x3 : Int32) (x4 : Int32) (σ : Sg), Aw l G MX6_comes rI 5 [(0, .ref (Gb G + r0)), (1, .int x1), (2, .int x2), (3, .int x3), (4, .int x4)] [] σ (rc5 r0 x1 x2 x3 x4 σ)) (r0 : Nat) (x1 : Int32) (x2 : Int32) (x4 : Int32) (s0 : Int32) (σ : Sg) : Aw l G MX6_comes rI 56 [(0, .ref (Gb G + r0)), (1, .int x1), (2, .int x2), (4, .int x4)] [.int s0] σ (f_X6_comes_56 rc5 r0 x1 x2 x4 s0 σ) := by
  unfold f_X6_comes_56
  refine Aw.gd (fun hr0 => ?_)
  refine Aw.istore_n (L' := [(3, .int s0), (0, .ref (Gb G + r0)), (1, .int x1), (2, .int x2), (4, .int x4)]) (Nat.le_of_ble_eq_true rfl) rfl rfl dX6_comes_56 ?_
  refine Aw.iinc (v := x4 + 1) (L' := [(4, .int (x4 + 1)), (3, .int s0), (0, .ref (Gb G + r0)), (1, .int x1), (2, .int x2)]) 4 rfl (ii_1 _) (Nat.le_of_ble_eq_true rfl) rfl rfl dX6_comes_57 ?_
  refine Aw.goto (q := 5) (by decide) dX6_comes_60 ?_
  refine Aw.sub (L' := [(0, .ref (Gb G + r0)), (1, .int x1), (2, .int x2), (3, .int s0), (4, .int (x4 + 1))]) [2, 3, 4, 1, 0] rfl ?_
  exact hrc5 _ _ _ _ _ _
set_option maxRecDepth 100000 in
set_option maxHeartbeats 4000000 in
theorem aw_X6_comes_51 (l : Launch) (G : Gt) (rc5 : Nat → Int32 → Int32 → Int32 → Int32 → Sg → Option (Int32 × Sg)) (hrc5 : ∀ (r0 : Nat) (x1 : Int32) (x2 : Int32) (x3 : Int32) (x4 : Int32) (σ : Sg), Aw l G MX6_comes rI 5 [(0, .ref (Gb G + r0)), (1, .int x1), (2, .int x2), (3, .int x3), (4, .int x4)] [] σ (rc5 r0 x1 x2 x3 x4 σ)) (r0 : Nat) (x1 : Int32) (x2 : Int32) (x4 : Int32) (σ : Sg) : Aw l G MX6_comes rI 51 [(0, .ref (Gb G + r0)), (1, .int x1), (2, .int x2), (4, .int x4)] [] σ (f_X6_comes_51 rc5 r0 x1 x2 x4 σ) := by
  unfold f_X6_comes_51
  refine Aw.gd (fun hr0 => ?_)
  refine Aw.iconst (v := 1) ic_1 rfl dX6_comes_51 ?_
  refine Aw.goto (q := 56) (by decide) dX6_comes_52 ?_
  refine Aw.sub (L' := [(0, .ref (Gb G + r0)), (1, .int x1), (2, .int x2), (4, .int x4)]) [0, 1, 2, 3] rfl ?_
  exact aw_X6_comes_56 l G _ hrc5 _ _ _ _ _ _
set_option maxRecDepth 100000 in
set_option maxHeartbeats 4000000 in
theorem aw_X6_comes_5 (l : Launch) (G : Gt) : ∀ (n : Nat) (r0 : Nat) (x1 : Int32) (x2 : Int32) (x3 : Int32) (x4 : Int32) (σ : Sg), Aw l G MX6_comes rI 5 [(0, .ref (Gb G + r0)), (1, .int x1), (2, .int x2), (3, .int x3), (4, .int x4)] [] σ (f_X6_comes_5 n r0 x1 x2 x3 x4 σ) := by
  intro n
  induction n with
  | zero => intro r0 x1 x2 x3 x4 σ; exact Aw.no
  | succ n ih =>
    intro r0 x1 x2 x3 x4 σ
    rw [f_X6_comes_5]
    refine Aw.gd (fun hr0 => ?_)
    refine Aw.iload 4 rfl rfl dX6_comes_5 ?_
    refine Aw.aload_n 0 rfl rfl dX6_comes_7 ?_
    refine Aw.getR fl_X6_7 (Nat.le_of_ble_eq_true rfl) rfl hr0 rfl dX6_comes_8 ?_
    refine Aw.iconst (v := 0) ic_0 rfl dX6_comes_11 ?_
    refine Aw.iald (n := 336) (ft_6_0 hr0).1 (ft_6_0 hr0).2 rfl dX6_comes_12 (fun hb1 => ?_)
    refine Aw.icmp_ge (q := 16) (t := 63) rfl (by decide) dX6_comes_13 (fun hc => ?_) (fun hc => ?_)
    · refine Aw.iload_n 1 rfl rfl dX6_comes_63 ?_
      refine Aw.callSi (As := [.int x1]) (rest := []) cs_X6_52 (ct_X6_isSpot l G x1 σ) rfl rfl (Nat.le_of_ble_eq_true rfl) (Nat.le_of_ble_eq_true rfl) (Nat.le_of_ble_eq_true rfl) rfl dX6_comes_64 (fun a2 τ3 _ => ?_)
      refine Aw.if_eq (q := 70) (t := 83) rfl (by decide) dX6_comes_67 (fun hc => ?_) (fun hc => ?_)
      · refine Aw.bipush (v := (-2)) ib_m2 rfl dX6_comes_83 ?_
        exact Aw.iret rfl dX6_comes_85
      · refine Aw.iload_n 2 rfl rfl dX6_comes_70 ?_
        refine Aw.iconst (v := 0) ic_0 rfl dX6_comes_71 ?_
        refine Aw.iconst (v := 3) ic_3 rfl dX6_comes_72 ?_
        refine Aw.callSi (As := [.int x2, .int 0, .int 3]) (rest := []) cs_X6_48 (ct_X6_isIn l G x2 0 3 τ3) rfl rfl (Nat.le_of_ble_eq_true rfl) (Nat.le_of_ble_eq_true rfl) (Nat.le_of_ble_eq_true rfl) rfl dX6_comes_73 (fun a4 τ5 _ => ?_)
        refine Aw.if_eq (q := 79) (t := 83) rfl (by decide) dX6_comes_76 (fun hc => ?_) (fun hc => ?_)
        · refine Aw.bipush (v := (-2)) ib_m2 rfl dX6_comes_83 ?_
          exact Aw.iret rfl dX6_comes_85
        · refine Aw.iload_n 3 rfl rfl dX6_comes_79 ?_
          refine Aw.if_eq (q := 83) (t := 86) rfl (by decide) dX6_comes_80 (fun hc => ?_) (fun hc => ?_)
          · refine Aw.aload_n 0 rfl rfl dX6_comes_86 ?_
            refine Aw.getR fl_X6_7 (Nat.le_of_ble_eq_true rfl) rfl hr0 rfl dX6_comes_87 ?_
            refine Aw.iconst (v := 0) ic_0 rfl dX6_comes_90 ?_
            refine Aw.iald (n := 336) (ft_6_0 hr0).1 (ft_6_0 hr0).2 rfl dX6_comes_91 (fun hb6 => ?_)
            refine Aw.bipush (v := 8) ib_8 rfl dX6_comes_92 ?_
            refine Aw.icmp_ne (q := 97) (t := 100) rfl (by decide) dX6_comes_94 (fun hc => ?_) (fun hc => ?_)
            · refine Aw.bipush (v := (-4)) ib_m4 rfl dX6_comes_97 ?_
              exact Aw.iret rfl dX6_comes_99
            · refine Aw.iconst (v := 4) ic_4 rfl dX6_comes_100 ?_
              refine Aw.iconst (v := 4) ic_4 rfl dX6_comes_101 ?_
              refine Aw.aload_n 0 rfl rfl dX6_comes_102 ?_
              refine Aw.getR fl_X6_7 (Nat.le_of_ble_eq_true rfl) rfl hr0 rfl dX6_comes_103 ?_
              refine Aw.iconst (v := 0) ic_0 rfl dX6_comes_106 ?_
              refine Aw.iald (n := 336) (ft_6_0 hr0).1 (ft_6_0 hr0).2 rfl dX6_comes_107 (fun hb7 => ?_)
              refine Aw.imul rfl dX6_comes_108 ?_
              refine Aw.iadd rfl dX6_comes_109 ?_
              refine Aw.bi (fun b8 => ?_)
              refine Aw.istore (L' := [(4, .int b8), (0, .ref (Gb G + r0)), (1, .int x1), (2, .int x2), (3, .int x3)]) (Nat.le_of_ble_eq_true rfl) rfl rfl dX6_comes_110 ?_
              refine Aw.aload_n 1 rfl rfl dX6_comes_112 ?_
              refine Aw.getR fl_X6_7 (Nat.le_of_ble_eq_true rfl) rfl hr0 rfl dX6_comes_113 ?_
              refine Aw.iload 0 rfl rfl dX6_comes_116 ?_
              refine Aw.iload_n 2 rfl rfl dX6_comes_118 ?_
              refine Aw.iast (n := 336) (ft_6_0 hr0).1 (ft_6_0 hr0).2 rfl dX6_comes_119 (fun hb9 => ?_)
              refine Aw.bs (fun τ10 => ?_)
              refine Aw.aload_n 1 rfl rfl dX6_comes_120 ?_
              refine Aw.getR fl_X6_7 (Nat.le_of_ble_eq_true rfl) rfl hr0 rfl dX6_comes_121 ?_
              refine Aw.iload 0 rfl rfl dX6_comes_124 ?_
              refine Aw.iconst (v := 1) ic_1 rfl dX6_comes_126 ?_
              refine Aw.iadd rfl dX6_comes_127 ?_
              refine Aw.iload_n 3 rfl rfl dX6_comes_128 ?_
              refine Aw.iast (n := 336) (ft_6_0 hr0).1 (ft_6_0 hr0).2 rfl dX6_comes_129 (fun hb11 => ?_)
              refine Aw.bs (fun τ12 => ?_)
              refine Aw.aload_n 1 rfl rfl dX6_comes_130 ?_
              refine Aw.getR fl_X6_7 (Nat.le_of_ble_eq_true rfl) rfl hr0 rfl dX6_comes_131 ?_
              refine Aw.iload 0 rfl rfl dX6_comes_134 ?_
              refine Aw.iconst (v := 2) ic_2 rfl dX6_comes_136 ?_
              refine Aw.iadd rfl dX6_comes_137 ?_
              refine Aw.iload_n 2 rfl rfl dX6_comes_138 ?_
              refine Aw.iast (n := 336) (ft_6_0 hr0).1 (ft_6_0 hr0).2 rfl dX6_comes_139 (fun hb13 => ?_)
              refine Aw.bs (fun τ14 => ?_)
              refine Aw.aload_n 1 rfl rfl dX6_comes_140 ?_
              refine Aw.getR fl_X6_7 (Nat.le_of_ble_eq_true rfl) rfl hr0 rfl dX6_comes_141 ?_
              refine Aw.iload 0 rfl rfl dX6_comes_144 ?_
              refine Aw.iconst (v := 3) ic_3 rfl dX6_comes_146 ?_
              refine Aw.iadd rfl dX6_comes_147 ?_
              refine Aw.iload_n 3 rfl rfl dX6_comes_148 ?_
              refine Aw.iast (n := 336) (ft_6_0 hr0).1 (ft_6_0 hr0).2 rfl dX6_comes_149 (fun hb15 => ?_)
              refine Aw.bs (fun τ16 => ?_)
              refine Aw.aload_n 1 rfl rfl dX6_comes_150 ?_
              refine Aw.getR fl_X6_7 (Nat.le_of_ble_eq_true rfl) rfl hr0 rfl dX6_comes_151 ?_
              refine Aw.iconst (v := 0) ic_0 rfl dX6_comes_154 ?_
              refine Aw.dup2 rfl dX6_comes_155 ?_
              refine Aw.iald (n := 336) (ft_6_0 hr0).1 (ft_6_0 hr0).2 rfl dX6_comes_156 (fun hb17 => ?_)
              refine Aw.iconst (v := 1) ic_1 rfl dX6_comes_157 ?_
              refine Aw.iadd rfl dX6_comes_158 ?_
              refine Aw.iast (n := 336) (ft_6_0 hr0).1 (ft_6_0 hr0).2 rfl dX6_comes_159 (fun hb18 => ?_)
              refine Aw.bs (fun τ19 => ?_)
              refine Aw.aload_n 1 rfl rfl dX6_comes_160 ?_
              refine Aw.getR fl_X6_7 (Nat.le_of_ble_eq_true rfl) rfl hr0 rfl dX6_comes_161 ?_
              refine Aw.iconst (v := 0) ic_0 rfl dX6_comes_164 ?_
              refine Aw.iald (n := 336) (ft_6_0 hr0).1 (ft_6_0 hr0).2 rfl dX6_comes_165 (fun hb20 => ?_)
              refine Aw.iconst (v := 1) ic_1 rfl dX6_comes_166 ?_
              refine Aw.isub rfl dX6_comes_167 ?_
              exact Aw.iret rfl dX6_comes_168
          · refine Aw.bipush (v := (-2)) ib_m2 rfl dX6_comes_83 ?_
            exact Aw.iret rfl dX6_comes_85
    · refine Aw.iload_n 3 rfl rfl dX6_comes_16 ?_
      refine Aw.if_ne (q := 20) (t := 51) rfl (by decide) dX6_comes_17 (fun hc => ?_) (fun hc => ?_)
      · refine Aw.aload_n 0 rfl rfl dX6_comes_20 ?_
        refine Aw.getR fl_X6_7 (Nat.le_of_ble_eq_true rfl) rfl hr0 rfl dX6_comes_21 ?_
        refine Aw.iconst (v := 4) ic_4 rfl dX6_comes_24 ?_
        refine Aw.iconst (v := 4) ic_4 rfl dX6_comes_25 ?_
        refine Aw.iload 4 rfl rfl dX6_comes_26 ?_
        refine Aw.imul rfl dX6_comes_28 ?_
        refine Aw.iadd rfl dX6_comes_29 ?_
        refine Aw.iald (n := 336) (ft_6_0 hr0).1 (ft_6_0 hr0).2 rfl dX6_comes_30 (fun hb21 => ?_)
        refine Aw.iload_n 1 rfl rfl dX6_comes_31 ?_
        refine Aw.icmp_eq (q := 35) (t := 51) rfl (by decide) dX6_comes_32 (fun hc => ?_) (fun hc => ?_)
        · refine Aw.sub (L' := [(0, .ref (Gb G + r0)), (1, .int x1), (2, .int x2), (4, .int x4)]) [0, 1, 2, 4] rfl ?_
          exact aw_X6_comes_51 l G _ ih _ _ _ _ _
        · refine Aw.aload_n 0 rfl rfl dX6_comes_35 ?_
          refine Aw.getR fl_X6_7 (Nat.le_of_ble_eq_true rfl) rfl hr0 rfl dX6_comes_36 ?_
          refine Aw.bipush (v := 6) ib_6 rfl dX6_comes_39 ?_
          refine Aw.iconst (v := 4) ic_4 rfl dX6_comes_41 ?_
          refine Aw.iload 4 rfl rfl dX6_comes_42 ?_
          refine Aw.imul rfl dX6_comes_44 ?_
          refine Aw.iadd rfl dX6_comes_45 ?_
          refine Aw.iald (n := 336) (ft_6_0 hr0).1 (ft_6_0 hr0).2 rfl dX6_comes_46 (fun hb22 => ?_)
          refine Aw.iload_n 1 rfl rfl dX6_comes_47 ?_
          refine Aw.icmp_ne (q := 51) (t := 55) rfl (by decide) dX6_comes_48 (fun hc => ?_) (fun hc => ?_)
          · refine Aw.sub (L' := [(0, .ref (Gb G + r0)), (1, .int x1), (2, .int x2), (4, .int x4)]) [0, 1, 2, 4] rfl ?_
            exact aw_X6_comes_51 l G _ ih _ _ _ _ _
          · refine Aw.iconst (v := 0) ic_0 rfl dX6_comes_55 ?_
            refine Aw.sub (L' := [(0, .ref (Gb G + r0)), (1, .int x1), (2, .int x2), (4, .int x4)]) [0, 1, 2, 4] rfl ?_
            exact aw_X6_comes_56 l G _ ih _ _ _ _ _ _
      · refine Aw.sub (L' := [(0, .ref (Gb G + r0)), (1, .int x1), (2, .int x2), (4, .int x4)]) [0, 1, 2, 4] rfl ?_
        exact aw_X6_comes_51 l G _ ih _ _ _ _ _
set_option maxRecDepth 100000 in
set_option maxHeartbeats 4000000 in
theorem ct_X6_comes (l : Launch) (G : Gt) (r0 : Nat) (x1 : Int32) (x2 : Int32) (σ : Sg) : Ct l G yX6_comes MX6_comes rI [.ref (Gb G + r0), .int x1, .int x2] σ (f_X6_comes r0 x1 x2 σ) := by
  refine Ct.of (by decide +kernel) rfl (Nat.le_of_ble_eq_true rfl) ?_
  show Aw l G MX6_comes rI 0 [(0, .ref (Gb G + r0)), (1, .int x1), (2, .int x2)] [] σ _
  unfold f_X6_comes
  refine Aw.gd (fun hr0 => ?_)
  refine Aw.iconst (v := 0) ic_0 rfl dX6_comes_0 ?_
  refine Aw.istore_n (L' := [(3, .int 0), (0, .ref (Gb G + r0)), (1, .int x1), (2, .int x2)]) (Nat.le_of_ble_eq_true rfl) rfl rfl dX6_comes_1 ?_
  refine Aw.iconst (v := 0) ic_0 rfl dX6_comes_2 ?_
  refine Aw.istore (L' := [(4, .int 0), (3, .int 0), (0, .ref (Gb G + r0)), (1, .int x1), (2, .int x2)]) (Nat.le_of_ble_eq_true rfl) rfl rfl dX6_comes_3 ?_
  refine Aw.sub (L' := [(0, .ref (Gb G + r0)), (1, .int x1), (2, .int x2), (3, .int 0), (4, .int 0)]) [2, 3, 4, 1, 0] rfl ?_
  exact aw_X6_comes_5 l G FU _ _ _ _ _ _
abbrev MX6_adds : Mt := (RX6, cX6_adds, 2, (some .int), 2)
def f_X6_adds_16  : Nat → Nat → Int32 → Sg → Option (Int32 × Sg)
  | 0, _, _, _ => none
  | n + 1, r0, x1, σ => if kd r0 = 6 then (if 12 ≤ x1 then (if inb 1 336 then (if inb 1 336 then (bn (up σ (rf r0 0) (ix 1) ((σ (rf r0 0) (ix 1)) + 1)) (fun τ3 => if inb 1 336 then (some ((τ3 (rf r0 0) (ix 1)) - 1, τ3)) else none)) else none) else none) else (if inb 1 336 then (cb (f_X6_place r0 (σ (rf r0 0) (ix 1)) x1 0 σ) (fun a6 τ7 => if inb a6 336 then (bn (up τ7 (rf r0 0) (ix a6) x1) (fun τ9 => if inb 1 336 then (cb (f_X6_place r0 (τ9 (rf r0 0) (ix 1)) x1 1 τ9) (fun a11 τ12 => if inb a11 336 then (bn (up τ12 (rf r0 0) (ix a11) 0) (fun τ14 => if inb 1 336 then (cb (f_X6_place r0 (τ14 (rf r0 0) (ix 1)) x1 2 τ14) (fun a16 τ17 => if inb a16 336 then (bn (up τ17 (rf r0 0) (ix a16) 0) (fun τ19 => f_X6_adds_16 n r0 (x1 + 1) τ19)) else none)) else none)) else none)) else none)) else none)) else none)) else none
def f_X6_adds (r0 : Nat) (σ : Sg) : Option (Int32 × Sg) := if kd r0 = 6 then (if inb 1 336 then (if σ (rf r0 0) (ix 1) = 8 then (some ((-4), σ)) else (f_X6_adds_16 FU r0 0 σ)) else none) else none
theorem cv_X6_56 : CV RX6 56 6 yX6_place MX6_place 3 := ⟨_, rfl, rfl, ml_X6_56, ins_X6_place, sel_X6_place, ini_X6, cw_X6_place, ⟨by decide, by decide, by decide +kernel⟩⟩
set_option maxRecDepth 100000 in
set_option maxHeartbeats 4000000 in
theorem aw_X6_adds_16 (l : Launch) (G : Gt) : ∀ (n : Nat) (r0 : Nat) (x1 : Int32) (σ : Sg), Aw l G MX6_adds rI 16 [(0, .ref (Gb G + r0)), (1, .int x1)] [] σ (f_X6_adds_16 n r0 x1 σ) := by
  intro n
  induction n with
  | zero => intro r0 x1 σ; exact Aw.no
  | succ n ih =>
    intro r0 x1 σ
    rw [f_X6_adds_16]
    refine Aw.gd (fun hr0 => ?_)
    refine Aw.iload_n 1 rfl rfl dX6_adds_16 ?_
    refine Aw.bipush (v := 12) ib_12 rfl dX6_adds_17 ?_
    refine Aw.icmp_ge (q := 22) (t := 82) rfl (by decide) dX6_adds_19 (fun hc => ?_) (fun hc => ?_)
    · refine Aw.aload_n 0 rfl rfl dX6_adds_82 ?_
      refine Aw.getR fl_X6_7 (Nat.le_of_ble_eq_true rfl) rfl hr0 rfl dX6_adds_83 ?_
      refine Aw.iconst (v := 1) ic_1 rfl dX6_adds_86 ?_
      refine Aw.dup2 rfl dX6_adds_87 ?_
      refine Aw.iald (n := 336) (ft_6_0 hr0).1 (ft_6_0 hr0).2 rfl dX6_adds_88 (fun hb1 => ?_)
      refine Aw.iconst (v := 1) ic_1 rfl dX6_adds_89 ?_
      refine Aw.iadd rfl dX6_adds_90 ?_
      refine Aw.iast (n := 336) (ft_6_0 hr0).1 (ft_6_0 hr0).2 rfl dX6_adds_91 (fun hb2 => ?_)
      refine Aw.bs (fun τ3 => ?_)
      refine Aw.aload_n 0 rfl rfl dX6_adds_92 ?_
      refine Aw.getR fl_X6_7 (Nat.le_of_ble_eq_true rfl) rfl hr0 rfl dX6_adds_93 ?_
      refine Aw.iconst (v := 1) ic_1 rfl dX6_adds_96 ?_
      refine Aw.iald (n := 336) (ft_6_0 hr0).1 (ft_6_0 hr0).2 rfl dX6_adds_97 (fun hb4 => ?_)
      refine Aw.iconst (v := 1) ic_1 rfl dX6_adds_98 ?_
      refine Aw.isub rfl dX6_adds_99 ?_
      exact Aw.iret rfl dX6_adds_100
    · refine Aw.aload_n 0 rfl rfl dX6_adds_22 ?_
      refine Aw.getR fl_X6_7 (Nat.le_of_ble_eq_true rfl) rfl hr0 rfl dX6_adds_23 ?_
      refine Aw.aload_n 0 rfl rfl dX6_adds_26 ?_
      refine Aw.aload_n 0 rfl rfl dX6_adds_27 ?_
      refine Aw.getR fl_X6_7 (Nat.le_of_ble_eq_true rfl) rfl hr0 rfl dX6_adds_28 ?_
      refine Aw.iconst (v := 1) ic_1 rfl dX6_adds_31 ?_
      refine Aw.iald (n := 336) (ft_6_0 hr0).1 (ft_6_0 hr0).2 rfl dX6_adds_32 (fun hb5 => ?_)
      refine Aw.iload_n 1 rfl rfl dX6_adds_33 ?_
      refine Aw.iconst (v := 0) ic_0 rfl dX6_adds_34 ?_
      refine Aw.callVi (As := [.int (σ (rf r0 0) (ix 1)), .int x1, .int 0]) (rest := [.ref (Gb G + rf r0 0)]) cv_X6_56 (Nat.le_of_ble_eq_true rfl) hr0 (ct_X6_place l G r0 (σ (rf r0 0) (ix 1)) x1 0 σ) rfl rfl (Nat.le_of_ble_eq_true rfl) (Nat.le_of_ble_eq_true rfl) (Nat.le_of_ble_eq_true rfl) rfl dX6_adds_35 (fun a6 τ7 _ => ?_)
      refine Aw.iload_n 1 rfl rfl dX6_adds_38 ?_
      refine Aw.iast (n := 336) (ft_6_0 hr0).1 (ft_6_0 hr0).2 rfl dX6_adds_39 (fun hb8 => ?_)
      refine Aw.bs (fun τ9 => ?_)
      refine Aw.aload_n 0 rfl rfl dX6_adds_40 ?_
      refine Aw.getR fl_X6_7 (Nat.le_of_ble_eq_true rfl) rfl hr0 rfl dX6_adds_41 ?_
      refine Aw.aload_n 0 rfl rfl dX6_adds_44 ?_
      refine Aw.aload_n 0 rfl rfl dX6_adds_45 ?_
      refine Aw.getR fl_X6_7 (Nat.le_of_ble_eq_true rfl) rfl hr0 rfl dX6_adds_46 ?_
      refine Aw.iconst (v := 1) ic_1 rfl dX6_adds_49 ?_
      refine Aw.iald (n := 336) (ft_6_0 hr0).1 (ft_6_0 hr0).2 rfl dX6_adds_50 (fun hb10 => ?_)
      refine Aw.iload_n 1 rfl rfl dX6_adds_51 ?_
      refine Aw.iconst (v := 1) ic_1 rfl dX6_adds_52 ?_
      refine Aw.callVi (As := [.int (τ9 (rf r0 0) (ix 1)), .int x1, .int 1]) (rest := [.ref (Gb G + rf r0 0)]) cv_X6_56 (Nat.le_of_ble_eq_true rfl) hr0 (ct_X6_place l G r0 (τ9 (rf r0 0) (ix 1)) x1 1 τ9) rfl rfl (Nat.le_of_ble_eq_true rfl) (Nat.le_of_ble_eq_true rfl) (Nat.le_of_ble_eq_true rfl) rfl dX6_adds_53 (fun a11 τ12 _ => ?_)
      refine Aw.iconst (v := 0) ic_0 rfl dX6_adds_56 ?_
      refine Aw.iast (n := 336) (ft_6_0 hr0).1 (ft_6_0 hr0).2 rfl dX6_adds_57 (fun hb13 => ?_)
      refine Aw.bs (fun τ14 => ?_)
      refine Aw.aload_n 0 rfl rfl dX6_adds_58 ?_
      refine Aw.getR fl_X6_7 (Nat.le_of_ble_eq_true rfl) rfl hr0 rfl dX6_adds_59 ?_
      refine Aw.aload_n 0 rfl rfl dX6_adds_62 ?_
      refine Aw.aload_n 0 rfl rfl dX6_adds_63 ?_
      refine Aw.getR fl_X6_7 (Nat.le_of_ble_eq_true rfl) rfl hr0 rfl dX6_adds_64 ?_
      refine Aw.iconst (v := 1) ic_1 rfl dX6_adds_67 ?_
      refine Aw.iald (n := 336) (ft_6_0 hr0).1 (ft_6_0 hr0).2 rfl dX6_adds_68 (fun hb15 => ?_)
      refine Aw.iload_n 1 rfl rfl dX6_adds_69 ?_
      refine Aw.iconst (v := 2) ic_2 rfl dX6_adds_70 ?_
      refine Aw.callVi (As := [.int (τ14 (rf r0 0) (ix 1)), .int x1, .int 2]) (rest := [.ref (Gb G + rf r0 0)]) cv_X6_56 (Nat.le_of_ble_eq_true rfl) hr0 (ct_X6_place l G r0 (τ14 (rf r0 0) (ix 1)) x1 2 τ14) rfl rfl (Nat.le_of_ble_eq_true rfl) (Nat.le_of_ble_eq_true rfl) (Nat.le_of_ble_eq_true rfl) rfl dX6_adds_71 (fun a16 τ17 _ => ?_)
      refine Aw.iconst (v := 0) ic_0 rfl dX6_adds_74 ?_
      refine Aw.iast (n := 336) (ft_6_0 hr0).1 (ft_6_0 hr0).2 rfl dX6_adds_75 (fun hb18 => ?_)
      refine Aw.bs (fun τ19 => ?_)
      refine Aw.iinc (v := x1 + 1) (L' := [(1, .int (x1 + 1)), (0, .ref (Gb G + r0))]) 1 rfl (ii_1 _) (Nat.le_of_ble_eq_true rfl) rfl rfl dX6_adds_76 ?_
      refine Aw.goto (q := 16) (by decide) dX6_adds_79 ?_
      refine Aw.sub (L' := [(0, .ref (Gb G + r0)), (1, .int (x1 + 1))]) [1, 0] rfl ?_
      exact ih _ _ _
set_option maxRecDepth 100000 in
set_option maxHeartbeats 4000000 in
theorem ct_X6_adds (l : Launch) (G : Gt) (r0 : Nat) (σ : Sg) : Ct l G yX6_adds MX6_adds rI [.ref (Gb G + r0)] σ (f_X6_adds r0 σ) := by
  refine Ct.of (by decide +kernel) rfl (Nat.le_of_ble_eq_true rfl) ?_
  show Aw l G MX6_adds rI 0 [(0, .ref (Gb G + r0))] [] σ _
  unfold f_X6_adds
  refine Aw.gd (fun hr0 => ?_)
  refine Aw.aload_n 0 rfl rfl dX6_adds_0 ?_
  refine Aw.getR fl_X6_7 (Nat.le_of_ble_eq_true rfl) rfl hr0 rfl dX6_adds_1 ?_
  refine Aw.iconst (v := 1) ic_1 rfl dX6_adds_4 ?_
  refine Aw.iald (n := 336) (ft_6_0 hr0).1 (ft_6_0 hr0).2 rfl dX6_adds_5 (fun hb1 => ?_)
  refine Aw.bipush (v := 8) ib_8 rfl dX6_adds_6 ?_
  refine Aw.icmp_ne (q := 11) (t := 14) rfl (by decide) dX6_adds_8 (fun hc => ?_) (fun hc => ?_)
  · refine Aw.bipush (v := (-4)) ib_m4 rfl dX6_adds_11 ?_
    exact Aw.iret rfl dX6_adds_13
  · refine Aw.iconst (v := 0) ic_0 rfl dX6_adds_14 ?_
    refine Aw.istore_n (L' := [(1, .int 0), (0, .ref (Gb G + r0))]) (Nat.le_of_ble_eq_true rfl) rfl rfl dX6_adds_15 ?_
    refine Aw.sub (L' := [(0, .ref (Gb G + r0)), (1, .int 0)]) [1, 0] rfl ?_
    exact aw_X6_adds_16 l G FU _ _ _
abbrev MX6_setsAt : Mt := (RX6, cX6_setsAt, 6, (some .int), 3)
def f_X6_setsAt (r0 : Nat) (x1 : Int32) (x2 : Int32) (x3 : Int32) (x4 : Int32) (σ : Sg) : Option (Int32 × Sg) := if kd r0 = 6 then (cb (f_X6_isCall r0 x1 σ) (fun a1 τ2 => if a1 = 0 then (some ((-2), τ2)) else (cb (f_X6_isSpot x2 τ2) (fun a3 τ4 => if a3 = 0 then (some ((-2), τ4)) else (cb (f_X6_isIn x4 0 (4 - x3) τ4) (fun a5 τ6 => if a5 = 0 then (some ((-2), τ6)) else (cb (f_X6_place r0 x1 x2 x3 τ6) (fun a7 τ8 => if inb a7 336 then (bn (τ8 (rf r0 0) (ix a7)) (fun b10 => cb (f_X6_place r0 x1 x2 x3 τ8) (fun a11 τ12 => if inb a11 336 then (bn (up τ12 (rf r0 0) (ix a11) x4) (fun τ14 => some (b10, τ14))) else none))) else none)))))))) else none
theorem cv_X6_60 : CV RX6 60 6 yX6_isCall MX6_isCall 1 := ⟨_, rfl, rfl, ml_X6_60, ins_X6_isCall, sel_X6_isCall, ini_X6, cw_X6_isCall, ⟨by decide, by decide, by decide +kernel⟩⟩
set_option maxRecDepth 100000 in
set_option maxHeartbeats 4000000 in
theorem ct_X6_setsAt (l : Launch) (G : Gt) (r0 : Nat) (x1 : Int32) (x2 : Int32) (x3 : Int32) (x4 : Int32) (σ : Sg) : Ct l G yX6_setsAt MX6_setsAt rI [.ref (Gb G + r0), .int x1, .int x2, .int x3, .int x4] σ (f_X6_setsAt r0 x1 x2 x3 x4 σ) := by
  refine Ct.of (by decide +kernel) rfl (Nat.le_of_ble_eq_true rfl) ?_
  show Aw l G MX6_setsAt rI 0 [(0, .ref (Gb G + r0)), (1, .int x1), (2, .int x2), (3, .int x3), (4, .int x4)] [] σ _
  unfold f_X6_setsAt
  refine Aw.gd (fun hr0 => ?_)
  refine Aw.aload_n 0 rfl rfl dX6_setsAt_0 ?_
  refine Aw.iload_n 1 rfl rfl dX6_setsAt_1 ?_
  refine Aw.callVi (As := [.int x1]) (rest := []) cv_X6_60 (Nat.le_of_ble_eq_true rfl) hr0 (ct_X6_isCall l G r0 x1 σ) rfl rfl (Nat.le_of_ble_eq_true rfl) (Nat.le_of_ble_eq_true rfl) (Nat.le_of_ble_eq_true rfl) rfl dX6_setsAt_2 (fun a1 τ2 _ => ?_)
  refine Aw.if_eq (q := 8) (t := 27) rfl (by decide) dX6_setsAt_5 (fun hc => ?_) (fun hc => ?_)
  · refine Aw.bipush (v := (-2)) ib_m2 rfl dX6_setsAt_27 ?_
    exact Aw.iret rfl dX6_setsAt_29
  · refine Aw.iload_n 2 rfl rfl dX6_setsAt_8 ?_
    refine Aw.callSi (As := [.int x2]) (rest := []) cs_X6_52 (ct_X6_isSpot l G x2 τ2) rfl rfl (Nat.le_of_ble_eq_true rfl) (Nat.le_of_ble_eq_true rfl) (Nat.le_of_ble_eq_true rfl) rfl dX6_setsAt_9 (fun a3 τ4 _ => ?_)
    refine Aw.if_eq (q := 15) (t := 27) rfl (by decide) dX6_setsAt_12 (fun hc => ?_) (fun hc => ?_)
    · refine Aw.bipush (v := (-2)) ib_m2 rfl dX6_setsAt_27 ?_
      exact Aw.iret rfl dX6_setsAt_29
    · refine Aw.iload 4 rfl rfl dX6_setsAt_15 ?_
      refine Aw.iconst (v := 0) ic_0 rfl dX6_setsAt_17 ?_
      refine Aw.iconst (v := 4) ic_4 rfl dX6_setsAt_18 ?_
      refine Aw.iload_n 3 rfl rfl dX6_setsAt_19 ?_
      refine Aw.isub rfl dX6_setsAt_20 ?_
      refine Aw.callSi (As := [.int x4, .int 0, .int (4 - x3)]) (rest := []) cs_X6_48 (ct_X6_isIn l G x4 0 (4 - x3) τ4) rfl rfl (Nat.le_of_ble_eq_true rfl) (Nat.le_of_ble_eq_true rfl) (Nat.le_of_ble_eq_true rfl) rfl dX6_setsAt_21 (fun a5 τ6 _ => ?_)
      refine Aw.if_ne (q := 27) (t := 30) rfl (by decide) dX6_setsAt_24 (fun hc => ?_) (fun hc => ?_)
      · refine Aw.bipush (v := (-2)) ib_m2 rfl dX6_setsAt_27 ?_
        exact Aw.iret rfl dX6_setsAt_29
      · refine Aw.aload_n 0 rfl rfl dX6_setsAt_30 ?_
        refine Aw.getR fl_X6_7 (Nat.le_of_ble_eq_true rfl) rfl hr0 rfl dX6_setsAt_31 ?_
        refine Aw.aload_n 0 rfl rfl dX6_setsAt_34 ?_
        refine Aw.iload_n 1 rfl rfl dX6_setsAt_35 ?_
        refine Aw.iload_n 2 rfl rfl dX6_setsAt_36 ?_
        refine Aw.iload_n 3 rfl rfl dX6_setsAt_37 ?_
        refine Aw.callVi (As := [.int x1, .int x2, .int x3]) (rest := [.ref (Gb G + rf r0 0)]) cv_X6_56 (Nat.le_of_ble_eq_true rfl) hr0 (ct_X6_place l G r0 x1 x2 x3 τ6) rfl rfl (Nat.le_of_ble_eq_true rfl) (Nat.le_of_ble_eq_true rfl) (Nat.le_of_ble_eq_true rfl) rfl dX6_setsAt_38 (fun a7 τ8 _ => ?_)
        refine Aw.iald (n := 336) (ft_6_0 hr0).1 (ft_6_0 hr0).2 rfl dX6_setsAt_41 (fun hb9 => ?_)
        refine Aw.bi (fun b10 => ?_)
        refine Aw.istore (L' := [(5, .int b10), (0, .ref (Gb G + r0)), (1, .int x1), (2, .int x2), (3, .int x3), (4, .int x4)]) (Nat.le_of_ble_eq_true rfl) rfl rfl dX6_setsAt_42 ?_
        refine Aw.aload_n 1 rfl rfl dX6_setsAt_44 ?_
        refine Aw.getR fl_X6_7 (Nat.le_of_ble_eq_true rfl) rfl hr0 rfl dX6_setsAt_45 ?_
        refine Aw.aload_n 1 rfl rfl dX6_setsAt_48 ?_
        refine Aw.iload_n 2 rfl rfl dX6_setsAt_49 ?_
        refine Aw.iload_n 3 rfl rfl dX6_setsAt_50 ?_
        refine Aw.iload_n 4 rfl rfl dX6_setsAt_51 ?_
        refine Aw.callVi (As := [.int x1, .int x2, .int x3]) (rest := [.ref (Gb G + rf r0 0)]) cv_X6_56 (Nat.le_of_ble_eq_true rfl) hr0 (ct_X6_place l G r0 x1 x2 x3 τ8) rfl rfl (Nat.le_of_ble_eq_true rfl) (Nat.le_of_ble_eq_true rfl) (Nat.le_of_ble_eq_true rfl) rfl dX6_setsAt_52 (fun a11 τ12 _ => ?_)
        refine Aw.iload 5 rfl rfl dX6_setsAt_55 ?_
        refine Aw.iast (n := 336) (ft_6_0 hr0).1 (ft_6_0 hr0).2 rfl dX6_setsAt_57 (fun hb13 => ?_)
        refine Aw.bs (fun τ14 => ?_)
        refine Aw.iload 0 rfl rfl dX6_setsAt_58 ?_
        exact Aw.iret rfl dX6_setsAt_60
abbrev MX6_fits : Mt := (RX6, cX6_fits, 5, (some .boolean), 2)
def f_X6_fits_65 (rc4 : Nat → Int32 → Int32 → Int32 → Sg → Option (Int32 × Sg)) (r0 : Nat) (x1 : Int32) (x3 : Int32) (s0 : Int32) (σ : Sg) : Option (Int32 × Sg) := if kd r0 = 6 then (rc4 r0 x1 s0 (x3 + 1) σ) else none
def f_X6_fits_60 (rc4 : Nat → Int32 → Int32 → Int32 → Sg → Option (Int32 × Sg)) (r0 : Nat) (x1 : Int32) (x3 : Int32) (σ : Sg) : Option (Int32 × Sg) := if kd r0 = 6 then (f_X6_fits_65 rc4 r0 x1 x3 1 σ) else none
def f_X6_fits_64 (rc4 : Nat → Int32 → Int32 → Int32 → Sg → Option (Int32 × Sg)) (r0 : Nat) (x1 : Int32) (x3 : Int32) (σ : Sg) : Option (Int32 × Sg) := if kd r0 = 6 then (f_X6_fits_65 rc4 r0 x1 x3 0 σ) else none
def f_X6_fits_57 (rc4 : Nat → Int32 → Int32 → Int32 → Sg → Option (Int32 × Sg)) (r0 : Nat) (x1 : Int32) (x3 : Int32) (s0 : Int32) (s1 : Int32) (σ : Sg) : Option (Int32 × Sg) := if kd r0 = 6 then (if s0 = s1 then (f_X6_fits_60 rc4 r0 x1 x3 σ) else (f_X6_fits_64 rc4 r0 x1 x3 σ)) else none
def f_X6_fits_44 (rc4 : Nat → Int32 → Int32 → Int32 → Sg → Option (Int32 × Sg)) (r0 : Nat) (x1 : Int32) (x3 : Int32) (s0 : Int32) (σ : Sg) : Option (Int32 × Sg) := if kd r0 = 6 then (cb (f_X6_who r0 x3 σ) (fun a1 τ2 => if a1 < 0 then (f_X6_fits_57 rc4 r0 x1 x3 s0 0 τ2) else (f_X6_fits_57 rc4 r0 x1 x3 s0 1 τ2))) else none
def f_X6_fits_4  : Nat → Nat → Int32 → Int32 → Int32 → Sg → Option (Int32 × Sg)
  | 0, _, _, _, _, _ => none
  | n + 1, r0, x1, x2, x3, σ => if kd r0 = 6 then (if 12 ≤ x3 then (if x2 = 0 ∨ x2 = 1 then some (x2, σ) else none) else (cb (f_X6_place r0 x1 x3 2 σ) (fun a1 τ2 => if inb a1 336 then (bn (τ2 (rf r0 0) (ix a1)) (fun b4 => if x2 = 0 then (f_X6_fits_64 (f_X6_fits_4 n) r0 x1 x3 τ2) else (if b4 = 0 then (f_X6_fits_60 (f_X6_fits_4 n) r0 x1 x3 τ2) else (if b4 = 1 then (f_X6_fits_44 (f_X6_fits_4 n) r0 x1 x3 1 τ2) else (f_X6_fits_44 (f_X6_fits_4 n) r0 x1 x3 0 τ2))))) else none))) else none
def f_X6_fits (r0 : Nat) (x1 : Int32) (σ : Sg) : Option (Int32 × Sg) := if kd r0 = 6 then (f_X6_fits_4 FU r0 x1 1 0 σ) else none
theorem cv_X6_63 : CV RX6 63 6 yX6_who MX6_who 1 := ⟨_, rfl, rfl, ml_X6_63, ins_X6_who, sel_X6_who, ini_X6, cw_X6_who, ⟨by decide, by decide, by decide +kernel⟩⟩
set_option maxRecDepth 100000 in
set_option maxHeartbeats 4000000 in
theorem aw_X6_fits_65 (l : Launch) (G : Gt) (rc4 : Nat → Int32 → Int32 → Int32 → Sg → Option (Int32 × Sg)) (hrc4 : ∀ (r0 : Nat) (x1 : Int32) (x2 : Int32) (x3 : Int32) (σ : Sg), Aw l G MX6_fits rI 4 [(0, .ref (Gb G + r0)), (1, .int x1), (2, .int x2), (3, .int x3)] [] σ (rc4 r0 x1 x2 x3 σ)) (r0 : Nat) (x1 : Int32) (x3 : Int32) (s0 : Int32) (σ : Sg) : Aw l G MX6_fits rI 65 [(0, .ref (Gb G + r0)), (1, .int x1), (3, .int x3)] [.int s0] σ (f_X6_fits_65 rc4 r0 x1 x3 s0 σ) := by
  unfold f_X6_fits_65
  refine Aw.gd (fun hr0 => ?_)
  refine Aw.istore_n (L' := [(2, .int s0), (0, .ref (Gb G + r0)), (1, .int x1), (3, .int x3)]) (Nat.le_of_ble_eq_true rfl) rfl rfl dX6_fits_65 ?_
  refine Aw.iinc (v := x3 + 1) (L' := [(3, .int (x3 + 1)), (2, .int s0), (0, .ref (Gb G + r0)), (1, .int x1)]) 3 rfl (ii_1 _) (Nat.le_of_ble_eq_true rfl) rfl rfl dX6_fits_66 ?_
  refine Aw.goto (q := 4) (by decide) dX6_fits_69 ?_
  refine Aw.sub (L' := [(0, .ref (Gb G + r0)), (1, .int x1), (2, .int s0), (3, .int (x3 + 1))]) [2, 3, 1, 0] rfl ?_
  exact hrc4 _ _ _ _ _
set_option maxRecDepth 100000 in
set_option maxHeartbeats 4000000 in
theorem aw_X6_fits_60 (l : Launch) (G : Gt) (rc4 : Nat → Int32 → Int32 → Int32 → Sg → Option (Int32 × Sg)) (hrc4 : ∀ (r0 : Nat) (x1 : Int32) (x2 : Int32) (x3 : Int32) (σ : Sg), Aw l G MX6_fits rI 4 [(0, .ref (Gb G + r0)), (1, .int x1), (2, .int x2), (3, .int x3)] [] σ (rc4 r0 x1 x2 x3 σ)) (r0 : Nat) (x1 : Int32) (x3 : Int32) (σ : Sg) : Aw l G MX6_fits rI 60 [(0, .ref (Gb G + r0)), (1, .int x1), (3, .int x3)] [] σ (f_X6_fits_60 rc4 r0 x1 x3 σ) := by
  unfold f_X6_fits_60
  refine Aw.gd (fun hr0 => ?_)
  refine Aw.iconst (v := 1) ic_1 rfl dX6_fits_60 ?_
  refine Aw.goto (q := 65) (by decide) dX6_fits_61 ?_
  refine Aw.sub (L' := [(0, .ref (Gb G + r0)), (1, .int x1), (3, .int x3)]) [0, 1, 2] rfl ?_
  exact aw_X6_fits_65 l G _ hrc4 _ _ _ _ _
set_option maxRecDepth 100000 in
set_option maxHeartbeats 4000000 in
theorem aw_X6_fits_64 (l : Launch) (G : Gt) (rc4 : Nat → Int32 → Int32 → Int32 → Sg → Option (Int32 × Sg)) (hrc4 : ∀ (r0 : Nat) (x1 : Int32) (x2 : Int32) (x3 : Int32) (σ : Sg), Aw l G MX6_fits rI 4 [(0, .ref (Gb G + r0)), (1, .int x1), (2, .int x2), (3, .int x3)] [] σ (rc4 r0 x1 x2 x3 σ)) (r0 : Nat) (x1 : Int32) (x3 : Int32) (σ : Sg) : Aw l G MX6_fits rI 64 [(0, .ref (Gb G + r0)), (1, .int x1), (3, .int x3)] [] σ (f_X6_fits_64 rc4 r0 x1 x3 σ) := by
  unfold f_X6_fits_64
  refine Aw.gd (fun hr0 => ?_)
  refine Aw.iconst (v := 0) ic_0 rfl dX6_fits_64 ?_
  refine Aw.sub (L' := [(0, .ref (Gb G + r0)), (1, .int x1), (3, .int x3)]) [0, 1, 2] rfl ?_
  exact aw_X6_fits_65 l G _ hrc4 _ _ _ _ _
set_option maxRecDepth 100000 in
set_option maxHeartbeats 4000000 in
theorem aw_X6_fits_57 (l : Launch) (G : Gt) (rc4 : Nat → Int32 → Int32 → Int32 → Sg → Option (Int32 × Sg)) (hrc4 : ∀ (r0 : Nat) (x1 : Int32) (x2 : Int32) (x3 : Int32) (σ : Sg), Aw l G MX6_fits rI 4 [(0, .ref (Gb G + r0)), (1, .int x1), (2, .int x2), (3, .int x3)] [] σ (rc4 r0 x1 x2 x3 σ)) (r0 : Nat) (x1 : Int32) (x3 : Int32) (s0 : Int32) (s1 : Int32) (σ : Sg) : Aw l G MX6_fits rI 57 [(0, .ref (Gb G + r0)), (1, .int x1), (3, .int x3)] [.int s1, .int s0] σ (f_X6_fits_57 rc4 r0 x1 x3 s0 s1 σ) := by
  unfold f_X6_fits_57
  refine Aw.gd (fun hr0 => ?_)
  refine Aw.icmp_ne (q := 60) (t := 64) rfl (by decide) dX6_fits_57 (fun hc => ?_) (fun hc => ?_)
  · refine Aw.sub (L' := [(0, .ref (Gb G + r0)), (1, .int x1), (3, .int x3)]) [0, 1, 2] rfl ?_
    exact aw_X6_fits_60 l G _ hrc4 _ _ _ _
  · refine Aw.sub (L' := [(0, .ref (Gb G + r0)), (1, .int x1), (3, .int x3)]) [0, 1, 2] rfl ?_
    exact aw_X6_fits_64 l G _ hrc4 _ _ _ _
set_option maxRecDepth 100000 in
set_option maxHeartbeats 4000000 in
theorem aw_X6_fits_44 (l : Launch) (G : Gt) (rc4 : Nat → Int32 → Int32 → Int32 → Sg → Option (Int32 × Sg)) (hrc4 : ∀ (r0 : Nat) (x1 : Int32) (x2 : Int32) (x3 : Int32) (σ : Sg), Aw l G MX6_fits rI 4 [(0, .ref (Gb G + r0)), (1, .int x1), (2, .int x2), (3, .int x3)] [] σ (rc4 r0 x1 x2 x3 σ)) (r0 : Nat) (x1 : Int32) (x3 : Int32) (s0 : Int32) (σ : Sg) : Aw l G MX6_fits rI 44 [(0, .ref (Gb G + r0)), (1, .int x1), (3, .int x3)] [.int s0] σ (f_X6_fits_44 rc4 r0 x1 x3 s0 σ) := by
  unfold f_X6_fits_44
  refine Aw.gd (fun hr0 => ?_)
  refine Aw.aload_n 0 rfl rfl dX6_fits_44 ?_
  refine Aw.iload_n 2 rfl rfl dX6_fits_45 ?_
  refine Aw.callVi (As := [.int x3]) (rest := [.int s0]) cv_X6_63 (Nat.le_of_ble_eq_true rfl) hr0 (ct_X6_who l G r0 x3 σ) rfl rfl (Nat.le_of_ble_eq_true rfl) (Nat.le_of_ble_eq_true rfl) (Nat.le_of_ble_eq_true rfl) rfl dX6_fits_46 (fun a1 τ2 _ => ?_)
  refine Aw.if_lt (q := 52) (t := 56) rfl (by decide) dX6_fits_49 (fun hc => ?_) (fun hc => ?_)
  · refine Aw.iconst (v := 0) ic_0 rfl dX6_fits_56 ?_
    refine Aw.sub (L' := [(0, .ref (Gb G + r0)), (1, .int x1), (3, .int x3)]) [0, 1, 2] rfl ?_
    exact aw_X6_fits_57 l G _ hrc4 _ _ _ _ _ _
  · refine Aw.iconst (v := 1) ic_1 rfl dX6_fits_52 ?_
    refine Aw.goto (q := 57) (by decide) dX6_fits_53 ?_
    refine Aw.sub (L' := [(0, .ref (Gb G + r0)), (1, .int x1), (3, .int x3)]) [0, 1, 2] rfl ?_
    exact aw_X6_fits_57 l G _ hrc4 _ _ _ _ _ _
set_option maxRecDepth 100000 in
set_option maxHeartbeats 4000000 in
theorem aw_X6_fits_4 (l : Launch) (G : Gt) : ∀ (n : Nat) (r0 : Nat) (x1 : Int32) (x2 : Int32) (x3 : Int32) (σ : Sg), Aw l G MX6_fits rI 4 [(0, .ref (Gb G + r0)), (1, .int x1), (2, .int x2), (3, .int x3)] [] σ (f_X6_fits_4 n r0 x1 x2 x3 σ) := by
  intro n
  induction n with
  | zero => intro r0 x1 x2 x3 σ; exact Aw.no
  | succ n ih =>
    intro r0 x1 x2 x3 σ
    rw [f_X6_fits_4]
    refine Aw.gd (fun hr0 => ?_)
    refine Aw.iload_n 3 rfl rfl dX6_fits_4 ?_
    refine Aw.bipush (v := 12) ib_12 rfl dX6_fits_5 ?_
    refine Aw.icmp_ge (q := 10) (t := 72) rfl (by decide) dX6_fits_7 (fun hc => ?_) (fun hc => ?_)
    · refine Aw.iload_n 2 rfl rfl dX6_fits_72 ?_
      exact Aw.zretG rfl dX6_fits_73
    · refine Aw.aload_n 0 rfl rfl dX6_fits_10 ?_
      refine Aw.getR fl_X6_7 (Nat.le_of_ble_eq_true rfl) rfl hr0 rfl dX6_fits_11 ?_
      refine Aw.aload_n 0 rfl rfl dX6_fits_14 ?_
      refine Aw.iload_n 1 rfl rfl dX6_fits_15 ?_
      refine Aw.iload_n 3 rfl rfl dX6_fits_16 ?_
      refine Aw.iconst (v := 2) ic_2 rfl dX6_fits_17 ?_
      refine Aw.callVi (As := [.int x1, .int x3, .int 2]) (rest := [.ref (Gb G + rf r0 0)]) cv_X6_56 (Nat.le_of_ble_eq_true rfl) hr0 (ct_X6_place l G r0 x1 x3 2 σ) rfl rfl (Nat.le_of_ble_eq_true rfl) (Nat.le_of_ble_eq_true rfl) (Nat.le_of_ble_eq_true rfl) rfl dX6_fits_18 (fun a1 τ2 _ => ?_)
      refine Aw.iald (n := 336) (ft_6_0 hr0).1 (ft_6_0 hr0).2 rfl dX6_fits_21 (fun hb3 => ?_)
      refine Aw.bi (fun b4 => ?_)
      refine Aw.istore (L' := [(4, .int b4), (0, .ref (Gb G + r0)), (1, .int x1), (2, .int x2), (3, .int x3)]) (Nat.le_of_ble_eq_true rfl) rfl rfl dX6_fits_22 ?_
      refine Aw.iload_n 3 rfl rfl dX6_fits_24 ?_
      refine Aw.if_eq (q := 28) (t := 64) rfl (by decide) dX6_fits_25 (fun hc => ?_) (fun hc => ?_)
      · refine Aw.sub (L' := [(0, .ref (Gb G + r0)), (1, .int x1), (3, .int x3)]) [1, 2, 4] rfl ?_
        exact aw_X6_fits_64 l G _ ih _ _ _ _
      · refine Aw.iload 0 rfl rfl dX6_fits_28 ?_
        refine Aw.if_eq (q := 33) (t := 60) rfl (by decide) dX6_fits_30 (fun hc => ?_) (fun hc => ?_)
        · refine Aw.sub (L' := [(0, .ref (Gb G + r0)), (1, .int x1), (3, .int x3)]) [1, 2, 4] rfl ?_
          exact aw_X6_fits_60 l G _ ih _ _ _ _
        · refine Aw.iload 0 rfl rfl dX6_fits_33 ?_
          refine Aw.iconst (v := 1) ic_1 rfl dX6_fits_35 ?_
          refine Aw.icmp_ne (q := 39) (t := 43) rfl (by decide) dX6_fits_36 (fun hc => ?_) (fun hc => ?_)
          · refine Aw.iconst (v := 1) ic_1 rfl dX6_fits_39 ?_
            refine Aw.goto (q := 44) (by decide) dX6_fits_40 ?_
            refine Aw.sub (L' := [(0, .ref (Gb G + r0)), (1, .int x1), (3, .int x3)]) [1, 2, 4] rfl ?_
            exact aw_X6_fits_44 l G _ ih _ _ _ _ _
          · refine Aw.iconst (v := 0) ic_0 rfl dX6_fits_43 ?_
            refine Aw.sub (L' := [(0, .ref (Gb G + r0)), (1, .int x1), (3, .int x3)]) [1, 2, 4] rfl ?_
            exact aw_X6_fits_44 l G _ ih _ _ _ _ _
set_option maxRecDepth 100000 in
set_option maxHeartbeats 4000000 in
theorem ct_X6_fits (l : Launch) (G : Gt) (r0 : Nat) (x1 : Int32) (σ : Sg) : Ct l G yX6_fits MX6_fits rI [.ref (Gb G + r0), .int x1] σ (f_X6_fits r0 x1 σ) := by
  refine Ct.of (by decide +kernel) rfl (Nat.le_of_ble_eq_true rfl) ?_
  show Aw l G MX6_fits rI 0 [(0, .ref (Gb G + r0)), (1, .int x1)] [] σ _
  unfold f_X6_fits
  refine Aw.gd (fun hr0 => ?_)
  refine Aw.iconst (v := 1) ic_1 rfl dX6_fits_0 ?_
  refine Aw.istore_n (L' := [(2, .int 1), (0, .ref (Gb G + r0)), (1, .int x1)]) (Nat.le_of_ble_eq_true rfl) rfl rfl dX6_fits_1 ?_
  refine Aw.iconst (v := 0) ic_0 rfl dX6_fits_2 ?_
  refine Aw.istore_n (L' := [(3, .int 0), (2, .int 1), (0, .ref (Gb G + r0)), (1, .int x1)]) (Nat.le_of_ble_eq_true rfl) rfl rfl dX6_fits_3 ?_
  refine Aw.sub (L' := [(0, .ref (Gb G + r0)), (1, .int x1), (2, .int 1), (3, .int 0)]) [2, 3, 1, 0] rfl ?_
  exact aw_X6_fits_4 l G FU _ _ _ _ _
abbrev MX6_moves : Mt := (RX6, cX6_moves, 6, (some .int), 2)
def f_X6_moves_125 (rc4 : Nat → Int32 → Int32 → Int32 → Sg → Option (Int32 × Sg)) (r0 : Nat) (x1 : Int32) (x3 : Int32) (s0 : Int32) (s1 : Int32) (σ : Sg) : Option (Int32 × Sg) := if kd r0 = 6 then (bn (s0 + s1) (fun b1 => rc4 r0 x1 b1 (x3 + 1) σ)) else none
def f_X6_moves_120 (rc4 : Nat → Int32 → Int32 → Int32 → Sg → Option (Int32 × Sg)) (r0 : Nat) (x1 : Int32) (x3 : Int32) (s0 : Int32) (σ : Sg) : Option (Int32 × Sg) := if kd r0 = 6 then (f_X6_moves_125 rc4 r0 x1 x3 s0 1 σ) else none
def f_X6_moves_4  : Nat → Nat → Int32 → Int32 → Int32 → Sg → Option (Int32 × Sg)
  | 0, _, _, _, _, _ => none
  | n + 1, r0, x1, x2, x3, σ => if kd r0 = 6 then (if inb 0 336 then (if σ (rf r0 0) (ix 0) ≤ x3 then (some (x2, σ)) else (if inb (4 + (4 * x3)) 336 then (bn (σ (rf r0 0) (ix (4 + (4 * x3)))) (fun b3 => if inb (5 + (4 * x3)) 336 then (bn (σ (rf r0 0) (ix (5 + (4 * x3)))) (fun b5 => cb (f_X6_place r0 x1 b3 0 σ) (fun a6 τ7 => if inb a6 336 then (if inb (4 + (4 * x3)) 336 then (bn (up τ7 (rf r0 0) (ix (4 + (4 * x3))) (τ7 (rf r0 0) (ix a6))) (fun τ10 => cb (f_X6_place r0 x1 b3 1 τ10) (fun a11 τ12 => if inb a11 336 then (if inb (5 + (4 * x3)) 336 then (bn (up τ12 (rf r0 0) (ix (5 + (4 * x3))) (rem (b5 + (τ12 (rf r0 0) (ix a11))) 4)) (fun τ15 => if inb (4 + (4 * x3)) 336 then (if τ15 (rf r0 0) (ix (4 + (4 * x3))) = b3 then (if inb (5 + (4 * x3)) 336 then (if τ15 (rf r0 0) (ix (5 + (4 * x3))) = b5 then (f_X6_moves_125 (f_X6_moves_4 n) r0 x1 x3 x2 0 τ15) else (f_X6_moves_120 (f_X6_moves_4 n) r0 x1 x3 x2 τ15)) else none) else (f_X6_moves_120 (f_X6_moves_4 n) r0 x1 x3 x2 τ15)) else none)) else none) else none))) else none) else none))) else none)) else none)) else none) else none
def f_X6_moves (r0 : Nat) (x1 : Int32) (σ : Sg) : Option (Int32 × Sg) := if kd r0 = 6 then (f_X6_moves_4 FU r0 x1 0 0 σ) else none
set_option maxRecDepth 100000 in
set_option maxHeartbeats 4000000 in
theorem aw_X6_moves_125 (l : Launch) (G : Gt) (rc4 : Nat → Int32 → Int32 → Int32 → Sg → Option (Int32 × Sg)) (hrc4 : ∀ (r0 : Nat) (x1 : Int32) (x2 : Int32) (x3 : Int32) (σ : Sg), Aw l G MX6_moves rI 4 [(0, .ref (Gb G + r0)), (1, .int x1), (2, .int x2), (3, .int x3)] [] σ (rc4 r0 x1 x2 x3 σ)) (r0 : Nat) (x1 : Int32) (x3 : Int32) (s0 : Int32) (s1 : Int32) (σ : Sg) : Aw l G MX6_moves rI 125 [(0, .ref (Gb G + r0)), (1, .int x1), (3, .int x3)] [.int s1, .int s0] σ (f_X6_moves_125 rc4 r0 x1 x3 s0 s1 σ) := by
  unfold f_X6_moves_125
  refine Aw.gd (fun hr0 => ?_)
  refine Aw.iadd rfl dX6_moves_125 ?_
  refine Aw.bi (fun b1 => ?_)
  refine Aw.istore_n (L' := [(2, .int b1), (0, .ref (Gb G + r0)), (1, .int x1), (3, .int x3)]) (Nat.le_of_ble_eq_true rfl) rfl rfl dX6_moves_126 ?_
  refine Aw.iinc (v := x3 + 1) (L' := [(3, .int (x3 + 1)), (2, .int b1), (0, .ref (Gb G + r0)), (1, .int x1)]) 3 rfl (ii_1 _) (Nat.le_of_ble_eq_true rfl) rfl rfl dX6_moves_127 ?_
  refine Aw.goto (q := 4) (by decide) dX6_moves_130 ?_
  refine Aw.sub (L' := [(0, .ref (Gb G + r0)), (1, .int x1), (2, .int b1), (3, .int (x3 + 1))]) [2, 3, 1, 0] rfl ?_
  exact hrc4 _ _ _ _ _
set_option maxRecDepth 100000 in
set_option maxHeartbeats 4000000 in
theorem aw_X6_moves_120 (l : Launch) (G : Gt) (rc4 : Nat → Int32 → Int32 → Int32 → Sg → Option (Int32 × Sg)) (hrc4 : ∀ (r0 : Nat) (x1 : Int32) (x2 : Int32) (x3 : Int32) (σ : Sg), Aw l G MX6_moves rI 4 [(0, .ref (Gb G + r0)), (1, .int x1), (2, .int x2), (3, .int x3)] [] σ (rc4 r0 x1 x2 x3 σ)) (r0 : Nat) (x1 : Int32) (x3 : Int32) (s0 : Int32) (σ : Sg) : Aw l G MX6_moves rI 120 [(0, .ref (Gb G + r0)), (1, .int x1), (3, .int x3)] [.int s0] σ (f_X6_moves_120 rc4 r0 x1 x3 s0 σ) := by
  unfold f_X6_moves_120
  refine Aw.gd (fun hr0 => ?_)
  refine Aw.iconst (v := 1) ic_1 rfl dX6_moves_120 ?_
  refine Aw.goto (q := 125) (by decide) dX6_moves_121 ?_
  refine Aw.sub (L' := [(0, .ref (Gb G + r0)), (1, .int x1), (3, .int x3)]) [0, 1, 2] rfl ?_
  exact aw_X6_moves_125 l G _ hrc4 _ _ _ _ _ _
set_option maxRecDepth 100000 in
set_option maxHeartbeats 4000000 in
theorem aw_X6_moves_4 (l : Launch) (G : Gt) : ∀ (n : Nat) (r0 : Nat) (x1 : Int32) (x2 : Int32) (x3 : Int32) (σ : Sg), Aw l G MX6_moves rI 4 [(0, .ref (Gb G + r0)), (1, .int x1), (2, .int x2), (3, .int x3)] [] σ (f_X6_moves_4 n r0 x1 x2 x3 σ) := by
  intro n
  induction n with
  | zero => intro r0 x1 x2 x3 σ; exact Aw.no
  | succ n ih =>
    intro r0 x1 x2 x3 σ
    rw [f_X6_moves_4]
    refine Aw.gd (fun hr0 => ?_)
    refine Aw.iload_n 3 rfl rfl dX6_moves_4 ?_
    refine Aw.aload_n 0 rfl rfl dX6_moves_5 ?_
    refine Aw.getR fl_X6_7 (Nat.le_of_ble_eq_true rfl) rfl hr0 rfl dX6_moves_6 ?_
    refine Aw.iconst (v := 0) ic_0 rfl dX6_moves_9 ?_
    refine Aw.iald (n := 336) (ft_6_0 hr0).1 (ft_6_0 hr0).2 rfl dX6_moves_10 (fun hb1 => ?_)
    refine Aw.icmp_ge (q := 14) (t := 133) rfl (by decide) dX6_moves_11 (fun hc => ?_) (fun hc => ?_)
    · refine Aw.iload_n 2 rfl rfl dX6_moves_133 ?_
      exact Aw.iret rfl dX6_moves_134
    · refine Aw.aload_n 0 rfl rfl dX6_moves_14 ?_
      refine Aw.getR fl_X6_7 (Nat.le_of_ble_eq_true rfl) rfl hr0 rfl dX6_moves_15 ?_
      refine Aw.iconst (v := 4) ic_4 rfl dX6_moves_18 ?_
      refine Aw.iconst (v := 4) ic_4 rfl dX6_moves_19 ?_
      refine Aw.iload_n 3 rfl rfl dX6_moves_20 ?_
      refine Aw.imul rfl dX6_moves_21 ?_
      refine Aw.iadd rfl dX6_moves_22 ?_
      refine Aw.iald (n := 336) (ft_6_0 hr0).1 (ft_6_0 hr0).2 rfl dX6_moves_23 (fun hb2 => ?_)
      refine Aw.bi (fun b3 => ?_)
      refine Aw.istore (L' := [(4, .int b3), (0, .ref (Gb G + r0)), (1, .int x1), (2, .int x2), (3, .int x3)]) (Nat.le_of_ble_eq_true rfl) rfl rfl dX6_moves_24 ?_
      refine Aw.aload_n 1 rfl rfl dX6_moves_26 ?_
      refine Aw.getR fl_X6_7 (Nat.le_of_ble_eq_true rfl) rfl hr0 rfl dX6_moves_27 ?_
      refine Aw.iconst (v := 5) ic_5 rfl dX6_moves_30 ?_
      refine Aw.iconst (v := 4) ic_4 rfl dX6_moves_31 ?_
      refine Aw.iload_n 4 rfl rfl dX6_moves_32 ?_
      refine Aw.imul rfl dX6_moves_33 ?_
      refine Aw.iadd rfl dX6_moves_34 ?_
      refine Aw.iald (n := 336) (ft_6_0 hr0).1 (ft_6_0 hr0).2 rfl dX6_moves_35 (fun hb4 => ?_)
      refine Aw.bi (fun b5 => ?_)
      refine Aw.istore (L' := [(5, .int b5), (4, .int b3), (0, .ref (Gb G + r0)), (1, .int x1), (2, .int x2), (3, .int x3)]) (Nat.le_of_ble_eq_true rfl) rfl rfl dX6_moves_36 ?_
      refine Aw.aload_n 2 rfl rfl dX6_moves_38 ?_
      refine Aw.getR fl_X6_7 (Nat.le_of_ble_eq_true rfl) rfl hr0 rfl dX6_moves_39 ?_
      refine Aw.iconst (v := 4) ic_4 rfl dX6_moves_42 ?_
      refine Aw.iconst (v := 4) ic_4 rfl dX6_moves_43 ?_
      refine Aw.iload_n 5 rfl rfl dX6_moves_44 ?_
      refine Aw.imul rfl dX6_moves_45 ?_
      refine Aw.iadd rfl dX6_moves_46 ?_
      refine Aw.aload_n 2 rfl rfl dX6_moves_47 ?_
      refine Aw.getR fl_X6_7 (Nat.le_of_ble_eq_true rfl) rfl hr0 rfl dX6_moves_48 ?_
      refine Aw.aload_n 2 rfl rfl dX6_moves_51 ?_
      refine Aw.iload_n 3 rfl rfl dX6_moves_52 ?_
      refine Aw.iload 1 rfl rfl dX6_moves_53 ?_
      refine Aw.iconst (v := 0) ic_0 rfl dX6_moves_55 ?_
      refine Aw.callVi (As := [.int x1, .int b3, .int 0]) (rest := [.ref (Gb G + rf r0 0), .int (4 + (4 * x3)), .ref (Gb G + rf r0 0)]) cv_X6_56 (Nat.le_of_ble_eq_true rfl) hr0 (ct_X6_place l G r0 x1 b3 0 σ) rfl rfl (Nat.le_of_ble_eq_true rfl) (Nat.le_of_ble_eq_true rfl) (Nat.le_of_ble_eq_true rfl) rfl dX6_moves_56 (fun a6 τ7 _ => ?_)
      refine Aw.iald (n := 336) (ft_6_0 hr0).1 (ft_6_0 hr0).2 rfl dX6_moves_59 (fun hb8 => ?_)
      refine Aw.iast (n := 336) (ft_6_0 hr0).1 (ft_6_0 hr0).2 rfl dX6_moves_60 (fun hb9 => ?_)
      refine Aw.bs (fun τ10 => ?_)
      refine Aw.aload_n 2 rfl rfl dX6_moves_61 ?_
      refine Aw.getR fl_X6_7 (Nat.le_of_ble_eq_true rfl) rfl hr0 rfl dX6_moves_62 ?_
      refine Aw.iconst (v := 5) ic_5 rfl dX6_moves_65 ?_
      refine Aw.iconst (v := 4) ic_4 rfl dX6_moves_66 ?_
      refine Aw.iload_n 5 rfl rfl dX6_moves_67 ?_
      refine Aw.imul rfl dX6_moves_68 ?_
      refine Aw.iadd rfl dX6_moves_69 ?_
      refine Aw.iload 0 rfl rfl dX6_moves_70 ?_
      refine Aw.aload_n 2 rfl rfl dX6_moves_72 ?_
      refine Aw.getR fl_X6_7 (Nat.le_of_ble_eq_true rfl) rfl hr0 rfl dX6_moves_73 ?_
      refine Aw.aload_n 2 rfl rfl dX6_moves_76 ?_
      refine Aw.iload_n 3 rfl rfl dX6_moves_77 ?_
      refine Aw.iload 1 rfl rfl dX6_moves_78 ?_
      refine Aw.iconst (v := 1) ic_1 rfl dX6_moves_80 ?_
      refine Aw.callVi (As := [.int x1, .int b3, .int 1]) (rest := [.ref (Gb G + rf r0 0), .int b5, .int (5 + (4 * x3)), .ref (Gb G + rf r0 0)]) cv_X6_56 (Nat.le_of_ble_eq_true rfl) hr0 (ct_X6_place l G r0 x1 b3 1 τ10) rfl rfl (Nat.le_of_ble_eq_true rfl) (Nat.le_of_ble_eq_true rfl) (Nat.le_of_ble_eq_true rfl) rfl dX6_moves_81 (fun a11 τ12 _ => ?_)
      refine Aw.iald (n := 336) (ft_6_0 hr0).1 (ft_6_0 hr0).2 rfl dX6_moves_84 (fun hb13 => ?_)
      refine Aw.iadd rfl dX6_moves_85 ?_
      refine Aw.iconst (v := 4) ic_4 rfl dX6_moves_86 ?_
      refine Aw.irem nz_4 rfl dX6_moves_87 ?_
      refine Aw.iast (n := 336) (ft_6_0 hr0).1 (ft_6_0 hr0).2 rfl dX6_moves_88 (fun hb14 => ?_)
      refine Aw.bs (fun τ15 => ?_)
      refine Aw.iload_n 4 rfl rfl dX6_moves_89 ?_
      refine Aw.aload_n 2 rfl rfl dX6_moves_90 ?_
      refine Aw.getR fl_X6_7 (Nat.le_of_ble_eq_true rfl) rfl hr0 rfl dX6_moves_91 ?_
      refine Aw.iconst (v := 4) ic_4 rfl dX6_moves_94 ?_
      refine Aw.iconst (v := 4) ic_4 rfl dX6_moves_95 ?_
      refine Aw.iload_n 5 rfl rfl dX6_moves_96 ?_
      refine Aw.imul rfl dX6_moves_97 ?_
      refine Aw.iadd rfl dX6_moves_98 ?_
      refine Aw.iald (n := 336) (ft_6_0 hr0).1 (ft_6_0 hr0).2 rfl dX6_moves_99 (fun hb16 => ?_)
      refine Aw.iload 1 rfl rfl dX6_moves_100 ?_
      refine Aw.icmp_ne (q := 105) (t := 120) rfl (by decide) dX6_moves_102 (fun hc => ?_) (fun hc => ?_)
      · refine Aw.aload_n 2 rfl rfl dX6_moves_105 ?_
        refine Aw.getR fl_X6_7 (Nat.le_of_ble_eq_true rfl) rfl hr0 rfl dX6_moves_106 ?_
        refine Aw.iconst (v := 5) ic_5 rfl dX6_moves_109 ?_
        refine Aw.iconst (v := 4) ic_4 rfl dX6_moves_110 ?_
        refine Aw.iload_n 5 rfl rfl dX6_moves_111 ?_
        refine Aw.imul rfl dX6_moves_112 ?_
        refine Aw.iadd rfl dX6_moves_113 ?_
        refine Aw.iald (n := 336) (ft_6_0 hr0).1 (ft_6_0 hr0).2 rfl dX6_moves_114 (fun hb17 => ?_)
        refine Aw.iload 0 rfl rfl dX6_moves_115 ?_
        refine Aw.icmp_eq (q := 120) (t := 124) rfl (by decide) dX6_moves_117 (fun hc => ?_) (fun hc => ?_)
        · refine Aw.iconst (v := 0) ic_0 rfl dX6_moves_124 ?_
          refine Aw.sub (L' := [(0, .ref (Gb G + r0)), (1, .int x1), (3, .int x3)]) [2, 3, 5] rfl ?_
          exact aw_X6_moves_125 l G _ ih _ _ _ _ _ _
        · refine Aw.sub (L' := [(0, .ref (Gb G + r0)), (1, .int x1), (3, .int x3)]) [2, 3, 5] rfl ?_
          exact aw_X6_moves_120 l G _ ih _ _ _ _ _
      · refine Aw.sub (L' := [(0, .ref (Gb G + r0)), (1, .int x1), (3, .int x3)]) [2, 3, 5] rfl ?_
        exact aw_X6_moves_120 l G _ ih _ _ _ _ _
set_option maxRecDepth 100000 in
set_option maxHeartbeats 4000000 in
theorem ct_X6_moves (l : Launch) (G : Gt) (r0 : Nat) (x1 : Int32) (σ : Sg) : Ct l G yX6_moves MX6_moves rI [.ref (Gb G + r0), .int x1] σ (f_X6_moves r0 x1 σ) := by
  refine Ct.of (by decide +kernel) rfl (Nat.le_of_ble_eq_true rfl) ?_
  show Aw l G MX6_moves rI 0 [(0, .ref (Gb G + r0)), (1, .int x1)] [] σ _
  unfold f_X6_moves
  refine Aw.gd (fun hr0 => ?_)
  refine Aw.iconst (v := 0) ic_0 rfl dX6_moves_0 ?_
  refine Aw.istore_n (L' := [(2, .int 0), (0, .ref (Gb G + r0)), (1, .int x1)]) (Nat.le_of_ble_eq_true rfl) rfl rfl dX6_moves_1 ?_
  refine Aw.iconst (v := 0) ic_0 rfl dX6_moves_2 ?_
  refine Aw.istore_n (L' := [(3, .int 0), (2, .int 0), (0, .ref (Gb G + r0)), (1, .int x1)]) (Nat.le_of_ble_eq_true rfl) rfl rfl dX6_moves_3 ?_
  refine Aw.sub (L' := [(0, .ref (Gb G + r0)), (1, .int x1), (2, .int 0), (3, .int 0)]) [2, 3, 1, 0] rfl ?_
  exact aw_X6_moves_4 l G FU _ _ _ _ _
abbrev MX6_given : Mt := (RX6, cX6_given, 2, (some .int), 3)
def f_X6_given (r0 : Nat) (x1 : Int32) (σ : Sg) : Option (Int32 × Sg) := if kd r0 = 6 then (cb (f_X6_isCall r0 x1 σ) (fun a1 τ2 => if a1 = 0 then (some ((-2), τ2)) else (cb (f_X6_fits r0 x1 τ2) (fun a3 τ4 => if a3 = 0 then (some ((-3), τ4)) else (if inb 3 336 then (if inb 3 336 then (bn (up τ4 (rf r0 0) (ix 3) ((τ4 (rf r0 0) (ix 3)) + 1)) (fun τ7 => cb (f_X6_moves r0 x1 τ7) (fun a8 τ9 => some (a8, τ9)))) else none) else none))))) else none
theorem cv_X6_66 : CV RX6 66 6 yX6_fits MX6_fits 1 := ⟨_, rfl, rfl, ml_X6_66, ins_X6_fits, sel_X6_fits, ini_X6, cw_X6_fits, ⟨by decide, by decide, by decide +kernel⟩⟩
theorem cv_X6_69 : CV RX6 69 6 yX6_moves MX6_moves 1 := ⟨_, rfl, rfl, ml_X6_69, ins_X6_moves, sel_X6_moves, ini_X6, cw_X6_moves, ⟨by decide, by decide, by decide +kernel⟩⟩
set_option maxRecDepth 100000 in
set_option maxHeartbeats 4000000 in
theorem ct_X6_given (l : Launch) (G : Gt) (r0 : Nat) (x1 : Int32) (σ : Sg) : Ct l G yX6_given MX6_given rI [.ref (Gb G + r0), .int x1] σ (f_X6_given r0 x1 σ) := by
  refine Ct.of (by decide +kernel) rfl (Nat.le_of_ble_eq_true rfl) ?_
  show Aw l G MX6_given rI 0 [(0, .ref (Gb G + r0)), (1, .int x1)] [] σ _
  unfold f_X6_given
  refine Aw.gd (fun hr0 => ?_)
  refine Aw.aload_n 0 rfl rfl dX6_given_0 ?_
  refine Aw.iload_n 1 rfl rfl dX6_given_1 ?_
  refine Aw.callVi (As := [.int x1]) (rest := []) cv_X6_60 (Nat.le_of_ble_eq_true rfl) hr0 (ct_X6_isCall l G r0 x1 σ) rfl rfl (Nat.le_of_ble_eq_true rfl) (Nat.le_of_ble_eq_true rfl) (Nat.le_of_ble_eq_true rfl) rfl dX6_given_2 (fun a1 τ2 _ => ?_)
  refine Aw.if_ne (q := 8) (t := 11) rfl (by decide) dX6_given_5 (fun hc => ?_) (fun hc => ?_)
  · refine Aw.bipush (v := (-2)) ib_m2 rfl dX6_given_8 ?_
    exact Aw.iret rfl dX6_given_10
  · refine Aw.aload_n 0 rfl rfl dX6_given_11 ?_
    refine Aw.iload_n 1 rfl rfl dX6_given_12 ?_
    refine Aw.callVi (As := [.int x1]) (rest := []) cv_X6_66 (Nat.le_of_ble_eq_true rfl) hr0 (ct_X6_fits l G r0 x1 τ2) rfl rfl (Nat.le_of_ble_eq_true rfl) (Nat.le_of_ble_eq_true rfl) (Nat.le_of_ble_eq_true rfl) rfl dX6_given_13 (fun a3 τ4 _ => ?_)
    refine Aw.if_ne (q := 19) (t := 22) rfl (by decide) dX6_given_16 (fun hc => ?_) (fun hc => ?_)
    · refine Aw.bipush (v := (-3)) ib_m3 rfl dX6_given_19 ?_
      exact Aw.iret rfl dX6_given_21
    · refine Aw.aload_n 0 rfl rfl dX6_given_22 ?_
      refine Aw.getR fl_X6_7 (Nat.le_of_ble_eq_true rfl) rfl hr0 rfl dX6_given_23 ?_
      refine Aw.iconst (v := 3) ic_3 rfl dX6_given_26 ?_
      refine Aw.dup2 rfl dX6_given_27 ?_
      refine Aw.iald (n := 336) (ft_6_0 hr0).1 (ft_6_0 hr0).2 rfl dX6_given_28 (fun hb5 => ?_)
      refine Aw.iconst (v := 1) ic_1 rfl dX6_given_29 ?_
      refine Aw.iadd rfl dX6_given_30 ?_
      refine Aw.iast (n := 336) (ft_6_0 hr0).1 (ft_6_0 hr0).2 rfl dX6_given_31 (fun hb6 => ?_)
      refine Aw.bs (fun τ7 => ?_)
      refine Aw.aload_n 0 rfl rfl dX6_given_32 ?_
      refine Aw.iload_n 1 rfl rfl dX6_given_33 ?_
      refine Aw.callVi (As := [.int x1]) (rest := []) cv_X6_69 (Nat.le_of_ble_eq_true rfl) hr0 (ct_X6_moves l G r0 x1 τ7) rfl rfl (Nat.le_of_ble_eq_true rfl) (Nat.le_of_ble_eq_true rfl) (Nat.le_of_ble_eq_true rfl) rfl dX6_given_34 (fun a8 τ9 _ => ?_)
      exact Aw.iret rfl dX6_given_37
abbrev MX6_plansOn : Mt := (RX6, cX6_plansOn, 2, (some .int), 3)
def f_X6_plansOn (r0 : Nat) (x1 : Int32) (σ : Sg) : Option (Int32 × Sg) := if kd r0 = 6 then (cb (f_X6_isCall r0 x1 σ) (fun a1 τ2 => if a1 = 0 then (some ((-2), τ2)) else (if inb 2 336 then (if τ2 (rf r0 0) (ix 2) = 12 then (some ((-4), τ2)) else (if inb 2 336 then (if inb (324 + (τ2 (rf r0 0) (ix 2))) 336 then (bn (up τ2 (rf r0 0) (ix (324 + (τ2 (rf r0 0) (ix 2)))) x1) (fun τ6 => if inb 2 336 then (if inb 2 336 then (bn (up τ6 (rf r0 0) (ix 2) ((τ6 (rf r0 0) (ix 2)) + 1)) (fun τ9 => if inb 2 336 then (some (τ9 (rf r0 0) (ix 2), τ9)) else none)) else none) else none)) else none) else none)) else none))) else none
set_option maxRecDepth 100000 in
set_option maxHeartbeats 4000000 in
theorem ct_X6_plansOn (l : Launch) (G : Gt) (r0 : Nat) (x1 : Int32) (σ : Sg) : Ct l G yX6_plansOn MX6_plansOn rI [.ref (Gb G + r0), .int x1] σ (f_X6_plansOn r0 x1 σ) := by
  refine Ct.of (by decide +kernel) rfl (Nat.le_of_ble_eq_true rfl) ?_
  show Aw l G MX6_plansOn rI 0 [(0, .ref (Gb G + r0)), (1, .int x1)] [] σ _
  unfold f_X6_plansOn
  refine Aw.gd (fun hr0 => ?_)
  refine Aw.aload_n 0 rfl rfl dX6_plansOn_0 ?_
  refine Aw.iload_n 1 rfl rfl dX6_plansOn_1 ?_
  refine Aw.callVi (As := [.int x1]) (rest := []) cv_X6_60 (Nat.le_of_ble_eq_true rfl) hr0 (ct_X6_isCall l G r0 x1 σ) rfl rfl (Nat.le_of_ble_eq_true rfl) (Nat.le_of_ble_eq_true rfl) (Nat.le_of_ble_eq_true rfl) rfl dX6_plansOn_2 (fun a1 τ2 _ => ?_)
  refine Aw.if_ne (q := 8) (t := 11) rfl (by decide) dX6_plansOn_5 (fun hc => ?_) (fun hc => ?_)
  · refine Aw.bipush (v := (-2)) ib_m2 rfl dX6_plansOn_8 ?_
    exact Aw.iret rfl dX6_plansOn_10
  · refine Aw.aload_n 0 rfl rfl dX6_plansOn_11 ?_
    refine Aw.getR fl_X6_7 (Nat.le_of_ble_eq_true rfl) rfl hr0 rfl dX6_plansOn_12 ?_
    refine Aw.iconst (v := 2) ic_2 rfl dX6_plansOn_15 ?_
    refine Aw.iald (n := 336) (ft_6_0 hr0).1 (ft_6_0 hr0).2 rfl dX6_plansOn_16 (fun hb3 => ?_)
    refine Aw.bipush (v := 12) ib_12 rfl dX6_plansOn_17 ?_
    refine Aw.icmp_ne (q := 22) (t := 25) rfl (by decide) dX6_plansOn_19 (fun hc => ?_) (fun hc => ?_)
    · refine Aw.bipush (v := (-4)) ib_m4 rfl dX6_plansOn_22 ?_
      exact Aw.iret rfl dX6_plansOn_24
    · refine Aw.aload_n 0 rfl rfl dX6_plansOn_25 ?_
      refine Aw.getR fl_X6_7 (Nat.le_of_ble_eq_true rfl) rfl hr0 rfl dX6_plansOn_26 ?_
      refine Aw.sipush (v := 324) is_324 rfl dX6_plansOn_29 ?_
      refine Aw.aload_n 0 rfl rfl dX6_plansOn_32 ?_
      refine Aw.getR fl_X6_7 (Nat.le_of_ble_eq_true rfl) rfl hr0 rfl dX6_plansOn_33 ?_
      refine Aw.iconst (v := 2) ic_2 rfl dX6_plansOn_36 ?_
      refine Aw.iald (n := 336) (ft_6_0 hr0).1 (ft_6_0 hr0).2 rfl dX6_plansOn_37 (fun hb4 => ?_)
      refine Aw.iadd rfl dX6_plansOn_38 ?_
      refine Aw.iload_n 1 rfl rfl dX6_plansOn_39 ?_
      refine Aw.iast (n := 336) (ft_6_0 hr0).1 (ft_6_0 hr0).2 rfl dX6_plansOn_40 (fun hb5 => ?_)
      refine Aw.bs (fun τ6 => ?_)
      refine Aw.aload_n 0 rfl rfl dX6_plansOn_41 ?_
      refine Aw.getR fl_X6_7 (Nat.le_of_ble_eq_true rfl) rfl hr0 rfl dX6_plansOn_42 ?_
      refine Aw.iconst (v := 2) ic_2 rfl dX6_plansOn_45 ?_
      refine Aw.dup2 rfl dX6_plansOn_46 ?_
      refine Aw.iald (n := 336) (ft_6_0 hr0).1 (ft_6_0 hr0).2 rfl dX6_plansOn_47 (fun hb7 => ?_)
      refine Aw.iconst (v := 1) ic_1 rfl dX6_plansOn_48 ?_
      refine Aw.iadd rfl dX6_plansOn_49 ?_
      refine Aw.iast (n := 336) (ft_6_0 hr0).1 (ft_6_0 hr0).2 rfl dX6_plansOn_50 (fun hb8 => ?_)
      refine Aw.bs (fun τ9 => ?_)
      refine Aw.aload_n 0 rfl rfl dX6_plansOn_51 ?_
      refine Aw.getR fl_X6_7 (Nat.le_of_ble_eq_true rfl) rfl hr0 rfl dX6_plansOn_52 ?_
      refine Aw.iconst (v := 2) ic_2 rfl dX6_plansOn_55 ?_
      refine Aw.iald (n := 336) (ft_6_0 hr0).1 (ft_6_0 hr0).2 rfl dX6_plansOn_56 (fun hb10 => ?_)
      exact Aw.iret rfl dX6_plansOn_57
abbrev MX6_dancer : Mt := (RX6, cX6_dancer, 3, (some .int), 4)
def f_X6_dancer (r0 : Nat) (x1 : Int32) (x2 : Int32) (σ : Sg) : Option (Int32 × Sg) := if kd r0 = 6 then (cb (f_X6_notes r0 σ) (fun _ τ2 => cb (f_X6_comes r0 x1 x2 τ2) (fun a3 τ4 => cb (f_X6_done r0 a3 τ4) (fun a5 τ6 => some (a5, τ6))))) else none
theorem cv_X6_72 : CV RX6 72 6 yX6_notes MX6_notes 0 := ⟨_, rfl, rfl, ml_X6_72, ins_X6_notes, sel_X6_notes, ini_X6, cw_X6_notes, ⟨by decide, by decide, by decide +kernel⟩⟩
theorem cv_X6_75 : CV RX6 75 6 yX6_comes MX6_comes 2 := ⟨_, rfl, rfl, ml_X6_75, ins_X6_comes, sel_X6_comes, ini_X6, cw_X6_comes, ⟨by decide, by decide, by decide +kernel⟩⟩
theorem cv_X6_79 : CV RX6 79 6 yX6_done MX6_done 1 := ⟨_, rfl, rfl, ml_X6_79, ins_X6_done, sel_X6_done, ini_X6, cw_X6_done, ⟨by decide, by decide, by decide +kernel⟩⟩
set_option maxRecDepth 100000 in
set_option maxHeartbeats 4000000 in
theorem ct_X6_dancer (l : Launch) (G : Gt) (r0 : Nat) (x1 : Int32) (x2 : Int32) (σ : Sg) : Ct l G yX6_dancer MX6_dancer rI [.ref (Gb G + r0), .int x1, .int x2] σ (f_X6_dancer r0 x1 x2 σ) := by
  refine Ct.of (by decide +kernel) rfl (Nat.le_of_ble_eq_true rfl) ?_
  show Aw l G MX6_dancer rI 0 [(0, .ref (Gb G + r0)), (1, .int x1), (2, .int x2)] [] σ _
  unfold f_X6_dancer
  refine Aw.gd (fun hr0 => ?_)
  refine Aw.aload_n 0 rfl rfl dX6_dancer_0 ?_
  refine Aw.callVv (As := []) (rest := []) cv_X6_72 (Nat.le_of_ble_eq_true rfl) hr0 (ct_X6_notes l G r0 σ) rfl rfl (Nat.le_of_ble_eq_true rfl) (Nat.le_of_ble_eq_true rfl) (Nat.le_of_ble_eq_true rfl) rfl dX6_dancer_1 (fun a1 τ2 _ => ?_)
  refine Aw.aload_n 0 rfl rfl dX6_dancer_4 ?_
  refine Aw.aload_n 0 rfl rfl dX6_dancer_5 ?_
  refine Aw.iload_n 1 rfl rfl dX6_dancer_6 ?_
  refine Aw.iload_n 2 rfl rfl dX6_dancer_7 ?_
  refine Aw.callVi (As := [.int x1, .int x2]) (rest := [.ref (Gb G + r0)]) cv_X6_75 (Nat.le_of_ble_eq_true rfl) hr0 (ct_X6_comes l G r0 x1 x2 τ2) rfl rfl (Nat.le_of_ble_eq_true rfl) (Nat.le_of_ble_eq_true rfl) (Nat.le_of_ble_eq_true rfl) rfl dX6_dancer_8 (fun a3 τ4 _ => ?_)
  refine Aw.callVi (As := [.int a3]) (rest := []) cv_X6_79 (Nat.le_of_ble_eq_true rfl) hr0 (ct_X6_done l G r0 a3 τ4) rfl rfl (Nat.le_of_ble_eq_true rfl) (Nat.le_of_ble_eq_true rfl) (Nat.le_of_ble_eq_true rfl) rfl dX6_dancer_11 (fun a5 τ6 _ => ?_)
  exact Aw.iret rfl dX6_dancer_14
abbrev MX6_call : Mt := (RX6, cX6_call, 1, (some .int), 3)
def f_X6_call (r0 : Nat) (σ : Sg) : Option (Int32 × Sg) := if kd r0 = 6 then (cb (f_X6_notes r0 σ) (fun _ τ2 => cb (f_X6_adds r0 τ2) (fun a3 τ4 => cb (f_X6_done r0 a3 τ4) (fun a5 τ6 => some (a5, τ6))))) else none
theorem cv_X6_82 : CV RX6 82 6 yX6_adds MX6_adds 0 := ⟨_, rfl, rfl, ml_X6_82, ins_X6_adds, sel_X6_adds, ini_X6, cw_X6_adds, ⟨by decide, by decide, by decide +kernel⟩⟩
set_option maxRecDepth 100000 in
set_option maxHeartbeats 4000000 in
theorem ct_X6_call (l : Launch) (G : Gt) (r0 : Nat) (σ : Sg) : Ct l G yX6_call MX6_call rI [.ref (Gb G + r0)] σ (f_X6_call r0 σ) := by
  refine Ct.of (by decide +kernel) rfl (Nat.le_of_ble_eq_true rfl) ?_
  show Aw l G MX6_call rI 0 [(0, .ref (Gb G + r0))] [] σ _
  unfold f_X6_call
  refine Aw.gd (fun hr0 => ?_)
  refine Aw.aload_n 0 rfl rfl dX6_call_0 ?_
  refine Aw.callVv (As := []) (rest := []) cv_X6_72 (Nat.le_of_ble_eq_true rfl) hr0 (ct_X6_notes l G r0 σ) rfl rfl (Nat.le_of_ble_eq_true rfl) (Nat.le_of_ble_eq_true rfl) (Nat.le_of_ble_eq_true rfl) rfl dX6_call_1 (fun a1 τ2 _ => ?_)
  refine Aw.aload_n 0 rfl rfl dX6_call_4 ?_
  refine Aw.aload_n 0 rfl rfl dX6_call_5 ?_
  refine Aw.callVi (As := []) (rest := [.ref (Gb G + r0)]) cv_X6_82 (Nat.le_of_ble_eq_true rfl) hr0 (ct_X6_adds l G r0 τ2) rfl rfl (Nat.le_of_ble_eq_true rfl) (Nat.le_of_ble_eq_true rfl) (Nat.le_of_ble_eq_true rfl) rfl dX6_call_6 (fun a3 τ4 _ => ?_)
  refine Aw.callVi (As := [.int a3]) (rest := []) cv_X6_79 (Nat.le_of_ble_eq_true rfl) hr0 (ct_X6_done l G r0 a3 τ4) rfl rfl (Nat.le_of_ble_eq_true rfl) (Nat.le_of_ble_eq_true rfl) (Nat.le_of_ble_eq_true rfl) rfl dX6_call_9 (fun a5 τ6 _ => ?_)
  exact Aw.iret rfl dX6_call_12
abbrev MX6_exchanges : Mt := (RX6, cX6_exchanges, 5, (some .int), 3)
def f_X6_exchanges_27  (r0 : Nat) (σ : Sg) : Option (Int32 × Sg) := if kd r0 = 6 then (cb (f_X6_refused r0 ((-2)) σ) (fun a1 τ2 => some (a1, τ2))) else none
def f_X6_exchanges (r0 : Nat) (x1 : Int32) (x2 : Int32) (x3 : Int32) (σ : Sg) : Option (Int32 × Sg) := if kd r0 = 6 then (cb (f_X6_isCall r0 x1 σ) (fun a1 τ2 => if a1 = 0 then (f_X6_exchanges_27 r0 τ2) else (cb (f_X6_isSpot x2 τ2) (fun a3 τ4 => if a3 = 0 then (f_X6_exchanges_27 r0 τ4) else (cb (f_X6_isSpot x3 τ4) (fun a5 τ6 => if a5 = 0 then (f_X6_exchanges_27 r0 τ6) else (if x2 = x3 then (f_X6_exchanges_27 r0 τ6) else (cb (f_X6_keeps r0 τ6) (fun _ τ8 => cb (f_X6_place r0 x1 x2 0 τ8) (fun a9 τ10 => if inb a9 336 then (bn (τ10 (rf r0 0) (ix a9)) (fun b12 => cb (f_X6_place r0 x1 x2 0 τ10) (fun a13 τ14 => cb (f_X6_place r0 x1 x3 0 τ14) (fun a15 τ16 => if inb a15 336 then (if inb a13 336 then (bn (up τ16 (rf r0 0) (ix a13) (τ16 (rf r0 0) (ix a15))) (fun τ19 => cb (f_X6_place r0 x1 x3 0 τ19) (fun a20 τ21 => if inb a20 336 then (bn (up τ21 (rf r0 0) (ix a20) b12) (fun τ23 => cb (f_X6_place r0 x1 x2 0 τ23) (fun a24 τ25 => if inb a24 336 then (some (τ25 (rf r0 0) (ix a24), τ25)) else none))) else none))) else none) else none)))) else none)))))))))) else none
set_option maxRecDepth 100000 in
set_option maxHeartbeats 4000000 in
theorem aw_X6_exchanges_27 (l : Launch) (G : Gt) (r0 : Nat) (σ : Sg) : Aw l G MX6_exchanges rI 27 [(0, .ref (Gb G + r0))] [] σ (f_X6_exchanges_27 r0 σ) := by
  unfold f_X6_exchanges_27
  refine Aw.gd (fun hr0 => ?_)
  refine Aw.aload_n 0 rfl rfl dX6_exchanges_27 ?_
  refine Aw.bipush (v := (-2)) ib_m2 rfl dX6_exchanges_28 ?_
  refine Aw.callVi (As := [.int ((-2))]) (rest := []) cv_X6_38 (Nat.le_of_ble_eq_true rfl) hr0 (ct_X6_refused l G r0 ((-2)) σ) rfl rfl (Nat.le_of_ble_eq_true rfl) (Nat.le_of_ble_eq_true rfl) (Nat.le_of_ble_eq_true rfl) rfl dX6_exchanges_30 (fun a1 τ2 _ => ?_)
  exact Aw.iret rfl dX6_exchanges_33
set_option maxRecDepth 100000 in
set_option maxHeartbeats 4000000 in
theorem ct_X6_exchanges (l : Launch) (G : Gt) (r0 : Nat) (x1 : Int32) (x2 : Int32) (x3 : Int32) (σ : Sg) : Ct l G yX6_exchanges MX6_exchanges rI [.ref (Gb G + r0), .int x1, .int x2, .int x3] σ (f_X6_exchanges r0 x1 x2 x3 σ) := by
  refine Ct.of (by decide +kernel) rfl (Nat.le_of_ble_eq_true rfl) ?_
  show Aw l G MX6_exchanges rI 0 [(0, .ref (Gb G + r0)), (1, .int x1), (2, .int x2), (3, .int x3)] [] σ _
  unfold f_X6_exchanges
  refine Aw.gd (fun hr0 => ?_)
  refine Aw.aload_n 0 rfl rfl dX6_exchanges_0 ?_
  refine Aw.iload_n 1 rfl rfl dX6_exchanges_1 ?_
  refine Aw.callVi (As := [.int x1]) (rest := []) cv_X6_60 (Nat.le_of_ble_eq_true rfl) hr0 (ct_X6_isCall l G r0 x1 σ) rfl rfl (Nat.le_of_ble_eq_true rfl) (Nat.le_of_ble_eq_true rfl) (Nat.le_of_ble_eq_true rfl) rfl dX6_exchanges_2 (fun a1 τ2 _ => ?_)
  refine Aw.if_eq (q := 8) (t := 27) rfl (by decide) dX6_exchanges_5 (fun hc => ?_) (fun hc => ?_)
  · refine Aw.sub (L' := [(0, .ref (Gb G + r0))]) [0] rfl ?_
    exact aw_X6_exchanges_27 l G _ _
  · refine Aw.iload_n 2 rfl rfl dX6_exchanges_8 ?_
    refine Aw.callSi (As := [.int x2]) (rest := []) cs_X6_52 (ct_X6_isSpot l G x2 τ2) rfl rfl (Nat.le_of_ble_eq_true rfl) (Nat.le_of_ble_eq_true rfl) (Nat.le_of_ble_eq_true rfl) rfl dX6_exchanges_9 (fun a3 τ4 _ => ?_)
    refine Aw.if_eq (q := 15) (t := 27) rfl (by decide) dX6_exchanges_12 (fun hc => ?_) (fun hc => ?_)
    · refine Aw.sub (L' := [(0, .ref (Gb G + r0))]) [0] rfl ?_
      exact aw_X6_exchanges_27 l G _ _
    · refine Aw.iload_n 3 rfl rfl dX6_exchanges_15 ?_
      refine Aw.callSi (As := [.int x3]) (rest := []) cs_X6_52 (ct_X6_isSpot l G x3 τ4) rfl rfl (Nat.le_of_ble_eq_true rfl) (Nat.le_of_ble_eq_true rfl) (Nat.le_of_ble_eq_true rfl) rfl dX6_exchanges_16 (fun a5 τ6 _ => ?_)
      refine Aw.if_eq (q := 22) (t := 27) rfl (by decide) dX6_exchanges_19 (fun hc => ?_) (fun hc => ?_)
      · refine Aw.sub (L' := [(0, .ref (Gb G + r0))]) [0] rfl ?_
        exact aw_X6_exchanges_27 l G _ _
      · refine Aw.iload_n 2 rfl rfl dX6_exchanges_22 ?_
        refine Aw.iload_n 3 rfl rfl dX6_exchanges_23 ?_
        refine Aw.icmp_ne (q := 27) (t := 34) rfl (by decide) dX6_exchanges_24 (fun hc => ?_) (fun hc => ?_)
        · refine Aw.sub (L' := [(0, .ref (Gb G + r0))]) [0] rfl ?_
          exact aw_X6_exchanges_27 l G _ _
        · refine Aw.aload_n 0 rfl rfl dX6_exchanges_34 ?_
          refine Aw.callVv (As := []) (rest := []) cv_X6_45 (Nat.le_of_ble_eq_true rfl) hr0 (ct_X6_keeps l G r0 τ6) rfl rfl (Nat.le_of_ble_eq_true rfl) (Nat.le_of_ble_eq_true rfl) (Nat.le_of_ble_eq_true rfl) rfl dX6_exchanges_35 (fun a7 τ8 _ => ?_)
          refine Aw.aload_n 0 rfl rfl dX6_exchanges_38 ?_
          refine Aw.getR fl_X6_7 (Nat.le_of_ble_eq_true rfl) rfl hr0 rfl dX6_exchanges_39 ?_
          refine Aw.aload_n 0 rfl rfl dX6_exchanges_42 ?_
          refine Aw.iload_n 1 rfl rfl dX6_exchanges_43 ?_
          refine Aw.iload_n 2 rfl rfl dX6_exchanges_44 ?_
          refine Aw.iconst (v := 0) ic_0 rfl dX6_exchanges_45 ?_
          refine Aw.callVi (As := [.int x1, .int x2, .int 0]) (rest := [.ref (Gb G + rf r0 0)]) cv_X6_56 (Nat.le_of_ble_eq_true rfl) hr0 (ct_X6_place l G r0 x1 x2 0 τ8) rfl rfl (Nat.le_of_ble_eq_true rfl) (Nat.le_of_ble_eq_true rfl) (Nat.le_of_ble_eq_true rfl) rfl dX6_exchanges_46 (fun a9 τ10 _ => ?_)
          refine Aw.iald (n := 336) (ft_6_0 hr0).1 (ft_6_0 hr0).2 rfl dX6_exchanges_49 (fun hb11 => ?_)
          refine Aw.bi (fun b12 => ?_)
          refine Aw.istore (L' := [(4, .int b12), (0, .ref (Gb G + r0)), (1, .int x1), (2, .int x2), (3, .int x3)]) (Nat.le_of_ble_eq_true rfl) rfl rfl dX6_exchanges_50 ?_
          refine Aw.aload_n 1 rfl rfl dX6_exchanges_52 ?_
          refine Aw.getR fl_X6_7 (Nat.le_of_ble_eq_true rfl) rfl hr0 rfl dX6_exchanges_53 ?_
          refine Aw.aload_n 1 rfl rfl dX6_exchanges_56 ?_
          refine Aw.iload_n 2 rfl rfl dX6_exchanges_57 ?_
          refine Aw.iload_n 3 rfl rfl dX6_exchanges_58 ?_
          refine Aw.iconst (v := 0) ic_0 rfl dX6_exchanges_59 ?_
          refine Aw.callVi (As := [.int x1, .int x2, .int 0]) (rest := [.ref (Gb G + rf r0 0)]) cv_X6_56 (Nat.le_of_ble_eq_true rfl) hr0 (ct_X6_place l G r0 x1 x2 0 τ10) rfl rfl (Nat.le_of_ble_eq_true rfl) (Nat.le_of_ble_eq_true rfl) (Nat.le_of_ble_eq_true rfl) rfl dX6_exchanges_60 (fun a13 τ14 _ => ?_)
          refine Aw.aload_n 1 rfl rfl dX6_exchanges_63 ?_
          refine Aw.getR fl_X6_7 (Nat.le_of_ble_eq_true rfl) rfl hr0 rfl dX6_exchanges_64 ?_
          refine Aw.aload_n 1 rfl rfl dX6_exchanges_67 ?_
          refine Aw.iload_n 2 rfl rfl dX6_exchanges_68 ?_
          refine Aw.iload_n 4 rfl rfl dX6_exchanges_69 ?_
          refine Aw.iconst (v := 0) ic_0 rfl dX6_exchanges_70 ?_
          refine Aw.callVi (As := [.int x1, .int x3, .int 0]) (rest := [.ref (Gb G + rf r0 0), .int a13, .ref (Gb G + rf r0 0)]) cv_X6_56 (Nat.le_of_ble_eq_true rfl) hr0 (ct_X6_place l G r0 x1 x3 0 τ14) rfl rfl (Nat.le_of_ble_eq_true rfl) (Nat.le_of_ble_eq_true rfl) (Nat.le_of_ble_eq_true rfl) rfl dX6_exchanges_71 (fun a15 τ16 _ => ?_)
          refine Aw.iald (n := 336) (ft_6_0 hr0).1 (ft_6_0 hr0).2 rfl dX6_exchanges_74 (fun hb17 => ?_)
          refine Aw.iast (n := 336) (ft_6_0 hr0).1 (ft_6_0 hr0).2 rfl dX6_exchanges_75 (fun hb18 => ?_)
          refine Aw.bs (fun τ19 => ?_)
          refine Aw.aload_n 1 rfl rfl dX6_exchanges_76 ?_
          refine Aw.getR fl_X6_7 (Nat.le_of_ble_eq_true rfl) rfl hr0 rfl dX6_exchanges_77 ?_
          refine Aw.aload_n 1 rfl rfl dX6_exchanges_80 ?_
          refine Aw.iload_n 2 rfl rfl dX6_exchanges_81 ?_
          refine Aw.iload_n 4 rfl rfl dX6_exchanges_82 ?_
          refine Aw.iconst (v := 0) ic_0 rfl dX6_exchanges_83 ?_
          refine Aw.callVi (As := [.int x1, .int x3, .int 0]) (rest := [.ref (Gb G + rf r0 0)]) cv_X6_56 (Nat.le_of_ble_eq_true rfl) hr0 (ct_X6_place l G r0 x1 x3 0 τ19) rfl rfl (Nat.le_of_ble_eq_true rfl) (Nat.le_of_ble_eq_true rfl) (Nat.le_of_ble_eq_true rfl) rfl dX6_exchanges_84 (fun a20 τ21 _ => ?_)
          refine Aw.iload 0 rfl rfl dX6_exchanges_87 ?_
          refine Aw.iast (n := 336) (ft_6_0 hr0).1 (ft_6_0 hr0).2 rfl dX6_exchanges_89 (fun hb22 => ?_)
          refine Aw.bs (fun τ23 => ?_)
          refine Aw.aload_n 1 rfl rfl dX6_exchanges_90 ?_
          refine Aw.getR fl_X6_7 (Nat.le_of_ble_eq_true rfl) rfl hr0 rfl dX6_exchanges_91 ?_
          refine Aw.aload_n 1 rfl rfl dX6_exchanges_94 ?_
          refine Aw.iload_n 2 rfl rfl dX6_exchanges_95 ?_
          refine Aw.iload_n 3 rfl rfl dX6_exchanges_96 ?_
          refine Aw.iconst (v := 0) ic_0 rfl dX6_exchanges_97 ?_
          refine Aw.callVi (As := [.int x1, .int x2, .int 0]) (rest := [.ref (Gb G + rf r0 0)]) cv_X6_56 (Nat.le_of_ble_eq_true rfl) hr0 (ct_X6_place l G r0 x1 x2 0 τ23) rfl rfl (Nat.le_of_ble_eq_true rfl) (Nat.le_of_ble_eq_true rfl) (Nat.le_of_ble_eq_true rfl) rfl dX6_exchanges_98 (fun a24 τ25 _ => ?_)
          refine Aw.iald (n := 336) (ft_6_0 hr0).1 (ft_6_0 hr0).2 rfl dX6_exchanges_101 (fun hb26 => ?_)
          exact Aw.iret rfl dX6_exchanges_102
abbrev MX6_turns : Mt := (RX6, cX6_turns, 4, (some .int), 4)
def f_X6_turns (r0 : Nat) (x1 : Int32) (x2 : Int32) (x3 : Int32) (σ : Sg) : Option (Int32 × Sg) := if kd r0 = 6 then (cb (f_X6_notes r0 σ) (fun _ τ2 => cb (f_X6_setsAt r0 x1 x2 1 x3 τ2) (fun a3 τ4 => cb (f_X6_done r0 a3 τ4) (fun a5 τ6 => some (a5, τ6))))) else none
theorem cv_X6_86 : CV RX6 86 6 yX6_setsAt MX6_setsAt 4 := ⟨_, rfl, rfl, ml_X6_86, ins_X6_setsAt, sel_X6_setsAt, ini_X6, cw_X6_setsAt, ⟨by decide, by decide, by decide +kernel⟩⟩
set_option maxRecDepth 100000 in
set_option maxHeartbeats 4000000 in
theorem ct_X6_turns (l : Launch) (G : Gt) (r0 : Nat) (x1 : Int32) (x2 : Int32) (x3 : Int32) (σ : Sg) : Ct l G yX6_turns MX6_turns rI [.ref (Gb G + r0), .int x1, .int x2, .int x3] σ (f_X6_turns r0 x1 x2 x3 σ) := by
  refine Ct.of (by decide +kernel) rfl (Nat.le_of_ble_eq_true rfl) ?_
  show Aw l G MX6_turns rI 0 [(0, .ref (Gb G + r0)), (1, .int x1), (2, .int x2), (3, .int x3)] [] σ _
  unfold f_X6_turns
  refine Aw.gd (fun hr0 => ?_)
  refine Aw.aload_n 0 rfl rfl dX6_turns_0 ?_
  refine Aw.callVv (As := []) (rest := []) cv_X6_72 (Nat.le_of_ble_eq_true rfl) hr0 (ct_X6_notes l G r0 σ) rfl rfl (Nat.le_of_ble_eq_true rfl) (Nat.le_of_ble_eq_true rfl) (Nat.le_of_ble_eq_true rfl) rfl dX6_turns_1 (fun a1 τ2 _ => ?_)
  refine Aw.aload_n 0 rfl rfl dX6_turns_4 ?_
  refine Aw.aload_n 0 rfl rfl dX6_turns_5 ?_
  refine Aw.iload_n 1 rfl rfl dX6_turns_6 ?_
  refine Aw.iload_n 2 rfl rfl dX6_turns_7 ?_
  refine Aw.iconst (v := 1) ic_1 rfl dX6_turns_8 ?_
  refine Aw.iload_n 3 rfl rfl dX6_turns_9 ?_
  refine Aw.callVi (As := [.int x1, .int x2, .int 1, .int x3]) (rest := [.ref (Gb G + r0)]) cv_X6_86 (Nat.le_of_ble_eq_true rfl) hr0 (ct_X6_setsAt l G r0 x1 x2 1 x3 τ2) rfl rfl (Nat.le_of_ble_eq_true rfl) (Nat.le_of_ble_eq_true rfl) (Nat.le_of_ble_eq_true rfl) rfl dX6_turns_10 (fun a3 τ4 _ => ?_)
  refine Aw.callVi (As := [.int a3]) (rest := []) cv_X6_79 (Nat.le_of_ble_eq_true rfl) hr0 (ct_X6_done l G r0 a3 τ4) rfl rfl (Nat.le_of_ble_eq_true rfl) (Nat.le_of_ble_eq_true rfl) (Nat.le_of_ble_eq_true rfl) rfl dX6_turns_13 (fun a5 τ6 _ => ?_)
  exact Aw.iret rfl dX6_turns_16
abbrev MX6_wants : Mt := (RX6, cX6_wants, 4, (some .int), 4)
def f_X6_wants (r0 : Nat) (x1 : Int32) (x2 : Int32) (x3 : Int32) (σ : Sg) : Option (Int32 × Sg) := if kd r0 = 6 then (cb (f_X6_notes r0 σ) (fun _ τ2 => cb (f_X6_setsAt r0 x1 x2 2 x3 τ2) (fun a3 τ4 => cb (f_X6_done r0 a3 τ4) (fun a5 τ6 => some (a5, τ6))))) else none
set_option maxRecDepth 100000 in
set_option maxHeartbeats 4000000 in
theorem ct_X6_wants (l : Launch) (G : Gt) (r0 : Nat) (x1 : Int32) (x2 : Int32) (x3 : Int32) (σ : Sg) : Ct l G yX6_wants MX6_wants rI [.ref (Gb G + r0), .int x1, .int x2, .int x3] σ (f_X6_wants r0 x1 x2 x3 σ) := by
  refine Ct.of (by decide +kernel) rfl (Nat.le_of_ble_eq_true rfl) ?_
  show Aw l G MX6_wants rI 0 [(0, .ref (Gb G + r0)), (1, .int x1), (2, .int x2), (3, .int x3)] [] σ _
  unfold f_X6_wants
  refine Aw.gd (fun hr0 => ?_)
  refine Aw.aload_n 0 rfl rfl dX6_wants_0 ?_
  refine Aw.callVv (As := []) (rest := []) cv_X6_72 (Nat.le_of_ble_eq_true rfl) hr0 (ct_X6_notes l G r0 σ) rfl rfl (Nat.le_of_ble_eq_true rfl) (Nat.le_of_ble_eq_true rfl) (Nat.le_of_ble_eq_true rfl) rfl dX6_wants_1 (fun a1 τ2 _ => ?_)
  refine Aw.aload_n 0 rfl rfl dX6_wants_4 ?_
  refine Aw.aload_n 0 rfl rfl dX6_wants_5 ?_
  refine Aw.iload_n 1 rfl rfl dX6_wants_6 ?_
  refine Aw.iload_n 2 rfl rfl dX6_wants_7 ?_
  refine Aw.iconst (v := 2) ic_2 rfl dX6_wants_8 ?_
  refine Aw.iload_n 3 rfl rfl dX6_wants_9 ?_
  refine Aw.callVi (As := [.int x1, .int x2, .int 2, .int x3]) (rest := [.ref (Gb G + r0)]) cv_X6_86 (Nat.le_of_ble_eq_true rfl) hr0 (ct_X6_setsAt l G r0 x1 x2 2 x3 τ2) rfl rfl (Nat.le_of_ble_eq_true rfl) (Nat.le_of_ble_eq_true rfl) (Nat.le_of_ble_eq_true rfl) rfl dX6_wants_10 (fun a3 τ4 _ => ?_)
  refine Aw.callVi (As := [.int a3]) (rest := []) cv_X6_79 (Nat.le_of_ble_eq_true rfl) hr0 (ct_X6_done l G r0 a3 τ4) rfl rfl (Nat.le_of_ble_eq_true rfl) (Nat.le_of_ble_eq_true rfl) (Nat.le_of_ble_eq_true rfl) rfl dX6_wants_13 (fun a5 τ6 _ => ?_)
  exact Aw.iret rfl dX6_wants_16
abbrev MX6_joins : Mt := (RX6, cX6_joins, 7, (some .int), 3)
def f_X6_joins_16  (r0 : Nat) (σ : Sg) : Option (Int32 × Sg) := if kd r0 = 6 then (cb (f_X6_refused r0 ((-2)) σ) (fun a1 τ2 => some (a1, τ2))) else none
def f_X6_joins_94 (rc25 : Nat → Int32 → Int32 → Int32 → Sg → Option (Int32 × Sg)) (r0 : Nat) (x1 : Int32) (x2 : Int32) (x3 : Int32) (σ : Sg) : Option (Int32 × Sg) := if kd r0 = 6 then (rc25 r0 x1 x2 (x3 + 1) σ) else none
def f_X6_joins_270 (rc130 : Nat → Int32 → Int32 → Int32 → Int32 → Sg → Option (Int32 × Sg)) (r0 : Nat) (x1 : Int32) (x2 : Int32) (x3 : Int32) (x4 : Int32) (sr0 : Nat) (s1 : Int32) (s2 : Int32) (σ : Sg) : Option (Int32 × Sg) := if kd r0 = 6 then (if kd sr0 = 7 then (if inb s1 (ln sr0) then (bn (up σ sr0 (ix s1) s2) (fun τ2 => rc130 r0 x1 x2 x3 (x4 + 1) τ2)) else none) else none) else none
def f_X6_joins_130  : Nat → Nat → Int32 → Int32 → Int32 → Int32 → Sg → Option (Int32 × Sg)
  | 0, _, _, _, _, _, _ => none
  | n + 1, r0, x1, x2, x3, x4, σ => if kd r0 = 6 then (if 12 ≤ x4 then (some (x3, σ)) else (cb (f_X6_place r0 x1 x4 0 σ) (fun a1 τ2 => if inb a1 336 then (bn (τ2 (rf r0 0) (ix a1)) (fun b4 => cb (f_X6_place r0 x1 x4 2 τ2) (fun a5 τ6 => if inb a5 336 then (bn (τ6 (rf r0 0) (ix a5)) (fun b8 => cb (f_X6_place r0 x3 x4 0 τ6) (fun a9 τ10 => cb (f_X6_place r0 x2 b4 0 τ10) (fun a11 τ12 => if inb a11 336 then (if inb a9 336 then (bn (up τ12 (rf r0 0) (ix a9) (τ12 (rf r0 0) (ix a11))) (fun τ15 => cb (f_X6_place r0 x3 x4 1 τ15) (fun a16 τ17 => cb (f_X6_place r0 x1 x4 1 τ17) (fun a18 τ19 => if inb a18 336 then (cb (f_X6_place r0 x2 b4 1 τ19) (fun a21 τ22 => if inb a21 336 then (if inb a16 336 then (bn (up τ22 (rf r0 0) (ix a16) (rem ((τ19 (rf r0 0) (ix a18)) + (τ22 (rf r0 0) (ix a21))) 4)) (fun τ25 => cb (f_X6_place r0 x3 x4 2 τ25) (fun a26 τ27 => if b8 = 0 then (cb (f_X6_place r0 x2 b4 2 τ27) (fun a28 τ29 => if inb a28 336 then (f_X6_joins_270 (f_X6_joins_130 n) r0 x1 x2 x3 x4 (rf r0 0) a26 (τ29 (rf r0 0) (ix a28)) τ29) else none)) else (f_X6_joins_270 (f_X6_joins_130 n) r0 x1 x2 x3 x4 (rf r0 0) a26 b8 τ27)))) else none) else none)) else none)))) else none) else none)))) else none))) else none))) else none
def f_X6_joins_25  : Nat → Nat → Int32 → Int32 → Int32 → Sg → Option (Int32 × Sg)
  | 0, _, _, _, _, _ => none
  | n + 1, r0, x1, x2, x3, σ => if kd r0 = 6 then (if 12 ≤ x3 then (if inb 1 336 then (if σ (rf r0 0) (ix 1) = 8 then (cb (f_X6_refused r0 ((-4)) σ) (fun a6 τ7 => some (a6, τ7))) else (cb (f_X6_keeps r0 σ) (fun _ τ3 => cb (f_X6_adds r0 τ3) (fun a4 τ5 => f_X6_joins_130 FU r0 x1 x2 a4 0 τ5)))) else none) else (cb (f_X6_place r0 x1 x3 2 σ) (fun a8 τ9 => if inb a8 336 then (bn (τ9 (rf r0 0) (ix a8)) (fun b11 => cb (f_X6_place r0 x1 x3 0 τ9) (fun a12 τ13 => if inb a12 336 then (cb (f_X6_place r0 x2 (τ13 (rf r0 0) (ix a12)) 2 τ13) (fun a15 τ16 => if inb a15 336 then (bn (τ16 (rf r0 0) (ix a15)) (fun b18 => if b11 = 0 then (f_X6_joins_94 (f_X6_joins_25 n) r0 x1 x2 x3 τ16) else (if b18 = 0 then (f_X6_joins_94 (f_X6_joins_25 n) r0 x1 x2 x3 τ16) else (if b11 = b18 then (f_X6_joins_94 (f_X6_joins_25 n) r0 x1 x2 x3 τ16) else (cb (f_X6_refused r0 ((-3)) τ16) (fun a19 τ20 => some (a19, τ20))))))) else none)) else none))) else none))) else none
def f_X6_joins (r0 : Nat) (x1 : Int32) (x2 : Int32) (σ : Sg) : Option (Int32 × Sg) := if kd r0 = 6 then (cb (f_X6_isCall r0 x1 σ) (fun a1 τ2 => if a1 = 0 then (f_X6_joins_16 r0 τ2) else (cb (f_X6_isCall r0 x2 τ2) (fun a3 τ4 => if a3 = 0 then (f_X6_joins_16 r0 τ4) else (f_X6_joins_25 FU r0 x1 x2 0 τ4))))) else none
set_option maxRecDepth 100000 in
set_option maxHeartbeats 4000000 in
theorem aw_X6_joins_16 (l : Launch) (G : Gt) (r0 : Nat) (σ : Sg) : Aw l G MX6_joins rI 16 [(0, .ref (Gb G + r0))] [] σ (f_X6_joins_16 r0 σ) := by
  unfold f_X6_joins_16
  refine Aw.gd (fun hr0 => ?_)
  refine Aw.aload_n 0 rfl rfl dX6_joins_16 ?_
  refine Aw.bipush (v := (-2)) ib_m2 rfl dX6_joins_17 ?_
  refine Aw.callVi (As := [.int ((-2))]) (rest := []) cv_X6_38 (Nat.le_of_ble_eq_true rfl) hr0 (ct_X6_refused l G r0 ((-2)) σ) rfl rfl (Nat.le_of_ble_eq_true rfl) (Nat.le_of_ble_eq_true rfl) (Nat.le_of_ble_eq_true rfl) rfl dX6_joins_19 (fun a1 τ2 _ => ?_)
  exact Aw.iret rfl dX6_joins_22
set_option maxRecDepth 100000 in
set_option maxHeartbeats 4000000 in
theorem aw_X6_joins_94 (l : Launch) (G : Gt) (rc25 : Nat → Int32 → Int32 → Int32 → Sg → Option (Int32 × Sg)) (hrc25 : ∀ (r0 : Nat) (x1 : Int32) (x2 : Int32) (x3 : Int32) (σ : Sg), Aw l G MX6_joins rI 25 [(0, .ref (Gb G + r0)), (1, .int x1), (2, .int x2), (3, .int x3)] [] σ (rc25 r0 x1 x2 x3 σ)) (r0 : Nat) (x1 : Int32) (x2 : Int32) (x3 : Int32) (σ : Sg) : Aw l G MX6_joins rI 94 [(0, .ref (Gb G + r0)), (1, .int x1), (2, .int x2), (3, .int x3)] [] σ (f_X6_joins_94 rc25 r0 x1 x2 x3 σ) := by
  unfold f_X6_joins_94
  refine Aw.gd (fun hr0 => ?_)
  refine Aw.iinc (v := x3 + 1) (L' := [(3, .int (x3 + 1)), (0, .ref (Gb G + r0)), (1, .int x1), (2, .int x2)]) 3 rfl (ii_1 _) (Nat.le_of_ble_eq_true rfl) rfl rfl dX6_joins_94 ?_
  refine Aw.goto (q := 25) (by decide) dX6_joins_97 ?_
  refine Aw.sub (L' := [(0, .ref (Gb G + r0)), (1, .int x1), (2, .int x2), (3, .int (x3 + 1))]) [1, 2, 3, 0] rfl ?_
  exact hrc25 _ _ _ _ _
set_option maxRecDepth 100000 in
set_option maxHeartbeats 4000000 in
theorem aw_X6_joins_270 (l : Launch) (G : Gt) (rc130 : Nat → Int32 → Int32 → Int32 → Int32 → Sg → Option (Int32 × Sg)) (hrc130 : ∀ (r0 : Nat) (x1 : Int32) (x2 : Int32) (x3 : Int32) (x4 : Int32) (σ : Sg), Aw l G MX6_joins rI 130 [(0, .ref (Gb G + r0)), (1, .int x1), (2, .int x2), (3, .int x3), (4, .int x4)] [] σ (rc130 r0 x1 x2 x3 x4 σ)) (r0 : Nat) (x1 : Int32) (x2 : Int32) (x3 : Int32) (x4 : Int32) (sr0 : Nat) (s1 : Int32) (s2 : Int32) (σ : Sg) : Aw l G MX6_joins rI 270 [(0, .ref (Gb G + r0)), (1, .int x1), (2, .int x2), (3, .int x3), (4, .int x4)] [.int s2, .int s1, .ref (Gb G + sr0)] σ (f_X6_joins_270 rc130 r0 x1 x2 x3 x4 sr0 s1 s2 σ) := by
  unfold f_X6_joins_270
  refine Aw.gd (fun hr0 => ?_)
  refine Aw.gd (fun hsr0 => ?_)
  refine Aw.iast (n := ln sr0) hsr0 rfl rfl dX6_joins_270 (fun hb1 => ?_)
  refine Aw.bs (fun τ2 => ?_)
  refine Aw.iinc (v := x4 + 1) (L' := [(4, .int (x4 + 1)), (0, .ref (Gb G + r0)), (1, .int x1), (2, .int x2), (3, .int x3)]) 4 rfl (ii_1 _) (Nat.le_of_ble_eq_true rfl) rfl rfl dX6_joins_271 ?_
  refine Aw.goto (q := 130) (by decide) dX6_joins_274 ?_
  refine Aw.sub (L' := [(0, .ref (Gb G + r0)), (1, .int x1), (2, .int x2), (3, .int x3), (4, .int (x4 + 1))]) [1, 2, 3, 4, 0] rfl ?_
  exact hrc130 _ _ _ _ _ _
set_option maxRecDepth 100000 in
set_option maxHeartbeats 4000000 in
theorem aw_X6_joins_130 (l : Launch) (G : Gt) : ∀ (n : Nat) (r0 : Nat) (x1 : Int32) (x2 : Int32) (x3 : Int32) (x4 : Int32) (σ : Sg), Aw l G MX6_joins rI 130 [(0, .ref (Gb G + r0)), (1, .int x1), (2, .int x2), (3, .int x3), (4, .int x4)] [] σ (f_X6_joins_130 n r0 x1 x2 x3 x4 σ) := by
  intro n
  induction n with
  | zero => intro r0 x1 x2 x3 x4 σ; exact Aw.no
  | succ n ih =>
    intro r0 x1 x2 x3 x4 σ
    rw [f_X6_joins_130]
    refine Aw.gd (fun hr0 => ?_)
    refine Aw.iload 4 rfl rfl dX6_joins_130 ?_
    refine Aw.bipush (v := 12) ib_12 rfl dX6_joins_132 ?_
    refine Aw.icmp_ge (q := 137) (t := 277) rfl (by decide) dX6_joins_134 (fun hc => ?_) (fun hc => ?_)
    · refine Aw.iload_n 3 rfl rfl dX6_joins_277 ?_
      exact Aw.iret rfl dX6_joins_278
    · refine Aw.aload_n 0 rfl rfl dX6_joins_137 ?_
      refine Aw.getR fl_X6_7 (Nat.le_of_ble_eq_true rfl) rfl hr0 rfl dX6_joins_138 ?_
      refine Aw.aload_n 0 rfl rfl dX6_joins_141 ?_
      refine Aw.iload_n 1 rfl rfl dX6_joins_142 ?_
      refine Aw.iload 4 rfl rfl dX6_joins_143 ?_
      refine Aw.iconst (v := 0) ic_0 rfl dX6_joins_145 ?_
      refine Aw.callVi (As := [.int x1, .int x4, .int 0]) (rest := [.ref (Gb G + rf r0 0)]) cv_X6_56 (Nat.le_of_ble_eq_true rfl) hr0 (ct_X6_place l G r0 x1 x4 0 σ) rfl rfl (Nat.le_of_ble_eq_true rfl) (Nat.le_of_ble_eq_true rfl) (Nat.le_of_ble_eq_true rfl) rfl dX6_joins_146 (fun a1 τ2 _ => ?_)
      refine Aw.iald (n := 336) (ft_6_0 hr0).1 (ft_6_0 hr0).2 rfl dX6_joins_149 (fun hb3 => ?_)
      refine Aw.bi (fun b4 => ?_)
      refine Aw.istore (L' := [(5, .int b4), (0, .ref (Gb G + r0)), (1, .int x1), (2, .int x2), (3, .int x3), (4, .int x4)]) (Nat.le_of_ble_eq_true rfl) rfl rfl dX6_joins_150 ?_
      refine Aw.aload_n 1 rfl rfl dX6_joins_152 ?_
      refine Aw.getR fl_X6_7 (Nat.le_of_ble_eq_true rfl) rfl hr0 rfl dX6_joins_153 ?_
      refine Aw.aload_n 1 rfl rfl dX6_joins_156 ?_
      refine Aw.iload_n 2 rfl rfl dX6_joins_157 ?_
      refine Aw.iload 5 rfl rfl dX6_joins_158 ?_
      refine Aw.iconst (v := 2) ic_2 rfl dX6_joins_160 ?_
      refine Aw.callVi (As := [.int x1, .int x4, .int 2]) (rest := [.ref (Gb G + rf r0 0)]) cv_X6_56 (Nat.le_of_ble_eq_true rfl) hr0 (ct_X6_place l G r0 x1 x4 2 τ2) rfl rfl (Nat.le_of_ble_eq_true rfl) (Nat.le_of_ble_eq_true rfl) (Nat.le_of_ble_eq_true rfl) rfl dX6_joins_161 (fun a5 τ6 _ => ?_)
      refine Aw.iald (n := 336) (ft_6_0 hr0).1 (ft_6_0 hr0).2 rfl dX6_joins_164 (fun hb7 => ?_)
      refine Aw.bi (fun b8 => ?_)
      refine Aw.istore (L' := [(6, .int b8), (5, .int b4), (0, .ref (Gb G + r0)), (1, .int x1), (2, .int x2), (3, .int x3), (4, .int x4)]) (Nat.le_of_ble_eq_true rfl) rfl rfl dX6_joins_165 ?_
      refine Aw.aload_n 2 rfl rfl dX6_joins_167 ?_
      refine Aw.getR fl_X6_7 (Nat.le_of_ble_eq_true rfl) rfl hr0 rfl dX6_joins_168 ?_
      refine Aw.aload_n 2 rfl rfl dX6_joins_171 ?_
      refine Aw.iload_n 5 rfl rfl dX6_joins_172 ?_
      refine Aw.iload 6 rfl rfl dX6_joins_173 ?_
      refine Aw.iconst (v := 0) ic_0 rfl dX6_joins_175 ?_
      refine Aw.callVi (As := [.int x3, .int x4, .int 0]) (rest := [.ref (Gb G + rf r0 0)]) cv_X6_56 (Nat.le_of_ble_eq_true rfl) hr0 (ct_X6_place l G r0 x3 x4 0 τ6) rfl rfl (Nat.le_of_ble_eq_true rfl) (Nat.le_of_ble_eq_true rfl) (Nat.le_of_ble_eq_true rfl) rfl dX6_joins_176 (fun a9 τ10 _ => ?_)
      refine Aw.aload_n 2 rfl rfl dX6_joins_179 ?_
      refine Aw.getR fl_X6_7 (Nat.le_of_ble_eq_true rfl) rfl hr0 rfl dX6_joins_180 ?_
      refine Aw.aload_n 2 rfl rfl dX6_joins_183 ?_
      refine Aw.iload_n 4 rfl rfl dX6_joins_184 ?_
      refine Aw.iload 1 rfl rfl dX6_joins_185 ?_
      refine Aw.iconst (v := 0) ic_0 rfl dX6_joins_187 ?_
      refine Aw.callVi (As := [.int x2, .int b4, .int 0]) (rest := [.ref (Gb G + rf r0 0), .int a9, .ref (Gb G + rf r0 0)]) cv_X6_56 (Nat.le_of_ble_eq_true rfl) hr0 (ct_X6_place l G r0 x2 b4 0 τ10) rfl rfl (Nat.le_of_ble_eq_true rfl) (Nat.le_of_ble_eq_true rfl) (Nat.le_of_ble_eq_true rfl) rfl dX6_joins_188 (fun a11 τ12 _ => ?_)
      refine Aw.iald (n := 336) (ft_6_0 hr0).1 (ft_6_0 hr0).2 rfl dX6_joins_191 (fun hb13 => ?_)
      refine Aw.iast (n := 336) (ft_6_0 hr0).1 (ft_6_0 hr0).2 rfl dX6_joins_192 (fun hb14 => ?_)
      refine Aw.bs (fun τ15 => ?_)
      refine Aw.aload_n 2 rfl rfl dX6_joins_193 ?_
      refine Aw.getR fl_X6_7 (Nat.le_of_ble_eq_true rfl) rfl hr0 rfl dX6_joins_194 ?_
      refine Aw.aload_n 2 rfl rfl dX6_joins_197 ?_
      refine Aw.iload_n 5 rfl rfl dX6_joins_198 ?_
      refine Aw.iload 6 rfl rfl dX6_joins_199 ?_
      refine Aw.iconst (v := 1) ic_1 rfl dX6_joins_201 ?_
      refine Aw.callVi (As := [.int x3, .int x4, .int 1]) (rest := [.ref (Gb G + rf r0 0)]) cv_X6_56 (Nat.le_of_ble_eq_true rfl) hr0 (ct_X6_place l G r0 x3 x4 1 τ15) rfl rfl (Nat.le_of_ble_eq_true rfl) (Nat.le_of_ble_eq_true rfl) (Nat.le_of_ble_eq_true rfl) rfl dX6_joins_202 (fun a16 τ17 _ => ?_)
      refine Aw.aload_n 2 rfl rfl dX6_joins_205 ?_
      refine Aw.getR fl_X6_7 (Nat.le_of_ble_eq_true rfl) rfl hr0 rfl dX6_joins_206 ?_
      refine Aw.aload_n 2 rfl rfl dX6_joins_209 ?_
      refine Aw.iload_n 3 rfl rfl dX6_joins_210 ?_
      refine Aw.iload 6 rfl rfl dX6_joins_211 ?_
      refine Aw.iconst (v := 1) ic_1 rfl dX6_joins_213 ?_
      refine Aw.callVi (As := [.int x1, .int x4, .int 1]) (rest := [.ref (Gb G + rf r0 0), .int a16, .ref (Gb G + rf r0 0)]) cv_X6_56 (Nat.le_of_ble_eq_true rfl) hr0 (ct_X6_place l G r0 x1 x4 1 τ17) rfl rfl (Nat.le_of_ble_eq_true rfl) (Nat.le_of_ble_eq_true rfl) (Nat.le_of_ble_eq_true rfl) rfl dX6_joins_214 (fun a18 τ19 _ => ?_)
      refine Aw.iald (n := 336) (ft_6_0 hr0).1 (ft_6_0 hr0).2 rfl dX6_joins_217 (fun hb20 => ?_)
      refine Aw.aload_n 2 rfl rfl dX6_joins_218 ?_
      refine Aw.getR fl_X6_7 (Nat.le_of_ble_eq_true rfl) rfl hr0 rfl dX6_joins_219 ?_
      refine Aw.aload_n 2 rfl rfl dX6_joins_222 ?_
      refine Aw.iload_n 4 rfl rfl dX6_joins_223 ?_
      refine Aw.iload 1 rfl rfl dX6_joins_224 ?_
      refine Aw.iconst (v := 1) ic_1 rfl dX6_joins_226 ?_
      refine Aw.callVi (As := [.int x2, .int b4, .int 1]) (rest := [.ref (Gb G + rf r0 0), .int (τ19 (rf r0 0) (ix a18)), .int a16, .ref (Gb G + rf r0 0)]) cv_X6_56 (Nat.le_of_ble_eq_true rfl) hr0 (ct_X6_place l G r0 x2 b4 1 τ19) rfl rfl (Nat.le_of_ble_eq_true rfl) (Nat.le_of_ble_eq_true rfl) (Nat.le_of_ble_eq_true rfl) rfl dX6_joins_227 (fun a21 τ22 _ => ?_)
      refine Aw.iald (n := 336) (ft_6_0 hr0).1 (ft_6_0 hr0).2 rfl dX6_joins_230 (fun hb23 => ?_)
      refine Aw.iadd rfl dX6_joins_231 ?_
      refine Aw.iconst (v := 4) ic_4 rfl dX6_joins_232 ?_
      refine Aw.irem nz_4 rfl dX6_joins_233 ?_
      refine Aw.iast (n := 336) (ft_6_0 hr0).1 (ft_6_0 hr0).2 rfl dX6_joins_234 (fun hb24 => ?_)
      refine Aw.bs (fun τ25 => ?_)
      refine Aw.aload_n 2 rfl rfl dX6_joins_235 ?_
      refine Aw.getR fl_X6_7 (Nat.le_of_ble_eq_true rfl) rfl hr0 rfl dX6_joins_236 ?_
      refine Aw.aload_n 2 rfl rfl dX6_joins_239 ?_
      refine Aw.iload_n 5 rfl rfl dX6_joins_240 ?_
      refine Aw.iload 6 rfl rfl dX6_joins_241 ?_
      refine Aw.iconst (v := 2) ic_2 rfl dX6_joins_243 ?_
      refine Aw.callVi (As := [.int x3, .int x4, .int 2]) (rest := [.ref (Gb G + rf r0 0)]) cv_X6_56 (Nat.le_of_ble_eq_true rfl) hr0 (ct_X6_place l G r0 x3 x4 2 τ25) rfl rfl (Nat.le_of_ble_eq_true rfl) (Nat.le_of_ble_eq_true rfl) (Nat.le_of_ble_eq_true rfl) rfl dX6_joins_244 (fun a26 τ27 _ => ?_)
      refine Aw.iload 0 rfl rfl dX6_joins_247 ?_
      refine Aw.if_eq (q := 252) (t := 257) rfl (by decide) dX6_joins_249 (fun hc => ?_) (fun hc => ?_)
      · refine Aw.aload_n 2 rfl rfl dX6_joins_257 ?_
        refine Aw.getR fl_X6_7 (Nat.le_of_ble_eq_true rfl) rfl hr0 rfl dX6_joins_258 ?_
        refine Aw.aload_n 2 rfl rfl dX6_joins_261 ?_
        refine Aw.iload_n 4 rfl rfl dX6_joins_262 ?_
        refine Aw.iload 1 rfl rfl dX6_joins_263 ?_
        refine Aw.iconst (v := 2) ic_2 rfl dX6_joins_265 ?_
        refine Aw.callVi (As := [.int x2, .int b4, .int 2]) (rest := [.ref (Gb G + rf r0 0), .int a26, .ref (Gb G + rf r0 0)]) cv_X6_56 (Nat.le_of_ble_eq_true rfl) hr0 (ct_X6_place l G r0 x2 b4 2 τ27) rfl rfl (Nat.le_of_ble_eq_true rfl) (Nat.le_of_ble_eq_true rfl) (Nat.le_of_ble_eq_true rfl) rfl dX6_joins_266 (fun a28 τ29 _ => ?_)
        refine Aw.iald (n := 336) (ft_6_0 hr0).1 (ft_6_0 hr0).2 rfl dX6_joins_269 (fun hb30 => ?_)
        refine Aw.sub (L' := [(0, .ref (Gb G + r0)), (1, .int x1), (2, .int x2), (3, .int x3), (4, .int x4)]) [2, 3, 4, 5, 6] rfl ?_
        exact aw_X6_joins_270 l G _ ih _ _ _ _ _ _ _ _ _
      · refine Aw.iload 0 rfl rfl dX6_joins_252 ?_
        refine Aw.goto (q := 270) (by decide) dX6_joins_254 ?_
        refine Aw.sub (L' := [(0, .ref (Gb G + r0)), (1, .int x1), (2, .int x2), (3, .int x3), (4, .int x4)]) [2, 3, 4, 5, 6] rfl ?_
        exact aw_X6_joins_270 l G _ ih _ _ _ _ _ _ _ _ _
set_option maxRecDepth 100000 in
set_option maxHeartbeats 4000000 in
theorem aw_X6_joins_25 (l : Launch) (G : Gt) : ∀ (n : Nat) (r0 : Nat) (x1 : Int32) (x2 : Int32) (x3 : Int32) (σ : Sg), Aw l G MX6_joins rI 25 [(0, .ref (Gb G + r0)), (1, .int x1), (2, .int x2), (3, .int x3)] [] σ (f_X6_joins_25 n r0 x1 x2 x3 σ) := by
  intro n
  induction n with
  | zero => intro r0 x1 x2 x3 σ; exact Aw.no
  | succ n ih =>
    intro r0 x1 x2 x3 σ
    rw [f_X6_joins_25]
    refine Aw.gd (fun hr0 => ?_)
    refine Aw.iload_n 3 rfl rfl dX6_joins_25 ?_
    refine Aw.bipush (v := 12) ib_12 rfl dX6_joins_26 ?_
    refine Aw.icmp_ge (q := 31) (t := 100) rfl (by decide) dX6_joins_28 (fun hc => ?_) (fun hc => ?_)
    · refine Aw.aload_n 0 rfl rfl dX6_joins_100 ?_
      refine Aw.getR fl_X6_7 (Nat.le_of_ble_eq_true rfl) rfl hr0 rfl dX6_joins_101 ?_
      refine Aw.iconst (v := 1) ic_1 rfl dX6_joins_104 ?_
      refine Aw.iald (n := 336) (ft_6_0 hr0).1 (ft_6_0 hr0).2 rfl dX6_joins_105 (fun hb1 => ?_)
      refine Aw.bipush (v := 8) ib_8 rfl dX6_joins_106 ?_
      refine Aw.icmp_ne (q := 111) (t := 118) rfl (by decide) dX6_joins_108 (fun hc => ?_) (fun hc => ?_)
      · refine Aw.aload_n 0 rfl rfl dX6_joins_111 ?_
        refine Aw.bipush (v := (-4)) ib_m4 rfl dX6_joins_112 ?_
        refine Aw.callVi (As := [.int ((-4))]) (rest := []) cv_X6_38 (Nat.le_of_ble_eq_true rfl) hr0 (ct_X6_refused l G r0 ((-4)) σ) rfl rfl (Nat.le_of_ble_eq_true rfl) (Nat.le_of_ble_eq_true rfl) (Nat.le_of_ble_eq_true rfl) rfl dX6_joins_114 (fun a6 τ7 _ => ?_)
        exact Aw.iret rfl dX6_joins_117
      · refine Aw.aload_n 0 rfl rfl dX6_joins_118 ?_
        refine Aw.callVv (As := []) (rest := []) cv_X6_45 (Nat.le_of_ble_eq_true rfl) hr0 (ct_X6_keeps l G r0 σ) rfl rfl (Nat.le_of_ble_eq_true rfl) (Nat.le_of_ble_eq_true rfl) (Nat.le_of_ble_eq_true rfl) rfl dX6_joins_119 (fun a2 τ3 _ => ?_)
        refine Aw.aload_n 0 rfl rfl dX6_joins_122 ?_
        refine Aw.callVi (As := []) (rest := []) cv_X6_82 (Nat.le_of_ble_eq_true rfl) hr0 (ct_X6_adds l G r0 τ3) rfl rfl (Nat.le_of_ble_eq_true rfl) (Nat.le_of_ble_eq_true rfl) (Nat.le_of_ble_eq_true rfl) rfl dX6_joins_123 (fun a4 τ5 _ => ?_)
        refine Aw.istore_n (L' := [(3, .int a4), (0, .ref (Gb G + r0)), (1, .int x1), (2, .int x2)]) (Nat.le_of_ble_eq_true rfl) rfl rfl dX6_joins_126 ?_
        refine Aw.iconst (v := 0) ic_0 rfl dX6_joins_127 ?_
        refine Aw.istore (L' := [(4, .int 0), (3, .int a4), (0, .ref (Gb G + r0)), (1, .int x1), (2, .int x2)]) (Nat.le_of_ble_eq_true rfl) rfl rfl dX6_joins_128 ?_
        refine Aw.sub (L' := [(0, .ref (Gb G + r0)), (1, .int x1), (2, .int x2), (3, .int a4), (4, .int 0)]) [2, 3, 4, 1, 0] rfl ?_
        exact aw_X6_joins_130 l G FU _ _ _ _ _ _
    · refine Aw.aload_n 0 rfl rfl dX6_joins_31 ?_
      refine Aw.getR fl_X6_7 (Nat.le_of_ble_eq_true rfl) rfl hr0 rfl dX6_joins_32 ?_
      refine Aw.aload_n 0 rfl rfl dX6_joins_35 ?_
      refine Aw.iload_n 1 rfl rfl dX6_joins_36 ?_
      refine Aw.iload_n 3 rfl rfl dX6_joins_37 ?_
      refine Aw.iconst (v := 2) ic_2 rfl dX6_joins_38 ?_
      refine Aw.callVi (As := [.int x1, .int x3, .int 2]) (rest := [.ref (Gb G + rf r0 0)]) cv_X6_56 (Nat.le_of_ble_eq_true rfl) hr0 (ct_X6_place l G r0 x1 x3 2 σ) rfl rfl (Nat.le_of_ble_eq_true rfl) (Nat.le_of_ble_eq_true rfl) (Nat.le_of_ble_eq_true rfl) rfl dX6_joins_39 (fun a8 τ9 _ => ?_)
      refine Aw.iald (n := 336) (ft_6_0 hr0).1 (ft_6_0 hr0).2 rfl dX6_joins_42 (fun hb10 => ?_)
      refine Aw.bi (fun b11 => ?_)
      refine Aw.istore (L' := [(4, .int b11), (0, .ref (Gb G + r0)), (1, .int x1), (2, .int x2), (3, .int x3)]) (Nat.le_of_ble_eq_true rfl) rfl rfl dX6_joins_43 ?_
      refine Aw.aload_n 1 rfl rfl dX6_joins_45 ?_
      refine Aw.getR fl_X6_7 (Nat.le_of_ble_eq_true rfl) rfl hr0 rfl dX6_joins_46 ?_
      refine Aw.aload_n 1 rfl rfl dX6_joins_49 ?_
      refine Aw.iload_n 3 rfl rfl dX6_joins_50 ?_
      refine Aw.aload_n 1 rfl rfl dX6_joins_51 ?_
      refine Aw.getR fl_X6_7 (Nat.le_of_ble_eq_true rfl) rfl hr0 rfl dX6_joins_52 ?_
      refine Aw.aload_n 1 rfl rfl dX6_joins_55 ?_
      refine Aw.iload_n 2 rfl rfl dX6_joins_56 ?_
      refine Aw.iload_n 4 rfl rfl dX6_joins_57 ?_
      refine Aw.iconst (v := 0) ic_0 rfl dX6_joins_58 ?_
      refine Aw.callVi (As := [.int x1, .int x3, .int 0]) (rest := [.ref (Gb G + rf r0 0), .int x2, .ref (Gb G + r0), .ref (Gb G + rf r0 0)]) cv_X6_56 (Nat.le_of_ble_eq_true rfl) hr0 (ct_X6_place l G r0 x1 x3 0 τ9) rfl rfl (Nat.le_of_ble_eq_true rfl) (Nat.le_of_ble_eq_true rfl) (Nat.le_of_ble_eq_true rfl) rfl dX6_joins_59 (fun a12 τ13 _ => ?_)
      refine Aw.iald (n := 336) (ft_6_0 hr0).1 (ft_6_0 hr0).2 rfl dX6_joins_62 (fun hb14 => ?_)
      refine Aw.iconst (v := 2) ic_2 rfl dX6_joins_63 ?_
      refine Aw.callVi (As := [.int x2, .int (τ13 (rf r0 0) (ix a12)), .int 2]) (rest := [.ref (Gb G + rf r0 0)]) cv_X6_56 (Nat.le_of_ble_eq_true rfl) hr0 (ct_X6_place l G r0 x2 (τ13 (rf r0 0) (ix a12)) 2 τ13) rfl rfl (Nat.le_of_ble_eq_true rfl) (Nat.le_of_ble_eq_true rfl) (Nat.le_of_ble_eq_true rfl) rfl dX6_joins_64 (fun a15 τ16 _ => ?_)
      refine Aw.iald (n := 336) (ft_6_0 hr0).1 (ft_6_0 hr0).2 rfl dX6_joins_67 (fun hb17 => ?_)
      refine Aw.bi (fun b18 => ?_)
      refine Aw.istore (L' := [(5, .int b18), (4, .int b11), (0, .ref (Gb G + r0)), (1, .int x1), (2, .int x2), (3, .int x3)]) (Nat.le_of_ble_eq_true rfl) rfl rfl dX6_joins_68 ?_
      refine Aw.iload 1 rfl rfl dX6_joins_70 ?_
      refine Aw.if_eq (q := 75) (t := 94) rfl (by decide) dX6_joins_72 (fun hc => ?_) (fun hc => ?_)
      · refine Aw.sub (L' := [(0, .ref (Gb G + r0)), (1, .int x1), (2, .int x2), (3, .int x3)]) [2, 3, 4, 5] rfl ?_
        exact aw_X6_joins_94 l G _ ih _ _ _ _ _
      · refine Aw.iload 0 rfl rfl dX6_joins_75 ?_
        refine Aw.if_eq (q := 80) (t := 94) rfl (by decide) dX6_joins_77 (fun hc => ?_) (fun hc => ?_)
        · refine Aw.sub (L' := [(0, .ref (Gb G + r0)), (1, .int x1), (2, .int x2), (3, .int x3)]) [2, 3, 4, 5] rfl ?_
          exact aw_X6_joins_94 l G _ ih _ _ _ _ _
        · refine Aw.iload 1 rfl rfl dX6_joins_80 ?_
          refine Aw.iload 0 rfl rfl dX6_joins_82 ?_
          refine Aw.icmp_eq (q := 87) (t := 94) rfl (by decide) dX6_joins_84 (fun hc => ?_) (fun hc => ?_)
          · refine Aw.sub (L' := [(0, .ref (Gb G + r0)), (1, .int x1), (2, .int x2), (3, .int x3)]) [2, 3, 4, 5] rfl ?_
            exact aw_X6_joins_94 l G _ ih _ _ _ _ _
          · refine Aw.aload_n 2 rfl rfl dX6_joins_87 ?_
            refine Aw.bipush (v := (-3)) ib_m3 rfl dX6_joins_88 ?_
            refine Aw.callVi (As := [.int ((-3))]) (rest := []) cv_X6_38 (Nat.le_of_ble_eq_true rfl) hr0 (ct_X6_refused l G r0 ((-3)) τ16) rfl rfl (Nat.le_of_ble_eq_true rfl) (Nat.le_of_ble_eq_true rfl) (Nat.le_of_ble_eq_true rfl) rfl dX6_joins_90 (fun a19 τ20 _ => ?_)
            exact Aw.iret rfl dX6_joins_93
set_option maxRecDepth 100000 in
set_option maxHeartbeats 4000000 in
theorem ct_X6_joins (l : Launch) (G : Gt) (r0 : Nat) (x1 : Int32) (x2 : Int32) (σ : Sg) : Ct l G yX6_joins MX6_joins rI [.ref (Gb G + r0), .int x1, .int x2] σ (f_X6_joins r0 x1 x2 σ) := by
  refine Ct.of (by decide +kernel) rfl (Nat.le_of_ble_eq_true rfl) ?_
  show Aw l G MX6_joins rI 0 [(0, .ref (Gb G + r0)), (1, .int x1), (2, .int x2)] [] σ _
  unfold f_X6_joins
  refine Aw.gd (fun hr0 => ?_)
  refine Aw.aload_n 0 rfl rfl dX6_joins_0 ?_
  refine Aw.iload_n 1 rfl rfl dX6_joins_1 ?_
  refine Aw.callVi (As := [.int x1]) (rest := []) cv_X6_60 (Nat.le_of_ble_eq_true rfl) hr0 (ct_X6_isCall l G r0 x1 σ) rfl rfl (Nat.le_of_ble_eq_true rfl) (Nat.le_of_ble_eq_true rfl) (Nat.le_of_ble_eq_true rfl) rfl dX6_joins_2 (fun a1 τ2 _ => ?_)
  refine Aw.if_eq (q := 8) (t := 16) rfl (by decide) dX6_joins_5 (fun hc => ?_) (fun hc => ?_)
  · refine Aw.sub (L' := [(0, .ref (Gb G + r0))]) [0] rfl ?_
    exact aw_X6_joins_16 l G _ _
  · refine Aw.aload_n 0 rfl rfl dX6_joins_8 ?_
    refine Aw.iload_n 2 rfl rfl dX6_joins_9 ?_
    refine Aw.callVi (As := [.int x2]) (rest := []) cv_X6_60 (Nat.le_of_ble_eq_true rfl) hr0 (ct_X6_isCall l G r0 x2 τ2) rfl rfl (Nat.le_of_ble_eq_true rfl) (Nat.le_of_ble_eq_true rfl) (Nat.le_of_ble_eq_true rfl) rfl dX6_joins_10 (fun a3 τ4 _ => ?_)
    refine Aw.if_ne (q := 16) (t := 23) rfl (by decide) dX6_joins_13 (fun hc => ?_) (fun hc => ?_)
    · refine Aw.sub (L' := [(0, .ref (Gb G + r0))]) [0] rfl ?_
      exact aw_X6_joins_16 l G _ _
    · refine Aw.iconst (v := 0) ic_0 rfl dX6_joins_23 ?_
      refine Aw.istore_n (L' := [(3, .int 0), (0, .ref (Gb G + r0)), (1, .int x1), (2, .int x2)]) (Nat.le_of_ble_eq_true rfl) rfl rfl dX6_joins_24 ?_
      refine Aw.sub (L' := [(0, .ref (Gb G + r0)), (1, .int x1), (2, .int x2), (3, .int 0)]) [1, 2, 3, 0] rfl ?_
      exact aw_X6_joins_25 l G FU _ _ _ _ _
abbrev MX6_backwards : Mt := (RX6, cX6_backwards, 5, (some .int), 3)
def f_X6_backwards_44  : Nat → Nat → Int32 → Int32 → Int32 → Sg → Option (Int32 × Sg)
  | 0, _, _, _, _, _ => none
  | n + 1, r0, x1, x2, x3, σ => if kd r0 = 6 then (if 12 ≤ x3 then (some (x2, σ)) else (cb (f_X6_place r0 x1 x3 0 σ) (fun a1 τ2 => if inb a1 336 then (bn (τ2 (rf r0 0) (ix a1)) (fun b4 => cb (f_X6_place r0 x2 b4 0 τ2) (fun a5 τ6 => if inb a5 336 then (bn (up τ6 (rf r0 0) (ix a5) x3) (fun τ8 => cb (f_X6_place r0 x2 b4 1 τ8) (fun a9 τ10 => cb (f_X6_place r0 x1 x3 1 τ10) (fun a11 τ12 => if inb a11 336 then (if inb a9 336 then (bn (up τ12 (rf r0 0) (ix a9) (rem (4 - (τ12 (rf r0 0) (ix a11))) 4)) (fun τ15 => cb (f_X6_place r0 x2 b4 2 τ15) (fun a16 τ17 => cb (f_X6_place r0 x1 x3 2 τ17) (fun a18 τ19 => if inb a18 336 then (if inb a16 336 then (bn (up τ19 (rf r0 0) (ix a16) (τ19 (rf r0 0) (ix a18))) (fun τ22 => f_X6_backwards_44 n r0 x1 x2 (x3 + 1) τ22)) else none) else none)))) else none) else none)))) else none))) else none))) else none
def f_X6_backwards (r0 : Nat) (x1 : Int32) (σ : Sg) : Option (Int32 × Sg) := if kd r0 = 6 then (cb (f_X6_isCall r0 x1 σ) (fun a1 τ2 => if a1 = 0 then (cb (f_X6_refused r0 ((-2)) τ2) (fun a10 τ11 => some (a10, τ11))) else (if inb 1 336 then (if τ2 (rf r0 0) (ix 1) = 8 then (cb (f_X6_refused r0 ((-4)) τ2) (fun a8 τ9 => some (a8, τ9))) else (cb (f_X6_keeps r0 τ2) (fun _ τ5 => cb (f_X6_adds r0 τ5) (fun a6 τ7 => f_X6_backwards_44 FU r0 x1 a6 0 τ7)))) else none))) else none
set_option maxRecDepth 100000 in
set_option maxHeartbeats 4000000 in
theorem aw_X6_backwards_44 (l : Launch) (G : Gt) : ∀ (n : Nat) (r0 : Nat) (x1 : Int32) (x2 : Int32) (x3 : Int32) (σ : Sg), Aw l G MX6_backwards rI 44 [(0, .ref (Gb G + r0)), (1, .int x1), (2, .int x2), (3, .int x3)] [] σ (f_X6_backwards_44 n r0 x1 x2 x3 σ) := by
  intro n
  induction n with
  | zero => intro r0 x1 x2 x3 σ; exact Aw.no
  | succ n ih =>
    intro r0 x1 x2 x3 σ
    rw [f_X6_backwards_44]
    refine Aw.gd (fun hr0 => ?_)
    refine Aw.iload_n 3 rfl rfl dX6_backwards_44 ?_
    refine Aw.bipush (v := 12) ib_12 rfl dX6_backwards_45 ?_
    refine Aw.icmp_ge (q := 50) (t := 138) rfl (by decide) dX6_backwards_47 (fun hc => ?_) (fun hc => ?_)
    · refine Aw.iload_n 2 rfl rfl dX6_backwards_138 ?_
      exact Aw.iret rfl dX6_backwards_139
    · refine Aw.aload_n 0 rfl rfl dX6_backwards_50 ?_
      refine Aw.getR fl_X6_7 (Nat.le_of_ble_eq_true rfl) rfl hr0 rfl dX6_backwards_51 ?_
      refine Aw.aload_n 0 rfl rfl dX6_backwards_54 ?_
      refine Aw.iload_n 1 rfl rfl dX6_backwards_55 ?_
      refine Aw.iload_n 3 rfl rfl dX6_backwards_56 ?_
      refine Aw.iconst (v := 0) ic_0 rfl dX6_backwards_57 ?_
      refine Aw.callVi (As := [.int x1, .int x3, .int 0]) (rest := [.ref (Gb G + rf r0 0)]) cv_X6_56 (Nat.le_of_ble_eq_true rfl) hr0 (ct_X6_place l G r0 x1 x3 0 σ) rfl rfl (Nat.le_of_ble_eq_true rfl) (Nat.le_of_ble_eq_true rfl) (Nat.le_of_ble_eq_true rfl) rfl dX6_backwards_58 (fun a1 τ2 _ => ?_)
      refine Aw.iald (n := 336) (ft_6_0 hr0).1 (ft_6_0 hr0).2 rfl dX6_backwards_61 (fun hb3 => ?_)
      refine Aw.bi (fun b4 => ?_)
      refine Aw.istore (L' := [(4, .int b4), (0, .ref (Gb G + r0)), (1, .int x1), (2, .int x2), (3, .int x3)]) (Nat.le_of_ble_eq_true rfl) rfl rfl dX6_backwards_62 ?_
      refine Aw.aload_n 1 rfl rfl dX6_backwards_64 ?_
      refine Aw.getR fl_X6_7 (Nat.le_of_ble_eq_true rfl) rfl hr0 rfl dX6_backwards_65 ?_
      refine Aw.aload_n 1 rfl rfl dX6_backwards_68 ?_
      refine Aw.iload_n 3 rfl rfl dX6_backwards_69 ?_
      refine Aw.iload 0 rfl rfl dX6_backwards_70 ?_
      refine Aw.iconst (v := 0) ic_0 rfl dX6_backwards_72 ?_
      refine Aw.callVi (As := [.int x2, .int b4, .int 0]) (rest := [.ref (Gb G + rf r0 0)]) cv_X6_56 (Nat.le_of_ble_eq_true rfl) hr0 (ct_X6_place l G r0 x2 b4 0 τ2) rfl rfl (Nat.le_of_ble_eq_true rfl) (Nat.le_of_ble_eq_true rfl) (Nat.le_of_ble_eq_true rfl) rfl dX6_backwards_73 (fun a5 τ6 _ => ?_)
      refine Aw.iload_n 4 rfl rfl dX6_backwards_76 ?_
      refine Aw.iast (n := 336) (ft_6_0 hr0).1 (ft_6_0 hr0).2 rfl dX6_backwards_77 (fun hb7 => ?_)
      refine Aw.bs (fun τ8 => ?_)
      refine Aw.aload_n 1 rfl rfl dX6_backwards_78 ?_
      refine Aw.getR fl_X6_7 (Nat.le_of_ble_eq_true rfl) rfl hr0 rfl dX6_backwards_79 ?_
      refine Aw.aload_n 1 rfl rfl dX6_backwards_82 ?_
      refine Aw.iload_n 3 rfl rfl dX6_backwards_83 ?_
      refine Aw.iload 0 rfl rfl dX6_backwards_84 ?_
      refine Aw.iconst (v := 1) ic_1 rfl dX6_backwards_86 ?_
      refine Aw.callVi (As := [.int x2, .int b4, .int 1]) (rest := [.ref (Gb G + rf r0 0)]) cv_X6_56 (Nat.le_of_ble_eq_true rfl) hr0 (ct_X6_place l G r0 x2 b4 1 τ8) rfl rfl (Nat.le_of_ble_eq_true rfl) (Nat.le_of_ble_eq_true rfl) (Nat.le_of_ble_eq_true rfl) rfl dX6_backwards_87 (fun a9 τ10 _ => ?_)
      refine Aw.iconst (v := 4) ic_4 rfl dX6_backwards_90 ?_
      refine Aw.aload_n 1 rfl rfl dX6_backwards_91 ?_
      refine Aw.getR fl_X6_7 (Nat.le_of_ble_eq_true rfl) rfl hr0 rfl dX6_backwards_92 ?_
      refine Aw.aload_n 1 rfl rfl dX6_backwards_95 ?_
      refine Aw.iload_n 2 rfl rfl dX6_backwards_96 ?_
      refine Aw.iload_n 4 rfl rfl dX6_backwards_97 ?_
      refine Aw.iconst (v := 1) ic_1 rfl dX6_backwards_98 ?_
      refine Aw.callVi (As := [.int x1, .int x3, .int 1]) (rest := [.ref (Gb G + rf r0 0), .int 4, .int a9, .ref (Gb G + rf r0 0)]) cv_X6_56 (Nat.le_of_ble_eq_true rfl) hr0 (ct_X6_place l G r0 x1 x3 1 τ10) rfl rfl (Nat.le_of_ble_eq_true rfl) (Nat.le_of_ble_eq_true rfl) (Nat.le_of_ble_eq_true rfl) rfl dX6_backwards_99 (fun a11 τ12 _ => ?_)
      refine Aw.iald (n := 336) (ft_6_0 hr0).1 (ft_6_0 hr0).2 rfl dX6_backwards_102 (fun hb13 => ?_)
      refine Aw.isub rfl dX6_backwards_103 ?_
      refine Aw.iconst (v := 4) ic_4 rfl dX6_backwards_104 ?_
      refine Aw.irem nz_4 rfl dX6_backwards_105 ?_
      refine Aw.iast (n := 336) (ft_6_0 hr0).1 (ft_6_0 hr0).2 rfl dX6_backwards_106 (fun hb14 => ?_)
      refine Aw.bs (fun τ15 => ?_)
      refine Aw.aload_n 1 rfl rfl dX6_backwards_107 ?_
      refine Aw.getR fl_X6_7 (Nat.le_of_ble_eq_true rfl) rfl hr0 rfl dX6_backwards_108 ?_
      refine Aw.aload_n 1 rfl rfl dX6_backwards_111 ?_
      refine Aw.iload_n 3 rfl rfl dX6_backwards_112 ?_
      refine Aw.iload 0 rfl rfl dX6_backwards_113 ?_
      refine Aw.iconst (v := 2) ic_2 rfl dX6_backwards_115 ?_
      refine Aw.callVi (As := [.int x2, .int b4, .int 2]) (rest := [.ref (Gb G + rf r0 0)]) cv_X6_56 (Nat.le_of_ble_eq_true rfl) hr0 (ct_X6_place l G r0 x2 b4 2 τ15) rfl rfl (Nat.le_of_ble_eq_true rfl) (Nat.le_of_ble_eq_true rfl) (Nat.le_of_ble_eq_true rfl) rfl dX6_backwards_116 (fun a16 τ17 _ => ?_)
      refine Aw.aload_n 1 rfl rfl dX6_backwards_119 ?_
      refine Aw.getR fl_X6_7 (Nat.le_of_ble_eq_true rfl) rfl hr0 rfl dX6_backwards_120 ?_
      refine Aw.aload_n 1 rfl rfl dX6_backwards_123 ?_
      refine Aw.iload_n 2 rfl rfl dX6_backwards_124 ?_
      refine Aw.iload_n 4 rfl rfl dX6_backwards_125 ?_
      refine Aw.iconst (v := 2) ic_2 rfl dX6_backwards_126 ?_
      refine Aw.callVi (As := [.int x1, .int x3, .int 2]) (rest := [.ref (Gb G + rf r0 0), .int a16, .ref (Gb G + rf r0 0)]) cv_X6_56 (Nat.le_of_ble_eq_true rfl) hr0 (ct_X6_place l G r0 x1 x3 2 τ17) rfl rfl (Nat.le_of_ble_eq_true rfl) (Nat.le_of_ble_eq_true rfl) (Nat.le_of_ble_eq_true rfl) rfl dX6_backwards_127 (fun a18 τ19 _ => ?_)
      refine Aw.iald (n := 336) (ft_6_0 hr0).1 (ft_6_0 hr0).2 rfl dX6_backwards_130 (fun hb20 => ?_)
      refine Aw.iast (n := 336) (ft_6_0 hr0).1 (ft_6_0 hr0).2 rfl dX6_backwards_131 (fun hb21 => ?_)
      refine Aw.bs (fun τ22 => ?_)
      refine Aw.iinc (v := x3 + 1) (L' := [(3, .int (x3 + 1)), (4, .int b4), (0, .ref (Gb G + r0)), (1, .int x1), (2, .int x2)]) 4 rfl (ii_1 _) (Nat.le_of_ble_eq_true rfl) rfl rfl dX6_backwards_132 ?_
      refine Aw.goto (q := 44) (by decide) dX6_backwards_135 ?_
      refine Aw.sub (L' := [(0, .ref (Gb G + r0)), (1, .int x1), (2, .int x2), (3, .int (x3 + 1))]) [2, 3, 4, 0] rfl ?_
      exact ih _ _ _ _ _
set_option maxRecDepth 100000 in
set_option maxHeartbeats 4000000 in
theorem ct_X6_backwards (l : Launch) (G : Gt) (r0 : Nat) (x1 : Int32) (σ : Sg) : Ct l G yX6_backwards MX6_backwards rI [.ref (Gb G + r0), .int x1] σ (f_X6_backwards r0 x1 σ) := by
  refine Ct.of (by decide +kernel) rfl (Nat.le_of_ble_eq_true rfl) ?_
  show Aw l G MX6_backwards rI 0 [(0, .ref (Gb G + r0)), (1, .int x1)] [] σ _
  unfold f_X6_backwards
  refine Aw.gd (fun hr0 => ?_)
  refine Aw.aload_n 0 rfl rfl dX6_backwards_0 ?_
  refine Aw.iload_n 1 rfl rfl dX6_backwards_1 ?_
  refine Aw.callVi (As := [.int x1]) (rest := []) cv_X6_60 (Nat.le_of_ble_eq_true rfl) hr0 (ct_X6_isCall l G r0 x1 σ) rfl rfl (Nat.le_of_ble_eq_true rfl) (Nat.le_of_ble_eq_true rfl) (Nat.le_of_ble_eq_true rfl) rfl dX6_backwards_2 (fun a1 τ2 _ => ?_)
  refine Aw.if_ne (q := 8) (t := 15) rfl (by decide) dX6_backwards_5 (fun hc => ?_) (fun hc => ?_)
  · refine Aw.aload_n 0 rfl rfl dX6_backwards_8 ?_
    refine Aw.bipush (v := (-2)) ib_m2 rfl dX6_backwards_9 ?_
    refine Aw.callVi (As := [.int ((-2))]) (rest := []) cv_X6_38 (Nat.le_of_ble_eq_true rfl) hr0 (ct_X6_refused l G r0 ((-2)) τ2) rfl rfl (Nat.le_of_ble_eq_true rfl) (Nat.le_of_ble_eq_true rfl) (Nat.le_of_ble_eq_true rfl) rfl dX6_backwards_11 (fun a10 τ11 _ => ?_)
    exact Aw.iret rfl dX6_backwards_14
  · refine Aw.aload_n 0 rfl rfl dX6_backwards_15 ?_
    refine Aw.getR fl_X6_7 (Nat.le_of_ble_eq_true rfl) rfl hr0 rfl dX6_backwards_16 ?_
    refine Aw.iconst (v := 1) ic_1 rfl dX6_backwards_19 ?_
    refine Aw.iald (n := 336) (ft_6_0 hr0).1 (ft_6_0 hr0).2 rfl dX6_backwards_20 (fun hb3 => ?_)
    refine Aw.bipush (v := 8) ib_8 rfl dX6_backwards_21 ?_
    refine Aw.icmp_ne (q := 26) (t := 33) rfl (by decide) dX6_backwards_23 (fun hc => ?_) (fun hc => ?_)
    · refine Aw.aload_n 0 rfl rfl dX6_backwards_26 ?_
      refine Aw.bipush (v := (-4)) ib_m4 rfl dX6_backwards_27 ?_
      refine Aw.callVi (As := [.int ((-4))]) (rest := []) cv_X6_38 (Nat.le_of_ble_eq_true rfl) hr0 (ct_X6_refused l G r0 ((-4)) τ2) rfl rfl (Nat.le_of_ble_eq_true rfl) (Nat.le_of_ble_eq_true rfl) (Nat.le_of_ble_eq_true rfl) rfl dX6_backwards_29 (fun a8 τ9 _ => ?_)
      exact Aw.iret rfl dX6_backwards_32
    · refine Aw.aload_n 0 rfl rfl dX6_backwards_33 ?_
      refine Aw.callVv (As := []) (rest := []) cv_X6_45 (Nat.le_of_ble_eq_true rfl) hr0 (ct_X6_keeps l G r0 τ2) rfl rfl (Nat.le_of_ble_eq_true rfl) (Nat.le_of_ble_eq_true rfl) (Nat.le_of_ble_eq_true rfl) rfl dX6_backwards_34 (fun a4 τ5 _ => ?_)
      refine Aw.aload_n 0 rfl rfl dX6_backwards_37 ?_
      refine Aw.callVi (As := []) (rest := []) cv_X6_82 (Nat.le_of_ble_eq_true rfl) hr0 (ct_X6_adds l G r0 τ5) rfl rfl (Nat.le_of_ble_eq_true rfl) (Nat.le_of_ble_eq_true rfl) (Nat.le_of_ble_eq_true rfl) rfl dX6_backwards_38 (fun a6 τ7 _ => ?_)
      refine Aw.istore_n (L' := [(2, .int a6), (0, .ref (Gb G + r0)), (1, .int x1)]) (Nat.le_of_ble_eq_true rfl) rfl rfl dX6_backwards_41 ?_
      refine Aw.iconst (v := 0) ic_0 rfl dX6_backwards_42 ?_
      refine Aw.istore_n (L' := [(3, .int 0), (2, .int a6), (0, .ref (Gb G + r0)), (1, .int x1)]) (Nat.le_of_ble_eq_true rfl) rfl rfl dX6_backwards_43 ?_
      refine Aw.sub (L' := [(0, .ref (Gb G + r0)), (1, .int x1), (2, .int a6), (3, .int 0)]) [2, 3, 1, 0] rfl ?_
      exact aw_X6_backwards_44 l G FU _ _ _ _ _
abbrev MX6_gives : Mt := (RX6, cX6_gives, 2, (some .int), 4)
def f_X6_gives (r0 : Nat) (x1 : Int32) (σ : Sg) : Option (Int32 × Sg) := if kd r0 = 6 then (cb (f_X6_notes r0 σ) (fun _ τ2 => cb (f_X6_given r0 x1 τ2) (fun a3 τ4 => cb (f_X6_done r0 a3 τ4) (fun a5 τ6 => some (a5, τ6))))) else none
theorem cv_X6_90 : CV RX6 90 6 yX6_given MX6_given 1 := ⟨_, rfl, rfl, ml_X6_90, ins_X6_given, sel_X6_given, ini_X6, cw_X6_given, ⟨by decide, by decide, by decide +kernel⟩⟩
set_option maxRecDepth 100000 in
set_option maxHeartbeats 4000000 in
theorem ct_X6_gives (l : Launch) (G : Gt) (r0 : Nat) (x1 : Int32) (σ : Sg) : Ct l G yX6_gives MX6_gives rI [.ref (Gb G + r0), .int x1] σ (f_X6_gives r0 x1 σ) := by
  refine Ct.of (by decide +kernel) rfl (Nat.le_of_ble_eq_true rfl) ?_
  show Aw l G MX6_gives rI 0 [(0, .ref (Gb G + r0)), (1, .int x1)] [] σ _
  unfold f_X6_gives
  refine Aw.gd (fun hr0 => ?_)
  refine Aw.aload_n 0 rfl rfl dX6_gives_0 ?_
  refine Aw.callVv (As := []) (rest := []) cv_X6_72 (Nat.le_of_ble_eq_true rfl) hr0 (ct_X6_notes l G r0 σ) rfl rfl (Nat.le_of_ble_eq_true rfl) (Nat.le_of_ble_eq_true rfl) (Nat.le_of_ble_eq_true rfl) rfl dX6_gives_1 (fun a1 τ2 _ => ?_)
  refine Aw.aload_n 0 rfl rfl dX6_gives_4 ?_
  refine Aw.aload_n 0 rfl rfl dX6_gives_5 ?_
  refine Aw.iload_n 1 rfl rfl dX6_gives_6 ?_
  refine Aw.callVi (As := [.int x1]) (rest := [.ref (Gb G + r0)]) cv_X6_90 (Nat.le_of_ble_eq_true rfl) hr0 (ct_X6_given l G r0 x1 τ2) rfl rfl (Nat.le_of_ble_eq_true rfl) (Nat.le_of_ble_eq_true rfl) (Nat.le_of_ble_eq_true rfl) rfl dX6_gives_7 (fun a3 τ4 _ => ?_)
  refine Aw.callVi (As := [.int a3]) (rest := []) cv_X6_79 (Nat.le_of_ble_eq_true rfl) hr0 (ct_X6_done l G r0 a3 τ4) rfl rfl (Nat.le_of_ble_eq_true rfl) (Nat.le_of_ble_eq_true rfl) (Nat.le_of_ble_eq_true rfl) rfl dX6_gives_10 (fun a5 τ6 _ => ?_)
  exact Aw.iret rfl dX6_gives_13
