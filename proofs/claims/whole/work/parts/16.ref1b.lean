abbrev MX6_isHome : Mt := (RX6, cX6_isHome, 2, (some .boolean), 1)
def f_X6_isHome (r0 : Nat) (x1 : Int32) (σ : Sg) : Option (Int32 × Sg) := if kd r0 = 6 then (if inb (4 + (4 * x1)) 336 then (if inb (6 + (4 * x1)) 336 then (if σ (rf r0 0) (ix (4 + (4 * x1))) = σ (rf r0 0) (ix (6 + (4 * x1))) then (if inb (5 + (4 * x1)) 336 then (if inb (7 + (4 * x1)) 336 then (if σ (rf r0 0) (ix (5 + (4 * x1))) = σ (rf r0 0) (ix (7 + (4 * x1))) then (some (1, σ)) else (some (0, σ))) else none) else none) else (some (0, σ))) else none) else none) else none
set_option maxRecDepth 100000 in
set_option maxHeartbeats 4000000 in
theorem ct_X6_isHome (l : Launch) (G : Gt) (r0 : Nat) (x1 : Int32) (σ : Sg) : Ct l G yX6_isHome MX6_isHome rI [.ref (Gb G + r0), .int x1] σ (f_X6_isHome r0 x1 σ) := by
  refine Ct.of (by decide +kernel) rfl (Nat.le_of_ble_eq_true rfl) ?_
  show Aw l G MX6_isHome rI 0 [(0, .ref (Gb G + r0)), (1, .int x1)] [] σ _
  unfold f_X6_isHome
  refine Aw.gd (fun hr0 => ?_)
  refine Aw.aload_n 0 rfl rfl dX6_isHome_0 ?_
  refine Aw.getR fl_X6_7 (Nat.le_of_ble_eq_true rfl) rfl hr0 rfl dX6_isHome_1 ?_
  refine Aw.iconst (v := 4) ic_4 rfl dX6_isHome_4 ?_
  refine Aw.iconst (v := 4) ic_4 rfl dX6_isHome_5 ?_
  refine Aw.iload_n 1 rfl rfl dX6_isHome_6 ?_
  refine Aw.imul rfl dX6_isHome_7 ?_
  refine Aw.iadd rfl dX6_isHome_8 ?_
  refine Aw.iald (n := 336) (ft_6_0 hr0).1 (ft_6_0 hr0).2 rfl dX6_isHome_9 (fun hb1 => ?_)
  refine Aw.aload_n 0 rfl rfl dX6_isHome_10 ?_
  refine Aw.getR fl_X6_7 (Nat.le_of_ble_eq_true rfl) rfl hr0 rfl dX6_isHome_11 ?_
  refine Aw.bipush (v := 6) ib_6 rfl dX6_isHome_14 ?_
  refine Aw.iconst (v := 4) ic_4 rfl dX6_isHome_16 ?_
  refine Aw.iload_n 1 rfl rfl dX6_isHome_17 ?_
  refine Aw.imul rfl dX6_isHome_18 ?_
  refine Aw.iadd rfl dX6_isHome_19 ?_
  refine Aw.iald (n := 336) (ft_6_0 hr0).1 (ft_6_0 hr0).2 rfl dX6_isHome_20 (fun hb2 => ?_)
  refine Aw.icmp_ne (q := 24) (t := 52) rfl (by decide) dX6_isHome_21 (fun hc => ?_) (fun hc => ?_)
  · refine Aw.aload_n 0 rfl rfl dX6_isHome_24 ?_
    refine Aw.getR fl_X6_7 (Nat.le_of_ble_eq_true rfl) rfl hr0 rfl dX6_isHome_25 ?_
    refine Aw.iconst (v := 5) ic_5 rfl dX6_isHome_28 ?_
    refine Aw.iconst (v := 4) ic_4 rfl dX6_isHome_29 ?_
    refine Aw.iload_n 1 rfl rfl dX6_isHome_30 ?_
    refine Aw.imul rfl dX6_isHome_31 ?_
    refine Aw.iadd rfl dX6_isHome_32 ?_
    refine Aw.iald (n := 336) (ft_6_0 hr0).1 (ft_6_0 hr0).2 rfl dX6_isHome_33 (fun hb3 => ?_)
    refine Aw.aload_n 0 rfl rfl dX6_isHome_34 ?_
    refine Aw.getR fl_X6_7 (Nat.le_of_ble_eq_true rfl) rfl hr0 rfl dX6_isHome_35 ?_
    refine Aw.bipush (v := 7) ib_7 rfl dX6_isHome_38 ?_
    refine Aw.iconst (v := 4) ic_4 rfl dX6_isHome_40 ?_
    refine Aw.iload_n 1 rfl rfl dX6_isHome_41 ?_
    refine Aw.imul rfl dX6_isHome_42 ?_
    refine Aw.iadd rfl dX6_isHome_43 ?_
    refine Aw.iald (n := 336) (ft_6_0 hr0).1 (ft_6_0 hr0).2 rfl dX6_isHome_44 (fun hb4 => ?_)
    refine Aw.icmp_ne (q := 48) (t := 52) rfl (by decide) dX6_isHome_45 (fun hc => ?_) (fun hc => ?_)
    · refine Aw.iconst (v := 1) ic_1 rfl dX6_isHome_48 ?_
      refine Aw.goto (q := 53) (by decide) dX6_isHome_49 ?_
      exact Aw.zret rfl rfl dX6_isHome_53
    · refine Aw.iconst (v := 0) ic_0 rfl dX6_isHome_52 ?_
      exact Aw.zret rfl rfl dX6_isHome_53
  · refine Aw.iconst (v := 0) ic_0 rfl dX6_isHome_52 ?_
    exact Aw.zret rfl rfl dX6_isHome_53
abbrev MX6_atHome : Mt := (RX6, cX6_atHome, 3, (some .int), 2)
def f_X6_atHome_28 (rc4 : Nat → Int32 → Int32 → Sg → Option (Int32 × Sg)) (r0 : Nat) (x2 : Int32) (s0 : Int32) (s1 : Int32) (σ : Sg) : Option (Int32 × Sg) := if kd r0 = 6 then (bn (s0 + s1) (fun b1 => rc4 r0 b1 (x2 + 1) σ)) else none
def f_X6_atHome_4  : Nat → Nat → Int32 → Int32 → Sg → Option (Int32 × Sg)
  | 0, _, _, _, _ => none
  | n + 1, r0, x1, x2, σ => if kd r0 = 6 then (if inb 0 336 then (if σ (rf r0 0) (ix 0) ≤ x2 then (some (x1, σ)) else (cb (f_X6_isHome r0 x2 σ) (fun a2 τ3 => if a2 = 0 then (f_X6_atHome_28 (f_X6_atHome_4 n) r0 x2 x1 0 τ3) else (f_X6_atHome_28 (f_X6_atHome_4 n) r0 x2 x1 1 τ3)))) else none) else none
def f_X6_atHome (r0 : Nat) (σ : Sg) : Option (Int32 × Sg) := if kd r0 = 6 then (f_X6_atHome_4 FU r0 0 0 σ) else none
theorem cv_X6_99 : CV RX6 99 6 yX6_isHome MX6_isHome 1 := ⟨_, rfl, rfl, ml_X6_99, ins_X6_isHome, sel_X6_isHome, ini_X6, cw_X6_isHome, ⟨by decide, by decide, by decide +kernel⟩⟩
set_option maxRecDepth 100000 in
set_option maxHeartbeats 4000000 in
theorem aw_X6_atHome_28 (l : Launch) (G : Gt) (rc4 : Nat → Int32 → Int32 → Sg → Option (Int32 × Sg)) (hrc4 : ∀ (r0 : Nat) (x1 : Int32) (x2 : Int32) (σ : Sg), Aw l G MX6_atHome rI 4 [(0, .ref (Gb G + r0)), (1, .int x1), (2, .int x2)] [] σ (rc4 r0 x1 x2 σ)) (r0 : Nat) (x2 : Int32) (s0 : Int32) (s1 : Int32) (σ : Sg) : Aw l G MX6_atHome rI 28 [(0, .ref (Gb G + r0)), (2, .int x2)] [.int s1, .int s0] σ (f_X6_atHome_28 rc4 r0 x2 s0 s1 σ) := by
  unfold f_X6_atHome_28
  refine Aw.gd (fun hr0 => ?_)
  refine Aw.iadd rfl dX6_atHome_28 ?_
  refine Aw.bi (fun b1 => ?_)
  refine Aw.istore_n (L' := [(1, .int b1), (0, .ref (Gb G + r0)), (2, .int x2)]) (Nat.le_of_ble_eq_true rfl) rfl rfl dX6_atHome_29 ?_
  refine Aw.iinc (v := x2 + 1) (L' := [(2, .int (x2 + 1)), (1, .int b1), (0, .ref (Gb G + r0))]) 2 rfl (ii_1 _) (Nat.le_of_ble_eq_true rfl) rfl rfl dX6_atHome_30 ?_
  refine Aw.goto (q := 4) (by decide) dX6_atHome_33 ?_
  refine Aw.sub (L' := [(0, .ref (Gb G + r0)), (1, .int b1), (2, .int (x2 + 1))]) [2, 1, 0] rfl ?_
  exact hrc4 _ _ _ _
set_option maxRecDepth 100000 in
set_option maxHeartbeats 4000000 in
theorem aw_X6_atHome_4 (l : Launch) (G : Gt) : ∀ (n : Nat) (r0 : Nat) (x1 : Int32) (x2 : Int32) (σ : Sg), Aw l G MX6_atHome rI 4 [(0, .ref (Gb G + r0)), (1, .int x1), (2, .int x2)] [] σ (f_X6_atHome_4 n r0 x1 x2 σ) := by
  intro n
  induction n with
  | zero => intro r0 x1 x2 σ; exact Aw.no
  | succ n ih =>
    intro r0 x1 x2 σ
    rw [f_X6_atHome_4]
    refine Aw.gd (fun hr0 => ?_)
    refine Aw.iload_n 2 rfl rfl dX6_atHome_4 ?_
    refine Aw.aload_n 0 rfl rfl dX6_atHome_5 ?_
    refine Aw.getR fl_X6_7 (Nat.le_of_ble_eq_true rfl) rfl hr0 rfl dX6_atHome_6 ?_
    refine Aw.iconst (v := 0) ic_0 rfl dX6_atHome_9 ?_
    refine Aw.iald (n := 336) (ft_6_0 hr0).1 (ft_6_0 hr0).2 rfl dX6_atHome_10 (fun hb1 => ?_)
    refine Aw.icmp_ge (q := 14) (t := 36) rfl (by decide) dX6_atHome_11 (fun hc => ?_) (fun hc => ?_)
    · refine Aw.iload_n 1 rfl rfl dX6_atHome_36 ?_
      exact Aw.iret rfl dX6_atHome_37
    · refine Aw.iload_n 1 rfl rfl dX6_atHome_14 ?_
      refine Aw.aload_n 0 rfl rfl dX6_atHome_15 ?_
      refine Aw.iload_n 2 rfl rfl dX6_atHome_16 ?_
      refine Aw.callVi (As := [.int x2]) (rest := [.int x1]) cv_X6_99 (Nat.le_of_ble_eq_true rfl) hr0 (ct_X6_isHome l G r0 x2 σ) rfl rfl (Nat.le_of_ble_eq_true rfl) (Nat.le_of_ble_eq_true rfl) (Nat.le_of_ble_eq_true rfl) rfl dX6_atHome_17 (fun a2 τ3 _ => ?_)
      refine Aw.if_eq (q := 23) (t := 27) rfl (by decide) dX6_atHome_20 (fun hc => ?_) (fun hc => ?_)
      · refine Aw.iconst (v := 0) ic_0 rfl dX6_atHome_27 ?_
        refine Aw.sub (L' := [(0, .ref (Gb G + r0)), (2, .int x2)]) [0, 2] rfl ?_
        exact aw_X6_atHome_28 l G _ ih _ _ _ _ _
      · refine Aw.iconst (v := 1) ic_1 rfl dX6_atHome_23 ?_
        refine Aw.goto (q := 28) (by decide) dX6_atHome_24 ?_
        refine Aw.sub (L' := [(0, .ref (Gb G + r0)), (2, .int x2)]) [0, 2] rfl ?_
        exact aw_X6_atHome_28 l G _ ih _ _ _ _ _
set_option maxRecDepth 100000 in
set_option maxHeartbeats 4000000 in
theorem ct_X6_atHome (l : Launch) (G : Gt) (r0 : Nat) (σ : Sg) : Ct l G yX6_atHome MX6_atHome rI [.ref (Gb G + r0)] σ (f_X6_atHome r0 σ) := by
  refine Ct.of (by decide +kernel) rfl (Nat.le_of_ble_eq_true rfl) ?_
  show Aw l G MX6_atHome rI 0 [(0, .ref (Gb G + r0))] [] σ _
  unfold f_X6_atHome
  refine Aw.gd (fun hr0 => ?_)
  refine Aw.iconst (v := 0) ic_0 rfl dX6_atHome_0 ?_
  refine Aw.istore_n (L' := [(1, .int 0), (0, .ref (Gb G + r0))]) (Nat.le_of_ble_eq_true rfl) rfl rfl dX6_atHome_1 ?_
  refine Aw.iconst (v := 0) ic_0 rfl dX6_atHome_2 ?_
  refine Aw.istore_n (L' := [(2, .int 0), (1, .int 0), (0, .ref (Gb G + r0))]) (Nat.le_of_ble_eq_true rfl) rfl rfl dX6_atHome_3 ?_
  refine Aw.sub (L' := [(0, .ref (Gb G + r0)), (1, .int 0), (2, .int 0)]) [2, 1, 0] rfl ?_
  exact aw_X6_atHome_4 l G FU _ _ _ _
abbrev MX6_home : Mt := (RX6, cX6_home, 3, (some .int), 3)
def f_X6_home_18  : Nat → Nat → Int32 → Int32 → Sg → Option (Int32 × Sg)
  | 0, _, _, _, _ => none
  | n + 1, r0, x1, x2, σ => if kd r0 = 6 then (if inb 0 336 then (if σ (rf r0 0) (ix 0) ≤ x2 then (some (x1, σ)) else (if inb (6 + (4 * x2)) 336 then (if inb (4 + (4 * x2)) 336 then (bn (up σ (rf r0 0) (ix (4 + (4 * x2))) (σ (rf r0 0) (ix (6 + (4 * x2))))) (fun τ4 => if inb (7 + (4 * x2)) 336 then (if inb (5 + (4 * x2)) 336 then (bn (up τ4 (rf r0 0) (ix (5 + (4 * x2))) (τ4 (rf r0 0) (ix (7 + (4 * x2))))) (fun τ7 => f_X6_home_18 n r0 x1 (x2 + 1) τ7)) else none) else none)) else none) else none)) else none) else none
def f_X6_home (r0 : Nat) (σ : Sg) : Option (Int32 × Sg) := if kd r0 = 6 then (if inb 0 336 then (cb (f_X6_atHome r0 σ) (fun a2 τ3 => bn ((σ (rf r0 0) (ix 0)) - a2) (fun b4 => cb (f_X6_keeps r0 τ3) (fun _ τ6 => f_X6_home_18 FU r0 b4 0 τ6)))) else none) else none
theorem cv_X6_93 : CV RX6 93 6 yX6_atHome MX6_atHome 0 := ⟨_, rfl, rfl, ml_X6_93, ins_X6_atHome, sel_X6_atHome, ini_X6, cw_X6_atHome, ⟨by decide, by decide, by decide +kernel⟩⟩
set_option maxRecDepth 100000 in
set_option maxHeartbeats 4000000 in
theorem aw_X6_home_18 (l : Launch) (G : Gt) : ∀ (n : Nat) (r0 : Nat) (x1 : Int32) (x2 : Int32) (σ : Sg), Aw l G MX6_home rI 18 [(0, .ref (Gb G + r0)), (1, .int x1), (2, .int x2)] [] σ (f_X6_home_18 n r0 x1 x2 σ) := by
  intro n
  induction n with
  | zero => intro r0 x1 x2 σ; exact Aw.no
  | succ n ih =>
    intro r0 x1 x2 σ
    rw [f_X6_home_18]
    refine Aw.gd (fun hr0 => ?_)
    refine Aw.iload_n 2 rfl rfl dX6_home_18 ?_
    refine Aw.aload_n 0 rfl rfl dX6_home_19 ?_
    refine Aw.getR fl_X6_7 (Nat.le_of_ble_eq_true rfl) rfl hr0 rfl dX6_home_20 ?_
    refine Aw.iconst (v := 0) ic_0 rfl dX6_home_23 ?_
    refine Aw.iald (n := 336) (ft_6_0 hr0).1 (ft_6_0 hr0).2 rfl dX6_home_24 (fun hb1 => ?_)
    refine Aw.icmp_ge (q := 28) (t := 76) rfl (by decide) dX6_home_25 (fun hc => ?_) (fun hc => ?_)
    · refine Aw.iload_n 1 rfl rfl dX6_home_76 ?_
      exact Aw.iret rfl dX6_home_77
    · refine Aw.aload_n 0 rfl rfl dX6_home_28 ?_
      refine Aw.getR fl_X6_7 (Nat.le_of_ble_eq_true rfl) rfl hr0 rfl dX6_home_29 ?_
      refine Aw.iconst (v := 4) ic_4 rfl dX6_home_32 ?_
      refine Aw.iconst (v := 4) ic_4 rfl dX6_home_33 ?_
      refine Aw.iload_n 2 rfl rfl dX6_home_34 ?_
      refine Aw.imul rfl dX6_home_35 ?_
      refine Aw.iadd rfl dX6_home_36 ?_
      refine Aw.aload_n 0 rfl rfl dX6_home_37 ?_
      refine Aw.getR fl_X6_7 (Nat.le_of_ble_eq_true rfl) rfl hr0 rfl dX6_home_38 ?_
      refine Aw.bipush (v := 6) ib_6 rfl dX6_home_41 ?_
      refine Aw.iconst (v := 4) ic_4 rfl dX6_home_43 ?_
      refine Aw.iload_n 2 rfl rfl dX6_home_44 ?_
      refine Aw.imul rfl dX6_home_45 ?_
      refine Aw.iadd rfl dX6_home_46 ?_
      refine Aw.iald (n := 336) (ft_6_0 hr0).1 (ft_6_0 hr0).2 rfl dX6_home_47 (fun hb2 => ?_)
      refine Aw.iast (n := 336) (ft_6_0 hr0).1 (ft_6_0 hr0).2 rfl dX6_home_48 (fun hb3 => ?_)
      refine Aw.bs (fun τ4 => ?_)
      refine Aw.aload_n 0 rfl rfl dX6_home_49 ?_
      refine Aw.getR fl_X6_7 (Nat.le_of_ble_eq_true rfl) rfl hr0 rfl dX6_home_50 ?_
      refine Aw.iconst (v := 5) ic_5 rfl dX6_home_53 ?_
      refine Aw.iconst (v := 4) ic_4 rfl dX6_home_54 ?_
      refine Aw.iload_n 2 rfl rfl dX6_home_55 ?_
      refine Aw.imul rfl dX6_home_56 ?_
      refine Aw.iadd rfl dX6_home_57 ?_
      refine Aw.aload_n 0 rfl rfl dX6_home_58 ?_
      refine Aw.getR fl_X6_7 (Nat.le_of_ble_eq_true rfl) rfl hr0 rfl dX6_home_59 ?_
      refine Aw.bipush (v := 7) ib_7 rfl dX6_home_62 ?_
      refine Aw.iconst (v := 4) ic_4 rfl dX6_home_64 ?_
      refine Aw.iload_n 2 rfl rfl dX6_home_65 ?_
      refine Aw.imul rfl dX6_home_66 ?_
      refine Aw.iadd rfl dX6_home_67 ?_
      refine Aw.iald (n := 336) (ft_6_0 hr0).1 (ft_6_0 hr0).2 rfl dX6_home_68 (fun hb5 => ?_)
      refine Aw.iast (n := 336) (ft_6_0 hr0).1 (ft_6_0 hr0).2 rfl dX6_home_69 (fun hb6 => ?_)
      refine Aw.bs (fun τ7 => ?_)
      refine Aw.iinc (v := x2 + 1) (L' := [(2, .int (x2 + 1)), (0, .ref (Gb G + r0)), (1, .int x1)]) 2 rfl (ii_1 _) (Nat.le_of_ble_eq_true rfl) rfl rfl dX6_home_70 ?_
      refine Aw.goto (q := 18) (by decide) dX6_home_73 ?_
      refine Aw.sub (L' := [(0, .ref (Gb G + r0)), (1, .int x1), (2, .int (x2 + 1))]) [1, 2, 0] rfl ?_
      exact ih _ _ _ _
set_option maxRecDepth 100000 in
set_option maxHeartbeats 4000000 in
theorem ct_X6_home (l : Launch) (G : Gt) (r0 : Nat) (σ : Sg) : Ct l G yX6_home MX6_home rI [.ref (Gb G + r0)] σ (f_X6_home r0 σ) := by
  refine Ct.of (by decide +kernel) rfl (Nat.le_of_ble_eq_true rfl) ?_
  show Aw l G MX6_home rI 0 [(0, .ref (Gb G + r0))] [] σ _
  unfold f_X6_home
  refine Aw.gd (fun hr0 => ?_)
  refine Aw.aload_n 0 rfl rfl dX6_home_0 ?_
  refine Aw.getR fl_X6_7 (Nat.le_of_ble_eq_true rfl) rfl hr0 rfl dX6_home_1 ?_
  refine Aw.iconst (v := 0) ic_0 rfl dX6_home_4 ?_
  refine Aw.iald (n := 336) (ft_6_0 hr0).1 (ft_6_0 hr0).2 rfl dX6_home_5 (fun hb1 => ?_)
  refine Aw.aload_n 0 rfl rfl dX6_home_6 ?_
  refine Aw.callVi (As := []) (rest := [.int (σ (rf r0 0) (ix 0))]) cv_X6_93 (Nat.le_of_ble_eq_true rfl) hr0 (ct_X6_atHome l G r0 σ) rfl rfl (Nat.le_of_ble_eq_true rfl) (Nat.le_of_ble_eq_true rfl) (Nat.le_of_ble_eq_true rfl) rfl dX6_home_7 (fun a2 τ3 _ => ?_)
  refine Aw.isub rfl dX6_home_10 ?_
  refine Aw.bi (fun b4 => ?_)
  refine Aw.istore_n (L' := [(1, .int b4), (0, .ref (Gb G + r0))]) (Nat.le_of_ble_eq_true rfl) rfl rfl dX6_home_11 ?_
  refine Aw.aload_n 1 rfl rfl dX6_home_12 ?_
  refine Aw.callVv (As := []) (rest := []) cv_X6_45 (Nat.le_of_ble_eq_true rfl) hr0 (ct_X6_keeps l G r0 τ3) rfl rfl (Nat.le_of_ble_eq_true rfl) (Nat.le_of_ble_eq_true rfl) (Nat.le_of_ble_eq_true rfl) rfl dX6_home_13 (fun a5 τ6 _ => ?_)
  refine Aw.iconst (v := 0) ic_0 rfl dX6_home_16 ?_
  refine Aw.istore_n (L' := [(2, .int 0), (1, .int b4), (0, .ref (Gb G + r0))]) (Nat.le_of_ble_eq_true rfl) rfl rfl dX6_home_17 ?_
  refine Aw.sub (L' := [(0, .ref (Gb G + r0)), (1, .int b4), (2, .int 0)]) [2, 1, 0] rfl ?_
  exact aw_X6_home_18 l G FU _ _ _ _
abbrev MX6_plans : Mt := (RX6, cX6_plans, 2, (some .int), 4)
def f_X6_plans (r0 : Nat) (x1 : Int32) (σ : Sg) : Option (Int32 × Sg) := if kd r0 = 6 then (cb (f_X6_notes r0 σ) (fun _ τ2 => cb (f_X6_plansOn r0 x1 τ2) (fun a3 τ4 => cb (f_X6_done r0 a3 τ4) (fun a5 τ6 => some (a5, τ6))))) else none
theorem cv_X6_96 : CV RX6 96 6 yX6_plansOn MX6_plansOn 1 := ⟨_, rfl, rfl, ml_X6_96, ins_X6_plansOn, sel_X6_plansOn, ini_X6, cw_X6_plansOn, ⟨by decide, by decide, by decide +kernel⟩⟩
set_option maxRecDepth 100000 in
set_option maxHeartbeats 4000000 in
theorem ct_X6_plans (l : Launch) (G : Gt) (r0 : Nat) (x1 : Int32) (σ : Sg) : Ct l G yX6_plans MX6_plans rI [.ref (Gb G + r0), .int x1] σ (f_X6_plans r0 x1 σ) := by
  refine Ct.of (by decide +kernel) rfl (Nat.le_of_ble_eq_true rfl) ?_
  show Aw l G MX6_plans rI 0 [(0, .ref (Gb G + r0)), (1, .int x1)] [] σ _
  unfold f_X6_plans
  refine Aw.gd (fun hr0 => ?_)
  refine Aw.aload_n 0 rfl rfl dX6_plans_0 ?_
  refine Aw.callVv (As := []) (rest := []) cv_X6_72 (Nat.le_of_ble_eq_true rfl) hr0 (ct_X6_notes l G r0 σ) rfl rfl (Nat.le_of_ble_eq_true rfl) (Nat.le_of_ble_eq_true rfl) (Nat.le_of_ble_eq_true rfl) rfl dX6_plans_1 (fun a1 τ2 _ => ?_)
  refine Aw.aload_n 0 rfl rfl dX6_plans_4 ?_
  refine Aw.aload_n 0 rfl rfl dX6_plans_5 ?_
  refine Aw.iload_n 1 rfl rfl dX6_plans_6 ?_
  refine Aw.callVi (As := [.int x1]) (rest := [.ref (Gb G + r0)]) cv_X6_96 (Nat.le_of_ble_eq_true rfl) hr0 (ct_X6_plansOn l G r0 x1 τ2) rfl rfl (Nat.le_of_ble_eq_true rfl) (Nat.le_of_ble_eq_true rfl) (Nat.le_of_ble_eq_true rfl) rfl dX6_plans_7 (fun a3 τ4 _ => ?_)
  refine Aw.callVi (As := [.int a3]) (rest := []) cv_X6_79 (Nat.le_of_ble_eq_true rfl) hr0 (ct_X6_done l G r0 a3 τ4) rfl rfl (Nat.le_of_ble_eq_true rfl) (Nat.le_of_ble_eq_true rfl) (Nat.le_of_ble_eq_true rfl) rfl dX6_plans_10 (fun a5 τ6 _ => ?_)
  exact Aw.iret rfl dX6_plans_13
abbrev MX6_scraps : Mt := (RX6, cX6_scraps, 2, (some .int), 2)
def f_X6_scraps (r0 : Nat) (σ : Sg) : Option (Int32 × Sg) := if kd r0 = 6 then (if inb 2 336 then (bn (σ (rf r0 0) (ix 2)) (fun b2 => cb (f_X6_keeps r0 σ) (fun _ τ4 => if inb 2 336 then (bn (up τ4 (rf r0 0) (ix 2) 0) (fun τ6 => some (b2, τ6))) else none))) else none) else none
set_option maxRecDepth 100000 in
set_option maxHeartbeats 4000000 in
theorem ct_X6_scraps (l : Launch) (G : Gt) (r0 : Nat) (σ : Sg) : Ct l G yX6_scraps MX6_scraps rI [.ref (Gb G + r0)] σ (f_X6_scraps r0 σ) := by
  refine Ct.of (by decide +kernel) rfl (Nat.le_of_ble_eq_true rfl) ?_
  show Aw l G MX6_scraps rI 0 [(0, .ref (Gb G + r0))] [] σ _
  unfold f_X6_scraps
  refine Aw.gd (fun hr0 => ?_)
  refine Aw.aload_n 0 rfl rfl dX6_scraps_0 ?_
  refine Aw.getR fl_X6_7 (Nat.le_of_ble_eq_true rfl) rfl hr0 rfl dX6_scraps_1 ?_
  refine Aw.iconst (v := 2) ic_2 rfl dX6_scraps_4 ?_
  refine Aw.iald (n := 336) (ft_6_0 hr0).1 (ft_6_0 hr0).2 rfl dX6_scraps_5 (fun hb1 => ?_)
  refine Aw.bi (fun b2 => ?_)
  refine Aw.istore_n (L' := [(1, .int b2), (0, .ref (Gb G + r0))]) (Nat.le_of_ble_eq_true rfl) rfl rfl dX6_scraps_6 ?_
  refine Aw.aload_n 1 rfl rfl dX6_scraps_7 ?_
  refine Aw.callVv (As := []) (rest := []) cv_X6_45 (Nat.le_of_ble_eq_true rfl) hr0 (ct_X6_keeps l G r0 σ) rfl rfl (Nat.le_of_ble_eq_true rfl) (Nat.le_of_ble_eq_true rfl) (Nat.le_of_ble_eq_true rfl) rfl dX6_scraps_8 (fun a3 τ4 _ => ?_)
  refine Aw.aload_n 1 rfl rfl dX6_scraps_11 ?_
  refine Aw.getR fl_X6_7 (Nat.le_of_ble_eq_true rfl) rfl hr0 rfl dX6_scraps_12 ?_
  refine Aw.iconst (v := 2) ic_2 rfl dX6_scraps_15 ?_
  refine Aw.iconst (v := 0) ic_0 rfl dX6_scraps_16 ?_
  refine Aw.iast (n := 336) (ft_6_0 hr0).1 (ft_6_0 hr0).2 rfl dX6_scraps_17 (fun hb5 => ?_)
  refine Aw.bs (fun τ6 => ?_)
  refine Aw.iload_n 0 rfl rfl dX6_scraps_18 ?_
  exact Aw.iret rfl dX6_scraps_19
abbrev MX6_back : Mt := (RX6, cX6_back, 2, (some .int), 2)
def f_X6_back_26  : Nat → Nat → Int32 → Sg → Option (Int32 × Sg)
  | 0, _, _, _ => none
  | n + 1, r0, x1, σ => if kd r0 = 6 then (if 336 ≤ x1 then (some (σ r0 2, σ)) else (if inb ((336 * (σ r0 2)) + x1) 1680 then (if inb x1 336 then (bn (up σ (rf r0 0) (ix x1) (σ (rf r0 1) (ix ((336 * (σ r0 2)) + x1)))) (fun τ3 => f_X6_back_26 n r0 (x1 + 1) τ3)) else none) else none)) else none
def f_X6_back (r0 : Nat) (σ : Sg) : Option (Int32 × Sg) := if kd r0 = 6 then (if σ r0 2 = 0 then (cb (f_X6_refused r0 ((-3)) σ) (fun a2 τ3 => some (a2, τ3))) else (bn (up σ r0 2 ((σ r0 2) - 1)) (fun τ1 => f_X6_back_26 FU r0 0 τ1))) else none
set_option maxRecDepth 100000 in
set_option maxHeartbeats 4000000 in
theorem aw_X6_back_26 (l : Launch) (G : Gt) : ∀ (n : Nat) (r0 : Nat) (x1 : Int32) (σ : Sg), Aw l G MX6_back rI 26 [(0, .ref (Gb G + r0)), (1, .int x1)] [] σ (f_X6_back_26 n r0 x1 σ) := by
  intro n
  induction n with
  | zero => intro r0 x1 σ; exact Aw.no
  | succ n ih =>
    intro r0 x1 σ
    rw [f_X6_back_26]
    refine Aw.gd (fun hr0 => ?_)
    refine Aw.iload_n 1 rfl rfl dX6_back_26 ?_
    refine Aw.sipush (v := 336) is_336 rfl dX6_back_27 ?_
    refine Aw.icmp_ge (q := 33) (t := 60) rfl (by decide) dX6_back_30 (fun hc => ?_) (fun hc => ?_)
    · refine Aw.aload_n 0 rfl rfl dX6_back_60 ?_
      refine Aw.getI fl_X6_42 (Nat.le_of_ble_eq_true rfl) rfl hr0 rfl dX6_back_61 ?_
      exact Aw.iret rfl dX6_back_64
    · refine Aw.aload_n 0 rfl rfl dX6_back_33 ?_
      refine Aw.getR fl_X6_7 (Nat.le_of_ble_eq_true rfl) rfl hr0 rfl dX6_back_34 ?_
      refine Aw.iload_n 1 rfl rfl dX6_back_37 ?_
      refine Aw.aload_n 0 rfl rfl dX6_back_38 ?_
      refine Aw.getR fl_X6_13 (Nat.le_of_ble_eq_true rfl) rfl hr0 rfl dX6_back_39 ?_
      refine Aw.sipush (v := 336) is_336 rfl dX6_back_42 ?_
      refine Aw.aload_n 0 rfl rfl dX6_back_45 ?_
      refine Aw.getI fl_X6_42 (Nat.le_of_ble_eq_true rfl) rfl hr0 rfl dX6_back_46 ?_
      refine Aw.imul rfl dX6_back_49 ?_
      refine Aw.iload_n 1 rfl rfl dX6_back_50 ?_
      refine Aw.iadd rfl dX6_back_51 ?_
      refine Aw.iald (n := 1680) (ft_6_1 hr0).1 (ft_6_1 hr0).2 rfl dX6_back_52 (fun hb1 => ?_)
      refine Aw.iast (n := 336) (ft_6_0 hr0).1 (ft_6_0 hr0).2 rfl dX6_back_53 (fun hb2 => ?_)
      refine Aw.bs (fun τ3 => ?_)
      refine Aw.iinc (v := x1 + 1) (L' := [(1, .int (x1 + 1)), (0, .ref (Gb G + r0))]) 1 rfl (ii_1 _) (Nat.le_of_ble_eq_true rfl) rfl rfl dX6_back_54 ?_
      refine Aw.goto (q := 26) (by decide) dX6_back_57 ?_
      refine Aw.sub (L' := [(0, .ref (Gb G + r0)), (1, .int (x1 + 1))]) [1, 0] rfl ?_
      exact ih _ _ _
set_option maxRecDepth 100000 in
set_option maxHeartbeats 4000000 in
theorem ct_X6_back (l : Launch) (G : Gt) (r0 : Nat) (σ : Sg) : Ct l G yX6_back MX6_back rI [.ref (Gb G + r0)] σ (f_X6_back r0 σ) := by
  refine Ct.of (by decide +kernel) rfl (Nat.le_of_ble_eq_true rfl) ?_
  show Aw l G MX6_back rI 0 [(0, .ref (Gb G + r0))] [] σ _
  unfold f_X6_back
  refine Aw.gd (fun hr0 => ?_)
  refine Aw.aload_n 0 rfl rfl dX6_back_0 ?_
  refine Aw.getI fl_X6_42 (Nat.le_of_ble_eq_true rfl) rfl hr0 rfl dX6_back_1 ?_
  refine Aw.if_ne (q := 7) (t := 14) rfl (by decide) dX6_back_4 (fun hc => ?_) (fun hc => ?_)
  · refine Aw.aload_n 0 rfl rfl dX6_back_7 ?_
    refine Aw.bipush (v := (-3)) ib_m3 rfl dX6_back_8 ?_
    refine Aw.callVi (As := [.int ((-3))]) (rest := []) cv_X6_38 (Nat.le_of_ble_eq_true rfl) hr0 (ct_X6_refused l G r0 ((-3)) σ) rfl rfl (Nat.le_of_ble_eq_true rfl) (Nat.le_of_ble_eq_true rfl) (Nat.le_of_ble_eq_true rfl) rfl dX6_back_10 (fun a2 τ3 _ => ?_)
    exact Aw.iret rfl dX6_back_13
  · refine Aw.aload_n 0 rfl rfl dX6_back_14 ?_
    refine Aw.dupr rfl dX6_back_15 ?_
    refine Aw.getI fl_X6_42 (Nat.le_of_ble_eq_true rfl) rfl hr0 rfl dX6_back_16 ?_
    refine Aw.iconst (v := 1) ic_1 rfl dX6_back_19 ?_
    refine Aw.isub rfl dX6_back_20 ?_
    refine Aw.putI (v := (σ r0 2) - 1) fl_X6_42 fp_6_2 rfl rfl (Nat.le_of_ble_eq_true rfl) rfl hr0 rfl dX6_back_21 ?_
    refine Aw.bs (fun τ1 => ?_)
    refine Aw.iconst (v := 0) ic_0 rfl dX6_back_24 ?_
    refine Aw.istore_n (L' := [(1, .int 0), (0, .ref (Gb G + r0))]) (Nat.le_of_ble_eq_true rfl) rfl rfl dX6_back_25 ?_
    refine Aw.sub (L' := [(0, .ref (Gb G + r0)), (1, .int 0)]) [1, 0] rfl ?_
    exact aw_X6_back_26 l G FU _ _ _
abbrev MX6_partner : Mt := (RX6, cX6_partner, 3, (some .int), 1)
def f_X6_partner_15  (r0 : Nat) (s0 : Int32) (σ : Sg) : Option (Int32 × Sg) := if kd r0 = 6 then (if inb 0 336 then (if σ (rf r0 0) (ix 0) ≤ s0 then (some ((-1), σ)) else (some (s0, σ))) else none) else none
def f_X6_partner (r0 : Nat) (x1 : Int32) (σ : Sg) : Option (Int32 × Sg) := if kd r0 = 6 then (if rem x1 2 = 0 then (f_X6_partner_15 r0 (x1 + 1) σ) else (f_X6_partner_15 r0 (x1 - 1) σ)) else none
set_option maxRecDepth 100000 in
set_option maxHeartbeats 4000000 in
theorem aw_X6_partner_15 (l : Launch) (G : Gt) (r0 : Nat) (s0 : Int32) (σ : Sg) : Aw l G MX6_partner rI 15 [(0, .ref (Gb G + r0))] [.int s0] σ (f_X6_partner_15 r0 s0 σ) := by
  unfold f_X6_partner_15
  refine Aw.gd (fun hr0 => ?_)
  refine Aw.istore_n (L' := [(2, .int s0), (0, .ref (Gb G + r0))]) (Nat.le_of_ble_eq_true rfl) rfl rfl dX6_partner_15 ?_
  refine Aw.iload_n 0 rfl rfl dX6_partner_16 ?_
  refine Aw.aload_n 1 rfl rfl dX6_partner_17 ?_
  refine Aw.getR fl_X6_7 (Nat.le_of_ble_eq_true rfl) rfl hr0 rfl dX6_partner_18 ?_
  refine Aw.iconst (v := 0) ic_0 rfl dX6_partner_21 ?_
  refine Aw.iald (n := 336) (ft_6_0 hr0).1 (ft_6_0 hr0).2 rfl dX6_partner_22 (fun hb1 => ?_)
  refine Aw.icmp_ge (q := 26) (t := 30) rfl (by decide) dX6_partner_23 (fun hc => ?_) (fun hc => ?_)
  · refine Aw.iconst (v := (-1)) ic_m1 rfl dX6_partner_30 ?_
    exact Aw.iret rfl dX6_partner_31
  · refine Aw.iload_n 0 rfl rfl dX6_partner_26 ?_
    refine Aw.goto (q := 31) (by decide) dX6_partner_27 ?_
    exact Aw.iret rfl dX6_partner_31
set_option maxRecDepth 100000 in
set_option maxHeartbeats 4000000 in
theorem ct_X6_partner (l : Launch) (G : Gt) (r0 : Nat) (x1 : Int32) (σ : Sg) : Ct l G yX6_partner MX6_partner rI [.ref (Gb G + r0), .int x1] σ (f_X6_partner r0 x1 σ) := by
  refine Ct.of (by decide +kernel) rfl (Nat.le_of_ble_eq_true rfl) ?_
  show Aw l G MX6_partner rI 0 [(0, .ref (Gb G + r0)), (1, .int x1)] [] σ _
  unfold f_X6_partner
  refine Aw.gd (fun hr0 => ?_)
  refine Aw.iload_n 1 rfl rfl dX6_partner_0 ?_
  refine Aw.iconst (v := 2) ic_2 rfl dX6_partner_1 ?_
  refine Aw.irem nz_2 rfl dX6_partner_2 ?_
  refine Aw.if_ne (q := 6) (t := 12) rfl (by decide) dX6_partner_3 (fun hc => ?_) (fun hc => ?_)
  · refine Aw.iload_n 1 rfl rfl dX6_partner_6 ?_
    refine Aw.iconst (v := 1) ic_1 rfl dX6_partner_7 ?_
    refine Aw.iadd rfl dX6_partner_8 ?_
    refine Aw.goto (q := 15) (by decide) dX6_partner_9 ?_
    refine Aw.sub (L' := [(0, .ref (Gb G + r0))]) [0] rfl ?_
    exact aw_X6_partner_15 l G _ _ _
  · refine Aw.iload_n 1 rfl rfl dX6_partner_12 ?_
    refine Aw.iconst (v := 1) ic_1 rfl dX6_partner_13 ?_
    refine Aw.isub rfl dX6_partner_14 ?_
    refine Aw.sub (L' := [(0, .ref (Gb G + r0))]) [0] rfl ?_
    exact aw_X6_partner_15 l G _ _ _
abbrev MX6_arePaired : Mt := (RX6, cX6_arePaired, 5, (some .boolean), 2)
def f_X6_arePaired_84  (σ : Sg) : Option (Int32 × Sg) := some (1, σ)
def f_X6_arePaired (r0 : Nat) (x1 : Int32) (σ : Sg) : Option (Int32 × Sg) := if kd r0 = 6 then (cb (f_X6_partner r0 x1 σ) (fun a1 τ2 => if a1 < 0 then (some (0, τ2)) else (if inb (5 + (4 * x1)) 336 then (if inb (5 + (4 * a1)) 336 then (if τ2 (rf r0 0) (ix (5 + (4 * x1))) = τ2 (rf r0 0) (ix (5 + (4 * a1))) then (if inb (4 + (4 * x1)) 336 then (bn (τ2 (rf r0 0) (ix (4 + (4 * x1)))) (fun b6 => if inb (4 + (4 * a1)) 336 then (bn (τ2 (rf r0 0) (ix (4 + (4 * a1)))) (fun b8 => if b6 / 4 = b8 / 4 then (if b6 - b8 = 1 then (f_X6_arePaired_84 τ2) else (if b8 - b6 = 1 then (f_X6_arePaired_84 τ2) else (some (0, τ2)))) else (some (0, τ2)))) else none)) else none) else (some (0, τ2))) else none) else none))) else none
theorem cv_X6_102 : CV RX6 102 6 yX6_partner MX6_partner 1 := ⟨_, rfl, rfl, ml_X6_102, ins_X6_partner, sel_X6_partner, ini_X6, cw_X6_partner, ⟨by decide, by decide, by decide +kernel⟩⟩
set_option maxRecDepth 100000 in
set_option maxHeartbeats 4000000 in
theorem aw_X6_arePaired_84 (l : Launch) (G : Gt) (σ : Sg) : Aw l G MX6_arePaired rI 84 [] [] σ (f_X6_arePaired_84 σ) := by
  unfold f_X6_arePaired_84
  refine Aw.iconst (v := 1) ic_1 rfl dX6_arePaired_84 ?_
  refine Aw.goto (q := 89) (by decide) dX6_arePaired_85 ?_
  exact Aw.zret rfl rfl dX6_arePaired_89
set_option maxRecDepth 100000 in
set_option maxHeartbeats 4000000 in
theorem ct_X6_arePaired (l : Launch) (G : Gt) (r0 : Nat) (x1 : Int32) (σ : Sg) : Ct l G yX6_arePaired MX6_arePaired rI [.ref (Gb G + r0), .int x1] σ (f_X6_arePaired r0 x1 σ) := by
  refine Ct.of (by decide +kernel) rfl (Nat.le_of_ble_eq_true rfl) ?_
  show Aw l G MX6_arePaired rI 0 [(0, .ref (Gb G + r0)), (1, .int x1)] [] σ _
  unfold f_X6_arePaired
  refine Aw.gd (fun hr0 => ?_)
  refine Aw.aload_n 0 rfl rfl dX6_arePaired_0 ?_
  refine Aw.iload_n 1 rfl rfl dX6_arePaired_1 ?_
  refine Aw.callVi (As := [.int x1]) (rest := []) cv_X6_102 (Nat.le_of_ble_eq_true rfl) hr0 (ct_X6_partner l G r0 x1 σ) rfl rfl (Nat.le_of_ble_eq_true rfl) (Nat.le_of_ble_eq_true rfl) (Nat.le_of_ble_eq_true rfl) rfl dX6_arePaired_2 (fun a1 τ2 _ => ?_)
  refine Aw.istore_n (L' := [(2, .int a1), (0, .ref (Gb G + r0)), (1, .int x1)]) (Nat.le_of_ble_eq_true rfl) rfl rfl dX6_arePaired_5 ?_
  refine Aw.iload_n 0 rfl rfl dX6_arePaired_6 ?_
  refine Aw.if_lt (q := 10) (t := 33) rfl (by decide) dX6_arePaired_7 (fun hc => ?_) (fun hc => ?_)
  · refine Aw.iconst (v := 0) ic_0 rfl dX6_arePaired_33 ?_
    exact Aw.zret rfl rfl dX6_arePaired_34
  · refine Aw.aload_n 1 rfl rfl dX6_arePaired_10 ?_
    refine Aw.getR fl_X6_7 (Nat.le_of_ble_eq_true rfl) rfl hr0 rfl dX6_arePaired_11 ?_
    refine Aw.iconst (v := 5) ic_5 rfl dX6_arePaired_14 ?_
    refine Aw.iconst (v := 4) ic_4 rfl dX6_arePaired_15 ?_
    refine Aw.iload_n 2 rfl rfl dX6_arePaired_16 ?_
    refine Aw.imul rfl dX6_arePaired_17 ?_
    refine Aw.iadd rfl dX6_arePaired_18 ?_
    refine Aw.iald (n := 336) (ft_6_0 hr0).1 (ft_6_0 hr0).2 rfl dX6_arePaired_19 (fun hb3 => ?_)
    refine Aw.aload_n 1 rfl rfl dX6_arePaired_20 ?_
    refine Aw.getR fl_X6_7 (Nat.le_of_ble_eq_true rfl) rfl hr0 rfl dX6_arePaired_21 ?_
    refine Aw.iconst (v := 5) ic_5 rfl dX6_arePaired_24 ?_
    refine Aw.iconst (v := 4) ic_4 rfl dX6_arePaired_25 ?_
    refine Aw.iload_n 0 rfl rfl dX6_arePaired_26 ?_
    refine Aw.imul rfl dX6_arePaired_27 ?_
    refine Aw.iadd rfl dX6_arePaired_28 ?_
    refine Aw.iald (n := 336) (ft_6_0 hr0).1 (ft_6_0 hr0).2 rfl dX6_arePaired_29 (fun hb4 => ?_)
    refine Aw.icmp_eq (q := 33) (t := 35) rfl (by decide) dX6_arePaired_30 (fun hc => ?_) (fun hc => ?_)
    · refine Aw.aload_n 1 rfl rfl dX6_arePaired_35 ?_
      refine Aw.getR fl_X6_7 (Nat.le_of_ble_eq_true rfl) rfl hr0 rfl dX6_arePaired_36 ?_
      refine Aw.iconst (v := 4) ic_4 rfl dX6_arePaired_39 ?_
      refine Aw.iconst (v := 4) ic_4 rfl dX6_arePaired_40 ?_
      refine Aw.iload_n 2 rfl rfl dX6_arePaired_41 ?_
      refine Aw.imul rfl dX6_arePaired_42 ?_
      refine Aw.iadd rfl dX6_arePaired_43 ?_
      refine Aw.iald (n := 336) (ft_6_0 hr0).1 (ft_6_0 hr0).2 rfl dX6_arePaired_44 (fun hb5 => ?_)
      refine Aw.bi (fun b6 => ?_)
      refine Aw.istore_n (L' := [(3, .int b6), (2, .int a1), (0, .ref (Gb G + r0)), (1, .int x1)]) (Nat.le_of_ble_eq_true rfl) rfl rfl dX6_arePaired_45 ?_
      refine Aw.aload_n 2 rfl rfl dX6_arePaired_46 ?_
      refine Aw.getR fl_X6_7 (Nat.le_of_ble_eq_true rfl) rfl hr0 rfl dX6_arePaired_47 ?_
      refine Aw.iconst (v := 4) ic_4 rfl dX6_arePaired_50 ?_
      refine Aw.iconst (v := 4) ic_4 rfl dX6_arePaired_51 ?_
      refine Aw.iload_n 1 rfl rfl dX6_arePaired_52 ?_
      refine Aw.imul rfl dX6_arePaired_53 ?_
      refine Aw.iadd rfl dX6_arePaired_54 ?_
      refine Aw.iald (n := 336) (ft_6_0 hr0).1 (ft_6_0 hr0).2 rfl dX6_arePaired_55 (fun hb7 => ?_)
      refine Aw.bi (fun b8 => ?_)
      refine Aw.istore (L' := [(4, .int b8), (3, .int b6), (2, .int a1), (0, .ref (Gb G + r0)), (1, .int x1)]) (Nat.le_of_ble_eq_true rfl) rfl rfl dX6_arePaired_56 ?_
      refine Aw.iload_n 1 rfl rfl dX6_arePaired_58 ?_
      refine Aw.iconst (v := 4) ic_4 rfl dX6_arePaired_59 ?_
      refine Aw.idiv nz_4 rfl dX6_arePaired_60 ?_
      refine Aw.iload 0 rfl rfl dX6_arePaired_61 ?_
      refine Aw.iconst (v := 4) ic_4 rfl dX6_arePaired_63 ?_
      refine Aw.idiv nz_4 rfl dX6_arePaired_64 ?_
      refine Aw.icmp_ne (q := 68) (t := 88) rfl (by decide) dX6_arePaired_65 (fun hc => ?_) (fun hc => ?_)
      · refine Aw.iload_n 1 rfl rfl dX6_arePaired_68 ?_
        refine Aw.iload 0 rfl rfl dX6_arePaired_69 ?_
        refine Aw.isub rfl dX6_arePaired_71 ?_
        refine Aw.iconst (v := 1) ic_1 rfl dX6_arePaired_72 ?_
        refine Aw.icmp_eq (q := 76) (t := 84) rfl (by decide) dX6_arePaired_73 (fun hc => ?_) (fun hc => ?_)
        · refine Aw.sub (L' := []) [] rfl ?_
          exact aw_X6_arePaired_84 l G _
        · refine Aw.iload 0 rfl rfl dX6_arePaired_76 ?_
          refine Aw.iload_n 1 rfl rfl dX6_arePaired_78 ?_
          refine Aw.isub rfl dX6_arePaired_79 ?_
          refine Aw.iconst (v := 1) ic_1 rfl dX6_arePaired_80 ?_
          refine Aw.icmp_ne (q := 84) (t := 88) rfl (by decide) dX6_arePaired_81 (fun hc => ?_) (fun hc => ?_)
          · refine Aw.sub (L' := []) [] rfl ?_
            exact aw_X6_arePaired_84 l G _
          · refine Aw.iconst (v := 0) ic_0 rfl dX6_arePaired_88 ?_
            exact Aw.zret rfl rfl dX6_arePaired_89
      · refine Aw.iconst (v := 0) ic_0 rfl dX6_arePaired_88 ?_
        exact Aw.zret rfl rfl dX6_arePaired_89
    · refine Aw.iconst (v := 0) ic_0 rfl dX6_arePaired_33 ?_
      exact Aw.zret rfl rfl dX6_arePaired_34
abbrev MX6_pairs : Mt := (RX6, cX6_pairs, 3, (some .int), 3)
def f_X6_pairs_30 (rc4 : Nat → Int32 → Int32 → Sg → Option (Int32 × Sg)) (r0 : Nat) (x2 : Int32) (s0 : Int32) (s1 : Int32) (σ : Sg) : Option (Int32 × Sg) := if kd r0 = 6 then (bn (s0 + s1) (fun b1 => rc4 r0 b1 (x2 + 2) σ)) else none
def f_X6_pairs_4  : Nat → Nat → Int32 → Int32 → Sg → Option (Int32 × Sg)
  | 0, _, _, _, _ => none
  | n + 1, r0, x1, x2, σ => if kd r0 = 6 then (if inb 0 336 then (if σ (rf r0 0) (ix 0) ≤ x2 + 1 then (some (x1, σ)) else (cb (f_X6_arePaired r0 x2 σ) (fun a2 τ3 => if a2 = 0 then (f_X6_pairs_30 (f_X6_pairs_4 n) r0 x2 x1 0 τ3) else (f_X6_pairs_30 (f_X6_pairs_4 n) r0 x2 x1 1 τ3)))) else none) else none
def f_X6_pairs (r0 : Nat) (σ : Sg) : Option (Int32 × Sg) := if kd r0 = 6 then (f_X6_pairs_4 FU r0 0 0 σ) else none
theorem cv_X6_105 : CV RX6 105 6 yX6_arePaired MX6_arePaired 1 := ⟨_, rfl, rfl, ml_X6_105, ins_X6_arePaired, sel_X6_arePaired, ini_X6, cw_X6_arePaired, ⟨by decide, by decide, by decide +kernel⟩⟩
set_option maxRecDepth 100000 in
set_option maxHeartbeats 4000000 in
theorem aw_X6_pairs_30 (l : Launch) (G : Gt) (rc4 : Nat → Int32 → Int32 → Sg → Option (Int32 × Sg)) (hrc4 : ∀ (r0 : Nat) (x1 : Int32) (x2 : Int32) (σ : Sg), Aw l G MX6_pairs rI 4 [(0, .ref (Gb G + r0)), (1, .int x1), (2, .int x2)] [] σ (rc4 r0 x1 x2 σ)) (r0 : Nat) (x2 : Int32) (s0 : Int32) (s1 : Int32) (σ : Sg) : Aw l G MX6_pairs rI 30 [(0, .ref (Gb G + r0)), (2, .int x2)] [.int s1, .int s0] σ (f_X6_pairs_30 rc4 r0 x2 s0 s1 σ) := by
  unfold f_X6_pairs_30
  refine Aw.gd (fun hr0 => ?_)
  refine Aw.iadd rfl dX6_pairs_30 ?_
  refine Aw.bi (fun b1 => ?_)
  refine Aw.istore_n (L' := [(1, .int b1), (0, .ref (Gb G + r0)), (2, .int x2)]) (Nat.le_of_ble_eq_true rfl) rfl rfl dX6_pairs_31 ?_
  refine Aw.iinc (v := x2 + 2) (L' := [(2, .int (x2 + 2)), (1, .int b1), (0, .ref (Gb G + r0))]) 2 rfl (ii_2 _) (Nat.le_of_ble_eq_true rfl) rfl rfl dX6_pairs_32 ?_
  refine Aw.goto (q := 4) (by decide) dX6_pairs_35 ?_
  refine Aw.sub (L' := [(0, .ref (Gb G + r0)), (1, .int b1), (2, .int (x2 + 2))]) [2, 1, 0] rfl ?_
  exact hrc4 _ _ _ _
set_option maxRecDepth 100000 in
set_option maxHeartbeats 4000000 in
theorem aw_X6_pairs_4 (l : Launch) (G : Gt) : ∀ (n : Nat) (r0 : Nat) (x1 : Int32) (x2 : Int32) (σ : Sg), Aw l G MX6_pairs rI 4 [(0, .ref (Gb G + r0)), (1, .int x1), (2, .int x2)] [] σ (f_X6_pairs_4 n r0 x1 x2 σ) := by
  intro n
  induction n with
  | zero => intro r0 x1 x2 σ; exact Aw.no
  | succ n ih =>
    intro r0 x1 x2 σ
    rw [f_X6_pairs_4]
    refine Aw.gd (fun hr0 => ?_)
    refine Aw.iload_n 2 rfl rfl dX6_pairs_4 ?_
    refine Aw.iconst (v := 1) ic_1 rfl dX6_pairs_5 ?_
    refine Aw.iadd rfl dX6_pairs_6 ?_
    refine Aw.aload_n 0 rfl rfl dX6_pairs_7 ?_
    refine Aw.getR fl_X6_7 (Nat.le_of_ble_eq_true rfl) rfl hr0 rfl dX6_pairs_8 ?_
    refine Aw.iconst (v := 0) ic_0 rfl dX6_pairs_11 ?_
    refine Aw.iald (n := 336) (ft_6_0 hr0).1 (ft_6_0 hr0).2 rfl dX6_pairs_12 (fun hb1 => ?_)
    refine Aw.icmp_ge (q := 16) (t := 38) rfl (by decide) dX6_pairs_13 (fun hc => ?_) (fun hc => ?_)
    · refine Aw.iload_n 1 rfl rfl dX6_pairs_38 ?_
      exact Aw.iret rfl dX6_pairs_39
    · refine Aw.iload_n 1 rfl rfl dX6_pairs_16 ?_
      refine Aw.aload_n 0 rfl rfl dX6_pairs_17 ?_
      refine Aw.iload_n 2 rfl rfl dX6_pairs_18 ?_
      refine Aw.callVi (As := [.int x2]) (rest := [.int x1]) cv_X6_105 (Nat.le_of_ble_eq_true rfl) hr0 (ct_X6_arePaired l G r0 x2 σ) rfl rfl (Nat.le_of_ble_eq_true rfl) (Nat.le_of_ble_eq_true rfl) (Nat.le_of_ble_eq_true rfl) rfl dX6_pairs_19 (fun a2 τ3 _ => ?_)
      refine Aw.if_eq (q := 25) (t := 29) rfl (by decide) dX6_pairs_22 (fun hc => ?_) (fun hc => ?_)
      · refine Aw.iconst (v := 0) ic_0 rfl dX6_pairs_29 ?_
        refine Aw.sub (L' := [(0, .ref (Gb G + r0)), (2, .int x2)]) [0, 2] rfl ?_
        exact aw_X6_pairs_30 l G _ ih _ _ _ _ _
      · refine Aw.iconst (v := 1) ic_1 rfl dX6_pairs_25 ?_
        refine Aw.goto (q := 30) (by decide) dX6_pairs_26 ?_
        refine Aw.sub (L' := [(0, .ref (Gb G + r0)), (2, .int x2)]) [0, 2] rfl ?_
        exact aw_X6_pairs_30 l G _ ih _ _ _ _ _
set_option maxRecDepth 100000 in
set_option maxHeartbeats 4000000 in
theorem ct_X6_pairs (l : Launch) (G : Gt) (r0 : Nat) (σ : Sg) : Ct l G yX6_pairs MX6_pairs rI [.ref (Gb G + r0)] σ (f_X6_pairs r0 σ) := by
  refine Ct.of (by decide +kernel) rfl (Nat.le_of_ble_eq_true rfl) ?_
  show Aw l G MX6_pairs rI 0 [(0, .ref (Gb G + r0))] [] σ _
  unfold f_X6_pairs
  refine Aw.gd (fun hr0 => ?_)
  refine Aw.iconst (v := 0) ic_0 rfl dX6_pairs_0 ?_
  refine Aw.istore_n (L' := [(1, .int 0), (0, .ref (Gb G + r0))]) (Nat.le_of_ble_eq_true rfl) rfl rfl dX6_pairs_1 ?_
  refine Aw.iconst (v := 0) ic_0 rfl dX6_pairs_2 ?_
  refine Aw.istore_n (L' := [(2, .int 0), (1, .int 0), (0, .ref (Gb G + r0))]) (Nat.le_of_ble_eq_true rfl) rfl rfl dX6_pairs_3 ?_
  refine Aw.sub (L' := [(0, .ref (Gb G + r0)), (1, .int 0), (2, .int 0)]) [2, 1, 0] rfl ?_
  exact aw_X6_pairs_4 l G FU _ _ _ _
abbrev MX6_ofDancer : Mt := (RX6, cX6_ofDancer, 3, (some .int), 3)
def f_X6_ofDancer (r0 : Nat) (x1 : Int32) (x2 : Int32) (σ : Sg) : Option (Int32 × Sg) := if kd r0 = 6 then (cb (f_X6_isDancer r0 x1 σ) (fun a1 τ2 => if a1 = 0 then (some ((-2), τ2)) else (cb (f_X6_isIn x2 0 6 τ2) (fun a3 τ4 => if a3 = 0 then (some ((-2), τ4)) else (if x2 = 4 then (cb (f_X6_isHome r0 x1 τ4) (fun a5 τ6 => if a5 = 0 then (some (0, τ6)) else (some (1, τ6)))) else if x2 = 5 then (cb (f_X6_partner r0 x1 τ4) (fun a7 τ8 => some (a7, τ8))) else if x2 = 6 then (cb (f_X6_arePaired r0 x1 τ4) (fun a9 τ10 => if a9 = 0 then (some (0, τ10)) else (some (1, τ10)))) else (if inb ((4 + (4 * x1)) + x2) 336 then (some (τ4 (rf r0 0) (ix ((4 + (4 * x1)) + x2)), τ4)) else none)))))) else none
theorem cv_X6_108 : CV RX6 108 6 yX6_isDancer MX6_isDancer 1 := ⟨_, rfl, rfl, ml_X6_108, ins_X6_isDancer, sel_X6_isDancer, ini_X6, cw_X6_isDancer, ⟨by decide, by decide, by decide +kernel⟩⟩
set_option maxRecDepth 100000 in
set_option maxHeartbeats 4000000 in
theorem ct_X6_ofDancer (l : Launch) (G : Gt) (r0 : Nat) (x1 : Int32) (x2 : Int32) (σ : Sg) : Ct l G yX6_ofDancer MX6_ofDancer rI [.ref (Gb G + r0), .int x1, .int x2] σ (f_X6_ofDancer r0 x1 x2 σ) := by
  refine Ct.of (by decide +kernel) rfl (Nat.le_of_ble_eq_true rfl) ?_
  show Aw l G MX6_ofDancer rI 0 [(0, .ref (Gb G + r0)), (1, .int x1), (2, .int x2)] [] σ _
  unfold f_X6_ofDancer
  refine Aw.gd (fun hr0 => ?_)
  refine Aw.aload_n 0 rfl rfl dX6_ofDancer_0 ?_
  refine Aw.iload_n 1 rfl rfl dX6_ofDancer_1 ?_
  refine Aw.callVi (As := [.int x1]) (rest := []) cv_X6_108 (Nat.le_of_ble_eq_true rfl) hr0 (ct_X6_isDancer l G r0 x1 σ) rfl rfl (Nat.le_of_ble_eq_true rfl) (Nat.le_of_ble_eq_true rfl) (Nat.le_of_ble_eq_true rfl) rfl dX6_ofDancer_2 (fun a1 τ2 _ => ?_)
  refine Aw.if_eq (q := 8) (t := 18) rfl (by decide) dX6_ofDancer_5 (fun hc => ?_) (fun hc => ?_)
  · refine Aw.bipush (v := (-2)) ib_m2 rfl dX6_ofDancer_18 ?_
    exact Aw.iret rfl dX6_ofDancer_20
  · refine Aw.iload_n 2 rfl rfl dX6_ofDancer_8 ?_
    refine Aw.iconst (v := 0) ic_0 rfl dX6_ofDancer_9 ?_
    refine Aw.bipush (v := 6) ib_6 rfl dX6_ofDancer_10 ?_
    refine Aw.callSi (As := [.int x2, .int 0, .int 6]) (rest := []) cs_X6_48 (ct_X6_isIn l G x2 0 6 τ2) rfl rfl (Nat.le_of_ble_eq_true rfl) (Nat.le_of_ble_eq_true rfl) (Nat.le_of_ble_eq_true rfl) rfl dX6_ofDancer_12 (fun a3 τ4 _ => ?_)
    refine Aw.if_ne (q := 18) (t := 21) rfl (by decide) dX6_ofDancer_15 (fun hc => ?_) (fun hc => ?_)
    · refine Aw.bipush (v := (-2)) ib_m2 rfl dX6_ofDancer_18 ?_
      exact Aw.iret rfl dX6_ofDancer_20
    · refine Aw.iload_n 2 rfl rfl dX6_ofDancer_21 ?_
      refine Aw.br (fun hc4 => ?_) (fun hc4 => ?_)
      · refine Aw.tsIn (off := 26) (t := 48) dX6_ofDancer_22 4 hc4 (by decide) (by decide) (by decide +kernel) (by decide) ?_
        refine Aw.aload_n 0 rfl rfl dX6_ofDancer_48 ?_
        refine Aw.iload_n 1 rfl rfl dX6_ofDancer_49 ?_
        refine Aw.callVi (As := [.int x1]) (rest := []) cv_X6_99 (Nat.le_of_ble_eq_true rfl) hr0 (ct_X6_isHome l G r0 x1 τ4) rfl rfl (Nat.le_of_ble_eq_true rfl) (Nat.le_of_ble_eq_true rfl) (Nat.le_of_ble_eq_true rfl) rfl dX6_ofDancer_50 (fun a5 τ6 _ => ?_)
        refine Aw.if_eq (q := 56) (t := 60) rfl (by decide) dX6_ofDancer_53 (fun hc => ?_) (fun hc => ?_)
        · refine Aw.iconst (v := 0) ic_0 rfl dX6_ofDancer_60 ?_
          exact Aw.iret rfl dX6_ofDancer_61
        · refine Aw.iconst (v := 1) ic_1 rfl dX6_ofDancer_56 ?_
          refine Aw.goto (q := 61) (by decide) dX6_ofDancer_57 ?_
          exact Aw.iret rfl dX6_ofDancer_61
      refine Aw.br (fun hc5 => ?_) (fun hc5 => ?_)
      · refine Aw.tsIn (off := 40) (t := 62) dX6_ofDancer_22 5 hc5 (by decide) (by decide) (by decide +kernel) (by decide) ?_
        refine Aw.aload_n 0 rfl rfl dX6_ofDancer_62 ?_
        refine Aw.iload_n 1 rfl rfl dX6_ofDancer_63 ?_
        refine Aw.callVi (As := [.int x1]) (rest := []) cv_X6_102 (Nat.le_of_ble_eq_true rfl) hr0 (ct_X6_partner l G r0 x1 τ4) rfl rfl (Nat.le_of_ble_eq_true rfl) (Nat.le_of_ble_eq_true rfl) (Nat.le_of_ble_eq_true rfl) rfl dX6_ofDancer_64 (fun a7 τ8 _ => ?_)
        exact Aw.iret rfl dX6_ofDancer_67
      refine Aw.br (fun hc6 => ?_) (fun hc6 => ?_)
      · refine Aw.tsIn (off := 46) (t := 68) dX6_ofDancer_22 6 hc6 (by decide) (by decide) (by decide +kernel) (by decide) ?_
        refine Aw.aload_n 0 rfl rfl dX6_ofDancer_68 ?_
        refine Aw.iload_n 1 rfl rfl dX6_ofDancer_69 ?_
        refine Aw.callVi (As := [.int x1]) (rest := []) cv_X6_105 (Nat.le_of_ble_eq_true rfl) hr0 (ct_X6_arePaired l G r0 x1 τ4) rfl rfl (Nat.le_of_ble_eq_true rfl) (Nat.le_of_ble_eq_true rfl) (Nat.le_of_ble_eq_true rfl) rfl dX6_ofDancer_70 (fun a9 τ10 _ => ?_)
        refine Aw.if_eq (q := 76) (t := 80) rfl (by decide) dX6_ofDancer_73 (fun hc => ?_) (fun hc => ?_)
        · refine Aw.iconst (v := 0) ic_0 rfl dX6_ofDancer_80 ?_
          exact Aw.iret rfl dX6_ofDancer_81
        · refine Aw.iconst (v := 1) ic_1 rfl dX6_ofDancer_76 ?_
          refine Aw.goto (q := 81) (by decide) dX6_ofDancer_77 ?_
          exact Aw.iret rfl dX6_ofDancer_81
      refine Aw.tsOut (t := 82) dX6_ofDancer_22 (ts_out (fun k h1 h2 => ?_)) (by decide) ?_
      · rcases (show k = 4 ∨ k = 5 ∨ k = 6 by omega) with rfl | rfl | rfl
        · exact ts_ne (v := 4) (by decide) hc4
        · exact ts_ne (v := 5) (by decide) hc5
        · exact ts_ne (v := 6) (by decide) hc6
      refine Aw.aload_n 0 rfl rfl dX6_ofDancer_82 ?_
      refine Aw.getR fl_X6_7 (Nat.le_of_ble_eq_true rfl) rfl hr0 rfl dX6_ofDancer_83 ?_
      refine Aw.iconst (v := 4) ic_4 rfl dX6_ofDancer_86 ?_
      refine Aw.iconst (v := 4) ic_4 rfl dX6_ofDancer_87 ?_
      refine Aw.iload_n 1 rfl rfl dX6_ofDancer_88 ?_
      refine Aw.imul rfl dX6_ofDancer_89 ?_
      refine Aw.iadd rfl dX6_ofDancer_90 ?_
      refine Aw.iload_n 2 rfl rfl dX6_ofDancer_91 ?_
      refine Aw.iadd rfl dX6_ofDancer_92 ?_
      refine Aw.iald (n := 336) (ft_6_0 hr0).1 (ft_6_0 hr0).2 rfl dX6_ofDancer_93 (fun hb11 => ?_)
      exact Aw.iret rfl dX6_ofDancer_94
abbrev MX6_of : Mt := (RX6, cX6_of, 3, (some .int), 4)
def f_X6_of (r0 : Nat) (x1 : Int32) (x2 : Int32) (σ : Sg) : Option (Int32 × Sg) := if kd r0 = 6 then (cb (f_X6_ofDancer r0 x1 x2 σ) (fun a1 τ2 => cb (f_X6_counted r0 a1 τ2) (fun a3 τ4 => some (a3, τ4)))) else none
theorem cv_X6_111 : CV RX6 111 6 yX6_ofDancer MX6_ofDancer 2 := ⟨_, rfl, rfl, ml_X6_111, ins_X6_ofDancer, sel_X6_ofDancer, ini_X6, cw_X6_ofDancer, ⟨by decide, by decide, by decide +kernel⟩⟩
theorem cv_X6_114 : CV RX6 114 6 yX6_counted MX6_counted 1 := ⟨_, rfl, rfl, ml_X6_114, ins_X6_counted, sel_X6_counted, ini_X6, cw_X6_counted, ⟨by decide, by decide, by decide +kernel⟩⟩
set_option maxRecDepth 100000 in
set_option maxHeartbeats 4000000 in
theorem ct_X6_of (l : Launch) (G : Gt) (r0 : Nat) (x1 : Int32) (x2 : Int32) (σ : Sg) : Ct l G yX6_of MX6_of rI [.ref (Gb G + r0), .int x1, .int x2] σ (f_X6_of r0 x1 x2 σ) := by
  refine Ct.of (by decide +kernel) rfl (Nat.le_of_ble_eq_true rfl) ?_
  show Aw l G MX6_of rI 0 [(0, .ref (Gb G + r0)), (1, .int x1), (2, .int x2)] [] σ _
  unfold f_X6_of
  refine Aw.gd (fun hr0 => ?_)
  refine Aw.aload_n 0 rfl rfl dX6_of_0 ?_
  refine Aw.aload_n 0 rfl rfl dX6_of_1 ?_
  refine Aw.iload_n 1 rfl rfl dX6_of_2 ?_
  refine Aw.iload_n 2 rfl rfl dX6_of_3 ?_
  refine Aw.callVi (As := [.int x1, .int x2]) (rest := [.ref (Gb G + r0)]) cv_X6_111 (Nat.le_of_ble_eq_true rfl) hr0 (ct_X6_ofDancer l G r0 x1 x2 σ) rfl rfl (Nat.le_of_ble_eq_true rfl) (Nat.le_of_ble_eq_true rfl) (Nat.le_of_ble_eq_true rfl) rfl dX6_of_4 (fun a1 τ2 _ => ?_)
  refine Aw.callVi (As := [.int a1]) (rest := []) cv_X6_114 (Nat.le_of_ble_eq_true rfl) hr0 (ct_X6_counted l G r0 a1 τ2) rfl rfl (Nat.le_of_ble_eq_true rfl) (Nat.le_of_ble_eq_true rfl) (Nat.le_of_ble_eq_true rfl) rfl dX6_of_7 (fun a3 τ4 _ => ?_)
  exact Aw.iret rfl dX6_of_10
abbrev MX6_on : Mt := (RX6, cX6_on, 2, (some .int), 3)
def f_X6_on (r0 : Nat) (x1 : Int32) (σ : Sg) : Option (Int32 × Sg) := if kd r0 = 6 then (cb (f_X6_isSpot x1 σ) (fun a1 τ2 => if a1 = 0 then (cb (f_X6_refused r0 ((-2)) τ2) (fun a3 τ4 => some (a3, τ4))) else (cb (f_X6_who r0 x1 τ2) (fun a5 τ6 => some (a5, τ6))))) else none
set_option maxRecDepth 100000 in
set_option maxHeartbeats 4000000 in
theorem ct_X6_on (l : Launch) (G : Gt) (r0 : Nat) (x1 : Int32) (σ : Sg) : Ct l G yX6_on MX6_on rI [.ref (Gb G + r0), .int x1] σ (f_X6_on r0 x1 σ) := by
  refine Ct.of (by decide +kernel) rfl (Nat.le_of_ble_eq_true rfl) ?_
  show Aw l G MX6_on rI 0 [(0, .ref (Gb G + r0)), (1, .int x1)] [] σ _
  unfold f_X6_on
  refine Aw.gd (fun hr0 => ?_)
  refine Aw.iload_n 1 rfl rfl dX6_on_0 ?_
  refine Aw.callSi (As := [.int x1]) (rest := []) cs_X6_52 (ct_X6_isSpot l G x1 σ) rfl rfl (Nat.le_of_ble_eq_true rfl) (Nat.le_of_ble_eq_true rfl) (Nat.le_of_ble_eq_true rfl) rfl dX6_on_1 (fun a1 τ2 _ => ?_)
  refine Aw.if_eq (q := 7) (t := 15) rfl (by decide) dX6_on_4 (fun hc => ?_) (fun hc => ?_)
  · refine Aw.aload_n 0 rfl rfl dX6_on_15 ?_
    refine Aw.bipush (v := (-2)) ib_m2 rfl dX6_on_16 ?_
    refine Aw.callVi (As := [.int ((-2))]) (rest := []) cv_X6_38 (Nat.le_of_ble_eq_true rfl) hr0 (ct_X6_refused l G r0 ((-2)) τ2) rfl rfl (Nat.le_of_ble_eq_true rfl) (Nat.le_of_ble_eq_true rfl) (Nat.le_of_ble_eq_true rfl) rfl dX6_on_18 (fun a3 τ4 _ => ?_)
    exact Aw.iret rfl dX6_on_21
  · refine Aw.aload_n 0 rfl rfl dX6_on_7 ?_
    refine Aw.iload_n 1 rfl rfl dX6_on_8 ?_
    refine Aw.callVi (As := [.int x1]) (rest := []) cv_X6_63 (Nat.le_of_ble_eq_true rfl) hr0 (ct_X6_who l G r0 x1 τ2) rfl rfl (Nat.le_of_ble_eq_true rfl) (Nat.le_of_ble_eq_true rfl) (Nat.le_of_ble_eq_true rfl) rfl dX6_on_9 (fun a5 τ6 _ => ?_)
    refine Aw.goto (q := 21) (by decide) dX6_on_12 ?_
    exact Aw.iret rfl dX6_on_21
abbrev MX6_atSpot : Mt := (RX6, cX6_atSpot, 4, (some .int), 3)
def f_X6_atSpot (r0 : Nat) (x1 : Int32) (x2 : Int32) (x3 : Int32) (σ : Sg) : Option (Int32 × Sg) := if kd r0 = 6 then (cb (f_X6_isCall r0 x1 σ) (fun a1 τ2 => if a1 = 0 then (some ((-2), τ2)) else (cb (f_X6_isSpot x2 τ2) (fun a3 τ4 => if a3 = 0 then (some ((-2), τ4)) else (cb (f_X6_isIn x3 0 2 τ4) (fun a5 τ6 => if a5 = 0 then (some ((-2), τ6)) else (cb (f_X6_place r0 x1 x2 x3 τ6) (fun a7 τ8 => if inb a7 336 then (some (τ8 (rf r0 0) (ix a7), τ8)) else none)))))))) else none
set_option maxRecDepth 100000 in
set_option maxHeartbeats 4000000 in
theorem ct_X6_atSpot (l : Launch) (G : Gt) (r0 : Nat) (x1 : Int32) (x2 : Int32) (x3 : Int32) (σ : Sg) : Ct l G yX6_atSpot MX6_atSpot rI [.ref (Gb G + r0), .int x1, .int x2, .int x3] σ (f_X6_atSpot r0 x1 x2 x3 σ) := by
  refine Ct.of (by decide +kernel) rfl (Nat.le_of_ble_eq_true rfl) ?_
  show Aw l G MX6_atSpot rI 0 [(0, .ref (Gb G + r0)), (1, .int x1), (2, .int x2), (3, .int x3)] [] σ _
  unfold f_X6_atSpot
  refine Aw.gd (fun hr0 => ?_)
  refine Aw.aload_n 0 rfl rfl dX6_atSpot_0 ?_
  refine Aw.iload_n 1 rfl rfl dX6_atSpot_1 ?_
  refine Aw.callVi (As := [.int x1]) (rest := []) cv_X6_60 (Nat.le_of_ble_eq_true rfl) hr0 (ct_X6_isCall l G r0 x1 σ) rfl rfl (Nat.le_of_ble_eq_true rfl) (Nat.le_of_ble_eq_true rfl) (Nat.le_of_ble_eq_true rfl) rfl dX6_atSpot_2 (fun a1 τ2 _ => ?_)
  refine Aw.if_eq (q := 8) (t := 39) rfl (by decide) dX6_atSpot_5 (fun hc => ?_) (fun hc => ?_)
  · refine Aw.bipush (v := (-2)) ib_m2 rfl dX6_atSpot_39 ?_
    exact Aw.iret rfl dX6_atSpot_41
  · refine Aw.iload_n 2 rfl rfl dX6_atSpot_8 ?_
    refine Aw.callSi (As := [.int x2]) (rest := []) cs_X6_52 (ct_X6_isSpot l G x2 τ2) rfl rfl (Nat.le_of_ble_eq_true rfl) (Nat.le_of_ble_eq_true rfl) (Nat.le_of_ble_eq_true rfl) rfl dX6_atSpot_9 (fun a3 τ4 _ => ?_)
    refine Aw.if_eq (q := 15) (t := 39) rfl (by decide) dX6_atSpot_12 (fun hc => ?_) (fun hc => ?_)
    · refine Aw.bipush (v := (-2)) ib_m2 rfl dX6_atSpot_39 ?_
      exact Aw.iret rfl dX6_atSpot_41
    · refine Aw.iload_n 3 rfl rfl dX6_atSpot_15 ?_
      refine Aw.iconst (v := 0) ic_0 rfl dX6_atSpot_16 ?_
      refine Aw.iconst (v := 2) ic_2 rfl dX6_atSpot_17 ?_
      refine Aw.callSi (As := [.int x3, .int 0, .int 2]) (rest := []) cs_X6_48 (ct_X6_isIn l G x3 0 2 τ4) rfl rfl (Nat.le_of_ble_eq_true rfl) (Nat.le_of_ble_eq_true rfl) (Nat.le_of_ble_eq_true rfl) rfl dX6_atSpot_18 (fun a5 τ6 _ => ?_)
      refine Aw.if_eq (q := 24) (t := 39) rfl (by decide) dX6_atSpot_21 (fun hc => ?_) (fun hc => ?_)
      · refine Aw.bipush (v := (-2)) ib_m2 rfl dX6_atSpot_39 ?_
        exact Aw.iret rfl dX6_atSpot_41
      · refine Aw.aload_n 0 rfl rfl dX6_atSpot_24 ?_
        refine Aw.getR fl_X6_7 (Nat.le_of_ble_eq_true rfl) rfl hr0 rfl dX6_atSpot_25 ?_
        refine Aw.aload_n 0 rfl rfl dX6_atSpot_28 ?_
        refine Aw.iload_n 1 rfl rfl dX6_atSpot_29 ?_
        refine Aw.iload_n 2 rfl rfl dX6_atSpot_30 ?_
        refine Aw.iload_n 3 rfl rfl dX6_atSpot_31 ?_
        refine Aw.callVi (As := [.int x1, .int x2, .int x3]) (rest := [.ref (Gb G + rf r0 0)]) cv_X6_56 (Nat.le_of_ble_eq_true rfl) hr0 (ct_X6_place l G r0 x1 x2 x3 τ6) rfl rfl (Nat.le_of_ble_eq_true rfl) (Nat.le_of_ble_eq_true rfl) (Nat.le_of_ble_eq_true rfl) rfl dX6_atSpot_32 (fun a7 τ8 _ => ?_)
        refine Aw.iald (n := 336) (ft_6_0 hr0).1 (ft_6_0 hr0).2 rfl dX6_atSpot_35 (fun hb9 => ?_)
        refine Aw.goto (q := 41) (by decide) dX6_atSpot_36 ?_
        exact Aw.iret rfl dX6_atSpot_41
abbrev MX6_at : Mt := (RX6, cX6_at, 4, (some .int), 4)
def f_X6_at (r0 : Nat) (x1 : Int32) (x2 : Int32) (x3 : Int32) (σ : Sg) : Option (Int32 × Sg) := if kd r0 = 6 then (cb (f_X6_atSpot r0 x1 x2 x3 σ) (fun a1 τ2 => cb (f_X6_counted r0 a1 τ2) (fun a3 τ4 => some (a3, τ4)))) else none
theorem cv_X6_117 : CV RX6 117 6 yX6_atSpot MX6_atSpot 3 := ⟨_, rfl, rfl, ml_X6_117, ins_X6_atSpot, sel_X6_atSpot, ini_X6, cw_X6_atSpot, ⟨by decide, by decide, by decide +kernel⟩⟩
set_option maxRecDepth 100000 in
set_option maxHeartbeats 4000000 in
theorem ct_X6_at (l : Launch) (G : Gt) (r0 : Nat) (x1 : Int32) (x2 : Int32) (x3 : Int32) (σ : Sg) : Ct l G yX6_at MX6_at rI [.ref (Gb G + r0), .int x1, .int x2, .int x3] σ (f_X6_at r0 x1 x2 x3 σ) := by
  refine Ct.of (by decide +kernel) rfl (Nat.le_of_ble_eq_true rfl) ?_
  show Aw l G MX6_at rI 0 [(0, .ref (Gb G + r0)), (1, .int x1), (2, .int x2), (3, .int x3)] [] σ _
  unfold f_X6_at
  refine Aw.gd (fun hr0 => ?_)
  refine Aw.aload_n 0 rfl rfl dX6_at_0 ?_
  refine Aw.aload_n 0 rfl rfl dX6_at_1 ?_
  refine Aw.iload_n 1 rfl rfl dX6_at_2 ?_
  refine Aw.iload_n 2 rfl rfl dX6_at_3 ?_
  refine Aw.iload_n 3 rfl rfl dX6_at_4 ?_
  refine Aw.callVi (As := [.int x1, .int x2, .int x3]) (rest := [.ref (Gb G + r0)]) cv_X6_117 (Nat.le_of_ble_eq_true rfl) hr0 (ct_X6_atSpot l G r0 x1 x2 x3 σ) rfl rfl (Nat.le_of_ble_eq_true rfl) (Nat.le_of_ble_eq_true rfl) (Nat.le_of_ble_eq_true rfl) rfl dX6_at_5 (fun a1 τ2 _ => ?_)
  refine Aw.callVi (As := [.int a1]) (rest := []) cv_X6_114 (Nat.le_of_ble_eq_true rfl) hr0 (ct_X6_counted l G r0 a1 τ2) rfl rfl (Nat.le_of_ble_eq_true rfl) (Nat.le_of_ble_eq_true rfl) (Nat.le_of_ble_eq_true rfl) rfl dX6_at_8 (fun a3 τ4 _ => ?_)
  exact Aw.iret rfl dX6_at_11
abbrev MX6_common : Mt := (RX6, cX6_common, 5, (some .int), 1)
def f_X6_common_4  : Nat → Int32 → Int32 → Sg → Option (Int32 × Sg)
  | 0, _, _, _ => none
  | n + 1, x2, x3, σ => if x3 = 0 then (some (x2, σ)) else (if ¬ x3 = 0 then (bn (rem x2 x3) (fun b2 => f_X6_common_4 n x3 b2 σ)) else none)
def f_X6_common (x0 : Int32) (x1 : Int32) (σ : Sg) : Option (Int32 × Sg) := f_X6_common_4 FU x0 x1 σ
set_option maxRecDepth 100000 in
set_option maxHeartbeats 4000000 in
theorem aw_X6_common_4 (l : Launch) (G : Gt) : ∀ (n : Nat) (x2 : Int32) (x3 : Int32) (σ : Sg), Aw l G MX6_common rI 4 [(2, .int x2), (3, .int x3)] [] σ (f_X6_common_4 n x2 x3 σ) := by
  intro n
  induction n with
  | zero => intro x2 x3 σ; exact Aw.no
  | succ n ih =>
    intro x2 x3 σ
    rw [f_X6_common_4]
    refine Aw.iload_n 1 rfl rfl dX6_common_4 ?_
    refine Aw.if_eq (q := 8) (t := 21) rfl (by decide) dX6_common_5 (fun hc => ?_) (fun hc => ?_)
    · refine Aw.iload_n 0 rfl rfl dX6_common_21 ?_
      exact Aw.iret rfl dX6_common_22
    · refine Aw.iload_n 0 rfl rfl dX6_common_8 ?_
      refine Aw.iload_n 1 rfl rfl dX6_common_9 ?_
      refine Aw.gd (fun hz1 => ?_)
      refine Aw.irem hz1 rfl dX6_common_10 ?_
      refine Aw.bi (fun b2 => ?_)
      refine Aw.istore (L' := [(4, .int b2), (2, .int x2), (3, .int x3)]) (Nat.le_of_ble_eq_true rfl) rfl rfl dX6_common_11 ?_
      refine Aw.iload_n 2 rfl rfl dX6_common_13 ?_
      refine Aw.istore_n (L' := [(2, .int x3), (4, .int b2), (3, .int x3)]) (Nat.le_of_ble_eq_true rfl) rfl rfl dX6_common_14 ?_
      refine Aw.iload 1 rfl rfl dX6_common_15 ?_
      refine Aw.istore_n (L' := [(3, .int b2), (2, .int x3), (4, .int b2)]) (Nat.le_of_ble_eq_true rfl) rfl rfl dX6_common_17 ?_
      refine Aw.goto (q := 4) (by decide) dX6_common_18 ?_
      refine Aw.sub (L' := [(2, .int x3), (3, .int b2)]) [1, 0] rfl ?_
      exact ih _ _ _
set_option maxRecDepth 100000 in
set_option maxHeartbeats 4000000 in
theorem ct_X6_common (l : Launch) (G : Gt) (x0 : Int32) (x1 : Int32) (σ : Sg) : Ct l G yX6_common MX6_common rI [.int x0, .int x1] σ (f_X6_common x0 x1 σ) := by
  refine Ct.of (by decide +kernel) rfl (Nat.le_of_ble_eq_true rfl) ?_
  show Aw l G MX6_common rI 0 [(0, .int x0), (1, .int x1)] [] σ _
  unfold f_X6_common
  refine Aw.iload_n 0 rfl rfl dX6_common_0 ?_
  refine Aw.istore_n (L' := [(2, .int x0), (0, .int x0), (1, .int x1)]) (Nat.le_of_ble_eq_true rfl) rfl rfl dX6_common_1 ?_
  refine Aw.iload_n 2 rfl rfl dX6_common_2 ?_
  refine Aw.istore_n (L' := [(3, .int x1), (2, .int x0), (0, .int x0), (1, .int x1)]) (Nat.le_of_ble_eq_true rfl) rfl rfl dX6_common_3 ?_
  refine Aw.sub (L' := [(2, .int x0), (3, .int x1)]) [1, 0] rfl ?_
  exact aw_X6_common_4 l G FU _ _ _
abbrev MX6_cycle : Mt := (RX6, cX6_cycle, 6, (some .int), 2)
def f_X6_cycle_23 (rc8 : Nat → Int32 → Int32 → Int32 → Int32 → Int32 → Sg → Option (Int32 × Sg)) (r0 : Nat) (x1 : Int32) (x2 : Int32) (x3 : Int32) (x4 : Int32) (x5 : Int32) (σ : Sg) : Option (Int32 × Sg) := if kd r0 = 6 then (cb (f_X6_place r0 x1 x5 1 σ) (fun a1 τ2 => if inb a1 336 then (bn (rem (x4 + (τ2 (rf r0 0) (ix a1))) 4) (fun b4 => cb (f_X6_place r0 x1 x5 0 τ2) (fun a5 τ6 => if inb a5 336 then (bn (τ6 (rf r0 0) (ix a5)) (fun b8 => rc8 r0 x1 x2 (x3 + 1) b4 b8 τ6)) else none))) else none)) else none
def f_X6_cycle_8  : Nat → Nat → Int32 → Int32 → Int32 → Int32 → Int32 → Sg → Option (Int32 × Sg)
  | 0, _, _, _, _, _, _, _ => none
  | n + 1, r0, x1, x2, x3, x4, x5, σ => if kd r0 = 6 then (if x3 = 0 then (f_X6_cycle_23 (f_X6_cycle_8 n) r0 x1 x2 x3 x4 x5 σ) else (if x5 = x2 then (if x4 = 0 then (some (x3, σ)) else (f_X6_cycle_23 (f_X6_cycle_8 n) r0 x1 x2 x3 x4 x5 σ)) else (f_X6_cycle_23 (f_X6_cycle_8 n) r0 x1 x2 x3 x4 x5 σ))) else none
def f_X6_cycle (r0 : Nat) (x1 : Int32) (x2 : Int32) (σ : Sg) : Option (Int32 × Sg) := if kd r0 = 6 then (f_X6_cycle_8 FU r0 x1 x2 0 0 x2 σ) else none
set_option maxRecDepth 100000 in
set_option maxHeartbeats 4000000 in
theorem aw_X6_cycle_23 (l : Launch) (G : Gt) (rc8 : Nat → Int32 → Int32 → Int32 → Int32 → Int32 → Sg → Option (Int32 × Sg)) (hrc8 : ∀ (r0 : Nat) (x1 : Int32) (x2 : Int32) (x3 : Int32) (x4 : Int32) (x5 : Int32) (σ : Sg), Aw l G MX6_cycle rI 8 [(0, .ref (Gb G + r0)), (1, .int x1), (2, .int x2), (3, .int x3), (4, .int x4), (5, .int x5)] [] σ (rc8 r0 x1 x2 x3 x4 x5 σ)) (r0 : Nat) (x1 : Int32) (x2 : Int32) (x3 : Int32) (x4 : Int32) (x5 : Int32) (σ : Sg) : Aw l G MX6_cycle rI 23 [(0, .ref (Gb G + r0)), (1, .int x1), (2, .int x2), (3, .int x3), (4, .int x4), (5, .int x5)] [] σ (f_X6_cycle_23 rc8 r0 x1 x2 x3 x4 x5 σ) := by
  unfold f_X6_cycle_23
  refine Aw.gd (fun hr0 => ?_)
  refine Aw.iload 4 rfl rfl dX6_cycle_23 ?_
  refine Aw.aload_n 0 rfl rfl dX6_cycle_25 ?_
  refine Aw.getR fl_X6_7 (Nat.le_of_ble_eq_true rfl) rfl hr0 rfl dX6_cycle_26 ?_
  refine Aw.aload_n 0 rfl rfl dX6_cycle_29 ?_
  refine Aw.iload_n 1 rfl rfl dX6_cycle_30 ?_
  refine Aw.iload 5 rfl rfl dX6_cycle_31 ?_
  refine Aw.iconst (v := 1) ic_1 rfl dX6_cycle_33 ?_
  refine Aw.callVi (As := [.int x1, .int x5, .int 1]) (rest := [.ref (Gb G + rf r0 0), .int x4]) cv_X6_56 (Nat.le_of_ble_eq_true rfl) hr0 (ct_X6_place l G r0 x1 x5 1 σ) rfl rfl (Nat.le_of_ble_eq_true rfl) (Nat.le_of_ble_eq_true rfl) (Nat.le_of_ble_eq_true rfl) rfl dX6_cycle_34 (fun a1 τ2 _ => ?_)
  refine Aw.iald (n := 336) (ft_6_0 hr0).1 (ft_6_0 hr0).2 rfl dX6_cycle_37 (fun hb3 => ?_)
  refine Aw.iadd rfl dX6_cycle_38 ?_
  refine Aw.iconst (v := 4) ic_4 rfl dX6_cycle_39 ?_
  refine Aw.irem nz_4 rfl dX6_cycle_40 ?_
  refine Aw.bi (fun b4 => ?_)
  refine Aw.istore (L' := [(4, .int b4), (0, .ref (Gb G + r0)), (1, .int x1), (2, .int x2), (3, .int x3), (5, .int x5)]) (Nat.le_of_ble_eq_true rfl) rfl rfl dX6_cycle_41 ?_
  refine Aw.aload_n 1 rfl rfl dX6_cycle_43 ?_
  refine Aw.getR fl_X6_7 (Nat.le_of_ble_eq_true rfl) rfl hr0 rfl dX6_cycle_44 ?_
  refine Aw.aload_n 1 rfl rfl dX6_cycle_47 ?_
  refine Aw.iload_n 2 rfl rfl dX6_cycle_48 ?_
  refine Aw.iload 5 rfl rfl dX6_cycle_49 ?_
  refine Aw.iconst (v := 0) ic_0 rfl dX6_cycle_51 ?_
  refine Aw.callVi (As := [.int x1, .int x5, .int 0]) (rest := [.ref (Gb G + rf r0 0)]) cv_X6_56 (Nat.le_of_ble_eq_true rfl) hr0 (ct_X6_place l G r0 x1 x5 0 τ2) rfl rfl (Nat.le_of_ble_eq_true rfl) (Nat.le_of_ble_eq_true rfl) (Nat.le_of_ble_eq_true rfl) rfl dX6_cycle_52 (fun a5 τ6 _ => ?_)
  refine Aw.iald (n := 336) (ft_6_0 hr0).1 (ft_6_0 hr0).2 rfl dX6_cycle_55 (fun hb7 => ?_)
  refine Aw.bi (fun b8 => ?_)
  refine Aw.istore (L' := [(5, .int b8), (4, .int b4), (0, .ref (Gb G + r0)), (1, .int x1), (2, .int x2), (3, .int x3)]) (Nat.le_of_ble_eq_true rfl) rfl rfl dX6_cycle_56 ?_
  refine Aw.iinc (v := x3 + 1) (L' := [(3, .int (x3 + 1)), (5, .int b8), (4, .int b4), (0, .ref (Gb G + r0)), (1, .int x1), (2, .int x2)]) 5 rfl (ii_1 _) (Nat.le_of_ble_eq_true rfl) rfl rfl dX6_cycle_58 ?_
  refine Aw.goto (q := 8) (by decide) dX6_cycle_61 ?_
  refine Aw.sub (L' := [(0, .ref (Gb G + r0)), (1, .int x1), (2, .int x2), (3, .int (x3 + 1)), (4, .int b4), (5, .int b8)]) [3, 4, 5, 0, 2, 1] rfl ?_
  exact hrc8 _ _ _ _ _ _ _
set_option maxRecDepth 100000 in
set_option maxHeartbeats 4000000 in
theorem aw_X6_cycle_8 (l : Launch) (G : Gt) : ∀ (n : Nat) (r0 : Nat) (x1 : Int32) (x2 : Int32) (x3 : Int32) (x4 : Int32) (x5 : Int32) (σ : Sg), Aw l G MX6_cycle rI 8 [(0, .ref (Gb G + r0)), (1, .int x1), (2, .int x2), (3, .int x3), (4, .int x4), (5, .int x5)] [] σ (f_X6_cycle_8 n r0 x1 x2 x3 x4 x5 σ) := by
  intro n
  induction n with
  | zero => intro r0 x1 x2 x3 x4 x5 σ; exact Aw.no
  | succ n ih =>
    intro r0 x1 x2 x3 x4 x5 σ
    rw [f_X6_cycle_8]
    refine Aw.gd (fun hr0 => ?_)
    refine Aw.iload_n 3 rfl rfl dX6_cycle_8 ?_
    refine Aw.if_eq (q := 12) (t := 23) rfl (by decide) dX6_cycle_9 (fun hc => ?_) (fun hc => ?_)
    · refine Aw.sub (L' := [(0, .ref (Gb G + r0)), (1, .int x1), (2, .int x2), (3, .int x3), (4, .int x4), (5, .int x5)]) [0, 1, 2, 3, 4, 5] rfl ?_
      exact aw_X6_cycle_23 l G _ ih _ _ _ _ _ _ _
    · refine Aw.iload 5 rfl rfl dX6_cycle_12 ?_
      refine Aw.iload_n 2 rfl rfl dX6_cycle_14 ?_
      refine Aw.icmp_ne (q := 18) (t := 23) rfl (by decide) dX6_cycle_15 (fun hc => ?_) (fun hc => ?_)
      · refine Aw.iload 4 rfl rfl dX6_cycle_18 ?_
        refine Aw.if_eq (q := 23) (t := 64) rfl (by decide) dX6_cycle_20 (fun hc => ?_) (fun hc => ?_)
        · refine Aw.iload_n 3 rfl rfl dX6_cycle_64 ?_
          exact Aw.iret rfl dX6_cycle_65
        · refine Aw.sub (L' := [(0, .ref (Gb G + r0)), (1, .int x1), (2, .int x2), (3, .int x3), (4, .int x4), (5, .int x5)]) [0, 1, 2, 3, 4, 5] rfl ?_
          exact aw_X6_cycle_23 l G _ ih _ _ _ _ _ _ _
      · refine Aw.sub (L' := [(0, .ref (Gb G + r0)), (1, .int x1), (2, .int x2), (3, .int x3), (4, .int x4), (5, .int x5)]) [0, 1, 2, 3, 4, 5] rfl ?_
        exact aw_X6_cycle_23 l G _ ih _ _ _ _ _ _ _
set_option maxRecDepth 100000 in
set_option maxHeartbeats 4000000 in
theorem ct_X6_cycle (l : Launch) (G : Gt) (r0 : Nat) (x1 : Int32) (x2 : Int32) (σ : Sg) : Ct l G yX6_cycle MX6_cycle rI [.ref (Gb G + r0), .int x1, .int x2] σ (f_X6_cycle r0 x1 x2 σ) := by
  refine Ct.of (by decide +kernel) rfl (Nat.le_of_ble_eq_true rfl) ?_
  show Aw l G MX6_cycle rI 0 [(0, .ref (Gb G + r0)), (1, .int x1), (2, .int x2)] [] σ _
  unfold f_X6_cycle
  refine Aw.gd (fun hr0 => ?_)
  refine Aw.iconst (v := 0) ic_0 rfl dX6_cycle_0 ?_
  refine Aw.istore_n (L' := [(3, .int 0), (0, .ref (Gb G + r0)), (1, .int x1), (2, .int x2)]) (Nat.le_of_ble_eq_true rfl) rfl rfl dX6_cycle_1 ?_
  refine Aw.iconst (v := 0) ic_0 rfl dX6_cycle_2 ?_
  refine Aw.istore (L' := [(4, .int 0), (3, .int 0), (0, .ref (Gb G + r0)), (1, .int x1), (2, .int x2)]) (Nat.le_of_ble_eq_true rfl) rfl rfl dX6_cycle_3 ?_
  refine Aw.iload_n 4 rfl rfl dX6_cycle_5 ?_
  refine Aw.istore (L' := [(5, .int x2), (4, .int 0), (3, .int 0), (0, .ref (Gb G + r0)), (1, .int x1), (2, .int x2)]) (Nat.le_of_ble_eq_true rfl) rfl rfl dX6_cycle_6 ?_
  refine Aw.sub (L' := [(0, .ref (Gb G + r0)), (1, .int x1), (2, .int x2), (3, .int 0), (4, .int 0), (5, .int x2)]) [3, 4, 5, 2, 1, 0] rfl ?_
  exact aw_X6_cycle_8 l G FU _ _ _ _ _ _ _
abbrev MX6_round : Mt := (RX6, cX6_round, 5, (some .int), 3)
def f_X6_round_4  : Nat → Nat → Int32 → Int32 → Int32 → Sg → Option (Int32 × Sg)
  | 0, _, _, _, _, _ => none
  | n + 1, r0, x1, x2, x3, σ => if kd r0 = 6 then (if 12 ≤ x3 then (some (x2, σ)) else (cb (f_X6_cycle r0 x1 x3 σ) (fun a1 τ2 => cb (f_X6_common x2 a1 τ2) (fun a3 τ4 => if ¬ a3 = 0 then (bn ((x2 / a3) * a1) (fun b6 => f_X6_round_4 n r0 x1 b6 (x3 + 1) τ4)) else none)))) else none
def f_X6_round (r0 : Nat) (x1 : Int32) (σ : Sg) : Option (Int32 × Sg) := if kd r0 = 6 then (f_X6_round_4 FU r0 x1 1 0 σ) else none
theorem cv_X6_120 : CV RX6 120 6 yX6_cycle MX6_cycle 2 := ⟨_, rfl, rfl, ml_X6_120, ins_X6_cycle, sel_X6_cycle, ini_X6, cw_X6_cycle, ⟨by decide, by decide, by decide +kernel⟩⟩
theorem cs_X6_123 : CS RX6 123 yX6_common MX6_common 2 := ⟨ml_X6_123, sta_X6_common, ini_X6, cw_X6_common, ⟨by decide, by decide, by decide +kernel⟩⟩
set_option maxRecDepth 100000 in
set_option maxHeartbeats 4000000 in
theorem aw_X6_round_4 (l : Launch) (G : Gt) : ∀ (n : Nat) (r0 : Nat) (x1 : Int32) (x2 : Int32) (x3 : Int32) (σ : Sg), Aw l G MX6_round rI 4 [(0, .ref (Gb G + r0)), (1, .int x1), (2, .int x2), (3, .int x3)] [] σ (f_X6_round_4 n r0 x1 x2 x3 σ) := by
  intro n
  induction n with
  | zero => intro r0 x1 x2 x3 σ; exact Aw.no
  | succ n ih =>
    intro r0 x1 x2 x3 σ
    rw [f_X6_round_4]
    refine Aw.gd (fun hr0 => ?_)
    refine Aw.iload_n 3 rfl rfl dX6_round_4 ?_
    refine Aw.bipush (v := 12) ib_12 rfl dX6_round_5 ?_
    refine Aw.icmp_ge (q := 10) (t := 36) rfl (by decide) dX6_round_7 (fun hc => ?_) (fun hc => ?_)
    · refine Aw.iload_n 2 rfl rfl dX6_round_36 ?_
      exact Aw.iret rfl dX6_round_37
    · refine Aw.aload_n 0 rfl rfl dX6_round_10 ?_
      refine Aw.iload_n 1 rfl rfl dX6_round_11 ?_
      refine Aw.iload_n 3 rfl rfl dX6_round_12 ?_
      refine Aw.callVi (As := [.int x1, .int x3]) (rest := []) cv_X6_120 (Nat.le_of_ble_eq_true rfl) hr0 (ct_X6_cycle l G r0 x1 x3 σ) rfl rfl (Nat.le_of_ble_eq_true rfl) (Nat.le_of_ble_eq_true rfl) (Nat.le_of_ble_eq_true rfl) rfl dX6_round_13 (fun a1 τ2 _ => ?_)
      refine Aw.istore (L' := [(4, .int a1), (0, .ref (Gb G + r0)), (1, .int x1), (2, .int x2), (3, .int x3)]) (Nat.le_of_ble_eq_true rfl) rfl rfl dX6_round_16 ?_
      refine Aw.iload_n 3 rfl rfl dX6_round_18 ?_
      refine Aw.iload_n 3 rfl rfl dX6_round_19 ?_
      refine Aw.iload 0 rfl rfl dX6_round_20 ?_
      refine Aw.callSi (As := [.int x2, .int a1]) (rest := [.int x2]) cs_X6_123 (ct_X6_common l G x2 a1 τ2) rfl rfl (Nat.le_of_ble_eq_true rfl) (Nat.le_of_ble_eq_true rfl) (Nat.le_of_ble_eq_true rfl) rfl dX6_round_22 (fun a3 τ4 _ => ?_)
      refine Aw.gd (fun hz5 => ?_)
      refine Aw.idiv hz5 rfl dX6_round_25 ?_
      refine Aw.iload 0 rfl rfl dX6_round_26 ?_
      refine Aw.imul rfl dX6_round_28 ?_
      refine Aw.bi (fun b6 => ?_)
      refine Aw.istore_n (L' := [(2, .int b6), (4, .int a1), (0, .ref (Gb G + r0)), (1, .int x1), (3, .int x3)]) (Nat.le_of_ble_eq_true rfl) rfl rfl dX6_round_29 ?_
      refine Aw.iinc (v := x3 + 1) (L' := [(3, .int (x3 + 1)), (2, .int b6), (4, .int a1), (0, .ref (Gb G + r0)), (1, .int x1)]) 4 rfl (ii_1 _) (Nat.le_of_ble_eq_true rfl) rfl rfl dX6_round_30 ?_
      refine Aw.goto (q := 4) (by decide) dX6_round_33 ?_
      refine Aw.sub (L' := [(0, .ref (Gb G + r0)), (1, .int x1), (2, .int b6), (3, .int (x3 + 1))]) [3, 4, 1, 0] rfl ?_
      exact ih _ _ _ _ _
set_option maxRecDepth 100000 in
set_option maxHeartbeats 4000000 in
theorem ct_X6_round (l : Launch) (G : Gt) (r0 : Nat) (x1 : Int32) (σ : Sg) : Ct l G yX6_round MX6_round rI [.ref (Gb G + r0), .int x1] σ (f_X6_round r0 x1 σ) := by
  refine Ct.of (by decide +kernel) rfl (Nat.le_of_ble_eq_true rfl) ?_
  show Aw l G MX6_round rI 0 [(0, .ref (Gb G + r0)), (1, .int x1)] [] σ _
  unfold f_X6_round
  refine Aw.gd (fun hr0 => ?_)
  refine Aw.iconst (v := 1) ic_1 rfl dX6_round_0 ?_
  refine Aw.istore_n (L' := [(2, .int 1), (0, .ref (Gb G + r0)), (1, .int x1)]) (Nat.le_of_ble_eq_true rfl) rfl rfl dX6_round_1 ?_
  refine Aw.iconst (v := 0) ic_0 rfl dX6_round_2 ?_
  refine Aw.istore_n (L' := [(3, .int 0), (2, .int 1), (0, .ref (Gb G + r0)), (1, .int x1)]) (Nat.le_of_ble_eq_true rfl) rfl rfl dX6_round_3 ?_
  refine Aw.sub (L' := [(0, .ref (Gb G + r0)), (1, .int x1), (2, .int 1), (3, .int 0)]) [2, 3, 1, 0] rfl ?_
  exact aw_X6_round_4 l G FU _ _ _ _ _
abbrev MX6_ofCall : Mt := (RX6, cX6_ofCall, 5, (some .int), 4)
def f_X6_ofCall_29  (r0 : Nat) (x1 : Int32) (x2 : Int32) (σ : Sg) : Option (Int32 × Sg) := if kd r0 = 6 then (if x2 = 2 then (cb (f_X6_round r0 x1 σ) (fun a3 τ4 => some (a3, τ4))) else (cb (f_X6_fits r0 x1 σ) (fun a1 τ2 => if a1 = 0 then (some (0, τ2)) else (some (1, τ2))))) else none
def f_X6_ofCall_118 (rc61 : Nat → Int32 → Int32 → Int32 → Int32 → Sg → Option (Int32 × Sg)) (r0 : Nat) (x1 : Int32) (x2 : Int32) (x4 : Int32) (s0 : Int32) (s1 : Int32) (σ : Sg) : Option (Int32 × Sg) := if kd r0 = 6 then (bn (s0 + s1) (fun b1 => rc61 r0 x1 x2 b1 (x4 + 1) σ)) else none
def f_X6_ofCall_113 (rc61 : Nat → Int32 → Int32 → Int32 → Int32 → Sg → Option (Int32 × Sg)) (r0 : Nat) (x1 : Int32) (x2 : Int32) (x4 : Int32) (s0 : Int32) (σ : Sg) : Option (Int32 × Sg) := if kd r0 = 6 then (f_X6_ofCall_118 rc61 r0 x1 x2 x4 s0 1 σ) else none
def f_X6_ofCall_117 (rc61 : Nat → Int32 → Int32 → Int32 → Int32 → Sg → Option (Int32 × Sg)) (r0 : Nat) (x1 : Int32) (x2 : Int32) (x4 : Int32) (s0 : Int32) (σ : Sg) : Option (Int32 × Sg) := if kd r0 = 6 then (f_X6_ofCall_118 rc61 r0 x1 x2 x4 s0 0 σ) else none
def f_X6_ofCall_92 (rc61 : Nat → Int32 → Int32 → Int32 → Int32 → Sg → Option (Int32 × Sg)) (r0 : Nat) (x1 : Int32) (x2 : Int32) (x4 : Int32) (s0 : Int32) (σ : Sg) : Option (Int32 × Sg) := if kd r0 = 6 then (if x2 = 3 then (cb (f_X6_place r0 x1 x4 2 σ) (fun a1 τ2 => if inb a1 336 then (if τ2 (rf r0 0) (ix a1) = 0 then (f_X6_ofCall_117 rc61 r0 x1 x2 x4 s0 τ2) else (f_X6_ofCall_113 rc61 r0 x1 x2 x4 s0 τ2)) else none)) else (f_X6_ofCall_117 rc61 r0 x1 x2 x4 s0 σ)) else none
def f_X6_ofCall_61  : Nat → Nat → Int32 → Int32 → Int32 → Int32 → Sg → Option (Int32 × Sg)
  | 0, _, _, _, _, _, _ => none
  | n + 1, r0, x1, x2, x3, x4, σ => if kd r0 = 6 then (if 12 ≤ x4 then (some (x3, σ)) else (if x2 = 1 then (cb (f_X6_place r0 x1 x4 0 σ) (fun a1 τ2 => if inb a1 336 then (if τ2 (rf r0 0) (ix a1) = x4 then (f_X6_ofCall_92 (f_X6_ofCall_61 n) r0 x1 x2 x4 x3 τ2) else (f_X6_ofCall_113 (f_X6_ofCall_61 n) r0 x1 x2 x4 x3 τ2)) else none)) else (f_X6_ofCall_92 (f_X6_ofCall_61 n) r0 x1 x2 x4 x3 σ))) else none
def f_X6_ofCall (r0 : Nat) (x1 : Int32) (x2 : Int32) (σ : Sg) : Option (Int32 × Sg) := if kd r0 = 6 then (cb (f_X6_isCall r0 x1 σ) (fun a1 τ2 => if a1 = 0 then (some ((-2), τ2)) else (cb (f_X6_isIn x2 0 3 τ2) (fun a3 τ4 => if a3 = 0 then (some ((-2), τ4)) else (if x2 = 0 then (f_X6_ofCall_29 r0 x1 x2 τ4) else (if x2 = 2 then (f_X6_ofCall_29 r0 x1 x2 τ4) else (f_X6_ofCall_61 FU r0 x1 x2 0 0 τ4))))))) else none
theorem cv_X6_126 : CV RX6 126 6 yX6_round MX6_round 1 := ⟨_, rfl, rfl, ml_X6_126, ins_X6_round, sel_X6_round, ini_X6, cw_X6_round, ⟨by decide, by decide, by decide +kernel⟩⟩
set_option maxRecDepth 100000 in
set_option maxHeartbeats 4000000 in
theorem aw_X6_ofCall_29 (l : Launch) (G : Gt) (r0 : Nat) (x1 : Int32) (x2 : Int32) (σ : Sg) : Aw l G MX6_ofCall rI 29 [(0, .ref (Gb G + r0)), (1, .int x1), (2, .int x2)] [] σ (f_X6_ofCall_29 r0 x1 x2 σ) := by
  unfold f_X6_ofCall_29
  refine Aw.gd (fun hr0 => ?_)
  refine Aw.iload_n 2 rfl rfl dX6_ofCall_29 ?_
  refine Aw.iconst (v := 2) ic_2 rfl dX6_ofCall_30 ?_
  refine Aw.icmp_ne (q := 34) (t := 42) rfl (by decide) dX6_ofCall_31 (fun hc => ?_) (fun hc => ?_)
  · refine Aw.aload_n 0 rfl rfl dX6_ofCall_34 ?_
    refine Aw.iload_n 1 rfl rfl dX6_ofCall_35 ?_
    refine Aw.callVi (As := [.int x1]) (rest := []) cv_X6_126 (Nat.le_of_ble_eq_true rfl) hr0 (ct_X6_round l G r0 x1 σ) rfl rfl (Nat.le_of_ble_eq_true rfl) (Nat.le_of_ble_eq_true rfl) (Nat.le_of_ble_eq_true rfl) rfl dX6_ofCall_36 (fun a3 τ4 _ => ?_)
    refine Aw.goto (q := 55) (by decide) dX6_ofCall_39 ?_
    exact Aw.iret rfl dX6_ofCall_55
  · refine Aw.aload_n 0 rfl rfl dX6_ofCall_42 ?_
    refine Aw.iload_n 1 rfl rfl dX6_ofCall_43 ?_
    refine Aw.callVi (As := [.int x1]) (rest := []) cv_X6_66 (Nat.le_of_ble_eq_true rfl) hr0 (ct_X6_fits l G r0 x1 σ) rfl rfl (Nat.le_of_ble_eq_true rfl) (Nat.le_of_ble_eq_true rfl) (Nat.le_of_ble_eq_true rfl) rfl dX6_ofCall_44 (fun a1 τ2 _ => ?_)
    refine Aw.if_eq (q := 50) (t := 54) rfl (by decide) dX6_ofCall_47 (fun hc => ?_) (fun hc => ?_)
    · refine Aw.iconst (v := 0) ic_0 rfl dX6_ofCall_54 ?_
      exact Aw.iret rfl dX6_ofCall_55
    · refine Aw.iconst (v := 1) ic_1 rfl dX6_ofCall_50 ?_
      refine Aw.goto (q := 55) (by decide) dX6_ofCall_51 ?_
      exact Aw.iret rfl dX6_ofCall_55
set_option maxRecDepth 100000 in
set_option maxHeartbeats 4000000 in
theorem aw_X6_ofCall_118 (l : Launch) (G : Gt) (rc61 : Nat → Int32 → Int32 → Int32 → Int32 → Sg → Option (Int32 × Sg)) (hrc61 : ∀ (r0 : Nat) (x1 : Int32) (x2 : Int32) (x3 : Int32) (x4 : Int32) (σ : Sg), Aw l G MX6_ofCall rI 61 [(0, .ref (Gb G + r0)), (1, .int x1), (2, .int x2), (3, .int x3), (4, .int x4)] [] σ (rc61 r0 x1 x2 x3 x4 σ)) (r0 : Nat) (x1 : Int32) (x2 : Int32) (x4 : Int32) (s0 : Int32) (s1 : Int32) (σ : Sg) : Aw l G MX6_ofCall rI 118 [(0, .ref (Gb G + r0)), (1, .int x1), (2, .int x2), (4, .int x4)] [.int s1, .int s0] σ (f_X6_ofCall_118 rc61 r0 x1 x2 x4 s0 s1 σ) := by
  unfold f_X6_ofCall_118
  refine Aw.gd (fun hr0 => ?_)
  refine Aw.iadd rfl dX6_ofCall_118 ?_
  refine Aw.bi (fun b1 => ?_)
  refine Aw.istore_n (L' := [(3, .int b1), (0, .ref (Gb G + r0)), (1, .int x1), (2, .int x2), (4, .int x4)]) (Nat.le_of_ble_eq_true rfl) rfl rfl dX6_ofCall_119 ?_
  refine Aw.iinc (v := x4 + 1) (L' := [(4, .int (x4 + 1)), (3, .int b1), (0, .ref (Gb G + r0)), (1, .int x1), (2, .int x2)]) 4 rfl (ii_1 _) (Nat.le_of_ble_eq_true rfl) rfl rfl dX6_ofCall_120 ?_
  refine Aw.goto (q := 61) (by decide) dX6_ofCall_123 ?_
  refine Aw.sub (L' := [(0, .ref (Gb G + r0)), (1, .int x1), (2, .int x2), (3, .int b1), (4, .int (x4 + 1))]) [2, 3, 4, 1, 0] rfl ?_
  exact hrc61 _ _ _ _ _ _
set_option maxRecDepth 100000 in
set_option maxHeartbeats 4000000 in
theorem aw_X6_ofCall_113 (l : Launch) (G : Gt) (rc61 : Nat → Int32 → Int32 → Int32 → Int32 → Sg → Option (Int32 × Sg)) (hrc61 : ∀ (r0 : Nat) (x1 : Int32) (x2 : Int32) (x3 : Int32) (x4 : Int32) (σ : Sg), Aw l G MX6_ofCall rI 61 [(0, .ref (Gb G + r0)), (1, .int x1), (2, .int x2), (3, .int x3), (4, .int x4)] [] σ (rc61 r0 x1 x2 x3 x4 σ)) (r0 : Nat) (x1 : Int32) (x2 : Int32) (x4 : Int32) (s0 : Int32) (σ : Sg) : Aw l G MX6_ofCall rI 113 [(0, .ref (Gb G + r0)), (1, .int x1), (2, .int x2), (4, .int x4)] [.int s0] σ (f_X6_ofCall_113 rc61 r0 x1 x2 x4 s0 σ) := by
  unfold f_X6_ofCall_113
  refine Aw.gd (fun hr0 => ?_)
  refine Aw.iconst (v := 1) ic_1 rfl dX6_ofCall_113 ?_
  refine Aw.goto (q := 118) (by decide) dX6_ofCall_114 ?_
  refine Aw.sub (L' := [(0, .ref (Gb G + r0)), (1, .int x1), (2, .int x2), (4, .int x4)]) [0, 1, 2, 3] rfl ?_
  exact aw_X6_ofCall_118 l G _ hrc61 _ _ _ _ _ _ _
set_option maxRecDepth 100000 in
set_option maxHeartbeats 4000000 in
theorem aw_X6_ofCall_117 (l : Launch) (G : Gt) (rc61 : Nat → Int32 → Int32 → Int32 → Int32 → Sg → Option (Int32 × Sg)) (hrc61 : ∀ (r0 : Nat) (x1 : Int32) (x2 : Int32) (x3 : Int32) (x4 : Int32) (σ : Sg), Aw l G MX6_ofCall rI 61 [(0, .ref (Gb G + r0)), (1, .int x1), (2, .int x2), (3, .int x3), (4, .int x4)] [] σ (rc61 r0 x1 x2 x3 x4 σ)) (r0 : Nat) (x1 : Int32) (x2 : Int32) (x4 : Int32) (s0 : Int32) (σ : Sg) : Aw l G MX6_ofCall rI 117 [(0, .ref (Gb G + r0)), (1, .int x1), (2, .int x2), (4, .int x4)] [.int s0] σ (f_X6_ofCall_117 rc61 r0 x1 x2 x4 s0 σ) := by
  unfold f_X6_ofCall_117
  refine Aw.gd (fun hr0 => ?_)
  refine Aw.iconst (v := 0) ic_0 rfl dX6_ofCall_117 ?_
  refine Aw.sub (L' := [(0, .ref (Gb G + r0)), (1, .int x1), (2, .int x2), (4, .int x4)]) [0, 1, 2, 3] rfl ?_
  exact aw_X6_ofCall_118 l G _ hrc61 _ _ _ _ _ _ _
set_option maxRecDepth 100000 in
set_option maxHeartbeats 4000000 in
theorem aw_X6_ofCall_92 (l : Launch) (G : Gt) (rc61 : Nat → Int32 → Int32 → Int32 → Int32 → Sg → Option (Int32 × Sg)) (hrc61 : ∀ (r0 : Nat) (x1 : Int32) (x2 : Int32) (x3 : Int32) (x4 : Int32) (σ : Sg), Aw l G MX6_ofCall rI 61 [(0, .ref (Gb G + r0)), (1, .int x1), (2, .int x2), (3, .int x3), (4, .int x4)] [] σ (rc61 r0 x1 x2 x3 x4 σ)) (r0 : Nat) (x1 : Int32) (x2 : Int32) (x4 : Int32) (s0 : Int32) (σ : Sg) : Aw l G MX6_ofCall rI 92 [(0, .ref (Gb G + r0)), (1, .int x1), (2, .int x2), (4, .int x4)] [.int s0] σ (f_X6_ofCall_92 rc61 r0 x1 x2 x4 s0 σ) := by
  unfold f_X6_ofCall_92
  refine Aw.gd (fun hr0 => ?_)
  refine Aw.iload_n 2 rfl rfl dX6_ofCall_92 ?_
  refine Aw.iconst (v := 3) ic_3 rfl dX6_ofCall_93 ?_
  refine Aw.icmp_ne (q := 97) (t := 117) rfl (by decide) dX6_ofCall_94 (fun hc => ?_) (fun hc => ?_)
  · refine Aw.aload_n 0 rfl rfl dX6_ofCall_97 ?_
    refine Aw.getR fl_X6_7 (Nat.le_of_ble_eq_true rfl) rfl hr0 rfl dX6_ofCall_98 ?_
    refine Aw.aload_n 0 rfl rfl dX6_ofCall_101 ?_
    refine Aw.iload_n 1 rfl rfl dX6_ofCall_102 ?_
    refine Aw.iload 3 rfl rfl dX6_ofCall_103 ?_
    refine Aw.iconst (v := 2) ic_2 rfl dX6_ofCall_105 ?_
    refine Aw.callVi (As := [.int x1, .int x4, .int 2]) (rest := [.ref (Gb G + rf r0 0), .int s0]) cv_X6_56 (Nat.le_of_ble_eq_true rfl) hr0 (ct_X6_place l G r0 x1 x4 2 σ) rfl rfl (Nat.le_of_ble_eq_true rfl) (Nat.le_of_ble_eq_true rfl) (Nat.le_of_ble_eq_true rfl) rfl dX6_ofCall_106 (fun a1 τ2 _ => ?_)
    refine Aw.iald (n := 336) (ft_6_0 hr0).1 (ft_6_0 hr0).2 rfl dX6_ofCall_109 (fun hb3 => ?_)
    refine Aw.if_eq (q := 113) (t := 117) rfl (by decide) dX6_ofCall_110 (fun hc => ?_) (fun hc => ?_)
    · refine Aw.sub (L' := [(0, .ref (Gb G + r0)), (1, .int x1), (2, .int x2), (4, .int x4)]) [0, 1, 2, 3] rfl ?_
      exact aw_X6_ofCall_117 l G _ hrc61 _ _ _ _ _ _
    · refine Aw.sub (L' := [(0, .ref (Gb G + r0)), (1, .int x1), (2, .int x2), (4, .int x4)]) [0, 1, 2, 3] rfl ?_
      exact aw_X6_ofCall_113 l G _ hrc61 _ _ _ _ _ _
  · refine Aw.sub (L' := [(0, .ref (Gb G + r0)), (1, .int x1), (2, .int x2), (4, .int x4)]) [0, 1, 2, 3] rfl ?_
    exact aw_X6_ofCall_117 l G _ hrc61 _ _ _ _ _ _
set_option maxRecDepth 100000 in
set_option maxHeartbeats 4000000 in
theorem aw_X6_ofCall_61 (l : Launch) (G : Gt) : ∀ (n : Nat) (r0 : Nat) (x1 : Int32) (x2 : Int32) (x3 : Int32) (x4 : Int32) (σ : Sg), Aw l G MX6_ofCall rI 61 [(0, .ref (Gb G + r0)), (1, .int x1), (2, .int x2), (3, .int x3), (4, .int x4)] [] σ (f_X6_ofCall_61 n r0 x1 x2 x3 x4 σ) := by
  intro n
  induction n with
  | zero => intro r0 x1 x2 x3 x4 σ; exact Aw.no
  | succ n ih =>
    intro r0 x1 x2 x3 x4 σ
    rw [f_X6_ofCall_61]
    refine Aw.gd (fun hr0 => ?_)
    refine Aw.iload 4 rfl rfl dX6_ofCall_61 ?_
    refine Aw.bipush (v := 12) ib_12 rfl dX6_ofCall_63 ?_
    refine Aw.icmp_ge (q := 68) (t := 126) rfl (by decide) dX6_ofCall_65 (fun hc => ?_) (fun hc => ?_)
    · refine Aw.iload_n 3 rfl rfl dX6_ofCall_126 ?_
      exact Aw.iret rfl dX6_ofCall_127
    · refine Aw.iload_n 3 rfl rfl dX6_ofCall_68 ?_
      refine Aw.iload_n 2 rfl rfl dX6_ofCall_69 ?_
      refine Aw.iconst (v := 1) ic_1 rfl dX6_ofCall_70 ?_
      refine Aw.icmp_ne (q := 74) (t := 92) rfl (by decide) dX6_ofCall_71 (fun hc => ?_) (fun hc => ?_)
      · refine Aw.aload_n 0 rfl rfl dX6_ofCall_74 ?_
        refine Aw.getR fl_X6_7 (Nat.le_of_ble_eq_true rfl) rfl hr0 rfl dX6_ofCall_75 ?_
        refine Aw.aload_n 0 rfl rfl dX6_ofCall_78 ?_
        refine Aw.iload_n 1 rfl rfl dX6_ofCall_79 ?_
        refine Aw.iload 4 rfl rfl dX6_ofCall_80 ?_
        refine Aw.iconst (v := 0) ic_0 rfl dX6_ofCall_82 ?_
        refine Aw.callVi (As := [.int x1, .int x4, .int 0]) (rest := [.ref (Gb G + rf r0 0), .int x3]) cv_X6_56 (Nat.le_of_ble_eq_true rfl) hr0 (ct_X6_place l G r0 x1 x4 0 σ) rfl rfl (Nat.le_of_ble_eq_true rfl) (Nat.le_of_ble_eq_true rfl) (Nat.le_of_ble_eq_true rfl) rfl dX6_ofCall_83 (fun a1 τ2 _ => ?_)
        refine Aw.iald (n := 336) (ft_6_0 hr0).1 (ft_6_0 hr0).2 rfl dX6_ofCall_86 (fun hb3 => ?_)
        refine Aw.iload 4 rfl rfl dX6_ofCall_87 ?_
        refine Aw.icmp_ne (q := 92) (t := 113) rfl (by decide) dX6_ofCall_89 (fun hc => ?_) (fun hc => ?_)
        · refine Aw.sub (L' := [(0, .ref (Gb G + r0)), (1, .int x1), (2, .int x2), (4, .int x4)]) [0, 1, 2, 4] rfl ?_
          exact aw_X6_ofCall_92 l G _ ih _ _ _ _ _ _
        · refine Aw.sub (L' := [(0, .ref (Gb G + r0)), (1, .int x1), (2, .int x2), (4, .int x4)]) [0, 1, 2, 4] rfl ?_
          exact aw_X6_ofCall_113 l G _ ih _ _ _ _ _ _
      · refine Aw.sub (L' := [(0, .ref (Gb G + r0)), (1, .int x1), (2, .int x2), (4, .int x4)]) [0, 1, 2, 4] rfl ?_
        exact aw_X6_ofCall_92 l G _ ih _ _ _ _ _ _
set_option maxRecDepth 100000 in
set_option maxHeartbeats 4000000 in
theorem ct_X6_ofCall (l : Launch) (G : Gt) (r0 : Nat) (x1 : Int32) (x2 : Int32) (σ : Sg) : Ct l G yX6_ofCall MX6_ofCall rI [.ref (Gb G + r0), .int x1, .int x2] σ (f_X6_ofCall r0 x1 x2 σ) := by
  refine Ct.of (by decide +kernel) rfl (Nat.le_of_ble_eq_true rfl) ?_
  show Aw l G MX6_ofCall rI 0 [(0, .ref (Gb G + r0)), (1, .int x1), (2, .int x2)] [] σ _
  unfold f_X6_ofCall
  refine Aw.gd (fun hr0 => ?_)
  refine Aw.aload_n 0 rfl rfl dX6_ofCall_0 ?_
  refine Aw.iload_n 1 rfl rfl dX6_ofCall_1 ?_
  refine Aw.callVi (As := [.int x1]) (rest := []) cv_X6_60 (Nat.le_of_ble_eq_true rfl) hr0 (ct_X6_isCall l G r0 x1 σ) rfl rfl (Nat.le_of_ble_eq_true rfl) (Nat.le_of_ble_eq_true rfl) (Nat.le_of_ble_eq_true rfl) rfl dX6_ofCall_2 (fun a1 τ2 _ => ?_)
  refine Aw.if_eq (q := 8) (t := 17) rfl (by decide) dX6_ofCall_5 (fun hc => ?_) (fun hc => ?_)
  · refine Aw.bipush (v := (-2)) ib_m2 rfl dX6_ofCall_17 ?_
    exact Aw.iret rfl dX6_ofCall_19
  · refine Aw.iload_n 2 rfl rfl dX6_ofCall_8 ?_
    refine Aw.iconst (v := 0) ic_0 rfl dX6_ofCall_9 ?_
    refine Aw.iconst (v := 3) ic_3 rfl dX6_ofCall_10 ?_
    refine Aw.callSi (As := [.int x2, .int 0, .int 3]) (rest := []) cs_X6_48 (ct_X6_isIn l G x2 0 3 τ2) rfl rfl (Nat.le_of_ble_eq_true rfl) (Nat.le_of_ble_eq_true rfl) (Nat.le_of_ble_eq_true rfl) rfl dX6_ofCall_11 (fun a3 τ4 _ => ?_)
    refine Aw.if_ne (q := 17) (t := 20) rfl (by decide) dX6_ofCall_14 (fun hc => ?_) (fun hc => ?_)
    · refine Aw.bipush (v := (-2)) ib_m2 rfl dX6_ofCall_17 ?_
      exact Aw.iret rfl dX6_ofCall_19
    · refine Aw.iload_n 2 rfl rfl dX6_ofCall_20 ?_
      refine Aw.if_eq (q := 24) (t := 29) rfl (by decide) dX6_ofCall_21 (fun hc => ?_) (fun hc => ?_)
      · refine Aw.sub (L' := [(0, .ref (Gb G + r0)), (1, .int x1), (2, .int x2)]) [0, 1, 2] rfl ?_
        exact aw_X6_ofCall_29 l G _ _ _ _
      · refine Aw.iload_n 2 rfl rfl dX6_ofCall_24 ?_
        refine Aw.iconst (v := 2) ic_2 rfl dX6_ofCall_25 ?_
        refine Aw.icmp_ne (q := 29) (t := 56) rfl (by decide) dX6_ofCall_26 (fun hc => ?_) (fun hc => ?_)
        · refine Aw.sub (L' := [(0, .ref (Gb G + r0)), (1, .int x1), (2, .int x2)]) [0, 1, 2] rfl ?_
          exact aw_X6_ofCall_29 l G _ _ _ _
        · refine Aw.iconst (v := 0) ic_0 rfl dX6_ofCall_56 ?_
          refine Aw.istore_n (L' := [(3, .int 0), (0, .ref (Gb G + r0)), (1, .int x1), (2, .int x2)]) (Nat.le_of_ble_eq_true rfl) rfl rfl dX6_ofCall_57 ?_
          refine Aw.iconst (v := 0) ic_0 rfl dX6_ofCall_58 ?_
          refine Aw.istore (L' := [(4, .int 0), (3, .int 0), (0, .ref (Gb G + r0)), (1, .int x1), (2, .int x2)]) (Nat.le_of_ble_eq_true rfl) rfl rfl dX6_ofCall_59 ?_
          refine Aw.sub (L' := [(0, .ref (Gb G + r0)), (1, .int x1), (2, .int x2), (3, .int 0), (4, .int 0)]) [2, 3, 4, 1, 0] rfl ?_
          exact aw_X6_ofCall_61 l G FU _ _ _ _ _ _
abbrev MX6_tells : Mt := (RX6, cX6_tells, 3, (some .int), 5)
def f_X6_tells (r0 : Nat) (x1 : Int32) (x2 : Int32) (σ : Sg) : Option (Int32 × Sg) := if kd r0 = 6 then (cb (f_X6_ofCall r0 x1 x2 σ) (fun a1 τ2 => cb (f_X6_counted r0 a1 τ2) (fun a3 τ4 => some (a3, τ4)))) else none
theorem cv_X6_129 : CV RX6 129 6 yX6_ofCall MX6_ofCall 2 := ⟨_, rfl, rfl, ml_X6_129, ins_X6_ofCall, sel_X6_ofCall, ini_X6, cw_X6_ofCall, ⟨by decide, by decide, by decide +kernel⟩⟩
set_option maxRecDepth 100000 in
set_option maxHeartbeats 4000000 in
theorem ct_X6_tells (l : Launch) (G : Gt) (r0 : Nat) (x1 : Int32) (x2 : Int32) (σ : Sg) : Ct l G yX6_tells MX6_tells rI [.ref (Gb G + r0), .int x1, .int x2] σ (f_X6_tells r0 x1 x2 σ) := by
  refine Ct.of (by decide +kernel) rfl (Nat.le_of_ble_eq_true rfl) ?_
  show Aw l G MX6_tells rI 0 [(0, .ref (Gb G + r0)), (1, .int x1), (2, .int x2)] [] σ _
  unfold f_X6_tells
  refine Aw.gd (fun hr0 => ?_)
  refine Aw.aload_n 0 rfl rfl dX6_tells_0 ?_
  refine Aw.aload_n 0 rfl rfl dX6_tells_1 ?_
  refine Aw.iload_n 1 rfl rfl dX6_tells_2 ?_
  refine Aw.iload_n 2 rfl rfl dX6_tells_3 ?_
  refine Aw.callVi (As := [.int x1, .int x2]) (rest := [.ref (Gb G + r0)]) cv_X6_129 (Nat.le_of_ble_eq_true rfl) hr0 (ct_X6_ofCall l G r0 x1 x2 σ) rfl rfl (Nat.le_of_ble_eq_true rfl) (Nat.le_of_ble_eq_true rfl) (Nat.le_of_ble_eq_true rfl) rfl dX6_tells_4 (fun a1 τ2 _ => ?_)
  refine Aw.callVi (As := [.int a1]) (rest := []) cv_X6_114 (Nat.le_of_ble_eq_true rfl) hr0 (ct_X6_counted l G r0 a1 τ2) rfl rfl (Nat.le_of_ble_eq_true rfl) (Nat.le_of_ble_eq_true rfl) (Nat.le_of_ble_eq_true rfl) rfl dX6_tells_7 (fun a3 τ4 _ => ?_)
  exact Aw.iret rfl dX6_tells_10
abbrev MX6_isGoal : Mt := (RX6, cX6_isGoal, 2, (some .boolean), 4)
def f_X6_isGoal_37  (σ : Sg) : Option (Int32 × Sg) := some (1, σ)
def f_X6_isGoal_18  (r0 : Nat) (x1 : Int32) (σ : Sg) : Option (Int32 × Sg) := if kd r0 = 6 then (if x1 = 0 then (f_X6_isGoal_37 σ) else (cb (f_X6_pairs r0 σ) (fun a1 τ2 => if inb 0 336 then (if a1 = (τ2 (rf r0 0) (ix 0)) / 2 then (f_X6_isGoal_37 τ2) else (some (0, τ2))) else none))) else none
def f_X6_isGoal (r0 : Nat) (x1 : Int32) (σ : Sg) : Option (Int32 × Sg) := if kd r0 = 6 then (if x1 = 1 then (f_X6_isGoal_18 r0 x1 σ) else (cb (f_X6_atHome r0 σ) (fun a1 τ2 => if inb 0 336 then (if a1 = τ2 (rf r0 0) (ix 0) then (f_X6_isGoal_18 r0 x1 τ2) else (some (0, τ2))) else none))) else none
theorem cv_X6_132 : CV RX6 132 6 yX6_pairs MX6_pairs 0 := ⟨_, rfl, rfl, ml_X6_132, ins_X6_pairs, sel_X6_pairs, ini_X6, cw_X6_pairs, ⟨by decide, by decide, by decide +kernel⟩⟩
set_option maxRecDepth 100000 in
set_option maxHeartbeats 4000000 in
theorem aw_X6_isGoal_37 (l : Launch) (G : Gt) (σ : Sg) : Aw l G MX6_isGoal rI 37 [] [] σ (f_X6_isGoal_37 σ) := by
  unfold f_X6_isGoal_37
  refine Aw.iconst (v := 1) ic_1 rfl dX6_isGoal_37 ?_
  refine Aw.goto (q := 42) (by decide) dX6_isGoal_38 ?_
  exact Aw.zret rfl rfl dX6_isGoal_42
set_option maxRecDepth 100000 in
set_option maxHeartbeats 4000000 in
theorem aw_X6_isGoal_18 (l : Launch) (G : Gt) (r0 : Nat) (x1 : Int32) (σ : Sg) : Aw l G MX6_isGoal rI 18 [(0, .ref (Gb G + r0)), (1, .int x1)] [] σ (f_X6_isGoal_18 r0 x1 σ) := by
  unfold f_X6_isGoal_18
  refine Aw.gd (fun hr0 => ?_)
  refine Aw.iload_n 1 rfl rfl dX6_isGoal_18 ?_
  refine Aw.if_eq (q := 22) (t := 37) rfl (by decide) dX6_isGoal_19 (fun hc => ?_) (fun hc => ?_)
  · refine Aw.sub (L' := []) [] rfl ?_
    exact aw_X6_isGoal_37 l G _
  · refine Aw.aload_n 0 rfl rfl dX6_isGoal_22 ?_
    refine Aw.callVi (As := []) (rest := []) cv_X6_132 (Nat.le_of_ble_eq_true rfl) hr0 (ct_X6_pairs l G r0 σ) rfl rfl (Nat.le_of_ble_eq_true rfl) (Nat.le_of_ble_eq_true rfl) (Nat.le_of_ble_eq_true rfl) rfl dX6_isGoal_23 (fun a1 τ2 _ => ?_)
    refine Aw.aload_n 0 rfl rfl dX6_isGoal_26 ?_
    refine Aw.getR fl_X6_7 (Nat.le_of_ble_eq_true rfl) rfl hr0 rfl dX6_isGoal_27 ?_
    refine Aw.iconst (v := 0) ic_0 rfl dX6_isGoal_30 ?_
    refine Aw.iald (n := 336) (ft_6_0 hr0).1 (ft_6_0 hr0).2 rfl dX6_isGoal_31 (fun hb3 => ?_)
    refine Aw.iconst (v := 2) ic_2 rfl dX6_isGoal_32 ?_
    refine Aw.idiv nz_2 rfl dX6_isGoal_33 ?_
    refine Aw.icmp_ne (q := 37) (t := 41) rfl (by decide) dX6_isGoal_34 (fun hc => ?_) (fun hc => ?_)
    · refine Aw.sub (L' := []) [] rfl ?_
      exact aw_X6_isGoal_37 l G _
    · refine Aw.iconst (v := 0) ic_0 rfl dX6_isGoal_41 ?_
      exact Aw.zret rfl rfl dX6_isGoal_42
set_option maxRecDepth 100000 in
set_option maxHeartbeats 4000000 in
theorem ct_X6_isGoal (l : Launch) (G : Gt) (r0 : Nat) (x1 : Int32) (σ : Sg) : Ct l G yX6_isGoal MX6_isGoal rI [.ref (Gb G + r0), .int x1] σ (f_X6_isGoal r0 x1 σ) := by
  refine Ct.of (by decide +kernel) rfl (Nat.le_of_ble_eq_true rfl) ?_
  show Aw l G MX6_isGoal rI 0 [(0, .ref (Gb G + r0)), (1, .int x1)] [] σ _
  unfold f_X6_isGoal
  refine Aw.gd (fun hr0 => ?_)
  refine Aw.iload_n 1 rfl rfl dX6_isGoal_0 ?_
  refine Aw.iconst (v := 1) ic_1 rfl dX6_isGoal_1 ?_
  refine Aw.icmp_eq (q := 5) (t := 18) rfl (by decide) dX6_isGoal_2 (fun hc => ?_) (fun hc => ?_)
  · refine Aw.sub (L' := [(0, .ref (Gb G + r0)), (1, .int x1)]) [0, 1] rfl ?_
    exact aw_X6_isGoal_18 l G _ _ _
  · refine Aw.aload_n 0 rfl rfl dX6_isGoal_5 ?_
    refine Aw.callVi (As := []) (rest := []) cv_X6_93 (Nat.le_of_ble_eq_true rfl) hr0 (ct_X6_atHome l G r0 σ) rfl rfl (Nat.le_of_ble_eq_true rfl) (Nat.le_of_ble_eq_true rfl) (Nat.le_of_ble_eq_true rfl) rfl dX6_isGoal_6 (fun a1 τ2 _ => ?_)
    refine Aw.aload_n 0 rfl rfl dX6_isGoal_9 ?_
    refine Aw.getR fl_X6_7 (Nat.le_of_ble_eq_true rfl) rfl hr0 rfl dX6_isGoal_10 ?_
    refine Aw.iconst (v := 0) ic_0 rfl dX6_isGoal_13 ?_
    refine Aw.iald (n := 336) (ft_6_0 hr0).1 (ft_6_0 hr0).2 rfl dX6_isGoal_14 (fun hb3 => ?_)
    refine Aw.icmp_ne (q := 18) (t := 41) rfl (by decide) dX6_isGoal_15 (fun hc => ?_) (fun hc => ?_)
    · refine Aw.sub (L' := [(0, .ref (Gb G + r0)), (1, .int x1)]) [0, 1] rfl ?_
      exact aw_X6_isGoal_18 l G _ _ _
    · refine Aw.iconst (v := 0) ic_0 rfl dX6_isGoal_41 ?_
      exact Aw.zret rfl rfl dX6_isGoal_42
abbrev MX6_holds : Mt := (RX6, cX6_holds, 3, none, 1)
def f_X6_holds_2  : Nat → Nat → Int32 → Int32 → Sg → Option (Unit × Sg)
  | 0, _, _, _, _ => none
  | n + 1, r0, x1, x2, σ => if kd r0 = 6 then (if 8 ≤ x2 then (some ((), σ)) else (if inb (4 + (4 * x2)) 336 then (if inb ((16 * x1) + (2 * x2)) 96 then (bn (up σ (rf r0 7) (ix ((16 * x1) + (2 * x2))) (σ (rf r0 0) (ix (4 + (4 * x2))))) (fun τ3 => if inb (5 + (4 * x2)) 336 then (if inb (((16 * x1) + (2 * x2)) + 1) 96 then (bn (up τ3 (rf r0 7) (ix (((16 * x1) + (2 * x2)) + 1)) (τ3 (rf r0 0) (ix (5 + (4 * x2))))) (fun τ6 => f_X6_holds_2 n r0 x1 (x2 + 1) τ6)) else none) else none)) else none) else none)) else none
def f_X6_holds (r0 : Nat) (x1 : Int32) (σ : Sg) : Option (Unit × Sg) := if kd r0 = 6 then (f_X6_holds_2 FU r0 x1 0 σ) else none
set_option maxRecDepth 100000 in
set_option maxHeartbeats 4000000 in
theorem aw_X6_holds_2 (l : Launch) (G : Gt) : ∀ (n : Nat) (r0 : Nat) (x1 : Int32) (x2 : Int32) (σ : Sg), Aw l G MX6_holds rV 2 [(0, .ref (Gb G + r0)), (1, .int x1), (2, .int x2)] [] σ (f_X6_holds_2 n r0 x1 x2 σ) := by
  intro n
  induction n with
  | zero => intro r0 x1 x2 σ; exact Aw.no
  | succ n ih =>
    intro r0 x1 x2 σ
    rw [f_X6_holds_2]
    refine Aw.gd (fun hr0 => ?_)
    refine Aw.iload_n 2 rfl rfl dX6_holds_2 ?_
    refine Aw.bipush (v := 8) ib_8 rfl dX6_holds_3 ?_
    refine Aw.icmp_ge (q := 8) (t := 62) rfl (by decide) dX6_holds_5 (fun hc => ?_) (fun hc => ?_)
    · exact Aw.vret rfl dX6_holds_62
    · refine Aw.aload_n 0 rfl rfl dX6_holds_8 ?_
      refine Aw.getR fl_X6_25 (Nat.le_of_ble_eq_true rfl) rfl hr0 rfl dX6_holds_9 ?_
      refine Aw.bipush (v := 16) ib_16 rfl dX6_holds_12 ?_
      refine Aw.iload_n 1 rfl rfl dX6_holds_14 ?_
      refine Aw.imul rfl dX6_holds_15 ?_
      refine Aw.iconst (v := 2) ic_2 rfl dX6_holds_16 ?_
      refine Aw.iload_n 2 rfl rfl dX6_holds_17 ?_
      refine Aw.imul rfl dX6_holds_18 ?_
      refine Aw.iadd rfl dX6_holds_19 ?_
      refine Aw.aload_n 0 rfl rfl dX6_holds_20 ?_
      refine Aw.getR fl_X6_7 (Nat.le_of_ble_eq_true rfl) rfl hr0 rfl dX6_holds_21 ?_
      refine Aw.iconst (v := 4) ic_4 rfl dX6_holds_24 ?_
      refine Aw.iconst (v := 4) ic_4 rfl dX6_holds_25 ?_
      refine Aw.iload_n 2 rfl rfl dX6_holds_26 ?_
      refine Aw.imul rfl dX6_holds_27 ?_
      refine Aw.iadd rfl dX6_holds_28 ?_
      refine Aw.iald (n := 336) (ft_6_0 hr0).1 (ft_6_0 hr0).2 rfl dX6_holds_29 (fun hb1 => ?_)
      refine Aw.iast (n := 96) (ft_6_7 hr0).1 (ft_6_7 hr0).2 rfl dX6_holds_30 (fun hb2 => ?_)
      refine Aw.bs (fun τ3 => ?_)
      refine Aw.aload_n 0 rfl rfl dX6_holds_31 ?_
      refine Aw.getR fl_X6_25 (Nat.le_of_ble_eq_true rfl) rfl hr0 rfl dX6_holds_32 ?_
      refine Aw.bipush (v := 16) ib_16 rfl dX6_holds_35 ?_
      refine Aw.iload_n 1 rfl rfl dX6_holds_37 ?_
      refine Aw.imul rfl dX6_holds_38 ?_
      refine Aw.iconst (v := 2) ic_2 rfl dX6_holds_39 ?_
      refine Aw.iload_n 2 rfl rfl dX6_holds_40 ?_
      refine Aw.imul rfl dX6_holds_41 ?_
      refine Aw.iadd rfl dX6_holds_42 ?_
      refine Aw.iconst (v := 1) ic_1 rfl dX6_holds_43 ?_
      refine Aw.iadd rfl dX6_holds_44 ?_
      refine Aw.aload_n 0 rfl rfl dX6_holds_45 ?_
      refine Aw.getR fl_X6_7 (Nat.le_of_ble_eq_true rfl) rfl hr0 rfl dX6_holds_46 ?_
      refine Aw.iconst (v := 5) ic_5 rfl dX6_holds_49 ?_
      refine Aw.iconst (v := 4) ic_4 rfl dX6_holds_50 ?_
      refine Aw.iload_n 2 rfl rfl dX6_holds_51 ?_
      refine Aw.imul rfl dX6_holds_52 ?_
      refine Aw.iadd rfl dX6_holds_53 ?_
      refine Aw.iald (n := 336) (ft_6_0 hr0).1 (ft_6_0 hr0).2 rfl dX6_holds_54 (fun hb4 => ?_)
      refine Aw.iast (n := 96) (ft_6_7 hr0).1 (ft_6_7 hr0).2 rfl dX6_holds_55 (fun hb5 => ?_)
      refine Aw.bs (fun τ6 => ?_)
      refine Aw.iinc (v := x2 + 1) (L' := [(2, .int (x2 + 1)), (0, .ref (Gb G + r0)), (1, .int x1)]) 2 rfl (ii_1 _) (Nat.le_of_ble_eq_true rfl) rfl rfl dX6_holds_56 ?_
      refine Aw.goto (q := 2) (by decide) dX6_holds_59 ?_
      refine Aw.sub (L' := [(0, .ref (Gb G + r0)), (1, .int x1), (2, .int (x2 + 1))]) [1, 2, 0] rfl ?_
      exact ih _ _ _ _
set_option maxRecDepth 100000 in
set_option maxHeartbeats 4000000 in
theorem ct_X6_holds (l : Launch) (G : Gt) (r0 : Nat) (x1 : Int32) (σ : Sg) : Ct l G yX6_holds MX6_holds rV [.ref (Gb G + r0), .int x1] σ (f_X6_holds r0 x1 σ) := by
  refine Ct.of (by decide +kernel) rfl (Nat.le_of_ble_eq_true rfl) ?_
  show Aw l G MX6_holds rV 0 [(0, .ref (Gb G + r0)), (1, .int x1)] [] σ _
  unfold f_X6_holds
  refine Aw.gd (fun hr0 => ?_)
  refine Aw.iconst (v := 0) ic_0 rfl dX6_holds_0 ?_
  refine Aw.istore_n (L' := [(2, .int 0), (0, .ref (Gb G + r0)), (1, .int x1)]) (Nat.le_of_ble_eq_true rfl) rfl rfl dX6_holds_1 ?_
  refine Aw.sub (L' := [(0, .ref (Gb G + r0)), (1, .int x1), (2, .int 0)]) [1, 2, 0] rfl ?_
  exact aw_X6_holds_2 l G FU _ _ _ _
abbrev MX6_returns : Mt := (RX6, cX6_returns, 3, none, 1)
def f_X6_returns_2  : Nat → Nat → Int32 → Int32 → Sg → Option (Unit × Sg)
  | 0, _, _, _, _ => none
  | n + 1, r0, x1, x2, σ => if kd r0 = 6 then (if 8 ≤ x2 then (some ((), σ)) else (if inb ((16 * x1) + (2 * x2)) 96 then (if inb (4 + (4 * x2)) 336 then (bn (up σ (rf r0 0) (ix (4 + (4 * x2))) (σ (rf r0 7) (ix ((16 * x1) + (2 * x2))))) (fun τ3 => if inb (((16 * x1) + (2 * x2)) + 1) 96 then (if inb (5 + (4 * x2)) 336 then (bn (up τ3 (rf r0 0) (ix (5 + (4 * x2))) (τ3 (rf r0 7) (ix (((16 * x1) + (2 * x2)) + 1)))) (fun τ6 => f_X6_returns_2 n r0 x1 (x2 + 1) τ6)) else none) else none)) else none) else none)) else none
def f_X6_returns (r0 : Nat) (x1 : Int32) (σ : Sg) : Option (Unit × Sg) := if kd r0 = 6 then (f_X6_returns_2 FU r0 x1 0 σ) else none
set_option maxRecDepth 100000 in
set_option maxHeartbeats 4000000 in
theorem aw_X6_returns_2 (l : Launch) (G : Gt) : ∀ (n : Nat) (r0 : Nat) (x1 : Int32) (x2 : Int32) (σ : Sg), Aw l G MX6_returns rV 2 [(0, .ref (Gb G + r0)), (1, .int x1), (2, .int x2)] [] σ (f_X6_returns_2 n r0 x1 x2 σ) := by
  intro n
  induction n with
  | zero => intro r0 x1 x2 σ; exact Aw.no
  | succ n ih =>
    intro r0 x1 x2 σ
    rw [f_X6_returns_2]
    refine Aw.gd (fun hr0 => ?_)
    refine Aw.iload_n 2 rfl rfl dX6_returns_2 ?_
    refine Aw.bipush (v := 8) ib_8 rfl dX6_returns_3 ?_
    refine Aw.icmp_ge (q := 8) (t := 62) rfl (by decide) dX6_returns_5 (fun hc => ?_) (fun hc => ?_)
    · exact Aw.vret rfl dX6_returns_62
    · refine Aw.aload_n 0 rfl rfl dX6_returns_8 ?_
      refine Aw.getR fl_X6_7 (Nat.le_of_ble_eq_true rfl) rfl hr0 rfl dX6_returns_9 ?_
      refine Aw.iconst (v := 4) ic_4 rfl dX6_returns_12 ?_
      refine Aw.iconst (v := 4) ic_4 rfl dX6_returns_13 ?_
      refine Aw.iload_n 2 rfl rfl dX6_returns_14 ?_
      refine Aw.imul rfl dX6_returns_15 ?_
      refine Aw.iadd rfl dX6_returns_16 ?_
      refine Aw.aload_n 0 rfl rfl dX6_returns_17 ?_
      refine Aw.getR fl_X6_25 (Nat.le_of_ble_eq_true rfl) rfl hr0 rfl dX6_returns_18 ?_
      refine Aw.bipush (v := 16) ib_16 rfl dX6_returns_21 ?_
      refine Aw.iload_n 1 rfl rfl dX6_returns_23 ?_
      refine Aw.imul rfl dX6_returns_24 ?_
      refine Aw.iconst (v := 2) ic_2 rfl dX6_returns_25 ?_
      refine Aw.iload_n 2 rfl rfl dX6_returns_26 ?_
      refine Aw.imul rfl dX6_returns_27 ?_
      refine Aw.iadd rfl dX6_returns_28 ?_
      refine Aw.iald (n := 96) (ft_6_7 hr0).1 (ft_6_7 hr0).2 rfl dX6_returns_29 (fun hb1 => ?_)
      refine Aw.iast (n := 336) (ft_6_0 hr0).1 (ft_6_0 hr0).2 rfl dX6_returns_30 (fun hb2 => ?_)
      refine Aw.bs (fun τ3 => ?_)
      refine Aw.aload_n 0 rfl rfl dX6_returns_31 ?_
      refine Aw.getR fl_X6_7 (Nat.le_of_ble_eq_true rfl) rfl hr0 rfl dX6_returns_32 ?_
      refine Aw.iconst (v := 5) ic_5 rfl dX6_returns_35 ?_
      refine Aw.iconst (v := 4) ic_4 rfl dX6_returns_36 ?_
      refine Aw.iload_n 2 rfl rfl dX6_returns_37 ?_
      refine Aw.imul rfl dX6_returns_38 ?_
      refine Aw.iadd rfl dX6_returns_39 ?_
      refine Aw.aload_n 0 rfl rfl dX6_returns_40 ?_
      refine Aw.getR fl_X6_25 (Nat.le_of_ble_eq_true rfl) rfl hr0 rfl dX6_returns_41 ?_
      refine Aw.bipush (v := 16) ib_16 rfl dX6_returns_44 ?_
      refine Aw.iload_n 1 rfl rfl dX6_returns_46 ?_
      refine Aw.imul rfl dX6_returns_47 ?_
      refine Aw.iconst (v := 2) ic_2 rfl dX6_returns_48 ?_
      refine Aw.iload_n 2 rfl rfl dX6_returns_49 ?_
      refine Aw.imul rfl dX6_returns_50 ?_
      refine Aw.iadd rfl dX6_returns_51 ?_
      refine Aw.iconst (v := 1) ic_1 rfl dX6_returns_52 ?_
      refine Aw.iadd rfl dX6_returns_53 ?_
      refine Aw.iald (n := 96) (ft_6_7 hr0).1 (ft_6_7 hr0).2 rfl dX6_returns_54 (fun hb4 => ?_)
      refine Aw.iast (n := 336) (ft_6_0 hr0).1 (ft_6_0 hr0).2 rfl dX6_returns_55 (fun hb5 => ?_)
      refine Aw.bs (fun τ6 => ?_)
      refine Aw.iinc (v := x2 + 1) (L' := [(2, .int (x2 + 1)), (0, .ref (Gb G + r0)), (1, .int x1)]) 2 rfl (ii_1 _) (Nat.le_of_ble_eq_true rfl) rfl rfl dX6_returns_56 ?_
      refine Aw.goto (q := 2) (by decide) dX6_returns_59 ?_
      refine Aw.sub (L' := [(0, .ref (Gb G + r0)), (1, .int x1), (2, .int (x2 + 1))]) [1, 2, 0] rfl ?_
      exact ih _ _ _ _
set_option maxRecDepth 100000 in
set_option maxHeartbeats 4000000 in
theorem ct_X6_returns (l : Launch) (G : Gt) (r0 : Nat) (x1 : Int32) (σ : Sg) : Ct l G yX6_returns MX6_returns rV [.ref (Gb G + r0), .int x1] σ (f_X6_returns r0 x1 σ) := by
  refine Ct.of (by decide +kernel) rfl (Nat.le_of_ble_eq_true rfl) ?_
  show Aw l G MX6_returns rV 0 [(0, .ref (Gb G + r0)), (1, .int x1)] [] σ _
  unfold f_X6_returns
  refine Aw.gd (fun hr0 => ?_)
  refine Aw.iconst (v := 0) ic_0 rfl dX6_returns_0 ?_
  refine Aw.istore_n (L' := [(2, .int 0), (0, .ref (Gb G + r0)), (1, .int x1)]) (Nat.le_of_ble_eq_true rfl) rfl rfl dX6_returns_1 ?_
  refine Aw.sub (L' := [(0, .ref (Gb G + r0)), (1, .int x1), (2, .int 0)]) [1, 2, 0] rfl ?_
  exact aw_X6_returns_2 l G FU _ _ _ _
abbrev MX6_isVaried : Mt := (RX6, cX6_isVaried, 6, (some .boolean), 1)
def f_X6_isVaried_30 (rc6 : Nat → Int32 → Int32 → Int32 → Int32 → Int32 → Sg → Option (Int32 × Sg)) (r0 : Nat) (x1 : Int32) (x2 : Int32) (x3 : Int32) (x5 : Int32) (s0 : Int32) (s1 : Int32) (σ : Sg) : Option (Int32 × Sg) := if kd r0 = 6 then (bn (s0 + s1) (fun b1 => rc6 r0 x1 x2 x3 b1 (x5 + 1) σ)) else none
def f_X6_isVaried_61  (σ : Sg) : Option (Int32 × Sg) := some (1, σ)
def f_X6_isVaried_6  : Nat → Nat → Int32 → Int32 → Int32 → Int32 → Int32 → Sg → Option (Int32 × Sg)
  | 0, _, _, _, _, _, _, _ => none
  | n + 1, r0, x1, x2, x3, x4, x5, σ => if kd r0 = 6 then (if x1 ≤ x5 then (if x3 ≤ x4 then (some (0, σ)) else (if x1 = 0 then (f_X6_isVaried_61 σ) else (if inb (x1 - 1) 6 then (if σ (rf r0 8) (ix (x1 - 1)) = x2 then (some (0, σ)) else (f_X6_isVaried_61 σ)) else none))) else (if inb x5 6 then (if σ (rf r0 8) (ix x5) = x2 then (f_X6_isVaried_30 (f_X6_isVaried_6 n) r0 x1 x2 x3 x5 x4 1 σ) else (f_X6_isVaried_30 (f_X6_isVaried_6 n) r0 x1 x2 x3 x5 x4 0 σ)) else none)) else none
def f_X6_isVaried (r0 : Nat) (x1 : Int32) (x2 : Int32) (x3 : Int32) (σ : Sg) : Option (Int32 × Sg) := if kd r0 = 6 then (f_X6_isVaried_6 FU r0 x1 x2 x3 0 0 σ) else none
set_option maxRecDepth 100000 in
set_option maxHeartbeats 4000000 in
theorem aw_X6_isVaried_30 (l : Launch) (G : Gt) (rc6 : Nat → Int32 → Int32 → Int32 → Int32 → Int32 → Sg → Option (Int32 × Sg)) (hrc6 : ∀ (r0 : Nat) (x1 : Int32) (x2 : Int32) (x3 : Int32) (x4 : Int32) (x5 : Int32) (σ : Sg), Aw l G MX6_isVaried rI 6 [(0, .ref (Gb G + r0)), (1, .int x1), (2, .int x2), (3, .int x3), (4, .int x4), (5, .int x5)] [] σ (rc6 r0 x1 x2 x3 x4 x5 σ)) (r0 : Nat) (x1 : Int32) (x2 : Int32) (x3 : Int32) (x5 : Int32) (s0 : Int32) (s1 : Int32) (σ : Sg) : Aw l G MX6_isVaried rI 30 [(0, .ref (Gb G + r0)), (1, .int x1), (2, .int x2), (3, .int x3), (5, .int x5)] [.int s1, .int s0] σ (f_X6_isVaried_30 rc6 r0 x1 x2 x3 x5 s0 s1 σ) := by
  unfold f_X6_isVaried_30
  refine Aw.gd (fun hr0 => ?_)
  refine Aw.iadd rfl dX6_isVaried_30 ?_
  refine Aw.bi (fun b1 => ?_)
  refine Aw.istore (L' := [(4, .int b1), (0, .ref (Gb G + r0)), (1, .int x1), (2, .int x2), (3, .int x3), (5, .int x5)]) (Nat.le_of_ble_eq_true rfl) rfl rfl dX6_isVaried_31 ?_
  refine Aw.iinc (v := x5 + 1) (L' := [(5, .int (x5 + 1)), (4, .int b1), (0, .ref (Gb G + r0)), (1, .int x1), (2, .int x2), (3, .int x3)]) 5 rfl (ii_1 _) (Nat.le_of_ble_eq_true rfl) rfl rfl dX6_isVaried_33 ?_
  refine Aw.goto (q := 6) (by decide) dX6_isVaried_36 ?_
  refine Aw.sub (L' := [(0, .ref (Gb G + r0)), (1, .int x1), (2, .int x2), (3, .int x3), (4, .int b1), (5, .int (x5 + 1))]) [2, 3, 4, 5, 1, 0] rfl ?_
  exact hrc6 _ _ _ _ _ _ _
set_option maxRecDepth 100000 in
set_option maxHeartbeats 4000000 in
theorem aw_X6_isVaried_61 (l : Launch) (G : Gt) (σ : Sg) : Aw l G MX6_isVaried rI 61 [] [] σ (f_X6_isVaried_61 σ) := by
  unfold f_X6_isVaried_61
  refine Aw.iconst (v := 1) ic_1 rfl dX6_isVaried_61 ?_
  refine Aw.goto (q := 66) (by decide) dX6_isVaried_62 ?_
  exact Aw.zret rfl rfl dX6_isVaried_66
set_option maxRecDepth 100000 in
set_option maxHeartbeats 4000000 in
theorem aw_X6_isVaried_6 (l : Launch) (G : Gt) : ∀ (n : Nat) (r0 : Nat) (x1 : Int32) (x2 : Int32) (x3 : Int32) (x4 : Int32) (x5 : Int32) (σ : Sg), Aw l G MX6_isVaried rI 6 [(0, .ref (Gb G + r0)), (1, .int x1), (2, .int x2), (3, .int x3), (4, .int x4), (5, .int x5)] [] σ (f_X6_isVaried_6 n r0 x1 x2 x3 x4 x5 σ) := by
  intro n
  induction n with
  | zero => intro r0 x1 x2 x3 x4 x5 σ; exact Aw.no
  | succ n ih =>
    intro r0 x1 x2 x3 x4 x5 σ
    rw [f_X6_isVaried_6]
    refine Aw.gd (fun hr0 => ?_)
    refine Aw.iload 5 rfl rfl dX6_isVaried_6 ?_
    refine Aw.iload_n 1 rfl rfl dX6_isVaried_8 ?_
    refine Aw.icmp_ge (q := 12) (t := 39) rfl (by decide) dX6_isVaried_9 (fun hc => ?_) (fun hc => ?_)
    · refine Aw.iload 4 rfl rfl dX6_isVaried_39 ?_
      refine Aw.iload_n 3 rfl rfl dX6_isVaried_41 ?_
      refine Aw.icmp_ge (q := 45) (t := 65) rfl (by decide) dX6_isVaried_42 (fun hc => ?_) (fun hc => ?_)
      · refine Aw.iconst (v := 0) ic_0 rfl dX6_isVaried_65 ?_
        exact Aw.zret rfl rfl dX6_isVaried_66
      · refine Aw.iload_n 1 rfl rfl dX6_isVaried_45 ?_
        refine Aw.if_eq (q := 49) (t := 61) rfl (by decide) dX6_isVaried_46 (fun hc => ?_) (fun hc => ?_)
        · refine Aw.sub (L' := []) [] rfl ?_
          exact aw_X6_isVaried_61 l G _
        · refine Aw.aload_n 0 rfl rfl dX6_isVaried_49 ?_
          refine Aw.getR fl_X6_28 (Nat.le_of_ble_eq_true rfl) rfl hr0 rfl dX6_isVaried_50 ?_
          refine Aw.iload_n 1 rfl rfl dX6_isVaried_53 ?_
          refine Aw.iconst (v := 1) ic_1 rfl dX6_isVaried_54 ?_
          refine Aw.isub rfl dX6_isVaried_55 ?_
          refine Aw.iald (n := 6) (ft_6_8 hr0).1 (ft_6_8 hr0).2 rfl dX6_isVaried_56 (fun hb1 => ?_)
          refine Aw.iload_n 2 rfl rfl dX6_isVaried_57 ?_
          refine Aw.icmp_eq (q := 61) (t := 65) rfl (by decide) dX6_isVaried_58 (fun hc => ?_) (fun hc => ?_)
          · refine Aw.iconst (v := 0) ic_0 rfl dX6_isVaried_65 ?_
            exact Aw.zret rfl rfl dX6_isVaried_66
          · refine Aw.sub (L' := []) [] rfl ?_
            exact aw_X6_isVaried_61 l G _
    · refine Aw.iload 4 rfl rfl dX6_isVaried_12 ?_
      refine Aw.aload_n 0 rfl rfl dX6_isVaried_14 ?_
      refine Aw.getR fl_X6_28 (Nat.le_of_ble_eq_true rfl) rfl hr0 rfl dX6_isVaried_15 ?_
      refine Aw.iload 5 rfl rfl dX6_isVaried_18 ?_
      refine Aw.iald (n := 6) (ft_6_8 hr0).1 (ft_6_8 hr0).2 rfl dX6_isVaried_20 (fun hb2 => ?_)
      refine Aw.iload_n 2 rfl rfl dX6_isVaried_21 ?_
      refine Aw.icmp_ne (q := 25) (t := 29) rfl (by decide) dX6_isVaried_22 (fun hc => ?_) (fun hc => ?_)
      · refine Aw.iconst (v := 1) ic_1 rfl dX6_isVaried_25 ?_
        refine Aw.goto (q := 30) (by decide) dX6_isVaried_26 ?_
        refine Aw.sub (L' := [(0, .ref (Gb G + r0)), (1, .int x1), (2, .int x2), (3, .int x3), (5, .int x5)]) [0, 1, 2, 3, 5] rfl ?_
        exact aw_X6_isVaried_30 l G _ ih _ _ _ _ _ _ _ _
      · refine Aw.iconst (v := 0) ic_0 rfl dX6_isVaried_29 ?_
        refine Aw.sub (L' := [(0, .ref (Gb G + r0)), (1, .int x1), (2, .int x2), (3, .int x3), (5, .int x5)]) [0, 1, 2, 3, 5] rfl ?_
        exact aw_X6_isVaried_30 l G _ ih _ _ _ _ _ _ _ _
set_option maxRecDepth 100000 in
set_option maxHeartbeats 4000000 in
theorem ct_X6_isVaried (l : Launch) (G : Gt) (r0 : Nat) (x1 : Int32) (x2 : Int32) (x3 : Int32) (σ : Sg) : Ct l G yX6_isVaried MX6_isVaried rI [.ref (Gb G + r0), .int x1, .int x2, .int x3] σ (f_X6_isVaried r0 x1 x2 x3 σ) := by
  refine Ct.of (by decide +kernel) rfl (Nat.le_of_ble_eq_true rfl) ?_
  show Aw l G MX6_isVaried rI 0 [(0, .ref (Gb G + r0)), (1, .int x1), (2, .int x2), (3, .int x3)] [] σ _
  unfold f_X6_isVaried
  refine Aw.gd (fun hr0 => ?_)
  refine Aw.iconst (v := 0) ic_0 rfl dX6_isVaried_0 ?_
  refine Aw.istore (L' := [(4, .int 0), (0, .ref (Gb G + r0)), (1, .int x1), (2, .int x2), (3, .int x3)]) (Nat.le_of_ble_eq_true rfl) rfl rfl dX6_isVaried_1 ?_
  refine Aw.iconst (v := 0) ic_0 rfl dX6_isVaried_3 ?_
  refine Aw.istore (L' := [(5, .int 0), (4, .int 0), (0, .ref (Gb G + r0)), (1, .int x1), (2, .int x2), (3, .int x3)]) (Nat.le_of_ble_eq_true rfl) rfl rfl dX6_isVaried_4 ?_
  refine Aw.sub (L' := [(0, .ref (Gb G + r0)), (1, .int x1), (2, .int x2), (3, .int x3), (4, .int 0), (5, .int 0)]) [2, 3, 4, 5, 1, 0] rfl ?_
  exact aw_X6_isVaried_6 l G FU _ _ _ _ _ _ _
abbrev MX6_search : Mt := (RX6, cX6_search, 7, (some .int), 5)
def f_X6_search_171 (rc36 : Nat → Int32 → Int32 → Int32 → Int32 → Int32 → Sg → Option (Int32 × Sg)) (r0 : Nat) (x1 : Int32) (x2 : Int32) (x3 : Int32) (x4 : Int32) (x5 : Int32) (σ : Sg) : Option (Int32 × Sg) := if kd r0 = 6 then (rc36 r0 x1 x2 x3 x4 x5 σ) else none
def f_X6_search_168 (rc36 : Nat → Int32 → Int32 → Int32 → Int32 → Int32 → Sg → Option (Int32 × Sg)) (r0 : Nat) (x1 : Int32) (x2 : Int32) (x3 : Int32) (x5 : Int32) (s0 : Int32) (s1 : Int32) (σ : Sg) : Option (Int32 × Sg) := if kd r0 = 6 then (bn (s0 + s1) (fun b1 => f_X6_search_171 rc36 r0 x1 x2 x3 b1 x5 σ)) else none
def f_X6_search_109 (rc36 : Nat → Int32 → Int32 → Int32 → Int32 → Int32 → Sg → Option (Int32 × Sg)) (r0 : Nat) (x1 : Int32) (x2 : Int32) (x3 : Int32) (x4 : Int32) (x5 : Int32) (x6 : Int32) (σ : Sg) : Option (Int32 × Sg) := if kd r0 = 6 then (cb (f_X6_fits r0 x6 σ) (fun a1 τ2 => if a1 = 0 then (f_X6_search_171 rc36 r0 x1 x2 x3 x4 x5 τ2) else (cb (f_X6_moves r0 x6 τ2) (fun a3 τ4 => if x1 ≤ x5 + 1 then (cb (f_X6_isGoal r0 x2 τ4) (fun a5 τ6 => if a5 = 0 then (f_X6_search_168 rc36 r0 x1 x2 x3 x5 x4 0 τ6) else (f_X6_search_168 rc36 r0 x1 x2 x3 x5 x4 1 τ6))) else (cb (f_X6_holds r0 (x5 + 1) τ4) (fun _ τ8 => if inb (x5 + 1) 6 then (bn (up τ8 (rf r0 8) (ix (x5 + 1)) ((-1))) (fun τ10 => f_X6_search_171 rc36 r0 x1 x2 x3 x4 (x5 + 1) τ10)) else none)))))) else none
def f_X6_search_50 (rc36 : Nat → Int32 → Int32 → Int32 → Int32 → Int32 → Sg → Option (Int32 × Sg)) (r0 : Nat) (x1 : Int32) (x2 : Int32) (x3 : Int32) (x4 : Int32) (x5 : Int32) (σ : Sg) : Option (Int32 × Sg) := if kd r0 = 6 then (cb (f_X6_returns r0 x5 σ) (fun _ τ2 => if inb x5 6 then (if inb x5 6 then (bn (up τ2 (rf r0 8) (ix x5) ((τ2 (rf r0 8) (ix x5)) + 1)) (fun τ5 => if inb x5 6 then (bn (τ5 (rf r0 8) (ix x5)) (fun b7 => if inb 1 336 then (if b7 = τ5 (rf r0 0) (ix 1) then (f_X6_search_171 rc36 r0 x1 x2 x3 x4 (x5 + (-1)) τ5) else (if x3 = 0 then (f_X6_search_109 rc36 r0 x1 x2 x3 x4 x5 b7 τ5) else (cb (f_X6_isVaried r0 x5 b7 x3 τ5) (fun a9 τ10 => if a9 = 0 then (f_X6_search_171 rc36 r0 x1 x2 x3 x4 x5 τ10) else (f_X6_search_109 rc36 r0 x1 x2 x3 x4 x5 b7 τ10))))) else none)) else none)) else none) else none)) else none
def f_X6_search_174  (r0 : Nat) (x4 : Int32) (σ : Sg) : Option (Int32 × Sg) := if kd r0 = 6 then (cb (f_X6_returns r0 0 σ) (fun _ τ2 => some (x4, τ2))) else none
def f_X6_search_36  : Nat → Nat → Int32 → Int32 → Int32 → Int32 → Int32 → Sg → Option (Int32 × Sg)
  | 0, _, _, _, _, _, _, _ => none
  | n + 1, r0, x1, x2, x3, x4, x5, σ => if kd r0 = 6 then (if x5 < 0 then (f_X6_search_174 r0 x4 σ) else (if x3 = 0 then (f_X6_search_50 (f_X6_search_36 n) r0 x1 x2 x3 x4 x5 σ) else (if x4 = 0 then (f_X6_search_50 (f_X6_search_36 n) r0 x1 x2 x3 x4 x5 σ) else (f_X6_search_174 r0 x4 σ)))) else none
def f_X6_search (r0 : Nat) (x1 : Int32) (x2 : Int32) (x3 : Int32) (σ : Sg) : Option (Int32 × Sg) := if kd r0 = 6 then (if x1 = 0 then (cb (f_X6_isGoal r0 x2 σ) (fun a5 τ6 => if a5 = 0 then (some (0, τ6)) else (some (1, τ6)))) else (cb (f_X6_holds r0 0 σ) (fun _ τ2 => if inb 0 6 then (bn (up τ2 (rf r0 8) (ix 0) ((-1))) (fun τ4 => f_X6_search_36 FU r0 x1 x2 x3 0 0 τ4)) else none))) else none
theorem cv_X6_135 : CV RX6 135 6 yX6_isGoal MX6_isGoal 1 := ⟨_, rfl, rfl, ml_X6_135, ins_X6_isGoal, sel_X6_isGoal, ini_X6, cw_X6_isGoal, ⟨by decide, by decide, by decide +kernel⟩⟩
theorem cv_X6_138 : CV RX6 138 6 yX6_holds MX6_holds 1 := ⟨_, rfl, rfl, ml_X6_138, ins_X6_holds, sel_X6_holds, ini_X6, cw_X6_holds, ⟨by decide, by decide, by decide +kernel⟩⟩
theorem cv_X6_142 : CV RX6 142 6 yX6_returns MX6_returns 1 := ⟨_, rfl, rfl, ml_X6_142, ins_X6_returns, sel_X6_returns, ini_X6, cw_X6_returns, ⟨by decide, by decide, by decide +kernel⟩⟩
theorem cv_X6_145 : CV RX6 145 6 yX6_isVaried MX6_isVaried 3 := ⟨_, rfl, rfl, ml_X6_145, ins_X6_isVaried, sel_X6_isVaried, ini_X6, cw_X6_isVaried, ⟨by decide, by decide, by decide +kernel⟩⟩
set_option maxRecDepth 100000 in
set_option maxHeartbeats 4000000 in
theorem aw_X6_search_171 (l : Launch) (G : Gt) (rc36 : Nat → Int32 → Int32 → Int32 → Int32 → Int32 → Sg → Option (Int32 × Sg)) (hrc36 : ∀ (r0 : Nat) (x1 : Int32) (x2 : Int32) (x3 : Int32) (x4 : Int32) (x5 : Int32) (σ : Sg), Aw l G MX6_search rI 36 [(0, .ref (Gb G + r0)), (1, .int x1), (2, .int x2), (3, .int x3), (4, .int x4), (5, .int x5)] [] σ (rc36 r0 x1 x2 x3 x4 x5 σ)) (r0 : Nat) (x1 : Int32) (x2 : Int32) (x3 : Int32) (x4 : Int32) (x5 : Int32) (σ : Sg) : Aw l G MX6_search rI 171 [(0, .ref (Gb G + r0)), (1, .int x1), (2, .int x2), (3, .int x3), (4, .int x4), (5, .int x5)] [] σ (f_X6_search_171 rc36 r0 x1 x2 x3 x4 x5 σ) := by
  unfold f_X6_search_171
  refine Aw.gd (fun hr0 => ?_)
  refine Aw.goto (q := 36) (by decide) dX6_search_171 ?_
  refine Aw.sub (L' := [(0, .ref (Gb G + r0)), (1, .int x1), (2, .int x2), (3, .int x3), (4, .int x4), (5, .int x5)]) [0, 1, 2, 3, 4, 5] rfl ?_
  exact hrc36 _ _ _ _ _ _ _
set_option maxRecDepth 100000 in
set_option maxHeartbeats 4000000 in
theorem aw_X6_search_168 (l : Launch) (G : Gt) (rc36 : Nat → Int32 → Int32 → Int32 → Int32 → Int32 → Sg → Option (Int32 × Sg)) (hrc36 : ∀ (r0 : Nat) (x1 : Int32) (x2 : Int32) (x3 : Int32) (x4 : Int32) (x5 : Int32) (σ : Sg), Aw l G MX6_search rI 36 [(0, .ref (Gb G + r0)), (1, .int x1), (2, .int x2), (3, .int x3), (4, .int x4), (5, .int x5)] [] σ (rc36 r0 x1 x2 x3 x4 x5 σ)) (r0 : Nat) (x1 : Int32) (x2 : Int32) (x3 : Int32) (x5 : Int32) (s0 : Int32) (s1 : Int32) (σ : Sg) : Aw l G MX6_search rI 168 [(0, .ref (Gb G + r0)), (1, .int x1), (2, .int x2), (3, .int x3), (5, .int x5)] [.int s1, .int s0] σ (f_X6_search_168 rc36 r0 x1 x2 x3 x5 s0 s1 σ) := by
  unfold f_X6_search_168
  refine Aw.gd (fun hr0 => ?_)
  refine Aw.iadd rfl dX6_search_168 ?_
  refine Aw.bi (fun b1 => ?_)
  refine Aw.istore (L' := [(4, .int b1), (0, .ref (Gb G + r0)), (1, .int x1), (2, .int x2), (3, .int x3), (5, .int x5)]) (Nat.le_of_ble_eq_true rfl) rfl rfl dX6_search_169 ?_
  refine Aw.sub (L' := [(0, .ref (Gb G + r0)), (1, .int x1), (2, .int x2), (3, .int x3), (4, .int b1), (5, .int x5)]) [1, 2, 3, 4, 0, 5] rfl ?_
  exact aw_X6_search_171 l G _ hrc36 _ _ _ _ _ _ _
set_option maxRecDepth 100000 in
set_option maxHeartbeats 4000000 in
theorem aw_X6_search_109 (l : Launch) (G : Gt) (rc36 : Nat → Int32 → Int32 → Int32 → Int32 → Int32 → Sg → Option (Int32 × Sg)) (hrc36 : ∀ (r0 : Nat) (x1 : Int32) (x2 : Int32) (x3 : Int32) (x4 : Int32) (x5 : Int32) (σ : Sg), Aw l G MX6_search rI 36 [(0, .ref (Gb G + r0)), (1, .int x1), (2, .int x2), (3, .int x3), (4, .int x4), (5, .int x5)] [] σ (rc36 r0 x1 x2 x3 x4 x5 σ)) (r0 : Nat) (x1 : Int32) (x2 : Int32) (x3 : Int32) (x4 : Int32) (x5 : Int32) (x6 : Int32) (σ : Sg) : Aw l G MX6_search rI 109 [(0, .ref (Gb G + r0)), (1, .int x1), (2, .int x2), (3, .int x3), (4, .int x4), (5, .int x5), (6, .int x6)] [] σ (f_X6_search_109 rc36 r0 x1 x2 x3 x4 x5 x6 σ) := by
  unfold f_X6_search_109
  refine Aw.gd (fun hr0 => ?_)
  refine Aw.aload_n 0 rfl rfl dX6_search_109 ?_
  refine Aw.iload 6 rfl rfl dX6_search_110 ?_
  refine Aw.callVi (As := [.int x6]) (rest := []) cv_X6_66 (Nat.le_of_ble_eq_true rfl) hr0 (ct_X6_fits l G r0 x6 σ) rfl rfl (Nat.le_of_ble_eq_true rfl) (Nat.le_of_ble_eq_true rfl) (Nat.le_of_ble_eq_true rfl) rfl dX6_search_112 (fun a1 τ2 _ => ?_)
  refine Aw.if_eq (q := 118) (t := 171) rfl (by decide) dX6_search_115 (fun hc => ?_) (fun hc => ?_)
  · refine Aw.sub (L' := [(0, .ref (Gb G + r0)), (1, .int x1), (2, .int x2), (3, .int x3), (4, .int x4), (5, .int x5)]) [0, 1, 2, 3, 4, 5] rfl ?_
    exact aw_X6_search_171 l G _ hrc36 _ _ _ _ _ _ _
  · refine Aw.aload_n 0 rfl rfl dX6_search_118 ?_
    refine Aw.iload 6 rfl rfl dX6_search_119 ?_
    refine Aw.callVi (As := [.int x6]) (rest := []) cv_X6_69 (Nat.le_of_ble_eq_true rfl) hr0 (ct_X6_moves l G r0 x6 τ2) rfl rfl (Nat.le_of_ble_eq_true rfl) (Nat.le_of_ble_eq_true rfl) (Nat.le_of_ble_eq_true rfl) rfl dX6_search_121 (fun a3 τ4 _ => ?_)
    refine Aw.pop rfl dX6_search_124 ?_
    refine Aw.iload 5 rfl rfl dX6_search_125 ?_
    refine Aw.iconst (v := 1) ic_1 rfl dX6_search_127 ?_
    refine Aw.iadd rfl dX6_search_128 ?_
    refine Aw.iload_n 1 rfl rfl dX6_search_129 ?_
    refine Aw.icmp_ge (q := 133) (t := 153) rfl (by decide) dX6_search_130 (fun hc => ?_) (fun hc => ?_)
    · refine Aw.iload 4 rfl rfl dX6_search_153 ?_
      refine Aw.aload_n 0 rfl rfl dX6_search_155 ?_
      refine Aw.iload_n 2 rfl rfl dX6_search_156 ?_
      refine Aw.callVi (As := [.int x2]) (rest := [.int x4]) cv_X6_135 (Nat.le_of_ble_eq_true rfl) hr0 (ct_X6_isGoal l G r0 x2 τ4) rfl rfl (Nat.le_of_ble_eq_true rfl) (Nat.le_of_ble_eq_true rfl) (Nat.le_of_ble_eq_true rfl) rfl dX6_search_157 (fun a5 τ6 _ => ?_)
      refine Aw.if_eq (q := 163) (t := 167) rfl (by decide) dX6_search_160 (fun hc => ?_) (fun hc => ?_)
      · refine Aw.iconst (v := 0) ic_0 rfl dX6_search_167 ?_
        refine Aw.sub (L' := [(0, .ref (Gb G + r0)), (1, .int x1), (2, .int x2), (3, .int x3), (5, .int x5)]) [0, 1, 2, 3, 5] rfl ?_
        exact aw_X6_search_168 l G _ hrc36 _ _ _ _ _ _ _ _
      · refine Aw.iconst (v := 1) ic_1 rfl dX6_search_163 ?_
        refine Aw.goto (q := 168) (by decide) dX6_search_164 ?_
        refine Aw.sub (L' := [(0, .ref (Gb G + r0)), (1, .int x1), (2, .int x2), (3, .int x3), (5, .int x5)]) [0, 1, 2, 3, 5] rfl ?_
        exact aw_X6_search_168 l G _ hrc36 _ _ _ _ _ _ _ _
    · refine Aw.iinc (v := x5 + 1) (L' := [(5, .int (x5 + 1)), (0, .ref (Gb G + r0)), (1, .int x1), (2, .int x2), (3, .int x3), (4, .int x4), (6, .int x6)]) 5 rfl (ii_1 _) (Nat.le_of_ble_eq_true rfl) rfl rfl dX6_search_133 ?_
      refine Aw.aload_n 1 rfl rfl dX6_search_136 ?_
      refine Aw.iload 0 rfl rfl dX6_search_137 ?_
      refine Aw.callVv (As := [.int (x5 + 1)]) (rest := []) cv_X6_138 (Nat.le_of_ble_eq_true rfl) hr0 (ct_X6_holds l G r0 (x5 + 1) τ4) rfl rfl (Nat.le_of_ble_eq_true rfl) (Nat.le_of_ble_eq_true rfl) (Nat.le_of_ble_eq_true rfl) rfl dX6_search_139 (fun a7 τ8 _ => ?_)
      refine Aw.aload_n 1 rfl rfl dX6_search_142 ?_
      refine Aw.getR fl_X6_28 (Nat.le_of_ble_eq_true rfl) rfl hr0 rfl dX6_search_143 ?_
      refine Aw.iload 0 rfl rfl dX6_search_146 ?_
      refine Aw.iconst (v := (-1)) ic_m1 rfl dX6_search_148 ?_
      refine Aw.iast (n := 6) (ft_6_8 hr0).1 (ft_6_8 hr0).2 rfl dX6_search_149 (fun hb9 => ?_)
      refine Aw.bs (fun τ10 => ?_)
      refine Aw.goto (q := 171) (by decide) dX6_search_150 ?_
      refine Aw.sub (L' := [(0, .ref (Gb G + r0)), (1, .int x1), (2, .int x2), (3, .int x3), (4, .int x4), (5, .int (x5 + 1))]) [1, 2, 3, 4, 5, 0] rfl ?_
      exact aw_X6_search_171 l G _ hrc36 _ _ _ _ _ _ _
set_option maxRecDepth 100000 in
set_option maxHeartbeats 4000000 in
theorem aw_X6_search_50 (l : Launch) (G : Gt) (rc36 : Nat → Int32 → Int32 → Int32 → Int32 → Int32 → Sg → Option (Int32 × Sg)) (hrc36 : ∀ (r0 : Nat) (x1 : Int32) (x2 : Int32) (x3 : Int32) (x4 : Int32) (x5 : Int32) (σ : Sg), Aw l G MX6_search rI 36 [(0, .ref (Gb G + r0)), (1, .int x1), (2, .int x2), (3, .int x3), (4, .int x4), (5, .int x5)] [] σ (rc36 r0 x1 x2 x3 x4 x5 σ)) (r0 : Nat) (x1 : Int32) (x2 : Int32) (x3 : Int32) (x4 : Int32) (x5 : Int32) (σ : Sg) : Aw l G MX6_search rI 50 [(0, .ref (Gb G + r0)), (1, .int x1), (2, .int x2), (3, .int x3), (4, .int x4), (5, .int x5)] [] σ (f_X6_search_50 rc36 r0 x1 x2 x3 x4 x5 σ) := by
  unfold f_X6_search_50
  refine Aw.gd (fun hr0 => ?_)
  refine Aw.aload_n 0 rfl rfl dX6_search_50 ?_
  refine Aw.iload 5 rfl rfl dX6_search_51 ?_
  refine Aw.callVv (As := [.int x5]) (rest := []) cv_X6_142 (Nat.le_of_ble_eq_true rfl) hr0 (ct_X6_returns l G r0 x5 σ) rfl rfl (Nat.le_of_ble_eq_true rfl) (Nat.le_of_ble_eq_true rfl) (Nat.le_of_ble_eq_true rfl) rfl dX6_search_53 (fun a1 τ2 _ => ?_)
  refine Aw.aload_n 0 rfl rfl dX6_search_56 ?_
  refine Aw.getR fl_X6_28 (Nat.le_of_ble_eq_true rfl) rfl hr0 rfl dX6_search_57 ?_
  refine Aw.iload 5 rfl rfl dX6_search_60 ?_
  refine Aw.dup2 rfl dX6_search_62 ?_
  refine Aw.iald (n := 6) (ft_6_8 hr0).1 (ft_6_8 hr0).2 rfl dX6_search_63 (fun hb3 => ?_)
  refine Aw.iconst (v := 1) ic_1 rfl dX6_search_64 ?_
  refine Aw.iadd rfl dX6_search_65 ?_
  refine Aw.iast (n := 6) (ft_6_8 hr0).1 (ft_6_8 hr0).2 rfl dX6_search_66 (fun hb4 => ?_)
  refine Aw.bs (fun τ5 => ?_)
  refine Aw.aload_n 0 rfl rfl dX6_search_67 ?_
  refine Aw.getR fl_X6_28 (Nat.le_of_ble_eq_true rfl) rfl hr0 rfl dX6_search_68 ?_
  refine Aw.iload 5 rfl rfl dX6_search_71 ?_
  refine Aw.iald (n := 6) (ft_6_8 hr0).1 (ft_6_8 hr0).2 rfl dX6_search_73 (fun hb6 => ?_)
  refine Aw.bi (fun b7 => ?_)
  refine Aw.istore (L' := [(6, .int b7), (0, .ref (Gb G + r0)), (1, .int x1), (2, .int x2), (3, .int x3), (4, .int x4), (5, .int x5)]) (Nat.le_of_ble_eq_true rfl) rfl rfl dX6_search_74 ?_
  refine Aw.iload 0 rfl rfl dX6_search_76 ?_
  refine Aw.aload_n 1 rfl rfl dX6_search_78 ?_
  refine Aw.getR fl_X6_7 (Nat.le_of_ble_eq_true rfl) rfl hr0 rfl dX6_search_79 ?_
  refine Aw.iconst (v := 1) ic_1 rfl dX6_search_82 ?_
  refine Aw.iald (n := 336) (ft_6_0 hr0).1 (ft_6_0 hr0).2 rfl dX6_search_83 (fun hb8 => ?_)
  refine Aw.icmp_ne (q := 87) (t := 93) rfl (by decide) dX6_search_84 (fun hc => ?_) (fun hc => ?_)
  · refine Aw.iinc (v := x5 + (-1)) (L' := [(5, .int (x5 + (-1))), (6, .int b7), (0, .ref (Gb G + r0)), (1, .int x1), (2, .int x2), (3, .int x3), (4, .int x4)]) 6 rfl (ii_m1 _) (Nat.le_of_ble_eq_true rfl) rfl rfl dX6_search_87 ?_
    refine Aw.goto (q := 171) (by decide) dX6_search_90 ?_
    refine Aw.sub (L' := [(0, .ref (Gb G + r0)), (1, .int x1), (2, .int x2), (3, .int x3), (4, .int x4), (5, .int (x5 + (-1)))]) [2, 3, 4, 5, 6, 0] rfl ?_
    exact aw_X6_search_171 l G _ hrc36 _ _ _ _ _ _ _
  · refine Aw.iload_n 4 rfl rfl dX6_search_93 ?_
    refine Aw.if_eq (q := 97) (t := 109) rfl (by decide) dX6_search_94 (fun hc => ?_) (fun hc => ?_)
    · refine Aw.sub (L' := [(0, .ref (Gb G + r0)), (1, .int x1), (2, .int x2), (3, .int x3), (4, .int x4), (5, .int x5), (6, .int b7)]) [1, 2, 3, 4, 5, 6, 0] rfl ?_
      exact aw_X6_search_109 l G _ hrc36 _ _ _ _ _ _ _ _
    · refine Aw.aload_n 1 rfl rfl dX6_search_97 ?_
      refine Aw.iload 6 rfl rfl dX6_search_98 ?_
      refine Aw.iload 0 rfl rfl dX6_search_100 ?_
      refine Aw.iload_n 4 rfl rfl dX6_search_102 ?_
      refine Aw.callVi (As := [.int x5, .int b7, .int x3]) (rest := []) cv_X6_145 (Nat.le_of_ble_eq_true rfl) hr0 (ct_X6_isVaried l G r0 x5 b7 x3 τ5) rfl rfl (Nat.le_of_ble_eq_true rfl) (Nat.le_of_ble_eq_true rfl) (Nat.le_of_ble_eq_true rfl) rfl dX6_search_103 (fun a9 τ10 _ => ?_)
      refine Aw.if_eq (q := 109) (t := 171) rfl (by decide) dX6_search_106 (fun hc => ?_) (fun hc => ?_)
      · refine Aw.sub (L' := [(0, .ref (Gb G + r0)), (1, .int x1), (2, .int x2), (3, .int x3), (4, .int x4), (5, .int x5)]) [1, 2, 3, 4, 5, 6] rfl ?_
        exact aw_X6_search_171 l G _ hrc36 _ _ _ _ _ _ _
      · refine Aw.sub (L' := [(0, .ref (Gb G + r0)), (1, .int x1), (2, .int x2), (3, .int x3), (4, .int x4), (5, .int x5), (6, .int b7)]) [1, 2, 3, 4, 5, 6, 0] rfl ?_
        exact aw_X6_search_109 l G _ hrc36 _ _ _ _ _ _ _ _
set_option maxRecDepth 100000 in
set_option maxHeartbeats 4000000 in
theorem aw_X6_search_174 (l : Launch) (G : Gt) (r0 : Nat) (x4 : Int32) (σ : Sg) : Aw l G MX6_search rI 174 [(0, .ref (Gb G + r0)), (4, .int x4)] [] σ (f_X6_search_174 r0 x4 σ) := by
  unfold f_X6_search_174
  refine Aw.gd (fun hr0 => ?_)
  refine Aw.aload_n 0 rfl rfl dX6_search_174 ?_
  refine Aw.iconst (v := 0) ic_0 rfl dX6_search_175 ?_
  refine Aw.callVv (As := [.int 0]) (rest := []) cv_X6_142 (Nat.le_of_ble_eq_true rfl) hr0 (ct_X6_returns l G r0 0 σ) rfl rfl (Nat.le_of_ble_eq_true rfl) (Nat.le_of_ble_eq_true rfl) (Nat.le_of_ble_eq_true rfl) rfl dX6_search_176 (fun a1 τ2 _ => ?_)
  refine Aw.iload 1 rfl rfl dX6_search_179 ?_
  exact Aw.iret rfl dX6_search_181
set_option maxRecDepth 100000 in
set_option maxHeartbeats 4000000 in
theorem aw_X6_search_36 (l : Launch) (G : Gt) : ∀ (n : Nat) (r0 : Nat) (x1 : Int32) (x2 : Int32) (x3 : Int32) (x4 : Int32) (x5 : Int32) (σ : Sg), Aw l G MX6_search rI 36 [(0, .ref (Gb G + r0)), (1, .int x1), (2, .int x2), (3, .int x3), (4, .int x4), (5, .int x5)] [] σ (f_X6_search_36 n r0 x1 x2 x3 x4 x5 σ) := by
  intro n
  induction n with
  | zero => intro r0 x1 x2 x3 x4 x5 σ; exact Aw.no
  | succ n ih =>
    intro r0 x1 x2 x3 x4 x5 σ
    rw [f_X6_search_36]
    refine Aw.gd (fun hr0 => ?_)
    refine Aw.iload 5 rfl rfl dX6_search_36 ?_
    refine Aw.if_lt (q := 41) (t := 174) rfl (by decide) dX6_search_38 (fun hc => ?_) (fun hc => ?_)
    · refine Aw.sub (L' := [(0, .ref (Gb G + r0)), (4, .int x4)]) [0, 4] rfl ?_
      exact aw_X6_search_174 l G _ _ _
    · refine Aw.iload_n 3 rfl rfl dX6_search_41 ?_
      refine Aw.if_eq (q := 45) (t := 50) rfl (by decide) dX6_search_42 (fun hc => ?_) (fun hc => ?_)
      · refine Aw.sub (L' := [(0, .ref (Gb G + r0)), (1, .int x1), (2, .int x2), (3, .int x3), (4, .int x4), (5, .int x5)]) [0, 1, 2, 3, 4, 5] rfl ?_
        exact aw_X6_search_50 l G _ ih _ _ _ _ _ _ _
      · refine Aw.iload 4 rfl rfl dX6_search_45 ?_
        refine Aw.if_ne (q := 50) (t := 174) rfl (by decide) dX6_search_47 (fun hc => ?_) (fun hc => ?_)
        · refine Aw.sub (L' := [(0, .ref (Gb G + r0)), (1, .int x1), (2, .int x2), (3, .int x3), (4, .int x4), (5, .int x5)]) [0, 1, 2, 3, 4, 5] rfl ?_
          exact aw_X6_search_50 l G _ ih _ _ _ _ _ _ _
        · refine Aw.sub (L' := [(0, .ref (Gb G + r0)), (4, .int x4)]) [0, 4] rfl ?_
          exact aw_X6_search_174 l G _ _ _
set_option maxRecDepth 100000 in
set_option maxHeartbeats 4000000 in
theorem ct_X6_search (l : Launch) (G : Gt) (r0 : Nat) (x1 : Int32) (x2 : Int32) (x3 : Int32) (σ : Sg) : Ct l G yX6_search MX6_search rI [.ref (Gb G + r0), .int x1, .int x2, .int x3] σ (f_X6_search r0 x1 x2 x3 σ) := by
  refine Ct.of (by decide +kernel) rfl (Nat.le_of_ble_eq_true rfl) ?_
  show Aw l G MX6_search rI 0 [(0, .ref (Gb G + r0)), (1, .int x1), (2, .int x2), (3, .int x3)] [] σ _
  unfold f_X6_search
  refine Aw.gd (fun hr0 => ?_)
  refine Aw.iload_n 1 rfl rfl dX6_search_0 ?_
  refine Aw.if_ne (q := 4) (t := 18) rfl (by decide) dX6_search_1 (fun hc => ?_) (fun hc => ?_)
  · refine Aw.aload_n 0 rfl rfl dX6_search_4 ?_
    refine Aw.iload_n 2 rfl rfl dX6_search_5 ?_
    refine Aw.callVi (As := [.int x2]) (rest := []) cv_X6_135 (Nat.le_of_ble_eq_true rfl) hr0 (ct_X6_isGoal l G r0 x2 σ) rfl rfl (Nat.le_of_ble_eq_true rfl) (Nat.le_of_ble_eq_true rfl) (Nat.le_of_ble_eq_true rfl) rfl dX6_search_6 (fun a5 τ6 _ => ?_)
    refine Aw.if_eq (q := 12) (t := 16) rfl (by decide) dX6_search_9 (fun hc => ?_) (fun hc => ?_)
    · refine Aw.iconst (v := 0) ic_0 rfl dX6_search_16 ?_
      exact Aw.iret rfl dX6_search_17
    · refine Aw.iconst (v := 1) ic_1 rfl dX6_search_12 ?_
      refine Aw.goto (q := 17) (by decide) dX6_search_13 ?_
      exact Aw.iret rfl dX6_search_17
  · refine Aw.iconst (v := 0) ic_0 rfl dX6_search_18 ?_
    refine Aw.istore (L' := [(4, .int 0), (0, .ref (Gb G + r0)), (1, .int x1), (2, .int x2), (3, .int x3)]) (Nat.le_of_ble_eq_true rfl) rfl rfl dX6_search_19 ?_
    refine Aw.iconst (v := 0) ic_0 rfl dX6_search_21 ?_
    refine Aw.istore (L' := [(5, .int 0), (4, .int 0), (0, .ref (Gb G + r0)), (1, .int x1), (2, .int x2), (3, .int x3)]) (Nat.le_of_ble_eq_true rfl) rfl rfl dX6_search_22 ?_
    refine Aw.aload_n 2 rfl rfl dX6_search_24 ?_
    refine Aw.iconst (v := 0) ic_0 rfl dX6_search_25 ?_
    refine Aw.callVv (As := [.int 0]) (rest := []) cv_X6_138 (Nat.le_of_ble_eq_true rfl) hr0 (ct_X6_holds l G r0 0 σ) rfl rfl (Nat.le_of_ble_eq_true rfl) (Nat.le_of_ble_eq_true rfl) (Nat.le_of_ble_eq_true rfl) rfl dX6_search_26 (fun a1 τ2 _ => ?_)
    refine Aw.aload_n 2 rfl rfl dX6_search_29 ?_
    refine Aw.getR fl_X6_28 (Nat.le_of_ble_eq_true rfl) rfl hr0 rfl dX6_search_30 ?_
    refine Aw.iconst (v := 0) ic_0 rfl dX6_search_33 ?_
    refine Aw.iconst (v := (-1)) ic_m1 rfl dX6_search_34 ?_
    refine Aw.iast (n := 6) (ft_6_8 hr0).1 (ft_6_8 hr0).2 rfl dX6_search_35 (fun hb3 => ?_)
    refine Aw.bs (fun τ4 => ?_)
    refine Aw.sub (L' := [(0, .ref (Gb G + r0)), (1, .int x1), (2, .int x2), (3, .int x3), (4, .int 0), (5, .int 0)]) [2, 3, 4, 5, 1, 0] rfl ?_
    exact aw_X6_search_36 l G FU _ _ _ _ _ _ _
abbrev MX6_fewest : Mt := (RX6, cX6_fewest, 5, (some .int), 6)
def f_X6_fewest_33  : Nat → Nat → Int32 → Int32 → Int32 → Int32 → Sg → Option (Int32 × Sg)
  | 0, _, _, _, _, _, _ => none
  | n + 1, r0, x1, x2, x3, x4, σ => if kd r0 = 6 then (if x2 < x4 then (some ((-1), σ)) else (cb (f_X6_search r0 x4 x1 x3 σ) (fun a1 τ2 => if a1 ≤ 0 then (f_X6_fewest_33 n r0 x1 x2 x3 (x4 + 1) τ2) else (some (x4, τ2))))) else none
def f_X6_fewest (r0 : Nat) (x1 : Int32) (x2 : Int32) (x3 : Int32) (σ : Sg) : Option (Int32 × Sg) := if kd r0 = 6 then (cb (f_X6_isIn x1 0 2 σ) (fun a1 τ2 => if a1 = 0 then (some ((-2), τ2)) else (cb (f_X6_isIn x2 0 5 τ2) (fun a3 τ4 => if a3 = 0 then (some ((-2), τ4)) else (cb (f_X6_isIn x3 1 5 τ4) (fun a5 τ6 => if a5 = 0 then (some ((-2), τ6)) else (f_X6_fewest_33 FU r0 x1 x2 x3 0 τ6))))))) else none
theorem cv_X6_148 : CV RX6 148 6 yX6_search MX6_search 3 := ⟨_, rfl, rfl, ml_X6_148, ins_X6_search, sel_X6_search, ini_X6, cw_X6_search, ⟨by decide, by decide, by decide +kernel⟩⟩
set_option maxRecDepth 100000 in
set_option maxHeartbeats 4000000 in
theorem aw_X6_fewest_33 (l : Launch) (G : Gt) : ∀ (n : Nat) (r0 : Nat) (x1 : Int32) (x2 : Int32) (x3 : Int32) (x4 : Int32) (σ : Sg), Aw l G MX6_fewest rI 33 [(0, .ref (Gb G + r0)), (1, .int x1), (2, .int x2), (3, .int x3), (4, .int x4)] [] σ (f_X6_fewest_33 n r0 x1 x2 x3 x4 σ) := by
  intro n
  induction n with
  | zero => intro r0 x1 x2 x3 x4 σ; exact Aw.no
  | succ n ih =>
    intro r0 x1 x2 x3 x4 σ
    rw [f_X6_fewest_33]
    refine Aw.gd (fun hr0 => ?_)
    refine Aw.iload 4 rfl rfl dX6_fewest_33 ?_
    refine Aw.iload_n 2 rfl rfl dX6_fewest_35 ?_
    refine Aw.icmp_gt (q := 39) (t := 59) rfl (by decide) dX6_fewest_36 (fun hc => ?_) (fun hc => ?_)
    · refine Aw.iconst (v := (-1)) ic_m1 rfl dX6_fewest_59 ?_
      exact Aw.iret rfl dX6_fewest_60
    · refine Aw.aload_n 0 rfl rfl dX6_fewest_39 ?_
      refine Aw.iload 4 rfl rfl dX6_fewest_40 ?_
      refine Aw.iload_n 1 rfl rfl dX6_fewest_42 ?_
      refine Aw.iload_n 3 rfl rfl dX6_fewest_43 ?_
      refine Aw.callVi (As := [.int x4, .int x1, .int x3]) (rest := []) cv_X6_148 (Nat.le_of_ble_eq_true rfl) hr0 (ct_X6_search l G r0 x4 x1 x3 σ) rfl rfl (Nat.le_of_ble_eq_true rfl) (Nat.le_of_ble_eq_true rfl) (Nat.le_of_ble_eq_true rfl) rfl dX6_fewest_44 (fun a1 τ2 _ => ?_)
      refine Aw.if_le (q := 50) (t := 53) rfl (by decide) dX6_fewest_47 (fun hc => ?_) (fun hc => ?_)
      · refine Aw.iinc (v := x4 + 1) (L' := [(4, .int (x4 + 1)), (0, .ref (Gb G + r0)), (1, .int x1), (2, .int x2), (3, .int x3)]) 4 rfl (ii_1 _) (Nat.le_of_ble_eq_true rfl) rfl rfl dX6_fewest_53 ?_
        refine Aw.goto (q := 33) (by decide) dX6_fewest_56 ?_
        refine Aw.sub (L' := [(0, .ref (Gb G + r0)), (1, .int x1), (2, .int x2), (3, .int x3), (4, .int (x4 + 1))]) [1, 2, 3, 4, 0] rfl ?_
        exact ih _ _ _ _ _ _
      · refine Aw.iload 4 rfl rfl dX6_fewest_50 ?_
        exact Aw.iret rfl dX6_fewest_52
set_option maxRecDepth 100000 in
set_option maxHeartbeats 4000000 in
theorem ct_X6_fewest (l : Launch) (G : Gt) (r0 : Nat) (x1 : Int32) (x2 : Int32) (x3 : Int32) (σ : Sg) : Ct l G yX6_fewest MX6_fewest rI [.ref (Gb G + r0), .int x1, .int x2, .int x3] σ (f_X6_fewest r0 x1 x2 x3 σ) := by
  refine Ct.of (by decide +kernel) rfl (Nat.le_of_ble_eq_true rfl) ?_
  show Aw l G MX6_fewest rI 0 [(0, .ref (Gb G + r0)), (1, .int x1), (2, .int x2), (3, .int x3)] [] σ _
  unfold f_X6_fewest
  refine Aw.gd (fun hr0 => ?_)
  refine Aw.iload_n 1 rfl rfl dX6_fewest_0 ?_
  refine Aw.iconst (v := 0) ic_0 rfl dX6_fewest_1 ?_
  refine Aw.iconst (v := 2) ic_2 rfl dX6_fewest_2 ?_
  refine Aw.callSi (As := [.int x1, .int 0, .int 2]) (rest := []) cs_X6_48 (ct_X6_isIn l G x1 0 2 σ) rfl rfl (Nat.le_of_ble_eq_true rfl) (Nat.le_of_ble_eq_true rfl) (Nat.le_of_ble_eq_true rfl) rfl dX6_fewest_3 (fun a1 τ2 _ => ?_)
  refine Aw.if_eq (q := 9) (t := 27) rfl (by decide) dX6_fewest_6 (fun hc => ?_) (fun hc => ?_)
  · refine Aw.bipush (v := (-2)) ib_m2 rfl dX6_fewest_27 ?_
    exact Aw.iret rfl dX6_fewest_29
  · refine Aw.iload_n 2 rfl rfl dX6_fewest_9 ?_
    refine Aw.iconst (v := 0) ic_0 rfl dX6_fewest_10 ?_
    refine Aw.iconst (v := 5) ic_5 rfl dX6_fewest_11 ?_
    refine Aw.callSi (As := [.int x2, .int 0, .int 5]) (rest := []) cs_X6_48 (ct_X6_isIn l G x2 0 5 τ2) rfl rfl (Nat.le_of_ble_eq_true rfl) (Nat.le_of_ble_eq_true rfl) (Nat.le_of_ble_eq_true rfl) rfl dX6_fewest_12 (fun a3 τ4 _ => ?_)
    refine Aw.if_eq (q := 18) (t := 27) rfl (by decide) dX6_fewest_15 (fun hc => ?_) (fun hc => ?_)
    · refine Aw.bipush (v := (-2)) ib_m2 rfl dX6_fewest_27 ?_
      exact Aw.iret rfl dX6_fewest_29
    · refine Aw.iload_n 3 rfl rfl dX6_fewest_18 ?_
      refine Aw.iconst (v := 1) ic_1 rfl dX6_fewest_19 ?_
      refine Aw.iconst (v := 5) ic_5 rfl dX6_fewest_20 ?_
      refine Aw.callSi (As := [.int x3, .int 1, .int 5]) (rest := []) cs_X6_48 (ct_X6_isIn l G x3 1 5 τ4) rfl rfl (Nat.le_of_ble_eq_true rfl) (Nat.le_of_ble_eq_true rfl) (Nat.le_of_ble_eq_true rfl) rfl dX6_fewest_21 (fun a5 τ6 _ => ?_)
      refine Aw.if_ne (q := 27) (t := 30) rfl (by decide) dX6_fewest_24 (fun hc => ?_) (fun hc => ?_)
      · refine Aw.bipush (v := (-2)) ib_m2 rfl dX6_fewest_27 ?_
        exact Aw.iret rfl dX6_fewest_29
      · refine Aw.iconst (v := 0) ic_0 rfl dX6_fewest_30 ?_
        refine Aw.istore (L' := [(4, .int 0), (0, .ref (Gb G + r0)), (1, .int x1), (2, .int x2), (3, .int x3)]) (Nat.le_of_ble_eq_true rfl) rfl rfl dX6_fewest_31 ?_
        refine Aw.sub (L' := [(0, .ref (Gb G + r0)), (1, .int x1), (2, .int x2), (3, .int x3), (4, .int 0)]) [1, 2, 3, 4, 0] rfl ?_
        exact aw_X6_fewest_33 l G FU _ _ _ _ _ _
abbrev MX6_finds : Mt := (RX6, cX6_finds, 4, (some .int), 7)
def f_X6_finds (r0 : Nat) (x1 : Int32) (x2 : Int32) (x3 : Int32) (σ : Sg) : Option (Int32 × Sg) := if kd r0 = 6 then (cb (f_X6_fewest r0 x1 x2 x3 σ) (fun a1 τ2 => cb (f_X6_counted r0 a1 τ2) (fun a3 τ4 => some (a3, τ4)))) else none
theorem cv_X6_151 : CV RX6 151 6 yX6_fewest MX6_fewest 3 := ⟨_, rfl, rfl, ml_X6_151, ins_X6_fewest, sel_X6_fewest, ini_X6, cw_X6_fewest, ⟨by decide, by decide, by decide +kernel⟩⟩
set_option maxRecDepth 100000 in
set_option maxHeartbeats 4000000 in
theorem ct_X6_finds (l : Launch) (G : Gt) (r0 : Nat) (x1 : Int32) (x2 : Int32) (x3 : Int32) (σ : Sg) : Ct l G yX6_finds MX6_finds rI [.ref (Gb G + r0), .int x1, .int x2, .int x3] σ (f_X6_finds r0 x1 x2 x3 σ) := by
  refine Ct.of (by decide +kernel) rfl (Nat.le_of_ble_eq_true rfl) ?_
  show Aw l G MX6_finds rI 0 [(0, .ref (Gb G + r0)), (1, .int x1), (2, .int x2), (3, .int x3)] [] σ _
  unfold f_X6_finds
  refine Aw.gd (fun hr0 => ?_)
  refine Aw.aload_n 0 rfl rfl dX6_finds_0 ?_
  refine Aw.aload_n 0 rfl rfl dX6_finds_1 ?_
  refine Aw.iload_n 1 rfl rfl dX6_finds_2 ?_
  refine Aw.iload_n 2 rfl rfl dX6_finds_3 ?_
  refine Aw.iload_n 3 rfl rfl dX6_finds_4 ?_
  refine Aw.callVi (As := [.int x1, .int x2, .int x3]) (rest := [.ref (Gb G + r0)]) cv_X6_151 (Nat.le_of_ble_eq_true rfl) hr0 (ct_X6_fewest l G r0 x1 x2 x3 σ) rfl rfl (Nat.le_of_ble_eq_true rfl) (Nat.le_of_ble_eq_true rfl) (Nat.le_of_ble_eq_true rfl) rfl dX6_finds_5 (fun a1 τ2 _ => ?_)
  refine Aw.callVi (As := [.int a1]) (rest := []) cv_X6_114 (Nat.le_of_ble_eq_true rfl) hr0 (ct_X6_counted l G r0 a1 τ2) rfl rfl (Nat.le_of_ble_eq_true rfl) (Nat.le_of_ble_eq_true rfl) (Nat.le_of_ble_eq_true rfl) rfl dX6_finds_8 (fun a3 τ4 _ => ?_)
  exact Aw.iret rfl dX6_finds_11
