abbrev MX6_found : Mt := (RX6, cX6_found, 6, (some .int), 7)
def f_X6_found_17  (r0 : Nat) (x4 : Int32) (s0 : Int32) (σ : Sg) : Option (Int32 × Sg) := if kd r0 = 6 then (if (-1) ≤ s0 then (if s0 ≤ x4 then (some ((-1), σ)) else (if inb x4 6 then (some (σ (rf r0 8) (ix x4), σ)) else none)) else (cb (f_X6_refused r0 ((-2)) σ) (fun a2 τ3 => some (a2, τ3)))) else none
def f_X6_found (r0 : Nat) (x1 : Int32) (x2 : Int32) (x3 : Int32) (x4 : Int32) (σ : Sg) : Option (Int32 × Sg) := if kd r0 = 6 then (if 0 ≤ x4 then (cb (f_X6_fewest r0 x1 x2 x3 σ) (fun a1 τ2 => f_X6_found_17 r0 x4 a1 τ2)) else (f_X6_found_17 r0 x4 ((-2)) σ)) else none
set_option maxRecDepth 100000 in
set_option maxHeartbeats 4000000 in
theorem aw_X6_found_17 (l : Launch) (G : Gt) (r0 : Nat) (x4 : Int32) (s0 : Int32) (σ : Sg) : Aw l G MX6_found rI 17 [(0, .ref (Gb G + r0)), (4, .int x4)] [.int s0] σ (f_X6_found_17 r0 x4 s0 σ) := by
  unfold f_X6_found_17
  refine Aw.gd (fun hr0 => ?_)
  refine Aw.istore (L' := [(5, .int s0), (0, .ref (Gb G + r0)), (4, .int x4)]) (Nat.le_of_ble_eq_true rfl) rfl rfl dX6_found_17 ?_
  refine Aw.iload 0 rfl rfl dX6_found_19 ?_
  refine Aw.iconst (v := (-1)) ic_m1 rfl dX6_found_21 ?_
  refine Aw.icmp_ge (q := 25) (t := 34) rfl (by decide) dX6_found_22 (fun hc => ?_) (fun hc => ?_)
  · refine Aw.iload 2 rfl rfl dX6_found_34 ?_
    refine Aw.iload 0 rfl rfl dX6_found_36 ?_
    refine Aw.icmp_ge (q := 41) (t := 51) rfl (by decide) dX6_found_38 (fun hc => ?_) (fun hc => ?_)
    · refine Aw.iconst (v := (-1)) ic_m1 rfl dX6_found_51 ?_
      exact Aw.iret rfl dX6_found_52
    · refine Aw.aload_n 1 rfl rfl dX6_found_41 ?_
      refine Aw.getR fl_X6_28 (Nat.le_of_ble_eq_true rfl) rfl hr0 rfl dX6_found_42 ?_
      refine Aw.iload 2 rfl rfl dX6_found_45 ?_
      refine Aw.iald (n := 6) (ft_6_8 hr0).1 (ft_6_8 hr0).2 rfl dX6_found_47 (fun hb1 => ?_)
      refine Aw.goto (q := 52) (by decide) dX6_found_48 ?_
      exact Aw.iret rfl dX6_found_52
  · refine Aw.aload_n 1 rfl rfl dX6_found_25 ?_
    refine Aw.bipush (v := (-2)) ib_m2 rfl dX6_found_26 ?_
    refine Aw.callVi (As := [.int ((-2))]) (rest := []) cv_X6_38 (Nat.le_of_ble_eq_true rfl) hr0 (ct_X6_refused l G r0 ((-2)) σ) rfl rfl (Nat.le_of_ble_eq_true rfl) (Nat.le_of_ble_eq_true rfl) (Nat.le_of_ble_eq_true rfl) rfl dX6_found_28 (fun a2 τ3 _ => ?_)
    refine Aw.goto (q := 52) (by decide) dX6_found_31 ?_
    exact Aw.iret rfl dX6_found_52
set_option maxRecDepth 100000 in
set_option maxHeartbeats 4000000 in
theorem ct_X6_found (l : Launch) (G : Gt) (r0 : Nat) (x1 : Int32) (x2 : Int32) (x3 : Int32) (x4 : Int32) (σ : Sg) : Ct l G yX6_found MX6_found rI [.ref (Gb G + r0), .int x1, .int x2, .int x3, .int x4] σ (f_X6_found r0 x1 x2 x3 x4 σ) := by
  refine Ct.of (by decide +kernel) rfl (Nat.le_of_ble_eq_true rfl) ?_
  show Aw l G MX6_found rI 0 [(0, .ref (Gb G + r0)), (1, .int x1), (2, .int x2), (3, .int x3), (4, .int x4)] [] σ _
  unfold f_X6_found
  refine Aw.gd (fun hr0 => ?_)
  refine Aw.iload 4 rfl rfl dX6_found_0 ?_
  refine Aw.if_ge (q := 5) (t := 10) rfl (by decide) dX6_found_2 (fun hc => ?_) (fun hc => ?_)
  · refine Aw.aload_n 0 rfl rfl dX6_found_10 ?_
    refine Aw.iload_n 1 rfl rfl dX6_found_11 ?_
    refine Aw.iload_n 2 rfl rfl dX6_found_12 ?_
    refine Aw.iload_n 3 rfl rfl dX6_found_13 ?_
    refine Aw.callVi (As := [.int x1, .int x2, .int x3]) (rest := []) cv_X6_151 (Nat.le_of_ble_eq_true rfl) hr0 (ct_X6_fewest l G r0 x1 x2 x3 σ) rfl rfl (Nat.le_of_ble_eq_true rfl) (Nat.le_of_ble_eq_true rfl) (Nat.le_of_ble_eq_true rfl) rfl dX6_found_14 (fun a1 τ2 _ => ?_)
    refine Aw.sub (L' := [(0, .ref (Gb G + r0)), (4, .int x4)]) [0, 4] rfl ?_
    exact aw_X6_found_17 l G _ _ _ _
  · refine Aw.bipush (v := (-2)) ib_m2 rfl dX6_found_5 ?_
    refine Aw.goto (q := 17) (by decide) dX6_found_7 ?_
    refine Aw.sub (L' := [(0, .ref (Gb G + r0)), (4, .int x4)]) [0, 4] rfl ?_
    exact aw_X6_found_17 l G _ _ _ _
abbrev MX6_rows : Mt := (RX6, cX6_rows, 3, (some .int), 6)
def f_X6_rows_28  (r0 : Nat) (σ : Sg) : Option (Int32 × Sg) := if kd r0 = 6 then (cb (f_X6_refused r0 ((-2)) σ) (fun a1 τ2 => some (a1, τ2))) else none
def f_X6_rows (r0 : Nat) (x1 : Int32) (x2 : Int32) (σ : Sg) : Option (Int32 × Sg) := if kd r0 = 6 then (cb (f_X6_isIn x1 0 2 σ) (fun a1 τ2 => if a1 = 0 then (f_X6_rows_28 r0 τ2) else (cb (f_X6_isIn x2 0 4 τ2) (fun a3 τ4 => if a3 = 0 then (f_X6_rows_28 r0 τ4) else (cb (f_X6_search r0 x2 x1 0 τ4) (fun a5 τ6 => some (a5, τ6))))))) else none
set_option maxRecDepth 100000 in
set_option maxHeartbeats 4000000 in
theorem aw_X6_rows_28 (l : Launch) (G : Gt) (r0 : Nat) (σ : Sg) : Aw l G MX6_rows rI 28 [(0, .ref (Gb G + r0))] [] σ (f_X6_rows_28 r0 σ) := by
  unfold f_X6_rows_28
  refine Aw.gd (fun hr0 => ?_)
  refine Aw.aload_n 0 rfl rfl dX6_rows_28 ?_
  refine Aw.bipush (v := (-2)) ib_m2 rfl dX6_rows_29 ?_
  refine Aw.callVi (As := [.int ((-2))]) (rest := []) cv_X6_38 (Nat.le_of_ble_eq_true rfl) hr0 (ct_X6_refused l G r0 ((-2)) σ) rfl rfl (Nat.le_of_ble_eq_true rfl) (Nat.le_of_ble_eq_true rfl) (Nat.le_of_ble_eq_true rfl) rfl dX6_rows_31 (fun a1 τ2 _ => ?_)
  exact Aw.iret rfl dX6_rows_34
set_option maxRecDepth 100000 in
set_option maxHeartbeats 4000000 in
theorem ct_X6_rows (l : Launch) (G : Gt) (r0 : Nat) (x1 : Int32) (x2 : Int32) (σ : Sg) : Ct l G yX6_rows MX6_rows rI [.ref (Gb G + r0), .int x1, .int x2] σ (f_X6_rows r0 x1 x2 σ) := by
  refine Ct.of (by decide +kernel) rfl (Nat.le_of_ble_eq_true rfl) ?_
  show Aw l G MX6_rows rI 0 [(0, .ref (Gb G + r0)), (1, .int x1), (2, .int x2)] [] σ _
  unfold f_X6_rows
  refine Aw.gd (fun hr0 => ?_)
  refine Aw.iload_n 1 rfl rfl dX6_rows_0 ?_
  refine Aw.iconst (v := 0) ic_0 rfl dX6_rows_1 ?_
  refine Aw.iconst (v := 2) ic_2 rfl dX6_rows_2 ?_
  refine Aw.callSi (As := [.int x1, .int 0, .int 2]) (rest := []) cs_X6_48 (ct_X6_isIn l G x1 0 2 σ) rfl rfl (Nat.le_of_ble_eq_true rfl) (Nat.le_of_ble_eq_true rfl) (Nat.le_of_ble_eq_true rfl) rfl dX6_rows_3 (fun a1 τ2 _ => ?_)
  refine Aw.if_eq (q := 9) (t := 28) rfl (by decide) dX6_rows_6 (fun hc => ?_) (fun hc => ?_)
  · refine Aw.sub (L' := [(0, .ref (Gb G + r0))]) [0] rfl ?_
    exact aw_X6_rows_28 l G _ _
  · refine Aw.iload_n 2 rfl rfl dX6_rows_9 ?_
    refine Aw.iconst (v := 0) ic_0 rfl dX6_rows_10 ?_
    refine Aw.iconst (v := 4) ic_4 rfl dX6_rows_11 ?_
    refine Aw.callSi (As := [.int x2, .int 0, .int 4]) (rest := []) cs_X6_48 (ct_X6_isIn l G x2 0 4 τ2) rfl rfl (Nat.le_of_ble_eq_true rfl) (Nat.le_of_ble_eq_true rfl) (Nat.le_of_ble_eq_true rfl) rfl dX6_rows_12 (fun a3 τ4 _ => ?_)
    refine Aw.if_eq (q := 18) (t := 28) rfl (by decide) dX6_rows_15 (fun hc => ?_) (fun hc => ?_)
    · refine Aw.sub (L' := [(0, .ref (Gb G + r0))]) [0] rfl ?_
      exact aw_X6_rows_28 l G _ _
    · refine Aw.aload_n 0 rfl rfl dX6_rows_18 ?_
      refine Aw.iload_n 2 rfl rfl dX6_rows_19 ?_
      refine Aw.iload_n 1 rfl rfl dX6_rows_20 ?_
      refine Aw.iconst (v := 0) ic_0 rfl dX6_rows_21 ?_
      refine Aw.callVi (As := [.int x2, .int x1, .int 0]) (rest := []) cv_X6_148 (Nat.le_of_ble_eq_true rfl) hr0 (ct_X6_search l G r0 x2 x1 0 τ4) rfl rfl (Nat.le_of_ble_eq_true rfl) (Nat.le_of_ble_eq_true rfl) (Nat.le_of_ble_eq_true rfl) rfl dX6_rows_22 (fun a5 τ6 _ => ?_)
      refine Aw.goto (q := 34) (by decide) dX6_rows_25 ?_
      exact Aw.iret rfl dX6_rows_34
abbrev MX6_walks : Mt := (RX6, cX6_walks, 3, (some .int), 3)
def f_X6_walks_7  : Nat → Nat → Int32 → Sg → Option (Int32 × Sg)
  | 0, _, _, _ => none
  | n + 1, r0, x1, σ => if kd r0 = 6 then (if inb 2 336 then (if σ (rf r0 0) (ix 2) ≤ x1 then (some ((-1), σ)) else (if inb (324 + x1) 336 then (bn (σ (rf r0 0) (ix (324 + x1))) (fun b3 => cb (f_X6_fits r0 b3 σ) (fun a4 τ5 => if a4 = 0 then (some (x1, τ5)) else (cb (f_X6_moves r0 b3 τ5) (fun a6 τ7 => f_X6_walks_7 n r0 (x1 + 1) τ7))))) else none)) else none) else none
def f_X6_walks (r0 : Nat) (σ : Sg) : Option (Int32 × Sg) := if kd r0 = 6 then (cb (f_X6_holds r0 5 σ) (fun _ τ2 => f_X6_walks_7 FU r0 0 τ2)) else none
set_option maxRecDepth 100000 in
set_option maxHeartbeats 4000000 in
theorem aw_X6_walks_7 (l : Launch) (G : Gt) : ∀ (n : Nat) (r0 : Nat) (x1 : Int32) (σ : Sg), Aw l G MX6_walks rI 7 [(0, .ref (Gb G + r0)), (1, .int x1)] [] σ (f_X6_walks_7 n r0 x1 σ) := by
  intro n
  induction n with
  | zero => intro r0 x1 σ; exact Aw.no
  | succ n ih =>
    intro r0 x1 σ
    rw [f_X6_walks_7]
    refine Aw.gd (fun hr0 => ?_)
    refine Aw.iload_n 1 rfl rfl dX6_walks_7 ?_
    refine Aw.aload_n 0 rfl rfl dX6_walks_8 ?_
    refine Aw.getR fl_X6_7 (Nat.le_of_ble_eq_true rfl) rfl hr0 rfl dX6_walks_9 ?_
    refine Aw.iconst (v := 2) ic_2 rfl dX6_walks_12 ?_
    refine Aw.iald (n := 336) (ft_6_0 hr0).1 (ft_6_0 hr0).2 rfl dX6_walks_13 (fun hb1 => ?_)
    refine Aw.icmp_ge (q := 17) (t := 50) rfl (by decide) dX6_walks_14 (fun hc => ?_) (fun hc => ?_)
    · refine Aw.iconst (v := (-1)) ic_m1 rfl dX6_walks_50 ?_
      exact Aw.iret rfl dX6_walks_51
    · refine Aw.aload_n 0 rfl rfl dX6_walks_17 ?_
      refine Aw.getR fl_X6_7 (Nat.le_of_ble_eq_true rfl) rfl hr0 rfl dX6_walks_18 ?_
      refine Aw.sipush (v := 324) is_324 rfl dX6_walks_21 ?_
      refine Aw.iload_n 1 rfl rfl dX6_walks_24 ?_
      refine Aw.iadd rfl dX6_walks_25 ?_
      refine Aw.iald (n := 336) (ft_6_0 hr0).1 (ft_6_0 hr0).2 rfl dX6_walks_26 (fun hb2 => ?_)
      refine Aw.bi (fun b3 => ?_)
      refine Aw.istore_n (L' := [(2, .int b3), (0, .ref (Gb G + r0)), (1, .int x1)]) (Nat.le_of_ble_eq_true rfl) rfl rfl dX6_walks_27 ?_
      refine Aw.aload_n 1 rfl rfl dX6_walks_28 ?_
      refine Aw.iload_n 0 rfl rfl dX6_walks_29 ?_
      refine Aw.callVi (As := [.int b3]) (rest := []) cv_X6_66 (Nat.le_of_ble_eq_true rfl) hr0 (ct_X6_fits l G r0 b3 σ) rfl rfl (Nat.le_of_ble_eq_true rfl) (Nat.le_of_ble_eq_true rfl) (Nat.le_of_ble_eq_true rfl) rfl dX6_walks_30 (fun a4 τ5 _ => ?_)
      refine Aw.if_ne (q := 36) (t := 38) rfl (by decide) dX6_walks_33 (fun hc => ?_) (fun hc => ?_)
      · refine Aw.iload_n 2 rfl rfl dX6_walks_36 ?_
        exact Aw.iret rfl dX6_walks_37
      · refine Aw.aload_n 1 rfl rfl dX6_walks_38 ?_
        refine Aw.iload_n 0 rfl rfl dX6_walks_39 ?_
        refine Aw.callVi (As := [.int b3]) (rest := []) cv_X6_69 (Nat.le_of_ble_eq_true rfl) hr0 (ct_X6_moves l G r0 b3 τ5) rfl rfl (Nat.le_of_ble_eq_true rfl) (Nat.le_of_ble_eq_true rfl) (Nat.le_of_ble_eq_true rfl) rfl dX6_walks_40 (fun a6 τ7 _ => ?_)
        refine Aw.pop rfl dX6_walks_43 ?_
        refine Aw.iinc (v := x1 + 1) (L' := [(1, .int (x1 + 1)), (2, .int b3), (0, .ref (Gb G + r0))]) 2 rfl (ii_1 _) (Nat.le_of_ble_eq_true rfl) rfl rfl dX6_walks_44 ?_
        refine Aw.goto (q := 7) (by decide) dX6_walks_47 ?_
        refine Aw.sub (L' := [(0, .ref (Gb G + r0)), (1, .int (x1 + 1))]) [2, 0] rfl ?_
        exact ih _ _ _
set_option maxRecDepth 100000 in
set_option maxHeartbeats 4000000 in
theorem ct_X6_walks (l : Launch) (G : Gt) (r0 : Nat) (σ : Sg) : Ct l G yX6_walks MX6_walks rI [.ref (Gb G + r0)] σ (f_X6_walks r0 σ) := by
  refine Ct.of (by decide +kernel) rfl (Nat.le_of_ble_eq_true rfl) ?_
  show Aw l G MX6_walks rI 0 [(0, .ref (Gb G + r0))] [] σ _
  unfold f_X6_walks
  refine Aw.gd (fun hr0 => ?_)
  refine Aw.aload_n 0 rfl rfl dX6_walks_0 ?_
  refine Aw.iconst (v := 5) ic_5 rfl dX6_walks_1 ?_
  refine Aw.callVv (As := [.int 5]) (rest := []) cv_X6_138 (Nat.le_of_ble_eq_true rfl) hr0 (ct_X6_holds l G r0 5 σ) rfl rfl (Nat.le_of_ble_eq_true rfl) (Nat.le_of_ble_eq_true rfl) (Nat.le_of_ble_eq_true rfl) rfl dX6_walks_2 (fun a1 τ2 _ => ?_)
  refine Aw.iconst (v := 0) ic_0 rfl dX6_walks_5 ?_
  refine Aw.istore_n (L' := [(1, .int 0), (0, .ref (Gb G + r0))]) (Nat.le_of_ble_eq_true rfl) rfl rfl dX6_walks_6 ?_
  refine Aw.sub (L' := [(0, .ref (Gb G + r0)), (1, .int 0)]) [1, 0] rfl ?_
  exact aw_X6_walks_7 l G FU _ _ _
abbrev MX6_judges : Mt := (RX6, cX6_judges, 2, (some .int), 4)
def f_X6_judges (r0 : Nat) (σ : Sg) : Option (Int32 × Sg) := if kd r0 = 6 then (cb (f_X6_walks r0 σ) (fun a1 τ2 => cb (f_X6_returns r0 5 τ2) (fun _ τ4 => some (a1, τ4)))) else none
theorem cv_X6_154 : CV RX6 154 6 yX6_walks MX6_walks 0 := ⟨_, rfl, rfl, ml_X6_154, ins_X6_walks, sel_X6_walks, ini_X6, cw_X6_walks, ⟨by decide, by decide, by decide +kernel⟩⟩
set_option maxRecDepth 100000 in
set_option maxHeartbeats 4000000 in
theorem ct_X6_judges (l : Launch) (G : Gt) (r0 : Nat) (σ : Sg) : Ct l G yX6_judges MX6_judges rI [.ref (Gb G + r0)] σ (f_X6_judges r0 σ) := by
  refine Ct.of (by decide +kernel) rfl (Nat.le_of_ble_eq_true rfl) ?_
  show Aw l G MX6_judges rI 0 [(0, .ref (Gb G + r0))] [] σ _
  unfold f_X6_judges
  refine Aw.gd (fun hr0 => ?_)
  refine Aw.aload_n 0 rfl rfl dX6_judges_0 ?_
  refine Aw.callVi (As := []) (rest := []) cv_X6_154 (Nat.le_of_ble_eq_true rfl) hr0 (ct_X6_walks l G r0 σ) rfl rfl (Nat.le_of_ble_eq_true rfl) (Nat.le_of_ble_eq_true rfl) (Nat.le_of_ble_eq_true rfl) rfl dX6_judges_1 (fun a1 τ2 _ => ?_)
  refine Aw.istore_n (L' := [(1, .int a1), (0, .ref (Gb G + r0))]) (Nat.le_of_ble_eq_true rfl) rfl rfl dX6_judges_4 ?_
  refine Aw.aload_n 1 rfl rfl dX6_judges_5 ?_
  refine Aw.iconst (v := 5) ic_5 rfl dX6_judges_6 ?_
  refine Aw.callVv (As := [.int 5]) (rest := []) cv_X6_142 (Nat.le_of_ble_eq_true rfl) hr0 (ct_X6_returns l G r0 5 τ2) rfl rfl (Nat.le_of_ble_eq_true rfl) (Nat.le_of_ble_eq_true rfl) (Nat.le_of_ble_eq_true rfl) rfl dX6_judges_7 (fun a3 τ4 _ => ?_)
  refine Aw.iload_n 0 rfl rfl dX6_judges_10 ?_
  exact Aw.iret rfl dX6_judges_11
abbrev MX6_planned : Mt := (RX6, cX6_planned, 4, (some .int), 4)
def f_X6_planned_17  (r0 : Nat) (σ : Sg) : Option (Int32 × Sg) := if kd r0 = 6 then (cb (f_X6_refused r0 ((-2)) σ) (fun a1 τ2 => some (a1, τ2))) else none
def f_X6_planned (r0 : Nat) (x1 : Int32) (x2 : Int32) (σ : Sg) : Option (Int32 × Sg) := if kd r0 = 6 then (cb (f_X6_isDancer r0 x1 σ) (fun a1 τ2 => if a1 = 0 then (f_X6_planned_17 r0 τ2) else (cb (f_X6_isIn x2 0 1 τ2) (fun a3 τ4 => if a3 = 0 then (f_X6_planned_17 r0 τ4) else (cb (f_X6_walks r0 τ4) (fun a5 τ6 => if inb ((4 + (4 * x1)) + x2) 336 then (bn (τ6 (rf r0 0) (ix ((4 + (4 * x1)) + x2))) (fun b8 => cb (f_X6_returns r0 5 τ6) (fun _ τ10 => some (b8, τ10)))) else none)))))) else none
set_option maxRecDepth 100000 in
set_option maxHeartbeats 4000000 in
theorem aw_X6_planned_17 (l : Launch) (G : Gt) (r0 : Nat) (σ : Sg) : Aw l G MX6_planned rI 17 [(0, .ref (Gb G + r0))] [] σ (f_X6_planned_17 r0 σ) := by
  unfold f_X6_planned_17
  refine Aw.gd (fun hr0 => ?_)
  refine Aw.aload_n 0 rfl rfl dX6_planned_17 ?_
  refine Aw.bipush (v := (-2)) ib_m2 rfl dX6_planned_18 ?_
  refine Aw.callVi (As := [.int ((-2))]) (rest := []) cv_X6_38 (Nat.le_of_ble_eq_true rfl) hr0 (ct_X6_refused l G r0 ((-2)) σ) rfl rfl (Nat.le_of_ble_eq_true rfl) (Nat.le_of_ble_eq_true rfl) (Nat.le_of_ble_eq_true rfl) rfl dX6_planned_20 (fun a1 τ2 _ => ?_)
  exact Aw.iret rfl dX6_planned_23
set_option maxRecDepth 100000 in
set_option maxHeartbeats 4000000 in
theorem ct_X6_planned (l : Launch) (G : Gt) (r0 : Nat) (x1 : Int32) (x2 : Int32) (σ : Sg) : Ct l G yX6_planned MX6_planned rI [.ref (Gb G + r0), .int x1, .int x2] σ (f_X6_planned r0 x1 x2 σ) := by
  refine Ct.of (by decide +kernel) rfl (Nat.le_of_ble_eq_true rfl) ?_
  show Aw l G MX6_planned rI 0 [(0, .ref (Gb G + r0)), (1, .int x1), (2, .int x2)] [] σ _
  unfold f_X6_planned
  refine Aw.gd (fun hr0 => ?_)
  refine Aw.aload_n 0 rfl rfl dX6_planned_0 ?_
  refine Aw.iload_n 1 rfl rfl dX6_planned_1 ?_
  refine Aw.callVi (As := [.int x1]) (rest := []) cv_X6_108 (Nat.le_of_ble_eq_true rfl) hr0 (ct_X6_isDancer l G r0 x1 σ) rfl rfl (Nat.le_of_ble_eq_true rfl) (Nat.le_of_ble_eq_true rfl) (Nat.le_of_ble_eq_true rfl) rfl dX6_planned_2 (fun a1 τ2 _ => ?_)
  refine Aw.if_eq (q := 8) (t := 17) rfl (by decide) dX6_planned_5 (fun hc => ?_) (fun hc => ?_)
  · refine Aw.sub (L' := [(0, .ref (Gb G + r0))]) [0] rfl ?_
    exact aw_X6_planned_17 l G _ _
  · refine Aw.iload_n 2 rfl rfl dX6_planned_8 ?_
    refine Aw.iconst (v := 0) ic_0 rfl dX6_planned_9 ?_
    refine Aw.iconst (v := 1) ic_1 rfl dX6_planned_10 ?_
    refine Aw.callSi (As := [.int x2, .int 0, .int 1]) (rest := []) cs_X6_48 (ct_X6_isIn l G x2 0 1 τ2) rfl rfl (Nat.le_of_ble_eq_true rfl) (Nat.le_of_ble_eq_true rfl) (Nat.le_of_ble_eq_true rfl) rfl dX6_planned_11 (fun a3 τ4 _ => ?_)
    refine Aw.if_ne (q := 17) (t := 24) rfl (by decide) dX6_planned_14 (fun hc => ?_) (fun hc => ?_)
    · refine Aw.sub (L' := [(0, .ref (Gb G + r0))]) [0] rfl ?_
      exact aw_X6_planned_17 l G _ _
    · refine Aw.aload_n 0 rfl rfl dX6_planned_24 ?_
      refine Aw.callVi (As := []) (rest := []) cv_X6_154 (Nat.le_of_ble_eq_true rfl) hr0 (ct_X6_walks l G r0 τ4) rfl rfl (Nat.le_of_ble_eq_true rfl) (Nat.le_of_ble_eq_true rfl) (Nat.le_of_ble_eq_true rfl) rfl dX6_planned_25 (fun a5 τ6 _ => ?_)
      refine Aw.pop rfl dX6_planned_28 ?_
      refine Aw.aload_n 0 rfl rfl dX6_planned_29 ?_
      refine Aw.getR fl_X6_7 (Nat.le_of_ble_eq_true rfl) rfl hr0 rfl dX6_planned_30 ?_
      refine Aw.iconst (v := 4) ic_4 rfl dX6_planned_33 ?_
      refine Aw.iconst (v := 4) ic_4 rfl dX6_planned_34 ?_
      refine Aw.iload_n 1 rfl rfl dX6_planned_35 ?_
      refine Aw.imul rfl dX6_planned_36 ?_
      refine Aw.iadd rfl dX6_planned_37 ?_
      refine Aw.iload_n 2 rfl rfl dX6_planned_38 ?_
      refine Aw.iadd rfl dX6_planned_39 ?_
      refine Aw.iald (n := 336) (ft_6_0 hr0).1 (ft_6_0 hr0).2 rfl dX6_planned_40 (fun hb7 => ?_)
      refine Aw.bi (fun b8 => ?_)
      refine Aw.istore_n (L' := [(3, .int b8), (0, .ref (Gb G + r0)), (1, .int x1), (2, .int x2)]) (Nat.le_of_ble_eq_true rfl) rfl rfl dX6_planned_41 ?_
      refine Aw.aload_n 1 rfl rfl dX6_planned_42 ?_
      refine Aw.iconst (v := 5) ic_5 rfl dX6_planned_43 ?_
      refine Aw.callVv (As := [.int 5]) (rest := []) cv_X6_142 (Nat.le_of_ble_eq_true rfl) hr0 (ct_X6_returns l G r0 5 τ6) rfl rfl (Nat.le_of_ble_eq_true rfl) (Nat.le_of_ble_eq_true rfl) (Nat.le_of_ble_eq_true rfl) rfl dX6_planned_44 (fun a9 τ10 _ => ?_)
      refine Aw.iload_n 0 rfl rfl dX6_planned_47 ?_
      exact Aw.iret rfl dX6_planned_48
abbrev MX6_number : Mt := (RX6, cX6_number, 4, (some .int), 4)
def f_X6_number_44  (r0 : Nat) (x1 : Int32) (σ : Sg) : Option (Int32 × Sg) := if kd r0 = 6 then (if inb x1 336 then (some (σ (rf r0 0) (ix x1), σ)) else none) else none
def f_X6_number_91 (rc65 : Nat → Int32 → Int32 → Sg → Option (Int32 × Sg)) (r0 : Nat) (x3 : Int32) (s0 : Int32) (s1 : Int32) (σ : Sg) : Option (Int32 × Sg) := if kd r0 = 6 then (bn (s0 ||| s1) (fun b1 => rc65 r0 b1 (x3 + 1) σ)) else none
def f_X6_number_65  : Nat → Nat → Int32 → Int32 → Sg → Option (Int32 × Sg)
  | 0, _, _, _, _ => none
  | n + 1, r0, x2, x3, σ => if kd r0 = 6 then (if inb 1 336 then (if σ (rf r0 0) (ix 1) ≤ x3 then (some (x2, σ)) else (cb (f_X6_fits r0 x3 σ) (fun a2 τ3 => if a2 = 0 then (f_X6_number_91 (f_X6_number_65 n) r0 x3 x2 0 τ3) else (f_X6_number_91 (f_X6_number_65 n) r0 x3 x2 (1 <<< (x3 &&& 31)) τ3)))) else none) else none
def f_X6_number (r0 : Nat) (x1 : Int32) (σ : Sg) : Option (Int32 × Sg) := if kd r0 = 6 then (if x1 = 0 then (f_X6_number_44 r0 x1 σ) else if x1 = 1 then (f_X6_number_44 r0 x1 σ) else if x1 = 2 then (cb (f_X6_atHome r0 σ) (fun a1 τ2 => some (a1, τ2))) else if x1 = 3 then (cb (f_X6_pairs r0 σ) (fun a3 τ4 => some (a3, τ4))) else if x1 = 4 then (f_X6_number_65 FU r0 0 0 σ) else if x1 = 5 then (if inb 2 336 then (some (σ (rf r0 0) (ix 2), σ)) else none) else if x1 = 6 then (if inb 3 336 then (some (σ (rf r0 0) (ix 3), σ)) else none) else (some ((-2), σ))) else none
set_option maxRecDepth 100000 in
set_option maxHeartbeats 4000000 in
theorem aw_X6_number_44 (l : Launch) (G : Gt) (r0 : Nat) (x1 : Int32) (σ : Sg) : Aw l G MX6_number rI 44 [(0, .ref (Gb G + r0)), (1, .int x1)] [] σ (f_X6_number_44 r0 x1 σ) := by
  unfold f_X6_number_44
  refine Aw.gd (fun hr0 => ?_)
  refine Aw.aload_n 0 rfl rfl dX6_number_44 ?_
  refine Aw.getR fl_X6_7 (Nat.le_of_ble_eq_true rfl) rfl hr0 rfl dX6_number_45 ?_
  refine Aw.iload_n 1 rfl rfl dX6_number_48 ?_
  refine Aw.iald (n := 336) (ft_6_0 hr0).1 (ft_6_0 hr0).2 rfl dX6_number_49 (fun hb1 => ?_)
  exact Aw.iret rfl dX6_number_50
set_option maxRecDepth 100000 in
set_option maxHeartbeats 4000000 in
theorem aw_X6_number_91 (l : Launch) (G : Gt) (rc65 : Nat → Int32 → Int32 → Sg → Option (Int32 × Sg)) (hrc65 : ∀ (r0 : Nat) (x2 : Int32) (x3 : Int32) (σ : Sg), Aw l G MX6_number rI 65 [(0, .ref (Gb G + r0)), (2, .int x2), (3, .int x3)] [] σ (rc65 r0 x2 x3 σ)) (r0 : Nat) (x3 : Int32) (s0 : Int32) (s1 : Int32) (σ : Sg) : Aw l G MX6_number rI 91 [(0, .ref (Gb G + r0)), (3, .int x3)] [.int s1, .int s0] σ (f_X6_number_91 rc65 r0 x3 s0 s1 σ) := by
  unfold f_X6_number_91
  refine Aw.gd (fun hr0 => ?_)
  refine Aw.ior rfl dX6_number_91 ?_
  refine Aw.bi (fun b1 => ?_)
  refine Aw.istore_n (L' := [(2, .int b1), (0, .ref (Gb G + r0)), (3, .int x3)]) (Nat.le_of_ble_eq_true rfl) rfl rfl dX6_number_92 ?_
  refine Aw.iinc (v := x3 + 1) (L' := [(3, .int (x3 + 1)), (2, .int b1), (0, .ref (Gb G + r0))]) 2 rfl (ii_1 _) (Nat.le_of_ble_eq_true rfl) rfl rfl dX6_number_93 ?_
  refine Aw.goto (q := 65) (by decide) dX6_number_96 ?_
  refine Aw.sub (L' := [(0, .ref (Gb G + r0)), (2, .int b1), (3, .int (x3 + 1))]) [2, 1, 0] rfl ?_
  exact hrc65 _ _ _ _
set_option maxRecDepth 100000 in
set_option maxHeartbeats 4000000 in
theorem aw_X6_number_65 (l : Launch) (G : Gt) : ∀ (n : Nat) (r0 : Nat) (x2 : Int32) (x3 : Int32) (σ : Sg), Aw l G MX6_number rI 65 [(0, .ref (Gb G + r0)), (2, .int x2), (3, .int x3)] [] σ (f_X6_number_65 n r0 x2 x3 σ) := by
  intro n
  induction n with
  | zero => intro r0 x2 x3 σ; exact Aw.no
  | succ n ih =>
    intro r0 x2 x3 σ
    rw [f_X6_number_65]
    refine Aw.gd (fun hr0 => ?_)
    refine Aw.iload_n 2 rfl rfl dX6_number_65 ?_
    refine Aw.aload_n 0 rfl rfl dX6_number_66 ?_
    refine Aw.getR fl_X6_7 (Nat.le_of_ble_eq_true rfl) rfl hr0 rfl dX6_number_67 ?_
    refine Aw.iconst (v := 1) ic_1 rfl dX6_number_70 ?_
    refine Aw.iald (n := 336) (ft_6_0 hr0).1 (ft_6_0 hr0).2 rfl dX6_number_71 (fun hb1 => ?_)
    refine Aw.icmp_ge (q := 75) (t := 99) rfl (by decide) dX6_number_72 (fun hc => ?_) (fun hc => ?_)
    · refine Aw.iload_n 1 rfl rfl dX6_number_99 ?_
      exact Aw.iret rfl dX6_number_100
    · refine Aw.iload_n 1 rfl rfl dX6_number_75 ?_
      refine Aw.aload_n 0 rfl rfl dX6_number_76 ?_
      refine Aw.iload_n 2 rfl rfl dX6_number_77 ?_
      refine Aw.callVi (As := [.int x3]) (rest := [.int x2]) cv_X6_66 (Nat.le_of_ble_eq_true rfl) hr0 (ct_X6_fits l G r0 x3 σ) rfl rfl (Nat.le_of_ble_eq_true rfl) (Nat.le_of_ble_eq_true rfl) (Nat.le_of_ble_eq_true rfl) rfl dX6_number_78 (fun a2 τ3 _ => ?_)
      refine Aw.if_eq (q := 84) (t := 90) rfl (by decide) dX6_number_81 (fun hc => ?_) (fun hc => ?_)
      · refine Aw.iconst (v := 0) ic_0 rfl dX6_number_90 ?_
        refine Aw.sub (L' := [(0, .ref (Gb G + r0)), (3, .int x3)]) [0, 2] rfl ?_
        exact aw_X6_number_91 l G _ ih _ _ _ _ _
      · refine Aw.iconst (v := 1) ic_1 rfl dX6_number_84 ?_
        refine Aw.iload_n 2 rfl rfl dX6_number_85 ?_
        refine Aw.ishl rfl dX6_number_86 ?_
        refine Aw.goto (q := 91) (by decide) dX6_number_87 ?_
        refine Aw.sub (L' := [(0, .ref (Gb G + r0)), (3, .int x3)]) [0, 2] rfl ?_
        exact aw_X6_number_91 l G _ ih _ _ _ _ _
set_option maxRecDepth 100000 in
set_option maxHeartbeats 4000000 in
theorem ct_X6_number (l : Launch) (G : Gt) (r0 : Nat) (x1 : Int32) (σ : Sg) : Ct l G yX6_number MX6_number rI [.ref (Gb G + r0), .int x1] σ (f_X6_number r0 x1 σ) := by
  refine Ct.of (by decide +kernel) rfl (Nat.le_of_ble_eq_true rfl) ?_
  show Aw l G MX6_number rI 0 [(0, .ref (Gb G + r0)), (1, .int x1)] [] σ _
  unfold f_X6_number
  refine Aw.gd (fun hr0 => ?_)
  refine Aw.iload_n 1 rfl rfl dX6_number_0 ?_
  refine Aw.br (fun hc0 => ?_) (fun hc0 => ?_)
  · refine Aw.tsIn (off := 43) (t := 44) dX6_number_1 0 hc0 (by decide) (by decide) (by decide +kernel) (by decide) ?_
    refine Aw.sub (L' := [(0, .ref (Gb G + r0)), (1, .int x1)]) [0, 1] rfl ?_
    exact aw_X6_number_44 l G _ _ _
  refine Aw.br (fun hc1 => ?_) (fun hc1 => ?_)
  · refine Aw.tsIn (off := 43) (t := 44) dX6_number_1 1 hc1 (by decide) (by decide) (by decide +kernel) (by decide) ?_
    refine Aw.sub (L' := [(0, .ref (Gb G + r0)), (1, .int x1)]) [0, 1] rfl ?_
    exact aw_X6_number_44 l G _ _ _
  refine Aw.br (fun hc2 => ?_) (fun hc2 => ?_)
  · refine Aw.tsIn (off := 50) (t := 51) dX6_number_1 2 hc2 (by decide) (by decide) (by decide +kernel) (by decide) ?_
    refine Aw.aload_n 0 rfl rfl dX6_number_51 ?_
    refine Aw.callVi (As := []) (rest := []) cv_X6_93 (Nat.le_of_ble_eq_true rfl) hr0 (ct_X6_atHome l G r0 σ) rfl rfl (Nat.le_of_ble_eq_true rfl) (Nat.le_of_ble_eq_true rfl) (Nat.le_of_ble_eq_true rfl) rfl dX6_number_52 (fun a1 τ2 _ => ?_)
    exact Aw.iret rfl dX6_number_55
  refine Aw.br (fun hc3 => ?_) (fun hc3 => ?_)
  · refine Aw.tsIn (off := 55) (t := 56) dX6_number_1 3 hc3 (by decide) (by decide) (by decide +kernel) (by decide) ?_
    refine Aw.aload_n 0 rfl rfl dX6_number_56 ?_
    refine Aw.callVi (As := []) (rest := []) cv_X6_132 (Nat.le_of_ble_eq_true rfl) hr0 (ct_X6_pairs l G r0 σ) rfl rfl (Nat.le_of_ble_eq_true rfl) (Nat.le_of_ble_eq_true rfl) (Nat.le_of_ble_eq_true rfl) rfl dX6_number_57 (fun a3 τ4 _ => ?_)
    exact Aw.iret rfl dX6_number_60
  refine Aw.br (fun hc4 => ?_) (fun hc4 => ?_)
  · refine Aw.tsIn (off := 60) (t := 61) dX6_number_1 4 hc4 (by decide) (by decide) (by decide +kernel) (by decide) ?_
    refine Aw.iconst (v := 0) ic_0 rfl dX6_number_61 ?_
    refine Aw.istore_n (L' := [(2, .int 0), (0, .ref (Gb G + r0)), (1, .int x1)]) (Nat.le_of_ble_eq_true rfl) rfl rfl dX6_number_62 ?_
    refine Aw.iconst (v := 0) ic_0 rfl dX6_number_63 ?_
    refine Aw.istore_n (L' := [(3, .int 0), (2, .int 0), (0, .ref (Gb G + r0)), (1, .int x1)]) (Nat.le_of_ble_eq_true rfl) rfl rfl dX6_number_64 ?_
    refine Aw.sub (L' := [(0, .ref (Gb G + r0)), (2, .int 0), (3, .int 0)]) [2, 1, 0] rfl ?_
    exact aw_X6_number_65 l G FU _ _ _ _
  refine Aw.br (fun hc5 => ?_) (fun hc5 => ?_)
  · refine Aw.tsIn (off := 100) (t := 101) dX6_number_1 5 hc5 (by decide) (by decide) (by decide +kernel) (by decide) ?_
    refine Aw.aload_n 0 rfl rfl dX6_number_101 ?_
    refine Aw.getR fl_X6_7 (Nat.le_of_ble_eq_true rfl) rfl hr0 rfl dX6_number_102 ?_
    refine Aw.iconst (v := 2) ic_2 rfl dX6_number_105 ?_
    refine Aw.iald (n := 336) (ft_6_0 hr0).1 (ft_6_0 hr0).2 rfl dX6_number_106 (fun hb5 => ?_)
    exact Aw.iret rfl dX6_number_107
  refine Aw.br (fun hc6 => ?_) (fun hc6 => ?_)
  · refine Aw.tsIn (off := 107) (t := 108) dX6_number_1 6 hc6 (by decide) (by decide) (by decide +kernel) (by decide) ?_
    refine Aw.aload_n 0 rfl rfl dX6_number_108 ?_
    refine Aw.getR fl_X6_7 (Nat.le_of_ble_eq_true rfl) rfl hr0 rfl dX6_number_109 ?_
    refine Aw.iconst (v := 3) ic_3 rfl dX6_number_112 ?_
    refine Aw.iald (n := 336) (ft_6_0 hr0).1 (ft_6_0 hr0).2 rfl dX6_number_113 (fun hb6 => ?_)
    exact Aw.iret rfl dX6_number_114
  refine Aw.tsOut (t := 115) dX6_number_1 (ts_out (fun k h1 h2 => ?_)) (by decide) ?_
  · rcases (show k = 0 ∨ k = 1 ∨ k = 2 ∨ k = 3 ∨ k = 4 ∨ k = 5 ∨ k = 6 by omega) with rfl | rfl | rfl | rfl | rfl | rfl | rfl
    · exact ts_ne (v := 0) (by decide) hc0
    · exact ts_ne (v := 1) (by decide) hc1
    · exact ts_ne (v := 2) (by decide) hc2
    · exact ts_ne (v := 3) (by decide) hc3
    · exact ts_ne (v := 4) (by decide) hc4
    · exact ts_ne (v := 5) (by decide) hc5
    · exact ts_ne (v := 6) (by decide) hc6
  refine Aw.bipush (v := (-2)) ib_m2 rfl dX6_number_115 ?_
  exact Aw.iret rfl dX6_number_117
abbrev MX6_count : Mt := (RX6, cX6_count, 2, (some .int), 5)
def f_X6_count (r0 : Nat) (x1 : Int32) (σ : Sg) : Option (Int32 × Sg) := if kd r0 = 6 then (cb (f_X6_number r0 x1 σ) (fun a1 τ2 => cb (f_X6_counted r0 a1 τ2) (fun a3 τ4 => some (a3, τ4)))) else none
theorem cv_X6_157 : CV RX6 157 6 yX6_number MX6_number 1 := ⟨_, rfl, rfl, ml_X6_157, ins_X6_number, sel_X6_number, ini_X6, cw_X6_number, ⟨by decide, by decide, by decide +kernel⟩⟩
set_option maxRecDepth 100000 in
set_option maxHeartbeats 4000000 in
theorem ct_X6_count (l : Launch) (G : Gt) (r0 : Nat) (x1 : Int32) (σ : Sg) : Ct l G yX6_count MX6_count rI [.ref (Gb G + r0), .int x1] σ (f_X6_count r0 x1 σ) := by
  refine Ct.of (by decide +kernel) rfl (Nat.le_of_ble_eq_true rfl) ?_
  show Aw l G MX6_count rI 0 [(0, .ref (Gb G + r0)), (1, .int x1)] [] σ _
  unfold f_X6_count
  refine Aw.gd (fun hr0 => ?_)
  refine Aw.aload_n 0 rfl rfl dX6_count_0 ?_
  refine Aw.aload_n 0 rfl rfl dX6_count_1 ?_
  refine Aw.iload_n 1 rfl rfl dX6_count_2 ?_
  refine Aw.callVi (As := [.int x1]) (rest := [.ref (Gb G + r0)]) cv_X6_157 (Nat.le_of_ble_eq_true rfl) hr0 (ct_X6_number l G r0 x1 σ) rfl rfl (Nat.le_of_ble_eq_true rfl) (Nat.le_of_ble_eq_true rfl) (Nat.le_of_ble_eq_true rfl) rfl dX6_count_3 (fun a1 τ2 _ => ?_)
  refine Aw.callVi (As := [.int a1]) (rest := []) cv_X6_114 (Nat.le_of_ble_eq_true rfl) hr0 (ct_X6_counted l G r0 a1 τ2) rfl rfl (Nat.le_of_ble_eq_true rfl) (Nat.le_of_ble_eq_true rfl) (Nat.le_of_ble_eq_true rfl) rfl dX6_count_6 (fun a3 τ4 _ => ?_)
  exact Aw.iret rfl dX6_count_9
abbrev MX6_type : Mt := (RX6, cX6_type, 2, (some .int), 2)
def f_X6_type (r0 : Nat) (x1 : Int32) (σ : Sg) : Option (Int32 × Sg) := if kd r0 = 6 then (cb (f_X6_isIn x1 0 127 σ) (fun a1 τ2 => if a1 = 0 then (cb (f_X6_refused r0 ((-2)) τ2) (fun a8 τ9 => some (a8, τ9))) else (if τ2 r0 5 = 120 then (cb (f_X6_refused r0 ((-4)) τ2) (fun a6 τ7 => some (a6, τ7))) else (if inb (τ2 r0 5) 120 then (bn (up τ2 (rf r0 6) (ix (τ2 r0 5)) x1) (fun τ4 => bn (up τ4 r0 5 ((τ4 r0 5) + 1)) (fun τ5 => some (τ5 r0 5, τ5)))) else none)))) else none
set_option maxRecDepth 100000 in
set_option maxHeartbeats 4000000 in
theorem ct_X6_type (l : Launch) (G : Gt) (r0 : Nat) (x1 : Int32) (σ : Sg) : Ct l G yX6_type MX6_type rI [.ref (Gb G + r0), .int x1] σ (f_X6_type r0 x1 σ) := by
  refine Ct.of (by decide +kernel) rfl (Nat.le_of_ble_eq_true rfl) ?_
  show Aw l G MX6_type rI 0 [(0, .ref (Gb G + r0)), (1, .int x1)] [] σ _
  unfold f_X6_type
  refine Aw.gd (fun hr0 => ?_)
  refine Aw.iload_n 1 rfl rfl dX6_type_0 ?_
  refine Aw.iconst (v := 0) ic_0 rfl dX6_type_1 ?_
  refine Aw.bipush (v := 127) ib_127 rfl dX6_type_2 ?_
  refine Aw.callSi (As := [.int x1, .int 0, .int 127]) (rest := []) cs_X6_48 (ct_X6_isIn l G x1 0 127 σ) rfl rfl (Nat.le_of_ble_eq_true rfl) (Nat.le_of_ble_eq_true rfl) (Nat.le_of_ble_eq_true rfl) rfl dX6_type_4 (fun a1 τ2 _ => ?_)
  refine Aw.if_ne (q := 10) (t := 17) rfl (by decide) dX6_type_7 (fun hc => ?_) (fun hc => ?_)
  · refine Aw.aload_n 0 rfl rfl dX6_type_10 ?_
    refine Aw.bipush (v := (-2)) ib_m2 rfl dX6_type_11 ?_
    refine Aw.callVi (As := [.int ((-2))]) (rest := []) cv_X6_38 (Nat.le_of_ble_eq_true rfl) hr0 (ct_X6_refused l G r0 ((-2)) τ2) rfl rfl (Nat.le_of_ble_eq_true rfl) (Nat.le_of_ble_eq_true rfl) (Nat.le_of_ble_eq_true rfl) rfl dX6_type_13 (fun a8 τ9 _ => ?_)
    exact Aw.iret rfl dX6_type_16
  · refine Aw.aload_n 0 rfl rfl dX6_type_17 ?_
    refine Aw.getI fl_X6_34 (Nat.le_of_ble_eq_true rfl) rfl hr0 rfl dX6_type_18 ?_
    refine Aw.bipush (v := 120) ib_120 rfl dX6_type_21 ?_
    refine Aw.icmp_ne (q := 26) (t := 33) rfl (by decide) dX6_type_23 (fun hc => ?_) (fun hc => ?_)
    · refine Aw.aload_n 0 rfl rfl dX6_type_26 ?_
      refine Aw.bipush (v := (-4)) ib_m4 rfl dX6_type_27 ?_
      refine Aw.callVi (As := [.int ((-4))]) (rest := []) cv_X6_38 (Nat.le_of_ble_eq_true rfl) hr0 (ct_X6_refused l G r0 ((-4)) τ2) rfl rfl (Nat.le_of_ble_eq_true rfl) (Nat.le_of_ble_eq_true rfl) (Nat.le_of_ble_eq_true rfl) rfl dX6_type_29 (fun a6 τ7 _ => ?_)
      exact Aw.iret rfl dX6_type_32
    · refine Aw.aload_n 0 rfl rfl dX6_type_33 ?_
      refine Aw.getR fl_X6_22 (Nat.le_of_ble_eq_true rfl) rfl hr0 rfl dX6_type_34 ?_
      refine Aw.aload_n 0 rfl rfl dX6_type_37 ?_
      refine Aw.getI fl_X6_34 (Nat.le_of_ble_eq_true rfl) rfl hr0 rfl dX6_type_38 ?_
      refine Aw.iload_n 1 rfl rfl dX6_type_41 ?_
      refine Aw.iast (n := 120) (ft_6_6 hr0).1 (ft_6_6 hr0).2 rfl dX6_type_42 (fun hb3 => ?_)
      refine Aw.bs (fun τ4 => ?_)
      refine Aw.aload_n 0 rfl rfl dX6_type_43 ?_
      refine Aw.dupr rfl dX6_type_44 ?_
      refine Aw.getI fl_X6_34 (Nat.le_of_ble_eq_true rfl) rfl hr0 rfl dX6_type_45 ?_
      refine Aw.iconst (v := 1) ic_1 rfl dX6_type_48 ?_
      refine Aw.iadd rfl dX6_type_49 ?_
      refine Aw.putI (v := (τ4 r0 5) + 1) fl_X6_34 fp_6_5 rfl rfl (Nat.le_of_ble_eq_true rfl) rfl hr0 rfl dX6_type_50 ?_
      refine Aw.bs (fun τ5 => ?_)
      refine Aw.aload_n 0 rfl rfl dX6_type_53 ?_
      refine Aw.getI fl_X6_34 (Nat.le_of_ble_eq_true rfl) rfl hr0 rfl dX6_type_54 ?_
      exact Aw.iret rfl dX6_type_57
abbrev MX6_clear : Mt := (RX6, cX6_clear, 2, (some .int), 1)
def f_X6_clear (r0 : Nat) (σ : Sg) : Option (Int32 × Sg) := if kd r0 = 6 then (bn (σ r0 5) (fun b1 => bn (up σ r0 5 0) (fun τ2 => some (b1, τ2)))) else none
set_option maxRecDepth 100000 in
set_option maxHeartbeats 4000000 in
theorem ct_X6_clear (l : Launch) (G : Gt) (r0 : Nat) (σ : Sg) : Ct l G yX6_clear MX6_clear rI [.ref (Gb G + r0)] σ (f_X6_clear r0 σ) := by
  refine Ct.of (by decide +kernel) rfl (Nat.le_of_ble_eq_true rfl) ?_
  show Aw l G MX6_clear rI 0 [(0, .ref (Gb G + r0))] [] σ _
  unfold f_X6_clear
  refine Aw.gd (fun hr0 => ?_)
  refine Aw.aload_n 0 rfl rfl dX6_clear_0 ?_
  refine Aw.getI fl_X6_34 (Nat.le_of_ble_eq_true rfl) rfl hr0 rfl dX6_clear_1 ?_
  refine Aw.bi (fun b1 => ?_)
  refine Aw.istore_n (L' := [(1, .int b1), (0, .ref (Gb G + r0))]) (Nat.le_of_ble_eq_true rfl) rfl rfl dX6_clear_4 ?_
  refine Aw.aload_n 1 rfl rfl dX6_clear_5 ?_
  refine Aw.iconst (v := 0) ic_0 rfl dX6_clear_6 ?_
  refine Aw.putI (v := 0) fl_X6_34 fp_6_5 rfl rfl (Nat.le_of_ble_eq_true rfl) rfl hr0 rfl dX6_clear_7 ?_
  refine Aw.bs (fun τ2 => ?_)
  refine Aw.iload_n 0 rfl rfl dX6_clear_10 ?_
  exact Aw.iret rfl dX6_clear_11
abbrev MX6_byteAt : Mt := (RX6, cX6_byteAt, 2, (some .int), 1)
def f_X6_byteAt (r0 : Nat) (x1 : Int32) (σ : Sg) : Option (Int32 × Sg) := if kd r0 = 6 then (if σ r0 5 ≤ x1 then (some (0, σ)) else (if inb x1 120 then (some (σ (rf r0 6) (ix x1), σ)) else none)) else none
set_option maxRecDepth 100000 in
set_option maxHeartbeats 4000000 in
theorem ct_X6_byteAt (l : Launch) (G : Gt) (r0 : Nat) (x1 : Int32) (σ : Sg) : Ct l G yX6_byteAt MX6_byteAt rI [.ref (Gb G + r0), .int x1] σ (f_X6_byteAt r0 x1 σ) := by
  refine Ct.of (by decide +kernel) rfl (Nat.le_of_ble_eq_true rfl) ?_
  show Aw l G MX6_byteAt rI 0 [(0, .ref (Gb G + r0)), (1, .int x1)] [] σ _
  unfold f_X6_byteAt
  refine Aw.gd (fun hr0 => ?_)
  refine Aw.iload_n 1 rfl rfl dX6_byteAt_0 ?_
  refine Aw.aload_n 0 rfl rfl dX6_byteAt_1 ?_
  refine Aw.getI fl_X6_34 (Nat.le_of_ble_eq_true rfl) rfl hr0 rfl dX6_byteAt_2 ?_
  refine Aw.icmp_ge (q := 8) (t := 17) rfl (by decide) dX6_byteAt_5 (fun hc => ?_) (fun hc => ?_)
  · refine Aw.iconst (v := 0) ic_0 rfl dX6_byteAt_17 ?_
    exact Aw.iret rfl dX6_byteAt_18
  · refine Aw.aload_n 0 rfl rfl dX6_byteAt_8 ?_
    refine Aw.getR fl_X6_22 (Nat.le_of_ble_eq_true rfl) rfl hr0 rfl dX6_byteAt_9 ?_
    refine Aw.iload_n 1 rfl rfl dX6_byteAt_12 ?_
    refine Aw.iald (n := 120) (ft_6_6 hr0).1 (ft_6_6 hr0).2 rfl dX6_byteAt_13 (fun hb1 => ?_)
    refine Aw.goto (q := 18) (by decide) dX6_byteAt_14 ?_
    exact Aw.iret rfl dX6_byteAt_18
abbrev MX6_isFigure : Mt := (RX6, cX6_isFigure, 1, (some .boolean), 1)
def f_X6_isFigure (x0 : Int32) (σ : Sg) : Option (Int32 × Sg) := if x0 < 48 then (some (0, σ)) else (if 57 < x0 then (some (0, σ)) else (some (1, σ)))
set_option maxRecDepth 100000 in
set_option maxHeartbeats 4000000 in
theorem ct_X6_isFigure (l : Launch) (G : Gt) (x0 : Int32) (σ : Sg) : Ct l G yX6_isFigure MX6_isFigure rI [.int x0] σ (f_X6_isFigure x0 σ) := by
  refine Ct.of (by decide +kernel) rfl (Nat.le_of_ble_eq_true rfl) ?_
  show Aw l G MX6_isFigure rI 0 [(0, .int x0)] [] σ _
  unfold f_X6_isFigure
  refine Aw.iload_n 0 rfl rfl dX6_isFigure_0 ?_
  refine Aw.bipush (v := 48) ib_48 rfl dX6_isFigure_1 ?_
  refine Aw.icmp_lt (q := 6) (t := 16) rfl (by decide) dX6_isFigure_3 (fun hc => ?_) (fun hc => ?_)
  · refine Aw.iconst (v := 0) ic_0 rfl dX6_isFigure_16 ?_
    exact Aw.zret rfl rfl dX6_isFigure_17
  · refine Aw.iload_n 0 rfl rfl dX6_isFigure_6 ?_
    refine Aw.bipush (v := 57) ib_57 rfl dX6_isFigure_7 ?_
    refine Aw.icmp_gt (q := 12) (t := 16) rfl (by decide) dX6_isFigure_9 (fun hc => ?_) (fun hc => ?_)
    · refine Aw.iconst (v := 0) ic_0 rfl dX6_isFigure_16 ?_
      exact Aw.zret rfl rfl dX6_isFigure_17
    · refine Aw.iconst (v := 1) ic_1 rfl dX6_isFigure_12 ?_
      refine Aw.goto (q := 17) (by decide) dX6_isFigure_13 ?_
      exact Aw.zret rfl rfl dX6_isFigure_17
abbrev MX6_blanks : Mt := (RX6, cX6_blanks, 1, none, 2)
def f_X6_blanks_0  : Nat → Nat → Sg → Option (Unit × Sg)
  | 0, _, _ => none
  | n + 1, r0, σ => if kd r0 = 6 then (cb (f_X6_byteAt r0 (σ r0 11) σ) (fun a1 τ2 => if a1 = 32 then (if τ2 r0 5 ≤ τ2 r0 11 then (some ((), τ2)) else (bn (up τ2 r0 11 ((τ2 r0 11) + 1)) (fun τ3 => f_X6_blanks_0 n r0 τ3))) else (some ((), τ2)))) else none
def f_X6_blanks (r0 : Nat) (σ : Sg) : Option (Unit × Sg) := if kd r0 = 6 then (f_X6_blanks_0 FU r0 σ) else none
theorem cv_X6_163 : CV RX6 163 6 yX6_byteAt MX6_byteAt 1 := ⟨_, rfl, rfl, ml_X6_163, ins_X6_byteAt, sel_X6_byteAt, ini_X6, cw_X6_byteAt, ⟨by decide, by decide, by decide +kernel⟩⟩
set_option maxRecDepth 100000 in
set_option maxHeartbeats 4000000 in
theorem aw_X6_blanks_0 (l : Launch) (G : Gt) : ∀ (n : Nat) (r0 : Nat) (σ : Sg), Aw l G MX6_blanks rV 0 [(0, .ref (Gb G + r0))] [] σ (f_X6_blanks_0 n r0 σ) := by
  intro n
  induction n with
  | zero => intro r0 σ; exact Aw.no
  | succ n ih =>
    intro r0 σ
    rw [f_X6_blanks_0]
    refine Aw.gd (fun hr0 => ?_)
    refine Aw.aload_n 0 rfl rfl dX6_blanks_0 ?_
    refine Aw.aload_n 0 rfl rfl dX6_blanks_1 ?_
    refine Aw.getI fl_X6_160 (Nat.le_of_ble_eq_true rfl) rfl hr0 rfl dX6_blanks_2 ?_
    refine Aw.callVi (As := [.int (σ r0 11)]) (rest := []) cv_X6_163 (Nat.le_of_ble_eq_true rfl) hr0 (ct_X6_byteAt l G r0 (σ r0 11) σ) rfl rfl (Nat.le_of_ble_eq_true rfl) (Nat.le_of_ble_eq_true rfl) (Nat.le_of_ble_eq_true rfl) rfl dX6_blanks_5 (fun a1 τ2 _ => ?_)
    refine Aw.bipush (v := 32) ib_32 rfl dX6_blanks_8 ?_
    refine Aw.icmp_ne (q := 13) (t := 37) rfl (by decide) dX6_blanks_10 (fun hc => ?_) (fun hc => ?_)
    · refine Aw.aload_n 0 rfl rfl dX6_blanks_13 ?_
      refine Aw.getI fl_X6_160 (Nat.le_of_ble_eq_true rfl) rfl hr0 rfl dX6_blanks_14 ?_
      refine Aw.aload_n 0 rfl rfl dX6_blanks_17 ?_
      refine Aw.getI fl_X6_34 (Nat.le_of_ble_eq_true rfl) rfl hr0 rfl dX6_blanks_18 ?_
      refine Aw.icmp_ge (q := 24) (t := 37) rfl (by decide) dX6_blanks_21 (fun hc => ?_) (fun hc => ?_)
      · exact Aw.vret rfl dX6_blanks_37
      · refine Aw.aload_n 0 rfl rfl dX6_blanks_24 ?_
        refine Aw.dupr rfl dX6_blanks_25 ?_
        refine Aw.getI fl_X6_160 (Nat.le_of_ble_eq_true rfl) rfl hr0 rfl dX6_blanks_26 ?_
        refine Aw.iconst (v := 1) ic_1 rfl dX6_blanks_29 ?_
        refine Aw.iadd rfl dX6_blanks_30 ?_
        refine Aw.putI (v := (τ2 r0 11) + 1) fl_X6_160 fp_6_11 rfl rfl (Nat.le_of_ble_eq_true rfl) rfl hr0 rfl dX6_blanks_31 ?_
        refine Aw.bs (fun τ3 => ?_)
        refine Aw.goto (q := 0) (by decide) dX6_blanks_34 ?_
        refine Aw.sub (L' := [(0, .ref (Gb G + r0))]) [0] rfl ?_
        exact ih _ _
    · exact Aw.vret rfl dX6_blanks_37
set_option maxRecDepth 100000 in
set_option maxHeartbeats 4000000 in
theorem ct_X6_blanks (l : Launch) (G : Gt) (r0 : Nat) (σ : Sg) : Ct l G yX6_blanks MX6_blanks rV [.ref (Gb G + r0)] σ (f_X6_blanks r0 σ) := by
  refine Ct.of (by decide +kernel) rfl (Nat.le_of_ble_eq_true rfl) ?_
  show Aw l G MX6_blanks rV 0 [(0, .ref (Gb G + r0))] [] σ _
  unfold f_X6_blanks
  refine Aw.gd (fun hr0 => ?_)
  refine Aw.sub (L' := [(0, .ref (Gb G + r0))]) [0] rfl ?_
  exact aw_X6_blanks_0 l G FU _ _
abbrev MX6_fails : Mt := (RX6, cX6_fails, 2, (some .boolean), 1)
def f_X6_fails (r0 : Nat) (x1 : Int32) (σ : Sg) : Option (Int32 × Sg) := if kd r0 = 6 then (bn (up σ r0 12 x1) (fun τ1 => some (0, τ1))) else none
set_option maxRecDepth 100000 in
set_option maxHeartbeats 4000000 in
theorem ct_X6_fails (l : Launch) (G : Gt) (r0 : Nat) (x1 : Int32) (σ : Sg) : Ct l G yX6_fails MX6_fails rI [.ref (Gb G + r0), .int x1] σ (f_X6_fails r0 x1 σ) := by
  refine Ct.of (by decide +kernel) rfl (Nat.le_of_ble_eq_true rfl) ?_
  show Aw l G MX6_fails rI 0 [(0, .ref (Gb G + r0)), (1, .int x1)] [] σ _
  unfold f_X6_fails
  refine Aw.gd (fun hr0 => ?_)
  refine Aw.aload_n 0 rfl rfl dX6_fails_0 ?_
  refine Aw.iload_n 1 rfl rfl dX6_fails_1 ?_
  refine Aw.putI (v := x1) fl_X6_166 fp_6_12 rfl rfl (Nat.le_of_ble_eq_true rfl) rfl hr0 rfl dX6_fails_2 ?_
  refine Aw.bs (fun τ1 => ?_)
  refine Aw.iconst (v := 0) ic_0 rfl dX6_fails_5 ?_
  exact Aw.zret rfl rfl dX6_fails_6
abbrev MX6_readsNumber : Mt := (RX6, cX6_readsNumber, 3, (some .boolean), 3)
def f_X6_readsNumber_142  (σ : Sg) : Option (Int32 × Sg) := some (1, σ)
def f_X6_readsNumber_126  (r0 : Nat) (s0 : Int32) (σ : Sg) : Option (Int32 × Sg) := if kd r0 = 6 then (if s0 = 0 then (cb (f_X6_fails r0 (σ r0 11) σ) (fun a1 τ2 => if a1 = 0 then (some (0, τ2)) else (f_X6_readsNumber_142 τ2))) else (f_X6_readsNumber_142 σ)) else none
def f_X6_readsNumber_121  (r0 : Nat) (σ : Sg) : Option (Int32 × Sg) := if kd r0 = 6 then (f_X6_readsNumber_126 r0 1 σ) else none
def f_X6_readsNumber_125  (r0 : Nat) (σ : Sg) : Option (Int32 × Sg) := if kd r0 = 6 then (f_X6_readsNumber_126 r0 0 σ) else none
def f_X6_readsNumber_87  (r0 : Nat) (x1 : Int32) (σ : Sg) : Option (Int32 × Sg) := if kd r0 = 6 then (if σ r0 11 ≤ x1 then (f_X6_readsNumber_125 r0 σ) else (if σ r0 11 = σ r0 5 then (f_X6_readsNumber_121 r0 σ) else (if inb (σ r0 11) 120 then (cb (f_X6_isFigure (σ (rf r0 6) (ix (σ r0 11))) σ) (fun a2 τ3 => if a2 = 0 then (f_X6_readsNumber_121 r0 τ3) else (f_X6_readsNumber_125 r0 τ3))) else none))) else none
def f_X6_readsNumber_14  : Nat → Nat → Int32 → Sg → Option (Int32 × Sg)
  | 0, _, _, _ => none
  | n + 1, r0, x1, σ => if kd r0 = 6 then (if σ r0 5 ≤ σ r0 11 then (f_X6_readsNumber_87 r0 x1 σ) else (if inb (σ r0 11) 120 then (cb (f_X6_isFigure (σ (rf r0 6) (ix (σ r0 11))) σ) (fun a2 τ3 => if a2 = 0 then (f_X6_readsNumber_87 r0 x1 τ3) else (if x1 + 2 ≤ τ3 r0 11 then (f_X6_readsNumber_87 r0 x1 τ3) else (if inb (τ3 r0 11) 120 then (bn (up τ3 r0 13 (((10 * (τ3 r0 13)) + (τ3 (rf r0 6) (ix (τ3 r0 11)))) - 48)) (fun τ5 => bn (up τ5 r0 11 ((τ5 r0 11) + 1)) (fun τ6 => f_X6_readsNumber_14 n r0 x1 τ6))) else none)))) else none)) else none
def f_X6_readsNumber (r0 : Nat) (σ : Sg) : Option (Int32 × Sg) := if kd r0 = 6 then (cb (f_X6_blanks r0 σ) (fun _ τ2 => bn (τ2 r0 11) (fun b3 => bn (up τ2 r0 13 0) (fun τ4 => f_X6_readsNumber_14 FU r0 b3 τ4)))) else none
theorem cv_X6_169 : CV RX6 169 6 yX6_blanks MX6_blanks 0 := ⟨_, rfl, rfl, ml_X6_169, ins_X6_blanks, sel_X6_blanks, ini_X6, cw_X6_blanks, ⟨by decide, by decide, by decide +kernel⟩⟩
theorem cs_X6_175 : CS RX6 175 yX6_isFigure MX6_isFigure 1 := ⟨ml_X6_175, sta_X6_isFigure, ini_X6, cw_X6_isFigure, ⟨by decide, by decide, by decide +kernel⟩⟩
theorem cv_X6_178 : CV RX6 178 6 yX6_fails MX6_fails 1 := ⟨_, rfl, rfl, ml_X6_178, ins_X6_fails, sel_X6_fails, ini_X6, cw_X6_fails, ⟨by decide, by decide, by decide +kernel⟩⟩
set_option maxRecDepth 100000 in
set_option maxHeartbeats 4000000 in
theorem aw_X6_readsNumber_142 (l : Launch) (G : Gt) (σ : Sg) : Aw l G MX6_readsNumber rI 142 [] [] σ (f_X6_readsNumber_142 σ) := by
  unfold f_X6_readsNumber_142
  refine Aw.iconst (v := 1) ic_1 rfl dX6_readsNumber_142 ?_
  refine Aw.goto (q := 147) (by decide) dX6_readsNumber_143 ?_
  exact Aw.zret rfl rfl dX6_readsNumber_147
set_option maxRecDepth 100000 in
set_option maxHeartbeats 4000000 in
theorem aw_X6_readsNumber_126 (l : Launch) (G : Gt) (r0 : Nat) (s0 : Int32) (σ : Sg) : Aw l G MX6_readsNumber rI 126 [(0, .ref (Gb G + r0))] [.int s0] σ (f_X6_readsNumber_126 r0 s0 σ) := by
  unfold f_X6_readsNumber_126
  refine Aw.gd (fun hr0 => ?_)
  refine Aw.istore_n (L' := [(2, .int s0), (0, .ref (Gb G + r0))]) (Nat.le_of_ble_eq_true rfl) rfl rfl dX6_readsNumber_126 ?_
  refine Aw.iload_n 0 rfl rfl dX6_readsNumber_127 ?_
  refine Aw.if_ne (q := 131) (t := 142) rfl (by decide) dX6_readsNumber_128 (fun hc => ?_) (fun hc => ?_)
  · refine Aw.aload_n 1 rfl rfl dX6_readsNumber_131 ?_
    refine Aw.aload_n 1 rfl rfl dX6_readsNumber_132 ?_
    refine Aw.getI fl_X6_160 (Nat.le_of_ble_eq_true rfl) rfl hr0 rfl dX6_readsNumber_133 ?_
    refine Aw.callVi (As := [.int (σ r0 11)]) (rest := []) cv_X6_178 (Nat.le_of_ble_eq_true rfl) hr0 (ct_X6_fails l G r0 (σ r0 11) σ) rfl rfl (Nat.le_of_ble_eq_true rfl) (Nat.le_of_ble_eq_true rfl) (Nat.le_of_ble_eq_true rfl) rfl dX6_readsNumber_136 (fun a1 τ2 _ => ?_)
    refine Aw.if_eq (q := 142) (t := 146) rfl (by decide) dX6_readsNumber_139 (fun hc => ?_) (fun hc => ?_)
    · refine Aw.iconst (v := 0) ic_0 rfl dX6_readsNumber_146 ?_
      exact Aw.zret rfl rfl dX6_readsNumber_147
    · refine Aw.sub (L' := []) [] rfl ?_
      exact aw_X6_readsNumber_142 l G _
  · refine Aw.sub (L' := []) [] rfl ?_
    exact aw_X6_readsNumber_142 l G _
set_option maxRecDepth 100000 in
set_option maxHeartbeats 4000000 in
theorem aw_X6_readsNumber_121 (l : Launch) (G : Gt) (r0 : Nat) (σ : Sg) : Aw l G MX6_readsNumber rI 121 [(0, .ref (Gb G + r0))] [] σ (f_X6_readsNumber_121 r0 σ) := by
  unfold f_X6_readsNumber_121
  refine Aw.gd (fun hr0 => ?_)
  refine Aw.iconst (v := 1) ic_1 rfl dX6_readsNumber_121 ?_
  refine Aw.goto (q := 126) (by decide) dX6_readsNumber_122 ?_
  refine Aw.sub (L' := [(0, .ref (Gb G + r0))]) [0] rfl ?_
  exact aw_X6_readsNumber_126 l G _ _ _
set_option maxRecDepth 100000 in
set_option maxHeartbeats 4000000 in
theorem aw_X6_readsNumber_125 (l : Launch) (G : Gt) (r0 : Nat) (σ : Sg) : Aw l G MX6_readsNumber rI 125 [(0, .ref (Gb G + r0))] [] σ (f_X6_readsNumber_125 r0 σ) := by
  unfold f_X6_readsNumber_125
  refine Aw.gd (fun hr0 => ?_)
  refine Aw.iconst (v := 0) ic_0 rfl dX6_readsNumber_125 ?_
  refine Aw.sub (L' := [(0, .ref (Gb G + r0))]) [0] rfl ?_
  exact aw_X6_readsNumber_126 l G _ _ _
set_option maxRecDepth 100000 in
set_option maxHeartbeats 4000000 in
theorem aw_X6_readsNumber_87 (l : Launch) (G : Gt) (r0 : Nat) (x1 : Int32) (σ : Sg) : Aw l G MX6_readsNumber rI 87 [(0, .ref (Gb G + r0)), (1, .int x1)] [] σ (f_X6_readsNumber_87 r0 x1 σ) := by
  unfold f_X6_readsNumber_87
  refine Aw.gd (fun hr0 => ?_)
  refine Aw.aload_n 0 rfl rfl dX6_readsNumber_87 ?_
  refine Aw.getI fl_X6_160 (Nat.le_of_ble_eq_true rfl) rfl hr0 rfl dX6_readsNumber_88 ?_
  refine Aw.iload_n 1 rfl rfl dX6_readsNumber_91 ?_
  refine Aw.icmp_le (q := 95) (t := 125) rfl (by decide) dX6_readsNumber_92 (fun hc => ?_) (fun hc => ?_)
  · refine Aw.sub (L' := [(0, .ref (Gb G + r0))]) [0] rfl ?_
    exact aw_X6_readsNumber_125 l G _ _
  · refine Aw.aload_n 0 rfl rfl dX6_readsNumber_95 ?_
    refine Aw.getI fl_X6_160 (Nat.le_of_ble_eq_true rfl) rfl hr0 rfl dX6_readsNumber_96 ?_
    refine Aw.aload_n 0 rfl rfl dX6_readsNumber_99 ?_
    refine Aw.getI fl_X6_34 (Nat.le_of_ble_eq_true rfl) rfl hr0 rfl dX6_readsNumber_100 ?_
    refine Aw.icmp_eq (q := 106) (t := 121) rfl (by decide) dX6_readsNumber_103 (fun hc => ?_) (fun hc => ?_)
    · refine Aw.sub (L' := [(0, .ref (Gb G + r0))]) [0] rfl ?_
      exact aw_X6_readsNumber_121 l G _ _
    · refine Aw.aload_n 0 rfl rfl dX6_readsNumber_106 ?_
      refine Aw.getR fl_X6_22 (Nat.le_of_ble_eq_true rfl) rfl hr0 rfl dX6_readsNumber_107 ?_
      refine Aw.aload_n 0 rfl rfl dX6_readsNumber_110 ?_
      refine Aw.getI fl_X6_160 (Nat.le_of_ble_eq_true rfl) rfl hr0 rfl dX6_readsNumber_111 ?_
      refine Aw.iald (n := 120) (ft_6_6 hr0).1 (ft_6_6 hr0).2 rfl dX6_readsNumber_114 (fun hb1 => ?_)
      refine Aw.callSi (As := [.int (σ (rf r0 6) (ix (σ r0 11)))]) (rest := []) cs_X6_175 (ct_X6_isFigure l G (σ (rf r0 6) (ix (σ r0 11))) σ) rfl rfl (Nat.le_of_ble_eq_true rfl) (Nat.le_of_ble_eq_true rfl) (Nat.le_of_ble_eq_true rfl) rfl dX6_readsNumber_115 (fun a2 τ3 _ => ?_)
      refine Aw.if_ne (q := 121) (t := 125) rfl (by decide) dX6_readsNumber_118 (fun hc => ?_) (fun hc => ?_)
      · refine Aw.sub (L' := [(0, .ref (Gb G + r0))]) [0] rfl ?_
        exact aw_X6_readsNumber_121 l G _ _
      · refine Aw.sub (L' := [(0, .ref (Gb G + r0))]) [0] rfl ?_
        exact aw_X6_readsNumber_125 l G _ _
set_option maxRecDepth 100000 in
set_option maxHeartbeats 4000000 in
theorem aw_X6_readsNumber_14 (l : Launch) (G : Gt) : ∀ (n : Nat) (r0 : Nat) (x1 : Int32) (σ : Sg), Aw l G MX6_readsNumber rI 14 [(0, .ref (Gb G + r0)), (1, .int x1)] [] σ (f_X6_readsNumber_14 n r0 x1 σ) := by
  intro n
  induction n with
  | zero => intro r0 x1 σ; exact Aw.no
  | succ n ih =>
    intro r0 x1 σ
    rw [f_X6_readsNumber_14]
    refine Aw.gd (fun hr0 => ?_)
    refine Aw.aload_n 0 rfl rfl dX6_readsNumber_14 ?_
    refine Aw.getI fl_X6_160 (Nat.le_of_ble_eq_true rfl) rfl hr0 rfl dX6_readsNumber_15 ?_
    refine Aw.aload_n 0 rfl rfl dX6_readsNumber_18 ?_
    refine Aw.getI fl_X6_34 (Nat.le_of_ble_eq_true rfl) rfl hr0 rfl dX6_readsNumber_19 ?_
    refine Aw.icmp_ge (q := 25) (t := 87) rfl (by decide) dX6_readsNumber_22 (fun hc => ?_) (fun hc => ?_)
    · refine Aw.sub (L' := [(0, .ref (Gb G + r0)), (1, .int x1)]) [0, 1] rfl ?_
      exact aw_X6_readsNumber_87 l G _ _ _
    · refine Aw.aload_n 0 rfl rfl dX6_readsNumber_25 ?_
      refine Aw.getR fl_X6_22 (Nat.le_of_ble_eq_true rfl) rfl hr0 rfl dX6_readsNumber_26 ?_
      refine Aw.aload_n 0 rfl rfl dX6_readsNumber_29 ?_
      refine Aw.getI fl_X6_160 (Nat.le_of_ble_eq_true rfl) rfl hr0 rfl dX6_readsNumber_30 ?_
      refine Aw.iald (n := 120) (ft_6_6 hr0).1 (ft_6_6 hr0).2 rfl dX6_readsNumber_33 (fun hb1 => ?_)
      refine Aw.callSi (As := [.int (σ (rf r0 6) (ix (σ r0 11)))]) (rest := []) cs_X6_175 (ct_X6_isFigure l G (σ (rf r0 6) (ix (σ r0 11))) σ) rfl rfl (Nat.le_of_ble_eq_true rfl) (Nat.le_of_ble_eq_true rfl) (Nat.le_of_ble_eq_true rfl) rfl dX6_readsNumber_34 (fun a2 τ3 _ => ?_)
      refine Aw.if_eq (q := 40) (t := 87) rfl (by decide) dX6_readsNumber_37 (fun hc => ?_) (fun hc => ?_)
      · refine Aw.sub (L' := [(0, .ref (Gb G + r0)), (1, .int x1)]) [0, 1] rfl ?_
        exact aw_X6_readsNumber_87 l G _ _ _
      · refine Aw.aload_n 0 rfl rfl dX6_readsNumber_40 ?_
        refine Aw.getI fl_X6_160 (Nat.le_of_ble_eq_true rfl) rfl hr0 rfl dX6_readsNumber_41 ?_
        refine Aw.iload_n 1 rfl rfl dX6_readsNumber_44 ?_
        refine Aw.iconst (v := 2) ic_2 rfl dX6_readsNumber_45 ?_
        refine Aw.iadd rfl dX6_readsNumber_46 ?_
        refine Aw.icmp_ge (q := 50) (t := 87) rfl (by decide) dX6_readsNumber_47 (fun hc => ?_) (fun hc => ?_)
        · refine Aw.sub (L' := [(0, .ref (Gb G + r0)), (1, .int x1)]) [0, 1] rfl ?_
          exact aw_X6_readsNumber_87 l G _ _ _
        · refine Aw.aload_n 0 rfl rfl dX6_readsNumber_50 ?_
          refine Aw.bipush (v := 10) ib_10 rfl dX6_readsNumber_51 ?_
          refine Aw.aload_n 0 rfl rfl dX6_readsNumber_53 ?_
          refine Aw.getI fl_X6_172 (Nat.le_of_ble_eq_true rfl) rfl hr0 rfl dX6_readsNumber_54 ?_
          refine Aw.imul rfl dX6_readsNumber_57 ?_
          refine Aw.aload_n 0 rfl rfl dX6_readsNumber_58 ?_
          refine Aw.getR fl_X6_22 (Nat.le_of_ble_eq_true rfl) rfl hr0 rfl dX6_readsNumber_59 ?_
          refine Aw.aload_n 0 rfl rfl dX6_readsNumber_62 ?_
          refine Aw.getI fl_X6_160 (Nat.le_of_ble_eq_true rfl) rfl hr0 rfl dX6_readsNumber_63 ?_
          refine Aw.iald (n := 120) (ft_6_6 hr0).1 (ft_6_6 hr0).2 rfl dX6_readsNumber_66 (fun hb4 => ?_)
          refine Aw.iadd rfl dX6_readsNumber_67 ?_
          refine Aw.bipush (v := 48) ib_48 rfl dX6_readsNumber_68 ?_
          refine Aw.isub rfl dX6_readsNumber_70 ?_
          refine Aw.putI (v := ((10 * (τ3 r0 13)) + (τ3 (rf r0 6) (ix (τ3 r0 11)))) - 48) fl_X6_172 fp_6_13 rfl rfl (Nat.le_of_ble_eq_true rfl) rfl hr0 rfl dX6_readsNumber_71 ?_
          refine Aw.bs (fun τ5 => ?_)
          refine Aw.aload_n 0 rfl rfl dX6_readsNumber_74 ?_
          refine Aw.dupr rfl dX6_readsNumber_75 ?_
          refine Aw.getI fl_X6_160 (Nat.le_of_ble_eq_true rfl) rfl hr0 rfl dX6_readsNumber_76 ?_
          refine Aw.iconst (v := 1) ic_1 rfl dX6_readsNumber_79 ?_
          refine Aw.iadd rfl dX6_readsNumber_80 ?_
          refine Aw.putI (v := (τ5 r0 11) + 1) fl_X6_160 fp_6_11 rfl rfl (Nat.le_of_ble_eq_true rfl) rfl hr0 rfl dX6_readsNumber_81 ?_
          refine Aw.bs (fun τ6 => ?_)
          refine Aw.goto (q := 14) (by decide) dX6_readsNumber_84 ?_
          refine Aw.sub (L' := [(0, .ref (Gb G + r0)), (1, .int x1)]) [0, 1] rfl ?_
          exact ih _ _ _
set_option maxRecDepth 100000 in
set_option maxHeartbeats 4000000 in
theorem ct_X6_readsNumber (l : Launch) (G : Gt) (r0 : Nat) (σ : Sg) : Ct l G yX6_readsNumber MX6_readsNumber rI [.ref (Gb G + r0)] σ (f_X6_readsNumber r0 σ) := by
  refine Ct.of (by decide +kernel) rfl (Nat.le_of_ble_eq_true rfl) ?_
  show Aw l G MX6_readsNumber rI 0 [(0, .ref (Gb G + r0))] [] σ _
  unfold f_X6_readsNumber
  refine Aw.gd (fun hr0 => ?_)
  refine Aw.aload_n 0 rfl rfl dX6_readsNumber_0 ?_
  refine Aw.callVv (As := []) (rest := []) cv_X6_169 (Nat.le_of_ble_eq_true rfl) hr0 (ct_X6_blanks l G r0 σ) rfl rfl (Nat.le_of_ble_eq_true rfl) (Nat.le_of_ble_eq_true rfl) (Nat.le_of_ble_eq_true rfl) rfl dX6_readsNumber_1 (fun a1 τ2 _ => ?_)
  refine Aw.aload_n 0 rfl rfl dX6_readsNumber_4 ?_
  refine Aw.getI fl_X6_160 (Nat.le_of_ble_eq_true rfl) rfl hr0 rfl dX6_readsNumber_5 ?_
  refine Aw.bi (fun b3 => ?_)
  refine Aw.istore_n (L' := [(1, .int b3), (0, .ref (Gb G + r0))]) (Nat.le_of_ble_eq_true rfl) rfl rfl dX6_readsNumber_8 ?_
  refine Aw.aload_n 1 rfl rfl dX6_readsNumber_9 ?_
  refine Aw.iconst (v := 0) ic_0 rfl dX6_readsNumber_10 ?_
  refine Aw.putI (v := 0) fl_X6_172 fp_6_13 rfl rfl (Nat.le_of_ble_eq_true rfl) rfl hr0 rfl dX6_readsNumber_11 ?_
  refine Aw.bs (fun τ4 => ?_)
  refine Aw.sub (L' := [(0, .ref (Gb G + r0)), (1, .int b3)]) [1, 0] rfl ?_
  exact aw_X6_readsNumber_14 l G FU _ _ _
abbrev MX6_readsCycle : Mt := (RX6, cX6_readsCycle, 6, (some .boolean), 4)
def f_X6_readsCycle_75  (r0 : Nat) (x5 : Int32) (σ : Sg) : Option (Int32 × Sg) := if kd r0 = 6 then (cb (f_X6_fails r0 x5 σ) (fun a1 τ2 => if a1 = 0 ∨ a1 = 1 then some (a1, τ2) else none)) else none
def f_X6_readsCycle_112 (rc11 : Nat → Int32 → Int32 → Int32 → Int32 → Sg → Option (Int32 × Sg)) (r0 : Nat) (x1 : Int32) (x4 : Int32) (s0 : Int32) (σ : Sg) : Option (Int32 × Sg) := if kd r0 = 6 then (bn (σ r0 13) (fun b1 => if inb ((x1 + 1) + (σ r0 13)) 1560 then (bn (up σ (rf r0 9) (ix ((x1 + 1) + (σ r0 13))) (σ r0 13)) (fun τ3 => cb (f_X6_blanks r0 τ3) (fun _ τ5 => rc11 r0 x1 s0 b1 (x4 + 1) τ5))) else none)) else none
def f_X6_readsCycle_100 (rc11 : Nat → Int32 → Int32 → Int32 → Int32 → Sg → Option (Int32 × Sg)) (r0 : Nat) (x1 : Int32) (x2 : Int32) (x4 : Int32) (σ : Sg) : Option (Int32 × Sg) := if kd r0 = 6 then (if 0 ≤ x2 then (f_X6_readsCycle_112 rc11 r0 x1 x4 x2 σ) else (f_X6_readsCycle_112 rc11 r0 x1 x4 (σ r0 13) σ)) else none
def f_X6_readsCycle_35 (rc11 : Nat → Int32 → Int32 → Int32 → Int32 → Sg → Option (Int32 × Sg)) (r0 : Nat) (x1 : Int32) (x2 : Int32) (x3 : Int32) (x4 : Int32) (σ : Sg) : Option (Int32 × Sg) := if kd r0 = 6 then (bn (σ r0 11) (fun b1 => cb (f_X6_readsNumber r0 σ) (fun a2 τ3 => if a2 = 0 then (some (0, τ3)) else (if 11 < τ3 r0 13 then (f_X6_readsCycle_75 r0 b1 τ3) else (if inb ((x1 + 1) + (τ3 r0 13)) 1560 then (if τ3 (rf r0 9) (ix ((x1 + 1) + (τ3 r0 13))) < 0 then (if x3 < 0 then (f_X6_readsCycle_100 rc11 r0 x1 x2 x4 τ3) else (if inb ((x1 + 1) + x3) 1560 then (bn (up τ3 (rf r0 9) (ix ((x1 + 1) + x3)) (τ3 r0 13)) (fun τ6 => f_X6_readsCycle_100 rc11 r0 x1 x2 x4 τ6)) else none)) else (f_X6_readsCycle_75 r0 b1 τ3)) else none))))) else none
def f_X6_readsCycle_11  : Nat → Nat → Int32 → Int32 → Int32 → Int32 → Sg → Option (Int32 × Sg)
  | 0, _, _, _, _, _, _ => none
  | n + 1, r0, x1, x2, x3, x4, σ => if kd r0 = 6 then (cb (f_X6_byteAt r0 (σ r0 11) σ) (fun a1 τ2 => if a1 = 41 then (if τ2 r0 11 = τ2 r0 5 then (f_X6_readsCycle_35 (f_X6_readsCycle_11 n) r0 x1 x2 x3 x4 τ2) else (if 2 ≤ x4 then (if inb ((x1 + 1) + x3) 1560 then (bn (up τ2 (rf r0 9) (ix ((x1 + 1) + x3)) x2) (fun τ4 => bn (up τ4 r0 11 ((τ4 r0 11) + 1)) (fun τ5 => some (1, τ5)))) else none) else (cb (f_X6_fails r0 (τ2 r0 11) τ2) (fun a6 τ7 => if a6 = 0 ∨ a6 = 1 then some (a6, τ7) else none)))) else (f_X6_readsCycle_35 (f_X6_readsCycle_11 n) r0 x1 x2 x3 x4 τ2))) else none
def f_X6_readsCycle (r0 : Nat) (x1 : Int32) (σ : Sg) : Option (Int32 × Sg) := if kd r0 = 6 then (cb (f_X6_blanks r0 σ) (fun _ τ2 => f_X6_readsCycle_11 FU r0 x1 ((-1)) ((-1)) 0 τ2)) else none
theorem cv_X6_181 : CV RX6 181 6 yX6_readsNumber MX6_readsNumber 0 := ⟨_, rfl, rfl, ml_X6_181, ins_X6_readsNumber, sel_X6_readsNumber, ini_X6, cw_X6_readsNumber, ⟨by decide, by decide, by decide +kernel⟩⟩
set_option maxRecDepth 100000 in
set_option maxHeartbeats 4000000 in
theorem aw_X6_readsCycle_75 (l : Launch) (G : Gt) (r0 : Nat) (x5 : Int32) (σ : Sg) : Aw l G MX6_readsCycle rI 75 [(0, .ref (Gb G + r0)), (5, .int x5)] [] σ (f_X6_readsCycle_75 r0 x5 σ) := by
  unfold f_X6_readsCycle_75
  refine Aw.gd (fun hr0 => ?_)
  refine Aw.aload_n 0 rfl rfl dX6_readsCycle_75 ?_
  refine Aw.iload 1 rfl rfl dX6_readsCycle_76 ?_
  refine Aw.callVi (As := [.int x5]) (rest := []) cv_X6_178 (Nat.le_of_ble_eq_true rfl) hr0 (ct_X6_fails l G r0 x5 σ) rfl rfl (Nat.le_of_ble_eq_true rfl) (Nat.le_of_ble_eq_true rfl) (Nat.le_of_ble_eq_true rfl) rfl dX6_readsCycle_78 (fun a1 τ2 _ => ?_)
  exact Aw.zretG rfl dX6_readsCycle_81
set_option maxRecDepth 100000 in
set_option maxHeartbeats 4000000 in
theorem aw_X6_readsCycle_112 (l : Launch) (G : Gt) (rc11 : Nat → Int32 → Int32 → Int32 → Int32 → Sg → Option (Int32 × Sg)) (hrc11 : ∀ (r0 : Nat) (x1 : Int32) (x2 : Int32) (x3 : Int32) (x4 : Int32) (σ : Sg), Aw l G MX6_readsCycle rI 11 [(0, .ref (Gb G + r0)), (1, .int x1), (2, .int x2), (3, .int x3), (4, .int x4)] [] σ (rc11 r0 x1 x2 x3 x4 σ)) (r0 : Nat) (x1 : Int32) (x4 : Int32) (s0 : Int32) (σ : Sg) : Aw l G MX6_readsCycle rI 112 [(0, .ref (Gb G + r0)), (1, .int x1), (4, .int x4)] [.int s0] σ (f_X6_readsCycle_112 rc11 r0 x1 x4 s0 σ) := by
  unfold f_X6_readsCycle_112
  refine Aw.gd (fun hr0 => ?_)
  refine Aw.istore_n (L' := [(2, .int s0), (0, .ref (Gb G + r0)), (1, .int x1), (4, .int x4)]) (Nat.le_of_ble_eq_true rfl) rfl rfl dX6_readsCycle_112 ?_
  refine Aw.aload_n 1 rfl rfl dX6_readsCycle_113 ?_
  refine Aw.getI fl_X6_172 (Nat.le_of_ble_eq_true rfl) rfl hr0 rfl dX6_readsCycle_114 ?_
  refine Aw.bi (fun b1 => ?_)
  refine Aw.istore_n (L' := [(3, .int b1), (2, .int s0), (0, .ref (Gb G + r0)), (1, .int x1), (4, .int x4)]) (Nat.le_of_ble_eq_true rfl) rfl rfl dX6_readsCycle_117 ?_
  refine Aw.aload_n 2 rfl rfl dX6_readsCycle_118 ?_
  refine Aw.getR fl_X6_31 (Nat.le_of_ble_eq_true rfl) rfl hr0 rfl dX6_readsCycle_119 ?_
  refine Aw.iload_n 3 rfl rfl dX6_readsCycle_122 ?_
  refine Aw.iconst (v := 1) ic_1 rfl dX6_readsCycle_123 ?_
  refine Aw.iadd rfl dX6_readsCycle_124 ?_
  refine Aw.aload_n 2 rfl rfl dX6_readsCycle_125 ?_
  refine Aw.getI fl_X6_172 (Nat.le_of_ble_eq_true rfl) rfl hr0 rfl dX6_readsCycle_126 ?_
  refine Aw.iadd rfl dX6_readsCycle_129 ?_
  refine Aw.aload_n 2 rfl rfl dX6_readsCycle_130 ?_
  refine Aw.getI fl_X6_172 (Nat.le_of_ble_eq_true rfl) rfl hr0 rfl dX6_readsCycle_131 ?_
  refine Aw.iast (n := 1560) (ft_6_9 hr0).1 (ft_6_9 hr0).2 rfl dX6_readsCycle_134 (fun hb2 => ?_)
  refine Aw.bs (fun τ3 => ?_)
  refine Aw.iinc (v := x4 + 1) (L' := [(4, .int (x4 + 1)), (3, .int b1), (2, .int s0), (0, .ref (Gb G + r0)), (1, .int x1)]) 4 rfl (ii_1 _) (Nat.le_of_ble_eq_true rfl) rfl rfl dX6_readsCycle_135 ?_
  refine Aw.aload_n 3 rfl rfl dX6_readsCycle_138 ?_
  refine Aw.callVv (As := []) (rest := []) cv_X6_169 (Nat.le_of_ble_eq_true rfl) hr0 (ct_X6_blanks l G r0 τ3) rfl rfl (Nat.le_of_ble_eq_true rfl) (Nat.le_of_ble_eq_true rfl) (Nat.le_of_ble_eq_true rfl) rfl dX6_readsCycle_139 (fun a4 τ5 _ => ?_)
  refine Aw.goto (q := 11) (by decide) dX6_readsCycle_142 ?_
  refine Aw.sub (L' := [(0, .ref (Gb G + r0)), (1, .int x1), (2, .int s0), (3, .int b1), (4, .int (x4 + 1))]) [3, 4, 2, 1, 0] rfl ?_
  exact hrc11 _ _ _ _ _ _
set_option maxRecDepth 100000 in
set_option maxHeartbeats 4000000 in
theorem aw_X6_readsCycle_100 (l : Launch) (G : Gt) (rc11 : Nat → Int32 → Int32 → Int32 → Int32 → Sg → Option (Int32 × Sg)) (hrc11 : ∀ (r0 : Nat) (x1 : Int32) (x2 : Int32) (x3 : Int32) (x4 : Int32) (σ : Sg), Aw l G MX6_readsCycle rI 11 [(0, .ref (Gb G + r0)), (1, .int x1), (2, .int x2), (3, .int x3), (4, .int x4)] [] σ (rc11 r0 x1 x2 x3 x4 σ)) (r0 : Nat) (x1 : Int32) (x2 : Int32) (x4 : Int32) (σ : Sg) : Aw l G MX6_readsCycle rI 100 [(0, .ref (Gb G + r0)), (1, .int x1), (2, .int x2), (4, .int x4)] [] σ (f_X6_readsCycle_100 rc11 r0 x1 x2 x4 σ) := by
  unfold f_X6_readsCycle_100
  refine Aw.gd (fun hr0 => ?_)
  refine Aw.iload_n 2 rfl rfl dX6_readsCycle_100 ?_
  refine Aw.if_ge (q := 104) (t := 111) rfl (by decide) dX6_readsCycle_101 (fun hc => ?_) (fun hc => ?_)
  · refine Aw.iload_n 2 rfl rfl dX6_readsCycle_111 ?_
    refine Aw.sub (L' := [(0, .ref (Gb G + r0)), (1, .int x1), (4, .int x4)]) [0, 1, 3] rfl ?_
    exact aw_X6_readsCycle_112 l G _ hrc11 _ _ _ _ _
  · refine Aw.aload_n 0 rfl rfl dX6_readsCycle_104 ?_
    refine Aw.getI fl_X6_172 (Nat.le_of_ble_eq_true rfl) rfl hr0 rfl dX6_readsCycle_105 ?_
    refine Aw.goto (q := 112) (by decide) dX6_readsCycle_108 ?_
    refine Aw.sub (L' := [(0, .ref (Gb G + r0)), (1, .int x1), (4, .int x4)]) [0, 1, 3] rfl ?_
    exact aw_X6_readsCycle_112 l G _ hrc11 _ _ _ _ _
set_option maxRecDepth 100000 in
set_option maxHeartbeats 4000000 in
theorem aw_X6_readsCycle_35 (l : Launch) (G : Gt) (rc11 : Nat → Int32 → Int32 → Int32 → Int32 → Sg → Option (Int32 × Sg)) (hrc11 : ∀ (r0 : Nat) (x1 : Int32) (x2 : Int32) (x3 : Int32) (x4 : Int32) (σ : Sg), Aw l G MX6_readsCycle rI 11 [(0, .ref (Gb G + r0)), (1, .int x1), (2, .int x2), (3, .int x3), (4, .int x4)] [] σ (rc11 r0 x1 x2 x3 x4 σ)) (r0 : Nat) (x1 : Int32) (x2 : Int32) (x3 : Int32) (x4 : Int32) (σ : Sg) : Aw l G MX6_readsCycle rI 35 [(0, .ref (Gb G + r0)), (1, .int x1), (2, .int x2), (3, .int x3), (4, .int x4)] [] σ (f_X6_readsCycle_35 rc11 r0 x1 x2 x3 x4 σ) := by
  unfold f_X6_readsCycle_35
  refine Aw.gd (fun hr0 => ?_)
  refine Aw.aload_n 0 rfl rfl dX6_readsCycle_35 ?_
  refine Aw.getI fl_X6_160 (Nat.le_of_ble_eq_true rfl) rfl hr0 rfl dX6_readsCycle_36 ?_
  refine Aw.bi (fun b1 => ?_)
  refine Aw.istore (L' := [(5, .int b1), (0, .ref (Gb G + r0)), (1, .int x1), (2, .int x2), (3, .int x3), (4, .int x4)]) (Nat.le_of_ble_eq_true rfl) rfl rfl dX6_readsCycle_39 ?_
  refine Aw.aload_n 1 rfl rfl dX6_readsCycle_41 ?_
  refine Aw.callVi (As := []) (rest := []) cv_X6_181 (Nat.le_of_ble_eq_true rfl) hr0 (ct_X6_readsNumber l G r0 σ) rfl rfl (Nat.le_of_ble_eq_true rfl) (Nat.le_of_ble_eq_true rfl) (Nat.le_of_ble_eq_true rfl) rfl dX6_readsCycle_42 (fun a2 τ3 _ => ?_)
  refine Aw.if_ne (q := 48) (t := 50) rfl (by decide) dX6_readsCycle_45 (fun hc => ?_) (fun hc => ?_)
  · refine Aw.iconst (v := 0) ic_0 rfl dX6_readsCycle_48 ?_
    exact Aw.zret rfl rfl dX6_readsCycle_49
  · refine Aw.aload_n 1 rfl rfl dX6_readsCycle_50 ?_
    refine Aw.getI fl_X6_172 (Nat.le_of_ble_eq_true rfl) rfl hr0 rfl dX6_readsCycle_51 ?_
    refine Aw.bipush (v := 11) ib_11 rfl dX6_readsCycle_54 ?_
    refine Aw.icmp_gt (q := 59) (t := 75) rfl (by decide) dX6_readsCycle_56 (fun hc => ?_) (fun hc => ?_)
    · refine Aw.sub (L' := [(0, .ref (Gb G + r0)), (5, .int b1)]) [1, 0] rfl ?_
      exact aw_X6_readsCycle_75 l G _ _ _
    · refine Aw.aload_n 1 rfl rfl dX6_readsCycle_59 ?_
      refine Aw.getR fl_X6_31 (Nat.le_of_ble_eq_true rfl) rfl hr0 rfl dX6_readsCycle_60 ?_
      refine Aw.iload_n 2 rfl rfl dX6_readsCycle_63 ?_
      refine Aw.iconst (v := 1) ic_1 rfl dX6_readsCycle_64 ?_
      refine Aw.iadd rfl dX6_readsCycle_65 ?_
      refine Aw.aload_n 1 rfl rfl dX6_readsCycle_66 ?_
      refine Aw.getI fl_X6_172 (Nat.le_of_ble_eq_true rfl) rfl hr0 rfl dX6_readsCycle_67 ?_
      refine Aw.iadd rfl dX6_readsCycle_70 ?_
      refine Aw.iald (n := 1560) (ft_6_9 hr0).1 (ft_6_9 hr0).2 rfl dX6_readsCycle_71 (fun hb4 => ?_)
      refine Aw.if_lt (q := 75) (t := 82) rfl (by decide) dX6_readsCycle_72 (fun hc => ?_) (fun hc => ?_)
      · refine Aw.iload_n 4 rfl rfl dX6_readsCycle_82 ?_
        refine Aw.if_lt (q := 86) (t := 100) rfl (by decide) dX6_readsCycle_83 (fun hc => ?_) (fun hc => ?_)
        · refine Aw.sub (L' := [(0, .ref (Gb G + r0)), (1, .int x1), (2, .int x2), (4, .int x4)]) [1, 2, 3, 5] rfl ?_
          exact aw_X6_readsCycle_100 l G _ hrc11 _ _ _ _ _
        · refine Aw.aload_n 1 rfl rfl dX6_readsCycle_86 ?_
          refine Aw.getR fl_X6_31 (Nat.le_of_ble_eq_true rfl) rfl hr0 rfl dX6_readsCycle_87 ?_
          refine Aw.iload_n 2 rfl rfl dX6_readsCycle_90 ?_
          refine Aw.iconst (v := 1) ic_1 rfl dX6_readsCycle_91 ?_
          refine Aw.iadd rfl dX6_readsCycle_92 ?_
          refine Aw.iload_n 4 rfl rfl dX6_readsCycle_93 ?_
          refine Aw.iadd rfl dX6_readsCycle_94 ?_
          refine Aw.aload_n 1 rfl rfl dX6_readsCycle_95 ?_
          refine Aw.getI fl_X6_172 (Nat.le_of_ble_eq_true rfl) rfl hr0 rfl dX6_readsCycle_96 ?_
          refine Aw.iast (n := 1560) (ft_6_9 hr0).1 (ft_6_9 hr0).2 rfl dX6_readsCycle_99 (fun hb5 => ?_)
          refine Aw.bs (fun τ6 => ?_)
          refine Aw.sub (L' := [(0, .ref (Gb G + r0)), (1, .int x1), (2, .int x2), (4, .int x4)]) [1, 2, 3, 5] rfl ?_
          exact aw_X6_readsCycle_100 l G _ hrc11 _ _ _ _ _
      · refine Aw.sub (L' := [(0, .ref (Gb G + r0)), (5, .int b1)]) [1, 0] rfl ?_
        exact aw_X6_readsCycle_75 l G _ _ _
set_option maxRecDepth 100000 in
set_option maxHeartbeats 4000000 in
theorem aw_X6_readsCycle_11 (l : Launch) (G : Gt) : ∀ (n : Nat) (r0 : Nat) (x1 : Int32) (x2 : Int32) (x3 : Int32) (x4 : Int32) (σ : Sg), Aw l G MX6_readsCycle rI 11 [(0, .ref (Gb G + r0)), (1, .int x1), (2, .int x2), (3, .int x3), (4, .int x4)] [] σ (f_X6_readsCycle_11 n r0 x1 x2 x3 x4 σ) := by
  intro n
  induction n with
  | zero => intro r0 x1 x2 x3 x4 σ; exact Aw.no
  | succ n ih =>
    intro r0 x1 x2 x3 x4 σ
    rw [f_X6_readsCycle_11]
    refine Aw.gd (fun hr0 => ?_)
    refine Aw.aload_n 0 rfl rfl dX6_readsCycle_11 ?_
    refine Aw.aload_n 0 rfl rfl dX6_readsCycle_12 ?_
    refine Aw.getI fl_X6_160 (Nat.le_of_ble_eq_true rfl) rfl hr0 rfl dX6_readsCycle_13 ?_
    refine Aw.callVi (As := [.int (σ r0 11)]) (rest := []) cv_X6_163 (Nat.le_of_ble_eq_true rfl) hr0 (ct_X6_byteAt l G r0 (σ r0 11) σ) rfl rfl (Nat.le_of_ble_eq_true rfl) (Nat.le_of_ble_eq_true rfl) (Nat.le_of_ble_eq_true rfl) rfl dX6_readsCycle_16 (fun a1 τ2 _ => ?_)
    refine Aw.bipush (v := 41) ib_41 rfl dX6_readsCycle_19 ?_
    refine Aw.icmp_ne (q := 24) (t := 35) rfl (by decide) dX6_readsCycle_21 (fun hc => ?_) (fun hc => ?_)
    · refine Aw.aload_n 0 rfl rfl dX6_readsCycle_24 ?_
      refine Aw.getI fl_X6_160 (Nat.le_of_ble_eq_true rfl) rfl hr0 rfl dX6_readsCycle_25 ?_
      refine Aw.aload_n 0 rfl rfl dX6_readsCycle_28 ?_
      refine Aw.getI fl_X6_34 (Nat.le_of_ble_eq_true rfl) rfl hr0 rfl dX6_readsCycle_29 ?_
      refine Aw.icmp_ne (q := 35) (t := 145) rfl (by decide) dX6_readsCycle_32 (fun hc => ?_) (fun hc => ?_)
      · refine Aw.sub (L' := [(0, .ref (Gb G + r0)), (1, .int x1), (2, .int x2), (3, .int x3), (4, .int x4)]) [0, 1, 2, 3, 4] rfl ?_
        exact aw_X6_readsCycle_35 l G _ ih _ _ _ _ _ _
      · refine Aw.iload 4 rfl rfl dX6_readsCycle_145 ?_
        refine Aw.iconst (v := 2) ic_2 rfl dX6_readsCycle_147 ?_
        refine Aw.icmp_ge (q := 151) (t := 160) rfl (by decide) dX6_readsCycle_148 (fun hc => ?_) (fun hc => ?_)
        · refine Aw.aload_n 0 rfl rfl dX6_readsCycle_160 ?_
          refine Aw.getR fl_X6_31 (Nat.le_of_ble_eq_true rfl) rfl hr0 rfl dX6_readsCycle_161 ?_
          refine Aw.iload_n 1 rfl rfl dX6_readsCycle_164 ?_
          refine Aw.iconst (v := 1) ic_1 rfl dX6_readsCycle_165 ?_
          refine Aw.iadd rfl dX6_readsCycle_166 ?_
          refine Aw.iload_n 3 rfl rfl dX6_readsCycle_167 ?_
          refine Aw.iadd rfl dX6_readsCycle_168 ?_
          refine Aw.iload_n 2 rfl rfl dX6_readsCycle_169 ?_
          refine Aw.iast (n := 1560) (ft_6_9 hr0).1 (ft_6_9 hr0).2 rfl dX6_readsCycle_170 (fun hb3 => ?_)
          refine Aw.bs (fun τ4 => ?_)
          refine Aw.aload_n 0 rfl rfl dX6_readsCycle_171 ?_
          refine Aw.dupr rfl dX6_readsCycle_172 ?_
          refine Aw.getI fl_X6_160 (Nat.le_of_ble_eq_true rfl) rfl hr0 rfl dX6_readsCycle_173 ?_
          refine Aw.iconst (v := 1) ic_1 rfl dX6_readsCycle_176 ?_
          refine Aw.iadd rfl dX6_readsCycle_177 ?_
          refine Aw.putI (v := (τ4 r0 11) + 1) fl_X6_160 fp_6_11 rfl rfl (Nat.le_of_ble_eq_true rfl) rfl hr0 rfl dX6_readsCycle_178 ?_
          refine Aw.bs (fun τ5 => ?_)
          refine Aw.iconst (v := 1) ic_1 rfl dX6_readsCycle_181 ?_
          exact Aw.zret rfl rfl dX6_readsCycle_182
        · refine Aw.aload_n 0 rfl rfl dX6_readsCycle_151 ?_
          refine Aw.aload_n 0 rfl rfl dX6_readsCycle_152 ?_
          refine Aw.getI fl_X6_160 (Nat.le_of_ble_eq_true rfl) rfl hr0 rfl dX6_readsCycle_153 ?_
          refine Aw.callVi (As := [.int (τ2 r0 11)]) (rest := []) cv_X6_178 (Nat.le_of_ble_eq_true rfl) hr0 (ct_X6_fails l G r0 (τ2 r0 11) τ2) rfl rfl (Nat.le_of_ble_eq_true rfl) (Nat.le_of_ble_eq_true rfl) (Nat.le_of_ble_eq_true rfl) rfl dX6_readsCycle_156 (fun a6 τ7 _ => ?_)
          exact Aw.zretG rfl dX6_readsCycle_159
    · refine Aw.sub (L' := [(0, .ref (Gb G + r0)), (1, .int x1), (2, .int x2), (3, .int x3), (4, .int x4)]) [0, 1, 2, 3, 4] rfl ?_
      exact aw_X6_readsCycle_35 l G _ ih _ _ _ _ _ _
set_option maxRecDepth 100000 in
set_option maxHeartbeats 4000000 in
theorem ct_X6_readsCycle (l : Launch) (G : Gt) (r0 : Nat) (x1 : Int32) (σ : Sg) : Ct l G yX6_readsCycle MX6_readsCycle rI [.ref (Gb G + r0), .int x1] σ (f_X6_readsCycle r0 x1 σ) := by
  refine Ct.of (by decide +kernel) rfl (Nat.le_of_ble_eq_true rfl) ?_
  show Aw l G MX6_readsCycle rI 0 [(0, .ref (Gb G + r0)), (1, .int x1)] [] σ _
  unfold f_X6_readsCycle
  refine Aw.gd (fun hr0 => ?_)
  refine Aw.iconst (v := (-1)) ic_m1 rfl dX6_readsCycle_0 ?_
  refine Aw.istore_n (L' := [(2, .int ((-1))), (0, .ref (Gb G + r0)), (1, .int x1)]) (Nat.le_of_ble_eq_true rfl) rfl rfl dX6_readsCycle_1 ?_
  refine Aw.iconst (v := (-1)) ic_m1 rfl dX6_readsCycle_2 ?_
  refine Aw.istore_n (L' := [(3, .int ((-1))), (2, .int ((-1))), (0, .ref (Gb G + r0)), (1, .int x1)]) (Nat.le_of_ble_eq_true rfl) rfl rfl dX6_readsCycle_3 ?_
  refine Aw.iconst (v := 0) ic_0 rfl dX6_readsCycle_4 ?_
  refine Aw.istore (L' := [(4, .int 0), (3, .int ((-1))), (2, .int ((-1))), (0, .ref (Gb G + r0)), (1, .int x1)]) (Nat.le_of_ble_eq_true rfl) rfl rfl dX6_readsCycle_5 ?_
  refine Aw.aload_n 3 rfl rfl dX6_readsCycle_7 ?_
  refine Aw.callVv (As := []) (rest := []) cv_X6_169 (Nat.le_of_ble_eq_true rfl) hr0 (ct_X6_blanks l G r0 σ) rfl rfl (Nat.le_of_ble_eq_true rfl) (Nat.le_of_ble_eq_true rfl) (Nat.le_of_ble_eq_true rfl) rfl dX6_readsCycle_8 (fun a1 τ2 _ => ?_)
  refine Aw.sub (L' := [(0, .ref (Gb G + r0)), (1, .int x1), (2, .int ((-1))), (3, .int ((-1))), (4, .int 0)]) [3, 4, 2, 1, 0] rfl ?_
  exact aw_X6_readsCycle_11 l G FU _ _ _ _ _ _
abbrev MX6_readsCycles : Mt := (RX6, cX6_readsCycles, 3, (some .boolean), 5)
def f_X6_readsCycles_29  : Nat → Nat → Int32 → Sg → Option (Int32 × Sg)
  | 0, _, _, _ => none
  | n + 1, r0, x1, σ => if kd r0 = 6 then (if σ r0 5 ≤ σ r0 11 then (some (1, σ)) else (if inb (σ r0 11) 120 then (if σ (rf r0 6) (ix (σ r0 11)) = 40 then (bn (up σ r0 11 ((σ r0 11) + 1)) (fun τ2 => cb (f_X6_readsCycle r0 x1 τ2) (fun a3 τ4 => if a3 = 0 then (some (0, τ4)) else (cb (f_X6_blanks r0 τ4) (fun _ τ6 => f_X6_readsCycles_29 n r0 x1 τ6))))) else (some (1, σ))) else none)) else none
def f_X6_readsCycles_2  : Nat → Nat → Int32 → Int32 → Sg → Option (Int32 × Sg)
  | 0, _, _, _, _ => none
  | n + 1, r0, x1, x2, σ => if kd r0 = 6 then (if 12 ≤ x2 then (cb (f_X6_blanks r0 σ) (fun _ τ2 => f_X6_readsCycles_29 FU r0 x1 τ2)) else (if inb ((x1 + 1) + x2) 1560 then (bn (up σ (rf r0 9) (ix ((x1 + 1) + x2)) ((-1))) (fun τ4 => f_X6_readsCycles_2 n r0 x1 (x2 + 1) τ4)) else none)) else none
def f_X6_readsCycles (r0 : Nat) (x1 : Int32) (σ : Sg) : Option (Int32 × Sg) := if kd r0 = 6 then (f_X6_readsCycles_2 FU r0 x1 0 σ) else none
theorem cv_X6_185 : CV RX6 185 6 yX6_readsCycle MX6_readsCycle 1 := ⟨_, rfl, rfl, ml_X6_185, ins_X6_readsCycle, sel_X6_readsCycle, ini_X6, cw_X6_readsCycle, ⟨by decide, by decide, by decide +kernel⟩⟩
set_option maxRecDepth 100000 in
set_option maxHeartbeats 4000000 in
theorem aw_X6_readsCycles_29 (l : Launch) (G : Gt) : ∀ (n : Nat) (r0 : Nat) (x1 : Int32) (σ : Sg), Aw l G MX6_readsCycles rI 29 [(0, .ref (Gb G + r0)), (1, .int x1)] [] σ (f_X6_readsCycles_29 n r0 x1 σ) := by
  intro n
  induction n with
  | zero => intro r0 x1 σ; exact Aw.no
  | succ n ih =>
    intro r0 x1 σ
    rw [f_X6_readsCycles_29]
    refine Aw.gd (fun hr0 => ?_)
    refine Aw.aload_n 0 rfl rfl dX6_readsCycles_29 ?_
    refine Aw.getI fl_X6_160 (Nat.le_of_ble_eq_true rfl) rfl hr0 rfl dX6_readsCycles_30 ?_
    refine Aw.aload_n 0 rfl rfl dX6_readsCycles_33 ?_
    refine Aw.getI fl_X6_34 (Nat.le_of_ble_eq_true rfl) rfl hr0 rfl dX6_readsCycles_34 ?_
    refine Aw.icmp_ge (q := 40) (t := 81) rfl (by decide) dX6_readsCycles_37 (fun hc => ?_) (fun hc => ?_)
    · refine Aw.iconst (v := 1) ic_1 rfl dX6_readsCycles_81 ?_
      exact Aw.zret rfl rfl dX6_readsCycles_82
    · refine Aw.aload_n 0 rfl rfl dX6_readsCycles_40 ?_
      refine Aw.getR fl_X6_22 (Nat.le_of_ble_eq_true rfl) rfl hr0 rfl dX6_readsCycles_41 ?_
      refine Aw.aload_n 0 rfl rfl dX6_readsCycles_44 ?_
      refine Aw.getI fl_X6_160 (Nat.le_of_ble_eq_true rfl) rfl hr0 rfl dX6_readsCycles_45 ?_
      refine Aw.iald (n := 120) (ft_6_6 hr0).1 (ft_6_6 hr0).2 rfl dX6_readsCycles_48 (fun hb1 => ?_)
      refine Aw.bipush (v := 40) ib_40 rfl dX6_readsCycles_49 ?_
      refine Aw.icmp_ne (q := 54) (t := 81) rfl (by decide) dX6_readsCycles_51 (fun hc => ?_) (fun hc => ?_)
      · refine Aw.aload_n 0 rfl rfl dX6_readsCycles_54 ?_
        refine Aw.dupr rfl dX6_readsCycles_55 ?_
        refine Aw.getI fl_X6_160 (Nat.le_of_ble_eq_true rfl) rfl hr0 rfl dX6_readsCycles_56 ?_
        refine Aw.iconst (v := 1) ic_1 rfl dX6_readsCycles_59 ?_
        refine Aw.iadd rfl dX6_readsCycles_60 ?_
        refine Aw.putI (v := (σ r0 11) + 1) fl_X6_160 fp_6_11 rfl rfl (Nat.le_of_ble_eq_true rfl) rfl hr0 rfl dX6_readsCycles_61 ?_
        refine Aw.bs (fun τ2 => ?_)
        refine Aw.aload_n 0 rfl rfl dX6_readsCycles_64 ?_
        refine Aw.iload_n 1 rfl rfl dX6_readsCycles_65 ?_
        refine Aw.callVi (As := [.int x1]) (rest := []) cv_X6_185 (Nat.le_of_ble_eq_true rfl) hr0 (ct_X6_readsCycle l G r0 x1 τ2) rfl rfl (Nat.le_of_ble_eq_true rfl) (Nat.le_of_ble_eq_true rfl) (Nat.le_of_ble_eq_true rfl) rfl dX6_readsCycles_66 (fun a3 τ4 _ => ?_)
        refine Aw.if_ne (q := 72) (t := 74) rfl (by decide) dX6_readsCycles_69 (fun hc => ?_) (fun hc => ?_)
        · refine Aw.iconst (v := 0) ic_0 rfl dX6_readsCycles_72 ?_
          exact Aw.zret rfl rfl dX6_readsCycles_73
        · refine Aw.aload_n 0 rfl rfl dX6_readsCycles_74 ?_
          refine Aw.callVv (As := []) (rest := []) cv_X6_169 (Nat.le_of_ble_eq_true rfl) hr0 (ct_X6_blanks l G r0 τ4) rfl rfl (Nat.le_of_ble_eq_true rfl) (Nat.le_of_ble_eq_true rfl) (Nat.le_of_ble_eq_true rfl) rfl dX6_readsCycles_75 (fun a5 τ6 _ => ?_)
          refine Aw.goto (q := 29) (by decide) dX6_readsCycles_78 ?_
          refine Aw.sub (L' := [(0, .ref (Gb G + r0)), (1, .int x1)]) [0, 1] rfl ?_
          exact ih _ _ _
      · refine Aw.iconst (v := 1) ic_1 rfl dX6_readsCycles_81 ?_
        exact Aw.zret rfl rfl dX6_readsCycles_82
set_option maxRecDepth 100000 in
set_option maxHeartbeats 4000000 in
theorem aw_X6_readsCycles_2 (l : Launch) (G : Gt) : ∀ (n : Nat) (r0 : Nat) (x1 : Int32) (x2 : Int32) (σ : Sg), Aw l G MX6_readsCycles rI 2 [(0, .ref (Gb G + r0)), (1, .int x1), (2, .int x2)] [] σ (f_X6_readsCycles_2 n r0 x1 x2 σ) := by
  intro n
  induction n with
  | zero => intro r0 x1 x2 σ; exact Aw.no
  | succ n ih =>
    intro r0 x1 x2 σ
    rw [f_X6_readsCycles_2]
    refine Aw.gd (fun hr0 => ?_)
    refine Aw.iload_n 2 rfl rfl dX6_readsCycles_2 ?_
    refine Aw.bipush (v := 12) ib_12 rfl dX6_readsCycles_3 ?_
    refine Aw.icmp_ge (q := 8) (t := 25) rfl (by decide) dX6_readsCycles_5 (fun hc => ?_) (fun hc => ?_)
    · refine Aw.aload_n 0 rfl rfl dX6_readsCycles_25 ?_
      refine Aw.callVv (As := []) (rest := []) cv_X6_169 (Nat.le_of_ble_eq_true rfl) hr0 (ct_X6_blanks l G r0 σ) rfl rfl (Nat.le_of_ble_eq_true rfl) (Nat.le_of_ble_eq_true rfl) (Nat.le_of_ble_eq_true rfl) rfl dX6_readsCycles_26 (fun a1 τ2 _ => ?_)
      refine Aw.sub (L' := [(0, .ref (Gb G + r0)), (1, .int x1)]) [0, 1] rfl ?_
      exact aw_X6_readsCycles_29 l G FU _ _ _
    · refine Aw.aload_n 0 rfl rfl dX6_readsCycles_8 ?_
      refine Aw.getR fl_X6_31 (Nat.le_of_ble_eq_true rfl) rfl hr0 rfl dX6_readsCycles_9 ?_
      refine Aw.iload_n 1 rfl rfl dX6_readsCycles_12 ?_
      refine Aw.iconst (v := 1) ic_1 rfl dX6_readsCycles_13 ?_
      refine Aw.iadd rfl dX6_readsCycles_14 ?_
      refine Aw.iload_n 2 rfl rfl dX6_readsCycles_15 ?_
      refine Aw.iadd rfl dX6_readsCycles_16 ?_
      refine Aw.iconst (v := (-1)) ic_m1 rfl dX6_readsCycles_17 ?_
      refine Aw.iast (n := 1560) (ft_6_9 hr0).1 (ft_6_9 hr0).2 rfl dX6_readsCycles_18 (fun hb3 => ?_)
      refine Aw.bs (fun τ4 => ?_)
      refine Aw.iinc (v := x2 + 1) (L' := [(2, .int (x2 + 1)), (0, .ref (Gb G + r0)), (1, .int x1)]) 2 rfl (ii_1 _) (Nat.le_of_ble_eq_true rfl) rfl rfl dX6_readsCycles_19 ?_
      refine Aw.goto (q := 2) (by decide) dX6_readsCycles_22 ?_
      refine Aw.sub (L' := [(0, .ref (Gb G + r0)), (1, .int x1), (2, .int (x2 + 1))]) [1, 2, 0] rfl ?_
      exact ih _ _ _ _
set_option maxRecDepth 100000 in
set_option maxHeartbeats 4000000 in
theorem ct_X6_readsCycles (l : Launch) (G : Gt) (r0 : Nat) (x1 : Int32) (σ : Sg) : Ct l G yX6_readsCycles MX6_readsCycles rI [.ref (Gb G + r0), .int x1] σ (f_X6_readsCycles r0 x1 σ) := by
  refine Ct.of (by decide +kernel) rfl (Nat.le_of_ble_eq_true rfl) ?_
  show Aw l G MX6_readsCycles rI 0 [(0, .ref (Gb G + r0)), (1, .int x1)] [] σ _
  unfold f_X6_readsCycles
  refine Aw.gd (fun hr0 => ?_)
  refine Aw.iconst (v := 0) ic_0 rfl dX6_readsCycles_0 ?_
  refine Aw.istore_n (L' := [(2, .int 0), (0, .ref (Gb G + r0)), (1, .int x1)]) (Nat.le_of_ble_eq_true rfl) rfl rfl dX6_readsCycles_1 ?_
  refine Aw.sub (L' := [(0, .ref (Gb G + r0)), (1, .int x1), (2, .int 0)]) [1, 2, 0] rfl ?_
  exact aw_X6_readsCycles_2 l G FU _ _ _ _
abbrev MX6_numbersOf : Mt := (RX6, cX6_numbersOf, 1, (some .int), 1)
def f_X6_numbersOf_12  (σ : Sg) : Option (Int32 × Sg) := some (3, σ)
def f_X6_numbersOf_38  (σ : Sg) : Option (Int32 × Sg) := some (1, σ)
def f_X6_numbersOf (x0 : Int32) (σ : Sg) : Option (Int32 × Sg) := if x0 = 117 then (f_X6_numbersOf_12 σ) else (if x0 = 119 then (f_X6_numbersOf_12 σ) else (if x0 = 100 then (some (2, σ)) else (if x0 = 103 then (f_X6_numbersOf_38 σ) else (if x0 = 112 then (f_X6_numbersOf_38 σ) else (if x0 = 107 then (some (0, σ)) else (some ((-1), σ)))))))
set_option maxRecDepth 100000 in
set_option maxHeartbeats 4000000 in
theorem aw_X6_numbersOf_12 (l : Launch) (G : Gt) (σ : Sg) : Aw l G MX6_numbersOf rI 12 [] [] σ (f_X6_numbersOf_12 σ) := by
  unfold f_X6_numbersOf_12
  refine Aw.iconst (v := 3) ic_3 rfl dX6_numbersOf_12 ?_
  refine Aw.goto (q := 53) (by decide) dX6_numbersOf_13 ?_
  exact Aw.iret rfl dX6_numbersOf_53
set_option maxRecDepth 100000 in
set_option maxHeartbeats 4000000 in
theorem aw_X6_numbersOf_38 (l : Launch) (G : Gt) (σ : Sg) : Aw l G MX6_numbersOf rI 38 [] [] σ (f_X6_numbersOf_38 σ) := by
  unfold f_X6_numbersOf_38
  refine Aw.iconst (v := 1) ic_1 rfl dX6_numbersOf_38 ?_
  refine Aw.goto (q := 53) (by decide) dX6_numbersOf_39 ?_
  exact Aw.iret rfl dX6_numbersOf_53
set_option maxRecDepth 100000 in
set_option maxHeartbeats 4000000 in
theorem ct_X6_numbersOf (l : Launch) (G : Gt) (x0 : Int32) (σ : Sg) : Ct l G yX6_numbersOf MX6_numbersOf rI [.int x0] σ (f_X6_numbersOf x0 σ) := by
  refine Ct.of (by decide +kernel) rfl (Nat.le_of_ble_eq_true rfl) ?_
  show Aw l G MX6_numbersOf rI 0 [(0, .int x0)] [] σ _
  unfold f_X6_numbersOf
  refine Aw.iload_n 0 rfl rfl dX6_numbersOf_0 ?_
  refine Aw.bipush (v := 117) ib_117 rfl dX6_numbersOf_1 ?_
  refine Aw.icmp_eq (q := 6) (t := 12) rfl (by decide) dX6_numbersOf_3 (fun hc => ?_) (fun hc => ?_)
  · refine Aw.sub (L' := []) [] rfl ?_
    exact aw_X6_numbersOf_12 l G _
  · refine Aw.iload_n 0 rfl rfl dX6_numbersOf_6 ?_
    refine Aw.bipush (v := 119) ib_119 rfl dX6_numbersOf_7 ?_
    refine Aw.icmp_ne (q := 12) (t := 16) rfl (by decide) dX6_numbersOf_9 (fun hc => ?_) (fun hc => ?_)
    · refine Aw.sub (L' := []) [] rfl ?_
      exact aw_X6_numbersOf_12 l G _
    · refine Aw.iload_n 0 rfl rfl dX6_numbersOf_16 ?_
      refine Aw.bipush (v := 100) ib_100 rfl dX6_numbersOf_17 ?_
      refine Aw.icmp_ne (q := 22) (t := 26) rfl (by decide) dX6_numbersOf_19 (fun hc => ?_) (fun hc => ?_)
      · refine Aw.iconst (v := 2) ic_2 rfl dX6_numbersOf_22 ?_
        refine Aw.goto (q := 53) (by decide) dX6_numbersOf_23 ?_
        exact Aw.iret rfl dX6_numbersOf_53
      · refine Aw.iload_n 0 rfl rfl dX6_numbersOf_26 ?_
        refine Aw.bipush (v := 103) ib_103 rfl dX6_numbersOf_27 ?_
        refine Aw.icmp_eq (q := 32) (t := 38) rfl (by decide) dX6_numbersOf_29 (fun hc => ?_) (fun hc => ?_)
        · refine Aw.sub (L' := []) [] rfl ?_
          exact aw_X6_numbersOf_38 l G _
        · refine Aw.iload_n 0 rfl rfl dX6_numbersOf_32 ?_
          refine Aw.bipush (v := 112) ib_112 rfl dX6_numbersOf_33 ?_
          refine Aw.icmp_ne (q := 38) (t := 42) rfl (by decide) dX6_numbersOf_35 (fun hc => ?_) (fun hc => ?_)
          · refine Aw.sub (L' := []) [] rfl ?_
            exact aw_X6_numbersOf_38 l G _
          · refine Aw.iload_n 0 rfl rfl dX6_numbersOf_42 ?_
            refine Aw.bipush (v := 107) ib_107 rfl dX6_numbersOf_43 ?_
            refine Aw.icmp_ne (q := 48) (t := 52) rfl (by decide) dX6_numbersOf_45 (fun hc => ?_) (fun hc => ?_)
            · refine Aw.iconst (v := 0) ic_0 rfl dX6_numbersOf_48 ?_
              refine Aw.goto (q := 53) (by decide) dX6_numbersOf_49 ?_
              exact Aw.iret rfl dX6_numbersOf_53
            · refine Aw.iconst (v := (-1)) ic_m1 rfl dX6_numbersOf_52 ?_
              exact Aw.iret rfl dX6_numbersOf_53
abbrev MX6_readsOrder : Mt := (RX6, cX6_readsOrder, 4, (some .boolean), 6)
def f_X6_readsOrder_74  : Nat → Nat → Int32 → Int32 → Int32 → Sg → Option (Int32 × Sg)
  | 0, _, _, _, _, _ => none
  | n + 1, r0, x1, x2, x3, σ => if kd r0 = 6 then (if x2 ≤ x3 then (cb (f_X6_blanks r0 σ) (fun _ τ2 => cb (f_X6_byteAt r0 (τ2 r0 11) τ2) (fun a3 τ4 => if a3 = 59 then (bn (up τ4 r0 11 ((τ4 r0 11) + 1)) (fun τ5 => bn (up τ5 r0 10 ((τ5 r0 10) + 1)) (fun τ6 => some (1, τ6)))) else (cb (f_X6_fails r0 (τ4 r0 11) τ4) (fun a7 τ8 => if a7 = 0 ∨ a7 = 1 then some (a7, τ8) else none))))) else (cb (f_X6_readsNumber r0 σ) (fun a9 τ10 => if a9 = 0 then (some (0, τ10)) else (if inb ((x1 + 1) + x3) 1560 then (bn (up τ10 (rf r0 9) (ix ((x1 + 1) + x3)) (τ10 r0 13)) (fun τ12 => f_X6_readsOrder_74 n r0 x1 x2 (x3 + 1) τ12)) else none)))) else none
def f_X6_readsOrder_72  (r0 : Nat) (x1 : Int32) (x2 : Int32) (σ : Sg) : Option (Int32 × Sg) := if kd r0 = 6 then (f_X6_readsOrder_74 FU r0 x1 x2 0 σ) else none
def f_X6_readsOrder (r0 : Nat) (σ : Sg) : Option (Int32 × Sg) := if kd r0 = 6 then (bn (13 * (σ r0 10)) (fun b1 => cb (f_X6_byteAt r0 (σ r0 11) σ) (fun a2 τ3 => cb (f_X6_numbersOf a2 τ3) (fun a4 τ5 => if 0 ≤ a4 then (if inb (τ5 r0 11) 120 then (if inb b1 1560 then (bn (up τ5 (rf r0 9) (ix b1) (τ5 (rf r0 6) (ix (τ5 r0 11)))) (fun τ8 => bn (up τ8 r0 11 ((τ8 r0 11) + 1)) (fun τ9 => if a4 = 0 then (cb (f_X6_readsCycles r0 b1 τ9) (fun a10 τ11 => if a10 = 0 then (some (0, τ11)) else (f_X6_readsOrder_72 r0 b1 a4 τ11))) else (f_X6_readsOrder_72 r0 b1 a4 τ9)))) else none) else none) else (cb (f_X6_fails r0 (τ5 r0 11) τ5) (fun a12 τ13 => if a12 = 0 ∨ a12 = 1 then some (a12, τ13) else none)))))) else none
theorem cs_X6_191 : CS RX6 191 yX6_numbersOf MX6_numbersOf 1 := ⟨ml_X6_191, sta_X6_numbersOf, ini_X6, cw_X6_numbersOf, ⟨by decide, by decide, by decide +kernel⟩⟩
theorem cv_X6_194 : CV RX6 194 6 yX6_readsCycles MX6_readsCycles 1 := ⟨_, rfl, rfl, ml_X6_194, ins_X6_readsCycles, sel_X6_readsCycles, ini_X6, cw_X6_readsCycles, ⟨by decide, by decide, by decide +kernel⟩⟩
set_option maxRecDepth 100000 in
set_option maxHeartbeats 4000000 in
theorem aw_X6_readsOrder_74 (l : Launch) (G : Gt) : ∀ (n : Nat) (r0 : Nat) (x1 : Int32) (x2 : Int32) (x3 : Int32) (σ : Sg), Aw l G MX6_readsOrder rI 74 [(0, .ref (Gb G + r0)), (1, .int x1), (2, .int x2), (3, .int x3)] [] σ (f_X6_readsOrder_74 n r0 x1 x2 x3 σ) := by
  intro n
  induction n with
  | zero => intro r0 x1 x2 x3 σ; exact Aw.no
  | succ n ih =>
    intro r0 x1 x2 x3 σ
    rw [f_X6_readsOrder_74]
    refine Aw.gd (fun hr0 => ?_)
    refine Aw.iload_n 3 rfl rfl dX6_readsOrder_74 ?_
    refine Aw.iload_n 2 rfl rfl dX6_readsOrder_75 ?_
    refine Aw.icmp_ge (q := 79) (t := 108) rfl (by decide) dX6_readsOrder_76 (fun hc => ?_) (fun hc => ?_)
    · refine Aw.aload_n 0 rfl rfl dX6_readsOrder_108 ?_
      refine Aw.callVv (As := []) (rest := []) cv_X6_169 (Nat.le_of_ble_eq_true rfl) hr0 (ct_X6_blanks l G r0 σ) rfl rfl (Nat.le_of_ble_eq_true rfl) (Nat.le_of_ble_eq_true rfl) (Nat.le_of_ble_eq_true rfl) rfl dX6_readsOrder_109 (fun a1 τ2 _ => ?_)
      refine Aw.aload_n 0 rfl rfl dX6_readsOrder_112 ?_
      refine Aw.aload_n 0 rfl rfl dX6_readsOrder_113 ?_
      refine Aw.getI fl_X6_160 (Nat.le_of_ble_eq_true rfl) rfl hr0 rfl dX6_readsOrder_114 ?_
      refine Aw.callVi (As := [.int (τ2 r0 11)]) (rest := []) cv_X6_163 (Nat.le_of_ble_eq_true rfl) hr0 (ct_X6_byteAt l G r0 (τ2 r0 11) τ2) rfl rfl (Nat.le_of_ble_eq_true rfl) (Nat.le_of_ble_eq_true rfl) (Nat.le_of_ble_eq_true rfl) rfl dX6_readsOrder_117 (fun a3 τ4 _ => ?_)
      refine Aw.bipush (v := 59) ib_59 rfl dX6_readsOrder_120 ?_
      refine Aw.icmp_eq (q := 125) (t := 134) rfl (by decide) dX6_readsOrder_122 (fun hc => ?_) (fun hc => ?_)
      · refine Aw.aload_n 0 rfl rfl dX6_readsOrder_134 ?_
        refine Aw.dupr rfl dX6_readsOrder_135 ?_
        refine Aw.getI fl_X6_160 (Nat.le_of_ble_eq_true rfl) rfl hr0 rfl dX6_readsOrder_136 ?_
        refine Aw.iconst (v := 1) ic_1 rfl dX6_readsOrder_139 ?_
        refine Aw.iadd rfl dX6_readsOrder_140 ?_
        refine Aw.putI (v := (τ4 r0 11) + 1) fl_X6_160 fp_6_11 rfl rfl (Nat.le_of_ble_eq_true rfl) rfl hr0 rfl dX6_readsOrder_141 ?_
        refine Aw.bs (fun τ5 => ?_)
        refine Aw.aload_n 0 rfl rfl dX6_readsOrder_144 ?_
        refine Aw.dupr rfl dX6_readsOrder_145 ?_
        refine Aw.getI fl_X6_188 (Nat.le_of_ble_eq_true rfl) rfl hr0 rfl dX6_readsOrder_146 ?_
        refine Aw.iconst (v := 1) ic_1 rfl dX6_readsOrder_149 ?_
        refine Aw.iadd rfl dX6_readsOrder_150 ?_
        refine Aw.putI (v := (τ5 r0 10) + 1) fl_X6_188 fp_6_10 rfl rfl (Nat.le_of_ble_eq_true rfl) rfl hr0 rfl dX6_readsOrder_151 ?_
        refine Aw.bs (fun τ6 => ?_)
        refine Aw.iconst (v := 1) ic_1 rfl dX6_readsOrder_154 ?_
        exact Aw.zret rfl rfl dX6_readsOrder_155
      · refine Aw.aload_n 0 rfl rfl dX6_readsOrder_125 ?_
        refine Aw.aload_n 0 rfl rfl dX6_readsOrder_126 ?_
        refine Aw.getI fl_X6_160 (Nat.le_of_ble_eq_true rfl) rfl hr0 rfl dX6_readsOrder_127 ?_
        refine Aw.callVi (As := [.int (τ4 r0 11)]) (rest := []) cv_X6_178 (Nat.le_of_ble_eq_true rfl) hr0 (ct_X6_fails l G r0 (τ4 r0 11) τ4) rfl rfl (Nat.le_of_ble_eq_true rfl) (Nat.le_of_ble_eq_true rfl) (Nat.le_of_ble_eq_true rfl) rfl dX6_readsOrder_130 (fun a7 τ8 _ => ?_)
        exact Aw.zretG rfl dX6_readsOrder_133
    · refine Aw.aload_n 0 rfl rfl dX6_readsOrder_79 ?_
      refine Aw.callVi (As := []) (rest := []) cv_X6_181 (Nat.le_of_ble_eq_true rfl) hr0 (ct_X6_readsNumber l G r0 σ) rfl rfl (Nat.le_of_ble_eq_true rfl) (Nat.le_of_ble_eq_true rfl) (Nat.le_of_ble_eq_true rfl) rfl dX6_readsOrder_80 (fun a9 τ10 _ => ?_)
      refine Aw.if_ne (q := 86) (t := 88) rfl (by decide) dX6_readsOrder_83 (fun hc => ?_) (fun hc => ?_)
      · refine Aw.iconst (v := 0) ic_0 rfl dX6_readsOrder_86 ?_
        exact Aw.zret rfl rfl dX6_readsOrder_87
      · refine Aw.aload_n 0 rfl rfl dX6_readsOrder_88 ?_
        refine Aw.getR fl_X6_31 (Nat.le_of_ble_eq_true rfl) rfl hr0 rfl dX6_readsOrder_89 ?_
        refine Aw.iload_n 1 rfl rfl dX6_readsOrder_92 ?_
        refine Aw.iconst (v := 1) ic_1 rfl dX6_readsOrder_93 ?_
        refine Aw.iadd rfl dX6_readsOrder_94 ?_
        refine Aw.iload_n 3 rfl rfl dX6_readsOrder_95 ?_
        refine Aw.iadd rfl dX6_readsOrder_96 ?_
        refine Aw.aload_n 0 rfl rfl dX6_readsOrder_97 ?_
        refine Aw.getI fl_X6_172 (Nat.le_of_ble_eq_true rfl) rfl hr0 rfl dX6_readsOrder_98 ?_
        refine Aw.iast (n := 1560) (ft_6_9 hr0).1 (ft_6_9 hr0).2 rfl dX6_readsOrder_101 (fun hb11 => ?_)
        refine Aw.bs (fun τ12 => ?_)
        refine Aw.iinc (v := x3 + 1) (L' := [(3, .int (x3 + 1)), (0, .ref (Gb G + r0)), (1, .int x1), (2, .int x2)]) 3 rfl (ii_1 _) (Nat.le_of_ble_eq_true rfl) rfl rfl dX6_readsOrder_102 ?_
        refine Aw.goto (q := 74) (by decide) dX6_readsOrder_105 ?_
        refine Aw.sub (L' := [(0, .ref (Gb G + r0)), (1, .int x1), (2, .int x2), (3, .int (x3 + 1))]) [1, 2, 3, 0] rfl ?_
        exact ih _ _ _ _ _
set_option maxRecDepth 100000 in
set_option maxHeartbeats 4000000 in
theorem aw_X6_readsOrder_72 (l : Launch) (G : Gt) (r0 : Nat) (x1 : Int32) (x2 : Int32) (σ : Sg) : Aw l G MX6_readsOrder rI 72 [(0, .ref (Gb G + r0)), (1, .int x1), (2, .int x2)] [] σ (f_X6_readsOrder_72 r0 x1 x2 σ) := by
  unfold f_X6_readsOrder_72
  refine Aw.gd (fun hr0 => ?_)
  refine Aw.iconst (v := 0) ic_0 rfl dX6_readsOrder_72 ?_
  refine Aw.istore_n (L' := [(3, .int 0), (0, .ref (Gb G + r0)), (1, .int x1), (2, .int x2)]) (Nat.le_of_ble_eq_true rfl) rfl rfl dX6_readsOrder_73 ?_
  refine Aw.sub (L' := [(0, .ref (Gb G + r0)), (1, .int x1), (2, .int x2), (3, .int 0)]) [1, 2, 3, 0] rfl ?_
  exact aw_X6_readsOrder_74 l G FU _ _ _ _ _
set_option maxRecDepth 100000 in
set_option maxHeartbeats 4000000 in
theorem ct_X6_readsOrder (l : Launch) (G : Gt) (r0 : Nat) (σ : Sg) : Ct l G yX6_readsOrder MX6_readsOrder rI [.ref (Gb G + r0)] σ (f_X6_readsOrder r0 σ) := by
  refine Ct.of (by decide +kernel) rfl (Nat.le_of_ble_eq_true rfl) ?_
  show Aw l G MX6_readsOrder rI 0 [(0, .ref (Gb G + r0))] [] σ _
  unfold f_X6_readsOrder
  refine Aw.gd (fun hr0 => ?_)
  refine Aw.bipush (v := 13) ib_13 rfl dX6_readsOrder_0 ?_
  refine Aw.aload_n 0 rfl rfl dX6_readsOrder_2 ?_
  refine Aw.getI fl_X6_188 (Nat.le_of_ble_eq_true rfl) rfl hr0 rfl dX6_readsOrder_3 ?_
  refine Aw.imul rfl dX6_readsOrder_6 ?_
  refine Aw.bi (fun b1 => ?_)
  refine Aw.istore_n (L' := [(1, .int b1), (0, .ref (Gb G + r0))]) (Nat.le_of_ble_eq_true rfl) rfl rfl dX6_readsOrder_7 ?_
  refine Aw.aload_n 1 rfl rfl dX6_readsOrder_8 ?_
  refine Aw.aload_n 1 rfl rfl dX6_readsOrder_9 ?_
  refine Aw.getI fl_X6_160 (Nat.le_of_ble_eq_true rfl) rfl hr0 rfl dX6_readsOrder_10 ?_
  refine Aw.callVi (As := [.int (σ r0 11)]) (rest := []) cv_X6_163 (Nat.le_of_ble_eq_true rfl) hr0 (ct_X6_byteAt l G r0 (σ r0 11) σ) rfl rfl (Nat.le_of_ble_eq_true rfl) (Nat.le_of_ble_eq_true rfl) (Nat.le_of_ble_eq_true rfl) rfl dX6_readsOrder_13 (fun a2 τ3 _ => ?_)
  refine Aw.callSi (As := [.int a2]) (rest := []) cs_X6_191 (ct_X6_numbersOf l G a2 τ3) rfl rfl (Nat.le_of_ble_eq_true rfl) (Nat.le_of_ble_eq_true rfl) (Nat.le_of_ble_eq_true rfl) rfl dX6_readsOrder_16 (fun a4 τ5 _ => ?_)
  refine Aw.istore_n (L' := [(2, .int a4), (1, .int b1), (0, .ref (Gb G + r0))]) (Nat.le_of_ble_eq_true rfl) rfl rfl dX6_readsOrder_19 ?_
  refine Aw.iload_n 0 rfl rfl dX6_readsOrder_20 ?_
  refine Aw.if_ge (q := 24) (t := 33) rfl (by decide) dX6_readsOrder_21 (fun hc => ?_) (fun hc => ?_)
  · refine Aw.aload_n 2 rfl rfl dX6_readsOrder_33 ?_
    refine Aw.getR fl_X6_31 (Nat.le_of_ble_eq_true rfl) rfl hr0 rfl dX6_readsOrder_34 ?_
    refine Aw.iload_n 1 rfl rfl dX6_readsOrder_37 ?_
    refine Aw.aload_n 2 rfl rfl dX6_readsOrder_38 ?_
    refine Aw.getR fl_X6_22 (Nat.le_of_ble_eq_true rfl) rfl hr0 rfl dX6_readsOrder_39 ?_
    refine Aw.aload_n 2 rfl rfl dX6_readsOrder_42 ?_
    refine Aw.getI fl_X6_160 (Nat.le_of_ble_eq_true rfl) rfl hr0 rfl dX6_readsOrder_43 ?_
    refine Aw.iald (n := 120) (ft_6_6 hr0).1 (ft_6_6 hr0).2 rfl dX6_readsOrder_46 (fun hb6 => ?_)
    refine Aw.iast (n := 1560) (ft_6_9 hr0).1 (ft_6_9 hr0).2 rfl dX6_readsOrder_47 (fun hb7 => ?_)
    refine Aw.bs (fun τ8 => ?_)
    refine Aw.aload_n 2 rfl rfl dX6_readsOrder_48 ?_
    refine Aw.dupr rfl dX6_readsOrder_49 ?_
    refine Aw.getI fl_X6_160 (Nat.le_of_ble_eq_true rfl) rfl hr0 rfl dX6_readsOrder_50 ?_
    refine Aw.iconst (v := 1) ic_1 rfl dX6_readsOrder_53 ?_
    refine Aw.iadd rfl dX6_readsOrder_54 ?_
    refine Aw.putI (v := (τ8 r0 11) + 1) fl_X6_160 fp_6_11 rfl rfl (Nat.le_of_ble_eq_true rfl) rfl hr0 rfl dX6_readsOrder_55 ?_
    refine Aw.bs (fun τ9 => ?_)
    refine Aw.iload_n 0 rfl rfl dX6_readsOrder_58 ?_
    refine Aw.if_ne (q := 62) (t := 72) rfl (by decide) dX6_readsOrder_59 (fun hc => ?_) (fun hc => ?_)
    · refine Aw.aload_n 2 rfl rfl dX6_readsOrder_62 ?_
      refine Aw.iload_n 1 rfl rfl dX6_readsOrder_63 ?_
      refine Aw.callVi (As := [.int b1]) (rest := []) cv_X6_194 (Nat.le_of_ble_eq_true rfl) hr0 (ct_X6_readsCycles l G r0 b1 τ9) rfl rfl (Nat.le_of_ble_eq_true rfl) (Nat.le_of_ble_eq_true rfl) (Nat.le_of_ble_eq_true rfl) rfl dX6_readsOrder_64 (fun a10 τ11 _ => ?_)
      refine Aw.if_ne (q := 70) (t := 72) rfl (by decide) dX6_readsOrder_67 (fun hc => ?_) (fun hc => ?_)
      · refine Aw.iconst (v := 0) ic_0 rfl dX6_readsOrder_70 ?_
        exact Aw.zret rfl rfl dX6_readsOrder_71
      · refine Aw.sub (L' := [(0, .ref (Gb G + r0)), (1, .int b1), (2, .int a4)]) [2, 1, 0] rfl ?_
        exact aw_X6_readsOrder_72 l G _ _ _ _
    · refine Aw.sub (L' := [(0, .ref (Gb G + r0)), (1, .int b1), (2, .int a4)]) [2, 1, 0] rfl ?_
      exact aw_X6_readsOrder_72 l G _ _ _ _
  · refine Aw.aload_n 2 rfl rfl dX6_readsOrder_24 ?_
    refine Aw.aload_n 2 rfl rfl dX6_readsOrder_25 ?_
    refine Aw.getI fl_X6_160 (Nat.le_of_ble_eq_true rfl) rfl hr0 rfl dX6_readsOrder_26 ?_
    refine Aw.callVi (As := [.int (τ5 r0 11)]) (rest := []) cv_X6_178 (Nat.le_of_ble_eq_true rfl) hr0 (ct_X6_fails l G r0 (τ5 r0 11) τ5) rfl rfl (Nat.le_of_ble_eq_true rfl) (Nat.le_of_ble_eq_true rfl) (Nat.le_of_ble_eq_true rfl) rfl dX6_readsOrder_29 (fun a12 τ13 _ => ?_)
    exact Aw.zretG rfl dX6_readsOrder_32
abbrev MX6_reads : Mt := (RX6, cX6_reads, 1, (some .boolean), 7)
def f_X6_reads_32 (rc14 : Nat → Sg → Option (Int32 × Sg)) (r0 : Nat) (σ : Sg) : Option (Int32 × Sg) := if kd r0 = 6 then (cb (f_X6_readsOrder r0 σ) (fun a1 τ2 => if a1 = 0 then (some (0, τ2)) else (cb (f_X6_blanks r0 τ2) (fun _ τ4 => rc14 r0 τ4)))) else none
def f_X6_reads_14  : Nat → Nat → Sg → Option (Int32 × Sg)
  | 0, _, _ => none
  | n + 1, r0, σ => if kd r0 = 6 then (if σ r0 11 < σ r0 5 then (f_X6_reads_32 (f_X6_reads_14 n) r0 σ) else (if σ r0 10 = 0 then (f_X6_reads_32 (f_X6_reads_14 n) r0 σ) else (some (1, σ)))) else none
def f_X6_reads (r0 : Nat) (σ : Sg) : Option (Int32 × Sg) := if kd r0 = 6 then (bn (up σ r0 11 0) (fun τ1 => bn (up τ1 r0 10 0) (fun τ2 => cb (f_X6_blanks r0 τ2) (fun _ τ4 => f_X6_reads_14 FU r0 τ4)))) else none
theorem cv_X6_197 : CV RX6 197 6 yX6_readsOrder MX6_readsOrder 0 := ⟨_, rfl, rfl, ml_X6_197, ins_X6_readsOrder, sel_X6_readsOrder, ini_X6, cw_X6_readsOrder, ⟨by decide, by decide, by decide +kernel⟩⟩
set_option maxRecDepth 100000 in
set_option maxHeartbeats 4000000 in
theorem aw_X6_reads_32 (l : Launch) (G : Gt) (rc14 : Nat → Sg → Option (Int32 × Sg)) (hrc14 : ∀ (r0 : Nat) (σ : Sg), Aw l G MX6_reads rI 14 [(0, .ref (Gb G + r0))] [] σ (rc14 r0 σ)) (r0 : Nat) (σ : Sg) : Aw l G MX6_reads rI 32 [(0, .ref (Gb G + r0))] [] σ (f_X6_reads_32 rc14 r0 σ) := by
  unfold f_X6_reads_32
  refine Aw.gd (fun hr0 => ?_)
  refine Aw.aload_n 0 rfl rfl dX6_reads_32 ?_
  refine Aw.callVi (As := []) (rest := []) cv_X6_197 (Nat.le_of_ble_eq_true rfl) hr0 (ct_X6_readsOrder l G r0 σ) rfl rfl (Nat.le_of_ble_eq_true rfl) (Nat.le_of_ble_eq_true rfl) (Nat.le_of_ble_eq_true rfl) rfl dX6_reads_33 (fun a1 τ2 _ => ?_)
  refine Aw.if_ne (q := 39) (t := 41) rfl (by decide) dX6_reads_36 (fun hc => ?_) (fun hc => ?_)
  · refine Aw.iconst (v := 0) ic_0 rfl dX6_reads_39 ?_
    exact Aw.zret rfl rfl dX6_reads_40
  · refine Aw.aload_n 0 rfl rfl dX6_reads_41 ?_
    refine Aw.callVv (As := []) (rest := []) cv_X6_169 (Nat.le_of_ble_eq_true rfl) hr0 (ct_X6_blanks l G r0 τ2) rfl rfl (Nat.le_of_ble_eq_true rfl) (Nat.le_of_ble_eq_true rfl) (Nat.le_of_ble_eq_true rfl) rfl dX6_reads_42 (fun a3 τ4 _ => ?_)
    refine Aw.goto (q := 14) (by decide) dX6_reads_45 ?_
    refine Aw.sub (L' := [(0, .ref (Gb G + r0))]) [0] rfl ?_
    exact hrc14 _ _
set_option maxRecDepth 100000 in
set_option maxHeartbeats 4000000 in
theorem aw_X6_reads_14 (l : Launch) (G : Gt) : ∀ (n : Nat) (r0 : Nat) (σ : Sg), Aw l G MX6_reads rI 14 [(0, .ref (Gb G + r0))] [] σ (f_X6_reads_14 n r0 σ) := by
  intro n
  induction n with
  | zero => intro r0 σ; exact Aw.no
  | succ n ih =>
    intro r0 σ
    rw [f_X6_reads_14]
    refine Aw.gd (fun hr0 => ?_)
    refine Aw.aload_n 0 rfl rfl dX6_reads_14 ?_
    refine Aw.getI fl_X6_160 (Nat.le_of_ble_eq_true rfl) rfl hr0 rfl dX6_reads_15 ?_
    refine Aw.aload_n 0 rfl rfl dX6_reads_18 ?_
    refine Aw.getI fl_X6_34 (Nat.le_of_ble_eq_true rfl) rfl hr0 rfl dX6_reads_19 ?_
    refine Aw.icmp_lt (q := 25) (t := 32) rfl (by decide) dX6_reads_22 (fun hc => ?_) (fun hc => ?_)
    · refine Aw.sub (L' := [(0, .ref (Gb G + r0))]) [0] rfl ?_
      exact aw_X6_reads_32 l G _ ih _ _
    · refine Aw.aload_n 0 rfl rfl dX6_reads_25 ?_
      refine Aw.getI fl_X6_188 (Nat.le_of_ble_eq_true rfl) rfl hr0 rfl dX6_reads_26 ?_
      refine Aw.if_ne (q := 32) (t := 48) rfl (by decide) dX6_reads_29 (fun hc => ?_) (fun hc => ?_)
      · refine Aw.sub (L' := [(0, .ref (Gb G + r0))]) [0] rfl ?_
        exact aw_X6_reads_32 l G _ ih _ _
      · refine Aw.iconst (v := 1) ic_1 rfl dX6_reads_48 ?_
        exact Aw.zret rfl rfl dX6_reads_49
set_option maxRecDepth 100000 in
set_option maxHeartbeats 4000000 in
theorem ct_X6_reads (l : Launch) (G : Gt) (r0 : Nat) (σ : Sg) : Ct l G yX6_reads MX6_reads rI [.ref (Gb G + r0)] σ (f_X6_reads r0 σ) := by
  refine Ct.of (by decide +kernel) rfl (Nat.le_of_ble_eq_true rfl) ?_
  show Aw l G MX6_reads rI 0 [(0, .ref (Gb G + r0))] [] σ _
  unfold f_X6_reads
  refine Aw.gd (fun hr0 => ?_)
  refine Aw.aload_n 0 rfl rfl dX6_reads_0 ?_
  refine Aw.iconst (v := 0) ic_0 rfl dX6_reads_1 ?_
  refine Aw.putI (v := 0) fl_X6_160 fp_6_11 rfl rfl (Nat.le_of_ble_eq_true rfl) rfl hr0 rfl dX6_reads_2 ?_
  refine Aw.bs (fun τ1 => ?_)
  refine Aw.aload_n 0 rfl rfl dX6_reads_5 ?_
  refine Aw.iconst (v := 0) ic_0 rfl dX6_reads_6 ?_
  refine Aw.putI (v := 0) fl_X6_188 fp_6_10 rfl rfl (Nat.le_of_ble_eq_true rfl) rfl hr0 rfl dX6_reads_7 ?_
  refine Aw.bs (fun τ2 => ?_)
  refine Aw.aload_n 0 rfl rfl dX6_reads_10 ?_
  refine Aw.callVv (As := []) (rest := []) cv_X6_169 (Nat.le_of_ble_eq_true rfl) hr0 (ct_X6_blanks l G r0 τ2) rfl rfl (Nat.le_of_ble_eq_true rfl) (Nat.le_of_ble_eq_true rfl) (Nat.le_of_ble_eq_true rfl) rfl dX6_reads_11 (fun a3 τ4 _ => ?_)
  refine Aw.sub (L' := [(0, .ref (Gb G + r0))]) [0] rfl ?_
  exact aw_X6_reads_14 l G FU _ _
abbrev MX6_doesOne : Mt := (RX6, cX6_doesOne, 6, (some .int), 4)
def f_X6_doesOne_191 (rc136 : Nat → Int32 → Int32 → Int32 → Sg → Option (Int32 × Sg)) (r0 : Nat) (x1 : Int32) (x4 : Int32) (x5 : Int32) (sr0 : Nat) (s1 : Int32) (s2 : Int32) (σ : Sg) : Option (Int32 × Sg) := if kd r0 = 6 then (if kd sr0 = 7 then (if inb s1 (ln sr0) then (bn (up σ sr0 (ix s1) s2) (fun τ2 => rc136 r0 x1 x4 (x5 + 1) τ2)) else none) else none) else none
def f_X6_doesOne_136  : Nat → Nat → Int32 → Int32 → Int32 → Sg → Option (Int32 × Sg)
  | 0, _, _, _, _, _ => none
  | n + 1, r0, x1, x4, x5, σ => if kd r0 = 6 then (if 12 ≤ x5 then (some (x4, σ)) else (if x4 < 0 then (some (x4, σ)) else (cb (f_X6_place r0 x4 x5 0 σ) (fun a1 τ2 => if inb ((x1 + 1) + x5) 1560 then (if 0 ≤ τ2 (rf r0 9) (ix ((x1 + 1) + x5)) then (if inb ((x1 + 1) + x5) 1560 then (f_X6_doesOne_191 (f_X6_doesOne_136 n) r0 x1 x4 x5 (rf r0 0) a1 (τ2 (rf r0 9) (ix ((x1 + 1) + x5))) τ2) else none) else (f_X6_doesOne_191 (f_X6_doesOne_136 n) r0 x1 x4 x5 (rf r0 0) a1 x5 τ2)) else none)))) else none
def f_X6_doesOne (r0 : Nat) (x1 : Int32) (σ : Sg) : Option (Int32 × Sg) := if kd r0 = 6 then (if inb (x1 + 1) 1560 then (bn (σ (rf r0 9) (ix (x1 + 1))) (fun b2 => if inb (x1 + 2) 1560 then (bn (σ (rf r0 9) (ix (x1 + 2))) (fun b4 => if inb x1 1560 then (if σ (rf r0 9) (ix x1) = 100 then (cb (f_X6_comes r0 b2 b4 σ) (fun a6 τ7 => some (a6, τ7))) else if σ (rf r0 9) (ix x1) = 103 then (cb (f_X6_given r0 b2 σ) (fun a8 τ9 => some (a8, τ9))) else if σ (rf r0 9) (ix x1) = 112 then (cb (f_X6_plansOn r0 b2 σ) (fun a10 τ11 => some (a10, τ11))) else if σ (rf r0 9) (ix x1) = 117 then (if inb (x1 + 3) 1560 then (cb (f_X6_setsAt r0 b2 b4 1 (σ (rf r0 9) (ix (x1 + 3))) σ) (fun a13 τ14 => some (a13, τ14))) else none) else if σ (rf r0 9) (ix x1) = 119 then (if inb (x1 + 3) 1560 then (cb (f_X6_setsAt r0 b2 b4 2 (σ (rf r0 9) (ix (x1 + 3))) σ) (fun a16 τ17 => some (a16, τ17))) else none) else (cb (f_X6_adds r0 σ) (fun a18 τ19 => f_X6_doesOne_136 FU r0 x1 a18 0 τ19))) else none)) else none)) else none) else none
set_option maxRecDepth 100000 in
set_option maxHeartbeats 4000000 in
theorem aw_X6_doesOne_191 (l : Launch) (G : Gt) (rc136 : Nat → Int32 → Int32 → Int32 → Sg → Option (Int32 × Sg)) (hrc136 : ∀ (r0 : Nat) (x1 : Int32) (x4 : Int32) (x5 : Int32) (σ : Sg), Aw l G MX6_doesOne rI 136 [(0, .ref (Gb G + r0)), (1, .int x1), (4, .int x4), (5, .int x5)] [] σ (rc136 r0 x1 x4 x5 σ)) (r0 : Nat) (x1 : Int32) (x4 : Int32) (x5 : Int32) (sr0 : Nat) (s1 : Int32) (s2 : Int32) (σ : Sg) : Aw l G MX6_doesOne rI 191 [(0, .ref (Gb G + r0)), (1, .int x1), (4, .int x4), (5, .int x5)] [.int s2, .int s1, .ref (Gb G + sr0)] σ (f_X6_doesOne_191 rc136 r0 x1 x4 x5 sr0 s1 s2 σ) := by
  unfold f_X6_doesOne_191
  refine Aw.gd (fun hr0 => ?_)
  refine Aw.gd (fun hsr0 => ?_)
  refine Aw.iast (n := ln sr0) hsr0 rfl rfl dX6_doesOne_191 (fun hb1 => ?_)
  refine Aw.bs (fun τ2 => ?_)
  refine Aw.iinc (v := x5 + 1) (L' := [(5, .int (x5 + 1)), (0, .ref (Gb G + r0)), (1, .int x1), (4, .int x4)]) 3 rfl (ii_1 _) (Nat.le_of_ble_eq_true rfl) rfl rfl dX6_doesOne_192 ?_
  refine Aw.goto (q := 136) (by decide) dX6_doesOne_195 ?_
  refine Aw.sub (L' := [(0, .ref (Gb G + r0)), (1, .int x1), (4, .int x4), (5, .int (x5 + 1))]) [1, 2, 3, 0] rfl ?_
  exact hrc136 _ _ _ _ _
set_option maxRecDepth 100000 in
set_option maxHeartbeats 4000000 in
theorem aw_X6_doesOne_136 (l : Launch) (G : Gt) : ∀ (n : Nat) (r0 : Nat) (x1 : Int32) (x4 : Int32) (x5 : Int32) (σ : Sg), Aw l G MX6_doesOne rI 136 [(0, .ref (Gb G + r0)), (1, .int x1), (4, .int x4), (5, .int x5)] [] σ (f_X6_doesOne_136 n r0 x1 x4 x5 σ) := by
  intro n
  induction n with
  | zero => intro r0 x1 x4 x5 σ; exact Aw.no
  | succ n ih =>
    intro r0 x1 x4 x5 σ
    rw [f_X6_doesOne_136]
    refine Aw.gd (fun hr0 => ?_)
    refine Aw.iload 3 rfl rfl dX6_doesOne_136 ?_
    refine Aw.bipush (v := 12) ib_12 rfl dX6_doesOne_138 ?_
    refine Aw.icmp_ge (q := 143) (t := 198) rfl (by decide) dX6_doesOne_140 (fun hc => ?_) (fun hc => ?_)
    · refine Aw.iload 2 rfl rfl dX6_doesOne_198 ?_
      exact Aw.iret rfl dX6_doesOne_200
    · refine Aw.iload 2 rfl rfl dX6_doesOne_143 ?_
      refine Aw.if_lt (q := 148) (t := 198) rfl (by decide) dX6_doesOne_145 (fun hc => ?_) (fun hc => ?_)
      · refine Aw.iload 2 rfl rfl dX6_doesOne_198 ?_
        exact Aw.iret rfl dX6_doesOne_200
      · refine Aw.aload_n 0 rfl rfl dX6_doesOne_148 ?_
        refine Aw.getR fl_X6_7 (Nat.le_of_ble_eq_true rfl) rfl hr0 rfl dX6_doesOne_149 ?_
        refine Aw.aload_n 0 rfl rfl dX6_doesOne_152 ?_
        refine Aw.iload 2 rfl rfl dX6_doesOne_153 ?_
        refine Aw.iload 3 rfl rfl dX6_doesOne_155 ?_
        refine Aw.iconst (v := 0) ic_0 rfl dX6_doesOne_157 ?_
        refine Aw.callVi (As := [.int x4, .int x5, .int 0]) (rest := [.ref (Gb G + rf r0 0)]) cv_X6_56 (Nat.le_of_ble_eq_true rfl) hr0 (ct_X6_place l G r0 x4 x5 0 σ) rfl rfl (Nat.le_of_ble_eq_true rfl) (Nat.le_of_ble_eq_true rfl) (Nat.le_of_ble_eq_true rfl) rfl dX6_doesOne_158 (fun a1 τ2 _ => ?_)
        refine Aw.aload_n 0 rfl rfl dX6_doesOne_161 ?_
        refine Aw.getR fl_X6_31 (Nat.le_of_ble_eq_true rfl) rfl hr0 rfl dX6_doesOne_162 ?_
        refine Aw.iload_n 1 rfl rfl dX6_doesOne_165 ?_
        refine Aw.iconst (v := 1) ic_1 rfl dX6_doesOne_166 ?_
        refine Aw.iadd rfl dX6_doesOne_167 ?_
        refine Aw.iload 3 rfl rfl dX6_doesOne_168 ?_
        refine Aw.iadd rfl dX6_doesOne_170 ?_
        refine Aw.iald (n := 1560) (ft_6_9 hr0).1 (ft_6_9 hr0).2 rfl dX6_doesOne_171 (fun hb3 => ?_)
        refine Aw.if_ge (q := 175) (t := 180) rfl (by decide) dX6_doesOne_172 (fun hc => ?_) (fun hc => ?_)
        · refine Aw.aload_n 0 rfl rfl dX6_doesOne_180 ?_
          refine Aw.getR fl_X6_31 (Nat.le_of_ble_eq_true rfl) rfl hr0 rfl dX6_doesOne_181 ?_
          refine Aw.iload_n 1 rfl rfl dX6_doesOne_184 ?_
          refine Aw.iconst (v := 1) ic_1 rfl dX6_doesOne_185 ?_
          refine Aw.iadd rfl dX6_doesOne_186 ?_
          refine Aw.iload 3 rfl rfl dX6_doesOne_187 ?_
          refine Aw.iadd rfl dX6_doesOne_189 ?_
          refine Aw.iald (n := 1560) (ft_6_9 hr0).1 (ft_6_9 hr0).2 rfl dX6_doesOne_190 (fun hb4 => ?_)
          refine Aw.sub (L' := [(0, .ref (Gb G + r0)), (1, .int x1), (4, .int x4), (5, .int x5)]) [0, 1, 2, 3] rfl ?_
          exact aw_X6_doesOne_191 l G _ ih _ _ _ _ _ _ _ _
        · refine Aw.iload 3 rfl rfl dX6_doesOne_175 ?_
          refine Aw.goto (q := 191) (by decide) dX6_doesOne_177 ?_
          refine Aw.sub (L' := [(0, .ref (Gb G + r0)), (1, .int x1), (4, .int x4), (5, .int x5)]) [0, 1, 2, 3] rfl ?_
          exact aw_X6_doesOne_191 l G _ ih _ _ _ _ _ _ _ _
set_option maxRecDepth 100000 in
set_option maxHeartbeats 4000000 in
theorem ct_X6_doesOne (l : Launch) (G : Gt) (r0 : Nat) (x1 : Int32) (σ : Sg) : Ct l G yX6_doesOne MX6_doesOne rI [.ref (Gb G + r0), .int x1] σ (f_X6_doesOne r0 x1 σ) := by
  refine Ct.of (by decide +kernel) rfl (Nat.le_of_ble_eq_true rfl) ?_
  show Aw l G MX6_doesOne rI 0 [(0, .ref (Gb G + r0)), (1, .int x1)] [] σ _
  unfold f_X6_doesOne
  refine Aw.gd (fun hr0 => ?_)
  refine Aw.aload_n 0 rfl rfl dX6_doesOne_0 ?_
  refine Aw.getR fl_X6_31 (Nat.le_of_ble_eq_true rfl) rfl hr0 rfl dX6_doesOne_1 ?_
  refine Aw.iload_n 1 rfl rfl dX6_doesOne_4 ?_
  refine Aw.iconst (v := 1) ic_1 rfl dX6_doesOne_5 ?_
  refine Aw.iadd rfl dX6_doesOne_6 ?_
  refine Aw.iald (n := 1560) (ft_6_9 hr0).1 (ft_6_9 hr0).2 rfl dX6_doesOne_7 (fun hb1 => ?_)
  refine Aw.bi (fun b2 => ?_)
  refine Aw.istore_n (L' := [(2, .int b2), (0, .ref (Gb G + r0)), (1, .int x1)]) (Nat.le_of_ble_eq_true rfl) rfl rfl dX6_doesOne_8 ?_
  refine Aw.aload_n 1 rfl rfl dX6_doesOne_9 ?_
  refine Aw.getR fl_X6_31 (Nat.le_of_ble_eq_true rfl) rfl hr0 rfl dX6_doesOne_10 ?_
  refine Aw.iload_n 2 rfl rfl dX6_doesOne_13 ?_
  refine Aw.iconst (v := 2) ic_2 rfl dX6_doesOne_14 ?_
  refine Aw.iadd rfl dX6_doesOne_15 ?_
  refine Aw.iald (n := 1560) (ft_6_9 hr0).1 (ft_6_9 hr0).2 rfl dX6_doesOne_16 (fun hb3 => ?_)
  refine Aw.bi (fun b4 => ?_)
  refine Aw.istore_n (L' := [(3, .int b4), (2, .int b2), (0, .ref (Gb G + r0)), (1, .int x1)]) (Nat.le_of_ble_eq_true rfl) rfl rfl dX6_doesOne_17 ?_
  refine Aw.aload_n 2 rfl rfl dX6_doesOne_18 ?_
  refine Aw.getR fl_X6_31 (Nat.le_of_ble_eq_true rfl) rfl hr0 rfl dX6_doesOne_19 ?_
  refine Aw.iload_n 3 rfl rfl dX6_doesOne_22 ?_
  refine Aw.iald (n := 1560) (ft_6_9 hr0).1 (ft_6_9 hr0).2 rfl dX6_doesOne_23 (fun hb5 => ?_)
  refine Aw.br (fun hc100 => ?_) (fun hc100 => ?_)
  · refine Aw.lsw (off := 84) (t := 108) dX6_doesOne_24 (by decide +kernel) (by rw [hc100]; decide +kernel) (by decide) ?_
    refine Aw.aload_n 2 rfl rfl dX6_doesOne_108 ?_
    refine Aw.iload_n 1 rfl rfl dX6_doesOne_109 ?_
    refine Aw.iload_n 0 rfl rfl dX6_doesOne_110 ?_
    refine Aw.callVi (As := [.int b2, .int b4]) (rest := []) cv_X6_75 (Nat.le_of_ble_eq_true rfl) hr0 (ct_X6_comes l G r0 b2 b4 σ) rfl rfl (Nat.le_of_ble_eq_true rfl) (Nat.le_of_ble_eq_true rfl) (Nat.le_of_ble_eq_true rfl) rfl dX6_doesOne_111 (fun a6 τ7 _ => ?_)
    exact Aw.iret rfl dX6_doesOne_114
  refine Aw.br (fun hc103 => ?_) (fun hc103 => ?_)
  · refine Aw.lsw (off := 91) (t := 115) dX6_doesOne_24 (by decide +kernel) (by rw [hc103]; decide +kernel) (by decide) ?_
    refine Aw.aload_n 2 rfl rfl dX6_doesOne_115 ?_
    refine Aw.iload_n 1 rfl rfl dX6_doesOne_116 ?_
    refine Aw.callVi (As := [.int b2]) (rest := []) cv_X6_90 (Nat.le_of_ble_eq_true rfl) hr0 (ct_X6_given l G r0 b2 σ) rfl rfl (Nat.le_of_ble_eq_true rfl) (Nat.le_of_ble_eq_true rfl) (Nat.le_of_ble_eq_true rfl) rfl dX6_doesOne_117 (fun a8 τ9 _ => ?_)
    exact Aw.iret rfl dX6_doesOne_120
  refine Aw.br (fun hc112 => ?_) (fun hc112 => ?_)
  · refine Aw.lsw (off := 97) (t := 121) dX6_doesOne_24 (by decide +kernel) (by rw [hc112]; decide +kernel) (by decide) ?_
    refine Aw.aload_n 2 rfl rfl dX6_doesOne_121 ?_
    refine Aw.iload_n 1 rfl rfl dX6_doesOne_122 ?_
    refine Aw.callVi (As := [.int b2]) (rest := []) cv_X6_96 (Nat.le_of_ble_eq_true rfl) hr0 (ct_X6_plansOn l G r0 b2 σ) rfl rfl (Nat.le_of_ble_eq_true rfl) (Nat.le_of_ble_eq_true rfl) (Nat.le_of_ble_eq_true rfl) rfl dX6_doesOne_123 (fun a10 τ11 _ => ?_)
    exact Aw.iret rfl dX6_doesOne_126
  refine Aw.br (fun hc117 => ?_) (fun hc117 => ?_)
  · refine Aw.lsw (off := 52) (t := 76) dX6_doesOne_24 (by decide +kernel) (by rw [hc117]; decide +kernel) (by decide) ?_
    refine Aw.aload_n 2 rfl rfl dX6_doesOne_76 ?_
    refine Aw.iload_n 1 rfl rfl dX6_doesOne_77 ?_
    refine Aw.iload_n 0 rfl rfl dX6_doesOne_78 ?_
    refine Aw.iconst (v := 1) ic_1 rfl dX6_doesOne_79 ?_
    refine Aw.aload_n 2 rfl rfl dX6_doesOne_80 ?_
    refine Aw.getR fl_X6_31 (Nat.le_of_ble_eq_true rfl) rfl hr0 rfl dX6_doesOne_81 ?_
    refine Aw.iload_n 3 rfl rfl dX6_doesOne_84 ?_
    refine Aw.iconst (v := 3) ic_3 rfl dX6_doesOne_85 ?_
    refine Aw.iadd rfl dX6_doesOne_86 ?_
    refine Aw.iald (n := 1560) (ft_6_9 hr0).1 (ft_6_9 hr0).2 rfl dX6_doesOne_87 (fun hb12 => ?_)
    refine Aw.callVi (As := [.int b2, .int b4, .int 1, .int (σ (rf r0 9) (ix (x1 + 3)))]) (rest := []) cv_X6_86 (Nat.le_of_ble_eq_true rfl) hr0 (ct_X6_setsAt l G r0 b2 b4 1 (σ (rf r0 9) (ix (x1 + 3))) σ) rfl rfl (Nat.le_of_ble_eq_true rfl) (Nat.le_of_ble_eq_true rfl) (Nat.le_of_ble_eq_true rfl) rfl dX6_doesOne_88 (fun a13 τ14 _ => ?_)
    exact Aw.iret rfl dX6_doesOne_91
  refine Aw.br (fun hc119 => ?_) (fun hc119 => ?_)
  · refine Aw.lsw (off := 68) (t := 92) dX6_doesOne_24 (by decide +kernel) (by rw [hc119]; decide +kernel) (by decide) ?_
    refine Aw.aload_n 2 rfl rfl dX6_doesOne_92 ?_
    refine Aw.iload_n 1 rfl rfl dX6_doesOne_93 ?_
    refine Aw.iload_n 0 rfl rfl dX6_doesOne_94 ?_
    refine Aw.iconst (v := 2) ic_2 rfl dX6_doesOne_95 ?_
    refine Aw.aload_n 2 rfl rfl dX6_doesOne_96 ?_
    refine Aw.getR fl_X6_31 (Nat.le_of_ble_eq_true rfl) rfl hr0 rfl dX6_doesOne_97 ?_
    refine Aw.iload_n 3 rfl rfl dX6_doesOne_100 ?_
    refine Aw.iconst (v := 3) ic_3 rfl dX6_doesOne_101 ?_
    refine Aw.iadd rfl dX6_doesOne_102 ?_
    refine Aw.iald (n := 1560) (ft_6_9 hr0).1 (ft_6_9 hr0).2 rfl dX6_doesOne_103 (fun hb15 => ?_)
    refine Aw.callVi (As := [.int b2, .int b4, .int 2, .int (σ (rf r0 9) (ix (x1 + 3)))]) (rest := []) cv_X6_86 (Nat.le_of_ble_eq_true rfl) hr0 (ct_X6_setsAt l G r0 b2 b4 2 (σ (rf r0 9) (ix (x1 + 3))) σ) rfl rfl (Nat.le_of_ble_eq_true rfl) (Nat.le_of_ble_eq_true rfl) (Nat.le_of_ble_eq_true rfl) rfl dX6_doesOne_104 (fun a16 τ17 _ => ?_)
    exact Aw.iret rfl dX6_doesOne_107
  refine Aw.lsw (off := 103) (t := 127) dX6_doesOne_24 (by decide +kernel) (by refine (lv_osw (k := 100) hc100 (by decide)).trans ?_; refine (lv_osw (k := 103) hc103 (by decide)).trans ?_; refine (lv_osw (k := 112) hc112 (by decide)).trans ?_; refine (lv_osw (k := 117) hc117 (by decide)).trans ?_; refine (lv_osw (k := 119) hc119 (by decide)).trans ?_; rfl) (by decide) ?_
  refine Aw.aload_n 2 rfl rfl dX6_doesOne_127 ?_
  refine Aw.callVi (As := []) (rest := []) cv_X6_82 (Nat.le_of_ble_eq_true rfl) hr0 (ct_X6_adds l G r0 σ) rfl rfl (Nat.le_of_ble_eq_true rfl) (Nat.le_of_ble_eq_true rfl) (Nat.le_of_ble_eq_true rfl) rfl dX6_doesOne_128 (fun a18 τ19 _ => ?_)
  refine Aw.istore (L' := [(4, .int a18), (3, .int b4), (2, .int b2), (0, .ref (Gb G + r0)), (1, .int x1)]) (Nat.le_of_ble_eq_true rfl) rfl rfl dX6_doesOne_131 ?_
  refine Aw.iconst (v := 0) ic_0 rfl dX6_doesOne_133 ?_
  refine Aw.istore (L' := [(5, .int 0), (4, .int a18), (3, .int b4), (2, .int b2), (0, .ref (Gb G + r0)), (1, .int x1)]) (Nat.le_of_ble_eq_true rfl) rfl rfl dX6_doesOne_134 ?_
  refine Aw.sub (L' := [(0, .ref (Gb G + r0)), (1, .int x1), (4, .int a18), (5, .int 0)]) [4, 5, 1, 0] rfl ?_
  exact aw_X6_doesOne_136 l G FU _ _ _ _ _
abbrev MX6_does : Mt := (RX6, cX6_does, 3, (some .int), 8)
def f_X6_does_43  : Nat → Nat → Int32 → Int32 → Sg → Option (Int32 × Sg)
  | 0, _, _, _, _ => none
  | n + 1, r0, x1, x2, σ => if kd r0 = 6 then (if 336 ≤ x2 then (some (((-1000)) - x1, σ)) else (if inb x2 336 then (if inb x2 336 then (bn (up σ (rf r0 0) (ix x2) (σ (rf r0 3) (ix x2))) (fun τ3 => f_X6_does_43 n r0 x1 (x2 + 1) τ3)) else none) else none)) else none
def f_X6_does_21  : Nat → Nat → Int32 → Sg → Option (Int32 × Sg)
  | 0, _, _, _ => none
  | n + 1, r0, x1, σ => if kd r0 = 6 then (if σ r0 10 ≤ x1 then (cb (f_X6_done r0 (σ r0 10) σ) (fun a1 τ2 => some (a1, τ2))) else (cb (f_X6_doesOne r0 (13 * x1) σ) (fun a3 τ4 => if (-1) ≤ a3 then (f_X6_does_21 n r0 (x1 + 1) τ4) else (f_X6_does_43 FU r0 x1 0 τ4)))) else none
def f_X6_does (r0 : Nat) (σ : Sg) : Option (Int32 × Sg) := if kd r0 = 6 then (cb (f_X6_reads r0 σ) (fun a1 τ2 => if a1 = 0 then (some (((-10)) - (τ2 r0 12), τ2)) else (cb (f_X6_notes r0 τ2) (fun _ τ4 => f_X6_does_21 FU r0 0 τ4)))) else none
theorem cv_X6_200 : CV RX6 200 6 yX6_reads MX6_reads 0 := ⟨_, rfl, rfl, ml_X6_200, ins_X6_reads, sel_X6_reads, ini_X6, cw_X6_reads, ⟨by decide, by decide, by decide +kernel⟩⟩
theorem cv_X6_203 : CV RX6 203 6 yX6_doesOne MX6_doesOne 1 := ⟨_, rfl, rfl, ml_X6_203, ins_X6_doesOne, sel_X6_doesOne, ini_X6, cw_X6_doesOne, ⟨by decide, by decide, by decide +kernel⟩⟩
set_option maxRecDepth 100000 in
set_option maxHeartbeats 4000000 in
theorem aw_X6_does_43 (l : Launch) (G : Gt) : ∀ (n : Nat) (r0 : Nat) (x1 : Int32) (x2 : Int32) (σ : Sg), Aw l G MX6_does rI 43 [(0, .ref (Gb G + r0)), (1, .int x1), (2, .int x2)] [] σ (f_X6_does_43 n r0 x1 x2 σ) := by
  intro n
  induction n with
  | zero => intro r0 x1 x2 σ; exact Aw.no
  | succ n ih =>
    intro r0 x1 x2 σ
    rw [f_X6_does_43]
    refine Aw.gd (fun hr0 => ?_)
    refine Aw.iload_n 2 rfl rfl dX6_does_43 ?_
    refine Aw.sipush (v := 336) is_336 rfl dX6_does_44 ?_
    refine Aw.icmp_ge (q := 50) (t := 68) rfl (by decide) dX6_does_47 (fun hc => ?_) (fun hc => ?_)
    · refine Aw.sipush (v := (-1000)) is_m1000 rfl dX6_does_68 ?_
      refine Aw.iload_n 1 rfl rfl dX6_does_71 ?_
      refine Aw.isub rfl dX6_does_72 ?_
      exact Aw.iret rfl dX6_does_73
    · refine Aw.aload_n 0 rfl rfl dX6_does_50 ?_
      refine Aw.getR fl_X6_7 (Nat.le_of_ble_eq_true rfl) rfl hr0 rfl dX6_does_51 ?_
      refine Aw.iload_n 2 rfl rfl dX6_does_54 ?_
      refine Aw.aload_n 0 rfl rfl dX6_does_55 ?_
      refine Aw.getR fl_X6_16 (Nat.le_of_ble_eq_true rfl) rfl hr0 rfl dX6_does_56 ?_
      refine Aw.iload_n 2 rfl rfl dX6_does_59 ?_
      refine Aw.iald (n := 336) (ft_6_3 hr0).1 (ft_6_3 hr0).2 rfl dX6_does_60 (fun hb1 => ?_)
      refine Aw.iast (n := 336) (ft_6_0 hr0).1 (ft_6_0 hr0).2 rfl dX6_does_61 (fun hb2 => ?_)
      refine Aw.bs (fun τ3 => ?_)
      refine Aw.iinc (v := x2 + 1) (L' := [(2, .int (x2 + 1)), (0, .ref (Gb G + r0)), (1, .int x1)]) 2 rfl (ii_1 _) (Nat.le_of_ble_eq_true rfl) rfl rfl dX6_does_62 ?_
      refine Aw.goto (q := 43) (by decide) dX6_does_65 ?_
      refine Aw.sub (L' := [(0, .ref (Gb G + r0)), (1, .int x1), (2, .int (x2 + 1))]) [1, 2, 0] rfl ?_
      exact ih _ _ _ _
set_option maxRecDepth 100000 in
set_option maxHeartbeats 4000000 in
theorem aw_X6_does_21 (l : Launch) (G : Gt) : ∀ (n : Nat) (r0 : Nat) (x1 : Int32) (σ : Sg), Aw l G MX6_does rI 21 [(0, .ref (Gb G + r0)), (1, .int x1)] [] σ (f_X6_does_21 n r0 x1 σ) := by
  intro n
  induction n with
  | zero => intro r0 x1 σ; exact Aw.no
  | succ n ih =>
    intro r0 x1 σ
    rw [f_X6_does_21]
    refine Aw.gd (fun hr0 => ?_)
    refine Aw.iload_n 1 rfl rfl dX6_does_21 ?_
    refine Aw.aload_n 0 rfl rfl dX6_does_22 ?_
    refine Aw.getI fl_X6_188 (Nat.le_of_ble_eq_true rfl) rfl hr0 rfl dX6_does_23 ?_
    refine Aw.icmp_ge (q := 29) (t := 80) rfl (by decide) dX6_does_26 (fun hc => ?_) (fun hc => ?_)
    · refine Aw.aload_n 0 rfl rfl dX6_does_80 ?_
      refine Aw.aload_n 0 rfl rfl dX6_does_81 ?_
      refine Aw.getI fl_X6_188 (Nat.le_of_ble_eq_true rfl) rfl hr0 rfl dX6_does_82 ?_
      refine Aw.callVi (As := [.int (σ r0 10)]) (rest := []) cv_X6_79 (Nat.le_of_ble_eq_true rfl) hr0 (ct_X6_done l G r0 (σ r0 10) σ) rfl rfl (Nat.le_of_ble_eq_true rfl) (Nat.le_of_ble_eq_true rfl) (Nat.le_of_ble_eq_true rfl) rfl dX6_does_85 (fun a1 τ2 _ => ?_)
      exact Aw.iret rfl dX6_does_88
    · refine Aw.aload_n 0 rfl rfl dX6_does_29 ?_
      refine Aw.bipush (v := 13) ib_13 rfl dX6_does_30 ?_
      refine Aw.iload_n 1 rfl rfl dX6_does_32 ?_
      refine Aw.imul rfl dX6_does_33 ?_
      refine Aw.callVi (As := [.int (13 * x1)]) (rest := []) cv_X6_203 (Nat.le_of_ble_eq_true rfl) hr0 (ct_X6_doesOne l G r0 (13 * x1) σ) rfl rfl (Nat.le_of_ble_eq_true rfl) (Nat.le_of_ble_eq_true rfl) (Nat.le_of_ble_eq_true rfl) rfl dX6_does_34 (fun a3 τ4 _ => ?_)
      refine Aw.iconst (v := (-1)) ic_m1 rfl dX6_does_37 ?_
      refine Aw.icmp_ge (q := 41) (t := 74) rfl (by decide) dX6_does_38 (fun hc => ?_) (fun hc => ?_)
      · refine Aw.iinc (v := x1 + 1) (L' := [(1, .int (x1 + 1)), (0, .ref (Gb G + r0))]) 1 rfl (ii_1 _) (Nat.le_of_ble_eq_true rfl) rfl rfl dX6_does_74 ?_
        refine Aw.goto (q := 21) (by decide) dX6_does_77 ?_
        refine Aw.sub (L' := [(0, .ref (Gb G + r0)), (1, .int (x1 + 1))]) [1, 0] rfl ?_
        exact ih _ _ _
      · refine Aw.iconst (v := 0) ic_0 rfl dX6_does_41 ?_
        refine Aw.istore_n (L' := [(2, .int 0), (0, .ref (Gb G + r0)), (1, .int x1)]) (Nat.le_of_ble_eq_true rfl) rfl rfl dX6_does_42 ?_
        refine Aw.sub (L' := [(0, .ref (Gb G + r0)), (1, .int x1), (2, .int 0)]) [1, 2, 0] rfl ?_
        exact aw_X6_does_43 l G FU _ _ _ _
set_option maxRecDepth 100000 in
set_option maxHeartbeats 4000000 in
theorem ct_X6_does (l : Launch) (G : Gt) (r0 : Nat) (σ : Sg) : Ct l G yX6_does MX6_does rI [.ref (Gb G + r0)] σ (f_X6_does r0 σ) := by
  refine Ct.of (by decide +kernel) rfl (Nat.le_of_ble_eq_true rfl) ?_
  show Aw l G MX6_does rI 0 [(0, .ref (Gb G + r0))] [] σ _
  unfold f_X6_does
  refine Aw.gd (fun hr0 => ?_)
  refine Aw.aload_n 0 rfl rfl dX6_does_0 ?_
  refine Aw.callVi (As := []) (rest := []) cv_X6_200 (Nat.le_of_ble_eq_true rfl) hr0 (ct_X6_reads l G r0 σ) rfl rfl (Nat.le_of_ble_eq_true rfl) (Nat.le_of_ble_eq_true rfl) (Nat.le_of_ble_eq_true rfl) rfl dX6_does_1 (fun a1 τ2 _ => ?_)
  refine Aw.if_ne (q := 7) (t := 15) rfl (by decide) dX6_does_4 (fun hc => ?_) (fun hc => ?_)
  · refine Aw.bipush (v := (-10)) ib_m10 rfl dX6_does_7 ?_
    refine Aw.aload_n 0 rfl rfl dX6_does_9 ?_
    refine Aw.getI fl_X6_166 (Nat.le_of_ble_eq_true rfl) rfl hr0 rfl dX6_does_10 ?_
    refine Aw.isub rfl dX6_does_13 ?_
    exact Aw.iret rfl dX6_does_14
  · refine Aw.aload_n 0 rfl rfl dX6_does_15 ?_
    refine Aw.callVv (As := []) (rest := []) cv_X6_72 (Nat.le_of_ble_eq_true rfl) hr0 (ct_X6_notes l G r0 τ2) rfl rfl (Nat.le_of_ble_eq_true rfl) (Nat.le_of_ble_eq_true rfl) (Nat.le_of_ble_eq_true rfl) rfl dX6_does_16 (fun a3 τ4 _ => ?_)
    refine Aw.iconst (v := 0) ic_0 rfl dX6_does_19 ?_
    refine Aw.istore_n (L' := [(1, .int 0), (0, .ref (Gb G + r0))]) (Nat.le_of_ble_eq_true rfl) rfl rfl dX6_does_20 ?_
    refine Aw.sub (L' := [(0, .ref (Gb G + r0)), (1, .int 0)]) [1, 0] rfl ?_
    exact aw_X6_does_21 l G FU _ _ _
abbrev MX6_toldOf : Mt := (RX6, cX6_toldOf, 2, (some .int), 2)
def f_X6_toldOf (r0 : Nat) (x1 : Int32) (σ : Sg) : Option (Int32 × Sg) := if kd r0 = 6 then (cb (f_X6_isIn x1 0 4 σ) (fun a1 τ2 => if a1 = 0 then (some ((-2), τ2)) else (if 3 ≤ x1 then (if x1 = 3 then (some (τ2 r0 5, τ2)) else (some (τ2 r0 2, τ2))) else (if inb x1 3 then (some (τ2 (rf r0 4) (ix x1), τ2)) else none)))) else none
set_option maxRecDepth 100000 in
set_option maxHeartbeats 4000000 in
theorem ct_X6_toldOf (l : Launch) (G : Gt) (r0 : Nat) (x1 : Int32) (σ : Sg) : Ct l G yX6_toldOf MX6_toldOf rI [.ref (Gb G + r0), .int x1] σ (f_X6_toldOf r0 x1 σ) := by
  refine Ct.of (by decide +kernel) rfl (Nat.le_of_ble_eq_true rfl) ?_
  show Aw l G MX6_toldOf rI 0 [(0, .ref (Gb G + r0)), (1, .int x1)] [] σ _
  unfold f_X6_toldOf
  refine Aw.gd (fun hr0 => ?_)
  refine Aw.iload_n 1 rfl rfl dX6_toldOf_0 ?_
  refine Aw.iconst (v := 0) ic_0 rfl dX6_toldOf_1 ?_
  refine Aw.iconst (v := 4) ic_4 rfl dX6_toldOf_2 ?_
  refine Aw.callSi (As := [.int x1, .int 0, .int 4]) (rest := []) cs_X6_48 (ct_X6_isIn l G x1 0 4 σ) rfl rfl (Nat.le_of_ble_eq_true rfl) (Nat.le_of_ble_eq_true rfl) (Nat.le_of_ble_eq_true rfl) rfl dX6_toldOf_3 (fun a1 τ2 _ => ?_)
  refine Aw.if_eq (q := 9) (t := 42) rfl (by decide) dX6_toldOf_6 (fun hc => ?_) (fun hc => ?_)
  · refine Aw.bipush (v := (-2)) ib_m2 rfl dX6_toldOf_42 ?_
    exact Aw.iret rfl dX6_toldOf_44
  · refine Aw.iload_n 1 rfl rfl dX6_toldOf_9 ?_
    refine Aw.iconst (v := 3) ic_3 rfl dX6_toldOf_10 ?_
    refine Aw.icmp_ge (q := 14) (t := 23) rfl (by decide) dX6_toldOf_11 (fun hc => ?_) (fun hc => ?_)
    · refine Aw.iload_n 1 rfl rfl dX6_toldOf_23 ?_
      refine Aw.iconst (v := 3) ic_3 rfl dX6_toldOf_24 ?_
      refine Aw.icmp_ne (q := 28) (t := 35) rfl (by decide) dX6_toldOf_25 (fun hc => ?_) (fun hc => ?_)
      · refine Aw.aload_n 0 rfl rfl dX6_toldOf_28 ?_
        refine Aw.getI fl_X6_34 (Nat.le_of_ble_eq_true rfl) rfl hr0 rfl dX6_toldOf_29 ?_
        refine Aw.goto (q := 44) (by decide) dX6_toldOf_32 ?_
        exact Aw.iret rfl dX6_toldOf_44
      · refine Aw.aload_n 0 rfl rfl dX6_toldOf_35 ?_
        refine Aw.getI fl_X6_42 (Nat.le_of_ble_eq_true rfl) rfl hr0 rfl dX6_toldOf_36 ?_
        refine Aw.goto (q := 44) (by decide) dX6_toldOf_39 ?_
        exact Aw.iret rfl dX6_toldOf_44
    · refine Aw.aload_n 0 rfl rfl dX6_toldOf_14 ?_
      refine Aw.getR fl_X6_19 (Nat.le_of_ble_eq_true rfl) rfl hr0 rfl dX6_toldOf_15 ?_
      refine Aw.iload_n 1 rfl rfl dX6_toldOf_18 ?_
      refine Aw.iald (n := 3) (ft_6_4 hr0).1 (ft_6_4 hr0).2 rfl dX6_toldOf_19 (fun hb3 => ?_)
      refine Aw.goto (q := 44) (by decide) dX6_toldOf_20 ?_
      exact Aw.iret rfl dX6_toldOf_44
abbrev MX6_told : Mt := (RX6, cX6_told, 2, (some .int), 3)
def f_X6_told (r0 : Nat) (x1 : Int32) (σ : Sg) : Option (Int32 × Sg) := if kd r0 = 6 then (cb (f_X6_toldOf r0 x1 σ) (fun a1 τ2 => cb (f_X6_counted r0 a1 τ2) (fun a3 τ4 => some (a3, τ4)))) else none
theorem cv_X6_206 : CV RX6 206 6 yX6_toldOf MX6_toldOf 1 := ⟨_, rfl, rfl, ml_X6_206, ins_X6_toldOf, sel_X6_toldOf, ini_X6, cw_X6_toldOf, ⟨by decide, by decide, by decide +kernel⟩⟩
set_option maxRecDepth 100000 in
set_option maxHeartbeats 4000000 in
theorem ct_X6_told (l : Launch) (G : Gt) (r0 : Nat) (x1 : Int32) (σ : Sg) : Ct l G yX6_told MX6_told rI [.ref (Gb G + r0), .int x1] σ (f_X6_told r0 x1 σ) := by
  refine Ct.of (by decide +kernel) rfl (Nat.le_of_ble_eq_true rfl) ?_
  show Aw l G MX6_told rI 0 [(0, .ref (Gb G + r0)), (1, .int x1)] [] σ _
  unfold f_X6_told
  refine Aw.gd (fun hr0 => ?_)
  refine Aw.aload_n 0 rfl rfl dX6_told_0 ?_
  refine Aw.aload_n 0 rfl rfl dX6_told_1 ?_
  refine Aw.iload_n 1 rfl rfl dX6_told_2 ?_
  refine Aw.callVi (As := [.int x1]) (rest := [.ref (Gb G + r0)]) cv_X6_206 (Nat.le_of_ble_eq_true rfl) hr0 (ct_X6_toldOf l G r0 x1 σ) rfl rfl (Nat.le_of_ble_eq_true rfl) (Nat.le_of_ble_eq_true rfl) (Nat.le_of_ble_eq_true rfl) rfl dX6_told_3 (fun a1 τ2 _ => ?_)
  refine Aw.callVi (As := [.int a1]) (rest := []) cv_X6_114 (Nat.le_of_ble_eq_true rfl) hr0 (ct_X6_counted l G r0 a1 τ2) rfl rfl (Nat.le_of_ble_eq_true rfl) (Nat.le_of_ble_eq_true rfl) (Nat.le_of_ble_eq_true rfl) rfl dX6_told_6 (fun a3 τ4 _ => ?_)
  exact Aw.iret rfl dX6_told_9
abbrev MX6_digest : Mt := (RX6, cX6_digest, 5, (some .long), 5)
def f_X6_digest_37 (rc6 : Nat → Int64 → Int32 → Sg → Option (Int64 × Sg)) (r0 : Nat) (x3 : Int32) (sl0 : Int64) (s1 : Int32) (σ : Sg) : Option (Int64 × Sg) := if kd r0 = 6 then (bn (sl0 + (s1.toInt64)) (fun b1 => rc6 r0 b1 (x3 + 1) σ)) else none
def f_X6_digest_61 (rc48 : Nat → Int64 → Int32 → Sg → Option (Int64 × Sg)) : Nat → Nat → Int64 → Int32 → Int32 → Sg → Option (Int64 × Sg)
  | 0, _, _, _, _, _ => none
  | n + 1, r0, y1, x3, x4, σ => if kd r0 = 6 then (if 7 ≤ x4 then (rc48 r0 y1 (x3 + 1) σ) else (cb (f_X6_ofDancer r0 x3 x4 σ) (fun a1 τ2 => bn ((31 * y1) + (a1.toInt64)) (fun b3 => f_X6_digest_61 rc48 n r0 b3 x3 (x4 + 1) τ2)))) else none
def f_X6_digest_147 (rc97 : Nat → Int64 → Int32 → Sg → Option (Int64 × Sg)) : Nat → Nat → Int64 → Int32 → Int32 → Sg → Option (Int64 × Sg)
  | 0, _, _, _, _, _ => none
  | n + 1, r0, y1, x3, x4, σ => if kd r0 = 6 then (if 4 ≤ x4 then (rc97 r0 y1 (x3 + 1) σ) else (cb (f_X6_ofCall r0 x3 x4 σ) (fun a1 τ2 => bn ((31 * y1) + (a1.toInt64)) (fun b3 => f_X6_digest_147 rc97 n r0 b3 x3 (x4 + 1) τ2)))) else none
def f_X6_digest_110 (rc97 : Nat → Int64 → Int32 → Sg → Option (Int64 × Sg)) : Nat → Nat → Int64 → Int32 → Int32 → Sg → Option (Int64 × Sg)
  | 0, _, _, _, _, _ => none
  | n + 1, r0, y1, x3, x4, σ => if kd r0 = 6 then (if 36 ≤ x4 then (f_X6_digest_147 rc97 FU r0 y1 x3 0 σ) else (cb (f_X6_atSpot r0 x3 (x4 / 3) (rem x4 3) σ) (fun a1 τ2 => bn ((31 * y1) + (a1.toInt64)) (fun b3 => f_X6_digest_110 rc97 n r0 b3 x3 (x4 + 1) τ2)))) else none
def f_X6_digest_182  : Nat → Nat → Int64 → Int32 → Sg → Option (Int64 × Sg)
  | 0, _, _, _, _ => none
  | n + 1, r0, y1, x3, σ => if kd r0 = 6 then (if inb 2 336 then (if σ (rf r0 0) (ix 2) ≤ x3 then (some (y1, σ)) else (if inb (324 + x3) 336 then (bn ((31 * y1) + ((σ (rf r0 0) (ix (324 + x3))).toInt64)) (fun b3 => f_X6_digest_182 n r0 b3 (x3 + 1) σ)) else none)) else none) else none
def f_X6_digest_97  : Nat → Nat → Int64 → Int32 → Sg → Option (Int64 × Sg)
  | 0, _, _, _, _ => none
  | n + 1, r0, y1, x3, σ => if kd r0 = 6 then (if inb 1 336 then (if σ (rf r0 0) (ix 1) ≤ x3 then (f_X6_digest_182 FU r0 y1 0 σ) else (f_X6_digest_110 (f_X6_digest_97 n) FU r0 y1 x3 0 σ)) else none) else none
def f_X6_digest_48  : Nat → Nat → Int64 → Int32 → Sg → Option (Int64 × Sg)
  | 0, _, _, _, _ => none
  | n + 1, r0, y1, x3, σ => if kd r0 = 6 then (if inb 0 336 then (if σ (rf r0 0) (ix 0) ≤ x3 then (f_X6_digest_97 FU r0 y1 0 σ) else (f_X6_digest_61 (f_X6_digest_48 n) FU r0 y1 x3 0 σ)) else none) else none
def f_X6_digest_6  : Nat → Nat → Int64 → Int32 → Sg → Option (Int64 × Sg)
  | 0, _, _, _, _ => none
  | n + 1, r0, y1, x3, σ => if kd r0 = 6 then (if 12 ≤ x3 then (f_X6_digest_48 FU r0 y1 0 σ) else (if 5 ≤ x3 then (cb (f_X6_number r0 (x3 - 5) σ) (fun a1 τ2 => f_X6_digest_37 (f_X6_digest_6 n) r0 x3 (31 * y1) a1 τ2)) else (cb (f_X6_toldOf r0 x3 σ) (fun a3 τ4 => f_X6_digest_37 (f_X6_digest_6 n) r0 x3 (31 * y1) a3 τ4)))) else none
def f_X6_digest (r0 : Nat) (σ : Sg) : Option (Int64 × Sg) := if kd r0 = 6 then (f_X6_digest_6 FU r0 2633 0 σ) else none
set_option maxRecDepth 100000 in
set_option maxHeartbeats 4000000 in
theorem aw_X6_digest_37 (l : Launch) (G : Gt) (rc6 : Nat → Int64 → Int32 → Sg → Option (Int64 × Sg)) (hrc6 : ∀ (r0 : Nat) (y1 : Int64) (x3 : Int32) (σ : Sg), Aw l G MX6_digest rL 6 [(0, .ref (Gb G + r0)), (1, .long y1), (3, .int x3)] [] σ (rc6 r0 y1 x3 σ)) (r0 : Nat) (x3 : Int32) (sl0 : Int64) (s1 : Int32) (σ : Sg) : Aw l G MX6_digest rL 37 [(0, .ref (Gb G + r0)), (3, .int x3)] [.int s1, .long sl0] σ (f_X6_digest_37 rc6 r0 x3 sl0 s1 σ) := by
  unfold f_X6_digest_37
  refine Aw.gd (fun hr0 => ?_)
  refine Aw.i2l rfl dX6_digest_37 ?_
  refine Aw.ladd rfl dX6_digest_38 ?_
  refine Aw.bl (fun b1 => ?_)
  refine Aw.lstore_n (L' := [(1, .long b1), (0, .ref (Gb G + r0)), (3, .int x3)]) (Nat.le_of_ble_eq_true rfl) rfl rfl dX6_digest_39 ?_
  refine Aw.iinc (v := x3 + 1) (L' := [(3, .int (x3 + 1)), (1, .long b1), (0, .ref (Gb G + r0))]) 2 rfl (ii_1 _) (Nat.le_of_ble_eq_true rfl) rfl rfl dX6_digest_40 ?_
  refine Aw.goto (q := 6) (by decide) dX6_digest_43 ?_
  refine Aw.sub (L' := [(0, .ref (Gb G + r0)), (1, .long b1), (3, .int (x3 + 1))]) [2, 1, 0] rfl ?_
  exact hrc6 _ _ _ _
set_option maxRecDepth 100000 in
set_option maxHeartbeats 4000000 in
theorem aw_X6_digest_61 (l : Launch) (G : Gt) (rc48 : Nat → Int64 → Int32 → Sg → Option (Int64 × Sg)) (hrc48 : ∀ (r0 : Nat) (y1 : Int64) (x3 : Int32) (σ : Sg), Aw l G MX6_digest rL 48 [(0, .ref (Gb G + r0)), (1, .long y1), (3, .int x3)] [] σ (rc48 r0 y1 x3 σ)) : ∀ (n : Nat) (r0 : Nat) (y1 : Int64) (x3 : Int32) (x4 : Int32) (σ : Sg), Aw l G MX6_digest rL 61 [(0, .ref (Gb G + r0)), (1, .long y1), (3, .int x3), (4, .int x4)] [] σ (f_X6_digest_61 rc48 n r0 y1 x3 x4 σ) := by
  intro n
  induction n with
  | zero => intro r0 y1 x3 x4 σ; exact Aw.no
  | succ n ih =>
    intro r0 y1 x3 x4 σ
    rw [f_X6_digest_61]
    refine Aw.gd (fun hr0 => ?_)
    refine Aw.iload 3 rfl rfl dX6_digest_61 ?_
    refine Aw.bipush (v := 7) ib_7 rfl dX6_digest_63 ?_
    refine Aw.icmp_ge (q := 68) (t := 89) rfl (by decide) dX6_digest_65 (fun hc => ?_) (fun hc => ?_)
    · refine Aw.iinc (v := x3 + 1) (L' := [(3, .int (x3 + 1)), (0, .ref (Gb G + r0)), (1, .long y1), (4, .int x4)]) 2 rfl (ii_1 _) (Nat.le_of_ble_eq_true rfl) rfl rfl dX6_digest_89 ?_
      refine Aw.goto (q := 48) (by decide) dX6_digest_92 ?_
      refine Aw.sub (L' := [(0, .ref (Gb G + r0)), (1, .long y1), (3, .int (x3 + 1))]) [1, 2, 0] rfl ?_
      exact hrc48 _ _ _ _
    · refine Aw.ldc2 kl_X6_211 rfl dX6_digest_68 ?_
      refine Aw.lload_n 1 rfl rfl dX6_digest_71 ?_
      refine Aw.lmul rfl dX6_digest_72 ?_
      refine Aw.aload_n 0 rfl rfl dX6_digest_73 ?_
      refine Aw.iload_n 2 rfl rfl dX6_digest_74 ?_
      refine Aw.iload 3 rfl rfl dX6_digest_75 ?_
      refine Aw.callVi (As := [.int x3, .int x4]) (rest := [.long (31 * y1)]) cv_X6_111 (Nat.le_of_ble_eq_true rfl) hr0 (ct_X6_ofDancer l G r0 x3 x4 σ) rfl rfl (Nat.le_of_ble_eq_true rfl) (Nat.le_of_ble_eq_true rfl) (Nat.le_of_ble_eq_true rfl) rfl dX6_digest_77 (fun a1 τ2 _ => ?_)
      refine Aw.i2l rfl dX6_digest_80 ?_
      refine Aw.ladd rfl dX6_digest_81 ?_
      refine Aw.bl (fun b3 => ?_)
      refine Aw.lstore_n (L' := [(1, .long b3), (0, .ref (Gb G + r0)), (3, .int x3), (4, .int x4)]) (Nat.le_of_ble_eq_true rfl) rfl rfl dX6_digest_82 ?_
      refine Aw.iinc (v := x4 + 1) (L' := [(4, .int (x4 + 1)), (1, .long b3), (0, .ref (Gb G + r0)), (3, .int x3)]) 3 rfl (ii_1 _) (Nat.le_of_ble_eq_true rfl) rfl rfl dX6_digest_83 ?_
      refine Aw.goto (q := 61) (by decide) dX6_digest_86 ?_
      refine Aw.sub (L' := [(0, .ref (Gb G + r0)), (1, .long b3), (3, .int x3), (4, .int (x4 + 1))]) [2, 1, 3, 0] rfl ?_
      exact ih _ _ _ _ _
set_option maxRecDepth 100000 in
set_option maxHeartbeats 4000000 in
theorem aw_X6_digest_147 (l : Launch) (G : Gt) (rc97 : Nat → Int64 → Int32 → Sg → Option (Int64 × Sg)) (hrc97 : ∀ (r0 : Nat) (y1 : Int64) (x3 : Int32) (σ : Sg), Aw l G MX6_digest rL 97 [(0, .ref (Gb G + r0)), (1, .long y1), (3, .int x3)] [] σ (rc97 r0 y1 x3 σ)) : ∀ (n : Nat) (r0 : Nat) (y1 : Int64) (x3 : Int32) (x4 : Int32) (σ : Sg), Aw l G MX6_digest rL 147 [(0, .ref (Gb G + r0)), (1, .long y1), (3, .int x3), (4, .int x4)] [] σ (f_X6_digest_147 rc97 n r0 y1 x3 x4 σ) := by
  intro n
  induction n with
  | zero => intro r0 y1 x3 x4 σ; exact Aw.no
  | succ n ih =>
    intro r0 y1 x3 x4 σ
    rw [f_X6_digest_147]
    refine Aw.gd (fun hr0 => ?_)
    refine Aw.iload 3 rfl rfl dX6_digest_147 ?_
    refine Aw.iconst (v := 4) ic_4 rfl dX6_digest_149 ?_
    refine Aw.icmp_ge (q := 153) (t := 174) rfl (by decide) dX6_digest_150 (fun hc => ?_) (fun hc => ?_)
    · refine Aw.iinc (v := x3 + 1) (L' := [(3, .int (x3 + 1)), (0, .ref (Gb G + r0)), (1, .long y1), (4, .int x4)]) 2 rfl (ii_1 _) (Nat.le_of_ble_eq_true rfl) rfl rfl dX6_digest_174 ?_
      refine Aw.goto (q := 97) (by decide) dX6_digest_177 ?_
      refine Aw.sub (L' := [(0, .ref (Gb G + r0)), (1, .long y1), (3, .int (x3 + 1))]) [1, 2, 0] rfl ?_
      exact hrc97 _ _ _ _
    · refine Aw.ldc2 kl_X6_211 rfl dX6_digest_153 ?_
      refine Aw.lload_n 1 rfl rfl dX6_digest_156 ?_
      refine Aw.lmul rfl dX6_digest_157 ?_
      refine Aw.aload_n 0 rfl rfl dX6_digest_158 ?_
      refine Aw.iload_n 2 rfl rfl dX6_digest_159 ?_
      refine Aw.iload 3 rfl rfl dX6_digest_160 ?_
      refine Aw.callVi (As := [.int x3, .int x4]) (rest := [.long (31 * y1)]) cv_X6_129 (Nat.le_of_ble_eq_true rfl) hr0 (ct_X6_ofCall l G r0 x3 x4 σ) rfl rfl (Nat.le_of_ble_eq_true rfl) (Nat.le_of_ble_eq_true rfl) (Nat.le_of_ble_eq_true rfl) rfl dX6_digest_162 (fun a1 τ2 _ => ?_)
      refine Aw.i2l rfl dX6_digest_165 ?_
      refine Aw.ladd rfl dX6_digest_166 ?_
      refine Aw.bl (fun b3 => ?_)
      refine Aw.lstore_n (L' := [(1, .long b3), (0, .ref (Gb G + r0)), (3, .int x3), (4, .int x4)]) (Nat.le_of_ble_eq_true rfl) rfl rfl dX6_digest_167 ?_
      refine Aw.iinc (v := x4 + 1) (L' := [(4, .int (x4 + 1)), (1, .long b3), (0, .ref (Gb G + r0)), (3, .int x3)]) 3 rfl (ii_1 _) (Nat.le_of_ble_eq_true rfl) rfl rfl dX6_digest_168 ?_
      refine Aw.goto (q := 147) (by decide) dX6_digest_171 ?_
      refine Aw.sub (L' := [(0, .ref (Gb G + r0)), (1, .long b3), (3, .int x3), (4, .int (x4 + 1))]) [2, 1, 3, 0] rfl ?_
      exact ih _ _ _ _ _
set_option maxRecDepth 100000 in
set_option maxHeartbeats 4000000 in
theorem aw_X6_digest_110 (l : Launch) (G : Gt) (rc97 : Nat → Int64 → Int32 → Sg → Option (Int64 × Sg)) (hrc97 : ∀ (r0 : Nat) (y1 : Int64) (x3 : Int32) (σ : Sg), Aw l G MX6_digest rL 97 [(0, .ref (Gb G + r0)), (1, .long y1), (3, .int x3)] [] σ (rc97 r0 y1 x3 σ)) : ∀ (n : Nat) (r0 : Nat) (y1 : Int64) (x3 : Int32) (x4 : Int32) (σ : Sg), Aw l G MX6_digest rL 110 [(0, .ref (Gb G + r0)), (1, .long y1), (3, .int x3), (4, .int x4)] [] σ (f_X6_digest_110 rc97 n r0 y1 x3 x4 σ) := by
  intro n
  induction n with
  | zero => intro r0 y1 x3 x4 σ; exact Aw.no
  | succ n ih =>
    intro r0 y1 x3 x4 σ
    rw [f_X6_digest_110]
    refine Aw.gd (fun hr0 => ?_)
    refine Aw.iload 3 rfl rfl dX6_digest_110 ?_
    refine Aw.bipush (v := 36) ib_36 rfl dX6_digest_112 ?_
    refine Aw.icmp_ge (q := 117) (t := 144) rfl (by decide) dX6_digest_114 (fun hc => ?_) (fun hc => ?_)
    · refine Aw.iconst (v := 0) ic_0 rfl dX6_digest_144 ?_
      refine Aw.istore (L' := [(4, .int 0), (0, .ref (Gb G + r0)), (1, .long y1), (3, .int x3)]) (Nat.le_of_ble_eq_true rfl) rfl rfl dX6_digest_145 ?_
      refine Aw.sub (L' := [(0, .ref (Gb G + r0)), (1, .long y1), (3, .int x3), (4, .int 0)]) [1, 2, 3, 0] rfl ?_
      exact aw_X6_digest_147 l G _ hrc97 FU _ _ _ _ _
    · refine Aw.ldc2 kl_X6_211 rfl dX6_digest_117 ?_
      refine Aw.lload_n 1 rfl rfl dX6_digest_120 ?_
      refine Aw.lmul rfl dX6_digest_121 ?_
      refine Aw.aload_n 0 rfl rfl dX6_digest_122 ?_
      refine Aw.iload_n 2 rfl rfl dX6_digest_123 ?_
      refine Aw.iload 3 rfl rfl dX6_digest_124 ?_
      refine Aw.iconst (v := 3) ic_3 rfl dX6_digest_126 ?_
      refine Aw.idiv nz_3 rfl dX6_digest_127 ?_
      refine Aw.iload 3 rfl rfl dX6_digest_128 ?_
      refine Aw.iconst (v := 3) ic_3 rfl dX6_digest_130 ?_
      refine Aw.irem nz_3 rfl dX6_digest_131 ?_
      refine Aw.callVi (As := [.int x3, .int (x4 / 3), .int (rem x4 3)]) (rest := [.long (31 * y1)]) cv_X6_117 (Nat.le_of_ble_eq_true rfl) hr0 (ct_X6_atSpot l G r0 x3 (x4 / 3) (rem x4 3) σ) rfl rfl (Nat.le_of_ble_eq_true rfl) (Nat.le_of_ble_eq_true rfl) (Nat.le_of_ble_eq_true rfl) rfl dX6_digest_132 (fun a1 τ2 _ => ?_)
      refine Aw.i2l rfl dX6_digest_135 ?_
      refine Aw.ladd rfl dX6_digest_136 ?_
      refine Aw.bl (fun b3 => ?_)
      refine Aw.lstore_n (L' := [(1, .long b3), (0, .ref (Gb G + r0)), (3, .int x3), (4, .int x4)]) (Nat.le_of_ble_eq_true rfl) rfl rfl dX6_digest_137 ?_
      refine Aw.iinc (v := x4 + 1) (L' := [(4, .int (x4 + 1)), (1, .long b3), (0, .ref (Gb G + r0)), (3, .int x3)]) 3 rfl (ii_1 _) (Nat.le_of_ble_eq_true rfl) rfl rfl dX6_digest_138 ?_
      refine Aw.goto (q := 110) (by decide) dX6_digest_141 ?_
      refine Aw.sub (L' := [(0, .ref (Gb G + r0)), (1, .long b3), (3, .int x3), (4, .int (x4 + 1))]) [2, 1, 3, 0] rfl ?_
      exact ih _ _ _ _ _
set_option maxRecDepth 100000 in
set_option maxHeartbeats 4000000 in
theorem aw_X6_digest_182 (l : Launch) (G : Gt) : ∀ (n : Nat) (r0 : Nat) (y1 : Int64) (x3 : Int32) (σ : Sg), Aw l G MX6_digest rL 182 [(0, .ref (Gb G + r0)), (1, .long y1), (3, .int x3)] [] σ (f_X6_digest_182 n r0 y1 x3 σ) := by
  intro n
  induction n with
  | zero => intro r0 y1 x3 σ; exact Aw.no
  | succ n ih =>
    intro r0 y1 x3 σ
    rw [f_X6_digest_182]
    refine Aw.gd (fun hr0 => ?_)
    refine Aw.iload_n 2 rfl rfl dX6_digest_182 ?_
    refine Aw.aload_n 0 rfl rfl dX6_digest_183 ?_
    refine Aw.getR fl_X6_7 (Nat.le_of_ble_eq_true rfl) rfl hr0 rfl dX6_digest_184 ?_
    refine Aw.iconst (v := 2) ic_2 rfl dX6_digest_187 ?_
    refine Aw.iald (n := 336) (ft_6_0 hr0).1 (ft_6_0 hr0).2 rfl dX6_digest_188 (fun hb1 => ?_)
    refine Aw.icmp_ge (q := 192) (t := 216) rfl (by decide) dX6_digest_189 (fun hc => ?_) (fun hc => ?_)
    · refine Aw.lload_n 1 rfl rfl dX6_digest_216 ?_
      exact Aw.lret rfl dX6_digest_217
    · refine Aw.ldc2 kl_X6_211 rfl dX6_digest_192 ?_
      refine Aw.lload_n 1 rfl rfl dX6_digest_195 ?_
      refine Aw.lmul rfl dX6_digest_196 ?_
      refine Aw.aload_n 0 rfl rfl dX6_digest_197 ?_
      refine Aw.getR fl_X6_7 (Nat.le_of_ble_eq_true rfl) rfl hr0 rfl dX6_digest_198 ?_
      refine Aw.sipush (v := 324) is_324 rfl dX6_digest_201 ?_
      refine Aw.iload_n 2 rfl rfl dX6_digest_204 ?_
      refine Aw.iadd rfl dX6_digest_205 ?_
      refine Aw.iald (n := 336) (ft_6_0 hr0).1 (ft_6_0 hr0).2 rfl dX6_digest_206 (fun hb2 => ?_)
      refine Aw.i2l rfl dX6_digest_207 ?_
      refine Aw.ladd rfl dX6_digest_208 ?_
      refine Aw.bl (fun b3 => ?_)
      refine Aw.lstore_n (L' := [(1, .long b3), (0, .ref (Gb G + r0)), (3, .int x3)]) (Nat.le_of_ble_eq_true rfl) rfl rfl dX6_digest_209 ?_
      refine Aw.iinc (v := x3 + 1) (L' := [(3, .int (x3 + 1)), (1, .long b3), (0, .ref (Gb G + r0))]) 2 rfl (ii_1 _) (Nat.le_of_ble_eq_true rfl) rfl rfl dX6_digest_210 ?_
      refine Aw.goto (q := 182) (by decide) dX6_digest_213 ?_
      refine Aw.sub (L' := [(0, .ref (Gb G + r0)), (1, .long b3), (3, .int (x3 + 1))]) [2, 1, 0] rfl ?_
      exact ih _ _ _ _
set_option maxRecDepth 100000 in
set_option maxHeartbeats 4000000 in
theorem aw_X6_digest_97 (l : Launch) (G : Gt) : ∀ (n : Nat) (r0 : Nat) (y1 : Int64) (x3 : Int32) (σ : Sg), Aw l G MX6_digest rL 97 [(0, .ref (Gb G + r0)), (1, .long y1), (3, .int x3)] [] σ (f_X6_digest_97 n r0 y1 x3 σ) := by
  intro n
  induction n with
  | zero => intro r0 y1 x3 σ; exact Aw.no
  | succ n ih =>
    intro r0 y1 x3 σ
    rw [f_X6_digest_97]
    refine Aw.gd (fun hr0 => ?_)
    refine Aw.iload_n 2 rfl rfl dX6_digest_97 ?_
    refine Aw.aload_n 0 rfl rfl dX6_digest_98 ?_
    refine Aw.getR fl_X6_7 (Nat.le_of_ble_eq_true rfl) rfl hr0 rfl dX6_digest_99 ?_
    refine Aw.iconst (v := 1) ic_1 rfl dX6_digest_102 ?_
    refine Aw.iald (n := 336) (ft_6_0 hr0).1 (ft_6_0 hr0).2 rfl dX6_digest_103 (fun hb1 => ?_)
    refine Aw.icmp_ge (q := 107) (t := 180) rfl (by decide) dX6_digest_104 (fun hc => ?_) (fun hc => ?_)
    · refine Aw.iconst (v := 0) ic_0 rfl dX6_digest_180 ?_
      refine Aw.istore_n (L' := [(3, .int 0), (0, .ref (Gb G + r0)), (1, .long y1)]) (Nat.le_of_ble_eq_true rfl) rfl rfl dX6_digest_181 ?_
      refine Aw.sub (L' := [(0, .ref (Gb G + r0)), (1, .long y1), (3, .int 0)]) [1, 2, 0] rfl ?_
      exact aw_X6_digest_182 l G FU _ _ _ _
    · refine Aw.iconst (v := 0) ic_0 rfl dX6_digest_107 ?_
      refine Aw.istore (L' := [(4, .int 0), (0, .ref (Gb G + r0)), (1, .long y1), (3, .int x3)]) (Nat.le_of_ble_eq_true rfl) rfl rfl dX6_digest_108 ?_
      refine Aw.sub (L' := [(0, .ref (Gb G + r0)), (1, .long y1), (3, .int x3), (4, .int 0)]) [1, 2, 3, 0] rfl ?_
      exact aw_X6_digest_110 l G _ ih FU _ _ _ _ _
set_option maxRecDepth 100000 in
set_option maxHeartbeats 4000000 in
theorem aw_X6_digest_48 (l : Launch) (G : Gt) : ∀ (n : Nat) (r0 : Nat) (y1 : Int64) (x3 : Int32) (σ : Sg), Aw l G MX6_digest rL 48 [(0, .ref (Gb G + r0)), (1, .long y1), (3, .int x3)] [] σ (f_X6_digest_48 n r0 y1 x3 σ) := by
  intro n
  induction n with
  | zero => intro r0 y1 x3 σ; exact Aw.no
  | succ n ih =>
    intro r0 y1 x3 σ
    rw [f_X6_digest_48]
    refine Aw.gd (fun hr0 => ?_)
    refine Aw.iload_n 2 rfl rfl dX6_digest_48 ?_
    refine Aw.aload_n 0 rfl rfl dX6_digest_49 ?_
    refine Aw.getR fl_X6_7 (Nat.le_of_ble_eq_true rfl) rfl hr0 rfl dX6_digest_50 ?_
    refine Aw.iconst (v := 0) ic_0 rfl dX6_digest_53 ?_
    refine Aw.iald (n := 336) (ft_6_0 hr0).1 (ft_6_0 hr0).2 rfl dX6_digest_54 (fun hb1 => ?_)
    refine Aw.icmp_ge (q := 58) (t := 95) rfl (by decide) dX6_digest_55 (fun hc => ?_) (fun hc => ?_)
    · refine Aw.iconst (v := 0) ic_0 rfl dX6_digest_95 ?_
      refine Aw.istore_n (L' := [(3, .int 0), (0, .ref (Gb G + r0)), (1, .long y1)]) (Nat.le_of_ble_eq_true rfl) rfl rfl dX6_digest_96 ?_
      refine Aw.sub (L' := [(0, .ref (Gb G + r0)), (1, .long y1), (3, .int 0)]) [1, 2, 0] rfl ?_
      exact aw_X6_digest_97 l G FU _ _ _ _
    · refine Aw.iconst (v := 0) ic_0 rfl dX6_digest_58 ?_
      refine Aw.istore (L' := [(4, .int 0), (0, .ref (Gb G + r0)), (1, .long y1), (3, .int x3)]) (Nat.le_of_ble_eq_true rfl) rfl rfl dX6_digest_59 ?_
      refine Aw.sub (L' := [(0, .ref (Gb G + r0)), (1, .long y1), (3, .int x3), (4, .int 0)]) [1, 2, 3, 0] rfl ?_
      exact aw_X6_digest_61 l G _ ih FU _ _ _ _ _
set_option maxRecDepth 100000 in
set_option maxHeartbeats 4000000 in
theorem aw_X6_digest_6 (l : Launch) (G : Gt) : ∀ (n : Nat) (r0 : Nat) (y1 : Int64) (x3 : Int32) (σ : Sg), Aw l G MX6_digest rL 6 [(0, .ref (Gb G + r0)), (1, .long y1), (3, .int x3)] [] σ (f_X6_digest_6 n r0 y1 x3 σ) := by
  intro n
  induction n with
  | zero => intro r0 y1 x3 σ; exact Aw.no
  | succ n ih =>
    intro r0 y1 x3 σ
    rw [f_X6_digest_6]
    refine Aw.gd (fun hr0 => ?_)
    refine Aw.iload_n 2 rfl rfl dX6_digest_6 ?_
    refine Aw.bipush (v := 12) ib_12 rfl dX6_digest_7 ?_
    refine Aw.icmp_ge (q := 12) (t := 46) rfl (by decide) dX6_digest_9 (fun hc => ?_) (fun hc => ?_)
    · refine Aw.iconst (v := 0) ic_0 rfl dX6_digest_46 ?_
      refine Aw.istore_n (L' := [(3, .int 0), (0, .ref (Gb G + r0)), (1, .long y1)]) (Nat.le_of_ble_eq_true rfl) rfl rfl dX6_digest_47 ?_
      refine Aw.sub (L' := [(0, .ref (Gb G + r0)), (1, .long y1), (3, .int 0)]) [1, 2, 0] rfl ?_
      exact aw_X6_digest_48 l G FU _ _ _ _
    · refine Aw.ldc2 kl_X6_211 rfl dX6_digest_12 ?_
      refine Aw.lload_n 1 rfl rfl dX6_digest_15 ?_
      refine Aw.lmul rfl dX6_digest_16 ?_
      refine Aw.iload_n 2 rfl rfl dX6_digest_17 ?_
      refine Aw.iconst (v := 5) ic_5 rfl dX6_digest_18 ?_
      refine Aw.icmp_ge (q := 22) (t := 30) rfl (by decide) dX6_digest_19 (fun hc => ?_) (fun hc => ?_)
      · refine Aw.aload_n 0 rfl rfl dX6_digest_30 ?_
        refine Aw.iload_n 2 rfl rfl dX6_digest_31 ?_
        refine Aw.iconst (v := 5) ic_5 rfl dX6_digest_32 ?_
        refine Aw.isub rfl dX6_digest_33 ?_
        refine Aw.callVi (As := [.int (x3 - 5)]) (rest := [.long (31 * y1)]) cv_X6_157 (Nat.le_of_ble_eq_true rfl) hr0 (ct_X6_number l G r0 (x3 - 5) σ) rfl rfl (Nat.le_of_ble_eq_true rfl) (Nat.le_of_ble_eq_true rfl) (Nat.le_of_ble_eq_true rfl) rfl dX6_digest_34 (fun a1 τ2 _ => ?_)
        refine Aw.sub (L' := [(0, .ref (Gb G + r0)), (3, .int x3)]) [0, 2] rfl ?_
        exact aw_X6_digest_37 l G _ ih _ _ _ _ _
      · refine Aw.aload_n 0 rfl rfl dX6_digest_22 ?_
        refine Aw.iload_n 2 rfl rfl dX6_digest_23 ?_
        refine Aw.callVi (As := [.int x3]) (rest := [.long (31 * y1)]) cv_X6_206 (Nat.le_of_ble_eq_true rfl) hr0 (ct_X6_toldOf l G r0 x3 σ) rfl rfl (Nat.le_of_ble_eq_true rfl) (Nat.le_of_ble_eq_true rfl) (Nat.le_of_ble_eq_true rfl) rfl dX6_digest_24 (fun a3 τ4 _ => ?_)
        refine Aw.goto (q := 37) (by decide) dX6_digest_27 ?_
        refine Aw.sub (L' := [(0, .ref (Gb G + r0)), (3, .int x3)]) [0, 2] rfl ?_
        exact aw_X6_digest_37 l G _ ih _ _ _ _ _
set_option maxRecDepth 100000 in
set_option maxHeartbeats 4000000 in
theorem ct_X6_digest (l : Launch) (G : Gt) (r0 : Nat) (σ : Sg) : Ct l G yX6_digest MX6_digest rL [.ref (Gb G + r0)] σ (f_X6_digest r0 σ) := by
  refine Ct.of (by decide +kernel) rfl (Nat.le_of_ble_eq_true rfl) ?_
  show Aw l G MX6_digest rL 0 [(0, .ref (Gb G + r0))] [] σ _
  unfold f_X6_digest
  refine Aw.gd (fun hr0 => ?_)
  refine Aw.ldc2 kl_X6_209 rfl dX6_digest_0 ?_
  refine Aw.lstore_n (L' := [(1, .long 2633), (0, .ref (Gb G + r0))]) (Nat.le_of_ble_eq_true rfl) rfl rfl dX6_digest_3 ?_
  refine Aw.iconst (v := 0) ic_0 rfl dX6_digest_4 ?_
  refine Aw.istore_n (L' := [(3, .int 0), (1, .long 2633), (0, .ref (Gb G + r0))]) (Nat.le_of_ble_eq_true rfl) rfl rfl dX6_digest_5 ?_
  refine Aw.sub (L' := [(0, .ref (Gb G + r0)), (1, .long 2633), (3, .int 0)]) [2, 1, 0] rfl ?_
  exact aw_X6_digest_6 l G FU _ _ _ _
