theorem nest_in : ∀ q ∈ nest, Cond.methodLinkNest q.1 q.2.1 q.2.2.1 q.2.2.2 ∈ lw_tbl := by decide +kernel
theorem gtb_sub {w : Cond} (h : w ∈ gtb) : w ∈ lw_tbl := (List.mem_filter.mp h).1
theorem ao_0 : Cond.arrayOver (.object RX0) ∈ lw_tbl := List.mem_of_getElem? (i := 97) (by decide +kernel)
theorem ao_3 : Cond.arrayOver (.object RX3) ∈ lw_tbl := List.mem_of_getElem? (i := 161) (by decide +kernel)
theorem ao_I : Cond.arrayOver (.array .int) ∈ lw_tbl := List.mem_of_getElem? (i := 216) (by decide +kernel)
set_option maxHeartbeats 4000000 in
/-- what the tables give at the law's entry: the classes' and the arrays' numbers -/
theorem found {s : State} {b : Nat} (hts : ∀ w ∈ lw_tbl, w.before #[Value.ref b] s = true) : ∃ G : Gt, Gb G = s.heap.size ∧ va_K (Gd G) cls (tys G) s := by
  have htg : ∀ w ∈ gtb, w.before #[Value.ref b] s = true := fun w h => hts w (gtb_sub h)
  obtain ⟨c0, i0, hk0⟩ := u_known (C := RX0) (T := TX0) (N := 3) (n := 3) htg ingX0 (htg _ it_X0)
  obtain ⟨c1, i1, hk1⟩ := u_known (C := RX1) (T := TX1) (N := 3) (n := 3) htg ingX1 (htg _ it_X1)
  obtain ⟨c2, i2, hk2⟩ := u_known (C := RX2) (T := TX2) (N := 15) (n := 15) htg ingX2 (htg _ it_X2)
  obtain ⟨c3, i3, hk3⟩ := u_known (C := RX3) (T := TX3) (N := 9) (n := 9) htg ingX3 (htg _ it_X3)
  obtain ⟨c4, i4, hk4⟩ := u_known (C := RX4) (T := TX4) (N := 8) (n := 8) htg ingX4 (htg _ it_X4)
  obtain ⟨c5, i5, hk5⟩ := u_known (C := RX5) (T := TX5) (N := 5) (n := 5) htg ingX5 (htg _ it_X5)
  obtain ⟨c6, i6, hk6⟩ := u_known (C := RX6) (T := TX6) (N := 14) (n := 14) htg ingX6 (htg _ it_X6)
  obtain ⟨aI, kI, pI, f1, f2, f3⟩ := Cond.arrayClass_spec (htg _ ac_int)
  obtain ⟨p0, a0, k0, g1, -, g3, g4, g5⟩ := Cond.arrayOver_spec (hts _ ao_0)
  obtain ⟨p3, a3, k3, j1, -, j3, j4, j5⟩ := Cond.arrayOver_spec (hts _ ao_3)
  obtain ⟨pA, aA, kA, q1, -, q3, q4, q5⟩ := Jvm.Stand.arrayOver_specB (hts _ ao_I)
  refine ⟨(fun k => if k = 0 then c0 else if k = 1 then c1 else if k = 2 then c2 else if k = 3 then c3 else if k = 4 then c4 else if k = 5 then c5 else c6, fun k => if k = 0 then i0 else if k = 1 then i1 else if k = 2 then i2 else if k = 3 then i3 else if k = 4 then i4 else if k = 5 then i5 else i6, s.heap.size, aI, fun t => if t = 8 then a0 else if t = 9 then a3 else aA), rfl, ?_, ?_⟩
  · intro k q hq
    match k, hq with
    | 0, hq => cases hq; exact hk0
    | 1, hq => cases hq; exact hk1
    | 2, hq => cases hq; exact hk2
    | 3, hq => cases hq; exact hk3
    | 4, hq => cases hq; exact hk4
    | 5, hq => cases hq; exact hk5
    | 6, hq => cases hq; exact hk6
    | k + 7, hq => simp [cls] at hq
  · intro k q hq
    match k, hq with
    | 0, hq => cases hq; exact ⟨fun N z => ⟨(fun k h => by cases h), kI, f2, pI, f3⟩, f1⟩
    | 1, hq => cases hq; exact ⟨fun N z => ⟨(fun k h => by cases h), k0, g3, p0, g4⟩, k0, p0, g3, g4, g1, g5⟩
    | 2, hq => cases hq; exact ⟨fun N z => ⟨(fun k h => by cases h), k3, j3, p3, j4⟩, k3, p3, j3, j4, j1, j5⟩
    | 3, hq => cases hq; exact ⟨fun N z => ⟨(fun k h => by cases h), kA, q3, pA, q4⟩, q5⟩
    | k + 4, hq => simp [tys] at hq
set_option maxRecDepth 100000 in
set_option maxHeartbeats 8000000 in
theorem start_of {I : Nat → Sg → Prop} (mono : ∀ n σ, I n σ → I (n + 1) σ) (H0 : ∀ n, n < 600 → ∀ a1 a2 : Int32, Sim (I n) (I (n + 1)) (f_X5_dancer 0 a1 a2) (f_X6_dancer 298 a1 a2)) (H1 : ∀ n, n < 600 → Sim (I n) (I (n + 1)) (f_X5_call 0 ) (f_X6_call 298 )) (H2 : ∀ n, n < 600 → ∀ a1 a2 a3 : Int32, Sim (I n) (I (n + 1)) (f_X5_exchanges 0 a1 a2 a3) (f_X6_exchanges 298 a1 a2 a3)) (H3 : ∀ n, n < 600 → ∀ a1 a2 a3 : Int32, Sim (I n) (I (n + 1)) (f_X5_turns 0 a1 a2 a3) (f_X6_turns 298 a1 a2 a3)) (H4 : ∀ n, n < 600 → ∀ a1 a2 a3 : Int32, Sim (I n) (I (n + 1)) (f_X5_wants 0 a1 a2 a3) (f_X6_wants 298 a1 a2 a3)) (H5 : ∀ n, n < 600 → ∀ a1 a2 : Int32, Sim (I n) (I (n + 1)) (f_X5_joins 0 a1 a2) (f_X6_joins 298 a1 a2)) (H6 : ∀ n, n < 600 → ∀ a1 : Int32, Sim (I n) (I (n + 1)) (f_X5_backwards 0 a1) (f_X6_backwards 298 a1)) (H7 : ∀ n, n < 600 → ∀ a1 : Int32, Sim (I n) (I (n + 1)) (f_X5_gives 0 a1) (f_X6_gives 298 a1)) (H8 : ∀ n, n < 600 → Sim (I n) (I (n + 1)) (f_X5_home 0 ) (f_X6_home 298 )) (H9 : ∀ n, n < 600 → ∀ a1 a2 : Int32, Sim (I n) (I (n + 1)) (f_X5_of 0 a1 a2) (f_X6_of 298 a1 a2)) (H10 : ∀ n, n < 600 → ∀ a1 : Int32, Sim (I n) (I (n + 1)) (f_X5_on 0 a1) (f_X6_on 298 a1)) (H11 : ∀ n, n < 600 → ∀ a1 a2 a3 : Int32, Sim (I n) (I (n + 1)) (f_X5_at 0 a1 a2 a3) (f_X6_at 298 a1 a2 a3)) (H12 : ∀ n, n < 600 → ∀ a1 a2 : Int32, Sim (I n) (I (n + 1)) (f_X5_tells 0 a1 a2) (f_X6_tells 298 a1 a2)) (H13 : ∀ n, n < 600 → ∀ a1 a2 a3 : Int32, Sim (I n) (I (n + 1)) (f_X5_finds 0 a1 a2 a3) (f_X6_finds 298 a1 a2 a3)) (H14 : ∀ n, n < 600 → ∀ a1 a2 a3 a4 : Int32, Sim (I n) (I (n + 1)) (f_X5_found 0 a1 a2 a3 a4) (f_X6_found 298 a1 a2 a3 a4)) (H15 : ∀ n, n < 600 → ∀ a1 a2 : Int32, Sim (I n) (I (n + 1)) (f_X5_rows 0 a1 a2) (f_X6_rows 298 a1 a2)) (H16 : ∀ n, n < 600 → ∀ a1 : Int32, Sim (I n) (I (n + 1)) (f_X5_plans 0 a1) (f_X6_plans 298 a1)) (H17 : ∀ n, n < 600 → Sim (I n) (I (n + 1)) (f_X5_scraps 0 ) (f_X6_scraps 298 )) (H18 : ∀ n, n < 600 → Sim (I n) (I (n + 1)) (f_X5_judges 0 ) (f_X6_judges 298 )) (H19 : ∀ n, n < 600 → ∀ a1 a2 : Int32, Sim (I n) (I (n + 1)) (f_X5_planned 0 a1 a2) (f_X6_planned 298 a1 a2)) (H20 : ∀ n, n < 600 → ∀ a1 : Int32, Sim (I n) (I (n + 1)) (f_X5_count 0 a1) (f_X6_count 298 a1)) (H21 : ∀ n, n < 600 → ∀ a1 : Int32, Sim (I n) (I (n + 1)) (f_X5_type 0 a1) (f_X6_type 298 a1)) (H22 : ∀ n, n < 600 → Sim (I n) (I (n + 1)) (f_X5_clear 0 ) (f_X6_clear 298 )) (H23 : ∀ n, n < 600 → Sim (I n) (I (n + 1)) (f_X5_does 0 ) (f_X6_does 298 )) (H24 : ∀ n, n < 600 → Sim (I n) (I (n + 1)) (f_X5_back 0 ) (f_X6_back 298 )) (H25 : ∀ n, n < 600 → ∀ a1 : Int32, Sim (I n) (I (n + 1)) (f_X5_told 0 a1) (f_X6_told 298 a1)) (H26 : ∀ n, n < 600 → Sim (I n) (I (n + 1)) (f_X5_digest 0 ) (f_X6_digest 298 )) (hI0 : I 0 σ0) {p : Program} {e : Env} {s : State} {m : MethodId} {below : List Frame} {meth : Method} {c : Code} (l : Launch) {b L : Nat} {xs : Nat → Int32} (hL : L ≤ 2560) (C0 : lw_At p s m meth c b L xs) : W p l e room_1 s m #[Value.ref b] below meth c s.heap [] 0 0 (lw_Z below #[Value.ref b] s) (entryFrame m ([Value.ref b] : List Value).toArray 4) := by
  obtain ⟨hx, hb, hr, hml, hown, hts, hX, hbl, hlocks, hgv⟩ := C0
  have hb : c.code = cL_law := hb
  have hown : s.vm.findClass RL = some m.cls := hown
  obtain ⟨G, hG, hK⟩ := found hts
  have htg : ∀ w ∈ gtb, w.before #[Value.ref b] s = true := fun w h => hts w (gtb_sub h)
  have hN : Nl s := fun q hq => va_Nw.of rfl (hts _ (nest_in q hq))
  have hA : AOk s := ⟨va_AO.of (hts _ ao_0), va_AO.of (hts _ ao_3), hts _ ao_I⟩
  have hS : va_S (Af G) s.heap s.heap [] := va_S.rf
  have hP : HK G (fun _ => .inr (0, [])) 0 s.heap := ⟨fun k q h => by simp [wsF] at h, by rw [hG]; rfl⟩
  have hl := lv_entry ([.ref b]) (n := 4) (Nat.le_of_ble_eq_true rfl)
  rw [lg_entry_eq]
  generalize (lg_sl ([.ref b]) ++ List.replicate (4 - (lg_sl ([.ref b])).length) Slot.unset).toArray = ls at hl ⊢
  have hl : lv_has ls 4 [(0, .ref b)] := hl
  refine wNew (G := G) (ci := 5) (r := (RX5, TX5, 5)) (fs := [.null, .null, .null, .null, .null]) hx hb hown htg hK rfl tyX5 tyX5_ok ingX5 kl_L_7 it_X5 ini_X5 (fun j hj => by rcases (show j = 0 ∨ j = 1 ∨ j = 2 ∨ j = 3 ∨ j = 4 from by have : j < 5 := hj; omega) with rfl | rfl | rfl | rfl | rfl <;> rfl) hP hS (Nat.le_of_ble_eq_true rfl) (Nat.le_of_ble_eq_true rfl) dL_law_0 (fun H hP hS => ?_)
  refine lv_dup hx hb dL_law_3 rfl ?_
  refine runK_go (G := G) (mc := 297) (ms := 3263) (va_runI (Ts := gtb) (As := []) (rest := [.ref (Gb G + 0)]) ⟨hx, hb, hml, hown, htg⟩ (ck_X5 l G (va_up (fun _ => .inr (0, [])) 0 (.inr (5, [.null, .null, .null, .null, .null]))) (by simp [va_up])) (cwI 0 htg (gtb_in (fun w hw => ?_)) rfl rfl rfl (htg _ ini_X5) (htg _ ml_L_9) (htg _ ins_X5_init) rfl ⟨by decide, by decide, by decide +kernel⟩ ⟨Nat.le_of_ble_eq_true rfl, Nat.le_of_ble_eq_true rfl⟩) ⟨PreK.blind G _ _ _, fun U hU hW => ⟨rfl, by rw [hU]; exact hP, va_K.moved hW.alike hK, hN.warm hW, hA.moved hW.alike⟩⟩ rfl rfl hl.1 rfl (lv_room (Nat.le_of_ble_eq_true rfl)) dL_law_4 ⟨Nat.le_of_ble_eq_true rfl, Nat.le_of_ble_eq_true rfl⟩) hS (fun H locs hP hS => ?_)
  · rcases List.mem_cons.mp hw with rfl | h
    · exact cw_X5_init
    · exact h
  refine lv_astore_n (lv' := [(1, .ref (Gb G + 0)), (0, .ref b)]) hx hb dL_law_7 rfl hl (by decide) rfl (fun ls hl => ?_)
  refine wNew (G := G) (ci := 6) (r := (RX6, TX6, 14)) (fs := [.null, .null, .int 0, .null, .null, .int 0, .null, .null, .null, .null, .int 0, .int 0, .int 0, .int 0]) hx hb hown htg hK rfl tyX6 tyX6_ok ingX6 kl_L_10 it_X6 ini_X6 (fun j hj => by rcases (show j = 0 ∨ j = 1 ∨ j = 2 ∨ j = 3 ∨ j = 4 ∨ j = 5 ∨ j = 6 ∨ j = 7 ∨ j = 8 ∨ j = 9 ∨ j = 10 ∨ j = 11 ∨ j = 12 ∨ j = 13 from by have : j < 14 := hj; omega) with rfl | rfl | rfl | rfl | rfl | rfl | rfl | rfl | rfl | rfl | rfl | rfl | rfl | rfl <;> rfl) hP hS (Nat.le_of_ble_eq_true rfl) (Nat.le_of_ble_eq_true rfl) dL_law_8 (fun H hP hS => ?_)
  refine lv_dup hx hb dL_law_11 rfl ?_
  refine runK_go (G := G) (mc := 8) (ms := 4137) (va_runI (Ts := gtb) (As := []) (rest := [.ref (Gb G + 298)]) ⟨hx, hb, hml, hown, htg⟩ (ck_X6 l G (va_up (mix G (va_up (fun _ => .inr (0, [])) 0 (.inr (5, [.null, .null, .null, .null, .null]))) 0) 298 (.inr (6, [.null, .null, .int 0, .null, .null, .int 0, .null, .null, .null, .null, .int 0, .int 0, .int 0, .int 0]))) (by simp [va_up])) (cwI 0 htg (gtb_in (fun w hw => ?_)) rfl rfl rfl (htg _ ini_X6) (htg _ ml_L_12) (htg _ ins_X6_init) rfl ⟨by decide, by decide, by decide +kernel⟩ ⟨Nat.le_of_ble_eq_true rfl, Nat.le_of_ble_eq_true rfl⟩) ⟨PreK.blind G _ _ _, fun U hU hW => ⟨rfl, by rw [hU]; exact hP, va_K.moved hW.alike hK, hN.warm hW, hA.moved hW.alike⟩⟩ rfl rfl hl.1 rfl (lv_room (Nat.le_of_ble_eq_true rfl)) dL_law_12 ⟨Nat.le_of_ble_eq_true rfl, Nat.le_of_ble_eq_true rfl⟩) hS (fun H locs hP hS => ?_)
  · rcases List.mem_cons.mp hw with rfl | h
    · exact cw_X6_init
    · exact h
  have hP2 : HK G (ce G σ0) 307 H := hP.congr (fun j hj => by
    unfold mix va_up
    by_cases h1 : j < 298
    · rw [if_pos h1, if_neg (by omega)]
      dsimp only
      rw [if_neg (by omega)]
    · rw [if_neg h1])
  have hP3 : va_P (Gd G) cls (wsO G σ0) H := hP2.1
  refine lv_astore_n (lv' := [(2, .ref (Gb G + 298)), (1, .ref (Gb G + 0)), (0, .ref b)]) hx hb dL_law_15 rfl hl (by decide) rfl (fun ls hl => ?_)
  refine lv_iconst (v := 0) hx hb dL_law_16 (by decide) ?_
  refine lv_istore_n (lv' := [(3, .int 0), (2, .ref (Gb G + 298)), (1, .ref (Gb G + 0)), (0, .ref b)]) hx hb dL_law_17 rfl hl (by decide) rfl (fun ls hl => ?_)
  refine W.widen (k := 600000) (n := 7302250) (Nat.le_of_ble_eq_true rfl) (Nat.le_of_ble_eq_true rfl) ?_
  exact law_loop mono H0 H1 H2 H3 H4 H5 H6 H7 H8 H9 H10 H11 H12 H13 H14 H15 H16 H17 H18 H19 H20 H21 H22 H23 H24 H25 H26 hL (L + 6) 0 σ0 (by omega) (by omega) hI0 p e s m below meth c ⟨hx, hb, hml, hown, htg, hK, hN, hX, hbl, hG, hr, hlocks⟩ ls H locs (lv_sub hl [3, 2, 1, 0] rfl) hP3 hS
