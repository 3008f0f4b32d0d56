/-! THE CLAIM OUT OF ONE WALK OF THE LAW'S BODY. Your part is whole_start (and what it stands on); all else here is the same for every law, but numbers. -/
def R_law : String := "CalledSquareLaw"
def lw_P (b : Addr) (xs : List Int32) (args : Array Value) (s : State) : Prop := args = #[.ref b] ∧ s.IntsAt b xs ∧ xs.length ≤ 2560 ∧ (Jvm.Cond.and given_1 narrow_1).before args s = true
def lw_Q (_ : Array Value) (s : State) (o : Outcome) (t : State) : Prop := o = .returned (some (.int 1)) ∧ Framed s o t [] 600000 7302250
def lw_Z (below : List Frame) (a : Array Value) (s : State) : State → Prop := fun t => ∃ o, t.status = .running ∧ Ended t below o ∧ lw_Q a s o t
/-- the law's own end, with 1 on the stack, nothing written that was there before, its room as the claim has it -/
theorem lw_ret {p : Program} {l : Launch} {e : Env} {s : State} {m : MethodId} {below : List Frame} {meth : Method} {c : Code} {b : Nat} (hx : p.tables.exec = Jvm.exec) (hb : c.code = code) (hr : meth.sig.returnType = ret) (hlocks : meth.locks = false) {pc : Nat} {H : Heap} {ls : Array Slot} (hdg : decode code pc = .ok (.ireturn, 1)) : W p l e room_1 s m #[Value.ref b] below meth c H [] 600000 7302250 (lw_Z below #[Value.ref b] s) (F0 m pc ls [.int 1]) := by
  intro T hT X
  obtain ⟨fs, hret, hrun, hended, hW, hframe⟩ := X.leave (v := some (.int 1)) (hlocks := hlocks) (fun h => by rw [hr] at h; cases h)
  have hmeth' : T.vm.method? m = some meth := X.method'
  refine ⟨T.setFrames fs, ?_, .returned (some (.int 1)), hrun, hended, rfl, ⟨_, rfl⟩, hW, hframe⟩
  jvm_step X.here [X.here.top, hx, hb, hdg, hmeth', hr, ret, narrow_b1]
  (try refine ⟨rfl, ?_⟩); (try refine ⟨rfl, ?_⟩)
  first | (intro acts; rw [hret _ acts rfl rfl rfl]) | rw [hret _ _ rfl rfl rfl]
  exact Steps.refl _
/-- what holds at the law's entry: the machine, the code, the tables' words (any of lw_tbl by 'hts w (by decide +kernel)'), the script of L ints xs at the cell b, what the Statement gives of the start (any of its parts by flat_of_before) -/
def lw_At (p : Program) (s : State) (m : MethodId) (meth : Method) (c : Code) (b L : Nat) (xs : Nat → Int32) : Prop :=
  p.tables.exec = Jvm.exec ∧ c.code = code ∧ meth.sig.returnType = ret ∧ c.maxLocals = 4 ∧ s.vm.findClass R_law = some m.cls ∧ (∀ w ∈ lw_tbl, w.before #[Value.ref b] s = true) ∧ va_X b L xs s s.heap ∧ b < s.heap.size ∧ meth.locks = false ∧ (Jvm.Cond.and given_1 narrow_1).before #[Value.ref b] s = true
/-- what holds wherever the law's code is walked -/
def LC (G : Gt) (b n : Nat) (xs : Nat → Int32) (p : Program) (s : State) (m : MethodId) (meth : Method) (c : Code) : Prop :=
  p.tables.exec = Jvm.exec ∧ c.code = cL_law ∧ c.maxLocals = 4 ∧ s.vm.findClass RL = some m.cls ∧ (∀ w ∈ gtb, w.before #[Value.ref b] s = true) ∧ va_K (Gd G) cls (tys G) s ∧ Nl s ∧ va_X b n xs s s.heap ∧ b < s.heap.size ∧ Gb G = s.heap.size ∧ meth.sig.returnType = ret ∧ meth.locks = false
def Lx (l : Launch) (G : Gt) (b n : Nat) (xs : Nat → Int32) (pc : Nat) (L : List (Nat × Value)) (st : List Value) (σ : Sg) : Prop :=
  ∀ (p : Program) (e : Env) (s : State) (m : MethodId) (below : List Frame) (meth : Method) (c : Code), LC G b n xs p s m meth c → ∀ (ls : Array Slot) (H : Heap) (locs : List Loc), lv_has ls 4 L → va_P (Gd G) cls (wsO G σ) H → va_S (Af G) s.heap H locs → W p l e room_1 s m #[Value.ref b] below meth c H locs 600000 7302250 (lw_Z below #[Value.ref b] s) (F0 m pc ls st)
section LRULES
variable {l : Launch} {G : Gt} {b n : Nat} {xs : Nat → Int32} {pc q : Nat} {L L' : List (Nat × Value)} {st : List Value} {σ : Sg}
theorem Lx.iconst {i : Int} {v : Int32} (hv : Int32.ofInt i = v) (hq : pc + 1 = q) (d : decode cL_law pc = .ok (.iconst i, 1)) (k : Lx l G b n xs q L (.int v :: st) σ) : Lx l G b n xs pc L (st) σ := by
  subst hq; exact fun p e s m below meth c X ls H locs hl hP hS => lv_iconst X.1 X.2.1 d hv (k p e s m below meth c X ls H locs hl hP hS)
theorem Lx.bipush {i : Int} {v : Int32} (hv : (Int8.ofInt i).toInt32 = v) (hq : pc + 2 = q) (d : decode cL_law pc = .ok (.bipush i, 2)) (k : Lx l G b n xs q L (.int v :: st) σ) : Lx l G b n xs pc L (st) σ := by
  subst hq; exact fun p e s m below meth c X ls H locs hl hP hS => lv_bipush X.1 X.2.1 d hv (k p e s m below meth c X ls H locs hl hP hS)
theorem Lx.iload_n {i : Fin 4} {x : Int32} (j : Nat) (hj : L[j]? = some (i.val, .int x)) (hq : pc + 1 = q) (d : decode cL_law pc = .ok (.iload_n i, 1)) (k : Lx l G b n xs q L (.int x :: st) σ) : Lx l G b n xs pc L (st) σ := by
  subst hq; exact fun p e s m below meth c X ls H locs hl hP hS => lv_iload_n X.1 X.2.1 d rfl (lv_at hl j hj) (k p e s m below meth c X ls H locs hl hP hS)
theorem Lx.aload_n {i : Fin 4} {x : Nat} (j : Nat) (hj : L[j]? = some (i.val, .ref x)) (hq : pc + 1 = q) (d : decode cL_law pc = .ok (.aload_n i, 1)) (k : Lx l G b n xs q L (.ref x :: st) σ) : Lx l G b n xs pc L (st) σ := by
  subst hq; exact fun p e s m below meth c X ls H locs hl hP hS => lv_aload_n X.1 X.2.1 d rfl (lv_at hl j hj) (k p e s m below meth c X ls H locs hl hP hS)
theorem Lx.iadd {x y : Int32} (hq : pc + 1 = q) (d : decode cL_law pc = .ok (.iadd, 1)) (k : Lx l G b n xs q L (.int (x + y) :: st) σ) : Lx l G b n xs pc L (.int y :: .int x :: st) σ := by
  subst hq; exact fun p e s m below meth c X ls H locs hl hP hS => lv_iadd X.1 X.2.1 d (k p e s m below meth c X ls H locs hl hP hS)
theorem Lx.isub {x y : Int32} (hq : pc + 1 = q) (d : decode cL_law pc = .ok (.isub, 1)) (k : Lx l G b n xs q L (.int (x - y) :: st) σ) : Lx l G b n xs pc L (.int y :: .int x :: st) σ := by
  subst hq; exact fun p e s m below meth c X ls H locs hl hP hS => lv_isub X.1 X.2.1 d (k p e s m below meth c X ls H locs hl hP hS)
theorem Lx.iand {x y : Int32} (hq : pc + 1 = q) (d : decode cL_law pc = .ok (.iand, 1)) (k : Lx l G b n xs q L (.int (x &&& y) :: st) σ) : Lx l G b n xs pc L (.int y :: .int x :: st) σ := by
  subst hq; exact fun p e s m below meth c X ls H locs hl hP hS => lv_iand X.1 X.2.1 d (k p e s m below meth c X ls H locs hl hP hS)
theorem Lx.lcmp {x y : Int64} (hq : pc + 1 = q) (d : decode cL_law pc = .ok (.lcmp, 1)) (k : Lx l G b n xs q L (.int (lg_cmp x y) :: st) σ) : Lx l G b n xs pc L (.long y :: .long x :: st) σ := by
  subst hq; exact fun p e s m below meth c X ls H locs hl hP hS => W.lcmp X.1 X.2.1 d (k p e s m below meth c X ls H locs hl hP hS)
theorem Lx.iinc {i : Nat} {a : Int} {x v : Int32} (j : Nat) (hj : L[j]? = some (i, .int x)) (hv : x + Int32.ofInt a = v) (hn : i < 4) (hl' : (i, Value.int v) :: L.filter (fun q => !(q.1 == i) && !(q.1 + 1 == i && q.2.category == 2)) = L') (hq : pc + 3 = q) (d : decode cL_law pc = .ok (.iinc i a, 3)) (k : Lx l G b n xs q L' (st) σ) : Lx l G b n xs pc L (st) σ := by
  subst hq; exact fun p e s m below meth c X ls H locs hl hP hS => lv_iinc X.1 X.2.1 d hl hj hv hn hl' (fun ls hl => k p e s m below meth c X ls H locs hl hP hS)
theorem Lx.goto {off : Int} (hq : (pc : Int) + off = (q : Int)) (d : decode cL_law pc = .ok (.goto off, 3)) (k : Lx l G b n xs q L (st) σ) : Lx l G b n xs pc L (st) σ := fun p e s m below meth c X ls H locs hl hP hS => lv_goto X.1 X.2.1 d hq (k p e s m below meth c X ls H locs hl hP hS)
theorem Lx.sub (ks : List Nat) (h : lv_pick L ks = L') (k : Lx l G b n xs pc L' (st) σ) : Lx l G b n xs pc L (st) σ := fun p e s m below meth c X ls H locs hl hP hS => k p e s m below meth c X ls H locs (lv_sub hl ks h) hP hS
theorem Lx.icmp_eq {x y : Int32} {off : Int} {t : Nat} (h : x = y) (ht : (pc : Int) + off = (t : Int)) (d : decode cL_law pc = .ok (.if_icmp .eq off, 3)) (k : Lx l G b n xs t L (st) σ) : Lx l G b n xs pc L (.int y :: .int x :: st) σ := fun p e s m below meth c X ls H locs hl hP hS => lv_icmp_eq X.1 X.2.1 d ht (fun _ => k p e s m below meth c X ls H locs hl hP hS) (fun hc => absurd h hc)
theorem Lx.if_eq {x : Int32} {off : Int} {t : Nat} (h : x = 0) (ht : (pc : Int) + off = (t : Int)) (d : decode cL_law pc = .ok (.ifCond .eq off, 3)) (k : Lx l G b n xs t L (st) σ) : Lx l G b n xs pc L (.int x :: st) σ := fun p e s m below meth c X ls H locs hl hP hS => lv_if_eq X.1 X.2.1 d ht (fun _ => k p e s m below meth c X ls H locs hl hP hS) (fun hc => absurd h hc)
theorem Lx.icmp_gt {x y : Int32} {off : Int} {t : Nat} (hq : pc + 3 = q) (ht : (pc : Int) + off = (t : Int)) (d : decode cL_law pc = .ok (.if_icmp .gt off, 3)) (kt : y < x → Lx l G b n xs t L (st) σ) (kf : ¬ y < x → Lx l G b n xs q L (st) σ) : Lx l G b n xs pc L (.int y :: .int x :: st) σ := by
  subst hq; exact fun p e s m below meth c X ls H locs hl hP hS => lv_icmp_gt X.1 X.2.1 d ht (fun hc => kt hc p e s m below meth c X ls H locs hl hP hS) (fun hc => kf hc p e s m below meth c X ls H locs hl hP hS)
theorem Lx.tsIn {x : Int32} {dflt lo hi off : Int} {offs : Array Int} {len t : Nat} (d : decode cL_law pc = .ok (.tableswitch dflt lo hi offs, len)) (v : Int32) (hx : x = v) (h1 : ¬ v.toInt < lo) (h2 : ¬ hi < v.toInt) (ho : offs[(v.toInt - lo).toNat]? = some off) (ht : (pc : Int) + off = (t : Int)) (k : Lx l G b n xs t L (st) σ) : Lx l G b n xs pc L (.int x :: st) σ := by
  subst hx; exact fun p e s m below meth c X ls H locs hl hP hS => lv_tableIn X.1 X.2.1 d h1 h2 ho ht (k p e s m below meth c X ls H locs hl hP hS)
theorem Lx.tsOut {x : Int32} {dflt lo hi : Int} {offs : Array Int} {len t : Nat} (d : decode cL_law pc = .ok (.tableswitch dflt lo hi offs, len)) (h : x.toInt < lo ∨ hi < x.toInt) (ht : (pc : Int) + dflt = (t : Int)) (k : Lx l G b n xs t L (st) σ) : Lx l G b n xs pc L (.int x :: st) σ := fun p e s m below meth c X ls H locs hl hP hS => lv_tableOut X.1 X.2.1 d h ht (k p e s m below meth c X ls H locs hl hP hS)
theorem Lx.sld {i : Int32} (hi : inb i n) (hq : pc + 1 = q) (d : decode cL_law pc = .ok (.iaload, 1)) (k : Lx l G b n xs q L (.int (xs (ix i)) :: st) σ) : Lx l G b n xs pc L (.int i :: .ref b :: st) σ := by
  subst hq
  exact fun p e s m below meth c X ls H locs hl hP hS => va_sld X.1 X.2.1 X.2.2.2.2.2.2.2.1 X.2.2.2.2.2.2.2.2.1 (fun h => by have h2 : Gb G ≤ b := h; have h3 := X.2.2.2.2.2.2.2.2.1; have h4 := X.2.2.2.2.2.2.2.2.2.1; omega) hS (inb_in hi) d (k p e s m below meth c X ls H locs hl hP hS)
theorem Lx.slen (hq : pc + 1 = q) (d : decode cL_law pc = .ok (.arraylength, 1)) (k : Lx l G b n xs q L (.int (nI n) :: st) σ) : Lx l G b n xs pc L (.ref b :: st) σ := by
  subst hq
  exact fun p e s m below meth c X ls H locs hl hP hS => va_slen X.1 X.2.1 X.2.2.2.2.2.2.2.1 X.2.2.2.2.2.2.2.2.1 (fun h => by have h2 : Gb G ≤ b := h; have h3 := X.2.2.2.2.2.2.2.2.1; have h4 := X.2.2.2.2.2.2.2.2.2.1; omega) hS d (k p e s m below meth c X ls H locs hl hP hS)
theorem Lx.ret (d : decode cL_law pc = .ok (.ireturn, 1)) : Lx l G b n xs pc L ([.int 1]) σ := by
  refine fun p e s m below meth c X ls H locs hl hP hS => ?_
  refine va_forget (fun q hq => by rw [← X.2.2.2.2.2.2.2.2.2.1]; exact hS.2.2 q hq) ?_
  exact lw_ret X.1 X.2.1 X.2.2.2.2.2.2.2.2.2.2.1 X.2.2.2.2.2.2.2.2.2.2.2 d
theorem Lx.callV {β : Type} {rv' : β → Option Value} {i ci a k0 : Nat} {y : MethodName} {M' : Mt} {As rest : List Value} {E0 : Option (β × Sg)} {r : β} {σ1 : Sg} (hv : CV RL i ci y M' a) (hc : ci ≤ 6) (hk : kd k0 = ci) (hct : Ct l G y M' rv' (.ref (Gb G + k0) :: As) σ E0) (hE : E0 = some (r, σ1)) (hn : As.length = a) (hs : st = As.reverse ++ .ref (Gb G + k0) :: rest) (hw : (rest.map fun v => v.category).sum ≤ 8) (hd : M'.2.2.2.2 ≤ 1000) (hl' : M'.2.2.1 ≤ 45) (hq : pc + 3 = q) (d : decode cL_law pc = .ok (.invokevirtual i, 3)) (k : Lx l G b n xs q L ((rv' r).toList ++ rest) σ1) : Lx l G b n xs pc L st σ := by
  subst hq
  obtain ⟨r0, c1, c2, c3, c4, c5, c6, c7, c8⟩ := hv
  refine fun p e s m below meth c X ls H locs hl hP hS => ?_
  have hat := wsO_at G σ (k := k0) (kd_lt (by omega))
  rw [ce_obj G σ hk hc] at hat
  refine run_go (va_runV (Ts := gtb) (As := As) (rest := rest) (C := r0.1) ⟨X.1, X.2.1, X.2.2.1, X.2.2.2.1, X.2.2.2.2.1⟩ (hct r σ1 hE) (cwV a X.2.2.2.2.1 (gtb_in (fun w hw => ?_)) rfl rfl rfl ⟨c2, c8.1, c8.2.1, c8.2.2⟩ ⟨by show M'.2.2.2.2 + 1 ≤ 2048; omega, by show 8 + (M'.2.2.1 + 11) + 64 * M'.2.2.2.2 ≤ 84000; omega⟩) ⟨Pre.blind G σ _, va_recv X.2.2.2.2.2.1 hP c1 hat, fun U hU hW => ⟨rfl, by rw [hU]; exact hP, va_K.moved hW.alike X.2.2.2.2.2.1, X.2.2.2.2.2.2.1.warm hW⟩⟩ rfl hn hl.1 hs (lv_room hw) d ⟨Nat.le_refl _, Nat.le_refl _⟩) hS (fun H1 locs1 hP1 hS1 => k p e s m below meth c X ls H1 locs1 hl hP1 hS1)
  rcases List.mem_append.mp hw with h | h
  · rcases List.mem_cons.mp h with rfl | h
    · exact c3
    rcases List.mem_cons.mp h with rfl | h
    · exact c4
    rcases List.mem_cons.mp h with rfl | h
    · exact c5
    rcases List.mem_cons.mp h with rfl | h
    · exact c6
    · cases h
  · rcases List.mem_cons.mp h with rfl | h
    · exact c7
    · exact h
end LRULES
/-- the class and the reference answer alike, and stay alike -/
def Sim {β : Type} (I J : Sg → Prop) (fx fm : Sg → Option (β × Sg)) : Prop := ∀ σ, I σ → ∃ (r : β) (σ1 σ2 : Sg), fx σ = some (r, σ1) ∧ fm σ1 = some (r, σ2) ∧ J σ2
theorem ii_5 (x : Int32) : x + Int32.ofInt 5 = x + 5 := rfl
theorem ib_31 : (Int8.ofInt 31).toInt32 = 31 := by decide
theorem cv_L_13 : CV RL 13 5 yX5_dancer MX5_dancer 2 := ⟨_, rfl, rfl, ml_L_13, ins_X5_dancer, sel_X5_dancer, ini_X5, cw_X5_dancer, ⟨by decide, by decide, by decide +kernel⟩⟩
theorem cv_L_17 : CV RL 17 6 yX6_dancer MX6_dancer 2 := ⟨_, rfl, rfl, ml_L_17, ins_X6_dancer, sel_X6_dancer, ini_X6, cw_X6_dancer, ⟨by decide, by decide, by decide +kernel⟩⟩
theorem cv_L_18 : CV RL 18 5 yX5_call MX5_call 0 := ⟨_, rfl, rfl, ml_L_18, ins_X5_call, sel_X5_call, ini_X5, cw_X5_call, ⟨by decide, by decide, by decide +kernel⟩⟩
theorem cv_L_22 : CV RL 22 6 yX6_call MX6_call 0 := ⟨_, rfl, rfl, ml_L_22, ins_X6_call, sel_X6_call, ini_X6, cw_X6_call, ⟨by decide, by decide, by decide +kernel⟩⟩
theorem cv_L_23 : CV RL 23 5 yX5_exchanges MX5_exchanges 3 := ⟨_, rfl, rfl, ml_L_23, ins_X5_exchanges, sel_X5_exchanges, ini_X5, cw_X5_exchanges, ⟨by decide, by decide, by decide +kernel⟩⟩
theorem cv_L_27 : CV RL 27 6 yX6_exchanges MX6_exchanges 3 := ⟨_, rfl, rfl, ml_L_27, ins_X6_exchanges, sel_X6_exchanges, ini_X6, cw_X6_exchanges, ⟨by decide, by decide, by decide +kernel⟩⟩
theorem cv_L_28 : CV RL 28 5 yX5_turns MX5_turns 3 := ⟨_, rfl, rfl, ml_L_28, ins_X5_turns, sel_X5_turns, ini_X5, cw_X5_turns, ⟨by decide, by decide, by decide +kernel⟩⟩
theorem cv_L_31 : CV RL 31 6 yX6_turns MX6_turns 3 := ⟨_, rfl, rfl, ml_L_31, ins_X6_turns, sel_X6_turns, ini_X6, cw_X6_turns, ⟨by decide, by decide, by decide +kernel⟩⟩
theorem cv_L_32 : CV RL 32 5 yX5_wants MX5_wants 3 := ⟨_, rfl, rfl, ml_L_32, ins_X5_wants, sel_X5_wants, ini_X5, cw_X5_wants, ⟨by decide, by decide, by decide +kernel⟩⟩
theorem cv_L_35 : CV RL 35 6 yX6_wants MX6_wants 3 := ⟨_, rfl, rfl, ml_L_35, ins_X6_wants, sel_X6_wants, ini_X6, cw_X6_wants, ⟨by decide, by decide, by decide +kernel⟩⟩
theorem cv_L_36 : CV RL 36 5 yX5_joins MX5_joins 2 := ⟨_, rfl, rfl, ml_L_36, ins_X5_joins, sel_X5_joins, ini_X5, cw_X5_joins, ⟨by decide, by decide, by decide +kernel⟩⟩
theorem cv_L_39 : CV RL 39 6 yX6_joins MX6_joins 2 := ⟨_, rfl, rfl, ml_L_39, ins_X6_joins, sel_X6_joins, ini_X6, cw_X6_joins, ⟨by decide, by decide, by decide +kernel⟩⟩
theorem cv_L_40 : CV RL 40 5 yX5_backwards MX5_backwards 1 := ⟨_, rfl, rfl, ml_L_40, ins_X5_backwards, sel_X5_backwards, ini_X5, cw_X5_backwards, ⟨by decide, by decide, by decide +kernel⟩⟩
theorem cv_L_44 : CV RL 44 6 yX6_backwards MX6_backwards 1 := ⟨_, rfl, rfl, ml_L_44, ins_X6_backwards, sel_X6_backwards, ini_X6, cw_X6_backwards, ⟨by decide, by decide, by decide +kernel⟩⟩
theorem cv_L_45 : CV RL 45 5 yX5_gives MX5_gives 1 := ⟨_, rfl, rfl, ml_L_45, ins_X5_gives, sel_X5_gives, ini_X5, cw_X5_gives, ⟨by decide, by decide, by decide +kernel⟩⟩
theorem cv_L_48 : CV RL 48 6 yX6_gives MX6_gives 1 := ⟨_, rfl, rfl, ml_L_48, ins_X6_gives, sel_X6_gives, ini_X6, cw_X6_gives, ⟨by decide, by decide, by decide +kernel⟩⟩
theorem cv_L_49 : CV RL 49 5 yX5_home MX5_home 0 := ⟨_, rfl, rfl, ml_L_49, ins_X5_home, sel_X5_home, ini_X5, cw_X5_home, ⟨by decide, by decide, by decide +kernel⟩⟩
theorem cv_L_52 : CV RL 52 6 yX6_home MX6_home 0 := ⟨_, rfl, rfl, ml_L_52, ins_X6_home, sel_X6_home, ini_X6, cw_X6_home, ⟨by decide, by decide, by decide +kernel⟩⟩
theorem cv_L_53 : CV RL 53 5 yX5_of MX5_of 2 := ⟨_, rfl, rfl, ml_L_53, ins_X5_of, sel_X5_of, ini_X5, cw_X5_of, ⟨by decide, by decide, by decide +kernel⟩⟩
theorem cv_L_56 : CV RL 56 6 yX6_of MX6_of 2 := ⟨_, rfl, rfl, ml_L_56, ins_X6_of, sel_X6_of, ini_X6, cw_X6_of, ⟨by decide, by decide, by decide +kernel⟩⟩
theorem cv_L_57 : CV RL 57 5 yX5_on MX5_on 1 := ⟨_, rfl, rfl, ml_L_57, ins_X5_on, sel_X5_on, ini_X5, cw_X5_on, ⟨by decide, by decide, by decide +kernel⟩⟩
theorem cv_L_60 : CV RL 60 6 yX6_on MX6_on 1 := ⟨_, rfl, rfl, ml_L_60, ins_X6_on, sel_X6_on, ini_X6, cw_X6_on, ⟨by decide, by decide, by decide +kernel⟩⟩
theorem cv_L_61 : CV RL 61 5 yX5_at MX5_at 3 := ⟨_, rfl, rfl, ml_L_61, ins_X5_at, sel_X5_at, ini_X5, cw_X5_at, ⟨by decide, by decide, by decide +kernel⟩⟩
theorem cv_L_64 : CV RL 64 6 yX6_at MX6_at 3 := ⟨_, rfl, rfl, ml_L_64, ins_X6_at, sel_X6_at, ini_X6, cw_X6_at, ⟨by decide, by decide, by decide +kernel⟩⟩
theorem cv_L_65 : CV RL 65 5 yX5_tells MX5_tells 2 := ⟨_, rfl, rfl, ml_L_65, ins_X5_tells, sel_X5_tells, ini_X5, cw_X5_tells, ⟨by decide, by decide, by decide +kernel⟩⟩
theorem cv_L_68 : CV RL 68 6 yX6_tells MX6_tells 2 := ⟨_, rfl, rfl, ml_L_68, ins_X6_tells, sel_X6_tells, ini_X6, cw_X6_tells, ⟨by decide, by decide, by decide +kernel⟩⟩
theorem cv_L_69 : CV RL 69 5 yX5_finds MX5_finds 3 := ⟨_, rfl, rfl, ml_L_69, ins_X5_finds, sel_X5_finds, ini_X5, cw_X5_finds, ⟨by decide, by decide, by decide +kernel⟩⟩
theorem cv_L_72 : CV RL 72 6 yX6_finds MX6_finds 3 := ⟨_, rfl, rfl, ml_L_72, ins_X6_finds, sel_X6_finds, ini_X6, cw_X6_finds, ⟨by decide, by decide, by decide +kernel⟩⟩
theorem cv_L_73 : CV RL 73 5 yX5_found MX5_found 4 := ⟨_, rfl, rfl, ml_L_73, ins_X5_found, sel_X5_found, ini_X5, cw_X5_found, ⟨by decide, by decide, by decide +kernel⟩⟩
theorem cv_L_77 : CV RL 77 6 yX6_found MX6_found 4 := ⟨_, rfl, rfl, ml_L_77, ins_X6_found, sel_X6_found, ini_X6, cw_X6_found, ⟨by decide, by decide, by decide +kernel⟩⟩
theorem cv_L_78 : CV RL 78 5 yX5_rows MX5_rows 2 := ⟨_, rfl, rfl, ml_L_78, ins_X5_rows, sel_X5_rows, ini_X5, cw_X5_rows, ⟨by decide, by decide, by decide +kernel⟩⟩
theorem cv_L_81 : CV RL 81 6 yX6_rows MX6_rows 2 := ⟨_, rfl, rfl, ml_L_81, ins_X6_rows, sel_X6_rows, ini_X6, cw_X6_rows, ⟨by decide, by decide, by decide +kernel⟩⟩
theorem cv_L_82 : CV RL 82 5 yX5_plans MX5_plans 1 := ⟨_, rfl, rfl, ml_L_82, ins_X5_plans, sel_X5_plans, ini_X5, cw_X5_plans, ⟨by decide, by decide, by decide +kernel⟩⟩
theorem cv_L_85 : CV RL 85 6 yX6_plans MX6_plans 1 := ⟨_, rfl, rfl, ml_L_85, ins_X6_plans, sel_X6_plans, ini_X6, cw_X6_plans, ⟨by decide, by decide, by decide +kernel⟩⟩
theorem cv_L_86 : CV RL 86 5 yX5_scraps MX5_scraps 0 := ⟨_, rfl, rfl, ml_L_86, ins_X5_scraps, sel_X5_scraps, ini_X5, cw_X5_scraps, ⟨by decide, by decide, by decide +kernel⟩⟩
theorem cv_L_89 : CV RL 89 6 yX6_scraps MX6_scraps 0 := ⟨_, rfl, rfl, ml_L_89, ins_X6_scraps, sel_X6_scraps, ini_X6, cw_X6_scraps, ⟨by decide, by decide, by decide +kernel⟩⟩
theorem cv_L_90 : CV RL 90 5 yX5_judges MX5_judges 0 := ⟨_, rfl, rfl, ml_L_90, ins_X5_judges, sel_X5_judges, ini_X5, cw_X5_judges, ⟨by decide, by decide, by decide +kernel⟩⟩
theorem cv_L_93 : CV RL 93 6 yX6_judges MX6_judges 0 := ⟨_, rfl, rfl, ml_L_93, ins_X6_judges, sel_X6_judges, ini_X6, cw_X6_judges, ⟨by decide, by decide, by decide +kernel⟩⟩
theorem cv_L_94 : CV RL 94 5 yX5_planned MX5_planned 2 := ⟨_, rfl, rfl, ml_L_94, ins_X5_planned, sel_X5_planned, ini_X5, cw_X5_planned, ⟨by decide, by decide, by decide +kernel⟩⟩
theorem cv_L_97 : CV RL 97 6 yX6_planned MX6_planned 2 := ⟨_, rfl, rfl, ml_L_97, ins_X6_planned, sel_X6_planned, ini_X6, cw_X6_planned, ⟨by decide, by decide, by decide +kernel⟩⟩
theorem cv_L_98 : CV RL 98 5 yX5_count MX5_count 1 := ⟨_, rfl, rfl, ml_L_98, ins_X5_count, sel_X5_count, ini_X5, cw_X5_count, ⟨by decide, by decide, by decide +kernel⟩⟩
theorem cv_L_101 : CV RL 101 6 yX6_count MX6_count 1 := ⟨_, rfl, rfl, ml_L_101, ins_X6_count, sel_X6_count, ini_X6, cw_X6_count, ⟨by decide, by decide, by decide +kernel⟩⟩
theorem cv_L_102 : CV RL 102 5 yX5_type MX5_type 1 := ⟨_, rfl, rfl, ml_L_102, ins_X5_type, sel_X5_type, ini_X5, cw_X5_type, ⟨by decide, by decide, by decide +kernel⟩⟩
theorem cv_L_105 : CV RL 105 6 yX6_type MX6_type 1 := ⟨_, rfl, rfl, ml_L_105, ins_X6_type, sel_X6_type, ini_X6, cw_X6_type, ⟨by decide, by decide, by decide +kernel⟩⟩
theorem cv_L_106 : CV RL 106 5 yX5_clear MX5_clear 0 := ⟨_, rfl, rfl, ml_L_106, ins_X5_clear, sel_X5_clear, ini_X5, cw_X5_clear, ⟨by decide, by decide, by decide +kernel⟩⟩
theorem cv_L_109 : CV RL 109 6 yX6_clear MX6_clear 0 := ⟨_, rfl, rfl, ml_L_109, ins_X6_clear, sel_X6_clear, ini_X6, cw_X6_clear, ⟨by decide, by decide, by decide +kernel⟩⟩
theorem cv_L_110 : CV RL 110 5 yX5_does MX5_does 0 := ⟨_, rfl, rfl, ml_L_110, ins_X5_does, sel_X5_does, ini_X5, cw_X5_does, ⟨by decide, by decide, by decide +kernel⟩⟩
theorem cv_L_113 : CV RL 113 6 yX6_does MX6_does 0 := ⟨_, rfl, rfl, ml_L_113, ins_X6_does, sel_X6_does, ini_X6, cw_X6_does, ⟨by decide, by decide, by decide +kernel⟩⟩
theorem cv_L_114 : CV RL 114 5 yX5_back MX5_back 0 := ⟨_, rfl, rfl, ml_L_114, ins_X5_back, sel_X5_back, ini_X5, cw_X5_back, ⟨by decide, by decide, by decide +kernel⟩⟩
theorem cv_L_117 : CV RL 117 6 yX6_back MX6_back 0 := ⟨_, rfl, rfl, ml_L_117, ins_X6_back, sel_X6_back, ini_X6, cw_X6_back, ⟨by decide, by decide, by decide +kernel⟩⟩
theorem cv_L_118 : CV RL 118 5 yX5_told MX5_told 1 := ⟨_, rfl, rfl, ml_L_118, ins_X5_told, sel_X5_told, ini_X5, cw_X5_told, ⟨by decide, by decide, by decide +kernel⟩⟩
theorem cv_L_121 : CV RL 121 6 yX6_told MX6_told 1 := ⟨_, rfl, rfl, ml_L_121, ins_X6_told, sel_X6_told, ini_X6, cw_X6_told, ⟨by decide, by decide, by decide +kernel⟩⟩
theorem cv_L_122 : CV RL 122 5 yX5_digest MX5_digest 0 := ⟨_, rfl, rfl, ml_L_122, ins_X5_digest, sel_X5_digest, ini_X5, cw_X5_digest, ⟨by decide, by decide, by decide +kernel⟩⟩
theorem cv_L_126 : CV RL 126 6 yX6_digest MX6_digest 0 := ⟨_, rfl, rfl, ml_L_126, ins_X6_digest, sel_X6_digest, ini_X6, cw_X6_digest, ⟨by decide, by decide, by decide +kernel⟩⟩
set_option maxRecDepth 100000 in
set_option maxHeartbeats 4000000 in
theorem law_c0 {I J : Sg → Prop} (H0 : ∀ a1 a2 : Int32, Sim I J (f_X5_dancer 0 a1 a2) (f_X6_dancer 298 a1 a2)) {l : Launch} {G : Gt} {b n : Nat} {xs : Nat → Int32} {x : Int32} (h1 : inb (x + 1) n) (h2 : inb (x + 2) n) (σ : Sg) (hI : I σ) (k : ∀ τ, J τ → Lx l G b n xs 888 [(0, .ref b), (1, .ref (Gb G + 0)), (2, .ref (Gb G + 298)), (3, .int x)] [] τ) : Lx l G b n xs 156 [(0, .ref b), (1, .ref (Gb G + 0)), (2, .ref (Gb G + 298)), (3, .int x)] [] σ := by
  obtain ⟨r, σ1, σ2, e1, e2, hI2⟩ := H0 (xs (ix (x + 1))) (xs (ix (x + 2))) σ hI
  refine Lx.aload_n 1 rfl rfl dL_law_156 ?_
  refine Lx.aload_n 0 rfl rfl dL_law_157 ?_
  refine Lx.iload_n 3 rfl rfl dL_law_158 ?_
  refine Lx.iconst (v := 1) ic_1 rfl dL_law_159 ?_
  refine Lx.iadd rfl dL_law_160 ?_
  refine Lx.sld (h1) rfl dL_law_161 ?_
  refine Lx.aload_n 0 rfl rfl dL_law_162 ?_
  refine Lx.iload_n 3 rfl rfl dL_law_163 ?_
  refine Lx.iconst (v := 2) ic_2 rfl dL_law_164 ?_
  refine Lx.iadd rfl dL_law_165 ?_
  refine Lx.sld (h2) rfl dL_law_166 ?_
  refine Lx.callV (rv' := rI) (As := [.int (xs (ix (x + 1))), .int (xs (ix (x + 2)))]) (rest := []) cv_L_13 (by decide) (by decide +kernel) (ct_X5_dancer l G 0 (xs (ix (x + 1))) (xs (ix (x + 2))) σ) e1 rfl rfl (Nat.le_of_ble_eq_true rfl) (by decide) (by decide) rfl dL_law_167 ?_
  show Lx l G b n xs 170 [(0, .ref b), (1, .ref (Gb G + 0)), (2, .ref (Gb G + 298)), (3, .int x)] [.int r] σ1
  refine Lx.aload_n 2 rfl rfl dL_law_170 ?_
  refine Lx.aload_n 0 rfl rfl dL_law_171 ?_
  refine Lx.iload_n 3 rfl rfl dL_law_172 ?_
  refine Lx.iconst (v := 1) ic_1 rfl dL_law_173 ?_
  refine Lx.iadd rfl dL_law_174 ?_
  refine Lx.sld (h1) rfl dL_law_175 ?_
  refine Lx.aload_n 0 rfl rfl dL_law_176 ?_
  refine Lx.iload_n 3 rfl rfl dL_law_177 ?_
  refine Lx.iconst (v := 2) ic_2 rfl dL_law_178 ?_
  refine Lx.iadd rfl dL_law_179 ?_
  refine Lx.sld (h2) rfl dL_law_180 ?_
  refine Lx.callV (rv' := rI) (As := [.int (xs (ix (x + 1))), .int (xs (ix (x + 2)))]) (rest := [.int r]) cv_L_17 (by decide) (by decide +kernel) (ct_X6_dancer l G 298 (xs (ix (x + 1))) (xs (ix (x + 2))) σ1) e2 rfl rfl (Nat.le_of_ble_eq_true rfl) (by decide) (by decide) rfl dL_law_181 ?_
  show Lx l G b n xs 184 [(0, .ref b), (1, .ref (Gb G + 0)), (2, .ref (Gb G + 298)), (3, .int x)] [.int r, .int r] σ2
  refine Lx.icmp_eq (t := 888) rfl (by decide) dL_law_184 ?_
  exact k σ2 hI2
set_option maxRecDepth 100000 in
set_option maxHeartbeats 4000000 in
theorem law_c1 {I J : Sg → Prop} (H1 : Sim I J (f_X5_call 0 ) (f_X6_call 298 )) {l : Launch} {G : Gt} {b n : Nat} {xs : Nat → Int32} {x : Int32} (σ : Sg) (hI : I σ) (k : ∀ τ, J τ → Lx l G b n xs 888 [(0, .ref b), (1, .ref (Gb G + 0)), (2, .ref (Gb G + 298)), (3, .int x)] [] τ) : Lx l G b n xs 189 [(0, .ref b), (1, .ref (Gb G + 0)), (2, .ref (Gb G + 298)), (3, .int x)] [] σ := by
  obtain ⟨r, σ1, σ2, e1, e2, hI2⟩ := H1  σ hI
  refine Lx.aload_n 1 rfl rfl dL_law_189 ?_
  refine Lx.callV (rv' := rI) (As := []) (rest := []) cv_L_18 (by decide) (by decide +kernel) (ct_X5_call l G 0  σ) e1 rfl rfl (Nat.le_of_ble_eq_true rfl) (by decide) (by decide) rfl dL_law_190 ?_
  show Lx l G b n xs 193 [(0, .ref b), (1, .ref (Gb G + 0)), (2, .ref (Gb G + 298)), (3, .int x)] [.int r] σ1
  refine Lx.aload_n 2 rfl rfl dL_law_193 ?_
  refine Lx.callV (rv' := rI) (As := []) (rest := [.int r]) cv_L_22 (by decide) (by decide +kernel) (ct_X6_call l G 298  σ1) e2 rfl rfl (Nat.le_of_ble_eq_true rfl) (by decide) (by decide) rfl dL_law_194 ?_
  show Lx l G b n xs 197 [(0, .ref b), (1, .ref (Gb G + 0)), (2, .ref (Gb G + 298)), (3, .int x)] [.int r, .int r] σ2
  refine Lx.icmp_eq (t := 888) rfl (by decide) dL_law_197 ?_
  exact k σ2 hI2
set_option maxRecDepth 100000 in
set_option maxHeartbeats 4000000 in
theorem law_c2 {I J : Sg → Prop} (H2 : ∀ a1 a2 a3 : Int32, Sim I J (f_X5_exchanges 0 a1 a2 a3) (f_X6_exchanges 298 a1 a2 a3)) {l : Launch} {G : Gt} {b n : Nat} {xs : Nat → Int32} {x : Int32} (h1 : inb (x + 1) n) (h2 : inb (x + 2) n) (h3 : inb (x + 3) n) (σ : Sg) (hI : I σ) (k : ∀ τ, J τ → Lx l G b n xs 888 [(0, .ref b), (1, .ref (Gb G + 0)), (2, .ref (Gb G + 298)), (3, .int x)] [] τ) : Lx l G b n xs 202 [(0, .ref b), (1, .ref (Gb G + 0)), (2, .ref (Gb G + 298)), (3, .int x)] [] σ := by
  obtain ⟨r, σ1, σ2, e1, e2, hI2⟩ := H2 (xs (ix (x + 1))) (xs (ix (x + 2))) (xs (ix (x + 3))) σ hI
  refine Lx.aload_n 1 rfl rfl dL_law_202 ?_
  refine Lx.aload_n 0 rfl rfl dL_law_203 ?_
  refine Lx.iload_n 3 rfl rfl dL_law_204 ?_
  refine Lx.iconst (v := 1) ic_1 rfl dL_law_205 ?_
  refine Lx.iadd rfl dL_law_206 ?_
  refine Lx.sld (h1) rfl dL_law_207 ?_
  refine Lx.aload_n 0 rfl rfl dL_law_208 ?_
  refine Lx.iload_n 3 rfl rfl dL_law_209 ?_
  refine Lx.iconst (v := 2) ic_2 rfl dL_law_210 ?_
  refine Lx.iadd rfl dL_law_211 ?_
  refine Lx.sld (h2) rfl dL_law_212 ?_
  refine Lx.aload_n 0 rfl rfl dL_law_213 ?_
  refine Lx.iload_n 3 rfl rfl dL_law_214 ?_
  refine Lx.iconst (v := 3) ic_3 rfl dL_law_215 ?_
  refine Lx.iadd rfl dL_law_216 ?_
  refine Lx.sld (h3) rfl dL_law_217 ?_
  refine Lx.callV (rv' := rI) (As := [.int (xs (ix (x + 1))), .int (xs (ix (x + 2))), .int (xs (ix (x + 3)))]) (rest := []) cv_L_23 (by decide) (by decide +kernel) (ct_X5_exchanges l G 0 (xs (ix (x + 1))) (xs (ix (x + 2))) (xs (ix (x + 3))) σ) e1 rfl rfl (Nat.le_of_ble_eq_true rfl) (by decide) (by decide) rfl dL_law_218 ?_
  show Lx l G b n xs 221 [(0, .ref b), (1, .ref (Gb G + 0)), (2, .ref (Gb G + 298)), (3, .int x)] [.int r] σ1
  refine Lx.aload_n 2 rfl rfl dL_law_221 ?_
  refine Lx.aload_n 0 rfl rfl dL_law_222 ?_
  refine Lx.iload_n 3 rfl rfl dL_law_223 ?_
  refine Lx.iconst (v := 1) ic_1 rfl dL_law_224 ?_
  refine Lx.iadd rfl dL_law_225 ?_
  refine Lx.sld (h1) rfl dL_law_226 ?_
  refine Lx.aload_n 0 rfl rfl dL_law_227 ?_
  refine Lx.iload_n 3 rfl rfl dL_law_228 ?_
  refine Lx.iconst (v := 2) ic_2 rfl dL_law_229 ?_
  refine Lx.iadd rfl dL_law_230 ?_
  refine Lx.sld (h2) rfl dL_law_231 ?_
  refine Lx.aload_n 0 rfl rfl dL_law_232 ?_
  refine Lx.iload_n 3 rfl rfl dL_law_233 ?_
  refine Lx.iconst (v := 3) ic_3 rfl dL_law_234 ?_
  refine Lx.iadd rfl dL_law_235 ?_
  refine Lx.sld (h3) rfl dL_law_236 ?_
  refine Lx.callV (rv' := rI) (As := [.int (xs (ix (x + 1))), .int (xs (ix (x + 2))), .int (xs (ix (x + 3)))]) (rest := [.int r]) cv_L_27 (by decide) (by decide +kernel) (ct_X6_exchanges l G 298 (xs (ix (x + 1))) (xs (ix (x + 2))) (xs (ix (x + 3))) σ1) e2 rfl rfl (Nat.le_of_ble_eq_true rfl) (by decide) (by decide) rfl dL_law_237 ?_
  show Lx l G b n xs 240 [(0, .ref b), (1, .ref (Gb G + 0)), (2, .ref (Gb G + 298)), (3, .int x)] [.int r, .int r] σ2
  refine Lx.icmp_eq (t := 888) rfl (by decide) dL_law_240 ?_
  exact k σ2 hI2
set_option maxRecDepth 100000 in
set_option maxHeartbeats 4000000 in
theorem law_c3 {I J : Sg → Prop} (H3 : ∀ a1 a2 a3 : Int32, Sim I J (f_X5_turns 0 a1 a2 a3) (f_X6_turns 298 a1 a2 a3)) {l : Launch} {G : Gt} {b n : Nat} {xs : Nat → Int32} {x : Int32} (h1 : inb (x + 1) n) (h2 : inb (x + 2) n) (h3 : inb (x + 3) n) (σ : Sg) (hI : I σ) (k : ∀ τ, J τ → Lx l G b n xs 888 [(0, .ref b), (1, .ref (Gb G + 0)), (2, .ref (Gb G + 298)), (3, .int x)] [] τ) : Lx l G b n xs 245 [(0, .ref b), (1, .ref (Gb G + 0)), (2, .ref (Gb G + 298)), (3, .int x)] [] σ := by
  obtain ⟨r, σ1, σ2, e1, e2, hI2⟩ := H3 (xs (ix (x + 1))) (xs (ix (x + 2))) (xs (ix (x + 3))) σ hI
  refine Lx.aload_n 1 rfl rfl dL_law_245 ?_
  refine Lx.aload_n 0 rfl rfl dL_law_246 ?_
  refine Lx.iload_n 3 rfl rfl dL_law_247 ?_
  refine Lx.iconst (v := 1) ic_1 rfl dL_law_248 ?_
  refine Lx.iadd rfl dL_law_249 ?_
  refine Lx.sld (h1) rfl dL_law_250 ?_
  refine Lx.aload_n 0 rfl rfl dL_law_251 ?_
  refine Lx.iload_n 3 rfl rfl dL_law_252 ?_
  refine Lx.iconst (v := 2) ic_2 rfl dL_law_253 ?_
  refine Lx.iadd rfl dL_law_254 ?_
  refine Lx.sld (h2) rfl dL_law_255 ?_
  refine Lx.aload_n 0 rfl rfl dL_law_256 ?_
  refine Lx.iload_n 3 rfl rfl dL_law_257 ?_
  refine Lx.iconst (v := 3) ic_3 rfl dL_law_258 ?_
  refine Lx.iadd rfl dL_law_259 ?_
  refine Lx.sld (h3) rfl dL_law_260 ?_
  refine Lx.callV (rv' := rI) (As := [.int (xs (ix (x + 1))), .int (xs (ix (x + 2))), .int (xs (ix (x + 3)))]) (rest := []) cv_L_28 (by decide) (by decide +kernel) (ct_X5_turns l G 0 (xs (ix (x + 1))) (xs (ix (x + 2))) (xs (ix (x + 3))) σ) e1 rfl rfl (Nat.le_of_ble_eq_true rfl) (by decide) (by decide) rfl dL_law_261 ?_
  show Lx l G b n xs 264 [(0, .ref b), (1, .ref (Gb G + 0)), (2, .ref (Gb G + 298)), (3, .int x)] [.int r] σ1
  refine Lx.aload_n 2 rfl rfl dL_law_264 ?_
  refine Lx.aload_n 0 rfl rfl dL_law_265 ?_
  refine Lx.iload_n 3 rfl rfl dL_law_266 ?_
  refine Lx.iconst (v := 1) ic_1 rfl dL_law_267 ?_
  refine Lx.iadd rfl dL_law_268 ?_
  refine Lx.sld (h1) rfl dL_law_269 ?_
  refine Lx.aload_n 0 rfl rfl dL_law_270 ?_
  refine Lx.iload_n 3 rfl rfl dL_law_271 ?_
  refine Lx.iconst (v := 2) ic_2 rfl dL_law_272 ?_
  refine Lx.iadd rfl dL_law_273 ?_
  refine Lx.sld (h2) rfl dL_law_274 ?_
  refine Lx.aload_n 0 rfl rfl dL_law_275 ?_
  refine Lx.iload_n 3 rfl rfl dL_law_276 ?_
  refine Lx.iconst (v := 3) ic_3 rfl dL_law_277 ?_
  refine Lx.iadd rfl dL_law_278 ?_
  refine Lx.sld (h3) rfl dL_law_279 ?_
  refine Lx.callV (rv' := rI) (As := [.int (xs (ix (x + 1))), .int (xs (ix (x + 2))), .int (xs (ix (x + 3)))]) (rest := [.int r]) cv_L_31 (by decide) (by decide +kernel) (ct_X6_turns l G 298 (xs (ix (x + 1))) (xs (ix (x + 2))) (xs (ix (x + 3))) σ1) e2 rfl rfl (Nat.le_of_ble_eq_true rfl) (by decide) (by decide) rfl dL_law_280 ?_
  show Lx l G b n xs 283 [(0, .ref b), (1, .ref (Gb G + 0)), (2, .ref (Gb G + 298)), (3, .int x)] [.int r, .int r] σ2
  refine Lx.icmp_eq (t := 888) rfl (by decide) dL_law_283 ?_
  exact k σ2 hI2
set_option maxRecDepth 100000 in
set_option maxHeartbeats 4000000 in
theorem law_c4 {I J : Sg → Prop} (H4 : ∀ a1 a2 a3 : Int32, Sim I J (f_X5_wants 0 a1 a2 a3) (f_X6_wants 298 a1 a2 a3)) {l : Launch} {G : Gt} {b n : Nat} {xs : Nat → Int32} {x : Int32} (h1 : inb (x + 1) n) (h2 : inb (x + 2) n) (h3 : inb (x + 3) n) (σ : Sg) (hI : I σ) (k : ∀ τ, J τ → Lx l G b n xs 888 [(0, .ref b), (1, .ref (Gb G + 0)), (2, .ref (Gb G + 298)), (3, .int x)] [] τ) : Lx l G b n xs 288 [(0, .ref b), (1, .ref (Gb G + 0)), (2, .ref (Gb G + 298)), (3, .int x)] [] σ := by
  obtain ⟨r, σ1, σ2, e1, e2, hI2⟩ := H4 (xs (ix (x + 1))) (xs (ix (x + 2))) (xs (ix (x + 3))) σ hI
  refine Lx.aload_n 1 rfl rfl dL_law_288 ?_
  refine Lx.aload_n 0 rfl rfl dL_law_289 ?_
  refine Lx.iload_n 3 rfl rfl dL_law_290 ?_
  refine Lx.iconst (v := 1) ic_1 rfl dL_law_291 ?_
  refine Lx.iadd rfl dL_law_292 ?_
  refine Lx.sld (h1) rfl dL_law_293 ?_
  refine Lx.aload_n 0 rfl rfl dL_law_294 ?_
  refine Lx.iload_n 3 rfl rfl dL_law_295 ?_
  refine Lx.iconst (v := 2) ic_2 rfl dL_law_296 ?_
  refine Lx.iadd rfl dL_law_297 ?_
  refine Lx.sld (h2) rfl dL_law_298 ?_
  refine Lx.aload_n 0 rfl rfl dL_law_299 ?_
  refine Lx.iload_n 3 rfl rfl dL_law_300 ?_
  refine Lx.iconst (v := 3) ic_3 rfl dL_law_301 ?_
  refine Lx.iadd rfl dL_law_302 ?_
  refine Lx.sld (h3) rfl dL_law_303 ?_
  refine Lx.callV (rv' := rI) (As := [.int (xs (ix (x + 1))), .int (xs (ix (x + 2))), .int (xs (ix (x + 3)))]) (rest := []) cv_L_32 (by decide) (by decide +kernel) (ct_X5_wants l G 0 (xs (ix (x + 1))) (xs (ix (x + 2))) (xs (ix (x + 3))) σ) e1 rfl rfl (Nat.le_of_ble_eq_true rfl) (by decide) (by decide) rfl dL_law_304 ?_
  show Lx l G b n xs 307 [(0, .ref b), (1, .ref (Gb G + 0)), (2, .ref (Gb G + 298)), (3, .int x)] [.int r] σ1
  refine Lx.aload_n 2 rfl rfl dL_law_307 ?_
  refine Lx.aload_n 0 rfl rfl dL_law_308 ?_
  refine Lx.iload_n 3 rfl rfl dL_law_309 ?_
  refine Lx.iconst (v := 1) ic_1 rfl dL_law_310 ?_
  refine Lx.iadd rfl dL_law_311 ?_
  refine Lx.sld (h1) rfl dL_law_312 ?_
  refine Lx.aload_n 0 rfl rfl dL_law_313 ?_
  refine Lx.iload_n 3 rfl rfl dL_law_314 ?_
  refine Lx.iconst (v := 2) ic_2 rfl dL_law_315 ?_
  refine Lx.iadd rfl dL_law_316 ?_
  refine Lx.sld (h2) rfl dL_law_317 ?_
  refine Lx.aload_n 0 rfl rfl dL_law_318 ?_
  refine Lx.iload_n 3 rfl rfl dL_law_319 ?_
  refine Lx.iconst (v := 3) ic_3 rfl dL_law_320 ?_
  refine Lx.iadd rfl dL_law_321 ?_
  refine Lx.sld (h3) rfl dL_law_322 ?_
  refine Lx.callV (rv' := rI) (As := [.int (xs (ix (x + 1))), .int (xs (ix (x + 2))), .int (xs (ix (x + 3)))]) (rest := [.int r]) cv_L_35 (by decide) (by decide +kernel) (ct_X6_wants l G 298 (xs (ix (x + 1))) (xs (ix (x + 2))) (xs (ix (x + 3))) σ1) e2 rfl rfl (Nat.le_of_ble_eq_true rfl) (by decide) (by decide) rfl dL_law_323 ?_
  show Lx l G b n xs 326 [(0, .ref b), (1, .ref (Gb G + 0)), (2, .ref (Gb G + 298)), (3, .int x)] [.int r, .int r] σ2
  refine Lx.icmp_eq (t := 888) rfl (by decide) dL_law_326 ?_
  exact k σ2 hI2
set_option maxRecDepth 100000 in
set_option maxHeartbeats 4000000 in
theorem law_c5 {I J : Sg → Prop} (H5 : ∀ a1 a2 : Int32, Sim I J (f_X5_joins 0 a1 a2) (f_X6_joins 298 a1 a2)) {l : Launch} {G : Gt} {b n : Nat} {xs : Nat → Int32} {x : Int32} (h1 : inb (x + 1) n) (h2 : inb (x + 2) n) (σ : Sg) (hI : I σ) (k : ∀ τ, J τ → Lx l G b n xs 888 [(0, .ref b), (1, .ref (Gb G + 0)), (2, .ref (Gb G + 298)), (3, .int x)] [] τ) : Lx l G b n xs 331 [(0, .ref b), (1, .ref (Gb G + 0)), (2, .ref (Gb G + 298)), (3, .int x)] [] σ := by
  obtain ⟨r, σ1, σ2, e1, e2, hI2⟩ := H5 (xs (ix (x + 1))) (xs (ix (x + 2))) σ hI
  refine Lx.aload_n 1 rfl rfl dL_law_331 ?_
  refine Lx.aload_n 0 rfl rfl dL_law_332 ?_
  refine Lx.iload_n 3 rfl rfl dL_law_333 ?_
  refine Lx.iconst (v := 1) ic_1 rfl dL_law_334 ?_
  refine Lx.iadd rfl dL_law_335 ?_
  refine Lx.sld (h1) rfl dL_law_336 ?_
  refine Lx.aload_n 0 rfl rfl dL_law_337 ?_
  refine Lx.iload_n 3 rfl rfl dL_law_338 ?_
  refine Lx.iconst (v := 2) ic_2 rfl dL_law_339 ?_
  refine Lx.iadd rfl dL_law_340 ?_
  refine Lx.sld (h2) rfl dL_law_341 ?_
  refine Lx.callV (rv' := rI) (As := [.int (xs (ix (x + 1))), .int (xs (ix (x + 2)))]) (rest := []) cv_L_36 (by decide) (by decide +kernel) (ct_X5_joins l G 0 (xs (ix (x + 1))) (xs (ix (x + 2))) σ) e1 rfl rfl (Nat.le_of_ble_eq_true rfl) (by decide) (by decide) rfl dL_law_342 ?_
  show Lx l G b n xs 345 [(0, .ref b), (1, .ref (Gb G + 0)), (2, .ref (Gb G + 298)), (3, .int x)] [.int r] σ1
  refine Lx.aload_n 2 rfl rfl dL_law_345 ?_
  refine Lx.aload_n 0 rfl rfl dL_law_346 ?_
  refine Lx.iload_n 3 rfl rfl dL_law_347 ?_
  refine Lx.iconst (v := 1) ic_1 rfl dL_law_348 ?_
  refine Lx.iadd rfl dL_law_349 ?_
  refine Lx.sld (h1) rfl dL_law_350 ?_
  refine Lx.aload_n 0 rfl rfl dL_law_351 ?_
  refine Lx.iload_n 3 rfl rfl dL_law_352 ?_
  refine Lx.iconst (v := 2) ic_2 rfl dL_law_353 ?_
  refine Lx.iadd rfl dL_law_354 ?_
  refine Lx.sld (h2) rfl dL_law_355 ?_
  refine Lx.callV (rv' := rI) (As := [.int (xs (ix (x + 1))), .int (xs (ix (x + 2)))]) (rest := [.int r]) cv_L_39 (by decide) (by decide +kernel) (ct_X6_joins l G 298 (xs (ix (x + 1))) (xs (ix (x + 2))) σ1) e2 rfl rfl (Nat.le_of_ble_eq_true rfl) (by decide) (by decide) rfl dL_law_356 ?_
  show Lx l G b n xs 359 [(0, .ref b), (1, .ref (Gb G + 0)), (2, .ref (Gb G + 298)), (3, .int x)] [.int r, .int r] σ2
  refine Lx.icmp_eq (t := 888) rfl (by decide) dL_law_359 ?_
  exact k σ2 hI2
set_option maxRecDepth 100000 in
set_option maxHeartbeats 4000000 in
theorem law_c6 {I J : Sg → Prop} (H6 : ∀ a1 : Int32, Sim I J (f_X5_backwards 0 a1) (f_X6_backwards 298 a1)) {l : Launch} {G : Gt} {b n : Nat} {xs : Nat → Int32} {x : Int32} (h1 : inb (x + 1) n) (σ : Sg) (hI : I σ) (k : ∀ τ, J τ → Lx l G b n xs 888 [(0, .ref b), (1, .ref (Gb G + 0)), (2, .ref (Gb G + 298)), (3, .int x)] [] τ) : Lx l G b n xs 364 [(0, .ref b), (1, .ref (Gb G + 0)), (2, .ref (Gb G + 298)), (3, .int x)] [] σ := by
  obtain ⟨r, σ1, σ2, e1, e2, hI2⟩ := H6 (xs (ix (x + 1))) σ hI
  refine Lx.aload_n 1 rfl rfl dL_law_364 ?_
  refine Lx.aload_n 0 rfl rfl dL_law_365 ?_
  refine Lx.iload_n 3 rfl rfl dL_law_366 ?_
  refine Lx.iconst (v := 1) ic_1 rfl dL_law_367 ?_
  refine Lx.iadd rfl dL_law_368 ?_
  refine Lx.sld (h1) rfl dL_law_369 ?_
  refine Lx.callV (rv' := rI) (As := [.int (xs (ix (x + 1)))]) (rest := []) cv_L_40 (by decide) (by decide +kernel) (ct_X5_backwards l G 0 (xs (ix (x + 1))) σ) e1 rfl rfl (Nat.le_of_ble_eq_true rfl) (by decide) (by decide) rfl dL_law_370 ?_
  show Lx l G b n xs 373 [(0, .ref b), (1, .ref (Gb G + 0)), (2, .ref (Gb G + 298)), (3, .int x)] [.int r] σ1
  refine Lx.aload_n 2 rfl rfl dL_law_373 ?_
  refine Lx.aload_n 0 rfl rfl dL_law_374 ?_
  refine Lx.iload_n 3 rfl rfl dL_law_375 ?_
  refine Lx.iconst (v := 1) ic_1 rfl dL_law_376 ?_
  refine Lx.iadd rfl dL_law_377 ?_
  refine Lx.sld (h1) rfl dL_law_378 ?_
  refine Lx.callV (rv' := rI) (As := [.int (xs (ix (x + 1)))]) (rest := [.int r]) cv_L_44 (by decide) (by decide +kernel) (ct_X6_backwards l G 298 (xs (ix (x + 1))) σ1) e2 rfl rfl (Nat.le_of_ble_eq_true rfl) (by decide) (by decide) rfl dL_law_379 ?_
  show Lx l G b n xs 382 [(0, .ref b), (1, .ref (Gb G + 0)), (2, .ref (Gb G + 298)), (3, .int x)] [.int r, .int r] σ2
  refine Lx.icmp_eq (t := 888) rfl (by decide) dL_law_382 ?_
  exact k σ2 hI2
set_option maxRecDepth 100000 in
set_option maxHeartbeats 4000000 in
theorem law_c7 {I J : Sg → Prop} (H7 : ∀ a1 : Int32, Sim I J (f_X5_gives 0 a1) (f_X6_gives 298 a1)) {l : Launch} {G : Gt} {b n : Nat} {xs : Nat → Int32} {x : Int32} (h1 : inb (x + 1) n) (σ : Sg) (hI : I σ) (k : ∀ τ, J τ → Lx l G b n xs 888 [(0, .ref b), (1, .ref (Gb G + 0)), (2, .ref (Gb G + 298)), (3, .int x)] [] τ) : Lx l G b n xs 387 [(0, .ref b), (1, .ref (Gb G + 0)), (2, .ref (Gb G + 298)), (3, .int x)] [] σ := by
  obtain ⟨r, σ1, σ2, e1, e2, hI2⟩ := H7 (xs (ix (x + 1))) σ hI
  refine Lx.aload_n 1 rfl rfl dL_law_387 ?_
  refine Lx.aload_n 0 rfl rfl dL_law_388 ?_
  refine Lx.iload_n 3 rfl rfl dL_law_389 ?_
  refine Lx.iconst (v := 1) ic_1 rfl dL_law_390 ?_
  refine Lx.iadd rfl dL_law_391 ?_
  refine Lx.sld (h1) rfl dL_law_392 ?_
  refine Lx.callV (rv' := rI) (As := [.int (xs (ix (x + 1)))]) (rest := []) cv_L_45 (by decide) (by decide +kernel) (ct_X5_gives l G 0 (xs (ix (x + 1))) σ) e1 rfl rfl (Nat.le_of_ble_eq_true rfl) (by decide) (by decide) rfl dL_law_393 ?_
  show Lx l G b n xs 396 [(0, .ref b), (1, .ref (Gb G + 0)), (2, .ref (Gb G + 298)), (3, .int x)] [.int r] σ1
  refine Lx.aload_n 2 rfl rfl dL_law_396 ?_
  refine Lx.aload_n 0 rfl rfl dL_law_397 ?_
  refine Lx.iload_n 3 rfl rfl dL_law_398 ?_
  refine Lx.iconst (v := 1) ic_1 rfl dL_law_399 ?_
  refine Lx.iadd rfl dL_law_400 ?_
  refine Lx.sld (h1) rfl dL_law_401 ?_
  refine Lx.callV (rv' := rI) (As := [.int (xs (ix (x + 1)))]) (rest := [.int r]) cv_L_48 (by decide) (by decide +kernel) (ct_X6_gives l G 298 (xs (ix (x + 1))) σ1) e2 rfl rfl (Nat.le_of_ble_eq_true rfl) (by decide) (by decide) rfl dL_law_402 ?_
  show Lx l G b n xs 405 [(0, .ref b), (1, .ref (Gb G + 0)), (2, .ref (Gb G + 298)), (3, .int x)] [.int r, .int r] σ2
  refine Lx.icmp_eq (t := 888) rfl (by decide) dL_law_405 ?_
  exact k σ2 hI2
set_option maxRecDepth 100000 in
set_option maxHeartbeats 4000000 in
theorem law_c8 {I J : Sg → Prop} (H8 : Sim I J (f_X5_home 0 ) (f_X6_home 298 )) {l : Launch} {G : Gt} {b n : Nat} {xs : Nat → Int32} {x : Int32} (σ : Sg) (hI : I σ) (k : ∀ τ, J τ → Lx l G b n xs 888 [(0, .ref b), (1, .ref (Gb G + 0)), (2, .ref (Gb G + 298)), (3, .int x)] [] τ) : Lx l G b n xs 410 [(0, .ref b), (1, .ref (Gb G + 0)), (2, .ref (Gb G + 298)), (3, .int x)] [] σ := by
  obtain ⟨r, σ1, σ2, e1, e2, hI2⟩ := H8  σ hI
  refine Lx.aload_n 1 rfl rfl dL_law_410 ?_
  refine Lx.callV (rv' := rI) (As := []) (rest := []) cv_L_49 (by decide) (by decide +kernel) (ct_X5_home l G 0  σ) e1 rfl rfl (Nat.le_of_ble_eq_true rfl) (by decide) (by decide) rfl dL_law_411 ?_
  show Lx l G b n xs 414 [(0, .ref b), (1, .ref (Gb G + 0)), (2, .ref (Gb G + 298)), (3, .int x)] [.int r] σ1
  refine Lx.aload_n 2 rfl rfl dL_law_414 ?_
  refine Lx.callV (rv' := rI) (As := []) (rest := [.int r]) cv_L_52 (by decide) (by decide +kernel) (ct_X6_home l G 298  σ1) e2 rfl rfl (Nat.le_of_ble_eq_true rfl) (by decide) (by decide) rfl dL_law_415 ?_
  show Lx l G b n xs 418 [(0, .ref b), (1, .ref (Gb G + 0)), (2, .ref (Gb G + 298)), (3, .int x)] [.int r, .int r] σ2
  refine Lx.icmp_eq (t := 888) rfl (by decide) dL_law_418 ?_
  exact k σ2 hI2
set_option maxRecDepth 100000 in
set_option maxHeartbeats 4000000 in
theorem law_c9 {I J : Sg → Prop} (H9 : ∀ a1 a2 : Int32, Sim I J (f_X5_of 0 a1 a2) (f_X6_of 298 a1 a2)) {l : Launch} {G : Gt} {b n : Nat} {xs : Nat → Int32} {x : Int32} (h1 : inb (x + 1) n) (h2 : inb (x + 2) n) (σ : Sg) (hI : I σ) (k : ∀ τ, J τ → Lx l G b n xs 888 [(0, .ref b), (1, .ref (Gb G + 0)), (2, .ref (Gb G + 298)), (3, .int x)] [] τ) : Lx l G b n xs 423 [(0, .ref b), (1, .ref (Gb G + 0)), (2, .ref (Gb G + 298)), (3, .int x)] [] σ := by
  obtain ⟨r, σ1, σ2, e1, e2, hI2⟩ := H9 (xs (ix (x + 1))) (xs (ix (x + 2))) σ hI
  refine Lx.aload_n 1 rfl rfl dL_law_423 ?_
  refine Lx.aload_n 0 rfl rfl dL_law_424 ?_
  refine Lx.iload_n 3 rfl rfl dL_law_425 ?_
  refine Lx.iconst (v := 1) ic_1 rfl dL_law_426 ?_
  refine Lx.iadd rfl dL_law_427 ?_
  refine Lx.sld (h1) rfl dL_law_428 ?_
  refine Lx.aload_n 0 rfl rfl dL_law_429 ?_
  refine Lx.iload_n 3 rfl rfl dL_law_430 ?_
  refine Lx.iconst (v := 2) ic_2 rfl dL_law_431 ?_
  refine Lx.iadd rfl dL_law_432 ?_
  refine Lx.sld (h2) rfl dL_law_433 ?_
  refine Lx.callV (rv' := rI) (As := [.int (xs (ix (x + 1))), .int (xs (ix (x + 2)))]) (rest := []) cv_L_53 (by decide) (by decide +kernel) (ct_X5_of l G 0 (xs (ix (x + 1))) (xs (ix (x + 2))) σ) e1 rfl rfl (Nat.le_of_ble_eq_true rfl) (by decide) (by decide) rfl dL_law_434 ?_
  show Lx l G b n xs 437 [(0, .ref b), (1, .ref (Gb G + 0)), (2, .ref (Gb G + 298)), (3, .int x)] [.int r] σ1
  refine Lx.aload_n 2 rfl rfl dL_law_437 ?_
  refine Lx.aload_n 0 rfl rfl dL_law_438 ?_
  refine Lx.iload_n 3 rfl rfl dL_law_439 ?_
  refine Lx.iconst (v := 1) ic_1 rfl dL_law_440 ?_
  refine Lx.iadd rfl dL_law_441 ?_
  refine Lx.sld (h1) rfl dL_law_442 ?_
  refine Lx.aload_n 0 rfl rfl dL_law_443 ?_
  refine Lx.iload_n 3 rfl rfl dL_law_444 ?_
  refine Lx.iconst (v := 2) ic_2 rfl dL_law_445 ?_
  refine Lx.iadd rfl dL_law_446 ?_
  refine Lx.sld (h2) rfl dL_law_447 ?_
  refine Lx.callV (rv' := rI) (As := [.int (xs (ix (x + 1))), .int (xs (ix (x + 2)))]) (rest := [.int r]) cv_L_56 (by decide) (by decide +kernel) (ct_X6_of l G 298 (xs (ix (x + 1))) (xs (ix (x + 2))) σ1) e2 rfl rfl (Nat.le_of_ble_eq_true rfl) (by decide) (by decide) rfl dL_law_448 ?_
  show Lx l G b n xs 451 [(0, .ref b), (1, .ref (Gb G + 0)), (2, .ref (Gb G + 298)), (3, .int x)] [.int r, .int r] σ2
  refine Lx.icmp_eq (t := 888) rfl (by decide) dL_law_451 ?_
  exact k σ2 hI2
set_option maxRecDepth 100000 in
set_option maxHeartbeats 4000000 in
theorem law_c10 {I J : Sg → Prop} (H10 : ∀ a1 : Int32, Sim I J (f_X5_on 0 a1) (f_X6_on 298 a1)) {l : Launch} {G : Gt} {b n : Nat} {xs : Nat → Int32} {x : Int32} (h1 : inb (x + 1) n) (σ : Sg) (hI : I σ) (k : ∀ τ, J τ → Lx l G b n xs 888 [(0, .ref b), (1, .ref (Gb G + 0)), (2, .ref (Gb G + 298)), (3, .int x)] [] τ) : Lx l G b n xs 456 [(0, .ref b), (1, .ref (Gb G + 0)), (2, .ref (Gb G + 298)), (3, .int x)] [] σ := by
  obtain ⟨r, σ1, σ2, e1, e2, hI2⟩ := H10 (xs (ix (x + 1))) σ hI
  refine Lx.aload_n 1 rfl rfl dL_law_456 ?_
  refine Lx.aload_n 0 rfl rfl dL_law_457 ?_
  refine Lx.iload_n 3 rfl rfl dL_law_458 ?_
  refine Lx.iconst (v := 1) ic_1 rfl dL_law_459 ?_
  refine Lx.iadd rfl dL_law_460 ?_
  refine Lx.sld (h1) rfl dL_law_461 ?_
  refine Lx.callV (rv' := rI) (As := [.int (xs (ix (x + 1)))]) (rest := []) cv_L_57 (by decide) (by decide +kernel) (ct_X5_on l G 0 (xs (ix (x + 1))) σ) e1 rfl rfl (Nat.le_of_ble_eq_true rfl) (by decide) (by decide) rfl dL_law_462 ?_
  show Lx l G b n xs 465 [(0, .ref b), (1, .ref (Gb G + 0)), (2, .ref (Gb G + 298)), (3, .int x)] [.int r] σ1
  refine Lx.aload_n 2 rfl rfl dL_law_465 ?_
  refine Lx.aload_n 0 rfl rfl dL_law_466 ?_
  refine Lx.iload_n 3 rfl rfl dL_law_467 ?_
  refine Lx.iconst (v := 1) ic_1 rfl dL_law_468 ?_
  refine Lx.iadd rfl dL_law_469 ?_
  refine Lx.sld (h1) rfl dL_law_470 ?_
  refine Lx.callV (rv' := rI) (As := [.int (xs (ix (x + 1)))]) (rest := [.int r]) cv_L_60 (by decide) (by decide +kernel) (ct_X6_on l G 298 (xs (ix (x + 1))) σ1) e2 rfl rfl (Nat.le_of_ble_eq_true rfl) (by decide) (by decide) rfl dL_law_471 ?_
  show Lx l G b n xs 474 [(0, .ref b), (1, .ref (Gb G + 0)), (2, .ref (Gb G + 298)), (3, .int x)] [.int r, .int r] σ2
  refine Lx.icmp_eq (t := 888) rfl (by decide) dL_law_474 ?_
  exact k σ2 hI2
set_option maxRecDepth 100000 in
set_option maxHeartbeats 4000000 in
theorem law_c11 {I J : Sg → Prop} (H11 : ∀ a1 a2 a3 : Int32, Sim I J (f_X5_at 0 a1 a2 a3) (f_X6_at 298 a1 a2 a3)) {l : Launch} {G : Gt} {b n : Nat} {xs : Nat → Int32} {x : Int32} (h1 : inb (x + 1) n) (h2 : inb (x + 2) n) (h3 : inb (x + 3) n) (σ : Sg) (hI : I σ) (k : ∀ τ, J τ → Lx l G b n xs 888 [(0, .ref b), (1, .ref (Gb G + 0)), (2, .ref (Gb G + 298)), (3, .int x)] [] τ) : Lx l G b n xs 479 [(0, .ref b), (1, .ref (Gb G + 0)), (2, .ref (Gb G + 298)), (3, .int x)] [] σ := by
  obtain ⟨r, σ1, σ2, e1, e2, hI2⟩ := H11 (xs (ix (x + 1))) (xs (ix (x + 2))) (xs (ix (x + 3))) σ hI
  refine Lx.aload_n 1 rfl rfl dL_law_479 ?_
  refine Lx.aload_n 0 rfl rfl dL_law_480 ?_
  refine Lx.iload_n 3 rfl rfl dL_law_481 ?_
  refine Lx.iconst (v := 1) ic_1 rfl dL_law_482 ?_
  refine Lx.iadd rfl dL_law_483 ?_
  refine Lx.sld (h1) rfl dL_law_484 ?_
  refine Lx.aload_n 0 rfl rfl dL_law_485 ?_
  refine Lx.iload_n 3 rfl rfl dL_law_486 ?_
  refine Lx.iconst (v := 2) ic_2 rfl dL_law_487 ?_
  refine Lx.iadd rfl dL_law_488 ?_
  refine Lx.sld (h2) rfl dL_law_489 ?_
  refine Lx.aload_n 0 rfl rfl dL_law_490 ?_
  refine Lx.iload_n 3 rfl rfl dL_law_491 ?_
  refine Lx.iconst (v := 3) ic_3 rfl dL_law_492 ?_
  refine Lx.iadd rfl dL_law_493 ?_
  refine Lx.sld (h3) rfl dL_law_494 ?_
  refine Lx.callV (rv' := rI) (As := [.int (xs (ix (x + 1))), .int (xs (ix (x + 2))), .int (xs (ix (x + 3)))]) (rest := []) cv_L_61 (by decide) (by decide +kernel) (ct_X5_at l G 0 (xs (ix (x + 1))) (xs (ix (x + 2))) (xs (ix (x + 3))) σ) e1 rfl rfl (Nat.le_of_ble_eq_true rfl) (by decide) (by decide) rfl dL_law_495 ?_
  show Lx l G b n xs 498 [(0, .ref b), (1, .ref (Gb G + 0)), (2, .ref (Gb G + 298)), (3, .int x)] [.int r] σ1
  refine Lx.aload_n 2 rfl rfl dL_law_498 ?_
  refine Lx.aload_n 0 rfl rfl dL_law_499 ?_
  refine Lx.iload_n 3 rfl rfl dL_law_500 ?_
  refine Lx.iconst (v := 1) ic_1 rfl dL_law_501 ?_
  refine Lx.iadd rfl dL_law_502 ?_
  refine Lx.sld (h1) rfl dL_law_503 ?_
  refine Lx.aload_n 0 rfl rfl dL_law_504 ?_
  refine Lx.iload_n 3 rfl rfl dL_law_505 ?_
  refine Lx.iconst (v := 2) ic_2 rfl dL_law_506 ?_
  refine Lx.iadd rfl dL_law_507 ?_
  refine Lx.sld (h2) rfl dL_law_508 ?_
  refine Lx.aload_n 0 rfl rfl dL_law_509 ?_
  refine Lx.iload_n 3 rfl rfl dL_law_510 ?_
  refine Lx.iconst (v := 3) ic_3 rfl dL_law_511 ?_
  refine Lx.iadd rfl dL_law_512 ?_
  refine Lx.sld (h3) rfl dL_law_513 ?_
  refine Lx.callV (rv' := rI) (As := [.int (xs (ix (x + 1))), .int (xs (ix (x + 2))), .int (xs (ix (x + 3)))]) (rest := [.int r]) cv_L_64 (by decide) (by decide +kernel) (ct_X6_at l G 298 (xs (ix (x + 1))) (xs (ix (x + 2))) (xs (ix (x + 3))) σ1) e2 rfl rfl (Nat.le_of_ble_eq_true rfl) (by decide) (by decide) rfl dL_law_514 ?_
  show Lx l G b n xs 517 [(0, .ref b), (1, .ref (Gb G + 0)), (2, .ref (Gb G + 298)), (3, .int x)] [.int r, .int r] σ2
  refine Lx.icmp_eq (t := 888) rfl (by decide) dL_law_517 ?_
  exact k σ2 hI2
set_option maxRecDepth 100000 in
set_option maxHeartbeats 4000000 in
theorem law_c12 {I J : Sg → Prop} (H12 : ∀ a1 a2 : Int32, Sim I J (f_X5_tells 0 a1 a2) (f_X6_tells 298 a1 a2)) {l : Launch} {G : Gt} {b n : Nat} {xs : Nat → Int32} {x : Int32} (h1 : inb (x + 1) n) (h2 : inb (x + 2) n) (σ : Sg) (hI : I σ) (k : ∀ τ, J τ → Lx l G b n xs 888 [(0, .ref b), (1, .ref (Gb G + 0)), (2, .ref (Gb G + 298)), (3, .int x)] [] τ) : Lx l G b n xs 522 [(0, .ref b), (1, .ref (Gb G + 0)), (2, .ref (Gb G + 298)), (3, .int x)] [] σ := by
  obtain ⟨r, σ1, σ2, e1, e2, hI2⟩ := H12 (xs (ix (x + 1))) (xs (ix (x + 2))) σ hI
  refine Lx.aload_n 1 rfl rfl dL_law_522 ?_
  refine Lx.aload_n 0 rfl rfl dL_law_523 ?_
  refine Lx.iload_n 3 rfl rfl dL_law_524 ?_
  refine Lx.iconst (v := 1) ic_1 rfl dL_law_525 ?_
  refine Lx.iadd rfl dL_law_526 ?_
  refine Lx.sld (h1) rfl dL_law_527 ?_
  refine Lx.aload_n 0 rfl rfl dL_law_528 ?_
  refine Lx.iload_n 3 rfl rfl dL_law_529 ?_
  refine Lx.iconst (v := 2) ic_2 rfl dL_law_530 ?_
  refine Lx.iadd rfl dL_law_531 ?_
  refine Lx.sld (h2) rfl dL_law_532 ?_
  refine Lx.callV (rv' := rI) (As := [.int (xs (ix (x + 1))), .int (xs (ix (x + 2)))]) (rest := []) cv_L_65 (by decide) (by decide +kernel) (ct_X5_tells l G 0 (xs (ix (x + 1))) (xs (ix (x + 2))) σ) e1 rfl rfl (Nat.le_of_ble_eq_true rfl) (by decide) (by decide) rfl dL_law_533 ?_
  show Lx l G b n xs 536 [(0, .ref b), (1, .ref (Gb G + 0)), (2, .ref (Gb G + 298)), (3, .int x)] [.int r] σ1
  refine Lx.aload_n 2 rfl rfl dL_law_536 ?_
  refine Lx.aload_n 0 rfl rfl dL_law_537 ?_
  refine Lx.iload_n 3 rfl rfl dL_law_538 ?_
  refine Lx.iconst (v := 1) ic_1 rfl dL_law_539 ?_
  refine Lx.iadd rfl dL_law_540 ?_
  refine Lx.sld (h1) rfl dL_law_541 ?_
  refine Lx.aload_n 0 rfl rfl dL_law_542 ?_
  refine Lx.iload_n 3 rfl rfl dL_law_543 ?_
  refine Lx.iconst (v := 2) ic_2 rfl dL_law_544 ?_
  refine Lx.iadd rfl dL_law_545 ?_
  refine Lx.sld (h2) rfl dL_law_546 ?_
  refine Lx.callV (rv' := rI) (As := [.int (xs (ix (x + 1))), .int (xs (ix (x + 2)))]) (rest := [.int r]) cv_L_68 (by decide) (by decide +kernel) (ct_X6_tells l G 298 (xs (ix (x + 1))) (xs (ix (x + 2))) σ1) e2 rfl rfl (Nat.le_of_ble_eq_true rfl) (by decide) (by decide) rfl dL_law_547 ?_
  show Lx l G b n xs 550 [(0, .ref b), (1, .ref (Gb G + 0)), (2, .ref (Gb G + 298)), (3, .int x)] [.int r, .int r] σ2
  refine Lx.icmp_eq (t := 888) rfl (by decide) dL_law_550 ?_
  exact k σ2 hI2
set_option maxRecDepth 100000 in
set_option maxHeartbeats 4000000 in
theorem law_c13 {I J : Sg → Prop} (H13 : ∀ a1 a2 a3 : Int32, Sim I J (f_X5_finds 0 a1 a2 a3) (f_X6_finds 298 a1 a2 a3)) {l : Launch} {G : Gt} {b n : Nat} {xs : Nat → Int32} {x : Int32} (h1 : inb (x + 1) n) (h2 : inb (x + 2) n) (h3 : inb (x + 3) n) (σ : Sg) (hI : I σ) (k : ∀ τ, J τ → Lx l G b n xs 888 [(0, .ref b), (1, .ref (Gb G + 0)), (2, .ref (Gb G + 298)), (3, .int x)] [] τ) : Lx l G b n xs 555 [(0, .ref b), (1, .ref (Gb G + 0)), (2, .ref (Gb G + 298)), (3, .int x)] [] σ := by
  obtain ⟨r, σ1, σ2, e1, e2, hI2⟩ := H13 (xs (ix (x + 1))) (xs (ix (x + 2))) (xs (ix (x + 3))) σ hI
  refine Lx.aload_n 1 rfl rfl dL_law_555 ?_
  refine Lx.aload_n 0 rfl rfl dL_law_556 ?_
  refine Lx.iload_n 3 rfl rfl dL_law_557 ?_
  refine Lx.iconst (v := 1) ic_1 rfl dL_law_558 ?_
  refine Lx.iadd rfl dL_law_559 ?_
  refine Lx.sld (h1) rfl dL_law_560 ?_
  refine Lx.aload_n 0 rfl rfl dL_law_561 ?_
  refine Lx.iload_n 3 rfl rfl dL_law_562 ?_
  refine Lx.iconst (v := 2) ic_2 rfl dL_law_563 ?_
  refine Lx.iadd rfl dL_law_564 ?_
  refine Lx.sld (h2) rfl dL_law_565 ?_
  refine Lx.aload_n 0 rfl rfl dL_law_566 ?_
  refine Lx.iload_n 3 rfl rfl dL_law_567 ?_
  refine Lx.iconst (v := 3) ic_3 rfl dL_law_568 ?_
  refine Lx.iadd rfl dL_law_569 ?_
  refine Lx.sld (h3) rfl dL_law_570 ?_
  refine Lx.callV (rv' := rI) (As := [.int (xs (ix (x + 1))), .int (xs (ix (x + 2))), .int (xs (ix (x + 3)))]) (rest := []) cv_L_69 (by decide) (by decide +kernel) (ct_X5_finds l G 0 (xs (ix (x + 1))) (xs (ix (x + 2))) (xs (ix (x + 3))) σ) e1 rfl rfl (Nat.le_of_ble_eq_true rfl) (by decide) (by decide) rfl dL_law_571 ?_
  show Lx l G b n xs 574 [(0, .ref b), (1, .ref (Gb G + 0)), (2, .ref (Gb G + 298)), (3, .int x)] [.int r] σ1
  refine Lx.aload_n 2 rfl rfl dL_law_574 ?_
  refine Lx.aload_n 0 rfl rfl dL_law_575 ?_
  refine Lx.iload_n 3 rfl rfl dL_law_576 ?_
  refine Lx.iconst (v := 1) ic_1 rfl dL_law_577 ?_
  refine Lx.iadd rfl dL_law_578 ?_
  refine Lx.sld (h1) rfl dL_law_579 ?_
  refine Lx.aload_n 0 rfl rfl dL_law_580 ?_
  refine Lx.iload_n 3 rfl rfl dL_law_581 ?_
  refine Lx.iconst (v := 2) ic_2 rfl dL_law_582 ?_
  refine Lx.iadd rfl dL_law_583 ?_
  refine Lx.sld (h2) rfl dL_law_584 ?_
  refine Lx.aload_n 0 rfl rfl dL_law_585 ?_
  refine Lx.iload_n 3 rfl rfl dL_law_586 ?_
  refine Lx.iconst (v := 3) ic_3 rfl dL_law_587 ?_
  refine Lx.iadd rfl dL_law_588 ?_
  refine Lx.sld (h3) rfl dL_law_589 ?_
  refine Lx.callV (rv' := rI) (As := [.int (xs (ix (x + 1))), .int (xs (ix (x + 2))), .int (xs (ix (x + 3)))]) (rest := [.int r]) cv_L_72 (by decide) (by decide +kernel) (ct_X6_finds l G 298 (xs (ix (x + 1))) (xs (ix (x + 2))) (xs (ix (x + 3))) σ1) e2 rfl rfl (Nat.le_of_ble_eq_true rfl) (by decide) (by decide) rfl dL_law_590 ?_
  show Lx l G b n xs 593 [(0, .ref b), (1, .ref (Gb G + 0)), (2, .ref (Gb G + 298)), (3, .int x)] [.int r, .int r] σ2
  refine Lx.icmp_eq (t := 888) rfl (by decide) dL_law_593 ?_
  exact k σ2 hI2
set_option maxRecDepth 100000 in
set_option maxHeartbeats 4000000 in
theorem law_c14 {I J : Sg → Prop} (H14 : ∀ a1 a2 a3 a4 : Int32, Sim I J (f_X5_found 0 a1 a2 a3 a4) (f_X6_found 298 a1 a2 a3 a4)) {l : Launch} {G : Gt} {b n : Nat} {xs : Nat → Int32} {x : Int32} (h1 : inb (x + 1) n) (h2 : inb (x + 2) n) (h3 : inb (x + 3) n) (h4 : inb (x + 4) n) (σ : Sg) (hI : I σ) (k : ∀ τ, J τ → Lx l G b n xs 888 [(0, .ref b), (1, .ref (Gb G + 0)), (2, .ref (Gb G + 298)), (3, .int x)] [] τ) : Lx l G b n xs 598 [(0, .ref b), (1, .ref (Gb G + 0)), (2, .ref (Gb G + 298)), (3, .int x)] [] σ := by
  obtain ⟨r, σ1, σ2, e1, e2, hI2⟩ := H14 (xs (ix (x + 1))) (xs (ix (x + 2))) (xs (ix (x + 3))) (xs (ix (x + 4))) σ hI
  refine Lx.aload_n 1 rfl rfl dL_law_598 ?_
  refine Lx.aload_n 0 rfl rfl dL_law_599 ?_
  refine Lx.iload_n 3 rfl rfl dL_law_600 ?_
  refine Lx.iconst (v := 1) ic_1 rfl dL_law_601 ?_
  refine Lx.iadd rfl dL_law_602 ?_
  refine Lx.sld (h1) rfl dL_law_603 ?_
  refine Lx.aload_n 0 rfl rfl dL_law_604 ?_
  refine Lx.iload_n 3 rfl rfl dL_law_605 ?_
  refine Lx.iconst (v := 2) ic_2 rfl dL_law_606 ?_
  refine Lx.iadd rfl dL_law_607 ?_
  refine Lx.sld (h2) rfl dL_law_608 ?_
  refine Lx.aload_n 0 rfl rfl dL_law_609 ?_
  refine Lx.iload_n 3 rfl rfl dL_law_610 ?_
  refine Lx.iconst (v := 3) ic_3 rfl dL_law_611 ?_
  refine Lx.iadd rfl dL_law_612 ?_
  refine Lx.sld (h3) rfl dL_law_613 ?_
  refine Lx.aload_n 0 rfl rfl dL_law_614 ?_
  refine Lx.iload_n 3 rfl rfl dL_law_615 ?_
  refine Lx.iconst (v := 4) ic_4 rfl dL_law_616 ?_
  refine Lx.iadd rfl dL_law_617 ?_
  refine Lx.sld (h4) rfl dL_law_618 ?_
  refine Lx.callV (rv' := rI) (As := [.int (xs (ix (x + 1))), .int (xs (ix (x + 2))), .int (xs (ix (x + 3))), .int (xs (ix (x + 4)))]) (rest := []) cv_L_73 (by decide) (by decide +kernel) (ct_X5_found l G 0 (xs (ix (x + 1))) (xs (ix (x + 2))) (xs (ix (x + 3))) (xs (ix (x + 4))) σ) e1 rfl rfl (Nat.le_of_ble_eq_true rfl) (by decide) (by decide) rfl dL_law_619 ?_
  show Lx l G b n xs 622 [(0, .ref b), (1, .ref (Gb G + 0)), (2, .ref (Gb G + 298)), (3, .int x)] [.int r] σ1
  refine Lx.aload_n 2 rfl rfl dL_law_622 ?_
  refine Lx.aload_n 0 rfl rfl dL_law_623 ?_
  refine Lx.iload_n 3 rfl rfl dL_law_624 ?_
  refine Lx.iconst (v := 1) ic_1 rfl dL_law_625 ?_
  refine Lx.iadd rfl dL_law_626 ?_
  refine Lx.sld (h1) rfl dL_law_627 ?_
  refine Lx.aload_n 0 rfl rfl dL_law_628 ?_
  refine Lx.iload_n 3 rfl rfl dL_law_629 ?_
  refine Lx.iconst (v := 2) ic_2 rfl dL_law_630 ?_
  refine Lx.iadd rfl dL_law_631 ?_
  refine Lx.sld (h2) rfl dL_law_632 ?_
  refine Lx.aload_n 0 rfl rfl dL_law_633 ?_
  refine Lx.iload_n 3 rfl rfl dL_law_634 ?_
  refine Lx.iconst (v := 3) ic_3 rfl dL_law_635 ?_
  refine Lx.iadd rfl dL_law_636 ?_
  refine Lx.sld (h3) rfl dL_law_637 ?_
  refine Lx.aload_n 0 rfl rfl dL_law_638 ?_
  refine Lx.iload_n 3 rfl rfl dL_law_639 ?_
  refine Lx.iconst (v := 4) ic_4 rfl dL_law_640 ?_
  refine Lx.iadd rfl dL_law_641 ?_
  refine Lx.sld (h4) rfl dL_law_642 ?_
  refine Lx.callV (rv' := rI) (As := [.int (xs (ix (x + 1))), .int (xs (ix (x + 2))), .int (xs (ix (x + 3))), .int (xs (ix (x + 4)))]) (rest := [.int r]) cv_L_77 (by decide) (by decide +kernel) (ct_X6_found l G 298 (xs (ix (x + 1))) (xs (ix (x + 2))) (xs (ix (x + 3))) (xs (ix (x + 4))) σ1) e2 rfl rfl (Nat.le_of_ble_eq_true rfl) (by decide) (by decide) rfl dL_law_643 ?_
  show Lx l G b n xs 646 [(0, .ref b), (1, .ref (Gb G + 0)), (2, .ref (Gb G + 298)), (3, .int x)] [.int r, .int r] σ2
  refine Lx.icmp_eq (t := 888) rfl (by decide) dL_law_646 ?_
  exact k σ2 hI2
set_option maxRecDepth 100000 in
set_option maxHeartbeats 4000000 in
theorem law_c15 {I J : Sg → Prop} (H15 : ∀ a1 a2 : Int32, Sim I J (f_X5_rows 0 a1 a2) (f_X6_rows 298 a1 a2)) {l : Launch} {G : Gt} {b n : Nat} {xs : Nat → Int32} {x : Int32} (h1 : inb (x + 1) n) (h2 : inb (x + 2) n) (σ : Sg) (hI : I σ) (k : ∀ τ, J τ → Lx l G b n xs 888 [(0, .ref b), (1, .ref (Gb G + 0)), (2, .ref (Gb G + 298)), (3, .int x)] [] τ) : Lx l G b n xs 651 [(0, .ref b), (1, .ref (Gb G + 0)), (2, .ref (Gb G + 298)), (3, .int x)] [] σ := by
  obtain ⟨r, σ1, σ2, e1, e2, hI2⟩ := H15 (xs (ix (x + 1))) (xs (ix (x + 2))) σ hI
  refine Lx.aload_n 1 rfl rfl dL_law_651 ?_
  refine Lx.aload_n 0 rfl rfl dL_law_652 ?_
  refine Lx.iload_n 3 rfl rfl dL_law_653 ?_
  refine Lx.iconst (v := 1) ic_1 rfl dL_law_654 ?_
  refine Lx.iadd rfl dL_law_655 ?_
  refine Lx.sld (h1) rfl dL_law_656 ?_
  refine Lx.aload_n 0 rfl rfl dL_law_657 ?_
  refine Lx.iload_n 3 rfl rfl dL_law_658 ?_
  refine Lx.iconst (v := 2) ic_2 rfl dL_law_659 ?_
  refine Lx.iadd rfl dL_law_660 ?_
  refine Lx.sld (h2) rfl dL_law_661 ?_
  refine Lx.callV (rv' := rI) (As := [.int (xs (ix (x + 1))), .int (xs (ix (x + 2)))]) (rest := []) cv_L_78 (by decide) (by decide +kernel) (ct_X5_rows l G 0 (xs (ix (x + 1))) (xs (ix (x + 2))) σ) e1 rfl rfl (Nat.le_of_ble_eq_true rfl) (by decide) (by decide) rfl dL_law_662 ?_
  show Lx l G b n xs 665 [(0, .ref b), (1, .ref (Gb G + 0)), (2, .ref (Gb G + 298)), (3, .int x)] [.int r] σ1
  refine Lx.aload_n 2 rfl rfl dL_law_665 ?_
  refine Lx.aload_n 0 rfl rfl dL_law_666 ?_
  refine Lx.iload_n 3 rfl rfl dL_law_667 ?_
  refine Lx.iconst (v := 1) ic_1 rfl dL_law_668 ?_
  refine Lx.iadd rfl dL_law_669 ?_
  refine Lx.sld (h1) rfl dL_law_670 ?_
  refine Lx.aload_n 0 rfl rfl dL_law_671 ?_
  refine Lx.iload_n 3 rfl rfl dL_law_672 ?_
  refine Lx.iconst (v := 2) ic_2 rfl dL_law_673 ?_
  refine Lx.iadd rfl dL_law_674 ?_
  refine Lx.sld (h2) rfl dL_law_675 ?_
  refine Lx.callV (rv' := rI) (As := [.int (xs (ix (x + 1))), .int (xs (ix (x + 2)))]) (rest := [.int r]) cv_L_81 (by decide) (by decide +kernel) (ct_X6_rows l G 298 (xs (ix (x + 1))) (xs (ix (x + 2))) σ1) e2 rfl rfl (Nat.le_of_ble_eq_true rfl) (by decide) (by decide) rfl dL_law_676 ?_
  show Lx l G b n xs 679 [(0, .ref b), (1, .ref (Gb G + 0)), (2, .ref (Gb G + 298)), (3, .int x)] [.int r, .int r] σ2
  refine Lx.icmp_eq (t := 888) rfl (by decide) dL_law_679 ?_
  exact k σ2 hI2
set_option maxRecDepth 100000 in
set_option maxHeartbeats 4000000 in
theorem law_c16 {I J : Sg → Prop} (H16 : ∀ a1 : Int32, Sim I J (f_X5_plans 0 a1) (f_X6_plans 298 a1)) {l : Launch} {G : Gt} {b n : Nat} {xs : Nat → Int32} {x : Int32} (h1 : inb (x + 1) n) (σ : Sg) (hI : I σ) (k : ∀ τ, J τ → Lx l G b n xs 888 [(0, .ref b), (1, .ref (Gb G + 0)), (2, .ref (Gb G + 298)), (3, .int x)] [] τ) : Lx l G b n xs 684 [(0, .ref b), (1, .ref (Gb G + 0)), (2, .ref (Gb G + 298)), (3, .int x)] [] σ := by
  obtain ⟨r, σ1, σ2, e1, e2, hI2⟩ := H16 (xs (ix (x + 1))) σ hI
  refine Lx.aload_n 1 rfl rfl dL_law_684 ?_
  refine Lx.aload_n 0 rfl rfl dL_law_685 ?_
  refine Lx.iload_n 3 rfl rfl dL_law_686 ?_
  refine Lx.iconst (v := 1) ic_1 rfl dL_law_687 ?_
  refine Lx.iadd rfl dL_law_688 ?_
  refine Lx.sld (h1) rfl dL_law_689 ?_
  refine Lx.callV (rv' := rI) (As := [.int (xs (ix (x + 1)))]) (rest := []) cv_L_82 (by decide) (by decide +kernel) (ct_X5_plans l G 0 (xs (ix (x + 1))) σ) e1 rfl rfl (Nat.le_of_ble_eq_true rfl) (by decide) (by decide) rfl dL_law_690 ?_
  show Lx l G b n xs 693 [(0, .ref b), (1, .ref (Gb G + 0)), (2, .ref (Gb G + 298)), (3, .int x)] [.int r] σ1
  refine Lx.aload_n 2 rfl rfl dL_law_693 ?_
  refine Lx.aload_n 0 rfl rfl dL_law_694 ?_
  refine Lx.iload_n 3 rfl rfl dL_law_695 ?_
  refine Lx.iconst (v := 1) ic_1 rfl dL_law_696 ?_
  refine Lx.iadd rfl dL_law_697 ?_
  refine Lx.sld (h1) rfl dL_law_698 ?_
  refine Lx.callV (rv' := rI) (As := [.int (xs (ix (x + 1)))]) (rest := [.int r]) cv_L_85 (by decide) (by decide +kernel) (ct_X6_plans l G 298 (xs (ix (x + 1))) σ1) e2 rfl rfl (Nat.le_of_ble_eq_true rfl) (by decide) (by decide) rfl dL_law_699 ?_
  show Lx l G b n xs 702 [(0, .ref b), (1, .ref (Gb G + 0)), (2, .ref (Gb G + 298)), (3, .int x)] [.int r, .int r] σ2
  refine Lx.icmp_eq (t := 888) rfl (by decide) dL_law_702 ?_
  exact k σ2 hI2
set_option maxRecDepth 100000 in
set_option maxHeartbeats 4000000 in
theorem law_c17 {I J : Sg → Prop} (H17 : Sim I J (f_X5_scraps 0 ) (f_X6_scraps 298 )) {l : Launch} {G : Gt} {b n : Nat} {xs : Nat → Int32} {x : Int32} (σ : Sg) (hI : I σ) (k : ∀ τ, J τ → Lx l G b n xs 888 [(0, .ref b), (1, .ref (Gb G + 0)), (2, .ref (Gb G + 298)), (3, .int x)] [] τ) : Lx l G b n xs 707 [(0, .ref b), (1, .ref (Gb G + 0)), (2, .ref (Gb G + 298)), (3, .int x)] [] σ := by
  obtain ⟨r, σ1, σ2, e1, e2, hI2⟩ := H17  σ hI
  refine Lx.aload_n 1 rfl rfl dL_law_707 ?_
  refine Lx.callV (rv' := rI) (As := []) (rest := []) cv_L_86 (by decide) (by decide +kernel) (ct_X5_scraps l G 0  σ) e1 rfl rfl (Nat.le_of_ble_eq_true rfl) (by decide) (by decide) rfl dL_law_708 ?_
  show Lx l G b n xs 711 [(0, .ref b), (1, .ref (Gb G + 0)), (2, .ref (Gb G + 298)), (3, .int x)] [.int r] σ1
  refine Lx.aload_n 2 rfl rfl dL_law_711 ?_
  refine Lx.callV (rv' := rI) (As := []) (rest := [.int r]) cv_L_89 (by decide) (by decide +kernel) (ct_X6_scraps l G 298  σ1) e2 rfl rfl (Nat.le_of_ble_eq_true rfl) (by decide) (by decide) rfl dL_law_712 ?_
  show Lx l G b n xs 715 [(0, .ref b), (1, .ref (Gb G + 0)), (2, .ref (Gb G + 298)), (3, .int x)] [.int r, .int r] σ2
  refine Lx.icmp_eq (t := 888) rfl (by decide) dL_law_715 ?_
  exact k σ2 hI2
set_option maxRecDepth 100000 in
set_option maxHeartbeats 4000000 in
theorem law_c18 {I J : Sg → Prop} (H18 : Sim I J (f_X5_judges 0 ) (f_X6_judges 298 )) {l : Launch} {G : Gt} {b n : Nat} {xs : Nat → Int32} {x : Int32} (σ : Sg) (hI : I σ) (k : ∀ τ, J τ → Lx l G b n xs 888 [(0, .ref b), (1, .ref (Gb G + 0)), (2, .ref (Gb G + 298)), (3, .int x)] [] τ) : Lx l G b n xs 720 [(0, .ref b), (1, .ref (Gb G + 0)), (2, .ref (Gb G + 298)), (3, .int x)] [] σ := by
  obtain ⟨r, σ1, σ2, e1, e2, hI2⟩ := H18  σ hI
  refine Lx.aload_n 1 rfl rfl dL_law_720 ?_
  refine Lx.callV (rv' := rI) (As := []) (rest := []) cv_L_90 (by decide) (by decide +kernel) (ct_X5_judges l G 0  σ) e1 rfl rfl (Nat.le_of_ble_eq_true rfl) (by decide) (by decide) rfl dL_law_721 ?_
  show Lx l G b n xs 724 [(0, .ref b), (1, .ref (Gb G + 0)), (2, .ref (Gb G + 298)), (3, .int x)] [.int r] σ1
  refine Lx.aload_n 2 rfl rfl dL_law_724 ?_
  refine Lx.callV (rv' := rI) (As := []) (rest := [.int r]) cv_L_93 (by decide) (by decide +kernel) (ct_X6_judges l G 298  σ1) e2 rfl rfl (Nat.le_of_ble_eq_true rfl) (by decide) (by decide) rfl dL_law_725 ?_
  show Lx l G b n xs 728 [(0, .ref b), (1, .ref (Gb G + 0)), (2, .ref (Gb G + 298)), (3, .int x)] [.int r, .int r] σ2
  refine Lx.icmp_eq (t := 888) rfl (by decide) dL_law_728 ?_
  exact k σ2 hI2
set_option maxRecDepth 100000 in
set_option maxHeartbeats 4000000 in
theorem law_c19 {I J : Sg → Prop} (H19 : ∀ a1 a2 : Int32, Sim I J (f_X5_planned 0 a1 a2) (f_X6_planned 298 a1 a2)) {l : Launch} {G : Gt} {b n : Nat} {xs : Nat → Int32} {x : Int32} (h1 : inb (x + 1) n) (h2 : inb (x + 2) n) (σ : Sg) (hI : I σ) (k : ∀ τ, J τ → Lx l G b n xs 888 [(0, .ref b), (1, .ref (Gb G + 0)), (2, .ref (Gb G + 298)), (3, .int x)] [] τ) : Lx l G b n xs 733 [(0, .ref b), (1, .ref (Gb G + 0)), (2, .ref (Gb G + 298)), (3, .int x)] [] σ := by
  obtain ⟨r, σ1, σ2, e1, e2, hI2⟩ := H19 (xs (ix (x + 1))) (xs (ix (x + 2))) σ hI
  refine Lx.aload_n 1 rfl rfl dL_law_733 ?_
  refine Lx.aload_n 0 rfl rfl dL_law_734 ?_
  refine Lx.iload_n 3 rfl rfl dL_law_735 ?_
  refine Lx.iconst (v := 1) ic_1 rfl dL_law_736 ?_
  refine Lx.iadd rfl dL_law_737 ?_
  refine Lx.sld (h1) rfl dL_law_738 ?_
  refine Lx.aload_n 0 rfl rfl dL_law_739 ?_
  refine Lx.iload_n 3 rfl rfl dL_law_740 ?_
  refine Lx.iconst (v := 2) ic_2 rfl dL_law_741 ?_
  refine Lx.iadd rfl dL_law_742 ?_
  refine Lx.sld (h2) rfl dL_law_743 ?_
  refine Lx.callV (rv' := rI) (As := [.int (xs (ix (x + 1))), .int (xs (ix (x + 2)))]) (rest := []) cv_L_94 (by decide) (by decide +kernel) (ct_X5_planned l G 0 (xs (ix (x + 1))) (xs (ix (x + 2))) σ) e1 rfl rfl (Nat.le_of_ble_eq_true rfl) (by decide) (by decide) rfl dL_law_744 ?_
  show Lx l G b n xs 747 [(0, .ref b), (1, .ref (Gb G + 0)), (2, .ref (Gb G + 298)), (3, .int x)] [.int r] σ1
  refine Lx.aload_n 2 rfl rfl dL_law_747 ?_
  refine Lx.aload_n 0 rfl rfl dL_law_748 ?_
  refine Lx.iload_n 3 rfl rfl dL_law_749 ?_
  refine Lx.iconst (v := 1) ic_1 rfl dL_law_750 ?_
  refine Lx.iadd rfl dL_law_751 ?_
  refine Lx.sld (h1) rfl dL_law_752 ?_
  refine Lx.aload_n 0 rfl rfl dL_law_753 ?_
  refine Lx.iload_n 3 rfl rfl dL_law_754 ?_
  refine Lx.iconst (v := 2) ic_2 rfl dL_law_755 ?_
  refine Lx.iadd rfl dL_law_756 ?_
  refine Lx.sld (h2) rfl dL_law_757 ?_
  refine Lx.callV (rv' := rI) (As := [.int (xs (ix (x + 1))), .int (xs (ix (x + 2)))]) (rest := [.int r]) cv_L_97 (by decide) (by decide +kernel) (ct_X6_planned l G 298 (xs (ix (x + 1))) (xs (ix (x + 2))) σ1) e2 rfl rfl (Nat.le_of_ble_eq_true rfl) (by decide) (by decide) rfl dL_law_758 ?_
  show Lx l G b n xs 761 [(0, .ref b), (1, .ref (Gb G + 0)), (2, .ref (Gb G + 298)), (3, .int x)] [.int r, .int r] σ2
  refine Lx.icmp_eq (t := 888) rfl (by decide) dL_law_761 ?_
  exact k σ2 hI2
set_option maxRecDepth 100000 in
set_option maxHeartbeats 4000000 in
theorem law_c20 {I J : Sg → Prop} (H20 : ∀ a1 : Int32, Sim I J (f_X5_count 0 a1) (f_X6_count 298 a1)) {l : Launch} {G : Gt} {b n : Nat} {xs : Nat → Int32} {x : Int32} (h1 : inb (x + 1) n) (σ : Sg) (hI : I σ) (k : ∀ τ, J τ → Lx l G b n xs 888 [(0, .ref b), (1, .ref (Gb G + 0)), (2, .ref (Gb G + 298)), (3, .int x)] [] τ) : Lx l G b n xs 766 [(0, .ref b), (1, .ref (Gb G + 0)), (2, .ref (Gb G + 298)), (3, .int x)] [] σ := by
  obtain ⟨r, σ1, σ2, e1, e2, hI2⟩ := H20 (xs (ix (x + 1))) σ hI
  refine Lx.aload_n 1 rfl rfl dL_law_766 ?_
  refine Lx.aload_n 0 rfl rfl dL_law_767 ?_
  refine Lx.iload_n 3 rfl rfl dL_law_768 ?_
  refine Lx.iconst (v := 1) ic_1 rfl dL_law_769 ?_
  refine Lx.iadd rfl dL_law_770 ?_
  refine Lx.sld (h1) rfl dL_law_771 ?_
  refine Lx.callV (rv' := rI) (As := [.int (xs (ix (x + 1)))]) (rest := []) cv_L_98 (by decide) (by decide +kernel) (ct_X5_count l G 0 (xs (ix (x + 1))) σ) e1 rfl rfl (Nat.le_of_ble_eq_true rfl) (by decide) (by decide) rfl dL_law_772 ?_
  show Lx l G b n xs 775 [(0, .ref b), (1, .ref (Gb G + 0)), (2, .ref (Gb G + 298)), (3, .int x)] [.int r] σ1
  refine Lx.aload_n 2 rfl rfl dL_law_775 ?_
  refine Lx.aload_n 0 rfl rfl dL_law_776 ?_
  refine Lx.iload_n 3 rfl rfl dL_law_777 ?_
  refine Lx.iconst (v := 1) ic_1 rfl dL_law_778 ?_
  refine Lx.iadd rfl dL_law_779 ?_
  refine Lx.sld (h1) rfl dL_law_780 ?_
  refine Lx.callV (rv' := rI) (As := [.int (xs (ix (x + 1)))]) (rest := [.int r]) cv_L_101 (by decide) (by decide +kernel) (ct_X6_count l G 298 (xs (ix (x + 1))) σ1) e2 rfl rfl (Nat.le_of_ble_eq_true rfl) (by decide) (by decide) rfl dL_law_781 ?_
  show Lx l G b n xs 784 [(0, .ref b), (1, .ref (Gb G + 0)), (2, .ref (Gb G + 298)), (3, .int x)] [.int r, .int r] σ2
  refine Lx.icmp_eq (t := 888) rfl (by decide) dL_law_784 ?_
  exact k σ2 hI2
set_option maxRecDepth 100000 in
set_option maxHeartbeats 4000000 in
theorem law_c21 {I J : Sg → Prop} (H21 : ∀ a1 : Int32, Sim I J (f_X5_type 0 a1) (f_X6_type 298 a1)) {l : Launch} {G : Gt} {b n : Nat} {xs : Nat → Int32} {x : Int32} (h1 : inb (x + 1) n) (σ : Sg) (hI : I σ) (k : ∀ τ, J τ → Lx l G b n xs 888 [(0, .ref b), (1, .ref (Gb G + 0)), (2, .ref (Gb G + 298)), (3, .int x)] [] τ) : Lx l G b n xs 789 [(0, .ref b), (1, .ref (Gb G + 0)), (2, .ref (Gb G + 298)), (3, .int x)] [] σ := by
  obtain ⟨r, σ1, σ2, e1, e2, hI2⟩ := H21 (xs (ix (x + 1))) σ hI
  refine Lx.aload_n 1 rfl rfl dL_law_789 ?_
  refine Lx.aload_n 0 rfl rfl dL_law_790 ?_
  refine Lx.iload_n 3 rfl rfl dL_law_791 ?_
  refine Lx.iconst (v := 1) ic_1 rfl dL_law_792 ?_
  refine Lx.iadd rfl dL_law_793 ?_
  refine Lx.sld (h1) rfl dL_law_794 ?_
  refine Lx.callV (rv' := rI) (As := [.int (xs (ix (x + 1)))]) (rest := []) cv_L_102 (by decide) (by decide +kernel) (ct_X5_type l G 0 (xs (ix (x + 1))) σ) e1 rfl rfl (Nat.le_of_ble_eq_true rfl) (by decide) (by decide) rfl dL_law_795 ?_
  show Lx l G b n xs 798 [(0, .ref b), (1, .ref (Gb G + 0)), (2, .ref (Gb G + 298)), (3, .int x)] [.int r] σ1
  refine Lx.aload_n 2 rfl rfl dL_law_798 ?_
  refine Lx.aload_n 0 rfl rfl dL_law_799 ?_
  refine Lx.iload_n 3 rfl rfl dL_law_800 ?_
  refine Lx.iconst (v := 1) ic_1 rfl dL_law_801 ?_
  refine Lx.iadd rfl dL_law_802 ?_
  refine Lx.sld (h1) rfl dL_law_803 ?_
  refine Lx.callV (rv' := rI) (As := [.int (xs (ix (x + 1)))]) (rest := [.int r]) cv_L_105 (by decide) (by decide +kernel) (ct_X6_type l G 298 (xs (ix (x + 1))) σ1) e2 rfl rfl (Nat.le_of_ble_eq_true rfl) (by decide) (by decide) rfl dL_law_804 ?_
  show Lx l G b n xs 807 [(0, .ref b), (1, .ref (Gb G + 0)), (2, .ref (Gb G + 298)), (3, .int x)] [.int r, .int r] σ2
  refine Lx.icmp_eq (t := 888) rfl (by decide) dL_law_807 ?_
  exact k σ2 hI2
set_option maxRecDepth 100000 in
set_option maxHeartbeats 4000000 in
theorem law_c22 {I J : Sg → Prop} (H22 : Sim I J (f_X5_clear 0 ) (f_X6_clear 298 )) {l : Launch} {G : Gt} {b n : Nat} {xs : Nat → Int32} {x : Int32} (σ : Sg) (hI : I σ) (k : ∀ τ, J τ → Lx l G b n xs 888 [(0, .ref b), (1, .ref (Gb G + 0)), (2, .ref (Gb G + 298)), (3, .int x)] [] τ) : Lx l G b n xs 812 [(0, .ref b), (1, .ref (Gb G + 0)), (2, .ref (Gb G + 298)), (3, .int x)] [] σ := by
  obtain ⟨r, σ1, σ2, e1, e2, hI2⟩ := H22  σ hI
  refine Lx.aload_n 1 rfl rfl dL_law_812 ?_
  refine Lx.callV (rv' := rI) (As := []) (rest := []) cv_L_106 (by decide) (by decide +kernel) (ct_X5_clear l G 0  σ) e1 rfl rfl (Nat.le_of_ble_eq_true rfl) (by decide) (by decide) rfl dL_law_813 ?_
  show Lx l G b n xs 816 [(0, .ref b), (1, .ref (Gb G + 0)), (2, .ref (Gb G + 298)), (3, .int x)] [.int r] σ1
  refine Lx.aload_n 2 rfl rfl dL_law_816 ?_
  refine Lx.callV (rv' := rI) (As := []) (rest := [.int r]) cv_L_109 (by decide) (by decide +kernel) (ct_X6_clear l G 298  σ1) e2 rfl rfl (Nat.le_of_ble_eq_true rfl) (by decide) (by decide) rfl dL_law_817 ?_
  show Lx l G b n xs 820 [(0, .ref b), (1, .ref (Gb G + 0)), (2, .ref (Gb G + 298)), (3, .int x)] [.int r, .int r] σ2
  refine Lx.icmp_eq (t := 888) rfl (by decide) dL_law_820 ?_
  exact k σ2 hI2
set_option maxRecDepth 100000 in
set_option maxHeartbeats 4000000 in
theorem law_c23 {I J : Sg → Prop} (H23 : Sim I J (f_X5_does 0 ) (f_X6_does 298 )) {l : Launch} {G : Gt} {b n : Nat} {xs : Nat → Int32} {x : Int32} (σ : Sg) (hI : I σ) (k : ∀ τ, J τ → Lx l G b n xs 888 [(0, .ref b), (1, .ref (Gb G + 0)), (2, .ref (Gb G + 298)), (3, .int x)] [] τ) : Lx l G b n xs 825 [(0, .ref b), (1, .ref (Gb G + 0)), (2, .ref (Gb G + 298)), (3, .int x)] [] σ := by
  obtain ⟨r, σ1, σ2, e1, e2, hI2⟩ := H23  σ hI
  refine Lx.aload_n 1 rfl rfl dL_law_825 ?_
  refine Lx.callV (rv' := rI) (As := []) (rest := []) cv_L_110 (by decide) (by decide +kernel) (ct_X5_does l G 0  σ) e1 rfl rfl (Nat.le_of_ble_eq_true rfl) (by decide) (by decide) rfl dL_law_826 ?_
  show Lx l G b n xs 829 [(0, .ref b), (1, .ref (Gb G + 0)), (2, .ref (Gb G + 298)), (3, .int x)] [.int r] σ1
  refine Lx.aload_n 2 rfl rfl dL_law_829 ?_
  refine Lx.callV (rv' := rI) (As := []) (rest := [.int r]) cv_L_113 (by decide) (by decide +kernel) (ct_X6_does l G 298  σ1) e2 rfl rfl (Nat.le_of_ble_eq_true rfl) (by decide) (by decide) rfl dL_law_830 ?_
  show Lx l G b n xs 833 [(0, .ref b), (1, .ref (Gb G + 0)), (2, .ref (Gb G + 298)), (3, .int x)] [.int r, .int r] σ2
  refine Lx.icmp_eq (t := 888) rfl (by decide) dL_law_833 ?_
  exact k σ2 hI2
set_option maxRecDepth 100000 in
set_option maxHeartbeats 4000000 in
theorem law_c24 {I J : Sg → Prop} (H24 : Sim I J (f_X5_back 0 ) (f_X6_back 298 )) {l : Launch} {G : Gt} {b n : Nat} {xs : Nat → Int32} {x : Int32} (σ : Sg) (hI : I σ) (k : ∀ τ, J τ → Lx l G b n xs 888 [(0, .ref b), (1, .ref (Gb G + 0)), (2, .ref (Gb G + 298)), (3, .int x)] [] τ) : Lx l G b n xs 838 [(0, .ref b), (1, .ref (Gb G + 0)), (2, .ref (Gb G + 298)), (3, .int x)] [] σ := by
  obtain ⟨r, σ1, σ2, e1, e2, hI2⟩ := H24  σ hI
  refine Lx.aload_n 1 rfl rfl dL_law_838 ?_
  refine Lx.callV (rv' := rI) (As := []) (rest := []) cv_L_114 (by decide) (by decide +kernel) (ct_X5_back l G 0  σ) e1 rfl rfl (Nat.le_of_ble_eq_true rfl) (by decide) (by decide) rfl dL_law_839 ?_
  show Lx l G b n xs 842 [(0, .ref b), (1, .ref (Gb G + 0)), (2, .ref (Gb G + 298)), (3, .int x)] [.int r] σ1
  refine Lx.aload_n 2 rfl rfl dL_law_842 ?_
  refine Lx.callV (rv' := rI) (As := []) (rest := [.int r]) cv_L_117 (by decide) (by decide +kernel) (ct_X6_back l G 298  σ1) e2 rfl rfl (Nat.le_of_ble_eq_true rfl) (by decide) (by decide) rfl dL_law_843 ?_
  show Lx l G b n xs 846 [(0, .ref b), (1, .ref (Gb G + 0)), (2, .ref (Gb G + 298)), (3, .int x)] [.int r, .int r] σ2
  refine Lx.icmp_eq (t := 888) rfl (by decide) dL_law_846 ?_
  exact k σ2 hI2
set_option maxRecDepth 100000 in
set_option maxHeartbeats 4000000 in
theorem law_c25 {I J : Sg → Prop} (H25 : ∀ a1 : Int32, Sim I J (f_X5_told 0 a1) (f_X6_told 298 a1)) {l : Launch} {G : Gt} {b n : Nat} {xs : Nat → Int32} {x : Int32} (h1 : inb (x + 1) n) (σ : Sg) (hI : I σ) (k : ∀ τ, J τ → Lx l G b n xs 888 [(0, .ref b), (1, .ref (Gb G + 0)), (2, .ref (Gb G + 298)), (3, .int x)] [] τ) : Lx l G b n xs 851 [(0, .ref b), (1, .ref (Gb G + 0)), (2, .ref (Gb G + 298)), (3, .int x)] [] σ := by
  obtain ⟨r, σ1, σ2, e1, e2, hI2⟩ := H25 (xs (ix (x + 1))) σ hI
  refine Lx.aload_n 1 rfl rfl dL_law_851 ?_
  refine Lx.aload_n 0 rfl rfl dL_law_852 ?_
  refine Lx.iload_n 3 rfl rfl dL_law_853 ?_
  refine Lx.iconst (v := 1) ic_1 rfl dL_law_854 ?_
  refine Lx.iadd rfl dL_law_855 ?_
  refine Lx.sld (h1) rfl dL_law_856 ?_
  refine Lx.callV (rv' := rI) (As := [.int (xs (ix (x + 1)))]) (rest := []) cv_L_118 (by decide) (by decide +kernel) (ct_X5_told l G 0 (xs (ix (x + 1))) σ) e1 rfl rfl (Nat.le_of_ble_eq_true rfl) (by decide) (by decide) rfl dL_law_857 ?_
  show Lx l G b n xs 860 [(0, .ref b), (1, .ref (Gb G + 0)), (2, .ref (Gb G + 298)), (3, .int x)] [.int r] σ1
  refine Lx.aload_n 2 rfl rfl dL_law_860 ?_
  refine Lx.aload_n 0 rfl rfl dL_law_861 ?_
  refine Lx.iload_n 3 rfl rfl dL_law_862 ?_
  refine Lx.iconst (v := 1) ic_1 rfl dL_law_863 ?_
  refine Lx.iadd rfl dL_law_864 ?_
  refine Lx.sld (h1) rfl dL_law_865 ?_
  refine Lx.callV (rv' := rI) (As := [.int (xs (ix (x + 1)))]) (rest := [.int r]) cv_L_121 (by decide) (by decide +kernel) (ct_X6_told l G 298 (xs (ix (x + 1))) σ1) e2 rfl rfl (Nat.le_of_ble_eq_true rfl) (by decide) (by decide) rfl dL_law_866 ?_
  show Lx l G b n xs 869 [(0, .ref b), (1, .ref (Gb G + 0)), (2, .ref (Gb G + 298)), (3, .int x)] [.int r, .int r] σ2
  refine Lx.icmp_eq (t := 888) rfl (by decide) dL_law_869 ?_
  exact k σ2 hI2
set_option maxRecDepth 100000 in
set_option maxHeartbeats 4000000 in
theorem law_c26 {I J : Sg → Prop} (H26 : Sim I J (f_X5_digest 0 ) (f_X6_digest 298 )) {l : Launch} {G : Gt} {b n : Nat} {xs : Nat → Int32} {x : Int32} (σ : Sg) (hI : I σ) (k : ∀ τ, J τ → Lx l G b n xs 888 [(0, .ref b), (1, .ref (Gb G + 0)), (2, .ref (Gb G + 298)), (3, .int x)] [] τ) : Lx l G b n xs 874 [(0, .ref b), (1, .ref (Gb G + 0)), (2, .ref (Gb G + 298)), (3, .int x)] [] σ := by
  obtain ⟨r, σ1, σ2, e1, e2, hI2⟩ := H26  σ hI
  refine Lx.aload_n 1 rfl rfl dL_law_874 ?_
  refine Lx.callV (rv' := rL) (As := []) (rest := []) cv_L_122 (by decide) (by decide +kernel) (ct_X5_digest l G 0  σ) e1 rfl rfl (Nat.le_of_ble_eq_true rfl) (by decide) (by decide) rfl dL_law_875 ?_
  show Lx l G b n xs 878 [(0, .ref b), (1, .ref (Gb G + 0)), (2, .ref (Gb G + 298)), (3, .int x)] [.long r] σ1
  refine Lx.aload_n 2 rfl rfl dL_law_878 ?_
  refine Lx.callV (rv' := rL) (As := []) (rest := [.long r]) cv_L_126 (by decide) (by decide +kernel) (ct_X6_digest l G 298  σ1) e2 rfl rfl (Nat.le_of_ble_eq_true rfl) (by decide) (by decide) rfl dL_law_879 ?_
  show Lx l G b n xs 882 [(0, .ref b), (1, .ref (Gb G + 0)), (2, .ref (Gb G + 298)), (3, .int x)] [.long r, .long r] σ2
  refine Lx.lcmp rfl dL_law_882 ?_
  refine Lx.if_eq (t := 888) (by simp [lg_cmp]) (by decide) dL_law_883 ?_
  exact k σ2 hI2
set_option maxRecDepth 100000 in
set_option maxHeartbeats 8000000 in
theorem law_loop {I : Nat → Sg → Prop} (mono : ∀ n σ, I n σ → I (n + 1) σ) (H0 : ∀ n, n < 600 → ∀ a1 a2 : Int32, Sim (I n) (I (n + 1)) (f_X5_dancer 0 a1 a2) (f_X6_dancer 298 a1 a2)) (H1 : ∀ n, n < 600 → Sim (I n) (I (n + 1)) (f_X5_call 0 ) (f_X6_call 298 )) (H2 : ∀ n, n < 600 → ∀ a1 a2 a3 : Int32, Sim (I n) (I (n + 1)) (f_X5_exchanges 0 a1 a2 a3) (f_X6_exchanges 298 a1 a2 a3)) (H3 : ∀ n, n < 600 → ∀ a1 a2 a3 : Int32, Sim (I n) (I (n + 1)) (f_X5_turns 0 a1 a2 a3) (f_X6_turns 298 a1 a2 a3)) (H4 : ∀ n, n < 600 → ∀ a1 a2 a3 : Int32, Sim (I n) (I (n + 1)) (f_X5_wants 0 a1 a2 a3) (f_X6_wants 298 a1 a2 a3)) (H5 : ∀ n, n < 600 → ∀ a1 a2 : Int32, Sim (I n) (I (n + 1)) (f_X5_joins 0 a1 a2) (f_X6_joins 298 a1 a2)) (H6 : ∀ n, n < 600 → ∀ a1 : Int32, Sim (I n) (I (n + 1)) (f_X5_backwards 0 a1) (f_X6_backwards 298 a1)) (H7 : ∀ n, n < 600 → ∀ a1 : Int32, Sim (I n) (I (n + 1)) (f_X5_gives 0 a1) (f_X6_gives 298 a1)) (H8 : ∀ n, n < 600 → Sim (I n) (I (n + 1)) (f_X5_home 0 ) (f_X6_home 298 )) (H9 : ∀ n, n < 600 → ∀ a1 a2 : Int32, Sim (I n) (I (n + 1)) (f_X5_of 0 a1 a2) (f_X6_of 298 a1 a2)) (H10 : ∀ n, n < 600 → ∀ a1 : Int32, Sim (I n) (I (n + 1)) (f_X5_on 0 a1) (f_X6_on 298 a1)) (H11 : ∀ n, n < 600 → ∀ a1 a2 a3 : Int32, Sim (I n) (I (n + 1)) (f_X5_at 0 a1 a2 a3) (f_X6_at 298 a1 a2 a3)) (H12 : ∀ n, n < 600 → ∀ a1 a2 : Int32, Sim (I n) (I (n + 1)) (f_X5_tells 0 a1 a2) (f_X6_tells 298 a1 a2)) (H13 : ∀ n, n < 600 → ∀ a1 a2 a3 : Int32, Sim (I n) (I (n + 1)) (f_X5_finds 0 a1 a2 a3) (f_X6_finds 298 a1 a2 a3)) (H14 : ∀ n, n < 600 → ∀ a1 a2 a3 a4 : Int32, Sim (I n) (I (n + 1)) (f_X5_found 0 a1 a2 a3 a4) (f_X6_found 298 a1 a2 a3 a4)) (H15 : ∀ n, n < 600 → ∀ a1 a2 : Int32, Sim (I n) (I (n + 1)) (f_X5_rows 0 a1 a2) (f_X6_rows 298 a1 a2)) (H16 : ∀ n, n < 600 → ∀ a1 : Int32, Sim (I n) (I (n + 1)) (f_X5_plans 0 a1) (f_X6_plans 298 a1)) (H17 : ∀ n, n < 600 → Sim (I n) (I (n + 1)) (f_X5_scraps 0 ) (f_X6_scraps 298 )) (H18 : ∀ n, n < 600 → Sim (I n) (I (n + 1)) (f_X5_judges 0 ) (f_X6_judges 298 )) (H19 : ∀ n, n < 600 → ∀ a1 a2 : Int32, Sim (I n) (I (n + 1)) (f_X5_planned 0 a1 a2) (f_X6_planned 298 a1 a2)) (H20 : ∀ n, n < 600 → ∀ a1 : Int32, Sim (I n) (I (n + 1)) (f_X5_count 0 a1) (f_X6_count 298 a1)) (H21 : ∀ n, n < 600 → ∀ a1 : Int32, Sim (I n) (I (n + 1)) (f_X5_type 0 a1) (f_X6_type 298 a1)) (H22 : ∀ n, n < 600 → Sim (I n) (I (n + 1)) (f_X5_clear 0 ) (f_X6_clear 298 )) (H23 : ∀ n, n < 600 → Sim (I n) (I (n + 1)) (f_X5_does 0 ) (f_X6_does 298 )) (H24 : ∀ n, n < 600 → Sim (I n) (I (n + 1)) (f_X5_back 0 ) (f_X6_back 298 )) (H25 : ∀ n, n < 600 → ∀ a1 : Int32, Sim (I n) (I (n + 1)) (f_X5_told 0 a1) (f_X6_told 298 a1)) (H26 : ∀ n, n < 600 → Sim (I n) (I (n + 1)) (f_X5_digest 0 ) (f_X6_digest 298 )) {l : Launch} {G : Gt} {b n : Nat} {xs : Nat → Int32} (hn : n ≤ 2560) : ∀ (f i : Nat) (σ : Sg), i ≤ n + 5 → n + 6 ≤ i + f → I (i / 5) σ → Lx l G b n xs 18 [(0, .ref b), (1, .ref (Gb G + 0)), (2, .ref (Gb G + 298)), (3, .int (nI i))] [] σ := by
  intro f
  induction f with
  | zero => intro i σ h1 h2; exact absurd h2 (by omega)
  | succ f ih =>
    intro i σ hi hf hI
    refine Lx.iload_n 3 rfl rfl dL_law_18 ?_
    refine Lx.aload_n 0 rfl rfl dL_law_19 ?_
    refine Lx.slen rfl dL_law_20 ?_
    refine Lx.iconst (v := 5) ic_5 rfl dL_law_21 ?_
    refine Lx.isub rfl dL_law_22 ?_
    refine Lx.icmp_gt (q := 26) (t := 894) rfl (by decide) dL_law_23 (fun hc => ?_) (fun hc => ?_)
    · refine Lx.iconst (v := 1) ic_1 rfl dL_law_894 ?_
      exact Lx.ret dL_law_895
    · have hle : i + 5 ≤ n := by
        rcases Nat.lt_or_ge n (i + 5) with q | q
        · exfalso
          apply hc
          rw [Int32.lt_iff_toInt_lt, show (5 : Int32) = nI 5 from rfl, pk_sub_toInt (by omega) (by omega), nI_toInt (by omega)]
          omega
        · exact q
      have hin : ∀ j : Nat, j < 5 → inb (nI i + nI j) n := fun j hj => by
        rw [nI_add]
        exact inb_of (vp_in_nI (by omega) (by omega))
      refine Lx.aload_n 0 rfl rfl dL_law_26 ?_
      refine Lx.iload_n 3 rfl rfl dL_law_27 ?_
      refine Lx.sld (inb_of (vp_in_nI (by omega) (by omega))) rfl dL_law_28 ?_
      refine Lx.bipush (v := 31) ib_31 rfl dL_law_29 ?_
      refine Lx.iand rfl dL_law_31 ?_
      generalize xs (ix (nI i)) &&& 31 = op
      have k : ∀ τ, I (i / 5 + 1) τ → Lx l G b n xs 888 [(0, .ref b), (1, .ref (Gb G + 0)), (2, .ref (Gb G + 298)), (3, .int (nI i))] [] τ := fun τ hτ => by
        refine Lx.iinc (v := nI (i + 5)) (L' := [(3, .int (nI (i + 5))), (0, .ref b), (1, .ref (Gb G + 0)), (2, .ref (Gb G + 298))]) 3 rfl ((ii_5 _).trans (nI_add i 5)) (by decide) rfl rfl dL_law_888 ?_
        refine Lx.goto (q := 18) (by decide) dL_law_891 ?_
        refine Lx.sub [1, 2, 3, 0] rfl ?_
        exact ih (i + 5) τ (by omega) (by omega) (by rw [show (i + 5) / 5 = i / 5 + 1 by omega]; exact hτ)
      by_cases c0 : op = 0
      · refine Lx.tsIn (off := 124) (t := 156) dL_law_32 0 c0 (by decide) (by decide) (by decide +kernel) (by decide) ?_
        exact law_c0 (H0 (i / 5) (by omega)) (hin 1 (by omega)) (hin 2 (by omega)) σ hI k
      by_cases c1 : op = 1
      · refine Lx.tsIn (off := 157) (t := 189) dL_law_32 1 c1 (by decide) (by decide) (by decide +kernel) (by decide) ?_
        exact law_c1 (H1 (i / 5) (by omega))  σ hI k
      by_cases c2 : op = 2
      · refine Lx.tsIn (off := 170) (t := 202) dL_law_32 2 c2 (by decide) (by decide) (by decide +kernel) (by decide) ?_
        exact law_c2 (H2 (i / 5) (by omega)) (hin 1 (by omega)) (hin 2 (by omega)) (hin 3 (by omega)) σ hI k
      by_cases c3 : op = 3
      · refine Lx.tsIn (off := 213) (t := 245) dL_law_32 3 c3 (by decide) (by decide) (by decide +kernel) (by decide) ?_
        exact law_c3 (H3 (i / 5) (by omega)) (hin 1 (by omega)) (hin 2 (by omega)) (hin 3 (by omega)) σ hI k
      by_cases c4 : op = 4
      · refine Lx.tsIn (off := 256) (t := 288) dL_law_32 4 c4 (by decide) (by decide) (by decide +kernel) (by decide) ?_
        exact law_c4 (H4 (i / 5) (by omega)) (hin 1 (by omega)) (hin 2 (by omega)) (hin 3 (by omega)) σ hI k
      by_cases c5 : op = 5
      · refine Lx.tsIn (off := 299) (t := 331) dL_law_32 5 c5 (by decide) (by decide) (by decide +kernel) (by decide) ?_
        exact law_c5 (H5 (i / 5) (by omega)) (hin 1 (by omega)) (hin 2 (by omega)) σ hI k
      by_cases c6 : op = 6
      · refine Lx.tsIn (off := 332) (t := 364) dL_law_32 6 c6 (by decide) (by decide) (by decide +kernel) (by decide) ?_
        exact law_c6 (H6 (i / 5) (by omega)) (hin 1 (by omega)) σ hI k
      by_cases c7 : op = 7
      · refine Lx.tsIn (off := 355) (t := 387) dL_law_32 7 c7 (by decide) (by decide) (by decide +kernel) (by decide) ?_
        exact law_c7 (H7 (i / 5) (by omega)) (hin 1 (by omega)) σ hI k
      by_cases c8 : op = 8
      · refine Lx.tsIn (off := 378) (t := 410) dL_law_32 8 c8 (by decide) (by decide) (by decide +kernel) (by decide) ?_
        exact law_c8 (H8 (i / 5) (by omega))  σ hI k
      by_cases c9 : op = 9
      · refine Lx.tsIn (off := 391) (t := 423) dL_law_32 9 c9 (by decide) (by decide) (by decide +kernel) (by decide) ?_
        exact law_c9 (H9 (i / 5) (by omega)) (hin 1 (by omega)) (hin 2 (by omega)) σ hI k
      by_cases c10 : op = 10
      · refine Lx.tsIn (off := 424) (t := 456) dL_law_32 10 c10 (by decide) (by decide) (by decide +kernel) (by decide) ?_
        exact law_c10 (H10 (i / 5) (by omega)) (hin 1 (by omega)) σ hI k
      by_cases c11 : op = 11
      · refine Lx.tsIn (off := 447) (t := 479) dL_law_32 11 c11 (by decide) (by decide) (by decide +kernel) (by decide) ?_
        exact law_c11 (H11 (i / 5) (by omega)) (hin 1 (by omega)) (hin 2 (by omega)) (hin 3 (by omega)) σ hI k
      by_cases c12 : op = 12
      · refine Lx.tsIn (off := 490) (t := 522) dL_law_32 12 c12 (by decide) (by decide) (by decide +kernel) (by decide) ?_
        exact law_c12 (H12 (i / 5) (by omega)) (hin 1 (by omega)) (hin 2 (by omega)) σ hI k
      by_cases c13 : op = 13
      · refine Lx.tsIn (off := 523) (t := 555) dL_law_32 13 c13 (by decide) (by decide) (by decide +kernel) (by decide) ?_
        exact law_c13 (H13 (i / 5) (by omega)) (hin 1 (by omega)) (hin 2 (by omega)) (hin 3 (by omega)) σ hI k
      by_cases c14 : op = 14
      · refine Lx.tsIn (off := 566) (t := 598) dL_law_32 14 c14 (by decide) (by decide) (by decide +kernel) (by decide) ?_
        exact law_c14 (H14 (i / 5) (by omega)) (hin 1 (by omega)) (hin 2 (by omega)) (hin 3 (by omega)) (hin 4 (by omega)) σ hI k
      by_cases c15 : op = 15
      · refine Lx.tsIn (off := 619) (t := 651) dL_law_32 15 c15 (by decide) (by decide) (by decide +kernel) (by decide) ?_
        exact law_c15 (H15 (i / 5) (by omega)) (hin 1 (by omega)) (hin 2 (by omega)) σ hI k
      by_cases c16 : op = 16
      · refine Lx.tsIn (off := 652) (t := 684) dL_law_32 16 c16 (by decide) (by decide) (by decide +kernel) (by decide) ?_
        exact law_c16 (H16 (i / 5) (by omega)) (hin 1 (by omega)) σ hI k
      by_cases c17 : op = 17
      · refine Lx.tsIn (off := 675) (t := 707) dL_law_32 17 c17 (by decide) (by decide) (by decide +kernel) (by decide) ?_
        exact law_c17 (H17 (i / 5) (by omega))  σ hI k
      by_cases c18 : op = 18
      · refine Lx.tsIn (off := 688) (t := 720) dL_law_32 18 c18 (by decide) (by decide) (by decide +kernel) (by decide) ?_
        exact law_c18 (H18 (i / 5) (by omega))  σ hI k
      by_cases c19 : op = 19
      · refine Lx.tsIn (off := 701) (t := 733) dL_law_32 19 c19 (by decide) (by decide) (by decide +kernel) (by decide) ?_
        exact law_c19 (H19 (i / 5) (by omega)) (hin 1 (by omega)) (hin 2 (by omega)) σ hI k
      by_cases c20 : op = 20
      · refine Lx.tsIn (off := 734) (t := 766) dL_law_32 20 c20 (by decide) (by decide) (by decide +kernel) (by decide) ?_
        exact law_c20 (H20 (i / 5) (by omega)) (hin 1 (by omega)) σ hI k
      by_cases c21 : op = 21
      · refine Lx.tsIn (off := 757) (t := 789) dL_law_32 21 c21 (by decide) (by decide) (by decide +kernel) (by decide) ?_
        exact law_c21 (H21 (i / 5) (by omega)) (hin 1 (by omega)) σ hI k
      by_cases c22 : op = 22
      · refine Lx.tsIn (off := 780) (t := 812) dL_law_32 22 c22 (by decide) (by decide) (by decide +kernel) (by decide) ?_
        exact law_c22 (H22 (i / 5) (by omega))  σ hI k
      by_cases c23 : op = 23
      · refine Lx.tsIn (off := 793) (t := 825) dL_law_32 23 c23 (by decide) (by decide) (by decide +kernel) (by decide) ?_
        exact law_c23 (H23 (i / 5) (by omega))  σ hI k
      by_cases c24 : op = 24
      · refine Lx.tsIn (off := 806) (t := 838) dL_law_32 24 c24 (by decide) (by decide) (by decide +kernel) (by decide) ?_
        exact law_c24 (H24 (i / 5) (by omega))  σ hI k
      by_cases c25 : op = 25
      · refine Lx.tsIn (off := 819) (t := 851) dL_law_32 25 c25 (by decide) (by decide) (by decide +kernel) (by decide) ?_
        exact law_c25 (H25 (i / 5) (by omega)) (hin 1 (by omega)) σ hI k
      by_cases c26 : op = 26
      · refine Lx.tsIn (off := 842) (t := 874) dL_law_32 26 c26 (by decide) (by decide) (by decide +kernel) (by decide) ?_
        exact law_c26 (H26 (i / 5) (by omega))  σ hI k
      refine Lx.tsOut (t := 888) dL_law_32 (ts_out (fun j h1 h2 => ?_)) (by decide) (k σ (mono _ _ hI))
      rcases (show j = 0 ∨ j = 1 ∨ j = 2 ∨ j = 3 ∨ j = 4 ∨ j = 5 ∨ j = 6 ∨ j = 7 ∨ j = 8 ∨ j = 9 ∨ j = 10 ∨ j = 11 ∨ j = 12 ∨ j = 13 ∨ j = 14 ∨ j = 15 ∨ j = 16 ∨ j = 17 ∨ j = 18 ∨ j = 19 ∨ j = 20 ∨ j = 21 ∨ j = 22 ∨ j = 23 ∨ j = 24 ∨ j = 25 ∨ j = 26 by omega) with rfl | rfl | rfl | rfl | rfl | rfl | rfl | rfl | rfl | rfl | rfl | rfl | rfl | rfl | rfl | rfl | rfl | rfl | rfl | rfl | rfl | rfl | rfl | rfl | rfl | rfl | rfl
      · exact ts_ne (v := 0) (by decide) c0
      · exact ts_ne (v := 1) (by decide) c1
      · exact ts_ne (v := 2) (by decide) c2
      · exact ts_ne (v := 3) (by decide) c3
      · exact ts_ne (v := 4) (by decide) c4
      · exact ts_ne (v := 5) (by decide) c5
      · exact ts_ne (v := 6) (by decide) c6
      · exact ts_ne (v := 7) (by decide) c7
      · exact ts_ne (v := 8) (by decide) c8
      · exact ts_ne (v := 9) (by decide) c9
      · exact ts_ne (v := 10) (by decide) c10
      · exact ts_ne (v := 11) (by decide) c11
      · exact ts_ne (v := 12) (by decide) c12
      · exact ts_ne (v := 13) (by decide) c13
      · exact ts_ne (v := 14) (by decide) c14
      · exact ts_ne (v := 15) (by decide) c15
      · exact ts_ne (v := 16) (by decide) c16
      · exact ts_ne (v := 17) (by decide) c17
      · exact ts_ne (v := 18) (by decide) c18
      · exact ts_ne (v := 19) (by decide) c19
      · exact ts_ne (v := 20) (by decide) c20
      · exact ts_ne (v := 21) (by decide) c21
      · exact ts_ne (v := 22) (by decide) c22
      · exact ts_ne (v := 23) (by decide) c23
      · exact ts_ne (v := 24) (by decide) c24
      · exact ts_ne (v := 25) (by decide) c25
      · exact ts_ne (v := 26) (by decide) c26
